/-! THE LAW'S LOOP -/
theorem sw43 (a : Int32) : (a.toInt < 0 ∨ 42 < a.toInt) ∨ ∃ n : Nat, n < 43 ∧ a = nI n := by
  rcases arg3 a (n := 43) (by omega) with q | ⟨-, q⟩ | ⟨j, q1, q2, -⟩
  · exact Or.inl (Or.inl (Int32.lt_iff_toInt_lt.mp q))
  · have q3 := Int32.le_iff_toInt_le.mp q
    have q4 : (nI 43).toInt = 43 := by decide
    rw [q4] at q3
    exact Or.inl (Or.inr (by omega))
  · exact Or.inr ⟨j, q1, q2⟩
theorem room_6 {i L : Nat} (hi2 : i < 2 ^ 30) (hL : L < 2 ^ 30) (h : ¬ nI L - 6 < nI i) : i + 5 < L := by
  rcases Nat.lt_or_ge (i + 5) L with q | q
  · exact q
  · exact absurd ((nI_sub_lt (a := L) (b := 6) (k := i) hL (by omega) (by omega)).mpr (by omega)) h
section LOO
variable {nm : String} {X : jX} {P : jP} {Mc Mm : jM} {Nc Nm : jN} {h : Nat → Int64} {k n : Nat} {E : State → Prop} {l0 : Launch} {A : aS} {t b Ls i : Nat} {xs : Nat → Int32}
theorem j_caseE {y : MethodName} {cc : ByteArray} {nL : Nat} {ret : Option FieldType} {rm : Room} {L0 : jL} {pc : Nat} {lo : List (Nat × Value)} {st : List Value} {M : jM} {N : jN} (o : jok X l0 y cc nL ret rm L0) {a : Int32} (v : Int32) {tgt : Nat} {dflt lo0 hi off : Int} {offs : Array Int} {len : Nat} (hd : decode cc pc = .ok (.tableswitch dflt lo0 hi offs, len)) (hv : (decide (v.toInt < lo0) || decide (hi < v.toInt) || !(offs[(v.toInt - lo0).toNat]? == some off)) = false) (ht : (pc : Int) + off = (tgt : Int)) (e : a = v) (kk : J X P M N k n E nL tgt lo st) : J X P M N k n E nL pc lo (.int a :: st) :=
  j_case o v hd hv ht (fun _ => kk) (fun z => absurd e z)
abbrev KN (X : jX) (t : Nat) (E : State → Prop) (b i : Nat) : Prop := ∀ (P' : jP) (Mb Mn : jM) (Nb Nn : jN) (g : Nat → Int64) (A' : aS) (k' n' : Nat), PM P' → wfX A' → GC P' Mb Nb A' (t + 1) → RelM Mn A' → k' ≤ 105 + 5 * t → n' ≤ 1170040 + 40 * t + 20726 * A'.1 2 → J X P' (cmb Mb Mn) (cmbN Nb Nn g) k' n' E 7 2070 (loL P' b i) []
set_option maxRecDepth 20000 in
theorem law_switch (o : jokL X l0 nm) (u : jUa X) (hfl : l0.stackTraces = false) (S : jSc X b Ls xs) (hP : PM P) (hG : GC P Mc Nc A t) (hX : wfX A) (ht : t < 600) (hM : RelM Mm A) (hi : i + 5 < Ls) (hL : Ls ≤ 3073) (K : KN X t E b i) (a : Int32) : J X P (cmb Mc Mm) (cmbN Nc Nm h) (100 + 5 * t) (1170000 + 40 * t + 20726 * A.1 2) E 7 50 (loL P b i) [.int a] := by
  have h6 : A.1 2 ≤ 6 := by
    have q := hG.1.num
    unfold wfNum at q
    omega
  have ht4 : t < 4000 := by omega
  have hk : 100 + 5 * t ≤ 601024 := by omega
  have hn : 1170000 + 40 * t + 20726 * A.1 2 ≤ 7293000 := by omega
  have K0 : KO X P A t (100 + 5 * t) (1170000 + 40 * t + 20726 * A.1 2) E b i := fun Mb Mn Nb Nn g A' e x c r => K P Mb Mn Nb Nn g A' _ _ hP x c r (by omega) (by rw [e]; omega)
  have K1 : KO X P A t (100 + 5 * t + 1) (1170000 + 40 * t + 20726 * A.1 2 + 6) E b i := fun Mb Mn Nb Nn g A' e x c r => K P Mb Mn Nb Nn g A' _ _ hP x c r (by omega) (by rw [e]; omega)
  rcases sw43 a with q | ⟨j, hj, e⟩
  · exact j_caseD o (tgt := 2070) dL_law_50 q (by decide) (K0 Mc Mm Nc Nm h A rfl hX hG.later hM)
  · have : j = 0 ∨ j = 1 ∨ j = 2 ∨ j = 3 ∨ j = 4 ∨ j = 5 ∨ j = 6 ∨ j = 7 ∨ j = 8 ∨ j = 9 ∨ j = 10 ∨ j = 11 ∨ j = 12 ∨ j = 13 ∨ j = 14 ∨ j = 15 ∨ j = 16 ∨ j = 17 ∨ j = 18 ∨ j = 19 ∨ j = 20 ∨ j = 21 ∨ j = 22 ∨ j = 23 ∨ j = 24 ∨ j = 25 ∨ j = 26 ∨ j = 27 ∨ j = 28 ∨ j = 29 ∨ j = 30 ∨ j = 31 ∨ j = 32 ∨ j = 33 ∨ j = 34 ∨ j = 35 ∨ j = 36 ∨ j = 37 ∨ j = 38 ∨ j = 39 ∨ j = 40 ∨ j = 41 ∨ j = 42 := by omega
    rcases this with rfl | rfl | rfl | rfl | rfl | rfl | rfl | rfl | rfl | rfl | rfl | rfl | rfl | rfl | rfl | rfl | rfl | rfl | rfl | rfl | rfl | rfl | rfl | rfl | rfl | rfl | rfl | rfl | rfl | rfl | rfl | rfl | rfl | rfl | rfl | rfl | rfl | rfl | rfl | rfl | rfl | rfl | rfl
    · refine j_caseE o (nI 0) (tgt := 236) (off := 186) dL_law_50 (by decide +kernel) (by decide) e ?_
      exact case_feed o S hG hX ht4 hM hi hL hk hn K0
    · refine j_caseE o (nI 1) (tgt := 309) (off := 259) dL_law_50 (by decide +kernel) (by decide) e ?_
      exact case_end o S hG hX ht4 hM hi hL hk hn K0
    · refine j_caseE o (nI 2) (tgt := 334) (off := 284) dL_law_50 (by decide +kernel) (by decide) e ?_
      exact case_fault o S hG hX ht4 hM hi hL hk hn K0
    · refine j_caseE o (nI 3) (tgt := 359) (off := 309) dL_law_50 (by decide +kernel) (by decide) e ?_
      obtain ⟨v, A2, hX2, h2, h1⟩ := text_jo hG hX ht4 (xs (i + 1))
      rcases h1 with ⟨e2, h1⟩ | ⟨e2, h1⟩
      · exact case_textS o S hP hG hi hL (by omega) (by omega) hX2 e2 h1 (fun sP Q hq => h2 sP Mm Q hM hq) (fun P' Mb Mn Nb Nn g A' p e x c r => K P' Mb Mn Nb Nn g A' _ _ p x c r (by omega) (by rw [e]; omega))
      · exact case_text o S hP hG hi hL (by omega) (by omega) hX2 e2 h1 (fun sP Q hq => h2 sP Mm Q hM hq) (fun P' Mb Mn Nb Nn g A' p e x c r => K P' Mb Mn Nb Nn g A' _ _ p x c r (by omega) (by rw [e]; omega))
    · refine j_caseE o (nI 4) (tgt := 384) (off := 334) dL_law_50 (by decide +kernel) (by decide) e ?_
      exact case_says o u hfl S hP hG hX hM hi hL (by omega) (by omega) K1
    · refine j_caseE o (nI 5) (tgt := 452) (off := 402) dL_law_50 (by decide +kernel) (by decide) e ?_
      exact case_clauses o S hG hX ht4 hM hi hL hk hn K0
    · refine j_caseE o (nI 6) (tgt := 489) (off := 439) dL_law_50 (by decide +kernel) (by decide) e ?_
      exact case_gap o S hG hX ht4 hM hi hL hk hn K0
    · refine j_caseE o (nI 7) (tgt := 538) (off := 488) dL_law_50 (by decide +kernel) (by decide) e ?_
      exact case_sure o S hG hX ht4 hM hi hL hk hn K0
    · refine j_caseE o (nI 8) (tgt := 587) (off := 537) dL_law_50 (by decide +kernel) (by decide) e ?_
      exact case_matters o S hG hX ht4 hM hi hL hk hn K0
    · refine j_caseE o (nI 9) (tgt := 624) (off := 574) dL_law_50 (by decide +kernel) (by decide) e ?_
      exact case_proof o S hG hX ht4 hM hi hL hk hn K0
    · refine j_caseE o (nI 10) (tgt := 661) (off := 611) dL_law_50 (by decide +kernel) (by decide) e ?_
      exact case_parts o S hG hX ht4 hM hi hL hk hn K0
    · refine j_caseE o (nI 11) (tgt := 710) (off := 660) dL_law_50 (by decide +kernel) (by decide) e ?_
      exact case_leads o u hfl S hP hG hX hM hi hL (by omega) (by omega) K1
    · refine j_caseE o (nI 12) (tgt := 778) (off := 728) dL_law_50 (by decide +kernel) (by decide) e ?_
      exact case_apart o S hG hX ht4 hM hi hL hk hn K0
    · refine j_caseE o (nI 13) (tgt := 827) (off := 777) dL_law_50 (by decide +kernel) (by decide) e ?_
      exact case_unlike o S hG hX ht4 hM hi hL hk hn K0
    · refine j_caseE o (nI 14) (tgt := 864) (off := 814) dL_law_50 (by decide +kernel) (by decide) e ?_
      exact case_spoiled o S hG hX ht4 hM hi hL hk hn K0
    · refine j_caseE o (nI 15) (tgt := 901) (off := 851) dL_law_50 (by decide +kernel) (by decide) e ?_
      exact case_unused o S hG hX ht4 hM hi hL hk hn K0
    · refine j_caseE o (nI 16) (tgt := 926) (off := 876) dL_law_50 (by decide +kernel) (by decide) e ?_
      exact case_set o S hG hX ht4 hM hi hL hk hn K0
    · refine j_caseE o (nI 17) (tgt := 975) (off := 925) dL_law_50 (by decide +kernel) (by decide) e ?_
      exact case_sort o S hG hX ht4 hM hi hL hk hn K0
    · refine j_caseE o (nI 18) (tgt := 1000) (off := 950) dL_law_50 (by decide +kernel) (by decide) e ?_
      exact case_chance o S hG hX ht4 hM hi hL hk hn K0
    · refine j_caseE o (nI 19) (tgt := 1049) (off := 999) dL_law_50 (by decide +kernel) (by decide) e ?_
      exact case_share o S hG hX ht4 hM hi hL hk hn K0
    · refine j_caseE o (nI 20) (tgt := 1087) (off := 1037) dL_law_50 (by decide +kernel) (by decide) e ?_
      exact case_mean o S hG hX ht4 hM hi hL hk hn K0
    · refine j_caseE o (nI 21) (tgt := 1149) (off := 1099) dL_law_50 (by decide +kernel) (by decide) e ?_
      exact case_worst o S hG hX ht4 hM hi hL hk hn K0
    · refine j_caseE o (nI 22) (tgt := 1210) (off := 1160) dL_law_50 (by decide +kernel) (by decide) e ?_
      exact case_best o S hG hX ht4 hM hi hL hk hn K0
    · refine j_caseE o (nI 23) (tgt := 1283) (off := 1233) dL_law_50 (by decide +kernel) (by decide) e ?_
      exact case_cost o S hG hX ht4 hM hi hL hk hn K0
    · refine j_caseE o (nI 24) (tgt := 1309) (off := 1259) dL_law_50 (by decide +kernel) (by decide) e ?_
      exact case_longest o S hG hX ht4 hM hi hL hk hn K0
    · refine j_caseE o (nI 25) (tgt := 1334) (off := 1284) dL_law_50 (by decide +kernel) (by decide) e ?_
      exact case_page o S hG hX ht4 hM hi hL hk hn K0
    · refine j_caseE o (nI 26) (tgt := 1359) (off := 1309) dL_law_50 (by decide +kernel) (by decide) e ?_
      exact case_tells o S hG hX ht4 hM hi hL hk hn K0
    · refine j_caseE o (nI 27) (tgt := 1396) (off := 1346) dL_law_50 (by decide +kernel) (by decide) e ?_
      exact case_off o S hG hX ht4 hM hi hL hk hn K0
    · refine j_caseE o (nI 28) (tgt := 1446) (off := 1396) dL_law_50 (by decide +kernel) (by decide) e ?_
      exact case_weak o S hG hX ht4 hM hi hL hk hn K0
    · refine j_caseE o (nI 29) (tgt := 1483) (off := 1433) dL_law_50 (by decide +kernel) (by decide) e ?_
      exact case_person o S hG hX ht4 hM hi hL hk hn K0
    · refine j_caseE o (nI 30) (tgt := 1552) (off := 1502) dL_law_50 (by decide +kernel) (by decide) e ?_
      exact case_mend o S hG hX ht4 hM hi hL hk hn K0
    · refine j_caseE o (nI 31) (tgt := 1589) (off := 1539) dL_law_50 (by decide +kernel) (by decide) e ?_
      exact case_swap o S hG hX ht4 hM hi hL hk hn K0
    · refine j_caseE o (nI 32) (tgt := 1626) (off := 1576) dL_law_50 (by decide +kernel) (by decide) e ?_
      exact case_chart o S hG hX ht4 hM hi hL hk hn K0
    · refine j_caseE o (nI 33) (tgt := 1675) (off := 1625) dL_law_50 (by decide +kernel) (by decide) e ?_
      exact case_least o S hG hX ht4 hM hi hL hk hn K0
    · refine j_caseE o (nI 34) (tgt := 1712) (off := 1662) dL_law_50 (by decide +kernel) (by decide) e ?_
      exact case_ruling o S hG hX ht4 hM hi hL hk hn K0
    · refine j_caseE o (nI 35) (tgt := 1749) (off := 1699) dL_law_50 (by decide +kernel) (by decide) e ?_
      exact case_against o S hG hX ht4 hM hi hL hk hn K0
    · refine j_caseE o (nI 36) (tgt := 1774) (off := 1724) dL_law_50 (by decide +kernel) (by decide) e ?_
      exact case_cure o S hG hX ht4 hM hi hL hk hn K0
    · refine j_caseE o (nI 37) (tgt := 1799) (off := 1749) dL_law_50 (by decide +kernel) (by decide) e ?_
      exact case_burden o S hG hX ht4 hM hi hL hk hn K0
    · refine j_caseE o (nI 38) (tgt := 1836) (off := 1786) dL_law_50 (by decide +kernel) (by decide) e ?_
      exact case_given o S hG hX ht4 hM hi hL hk hn K0
    · refine j_caseE o (nI 39) (tgt := 1897) (off := 1847) dL_law_50 (by decide +kernel) (by decide) e ?_
      exact case_office o S hG hX ht4 hM hi hL hk hn K0
    · refine j_caseE o (nI 40) (tgt := 1946) (off := 1896) dL_law_50 (by decide +kernel) (by decide) e ?_
      exact case_likely o S hG hX ht4 hM hi hL hk hn K0
    · refine j_caseE o (nI 41) (tgt := 1996) (off := 1946) dL_law_50 (by decide +kernel) (by decide) e ?_
      exact case_straight o S hG hX ht4 hM hi hL hk hn K0
    · refine j_caseE o (nI 42) (tgt := 2045) (off := 1995) dL_law_50 (by decide +kernel) (by decide) e ?_
      exact case_count o S hG hX ht4 hM hi hL hk hn K0
set_option maxRecDepth 20000 in
theorem law_loop (o : jokL X l0 nm) (u : jUa X) (hfl : l0.stackTraces = false) (S : jSc X b Ls xs) (hL : Ls ≤ 3073) (EN : ∀ (P : jP) (M : jM) (N : jN) (k n : Nat) (lo : List (Nat × Value)), k ≤ 601024 → n ≤ 7293000 → J X P M N k n E 7 2076 lo []) : ∀ (d t : Nat) (P : jP) (Mc Mm : jM) (Nc Nm : jN) (h : Nat → Int64) (A : aS), Ls ≤ 6 * t + d → t < 601 → PM P → GC P Mc Nc A t → wfX A → RelM Mm A → J X P (cmb Mc Mm) (cmbN Nc Nm h) (100 + 5 * t) (1170000 + 40 * t + 20726 * A.1 2) E 7 33 (loL P b (1 + 6 * t)) [] := by
  intro d
  induction d with
  | zero =>
    intro t P Mc Mm Nc Nm h A hd ht hP hG hX hM
    have h6 : A.1 2 ≤ 6 := by
      have q := hG.1.num
      unfold wfNum at q
      omega
    refine j_iload o dL_law_33 rfl ?_
    refine j_aload_n o dL_law_35 rfl ?_
    refine j_slen o S dL_law_36 ?_
    refine j_bipush o (v := 6) dL_law_37 rfl ?_
    refine j_isub o dL_law_39 ?_
    refine j_icmp_gt o (tgt := 2076) dL_law_40 (by decide) (fun _ => EN _ _ _ _ _ _ (by omega) (by omega)) (fun z => ?_)
    have := room_6 (by omega) (by omega) z
    omega
  | succ d ih =>
    intro t P Mc Mm Nc Nm h A hd ht hP hG hX hM
    have h6 : A.1 2 ≤ 6 := by
      have q := hG.1.num
      unfold wfNum at q
      omega
    refine j_iload o dL_law_33 rfl ?_
    refine j_aload_n o dL_law_35 rfl ?_
    refine j_slen o S dL_law_36 ?_
    refine j_bipush o (v := 6) dL_law_37 rfl ?_
    refine j_isub o dL_law_39 ?_
    refine j_icmp_gt o (tgt := 2076) dL_law_40 (by decide) (fun _ => EN _ _ _ _ _ _ (by omega) (by omega)) (fun z => ?_)
    have hi := room_6 (by omega) (by omega) z
    refine j_aload_n o dL_law_43 rfl ?_
    refine j_iload o dL_law_44 rfl ?_
    refine j_sld o S (vin (by omega) (by omega)) dL_law_46 ?_
    refine j_bipush o (v := 63) dL_law_47 rfl ?_
    refine j_iand o dL_law_49 ?_
    refine law_switch o u hfl S hP hG hX (by omega) hM hi hL (fun P' Mb Mn Nb Nn g A' k' n' p x c r hk hn => ?_) _
    refine j_iinc o (v := nI (1 + 6 * (t + 1))) (loL P' b (1 + 6 * (t + 1))) dL_law_2070 rfl (nI_add (1 + 6 * t) 6) (by decide) rfl ?_
    refine j_goto o (tgt := 33) dL_law_2073 (by decide) ?_
    refine j_widen (k' := 100 + 5 * (t + 1)) (n' := 1170000 + 40 * (t + 1) + 20726 * A'.1 2) (by omega) (by omega) ?_
    exact ih (t + 1) P' Mb Mn Nb Nn g A' (by omega) (by omega) p c x r
end LOO
