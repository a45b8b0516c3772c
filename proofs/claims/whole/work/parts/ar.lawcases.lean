/-! THE LAW'S CASES -/
abbrev loL (P : jP) (b i : Nat) : List (Nat × Value) := [(4, .int (nI i)), (0, .ref b), (1, .ref (P.1 1)), (2, .ref (P.1 1001)), (3, .ref (P.1 2000))]
section CAS
variable {nm : String} {X : jX} {P : jP} {Mc Mm : jM} {Nc Nm : jN} {h : Nat → Int64} {k n : Nat} {E : State → Prop} {l0 : Launch} {A : aS} {t b Ls i : Nat} {xs : Nat → Int32}
abbrev KO (X : jX) (P : jP) (A : aS) (t k n : Nat) (E : State → Prop) (b i : Nat) : Prop := ∀ (Mb Mn : jM) (Nb Nn : jN) (g : Nat → Int64) (A' : aS), A'.1 2 = A.1 2 → wfX A' → GC P Mb Nb A' (t + 1) → RelM Mn A' → J X P (cmb Mb Mn) (cmbN Nb Nn g) k n E 7 2070 (loL P b i) []
set_option maxRecDepth 20000 in
theorem case_feed (o : jokL X l0 nm) (S : jSc X b Ls xs) (hG : GC P Mc Nc A t) (hX : wfX A) (ht : t < 4000) (hM : RelM Mm A) (hi : i + 5 < Ls) (hL : Ls ≤ 3073) (hk : k ≤ 601024) (hn : n ≤ 7293000) (K : KO X P A t k n E b i) : J X P (cmb Mc Mm) (cmbN Nc Nm h) k n E 7 236 (loL P b i) [] := by
  obtain ⟨v, A2, e2, hX2, h1, h2⟩ := b_feed (Nm := Nm) l0 (sP := shP P) hG hX ht hM (xs (i + 1)) (xs (i + 2)) (xs (i + 3)) (xs (i + 4)) (xs (i + 5))
  refine j_aload_n o dL_law_236 rfl ?_
  refine j_arg o S 1 rfl rfl (by omega) hL dL_law_237 dL_law_238 dL_law_240 dL_law_241 dL_law_242 ?_
  refine j_arg o S 2 rfl rfl (by omega) hL dL_law_243 dL_law_244 dL_law_246 dL_law_247 dL_law_248 ?_
  refine j_arg o S 3 rfl rfl (by omega) hL dL_law_249 dL_law_250 dL_law_252 dL_law_253 dL_law_254 ?_
  refine j_arg o S 4 rfl rfl (by omega) hL dL_law_255 dL_law_256 dL_law_258 dL_law_259 dL_law_260 ?_
  refine j_arg o S 5 rfl rfl (by omega) hL dL_law_261 dL_law_262 dL_law_264 dL_law_265 dL_law_266 ?_
  refine j_cc o h1 dL_law_267 jc_L_30 jn_X11_feed rfl rfl hk hn rfl rfl (fun Mb Nb g1 => ?_)
  refine j_aload_n o dL_law_270 rfl ?_
  refine j_arg o S 1 rfl rfl (by omega) hL dL_law_271 dL_law_272 dL_law_274 dL_law_275 dL_law_276 ?_
  refine j_arg o S 2 rfl rfl (by omega) hL dL_law_277 dL_law_278 dL_law_280 dL_law_281 dL_law_282 ?_
  refine j_arg o S 3 rfl rfl (by omega) hL dL_law_283 dL_law_284 dL_law_286 dL_law_287 dL_law_288 ?_
  refine j_arg o S 4 rfl rfl (by omega) hL dL_law_289 dL_law_290 dL_law_292 dL_law_293 dL_law_294 ?_
  refine j_arg o S 5 rfl rfl (by omega) hL dL_law_295 dL_law_296 dL_law_298 dL_law_299 dL_law_300 ?_
  refine j_mc o h2 dL_law_301 jc_L_34 jn_X12_feed rfl rfl hk hn rfl rfl (fun Mn Nn g2 => ?_)
  exact j_icmp_eq o (tgt := 2070) dL_law_304 (by decide) (fun _ => K _ _ _ _ _ _ e2 hX2 g1 g2) (fun z => absurd rfl z)
set_option maxRecDepth 20000 in
theorem case_end (o : jokL X l0 nm) (S : jSc X b Ls xs) (hG : GC P Mc Nc A t) (hX : wfX A) (ht : t < 4000) (hM : RelM Mm A) (hi : i + 5 < Ls) (hL : Ls ≤ 3073) (hk : k ≤ 601024) (hn : n ≤ 7293000) (K : KO X P A t k n E b i) : J X P (cmb Mc Mm) (cmbN Nc Nm h) k n E 7 309 (loL P b i) [] := by
  obtain ⟨v, A2, e2, hX2, h1, h2⟩ := b_end (Nm := Nm) l0 (sP := shP P) hG hX ht hM (xs (i + 1))
  refine j_aload_n o dL_law_309 rfl ?_
  refine j_arg o S 1 rfl rfl (by omega) hL dL_law_310 dL_law_311 dL_law_313 dL_law_314 dL_law_315 ?_
  refine j_cc o h1 dL_law_316 jc_L_35 jn_X11_end rfl rfl hk hn rfl rfl (fun Mb Nb g1 => ?_)
  refine j_aload_n o dL_law_319 rfl ?_
  refine j_arg o S 1 rfl rfl (by omega) hL dL_law_320 dL_law_321 dL_law_323 dL_law_324 dL_law_325 ?_
  refine j_mc o h2 dL_law_326 jc_L_39 jn_X12_end rfl rfl hk hn rfl rfl (fun Mn Nn g2 => ?_)
  exact j_icmp_eq o (tgt := 2070) dL_law_329 (by decide) (fun _ => K _ _ _ _ _ _ e2 hX2 g1 g2) (fun z => absurd rfl z)
set_option maxRecDepth 20000 in
theorem case_fault (o : jokL X l0 nm) (S : jSc X b Ls xs) (hG : GC P Mc Nc A t) (hX : wfX A) (ht : t < 4000) (hM : RelM Mm A) (hi : i + 5 < Ls) (hL : Ls ≤ 3073) (hk : k ≤ 601024) (hn : n ≤ 7293000) (K : KO X P A t k n E b i) : J X P (cmb Mc Mm) (cmbN Nc Nm h) k n E 7 334 (loL P b i) [] := by
  obtain ⟨v, A2, e2, hX2, h1, h2⟩ := b_fault (Nm := Nm) l0 (sP := shP P) hG hX ht hM (xs (i + 1))
  refine j_aload_n o dL_law_334 rfl ?_
  refine j_arg o S 1 rfl rfl (by omega) hL dL_law_335 dL_law_336 dL_law_338 dL_law_339 dL_law_340 ?_
  refine j_cc o h1 dL_law_341 jc_L_40 jn_X11_fault rfl rfl hk hn rfl rfl (fun Mb Nb g1 => ?_)
  refine j_aload_n o dL_law_344 rfl ?_
  refine j_arg o S 1 rfl rfl (by omega) hL dL_law_345 dL_law_346 dL_law_348 dL_law_349 dL_law_350 ?_
  refine j_mc o h2 dL_law_351 jc_L_44 jn_X12_fault rfl rfl hk hn rfl rfl (fun Mn Nn g2 => ?_)
  exact j_icmp_eq o (tgt := 2070) dL_law_354 (by decide) (fun _ => K _ _ _ _ _ _ e2 hX2 g1 g2) (fun z => absurd rfl z)
set_option maxRecDepth 20000 in
theorem case_clauses (o : jokL X l0 nm) (S : jSc X b Ls xs) (hG : GC P Mc Nc A t) (hX : wfX A) (ht : t < 4000) (hM : RelM Mm A) (hi : i + 5 < Ls) (hL : Ls ≤ 3073) (hk : k ≤ 601024) (hn : n ≤ 7293000) (K : KO X P A t k n E b i) : J X P (cmb Mc Mm) (cmbN Nc Nm h) k n E 7 452 (loL P b i) [] := by
  obtain ⟨v, A2, e2, hX2, h1, h2⟩ := b_clauses (Nm := Nm) l0 (sP := shP P) hG hX ht hM (xs (i + 1)) (xs (i + 2))
  refine j_aload_n o dL_law_452 rfl ?_
  refine j_arg o S 1 rfl rfl (by omega) hL dL_law_453 dL_law_454 dL_law_456 dL_law_457 dL_law_458 ?_
  refine j_arg o S 2 rfl rfl (by omega) hL dL_law_459 dL_law_460 dL_law_462 dL_law_463 dL_law_464 ?_
  refine j_cc o h1 dL_law_465 jc_L_57 jn_X11_clauses rfl rfl hk hn rfl rfl (fun Mb Nb g1 => ?_)
  refine j_aload_n o dL_law_468 rfl ?_
  refine j_arg o S 1 rfl rfl (by omega) hL dL_law_469 dL_law_470 dL_law_472 dL_law_473 dL_law_474 ?_
  refine j_arg o S 2 rfl rfl (by omega) hL dL_law_475 dL_law_476 dL_law_478 dL_law_479 dL_law_480 ?_
  refine j_mc o h2 dL_law_481 jc_L_60 jn_X12_clauses rfl rfl hk hn rfl rfl (fun Mn Nn g2 => ?_)
  exact j_icmp_eq o (tgt := 2070) dL_law_484 (by decide) (fun _ => K _ _ _ _ _ _ e2 hX2 g1 g2) (fun z => absurd rfl z)
set_option maxRecDepth 20000 in
theorem case_gap (o : jokL X l0 nm) (S : jSc X b Ls xs) (hG : GC P Mc Nc A t) (hX : wfX A) (ht : t < 4000) (hM : RelM Mm A) (hi : i + 5 < Ls) (hL : Ls ≤ 3073) (hk : k ≤ 601024) (hn : n ≤ 7293000) (K : KO X P A t k n E b i) : J X P (cmb Mc Mm) (cmbN Nc Nm h) k n E 7 489 (loL P b i) [] := by
  obtain ⟨v, A2, e2, hX2, h1, h2⟩ := b_gap (Nm := Nm) l0 (sP := shP P) hG hX ht hM (xs (i + 1)) (xs (i + 2)) (xs (i + 3))
  refine j_aload_n o dL_law_489 rfl ?_
  refine j_arg o S 1 rfl rfl (by omega) hL dL_law_490 dL_law_491 dL_law_493 dL_law_494 dL_law_495 ?_
  refine j_arg o S 2 rfl rfl (by omega) hL dL_law_496 dL_law_497 dL_law_499 dL_law_500 dL_law_501 ?_
  refine j_arg o S 3 rfl rfl (by omega) hL dL_law_502 dL_law_503 dL_law_505 dL_law_506 dL_law_507 ?_
  refine j_cc o h1 dL_law_508 jc_L_61 jn_X11_gap rfl rfl hk hn rfl rfl (fun Mb Nb g1 => ?_)
  refine j_aload_n o dL_law_511 rfl ?_
  refine j_arg o S 1 rfl rfl (by omega) hL dL_law_512 dL_law_513 dL_law_515 dL_law_516 dL_law_517 ?_
  refine j_arg o S 2 rfl rfl (by omega) hL dL_law_518 dL_law_519 dL_law_521 dL_law_522 dL_law_523 ?_
  refine j_arg o S 3 rfl rfl (by omega) hL dL_law_524 dL_law_525 dL_law_527 dL_law_528 dL_law_529 ?_
  refine j_mc o h2 dL_law_530 jc_L_65 jn_X12_gap rfl rfl hk hn rfl rfl (fun Mn Nn g2 => ?_)
  exact j_icmp_eq o (tgt := 2070) dL_law_533 (by decide) (fun _ => K _ _ _ _ _ _ e2 hX2 g1 g2) (fun z => absurd rfl z)
set_option maxRecDepth 20000 in
theorem case_sure (o : jokL X l0 nm) (S : jSc X b Ls xs) (hG : GC P Mc Nc A t) (hX : wfX A) (ht : t < 4000) (hM : RelM Mm A) (hi : i + 5 < Ls) (hL : Ls ≤ 3073) (hk : k ≤ 601024) (hn : n ≤ 7293000) (K : KO X P A t k n E b i) : J X P (cmb Mc Mm) (cmbN Nc Nm h) k n E 7 538 (loL P b i) [] := by
  obtain ⟨v, A2, e2, hX2, h1, h2⟩ := b_sure (Nm := Nm) l0 (sP := shP P) hG hX ht hM (xs (i + 1)) (xs (i + 2)) (xs (i + 3))
  refine j_aload_n o dL_law_538 rfl ?_
  refine j_arg o S 1 rfl rfl (by omega) hL dL_law_539 dL_law_540 dL_law_542 dL_law_543 dL_law_544 ?_
  refine j_arg o S 2 rfl rfl (by omega) hL dL_law_545 dL_law_546 dL_law_548 dL_law_549 dL_law_550 ?_
  refine j_arg o S 3 rfl rfl (by omega) hL dL_law_551 dL_law_552 dL_law_554 dL_law_555 dL_law_556 ?_
  refine j_cc o h1 dL_law_557 jc_L_66 jn_X11_sure rfl rfl hk hn rfl rfl (fun Mb Nb g1 => ?_)
  refine j_aload_n o dL_law_560 rfl ?_
  refine j_arg o S 1 rfl rfl (by omega) hL dL_law_561 dL_law_562 dL_law_564 dL_law_565 dL_law_566 ?_
  refine j_arg o S 2 rfl rfl (by omega) hL dL_law_567 dL_law_568 dL_law_570 dL_law_571 dL_law_572 ?_
  refine j_arg o S 3 rfl rfl (by omega) hL dL_law_573 dL_law_574 dL_law_576 dL_law_577 dL_law_578 ?_
  refine j_mc o h2 dL_law_579 jc_L_69 jn_X12_sure rfl rfl hk hn rfl rfl (fun Mn Nn g2 => ?_)
  exact j_icmp_eq o (tgt := 2070) dL_law_582 (by decide) (fun _ => K _ _ _ _ _ _ e2 hX2 g1 g2) (fun z => absurd rfl z)
set_option maxRecDepth 20000 in
theorem case_matters (o : jokL X l0 nm) (S : jSc X b Ls xs) (hG : GC P Mc Nc A t) (hX : wfX A) (ht : t < 4000) (hM : RelM Mm A) (hi : i + 5 < Ls) (hL : Ls ≤ 3073) (hk : k ≤ 601024) (hn : n ≤ 7293000) (K : KO X P A t k n E b i) : J X P (cmb Mc Mm) (cmbN Nc Nm h) k n E 7 587 (loL P b i) [] := by
  obtain ⟨v, A2, e2, hX2, h1, h2⟩ := b_matters (Nm := Nm) l0 (sP := shP P) hG hX ht hM (xs (i + 1)) (xs (i + 2))
  refine j_aload_n o dL_law_587 rfl ?_
  refine j_arg o S 1 rfl rfl (by omega) hL dL_law_588 dL_law_589 dL_law_591 dL_law_592 dL_law_593 ?_
  refine j_arg o S 2 rfl rfl (by omega) hL dL_law_594 dL_law_595 dL_law_597 dL_law_598 dL_law_599 ?_
  refine j_cc o h1 dL_law_600 jc_L_70 jn_X11_matters rfl rfl hk hn rfl rfl (fun Mb Nb g1 => ?_)
  refine j_aload_n o dL_law_603 rfl ?_
  refine j_arg o S 1 rfl rfl (by omega) hL dL_law_604 dL_law_605 dL_law_607 dL_law_608 dL_law_609 ?_
  refine j_arg o S 2 rfl rfl (by omega) hL dL_law_610 dL_law_611 dL_law_613 dL_law_614 dL_law_615 ?_
  refine j_mc o h2 dL_law_616 jc_L_73 jn_X12_matters rfl rfl hk hn rfl rfl (fun Mn Nn g2 => ?_)
  exact j_icmp_eq o (tgt := 2070) dL_law_619 (by decide) (fun _ => K _ _ _ _ _ _ e2 hX2 g1 g2) (fun z => absurd rfl z)
set_option maxRecDepth 20000 in
theorem case_proof (o : jokL X l0 nm) (S : jSc X b Ls xs) (hG : GC P Mc Nc A t) (hX : wfX A) (ht : t < 4000) (hM : RelM Mm A) (hi : i + 5 < Ls) (hL : Ls ≤ 3073) (hk : k ≤ 601024) (hn : n ≤ 7293000) (K : KO X P A t k n E b i) : J X P (cmb Mc Mm) (cmbN Nc Nm h) k n E 7 624 (loL P b i) [] := by
  obtain ⟨v, A2, e2, hX2, h1, h2⟩ := b_proof (Nm := Nm) l0 (sP := shP P) hG hX ht hM (xs (i + 1)) (xs (i + 2))
  refine j_aload_n o dL_law_624 rfl ?_
  refine j_arg o S 1 rfl rfl (by omega) hL dL_law_625 dL_law_626 dL_law_628 dL_law_629 dL_law_630 ?_
  refine j_arg o S 2 rfl rfl (by omega) hL dL_law_631 dL_law_632 dL_law_634 dL_law_635 dL_law_636 ?_
  refine j_cc o h1 dL_law_637 jc_L_74 jn_X11_proof rfl rfl hk hn rfl rfl (fun Mb Nb g1 => ?_)
  refine j_aload_n o dL_law_640 rfl ?_
  refine j_arg o S 1 rfl rfl (by omega) hL dL_law_641 dL_law_642 dL_law_644 dL_law_645 dL_law_646 ?_
  refine j_arg o S 2 rfl rfl (by omega) hL dL_law_647 dL_law_648 dL_law_650 dL_law_651 dL_law_652 ?_
  refine j_mc o h2 dL_law_653 jc_L_77 jn_X12_proof rfl rfl hk hn rfl rfl (fun Mn Nn g2 => ?_)
  exact j_icmp_eq o (tgt := 2070) dL_law_656 (by decide) (fun _ => K _ _ _ _ _ _ e2 hX2 g1 g2) (fun z => absurd rfl z)
set_option maxRecDepth 20000 in
theorem case_parts (o : jokL X l0 nm) (S : jSc X b Ls xs) (hG : GC P Mc Nc A t) (hX : wfX A) (ht : t < 4000) (hM : RelM Mm A) (hi : i + 5 < Ls) (hL : Ls ≤ 3073) (hk : k ≤ 601024) (hn : n ≤ 7293000) (K : KO X P A t k n E b i) : J X P (cmb Mc Mm) (cmbN Nc Nm h) k n E 7 661 (loL P b i) [] := by
  obtain ⟨v, A2, e2, hX2, h1, h2⟩ := b_parts (Nm := Nm) l0 (sP := shP P) hG hX ht hM (xs (i + 1)) (xs (i + 2)) (xs (i + 3))
  refine j_aload_n o dL_law_661 rfl ?_
  refine j_arg o S 1 rfl rfl (by omega) hL dL_law_662 dL_law_663 dL_law_665 dL_law_666 dL_law_667 ?_
  refine j_arg o S 2 rfl rfl (by omega) hL dL_law_668 dL_law_669 dL_law_671 dL_law_672 dL_law_673 ?_
  refine j_arg o S 3 rfl rfl (by omega) hL dL_law_674 dL_law_675 dL_law_677 dL_law_678 dL_law_679 ?_
  refine j_cc o h1 dL_law_680 jc_L_78 jn_X11_parts rfl rfl hk hn rfl rfl (fun Mb Nb g1 => ?_)
  refine j_aload_n o dL_law_683 rfl ?_
  refine j_arg o S 1 rfl rfl (by omega) hL dL_law_684 dL_law_685 dL_law_687 dL_law_688 dL_law_689 ?_
  refine j_arg o S 2 rfl rfl (by omega) hL dL_law_690 dL_law_691 dL_law_693 dL_law_694 dL_law_695 ?_
  refine j_arg o S 3 rfl rfl (by omega) hL dL_law_696 dL_law_697 dL_law_699 dL_law_700 dL_law_701 ?_
  refine j_mc o h2 dL_law_702 jc_L_81 jn_X12_parts rfl rfl hk hn rfl rfl (fun Mn Nn g2 => ?_)
  exact j_icmp_eq o (tgt := 2070) dL_law_705 (by decide) (fun _ => K _ _ _ _ _ _ e2 hX2 g1 g2) (fun z => absurd rfl z)
set_option maxRecDepth 20000 in
theorem case_apart (o : jokL X l0 nm) (S : jSc X b Ls xs) (hG : GC P Mc Nc A t) (hX : wfX A) (ht : t < 4000) (hM : RelM Mm A) (hi : i + 5 < Ls) (hL : Ls ≤ 3073) (hk : k ≤ 601024) (hn : n ≤ 7293000) (K : KO X P A t k n E b i) : J X P (cmb Mc Mm) (cmbN Nc Nm h) k n E 7 778 (loL P b i) [] := by
  obtain ⟨v, A2, e2, hX2, h1, h2⟩ := b_apart (Nm := Nm) l0 (sP := shP P) hG hX ht hM (xs (i + 1)) (xs (i + 2)) (xs (i + 3))
  refine j_aload_n o dL_law_778 rfl ?_
  refine j_arg o S 1 rfl rfl (by omega) hL dL_law_779 dL_law_780 dL_law_782 dL_law_783 dL_law_784 ?_
  refine j_arg o S 2 rfl rfl (by omega) hL dL_law_785 dL_law_786 dL_law_788 dL_law_789 dL_law_790 ?_
  refine j_arg o S 3 rfl rfl (by omega) hL dL_law_791 dL_law_792 dL_law_794 dL_law_795 dL_law_796 ?_
  refine j_cc o h1 dL_law_797 jc_L_85 jn_X11_apart rfl rfl hk hn rfl rfl (fun Mb Nb g1 => ?_)
  refine j_aload_n o dL_law_800 rfl ?_
  refine j_arg o S 1 rfl rfl (by omega) hL dL_law_801 dL_law_802 dL_law_804 dL_law_805 dL_law_806 ?_
  refine j_arg o S 2 rfl rfl (by omega) hL dL_law_807 dL_law_808 dL_law_810 dL_law_811 dL_law_812 ?_
  refine j_arg o S 3 rfl rfl (by omega) hL dL_law_813 dL_law_814 dL_law_816 dL_law_817 dL_law_818 ?_
  refine j_mc o h2 dL_law_819 jc_L_88 jn_X12_apart rfl rfl hk hn rfl rfl (fun Mn Nn g2 => ?_)
  exact j_icmp_eq o (tgt := 2070) dL_law_822 (by decide) (fun _ => K _ _ _ _ _ _ e2 hX2 g1 g2) (fun z => absurd rfl z)
set_option maxRecDepth 20000 in
theorem case_unlike (o : jokL X l0 nm) (S : jSc X b Ls xs) (hG : GC P Mc Nc A t) (hX : wfX A) (ht : t < 4000) (hM : RelM Mm A) (hi : i + 5 < Ls) (hL : Ls ≤ 3073) (hk : k ≤ 601024) (hn : n ≤ 7293000) (K : KO X P A t k n E b i) : J X P (cmb Mc Mm) (cmbN Nc Nm h) k n E 7 827 (loL P b i) [] := by
  obtain ⟨v, A2, e2, hX2, h1, h2⟩ := b_unlike (Nm := Nm) l0 (sP := shP P) hG hX ht hM (xs (i + 1)) (xs (i + 2))
  refine j_aload_n o dL_law_827 rfl ?_
  refine j_arg o S 1 rfl rfl (by omega) hL dL_law_828 dL_law_829 dL_law_831 dL_law_832 dL_law_833 ?_
  refine j_arg o S 2 rfl rfl (by omega) hL dL_law_834 dL_law_835 dL_law_837 dL_law_838 dL_law_839 ?_
  refine j_cc o h1 dL_law_840 jc_L_89 jn_X11_unlike rfl rfl hk hn rfl rfl (fun Mb Nb g1 => ?_)
  refine j_aload_n o dL_law_843 rfl ?_
  refine j_arg o S 1 rfl rfl (by omega) hL dL_law_844 dL_law_845 dL_law_847 dL_law_848 dL_law_849 ?_
  refine j_arg o S 2 rfl rfl (by omega) hL dL_law_850 dL_law_851 dL_law_853 dL_law_854 dL_law_855 ?_
  refine j_mc o h2 dL_law_856 jc_L_92 jn_X12_unlike rfl rfl hk hn rfl rfl (fun Mn Nn g2 => ?_)
  exact j_icmp_eq o (tgt := 2070) dL_law_859 (by decide) (fun _ => K _ _ _ _ _ _ e2 hX2 g1 g2) (fun z => absurd rfl z)
set_option maxRecDepth 20000 in
theorem case_spoiled (o : jokL X l0 nm) (S : jSc X b Ls xs) (hG : GC P Mc Nc A t) (hX : wfX A) (ht : t < 4000) (hM : RelM Mm A) (hi : i + 5 < Ls) (hL : Ls ≤ 3073) (hk : k ≤ 601024) (hn : n ≤ 7293000) (K : KO X P A t k n E b i) : J X P (cmb Mc Mm) (cmbN Nc Nm h) k n E 7 864 (loL P b i) [] := by
  obtain ⟨v, A2, e2, hX2, h1, h2⟩ := b_spoiled (Nm := Nm) l0 (sP := shP P) hG hX ht hM (xs (i + 1)) (xs (i + 2))
  refine j_aload_n o dL_law_864 rfl ?_
  refine j_arg o S 1 rfl rfl (by omega) hL dL_law_865 dL_law_866 dL_law_868 dL_law_869 dL_law_870 ?_
  refine j_arg o S 2 rfl rfl (by omega) hL dL_law_871 dL_law_872 dL_law_874 dL_law_875 dL_law_876 ?_
  refine j_cc o h1 dL_law_877 jc_L_93 jn_X11_spoiled rfl rfl hk hn rfl rfl (fun Mb Nb g1 => ?_)
  refine j_aload_n o dL_law_880 rfl ?_
  refine j_arg o S 1 rfl rfl (by omega) hL dL_law_881 dL_law_882 dL_law_884 dL_law_885 dL_law_886 ?_
  refine j_arg o S 2 rfl rfl (by omega) hL dL_law_887 dL_law_888 dL_law_890 dL_law_891 dL_law_892 ?_
  refine j_mc o h2 dL_law_893 jc_L_96 jn_X12_spoiled rfl rfl hk hn rfl rfl (fun Mn Nn g2 => ?_)
  exact j_icmp_eq o (tgt := 2070) dL_law_896 (by decide) (fun _ => K _ _ _ _ _ _ e2 hX2 g1 g2) (fun z => absurd rfl z)
set_option maxRecDepth 20000 in
theorem case_unused (o : jokL X l0 nm) (S : jSc X b Ls xs) (hG : GC P Mc Nc A t) (hX : wfX A) (ht : t < 4000) (hM : RelM Mm A) (hi : i + 5 < Ls) (hL : Ls ≤ 3073) (hk : k ≤ 601024) (hn : n ≤ 7293000) (K : KO X P A t k n E b i) : J X P (cmb Mc Mm) (cmbN Nc Nm h) k n E 7 901 (loL P b i) [] := by
  obtain ⟨v, A2, e2, hX2, h1, h2⟩ := b_unused (Nm := Nm) l0 (sP := shP P) hG hX ht hM (xs (i + 1))
  refine j_aload_n o dL_law_901 rfl ?_
  refine j_arg o S 1 rfl rfl (by omega) hL dL_law_902 dL_law_903 dL_law_905 dL_law_906 dL_law_907 ?_
  refine j_cc o h1 dL_law_908 jc_L_97 jn_X11_unused rfl rfl hk hn rfl rfl (fun Mb Nb g1 => ?_)
  refine j_aload_n o dL_law_911 rfl ?_
  refine j_arg o S 1 rfl rfl (by omega) hL dL_law_912 dL_law_913 dL_law_915 dL_law_916 dL_law_917 ?_
  refine j_mc o h2 dL_law_918 jc_L_100 jn_X12_unused rfl rfl hk hn rfl rfl (fun Mn Nn g2 => ?_)
  exact j_icmp_eq o (tgt := 2070) dL_law_921 (by decide) (fun _ => K _ _ _ _ _ _ e2 hX2 g1 g2) (fun z => absurd rfl z)
set_option maxRecDepth 20000 in
theorem case_set (o : jokL X l0 nm) (S : jSc X b Ls xs) (hG : GC P Mc Nc A t) (hX : wfX A) (ht : t < 4000) (hM : RelM Mm A) (hi : i + 5 < Ls) (hL : Ls ≤ 3073) (hk : k ≤ 601024) (hn : n ≤ 7293000) (K : KO X P A t k n E b i) : J X P (cmb Mc Mm) (cmbN Nc Nm h) k n E 7 926 (loL P b i) [] := by
  obtain ⟨v, A2, e2, hX2, h1, h2⟩ := b_set (Nm := Nm) l0 (sP := shP P) hG hX ht hM (xs (i + 1)) (xs (i + 2)) (xs (i + 3))
  refine j_aload_n o dL_law_926 rfl ?_
  refine j_arg o S 1 rfl rfl (by omega) hL dL_law_927 dL_law_928 dL_law_930 dL_law_931 dL_law_932 ?_
  refine j_arg o S 2 rfl rfl (by omega) hL dL_law_933 dL_law_934 dL_law_936 dL_law_937 dL_law_938 ?_
  refine j_arg o S 3 rfl rfl (by omega) hL dL_law_939 dL_law_940 dL_law_942 dL_law_943 dL_law_944 ?_
  refine j_cc o h1 dL_law_945 jc_L_101 jn_X11_set rfl rfl hk hn rfl rfl (fun Mb Nb g1 => ?_)
  refine j_aload_n o dL_law_948 rfl ?_
  refine j_arg o S 1 rfl rfl (by omega) hL dL_law_949 dL_law_950 dL_law_952 dL_law_953 dL_law_954 ?_
  refine j_arg o S 2 rfl rfl (by omega) hL dL_law_955 dL_law_956 dL_law_958 dL_law_959 dL_law_960 ?_
  refine j_arg o S 3 rfl rfl (by omega) hL dL_law_961 dL_law_962 dL_law_964 dL_law_965 dL_law_966 ?_
  refine j_mc o h2 dL_law_967 jc_L_105 jn_X12_set rfl rfl hk hn rfl rfl (fun Mn Nn g2 => ?_)
  exact j_icmp_eq o (tgt := 2070) dL_law_970 (by decide) (fun _ => K _ _ _ _ _ _ e2 hX2 g1 g2) (fun z => absurd rfl z)
set_option maxRecDepth 20000 in
theorem case_sort (o : jokL X l0 nm) (S : jSc X b Ls xs) (hG : GC P Mc Nc A t) (hX : wfX A) (ht : t < 4000) (hM : RelM Mm A) (hi : i + 5 < Ls) (hL : Ls ≤ 3073) (hk : k ≤ 601024) (hn : n ≤ 7293000) (K : KO X P A t k n E b i) : J X P (cmb Mc Mm) (cmbN Nc Nm h) k n E 7 975 (loL P b i) [] := by
  obtain ⟨v, A2, e2, hX2, h1, h2⟩ := b_sort (Nm := Nm) l0 (sP := shP P) hG hX ht hM (xs (i + 1))
  refine j_aload_n o dL_law_975 rfl ?_
  refine j_arg o S 1 rfl rfl (by omega) hL dL_law_976 dL_law_977 dL_law_979 dL_law_980 dL_law_981 ?_
  refine j_cc o h1 dL_law_982 jc_L_106 jn_X11_sort rfl rfl hk hn rfl rfl (fun Mb Nb g1 => ?_)
  refine j_aload_n o dL_law_985 rfl ?_
  refine j_arg o S 1 rfl rfl (by omega) hL dL_law_986 dL_law_987 dL_law_989 dL_law_990 dL_law_991 ?_
  refine j_mc o h2 dL_law_992 jc_L_109 jn_X12_sort rfl rfl hk hn rfl rfl (fun Mn Nn g2 => ?_)
  exact j_icmp_eq o (tgt := 2070) dL_law_995 (by decide) (fun _ => K _ _ _ _ _ _ e2 hX2 g1 g2) (fun z => absurd rfl z)
set_option maxRecDepth 20000 in
theorem case_chance (o : jokL X l0 nm) (S : jSc X b Ls xs) (hG : GC P Mc Nc A t) (hX : wfX A) (ht : t < 4000) (hM : RelM Mm A) (hi : i + 5 < Ls) (hL : Ls ≤ 3073) (hk : k ≤ 601024) (hn : n ≤ 7293000) (K : KO X P A t k n E b i) : J X P (cmb Mc Mm) (cmbN Nc Nm h) k n E 7 1000 (loL P b i) [] := by
  obtain ⟨v, A2, e2, hX2, h1, h2⟩ := b_chance (Nm := Nm) l0 (sP := shP P) hG hX ht hM (xs (i + 1)) (xs (i + 2)) (xs (i + 3))
  refine j_aload_n o dL_law_1000 rfl ?_
  refine j_arg o S 1 rfl rfl (by omega) hL dL_law_1001 dL_law_1002 dL_law_1004 dL_law_1005 dL_law_1006 ?_
  refine j_arg o S 2 rfl rfl (by omega) hL dL_law_1007 dL_law_1008 dL_law_1010 dL_law_1011 dL_law_1012 ?_
  refine j_arg o S 3 rfl rfl (by omega) hL dL_law_1013 dL_law_1014 dL_law_1016 dL_law_1017 dL_law_1018 ?_
  refine j_cc o h1 dL_law_1019 jc_L_110 jn_X11_chance rfl rfl hk hn rfl rfl (fun Mb Nb g1 => ?_)
  refine j_aload_n o dL_law_1022 rfl ?_
  refine j_arg o S 1 rfl rfl (by omega) hL dL_law_1023 dL_law_1024 dL_law_1026 dL_law_1027 dL_law_1028 ?_
  refine j_arg o S 2 rfl rfl (by omega) hL dL_law_1029 dL_law_1030 dL_law_1032 dL_law_1033 dL_law_1034 ?_
  refine j_arg o S 3 rfl rfl (by omega) hL dL_law_1035 dL_law_1036 dL_law_1038 dL_law_1039 dL_law_1040 ?_
  refine j_mc o h2 dL_law_1041 jc_L_113 jn_X12_chance rfl rfl hk hn rfl rfl (fun Mn Nn g2 => ?_)
  exact j_icmp_eq o (tgt := 2070) dL_law_1044 (by decide) (fun _ => K _ _ _ _ _ _ e2 hX2 g1 g2) (fun z => absurd rfl z)
set_option maxRecDepth 20000 in
theorem case_share (o : jokL X l0 nm) (S : jSc X b Ls xs) (hG : GC P Mc Nc A t) (hX : wfX A) (ht : t < 4000) (hM : RelM Mm A) (hi : i + 5 < Ls) (hL : Ls ≤ 3073) (hk : k ≤ 601024) (hn : n ≤ 7293000) (K : KO X P A t k n E b i) : J X P (cmb Mc Mm) (cmbN Nc Nm h) k n E 7 1049 (loL P b i) [] := by
  obtain ⟨v, A2, e2, hX2, h1, h2⟩ := b_share (Nm := Nm) l0 (sP := shP P) hG hX ht hM (xs (i + 1)) (xs (i + 2))
  refine j_aload_n o dL_law_1049 rfl ?_
  refine j_arg o S 1 rfl rfl (by omega) hL dL_law_1050 dL_law_1051 dL_law_1053 dL_law_1054 dL_law_1055 ?_
  refine j_arg o S 2 rfl rfl (by omega) hL dL_law_1056 dL_law_1057 dL_law_1059 dL_law_1060 dL_law_1061 ?_
  refine j_cc o h1 dL_law_1062 jc_L_114 jn_X11_share rfl rfl hk hn rfl rfl (fun Mb Nb g1 => ?_)
  refine j_aload_n o dL_law_1065 rfl ?_
  refine j_arg o S 1 rfl rfl (by omega) hL dL_law_1066 dL_law_1067 dL_law_1069 dL_law_1070 dL_law_1071 ?_
  refine j_arg o S 2 rfl rfl (by omega) hL dL_law_1072 dL_law_1073 dL_law_1075 dL_law_1076 dL_law_1077 ?_
  refine j_mc o h2 dL_law_1078 jc_L_118 jn_X12_share rfl rfl hk hn rfl rfl (fun Mn Nn g2 => ?_)
  refine j_lcmp o dL_law_1081 ?_
  rw [lgc_self]
  exact j_if_eq o (tgt := 2070) dL_law_1082 (by decide) (fun _ => K _ _ _ _ _ _ e2 hX2 g1 g2) (fun z => absurd rfl z)
set_option maxRecDepth 20000 in
theorem case_mean (o : jokL X l0 nm) (S : jSc X b Ls xs) (hG : GC P Mc Nc A t) (hX : wfX A) (ht : t < 4000) (hM : RelM Mm A) (hi : i + 5 < Ls) (hL : Ls ≤ 3073) (hk : k ≤ 601024) (hn : n ≤ 7293000) (K : KO X P A t k n E b i) : J X P (cmb Mc Mm) (cmbN Nc Nm h) k n E 7 1087 (loL P b i) [] := by
  obtain ⟨v, A2, e2, hX2, h1, h2⟩ := b_mean (Nm := Nm) l0 (sP := shP P) hG hX ht hM (xs (i + 1)) (xs (i + 2)) (xs (i + 3)) (xs (i + 4))
  refine j_aload_n o dL_law_1087 rfl ?_
  refine j_arg o S 1 rfl rfl (by omega) hL dL_law_1088 dL_law_1089 dL_law_1091 dL_law_1092 dL_law_1093 ?_
  refine j_arg o S 2 rfl rfl (by omega) hL dL_law_1094 dL_law_1095 dL_law_1097 dL_law_1098 dL_law_1099 ?_
  refine j_arg o S 3 rfl rfl (by omega) hL dL_law_1100 dL_law_1101 dL_law_1103 dL_law_1104 dL_law_1105 ?_
  refine j_arg o S 4 rfl rfl (by omega) hL dL_law_1106 dL_law_1107 dL_law_1109 dL_law_1110 dL_law_1111 ?_
  refine j_cc o h1 dL_law_1112 jc_L_119 jn_X11_mean rfl rfl hk hn rfl rfl (fun Mb Nb g1 => ?_)
  refine j_aload_n o dL_law_1115 rfl ?_
  refine j_arg o S 1 rfl rfl (by omega) hL dL_law_1116 dL_law_1117 dL_law_1119 dL_law_1120 dL_law_1121 ?_
  refine j_arg o S 2 rfl rfl (by omega) hL dL_law_1122 dL_law_1123 dL_law_1125 dL_law_1126 dL_law_1127 ?_
  refine j_arg o S 3 rfl rfl (by omega) hL dL_law_1128 dL_law_1129 dL_law_1131 dL_law_1132 dL_law_1133 ?_
  refine j_arg o S 4 rfl rfl (by omega) hL dL_law_1134 dL_law_1135 dL_law_1137 dL_law_1138 dL_law_1139 ?_
  refine j_mc o h2 dL_law_1140 jc_L_123 jn_X12_mean rfl rfl hk hn rfl rfl (fun Mn Nn g2 => ?_)
  refine j_lcmp o dL_law_1143 ?_
  rw [lgc_self]
  exact j_if_eq o (tgt := 2070) dL_law_1144 (by decide) (fun _ => K _ _ _ _ _ _ e2 hX2 g1 g2) (fun z => absurd rfl z)
set_option maxRecDepth 20000 in
theorem case_worst (o : jokL X l0 nm) (S : jSc X b Ls xs) (hG : GC P Mc Nc A t) (hX : wfX A) (ht : t < 4000) (hM : RelM Mm A) (hi : i + 5 < Ls) (hL : Ls ≤ 3073) (hk : k ≤ 601024) (hn : n ≤ 7293000) (K : KO X P A t k n E b i) : J X P (cmb Mc Mm) (cmbN Nc Nm h) k n E 7 1149 (loL P b i) [] := by
  obtain ⟨v, A2, e2, hX2, h1, h2⟩ := b_worst (Nm := Nm) l0 (sP := shP P) hG hX ht hM (xs (i + 1)) (xs (i + 2)) (xs (i + 3)) (xs (i + 4))
  refine j_aload_n o dL_law_1149 rfl ?_
  refine j_arg o S 1 rfl rfl (by omega) hL dL_law_1150 dL_law_1151 dL_law_1153 dL_law_1154 dL_law_1155 ?_
  refine j_arg o S 2 rfl rfl (by omega) hL dL_law_1156 dL_law_1157 dL_law_1159 dL_law_1160 dL_law_1161 ?_
  refine j_arg o S 3 rfl rfl (by omega) hL dL_law_1162 dL_law_1163 dL_law_1165 dL_law_1166 dL_law_1167 ?_
  refine j_arg o S 4 rfl rfl (by omega) hL dL_law_1168 dL_law_1169 dL_law_1171 dL_law_1172 dL_law_1173 ?_
  refine j_cc o h1 dL_law_1174 jc_L_124 jn_X11_worst rfl rfl hk hn rfl rfl (fun Mb Nb g1 => ?_)
  refine j_aload_n o dL_law_1177 rfl ?_
  refine j_arg o S 1 rfl rfl (by omega) hL dL_law_1178 dL_law_1179 dL_law_1181 dL_law_1182 dL_law_1183 ?_
  refine j_arg o S 2 rfl rfl (by omega) hL dL_law_1184 dL_law_1185 dL_law_1187 dL_law_1188 dL_law_1189 ?_
  refine j_arg o S 3 rfl rfl (by omega) hL dL_law_1190 dL_law_1191 dL_law_1193 dL_law_1194 dL_law_1195 ?_
  refine j_arg o S 4 rfl rfl (by omega) hL dL_law_1196 dL_law_1197 dL_law_1199 dL_law_1200 dL_law_1201 ?_
  refine j_mc o h2 dL_law_1202 jc_L_128 jn_X12_worst rfl rfl hk hn rfl rfl (fun Mn Nn g2 => ?_)
  exact j_icmp_eq o (tgt := 2070) dL_law_1205 (by decide) (fun _ => K _ _ _ _ _ _ e2 hX2 g1 g2) (fun z => absurd rfl z)
set_option maxRecDepth 20000 in
theorem case_best (o : jokL X l0 nm) (S : jSc X b Ls xs) (hG : GC P Mc Nc A t) (hX : wfX A) (ht : t < 4000) (hM : RelM Mm A) (hi : i + 5 < Ls) (hL : Ls ≤ 3073) (hk : k ≤ 601024) (hn : n ≤ 7293000) (K : KO X P A t k n E b i) : J X P (cmb Mc Mm) (cmbN Nc Nm h) k n E 7 1210 (loL P b i) [] := by
  obtain ⟨v, A2, e2, hX2, h1, h2⟩ := b_best (Nm := Nm) l0 (sP := shP P) hG hX ht hM (xs (i + 1)) (xs (i + 2)) (xs (i + 3)) (xs (i + 4)) (xs (i + 5))
  refine j_aload_n o dL_law_1210 rfl ?_
  refine j_arg o S 1 rfl rfl (by omega) hL dL_law_1211 dL_law_1212 dL_law_1214 dL_law_1215 dL_law_1216 ?_
  refine j_arg o S 2 rfl rfl (by omega) hL dL_law_1217 dL_law_1218 dL_law_1220 dL_law_1221 dL_law_1222 ?_
  refine j_arg o S 3 rfl rfl (by omega) hL dL_law_1223 dL_law_1224 dL_law_1226 dL_law_1227 dL_law_1228 ?_
  refine j_arg o S 4 rfl rfl (by omega) hL dL_law_1229 dL_law_1230 dL_law_1232 dL_law_1233 dL_law_1234 ?_
  refine j_arg o S 5 rfl rfl (by omega) hL dL_law_1235 dL_law_1236 dL_law_1238 dL_law_1239 dL_law_1240 ?_
  refine j_cc o h1 dL_law_1241 jc_L_129 jn_X11_best rfl rfl hk hn rfl rfl (fun Mb Nb g1 => ?_)
  refine j_aload_n o dL_law_1244 rfl ?_
  refine j_arg o S 1 rfl rfl (by omega) hL dL_law_1245 dL_law_1246 dL_law_1248 dL_law_1249 dL_law_1250 ?_
  refine j_arg o S 2 rfl rfl (by omega) hL dL_law_1251 dL_law_1252 dL_law_1254 dL_law_1255 dL_law_1256 ?_
  refine j_arg o S 3 rfl rfl (by omega) hL dL_law_1257 dL_law_1258 dL_law_1260 dL_law_1261 dL_law_1262 ?_
  refine j_arg o S 4 rfl rfl (by omega) hL dL_law_1263 dL_law_1264 dL_law_1266 dL_law_1267 dL_law_1268 ?_
  refine j_arg o S 5 rfl rfl (by omega) hL dL_law_1269 dL_law_1270 dL_law_1272 dL_law_1273 dL_law_1274 ?_
  refine j_mc o h2 dL_law_1275 jc_L_132 jn_X12_best rfl rfl hk hn rfl rfl (fun Mn Nn g2 => ?_)
  exact j_icmp_eq o (tgt := 2070) dL_law_1278 (by decide) (fun _ => K _ _ _ _ _ _ e2 hX2 g1 g2) (fun z => absurd rfl z)
set_option maxRecDepth 20000 in
theorem case_cost (o : jokL X l0 nm) (S : jSc X b Ls xs) (hG : GC P Mc Nc A t) (hX : wfX A) (ht : t < 4000) (hM : RelM Mm A) (hi : i + 5 < Ls) (hL : Ls ≤ 3073) (hk : k ≤ 601024) (hn : n ≤ 7293000) (K : KO X P A t k n E b i) : J X P (cmb Mc Mm) (cmbN Nc Nm h) k n E 7 1283 (loL P b i) [] := by
  obtain ⟨v, A2, e2, hX2, h1, h2⟩ := b_cost (Nm := Nm) l0 (sP := shP P) hG hX ht hM (xs (i + 1))
  refine j_aload_n o dL_law_1283 rfl ?_
  refine j_arg o S 1 rfl rfl (by omega) hL dL_law_1284 dL_law_1285 dL_law_1287 dL_law_1288 dL_law_1289 ?_
  refine j_cc o h1 dL_law_1290 jc_L_133 jn_X11_cost rfl rfl hk hn rfl rfl (fun Mb Nb g1 => ?_)
  refine j_aload_n o dL_law_1293 rfl ?_
  refine j_arg o S 1 rfl rfl (by omega) hL dL_law_1294 dL_law_1295 dL_law_1297 dL_law_1298 dL_law_1299 ?_
  refine j_mc o h2 dL_law_1300 jc_L_137 jn_X12_cost rfl rfl hk hn rfl rfl (fun Mn Nn g2 => ?_)
  refine j_lcmp o dL_law_1303 ?_
  rw [lgc_self]
  exact j_if_eq o (tgt := 2070) dL_law_1304 (by decide) (fun _ => K _ _ _ _ _ _ e2 hX2 g1 g2) (fun z => absurd rfl z)
set_option maxRecDepth 20000 in
theorem case_longest (o : jokL X l0 nm) (S : jSc X b Ls xs) (hG : GC P Mc Nc A t) (hX : wfX A) (ht : t < 4000) (hM : RelM Mm A) (hi : i + 5 < Ls) (hL : Ls ≤ 3073) (hk : k ≤ 601024) (hn : n ≤ 7293000) (K : KO X P A t k n E b i) : J X P (cmb Mc Mm) (cmbN Nc Nm h) k n E 7 1309 (loL P b i) [] := by
  obtain ⟨v, A2, e2, hX2, h1, h2⟩ := b_longest (Nm := Nm) l0 (sP := shP P) hG hX ht hM (xs (i + 1))
  refine j_aload_n o dL_law_1309 rfl ?_
  refine j_arg o S 1 rfl rfl (by omega) hL dL_law_1310 dL_law_1311 dL_law_1313 dL_law_1314 dL_law_1315 ?_
  refine j_cc o h1 dL_law_1316 jc_L_138 jn_X11_longest rfl rfl hk hn rfl rfl (fun Mb Nb g1 => ?_)
  refine j_aload_n o dL_law_1319 rfl ?_
  refine j_arg o S 1 rfl rfl (by omega) hL dL_law_1320 dL_law_1321 dL_law_1323 dL_law_1324 dL_law_1325 ?_
  refine j_mc o h2 dL_law_1326 jc_L_141 jn_X12_longest rfl rfl hk hn rfl rfl (fun Mn Nn g2 => ?_)
  exact j_icmp_eq o (tgt := 2070) dL_law_1329 (by decide) (fun _ => K _ _ _ _ _ _ e2 hX2 g1 g2) (fun z => absurd rfl z)
set_option maxRecDepth 20000 in
theorem case_page (o : jokL X l0 nm) (S : jSc X b Ls xs) (hG : GC P Mc Nc A t) (hX : wfX A) (ht : t < 4000) (hM : RelM Mm A) (hi : i + 5 < Ls) (hL : Ls ≤ 3073) (hk : k ≤ 601024) (hn : n ≤ 7293000) (K : KO X P A t k n E b i) : J X P (cmb Mc Mm) (cmbN Nc Nm h) k n E 7 1334 (loL P b i) [] := by
  obtain ⟨v, A2, e2, hX2, h1, h2⟩ := b_page (Nm := Nm) l0 (sP := shP P) hG hX ht hM (xs (i + 1))
  refine j_aload_n o dL_law_1334 rfl ?_
  refine j_arg o S 1 rfl rfl (by omega) hL dL_law_1335 dL_law_1336 dL_law_1338 dL_law_1339 dL_law_1340 ?_
  refine j_cc o h1 dL_law_1341 jc_L_142 jn_X11_page rfl rfl hk hn rfl rfl (fun Mb Nb g1 => ?_)
  refine j_aload_n o dL_law_1344 rfl ?_
  refine j_arg o S 1 rfl rfl (by omega) hL dL_law_1345 dL_law_1346 dL_law_1348 dL_law_1349 dL_law_1350 ?_
  refine j_mc o h2 dL_law_1351 jc_L_145 jn_X12_page rfl rfl hk hn rfl rfl (fun Mn Nn g2 => ?_)
  exact j_icmp_eq o (tgt := 2070) dL_law_1354 (by decide) (fun _ => K _ _ _ _ _ _ e2 hX2 g1 g2) (fun z => absurd rfl z)
set_option maxRecDepth 20000 in
theorem case_tells (o : jokL X l0 nm) (S : jSc X b Ls xs) (hG : GC P Mc Nc A t) (hX : wfX A) (ht : t < 4000) (hM : RelM Mm A) (hi : i + 5 < Ls) (hL : Ls ≤ 3073) (hk : k ≤ 601024) (hn : n ≤ 7293000) (K : KO X P A t k n E b i) : J X P (cmb Mc Mm) (cmbN Nc Nm h) k n E 7 1359 (loL P b i) [] := by
  obtain ⟨v, A2, e2, hX2, h1, h2⟩ := b_tells (Nm := Nm) l0 (sP := shP P) hG hX ht hM (xs (i + 1)) (xs (i + 2))
  refine j_aload_n o dL_law_1359 rfl ?_
  refine j_arg o S 1 rfl rfl (by omega) hL dL_law_1360 dL_law_1361 dL_law_1363 dL_law_1364 dL_law_1365 ?_
  refine j_arg o S 2 rfl rfl (by omega) hL dL_law_1366 dL_law_1367 dL_law_1369 dL_law_1370 dL_law_1371 ?_
  refine j_cc o h1 dL_law_1372 jc_L_146 jn_X11_tells rfl rfl hk hn rfl rfl (fun Mb Nb g1 => ?_)
  refine j_aload_n o dL_law_1375 rfl ?_
  refine j_arg o S 1 rfl rfl (by omega) hL dL_law_1376 dL_law_1377 dL_law_1379 dL_law_1380 dL_law_1381 ?_
  refine j_arg o S 2 rfl rfl (by omega) hL dL_law_1382 dL_law_1383 dL_law_1385 dL_law_1386 dL_law_1387 ?_
  refine j_mc o h2 dL_law_1388 jc_L_149 jn_X12_tells rfl rfl hk hn rfl rfl (fun Mn Nn g2 => ?_)
  exact j_icmp_eq o (tgt := 2070) dL_law_1391 (by decide) (fun _ => K _ _ _ _ _ _ e2 hX2 g1 g2) (fun z => absurd rfl z)
set_option maxRecDepth 20000 in
theorem case_off (o : jokL X l0 nm) (S : jSc X b Ls xs) (hG : GC P Mc Nc A t) (hX : wfX A) (ht : t < 4000) (hM : RelM Mm A) (hi : i + 5 < Ls) (hL : Ls ≤ 3073) (hk : k ≤ 601024) (hn : n ≤ 7293000) (K : KO X P A t k n E b i) : J X P (cmb Mc Mm) (cmbN Nc Nm h) k n E 7 1396 (loL P b i) [] := by
  obtain ⟨v, A2, e2, hX2, h1, h2⟩ := b_off (Nm := Nm) l0 (sP := shP P) hG hX ht hM (xs (i + 1)) (xs (i + 2)) (xs (i + 3))
  refine j_aload_n o dL_law_1396 rfl ?_
  refine j_arg o S 1 rfl rfl (by omega) hL dL_law_1397 dL_law_1398 dL_law_1400 dL_law_1401 dL_law_1402 ?_
  refine j_arg o S 2 rfl rfl (by omega) hL dL_law_1403 dL_law_1404 dL_law_1406 dL_law_1407 dL_law_1408 ?_
  refine j_arg o S 3 rfl rfl (by omega) hL dL_law_1409 dL_law_1410 dL_law_1412 dL_law_1413 dL_law_1414 ?_
  refine j_cc o h1 dL_law_1415 jc_L_150 jn_X11_off rfl rfl hk hn rfl rfl (fun Mb Nb g1 => ?_)
  refine j_aload_n o dL_law_1418 rfl ?_
  refine j_arg o S 1 rfl rfl (by omega) hL dL_law_1419 dL_law_1420 dL_law_1422 dL_law_1423 dL_law_1424 ?_
  refine j_arg o S 2 rfl rfl (by omega) hL dL_law_1425 dL_law_1426 dL_law_1428 dL_law_1429 dL_law_1430 ?_
  refine j_arg o S 3 rfl rfl (by omega) hL dL_law_1431 dL_law_1432 dL_law_1434 dL_law_1435 dL_law_1436 ?_
  refine j_mc o h2 dL_law_1437 jc_L_154 jn_X12_off rfl rfl hk hn rfl rfl (fun Mn Nn g2 => ?_)
  refine j_lcmp o dL_law_1440 ?_
  rw [lgc_self]
  exact j_if_eq o (tgt := 2070) dL_law_1441 (by decide) (fun _ => K _ _ _ _ _ _ e2 hX2 g1 g2) (fun z => absurd rfl z)
set_option maxRecDepth 20000 in
theorem case_weak (o : jokL X l0 nm) (S : jSc X b Ls xs) (hG : GC P Mc Nc A t) (hX : wfX A) (ht : t < 4000) (hM : RelM Mm A) (hi : i + 5 < Ls) (hL : Ls ≤ 3073) (hk : k ≤ 601024) (hn : n ≤ 7293000) (K : KO X P A t k n E b i) : J X P (cmb Mc Mm) (cmbN Nc Nm h) k n E 7 1446 (loL P b i) [] := by
  obtain ⟨v, A2, e2, hX2, h1, h2⟩ := b_weak (Nm := Nm) l0 (sP := shP P) hG hX ht hM (xs (i + 1)) (xs (i + 2))
  refine j_aload_n o dL_law_1446 rfl ?_
  refine j_arg o S 1 rfl rfl (by omega) hL dL_law_1447 dL_law_1448 dL_law_1450 dL_law_1451 dL_law_1452 ?_
  refine j_arg o S 2 rfl rfl (by omega) hL dL_law_1453 dL_law_1454 dL_law_1456 dL_law_1457 dL_law_1458 ?_
  refine j_cc o h1 dL_law_1459 jc_L_155 jn_X11_weak rfl rfl hk hn rfl rfl (fun Mb Nb g1 => ?_)
  refine j_aload_n o dL_law_1462 rfl ?_
  refine j_arg o S 1 rfl rfl (by omega) hL dL_law_1463 dL_law_1464 dL_law_1466 dL_law_1467 dL_law_1468 ?_
  refine j_arg o S 2 rfl rfl (by omega) hL dL_law_1469 dL_law_1470 dL_law_1472 dL_law_1473 dL_law_1474 ?_
  refine j_mc o h2 dL_law_1475 jc_L_158 jn_X12_weak rfl rfl hk hn rfl rfl (fun Mn Nn g2 => ?_)
  exact j_icmp_eq o (tgt := 2070) dL_law_1478 (by decide) (fun _ => K _ _ _ _ _ _ e2 hX2 g1 g2) (fun z => absurd rfl z)
set_option maxRecDepth 20000 in
theorem case_person (o : jokL X l0 nm) (S : jSc X b Ls xs) (hG : GC P Mc Nc A t) (hX : wfX A) (ht : t < 4000) (hM : RelM Mm A) (hi : i + 5 < Ls) (hL : Ls ≤ 3073) (hk : k ≤ 601024) (hn : n ≤ 7293000) (K : KO X P A t k n E b i) : J X P (cmb Mc Mm) (cmbN Nc Nm h) k n E 7 1483 (loL P b i) [] := by
  obtain ⟨v, A2, e2, hX2, h1, h2⟩ := b_person (Nm := Nm) l0 (sP := shP P) hG hX ht hM ((jlshl ((xs (i + 1)).toInt64) 32 ||| ((xs (i + 2)).toInt64 &&& 4294967295))) (xs (i + 3))
  refine j_aload_n o dL_law_1483 rfl ?_
  refine j_arg o S 1 rfl rfl (by omega) hL dL_law_1484 dL_law_1485 dL_law_1487 dL_law_1488 dL_law_1489 ?_
  refine j_i2l o dL_law_1490 ?_
  refine j_bipush o (v := 32) dL_law_1491 rfl ?_
  refine j_lshl o dL_law_1493 ?_
  refine j_arg o S 2 rfl rfl (by omega) hL dL_law_1494 dL_law_1495 dL_law_1497 dL_law_1498 dL_law_1499 ?_
  refine j_i2l o dL_law_1500 ?_
  refine j_ldc2 o (v := 4294967295) jk_L_159 dL_law_1501 ?_
  refine j_land o dL_law_1504 ?_
  refine j_lor o dL_law_1505 ?_
  refine j_arg o S 3 rfl rfl (by omega) hL dL_law_1506 dL_law_1507 dL_law_1509 dL_law_1510 dL_law_1511 ?_
  refine j_cc o h1 dL_law_1512 jc_L_161 jn_X11_person rfl rfl hk hn rfl rfl (fun Mb Nb g1 => ?_)
  refine j_aload_n o dL_law_1515 rfl ?_
  refine j_arg o S 1 rfl rfl (by omega) hL dL_law_1516 dL_law_1517 dL_law_1519 dL_law_1520 dL_law_1521 ?_
  refine j_i2l o dL_law_1522 ?_
  refine j_bipush o (v := 32) dL_law_1523 rfl ?_
  refine j_lshl o dL_law_1525 ?_
  refine j_arg o S 2 rfl rfl (by omega) hL dL_law_1526 dL_law_1527 dL_law_1529 dL_law_1530 dL_law_1531 ?_
  refine j_i2l o dL_law_1532 ?_
  refine j_ldc2 o (v := 4294967295) jk_L_159 dL_law_1533 ?_
  refine j_land o dL_law_1536 ?_
  refine j_lor o dL_law_1537 ?_
  refine j_arg o S 3 rfl rfl (by omega) hL dL_law_1538 dL_law_1539 dL_law_1541 dL_law_1542 dL_law_1543 ?_
  refine j_mc o h2 dL_law_1544 jc_L_165 jn_X12_person rfl rfl hk hn rfl rfl (fun Mn Nn g2 => ?_)
  exact j_icmp_eq o (tgt := 2070) dL_law_1547 (by decide) (fun _ => K _ _ _ _ _ _ e2 hX2 g1 g2) (fun z => absurd rfl z)
set_option maxRecDepth 20000 in
theorem case_mend (o : jokL X l0 nm) (S : jSc X b Ls xs) (hG : GC P Mc Nc A t) (hX : wfX A) (ht : t < 4000) (hM : RelM Mm A) (hi : i + 5 < Ls) (hL : Ls ≤ 3073) (hk : k ≤ 601024) (hn : n ≤ 7293000) (K : KO X P A t k n E b i) : J X P (cmb Mc Mm) (cmbN Nc Nm h) k n E 7 1552 (loL P b i) [] := by
  obtain ⟨v, A2, e2, hX2, h1, h2⟩ := b_mend (Nm := Nm) l0 (sP := shP P) hG hX ht hM (xs (i + 1)) (xs (i + 2))
  refine j_aload_n o dL_law_1552 rfl ?_
  refine j_arg o S 1 rfl rfl (by omega) hL dL_law_1553 dL_law_1554 dL_law_1556 dL_law_1557 dL_law_1558 ?_
  refine j_arg o S 2 rfl rfl (by omega) hL dL_law_1559 dL_law_1560 dL_law_1562 dL_law_1563 dL_law_1564 ?_
  refine j_cc o h1 dL_law_1565 jc_L_166 jn_X11_mend rfl rfl hk hn rfl rfl (fun Mb Nb g1 => ?_)
  refine j_aload_n o dL_law_1568 rfl ?_
  refine j_arg o S 1 rfl rfl (by omega) hL dL_law_1569 dL_law_1570 dL_law_1572 dL_law_1573 dL_law_1574 ?_
  refine j_arg o S 2 rfl rfl (by omega) hL dL_law_1575 dL_law_1576 dL_law_1578 dL_law_1579 dL_law_1580 ?_
  refine j_mc o h2 dL_law_1581 jc_L_169 jn_X12_mend rfl rfl hk hn rfl rfl (fun Mn Nn g2 => ?_)
  exact j_icmp_eq o (tgt := 2070) dL_law_1584 (by decide) (fun _ => K _ _ _ _ _ _ e2 hX2 g1 g2) (fun z => absurd rfl z)
set_option maxRecDepth 20000 in
theorem case_swap (o : jokL X l0 nm) (S : jSc X b Ls xs) (hG : GC P Mc Nc A t) (hX : wfX A) (ht : t < 4000) (hM : RelM Mm A) (hi : i + 5 < Ls) (hL : Ls ≤ 3073) (hk : k ≤ 601024) (hn : n ≤ 7293000) (K : KO X P A t k n E b i) : J X P (cmb Mc Mm) (cmbN Nc Nm h) k n E 7 1589 (loL P b i) [] := by
  obtain ⟨v, A2, e2, hX2, h1, h2⟩ := b_swap (Nm := Nm) l0 (sP := shP P) hG hX ht hM (xs (i + 1)) (xs (i + 2))
  refine j_aload_n o dL_law_1589 rfl ?_
  refine j_arg o S 1 rfl rfl (by omega) hL dL_law_1590 dL_law_1591 dL_law_1593 dL_law_1594 dL_law_1595 ?_
  refine j_arg o S 2 rfl rfl (by omega) hL dL_law_1596 dL_law_1597 dL_law_1599 dL_law_1600 dL_law_1601 ?_
  refine j_cc o h1 dL_law_1602 jc_L_170 jn_X11_swap rfl rfl hk hn rfl rfl (fun Mb Nb g1 => ?_)
  refine j_aload_n o dL_law_1605 rfl ?_
  refine j_arg o S 1 rfl rfl (by omega) hL dL_law_1606 dL_law_1607 dL_law_1609 dL_law_1610 dL_law_1611 ?_
  refine j_arg o S 2 rfl rfl (by omega) hL dL_law_1612 dL_law_1613 dL_law_1615 dL_law_1616 dL_law_1617 ?_
  refine j_mc o h2 dL_law_1618 jc_L_173 jn_X12_swap rfl rfl hk hn rfl rfl (fun Mn Nn g2 => ?_)
  exact j_icmp_eq o (tgt := 2070) dL_law_1621 (by decide) (fun _ => K _ _ _ _ _ _ e2 hX2 g1 g2) (fun z => absurd rfl z)
set_option maxRecDepth 20000 in
theorem case_chart (o : jokL X l0 nm) (S : jSc X b Ls xs) (hG : GC P Mc Nc A t) (hX : wfX A) (ht : t < 4000) (hM : RelM Mm A) (hi : i + 5 < Ls) (hL : Ls ≤ 3073) (hk : k ≤ 601024) (hn : n ≤ 7293000) (K : KO X P A t k n E b i) : J X P (cmb Mc Mm) (cmbN Nc Nm h) k n E 7 1626 (loL P b i) [] := by
  obtain ⟨v, A2, e2, hX2, h1, h2⟩ := b_chart (Nm := Nm) l0 (sP := shP P) hG hX ht hM (xs (i + 1)) (xs (i + 2)) (xs (i + 3))
  refine j_aload_n o dL_law_1626 rfl ?_
  refine j_arg o S 1 rfl rfl (by omega) hL dL_law_1627 dL_law_1628 dL_law_1630 dL_law_1631 dL_law_1632 ?_
  refine j_arg o S 2 rfl rfl (by omega) hL dL_law_1633 dL_law_1634 dL_law_1636 dL_law_1637 dL_law_1638 ?_
  refine j_arg o S 3 rfl rfl (by omega) hL dL_law_1639 dL_law_1640 dL_law_1642 dL_law_1643 dL_law_1644 ?_
  refine j_cc o h1 dL_law_1645 jc_L_174 jn_X11_chart rfl rfl hk hn rfl rfl (fun Mb Nb g1 => ?_)
  refine j_aload_n o dL_law_1648 rfl ?_
  refine j_arg o S 1 rfl rfl (by omega) hL dL_law_1649 dL_law_1650 dL_law_1652 dL_law_1653 dL_law_1654 ?_
  refine j_arg o S 2 rfl rfl (by omega) hL dL_law_1655 dL_law_1656 dL_law_1658 dL_law_1659 dL_law_1660 ?_
  refine j_arg o S 3 rfl rfl (by omega) hL dL_law_1661 dL_law_1662 dL_law_1664 dL_law_1665 dL_law_1666 ?_
  refine j_mc o h2 dL_law_1667 jc_L_177 jn_X12_chart rfl rfl hk hn rfl rfl (fun Mn Nn g2 => ?_)
  exact j_icmp_eq o (tgt := 2070) dL_law_1670 (by decide) (fun _ => K _ _ _ _ _ _ e2 hX2 g1 g2) (fun z => absurd rfl z)
set_option maxRecDepth 20000 in
theorem case_least (o : jokL X l0 nm) (S : jSc X b Ls xs) (hG : GC P Mc Nc A t) (hX : wfX A) (ht : t < 4000) (hM : RelM Mm A) (hi : i + 5 < Ls) (hL : Ls ≤ 3073) (hk : k ≤ 601024) (hn : n ≤ 7293000) (K : KO X P A t k n E b i) : J X P (cmb Mc Mm) (cmbN Nc Nm h) k n E 7 1675 (loL P b i) [] := by
  obtain ⟨v, A2, e2, hX2, h1, h2⟩ := b_least (Nm := Nm) l0 (sP := shP P) hG hX ht hM (xs (i + 1)) (xs (i + 2))
  refine j_aload_n o dL_law_1675 rfl ?_
  refine j_arg o S 1 rfl rfl (by omega) hL dL_law_1676 dL_law_1677 dL_law_1679 dL_law_1680 dL_law_1681 ?_
  refine j_arg o S 2 rfl rfl (by omega) hL dL_law_1682 dL_law_1683 dL_law_1685 dL_law_1686 dL_law_1687 ?_
  refine j_cc o h1 dL_law_1688 jc_L_178 jn_X11_least rfl rfl hk hn rfl rfl (fun Mb Nb g1 => ?_)
  refine j_aload_n o dL_law_1691 rfl ?_
  refine j_arg o S 1 rfl rfl (by omega) hL dL_law_1692 dL_law_1693 dL_law_1695 dL_law_1696 dL_law_1697 ?_
  refine j_arg o S 2 rfl rfl (by omega) hL dL_law_1698 dL_law_1699 dL_law_1701 dL_law_1702 dL_law_1703 ?_
  refine j_mc o h2 dL_law_1704 jc_L_181 jn_X12_least rfl rfl hk hn rfl rfl (fun Mn Nn g2 => ?_)
  exact j_icmp_eq o (tgt := 2070) dL_law_1707 (by decide) (fun _ => K _ _ _ _ _ _ e2 hX2 g1 g2) (fun z => absurd rfl z)
set_option maxRecDepth 20000 in
theorem case_ruling (o : jokL X l0 nm) (S : jSc X b Ls xs) (hG : GC P Mc Nc A t) (hX : wfX A) (ht : t < 4000) (hM : RelM Mm A) (hi : i + 5 < Ls) (hL : Ls ≤ 3073) (hk : k ≤ 601024) (hn : n ≤ 7293000) (K : KO X P A t k n E b i) : J X P (cmb Mc Mm) (cmbN Nc Nm h) k n E 7 1712 (loL P b i) [] := by
  obtain ⟨v, A2, e2, hX2, h1, h2⟩ := b_ruling (Nm := Nm) l0 (sP := shP P) hG hX ht hM (xs (i + 1)) (xs (i + 2))
  refine j_aload_n o dL_law_1712 rfl ?_
  refine j_arg o S 1 rfl rfl (by omega) hL dL_law_1713 dL_law_1714 dL_law_1716 dL_law_1717 dL_law_1718 ?_
  refine j_arg o S 2 rfl rfl (by omega) hL dL_law_1719 dL_law_1720 dL_law_1722 dL_law_1723 dL_law_1724 ?_
  refine j_cc o h1 dL_law_1725 jc_L_182 jn_X11_ruling rfl rfl hk hn rfl rfl (fun Mb Nb g1 => ?_)
  refine j_aload_n o dL_law_1728 rfl ?_
  refine j_arg o S 1 rfl rfl (by omega) hL dL_law_1729 dL_law_1730 dL_law_1732 dL_law_1733 dL_law_1734 ?_
  refine j_arg o S 2 rfl rfl (by omega) hL dL_law_1735 dL_law_1736 dL_law_1738 dL_law_1739 dL_law_1740 ?_
  refine j_mc o h2 dL_law_1741 jc_L_185 jn_X12_ruling rfl rfl hk hn rfl rfl (fun Mn Nn g2 => ?_)
  exact j_icmp_eq o (tgt := 2070) dL_law_1744 (by decide) (fun _ => K _ _ _ _ _ _ e2 hX2 g1 g2) (fun z => absurd rfl z)
set_option maxRecDepth 20000 in
theorem case_against (o : jokL X l0 nm) (S : jSc X b Ls xs) (hG : GC P Mc Nc A t) (hX : wfX A) (ht : t < 4000) (hM : RelM Mm A) (hi : i + 5 < Ls) (hL : Ls ≤ 3073) (hk : k ≤ 601024) (hn : n ≤ 7293000) (K : KO X P A t k n E b i) : J X P (cmb Mc Mm) (cmbN Nc Nm h) k n E 7 1749 (loL P b i) [] := by
  obtain ⟨v, A2, e2, hX2, h1, h2⟩ := b_against (Nm := Nm) l0 (sP := shP P) hG hX ht hM (xs (i + 1))
  refine j_aload_n o dL_law_1749 rfl ?_
  refine j_arg o S 1 rfl rfl (by omega) hL dL_law_1750 dL_law_1751 dL_law_1753 dL_law_1754 dL_law_1755 ?_
  refine j_cc o h1 dL_law_1756 jc_L_186 jn_X11_against rfl rfl hk hn rfl rfl (fun Mb Nb g1 => ?_)
  refine j_aload_n o dL_law_1759 rfl ?_
  refine j_arg o S 1 rfl rfl (by omega) hL dL_law_1760 dL_law_1761 dL_law_1763 dL_law_1764 dL_law_1765 ?_
  refine j_mc o h2 dL_law_1766 jc_L_189 jn_X12_against rfl rfl hk hn rfl rfl (fun Mn Nn g2 => ?_)
  exact j_icmp_eq o (tgt := 2070) dL_law_1769 (by decide) (fun _ => K _ _ _ _ _ _ e2 hX2 g1 g2) (fun z => absurd rfl z)
set_option maxRecDepth 20000 in
theorem case_cure (o : jokL X l0 nm) (S : jSc X b Ls xs) (hG : GC P Mc Nc A t) (hX : wfX A) (ht : t < 4000) (hM : RelM Mm A) (hi : i + 5 < Ls) (hL : Ls ≤ 3073) (hk : k ≤ 601024) (hn : n ≤ 7293000) (K : KO X P A t k n E b i) : J X P (cmb Mc Mm) (cmbN Nc Nm h) k n E 7 1774 (loL P b i) [] := by
  obtain ⟨v, A2, e2, hX2, h1, h2⟩ := b_cure (Nm := Nm) l0 (sP := shP P) hG hX ht hM (xs (i + 1))
  refine j_aload_n o dL_law_1774 rfl ?_
  refine j_arg o S 1 rfl rfl (by omega) hL dL_law_1775 dL_law_1776 dL_law_1778 dL_law_1779 dL_law_1780 ?_
  refine j_cc o h1 dL_law_1781 jc_L_190 jn_X11_cure rfl rfl hk hn rfl rfl (fun Mb Nb g1 => ?_)
  refine j_aload_n o dL_law_1784 rfl ?_
  refine j_arg o S 1 rfl rfl (by omega) hL dL_law_1785 dL_law_1786 dL_law_1788 dL_law_1789 dL_law_1790 ?_
  refine j_mc o h2 dL_law_1791 jc_L_193 jn_X12_cure rfl rfl hk hn rfl rfl (fun Mn Nn g2 => ?_)
  exact j_icmp_eq o (tgt := 2070) dL_law_1794 (by decide) (fun _ => K _ _ _ _ _ _ e2 hX2 g1 g2) (fun z => absurd rfl z)
set_option maxRecDepth 20000 in
theorem case_burden (o : jokL X l0 nm) (S : jSc X b Ls xs) (hG : GC P Mc Nc A t) (hX : wfX A) (ht : t < 4000) (hM : RelM Mm A) (hi : i + 5 < Ls) (hL : Ls ≤ 3073) (hk : k ≤ 601024) (hn : n ≤ 7293000) (K : KO X P A t k n E b i) : J X P (cmb Mc Mm) (cmbN Nc Nm h) k n E 7 1799 (loL P b i) [] := by
  obtain ⟨v, A2, e2, hX2, h1, h2⟩ := b_burden (Nm := Nm) l0 (sP := shP P) hG hX ht hM (xs (i + 1)) (xs (i + 2))
  refine j_aload_n o dL_law_1799 rfl ?_
  refine j_arg o S 1 rfl rfl (by omega) hL dL_law_1800 dL_law_1801 dL_law_1803 dL_law_1804 dL_law_1805 ?_
  refine j_arg o S 2 rfl rfl (by omega) hL dL_law_1806 dL_law_1807 dL_law_1809 dL_law_1810 dL_law_1811 ?_
  refine j_cc o h1 dL_law_1812 jc_L_194 jn_X11_burden rfl rfl hk hn rfl rfl (fun Mb Nb g1 => ?_)
  refine j_aload_n o dL_law_1815 rfl ?_
  refine j_arg o S 1 rfl rfl (by omega) hL dL_law_1816 dL_law_1817 dL_law_1819 dL_law_1820 dL_law_1821 ?_
  refine j_arg o S 2 rfl rfl (by omega) hL dL_law_1822 dL_law_1823 dL_law_1825 dL_law_1826 dL_law_1827 ?_
  refine j_mc o h2 dL_law_1828 jc_L_197 jn_X12_burden rfl rfl hk hn rfl rfl (fun Mn Nn g2 => ?_)
  exact j_icmp_eq o (tgt := 2070) dL_law_1831 (by decide) (fun _ => K _ _ _ _ _ _ e2 hX2 g1 g2) (fun z => absurd rfl z)
set_option maxRecDepth 20000 in
theorem case_given (o : jokL X l0 nm) (S : jSc X b Ls xs) (hG : GC P Mc Nc A t) (hX : wfX A) (ht : t < 4000) (hM : RelM Mm A) (hi : i + 5 < Ls) (hL : Ls ≤ 3073) (hk : k ≤ 601024) (hn : n ≤ 7293000) (K : KO X P A t k n E b i) : J X P (cmb Mc Mm) (cmbN Nc Nm h) k n E 7 1836 (loL P b i) [] := by
  obtain ⟨v, A2, e2, hX2, h1, h2⟩ := b_given (Nm := Nm) l0 (sP := shP P) hG hX ht hM (xs (i + 1)) (xs (i + 2)) (xs (i + 3)) (xs (i + 4))
  refine j_aload_n o dL_law_1836 rfl ?_
  refine j_arg o S 1 rfl rfl (by omega) hL dL_law_1837 dL_law_1838 dL_law_1840 dL_law_1841 dL_law_1842 ?_
  refine j_arg o S 2 rfl rfl (by omega) hL dL_law_1843 dL_law_1844 dL_law_1846 dL_law_1847 dL_law_1848 ?_
  refine j_arg o S 3 rfl rfl (by omega) hL dL_law_1849 dL_law_1850 dL_law_1852 dL_law_1853 dL_law_1854 ?_
  refine j_arg o S 4 rfl rfl (by omega) hL dL_law_1855 dL_law_1856 dL_law_1858 dL_law_1859 dL_law_1860 ?_
  refine j_cc o h1 dL_law_1861 jc_L_198 jn_X11_given rfl rfl hk hn rfl rfl (fun Mb Nb g1 => ?_)
  refine j_aload_n o dL_law_1864 rfl ?_
  refine j_arg o S 1 rfl rfl (by omega) hL dL_law_1865 dL_law_1866 dL_law_1868 dL_law_1869 dL_law_1870 ?_
  refine j_arg o S 2 rfl rfl (by omega) hL dL_law_1871 dL_law_1872 dL_law_1874 dL_law_1875 dL_law_1876 ?_
  refine j_arg o S 3 rfl rfl (by omega) hL dL_law_1877 dL_law_1878 dL_law_1880 dL_law_1881 dL_law_1882 ?_
  refine j_arg o S 4 rfl rfl (by omega) hL dL_law_1883 dL_law_1884 dL_law_1886 dL_law_1887 dL_law_1888 ?_
  refine j_mc o h2 dL_law_1889 jc_L_201 jn_X12_given rfl rfl hk hn rfl rfl (fun Mn Nn g2 => ?_)
  exact j_icmp_eq o (tgt := 2070) dL_law_1892 (by decide) (fun _ => K _ _ _ _ _ _ e2 hX2 g1 g2) (fun z => absurd rfl z)
set_option maxRecDepth 20000 in
theorem case_office (o : jokL X l0 nm) (S : jSc X b Ls xs) (hG : GC P Mc Nc A t) (hX : wfX A) (ht : t < 4000) (hM : RelM Mm A) (hi : i + 5 < Ls) (hL : Ls ≤ 3073) (hk : k ≤ 601024) (hn : n ≤ 7293000) (K : KO X P A t k n E b i) : J X P (cmb Mc Mm) (cmbN Nc Nm h) k n E 7 1897 (loL P b i) [] := by
  obtain ⟨v, A2, e2, hX2, h1, h2⟩ := b_office (Nm := Nm) l0 (sP := shP P) hG hX ht hM (xs (i + 1)) (xs (i + 2)) (xs (i + 3))
  refine j_aload_n o dL_law_1897 rfl ?_
  refine j_arg o S 1 rfl rfl (by omega) hL dL_law_1898 dL_law_1899 dL_law_1901 dL_law_1902 dL_law_1903 ?_
  refine j_arg o S 2 rfl rfl (by omega) hL dL_law_1904 dL_law_1905 dL_law_1907 dL_law_1908 dL_law_1909 ?_
  refine j_arg o S 3 rfl rfl (by omega) hL dL_law_1910 dL_law_1911 dL_law_1913 dL_law_1914 dL_law_1915 ?_
  refine j_cc o h1 dL_law_1916 jc_L_202 jn_X11_office rfl rfl hk hn rfl rfl (fun Mb Nb g1 => ?_)
  refine j_aload_n o dL_law_1919 rfl ?_
  refine j_arg o S 1 rfl rfl (by omega) hL dL_law_1920 dL_law_1921 dL_law_1923 dL_law_1924 dL_law_1925 ?_
  refine j_arg o S 2 rfl rfl (by omega) hL dL_law_1926 dL_law_1927 dL_law_1929 dL_law_1930 dL_law_1931 ?_
  refine j_arg o S 3 rfl rfl (by omega) hL dL_law_1932 dL_law_1933 dL_law_1935 dL_law_1936 dL_law_1937 ?_
  refine j_mc o h2 dL_law_1938 jc_L_205 jn_X12_office rfl rfl hk hn rfl rfl (fun Mn Nn g2 => ?_)
  exact j_icmp_eq o (tgt := 2070) dL_law_1941 (by decide) (fun _ => K _ _ _ _ _ _ e2 hX2 g1 g2) (fun z => absurd rfl z)
set_option maxRecDepth 20000 in
theorem case_likely (o : jokL X l0 nm) (S : jSc X b Ls xs) (hG : GC P Mc Nc A t) (hX : wfX A) (ht : t < 4000) (hM : RelM Mm A) (hi : i + 5 < Ls) (hL : Ls ≤ 3073) (hk : k ≤ 601024) (hn : n ≤ 7293000) (K : KO X P A t k n E b i) : J X P (cmb Mc Mm) (cmbN Nc Nm h) k n E 7 1946 (loL P b i) [] := by
  obtain ⟨v, A2, e2, hX2, h1, h2⟩ := b_likely (Nm := Nm) l0 (sP := shP P) hG hX ht hM (xs (i + 1)) (xs (i + 2)) (xs (i + 3))
  refine j_aload_n o dL_law_1946 rfl ?_
  refine j_arg o S 1 rfl rfl (by omega) hL dL_law_1947 dL_law_1948 dL_law_1950 dL_law_1951 dL_law_1952 ?_
  refine j_arg o S 2 rfl rfl (by omega) hL dL_law_1953 dL_law_1954 dL_law_1956 dL_law_1957 dL_law_1958 ?_
  refine j_arg o S 3 rfl rfl (by omega) hL dL_law_1959 dL_law_1960 dL_law_1962 dL_law_1963 dL_law_1964 ?_
  refine j_cc o h1 dL_law_1965 jc_L_206 jn_X11_likely rfl rfl hk hn rfl rfl (fun Mb Nb g1 => ?_)
  refine j_aload_n o dL_law_1968 rfl ?_
  refine j_arg o S 1 rfl rfl (by omega) hL dL_law_1969 dL_law_1970 dL_law_1972 dL_law_1973 dL_law_1974 ?_
  refine j_arg o S 2 rfl rfl (by omega) hL dL_law_1975 dL_law_1976 dL_law_1978 dL_law_1979 dL_law_1980 ?_
  refine j_arg o S 3 rfl rfl (by omega) hL dL_law_1981 dL_law_1982 dL_law_1984 dL_law_1985 dL_law_1986 ?_
  refine j_mc o h2 dL_law_1987 jc_L_209 jn_X12_likely rfl rfl hk hn rfl rfl (fun Mn Nn g2 => ?_)
  refine j_lcmp o dL_law_1990 ?_
  rw [lgc_self]
  exact j_if_eq o (tgt := 2070) dL_law_1991 (by decide) (fun _ => K _ _ _ _ _ _ e2 hX2 g1 g2) (fun z => absurd rfl z)
set_option maxRecDepth 20000 in
theorem case_straight (o : jokL X l0 nm) (S : jSc X b Ls xs) (hG : GC P Mc Nc A t) (hX : wfX A) (ht : t < 4000) (hM : RelM Mm A) (hi : i + 5 < Ls) (hL : Ls ≤ 3073) (hk : k ≤ 601024) (hn : n ≤ 7293000) (K : KO X P A t k n E b i) : J X P (cmb Mc Mm) (cmbN Nc Nm h) k n E 7 1996 (loL P b i) [] := by
  obtain ⟨v, A2, e2, hX2, h1, h2⟩ := b_straight (Nm := Nm) l0 (sP := shP P) hG hX ht hM (xs (i + 1)) (xs (i + 2)) (xs (i + 3))
  refine j_aload_n o dL_law_1996 rfl ?_
  refine j_arg o S 1 rfl rfl (by omega) hL dL_law_1997 dL_law_1998 dL_law_2000 dL_law_2001 dL_law_2002 ?_
  refine j_arg o S 2 rfl rfl (by omega) hL dL_law_2003 dL_law_2004 dL_law_2006 dL_law_2007 dL_law_2008 ?_
  refine j_arg o S 3 rfl rfl (by omega) hL dL_law_2009 dL_law_2010 dL_law_2012 dL_law_2013 dL_law_2014 ?_
  refine j_cc o h1 dL_law_2015 jc_L_210 jn_X11_straight rfl rfl hk hn rfl rfl (fun Mb Nb g1 => ?_)
  refine j_aload_n o dL_law_2018 rfl ?_
  refine j_arg o S 1 rfl rfl (by omega) hL dL_law_2019 dL_law_2020 dL_law_2022 dL_law_2023 dL_law_2024 ?_
  refine j_arg o S 2 rfl rfl (by omega) hL dL_law_2025 dL_law_2026 dL_law_2028 dL_law_2029 dL_law_2030 ?_
  refine j_arg o S 3 rfl rfl (by omega) hL dL_law_2031 dL_law_2032 dL_law_2034 dL_law_2035 dL_law_2036 ?_
  refine j_mc o h2 dL_law_2037 jc_L_213 jn_X12_straight rfl rfl hk hn rfl rfl (fun Mn Nn g2 => ?_)
  exact j_icmp_eq o (tgt := 2070) dL_law_2040 (by decide) (fun _ => K _ _ _ _ _ _ e2 hX2 g1 g2) (fun z => absurd rfl z)
set_option maxRecDepth 20000 in
theorem case_count (o : jokL X l0 nm) (S : jSc X b Ls xs) (hG : GC P Mc Nc A t) (hX : wfX A) (ht : t < 4000) (hM : RelM Mm A) (hi : i + 5 < Ls) (hL : Ls ≤ 3073) (hk : k ≤ 601024) (hn : n ≤ 7293000) (K : KO X P A t k n E b i) : J X P (cmb Mc Mm) (cmbN Nc Nm h) k n E 7 2045 (loL P b i) [] := by
  obtain ⟨v, A2, e2, hX2, h1, h2⟩ := b_count (Nm := Nm) l0 (sP := shP P) hG hX ht hM (xs (i + 1))
  refine j_aload_n o dL_law_2045 rfl ?_
  refine j_arg o S 1 rfl rfl (by omega) hL dL_law_2046 dL_law_2047 dL_law_2049 dL_law_2050 dL_law_2051 ?_
  refine j_cc o h1 dL_law_2052 jc_L_214 jn_X11_count rfl rfl hk hn rfl rfl (fun Mb Nb g1 => ?_)
  refine j_aload_n o dL_law_2055 rfl ?_
  refine j_arg o S 1 rfl rfl (by omega) hL dL_law_2056 dL_law_2057 dL_law_2059 dL_law_2060 dL_law_2061 ?_
  refine j_mc o h2 dL_law_2062 jc_L_217 jn_X12_count rfl rfl hk hn rfl rfl (fun Mn Nn g2 => ?_)
  exact j_icmp_eq o (tgt := 2070) dL_law_2065 (by decide) (fun _ => K _ _ _ _ _ _ e2 hX2 g1 g2) (fun z => absurd rfl z)
end CAS
