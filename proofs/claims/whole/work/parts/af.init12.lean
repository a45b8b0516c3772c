/-! A NEW OBJECT, the reference's side -/
abbrev mobL : List Nat := [0, 0, 0, 2, 0, 0, 0, 0, 0, 3, 0, 0, 4, 5, 6, 7, 0, 8, 9, 10, 11, 12, 13, 14, 15, 0, 0, 0, 16, 17, 18, 0, 19, 20, 21, 22, 23, 1000, 24, 25, 26, 27, 28, 29, 0]
theorem mob_1 : mob 1 = some (12, mobL) := rfl
theorem mob_ne {k : Nat} (h : k ≠ 1) : mob k = none := if_neg h
theorem LM_any {tA : Nat → ClassId} {P P' : jP} {k : Nat} {f : Nat → Int32} {h : Nat → Int64} (hk : k ≠ 1) : LM tA P k f h = LM tA P' k f h := by
  rcases Nat.lt_or_ge k 30 with z | z
  · have : k = 0 ∨ k = 1 ∨ k = 2 ∨ k = 3 ∨ k = 4 ∨ k = 5 ∨ k = 6 ∨ k = 7 ∨ k = 8 ∨ k = 9 ∨ k = 10 ∨ k = 11 ∨ k = 12 ∨ k = 13 ∨ k = 14 ∨ k = 15 ∨ k = 16 ∨ k = 17 ∨ k = 18 ∨ k = 19 ∨ k = 20 ∨ k = 21 ∨ k = 22 ∨ k = 23 ∨ k = 24 ∨ k = 25 ∨ k = 26 ∨ k = 27 ∨ k = 28 ∨ k = 29 := by omega
    rcases this with rfl | rfl | rfl | rfl | rfl | rfl | rfl | rfl | rfl | rfl | rfl | rfl | rfl | rfl | rfl | rfl | rfl | rfl | rfl | rfl | rfl | rfl | rfl | rfl | rfl | rfl | rfl | rfl | rfl | rfl
    all_goals first | exact absurd rfl hk | rfl
  · obtain ⟨j, rfl⟩ : ∃ j, k = j + 30 := ⟨k - 30, by omega⟩
    rfl
/-- what the object's row of the tables turns on is there; all else is 0 -/
def WM (P : jP) (M : jM) : Prop := (∀ j d, mobL[j]? = some d → d ≠ 0 → d ≠ 1000 → M 1 j ≠ 0 → P.2.1 d = true) ∧ ∀ k, k < 1000 → k ≠ 1 → M k = fun _ => 0
theorem mobL_1001 : ∀ d ∈ mobL, d ≠ 1001 := by decide
/-- a cell reads the same in two worlds that agree on what is there -/
theorem LMK_same {P P' : jP} {k : Nat} {f : Nat → Int32} {h : Nat → Int64} (e1 : P'.2.1 k = P.2.1 k) (e3 : k = 1 → ∀ j d, mobL[j]? = some d → d ≠ 0 → d ≠ 1000 → f j ≠ 0 → P'.1 d = P.1 d) (tA : Nat → ClassId) : LR mob LM tA P' k f h = LR mob LM tA P k f h := by
  by_cases hp : P.2.1 k = true
  · have hp' : P'.2.1 k = true := e1.trans hp
    by_cases hk : k = 1
    · subst hk
      rw [LR_ob hp' mob_1, LR_ob hp mob_1]
      congr 3
      refine rfls_eqP mobL 0 (fun j d hj => ?_)
      rw [Nat.zero_add]
      by_cases d0 : d = 0
      · subst d0; rfl
      · by_cases d1 : d = 1000
        · subst d1; rfl
        · have d2 : d ≠ 1001 := mobL_1001 d (List.mem_of_getElem? hj)
          unfold rfv
          rw [if_neg d0, if_neg d1, if_neg d2, if_neg d0, if_neg d1, if_neg d2]
          by_cases z : f j = 0
          · rw [if_pos z, if_pos z]
          · rw [if_neg z, if_neg z, e3 rfl j d hj d0 d1 z]
    · rw [LR_ar hp' (mob_ne hk), LR_ar hp (mob_ne hk)]
      exact LM_any hk
  · have n1 : P.2.1 k = false := by
      cases e : P.2.1 k with
      | true => exact absurd e hp
      | false => rfl
    rw [LR_no n1, LR_no (e1.trans n1)]
theorem WM.free {P : jP} {M : jM} {g : Nat} (h : WM P M) (hp : P.2.1 g = false) : rfree mob LM P M g := by
  refine ⟨hp, fun a tA k f hh hk hpk hf => ?_⟩
  subst hf
  exact LMK_same (pnew_pres hk) (fun e j d hj d0 d1 hf => pnew_ne hp d (by subst e; exact h.1 j d hj d0 d1 hf)) tA
theorem WM.new {P : jP} {M : jM} {g : Nat} (h : WM P M) (a : Nat) (hg : g ≠ 1) : WM (pnew P g a) (zM M g) := by
  refine ⟨fun j d hj d0 d1 hf => pnew_mono d (h.1 j d hj d0 d1 (by rw [zM_ne (Ne.symm hg)] at hf; exact hf)), fun k hk h1 => ?_⟩
  by_cases z : k = g
  · subst z; exact zM_at
  · rw [zM_ne z]; exact h.2 k hk h1
theorem WM.up {P : jP} {M : jM} {j d : Nat} {v : Int32} (h : WM P M) (hj : mobL[j]? = some d) (hp : d = 0 ∨ P.2.1 d = true) : WM P (upM M 1 j v) := by
  refine ⟨fun i x hi x0 x1 hf => ?_, fun k hk h1 => by rw [upM_ne _ _ _ h1]; exact h.2 k hk h1⟩
  rw [up_at] at hf
  by_cases z : i = j
  · subst z
    rw [hj] at hi
    cases hi
    exact hp.resolve_left x0
  · rw [if_neg z] at hf
    exact h.1 i x hi x0 x1 hf
abbrev keysM : List Nat := [29, 28, 27, 26, 25, 24, 23, 22, 21, 20, 19, 18, 17, 16, 15, 14, 13, 12, 11, 10, 9, 8, 7, 6, 5, 4, 3, 2, 1]
def bornM (n : Nat) (M : jM) : Prop := (∀ j d, mobL[j]? = some d → d ≠ 0 → d ≠ 1000 → M 1 j = 1) ∧ M 1 1 = nI n ∧ M 1 2 = nI (2 ^ n) ∧ (∀ j, j = 4 ∨ j = 25 ∨ j = 26 ∨ j = 27 ∨ j = 31 ∨ j = 44 → M 1 j = 0) ∧ (∀ f, M 12 f = if f < 9 then 1 else 0) ∧ (∀ q, M 13 q = if q < 10 then 1 else 0) ∧ ∀ k, k < 1000 → k ≠ 1 → k ≠ 12 → k ≠ 13 → M k = fun _ => 0
set_option maxRecDepth 20000 in
theorem i_X12 {P : jP} {M : jM} {N : jN} {n : Nat} {a1 : Int32} (hS : PR P [1]) (hM : ∀ k, k < 1000 → M k = fun _ => 0) (h1 : 1 ≤ n) (h9 : n ≤ 9) (ha : (if 1 < (if a1 < 9 then a1 else 9) then (if a1 < 9 then a1 else 9) else 1) = nI n) {Q : jP → jM → jN → Prop}
    (hq : ∀ P' M' N', PR P' keysM → P'.2.2 = P.2.2 → bornM n M' → Q P' M' N') : w_X12_init P a1 M N Q := by
  have C := two_le h9
  have w1 : WM P M := ⟨fun j d hj d0 d1 hf => absurd (by rw [hM 1 (by omega)]) hf, fun k hk _ => hM k hk⟩
  have m1 : M 1 = fun _ => 0 := hM 1 (by omega)
  unfold w_X12_init
  refine ⟨hS.yes 1 (by omega) (by decide), ?_⟩
  refine ⟨w1.free (hS.no 2 (by omega) (by decide)), ?_⟩
  intro b3 P4 eP4
  have S2 := hS.new 2 b3
  have w2 := (w1.new b3 (show 2 ≠ 1 by omega)).up (j := 3) (d := 2) (v := 1) rfl (Or.inr (pnew_at _ _ _).1)
  rw [← eP4] at S2 w2
  refine ⟨w2.free (S2.no 3 (by omega) (by decide)), ?_⟩
  intro b11 P12 eP12
  have S3 := S2.new 3 b11
  have w3 := (w2.new b11 (show 3 ≠ 1 by omega)).up (j := 9) (d := 3) (v := 1) rfl (Or.inr (pnew_at _ _ _).1)
  rw [← eP12] at S3 w3
  intro M19 eM19
  rw [← eM19] at w3
  refine ⟨w3.free (S3.no 4 (by omega) (by decide)), ?_⟩
  intro b21 P22 eP22
  have S4 := S3.new 4 b21
  have w4 := (w3.new b21 (show 4 ≠ 1 by omega)).up (j := 12) (d := 4) (v := 1) rfl (Or.inr (pnew_at _ _ _).1)
  rw [← eP22] at S4 w4
  intro M30 eM30
  rw [← eM30] at w4
  refine ⟨w4.free (S4.no 5 (by omega) (by decide)), ?_⟩
  intro b32 P33 eP33
  have S5 := S4.new 5 b32
  have w5 := (w4.new b32 (show 5 ≠ 1 by omega)).up (j := 13) (d := 5) (v := 1) rfl (Or.inr (pnew_at _ _ _).1)
  rw [← eP33] at S5 w5
  intro N42 _
  refine ⟨w5.free (S5.no 6 (by omega) (by decide)), ?_⟩
  intro b44 P45 eP45
  have S6 := S5.new 6 b44
  have w6 := (w5.new b44 (show 6 ≠ 1 by omega)).up (j := 14) (d := 6) (v := 1) rfl (Or.inr (pnew_at _ _ _).1)
  rw [← eP45] at S6 w6
  intro M55 eM55
  rw [← eM55] at w6
  refine ⟨w6.free (S6.no 7 (by omega) (by decide)), ?_⟩
  intro b57 P58 eP58
  have S7 := S6.new 7 b57
  have w7 := (w6.new b57 (show 7 ≠ 1 by omega)).up (j := 15) (d := 7) (v := 1) rfl (Or.inr (pnew_at _ _ _).1)
  rw [← eP58] at S7 w7
  intro M69 eM69
  rw [← eM69] at w7
  refine ⟨w7.free (S7.no 8 (by omega) (by decide)), ?_⟩
  intro b71 P72 eP72
  have S8 := S7.new 8 b71
  have w8 := (w7.new b71 (show 8 ≠ 1 by omega)).up (j := 17) (d := 8) (v := 1) rfl (Or.inr (pnew_at _ _ _).1)
  rw [← eP72] at S8 w8
  refine ⟨w8.free (S8.no 9 (by omega) (by decide)), ?_⟩
  intro b85 P86 eP86
  have S9 := S8.new 9 b85
  have w9 := (w8.new b85 (show 9 ≠ 1 by omega)).up (j := 18) (d := 9) (v := 1) rfl (Or.inr (pnew_at _ _ _).1)
  rw [← eP86] at S9 w9
  intro M99 eM99
  rw [← eM99] at w9
  intro N100 _
  refine ⟨w9.free (S9.no 10 (by omega) (by decide)), ?_⟩
  intro b102 P103 eP103
  have S10 := S9.new 10 b102
  have w10 := (w9.new b102 (show 10 ≠ 1 by omega)).up (j := 19) (d := 10) (v := 1) rfl (Or.inr (pnew_at _ _ _).1)
  rw [← eP103] at S10 w10
  intro M117 eM117
  rw [← eM117] at w10
  refine ⟨w10.free (S10.no 11 (by omega) (by decide)), ?_⟩
  intro b119 P120 eP120
  have S11 := S10.new 11 b119
  have w11 := (w10.new b119 (show 11 ≠ 1 by omega)).up (j := 20) (d := 11) (v := 1) rfl (Or.inr (pnew_at _ _ _).1)
  rw [← eP120] at S11 w11
  refine ⟨w11.free (S11.no 12 (by omega) (by decide)), ?_⟩
  intro b136 P137 eP137
  have S12 := S11.new 12 b136
  have w12 := (w11.new b136 (show 12 ≠ 1 by omega)).up (j := 21) (d := 12) (v := 1) rfl (Or.inr (pnew_at _ _ _).1)
  rw [← eP137] at S12 w12
  intro M153 eM153
  rw [← eM153] at w12
  intro N154 _
  refine ⟨w12.free (S12.no 13 (by omega) (by decide)), ?_⟩
  intro b156 P157 eP157
  have S13 := S12.new 13 b156
  have w13 := (w12.new b156 (show 13 ≠ 1 by omega)).up (j := 22) (d := 13) (v := 1) rfl (Or.inr (pnew_at _ _ _).1)
  rw [← eP157] at S13 w13
  intro M174 eM174
  rw [← eM174] at w13
  refine ⟨w13.free (S13.no 14 (by omega) (by decide)), ?_⟩
  intro b176 P177 eP177
  have S14 := S13.new 14 b176
  have w14 := (w13.new b176 (show 14 ≠ 1 by omega)).up (j := 23) (d := 14) (v := 1) rfl (Or.inr (pnew_at _ _ _).1)
  rw [← eP177] at S14 w14
  refine ⟨w14.free (S14.no 15 (by omega) (by decide)), ?_⟩
  intro b196 P197 eP197
  have S15 := S14.new 15 b196
  have w15 := (w14.new b196 (show 15 ≠ 1 by omega)).up (j := 24) (d := 15) (v := 1) rfl (Or.inr (pnew_at _ _ _).1)
  rw [← eP197] at S15 w15
  intro M216 eM216
  rw [← eM216] at w15
  intro N217 _
  refine ⟨w15.free (S15.no 16 (by omega) (by decide)), ?_⟩
  intro b219 P220 eP220
  have S16 := S15.new 16 b219
  have w16 := (w15.new b219 (show 16 ≠ 1 by omega)).up (j := 28) (d := 16) (v := 1) rfl (Or.inr (pnew_at _ _ _).1)
  rw [← eP220] at S16 w16
  intro M240 eM240
  rw [← eM240] at w16
  refine ⟨w16.free (S16.no 17 (by omega) (by decide)), ?_⟩
  intro b242 P243 eP243
  have S17 := S16.new 17 b242
  have w17 := (w16.new b242 (show 17 ≠ 1 by omega)).up (j := 29) (d := 17) (v := 1) rfl (Or.inr (pnew_at _ _ _).1)
  rw [← eP243] at S17 w17
  refine ⟨w17.free (S17.no 18 (by omega) (by decide)), ?_⟩
  intro b265 P266 eP266
  have S18 := S17.new 18 b265
  have w18 := (w17.new b265 (show 18 ≠ 1 by omega)).up (j := 30) (d := 18) (v := 1) rfl (Or.inr (pnew_at _ _ _).1)
  rw [← eP266] at S18 w18
  intro M288 eM288
  rw [← eM288] at w18
  intro N289 _
  refine ⟨w18.free (S18.no 19 (by omega) (by decide)), ?_⟩
  intro b291 P292 eP292
  have S19 := S18.new 19 b291
  have w19 := (w18.new b291 (show 19 ≠ 1 by omega)).up (j := 32) (d := 19) (v := 1) rfl (Or.inr (pnew_at _ _ _).1)
  rw [← eP292] at S19 w19
  intro M315 eM315
  rw [← eM315] at w19
  refine ⟨w19.free (S19.no 20 (by omega) (by decide)), ?_⟩
  intro b317 P318 eP318
  have S20 := S19.new 20 b317
  have w20 := (w19.new b317 (show 20 ≠ 1 by omega)).up (j := 33) (d := 20) (v := 1) rfl (Or.inr (pnew_at _ _ _).1)
  rw [← eP318] at S20 w20
  refine ⟨w20.free (S20.no 21 (by omega) (by decide)), ?_⟩
  intro b343 P344 eP344
  have S21 := S20.new 21 b343
  have w21 := (w20.new b343 (show 21 ≠ 1 by omega)).up (j := 34) (d := 21) (v := 1) rfl (Or.inr (pnew_at _ _ _).1)
  rw [← eP344] at S21 w21
  intro M369 eM369
  rw [← eM369] at w21
  intro N370 _
  refine ⟨w21.free (S21.no 22 (by omega) (by decide)), ?_⟩
  intro b372 P373 eP373
  have S22 := S21.new 22 b372
  have w22 := (w21.new b372 (show 22 ≠ 1 by omega)).up (j := 35) (d := 22) (v := 1) rfl (Or.inr (pnew_at _ _ _).1)
  rw [← eP373] at S22 w22
  intro M399 eM399
  rw [← eM399] at w22
  refine ⟨w22.free (S22.no 23 (by omega) (by decide)), ?_⟩
  intro b401 P402 eP402
  have S23 := S22.new 23 b401
  have w23 := (w22.new b401 (show 23 ≠ 1 by omega)).up (j := 36) (d := 23) (v := 1) rfl (Or.inr (pnew_at _ _ _).1)
  rw [← eP402] at S23 w23
  refine ⟨w23.free (S23.no 24 (by omega) (by decide)), ?_⟩
  intro b430 P431 eP431
  have S24 := S23.new 24 b430
  have w24 := (w23.new b430 (show 24 ≠ 1 by omega)).up (j := 38) (d := 24) (v := 1) rfl (Or.inr (pnew_at _ _ _).1)
  rw [← eP431] at S24 w24
  intro M459 eM459
  rw [← eM459] at w24
  intro N460 _
  refine ⟨w24.free (S24.no 25 (by omega) (by decide)), ?_⟩
  intro b462 P463 eP463
  have S25 := S24.new 25 b462
  have w25 := (w24.new b462 (show 25 ≠ 1 by omega)).up (j := 39) (d := 25) (v := 1) rfl (Or.inr (pnew_at _ _ _).1)
  rw [← eP463] at S25 w25
  intro M492 eM492
  rw [← eM492] at w25
  refine ⟨w25.free (S25.no 26 (by omega) (by decide)), ?_⟩
  intro b494 P495 eP495
  have S26 := S25.new 26 b494
  have w26 := (w25.new b494 (show 26 ≠ 1 by omega)).up (j := 40) (d := 26) (v := 1) rfl (Or.inr (pnew_at _ _ _).1)
  rw [← eP495] at S26 w26
  refine ⟨w26.free (S26.no 27 (by omega) (by decide)), ?_⟩
  intro b526 P527 eP527
  have S27 := S26.new 27 b526
  have w27 := (w26.new b526 (show 27 ≠ 1 by omega)).up (j := 41) (d := 27) (v := 1) rfl (Or.inr (pnew_at _ _ _).1)
  rw [← eP527] at S27 w27
  intro M558 eM558
  rw [← eM558] at w27
  intro N559 _
  refine ⟨w27.free (S27.no 28 (by omega) (by decide)), ?_⟩
  intro b561 P562 eP562
  have S28 := S27.new 28 b561
  have w28 := (w27.new b561 (show 28 ≠ 1 by omega)).up (j := 42) (d := 28) (v := 1) rfl (Or.inr (pnew_at _ _ _).1)
  rw [← eP562] at S28 w28
  intro M594 eM594
  rw [← eM594] at w28
  refine ⟨w28.free (S28.no 29 (by omega) (by decide)), ?_⟩
  intro b596 P597 eP597
  have S29 := S28.new 29 b596
  have w29 := (w28.new b596 (show 29 ≠ 1 by omega)).up (j := 43) (d := 29) (v := 1) rfl (Or.inr (pnew_at _ _ _).1)
  rw [← eP597] at S29 w29
  rw [ha]
  intro M630 eM630 M631 eM631
  have sz : P597.2.2 = P.2.2 := by rw [eP597, eP562, eP527, eP495, eP463, eP431, eP402, eP373, eP344, eP318, eP292, eP266, eP243, eP220, eP197, eP177, eP157, eP137, eP120, eP103, eP86, eP72, eP58, eP45, eP33, eP22, eP12, eP4]; rfl
  have a11 : M630 1 1 = nI n := by rw [eM630]; rfl
  have a12 : M631 1 2 = nI (2 ^ n) := by rw [eM631, up_at, if_pos rfl, a11, shl_1 (by omega)]
  have b11 : M631 1 1 = nI n := by rw [eM631]; exact a11
  have wf : WM P597 M631 := by
    rw [eM631, eM630]
    exact (w29.up (j := 1) (d := 0) rfl (Or.inl rfl)).up (j := 2) (d := 0) rfl (Or.inl rfl)
  have one : ∀ j, j ∈ ([3, 9, 12, 13, 14, 15, 17, 18, 19, 20, 21, 22, 23, 24, 28, 29, 30, 32, 33, 34, 35, 36, 38, 39, 40, 41, 42, 43] : List Nat) → M631 1 j = 1 := by
    intro j hj
    rw [eM631, eM630, eM594, eM558, eM492, eM459, eM399, eM369, eM315, eM288, eM240, eM216, eM174, eM153, eM117, eM99, eM69, eM55, eM30, eM19]
    simp only [List.mem_cons, List.mem_nil_iff, or_false] at hj
    rcases hj with rfl | rfl | rfl | rfl | rfl | rfl | rfl | rfl | rfl | rfl | rfl | rfl | rfl | rfl | rfl | rfl | rfl | rfl | rfl | rfl | rfl | rfl | rfl | rfl | rfl | rfl | rfl | rfl <;> rfl
  have zero : ∀ j, j = 4 ∨ j = 25 ∨ j = 26 ∨ j = 27 ∨ j = 31 ∨ j = 44 → M631 1 j = 0 := by
    intro j hj
    rw [eM631, eM630, eM594, eM558, eM492, eM459, eM399, eM369, eM315, eM288, eM240, eM216, eM174, eM153, eM117, eM99, eM69, eM55, eM30, eM19]
    rcases hj with rfl | rfl | rfl | rfl | rfl | rfl
    · exact congrFun m1 4
    · exact congrFun m1 25
    · exact congrFun m1 26
    · exact congrFun m1 27
    · exact congrFun m1 31
    · exact congrFun m1 44
  have flg : ∀ j d, mobL[j]? = some d → d ≠ 0 → d ≠ 1000 → M631 1 j = 1 := by
    intro j d hj d0 d1
    have hl : j < 45 := (List.getElem?_eq_some_iff.mp hj).1
    by_cases z : j ∈ ([3, 9, 12, 13, 14, 15, 17, 18, 19, 20, 21, 22, 23, 24, 28, 29, 30, 32, 33, 34, 35, 36, 38, 39, 40, 41, 42, 43] : List Nat)
    · exact one j z
    · have key : ∀ j, j < 45 → j ∉ ([3, 9, 12, 13, 14, 15, 17, 18, 19, 20, 21, 22, 23, 24, 28, 29, 30, 32, 33, 34, 35, 36, 38, 39, 40, 41, 42, 43] : List Nat) → mobL[j]? = some 0 ∨ mobL[j]? = some 1000 := by decide
      rcases key j hl z with y | y
      · rw [hj] at y; cases y; exact absurd rfl d0
      · rw [hj] at y; cases y; exact absurd rfl d1
  clear eM631 eM630 eM19 eM30 eM55 eM69 eM99 eM117 eM153 eM174 eM216 eM240 eM288 eM315 eM369 eM399 eM459 eM492 eM558 eM594 one
  intro R261 h261
  refine lp_up (R := fun i => ∀ M2, (∀ k, k ≠ 12 → M2 k = M631 k) → (∀ f, M2 12 f = if f < i then 1 else 0) → R261 (nI i) M2) 9 (fun M2 g1 g2 => ?_) (fun i hi ih M2 g1 g2 => ?_) 0 (Nat.zero_le _) M631 (fun _ _ => rfl) (fun f => by rw [wf.2 12 (by omega) (by omega), if_neg (by omega)])
  · refine h261 _ _ (br_t (Int32.le_refl _) ?_)
    intro R282 h282
    refine lp_up (R := fun i => ∀ M3, (∀ k, k ≠ 13 → M3 k = M2 k) → (∀ q, M3 13 q = if q < i then 1 else 0) → R282 (nI i) M3) 10 (fun M3 t1 t2 => ?_) (fun i hi ih M3 t1 t2 => ?_) 0 (Nat.zero_le _) M2 (fun _ _ => rfl) (fun f => by rw [g1 13 (by omega), wf.2 13 (by omega) (by omega), if_neg (by omega)])
    · have e1 : M3 1 = M631 1 := by rw [t1 1 (by omega), g1 1 (by omega)]
      refine h282 _ _ (br_t (Int32.le_refl _) (hq P597 M3 _ S29 sz ⟨fun j d a b c => by rw [e1]; exact flg j d a b c, by rw [e1]; exact b11, by rw [e1]; exact a12, fun j hj => by rw [e1]; exact zero j hj, fun f => by rw [t1 12 (by omega)]; exact g2 f, t2, fun k a b c d => by rw [t1 k d, g1 k c]; exact wf.2 k a b⟩))
    · have n22 : ¬ M3 1 22 = 0 := by
        rw [t1 1 (by omega), g1 1 (by omega), flg 22 13 rfl (by omega) (by omega)]; decide
      refine h282 _ _ (br_f (nI_ge (b := 10) hi (by omega)) ⟨n22, vin hi (by omega), ?_⟩)
      rw [nI_clamp (show i < 2 ^ 31 by omega), nI_1]
      intro M4 e4
      refine ih M4 (fun k hk => by rw [e4, upM_ne _ _ _ hk]; exact t1 k hk) (fun q => ?_)
      rw [e4, up_at, t2]
      by_cases z : q = i
      · rw [if_pos z, if_pos (by omega)]
      · rw [if_neg z]
        by_cases y : q < i
        · rw [if_pos y, if_pos (by omega)]
        · rw [if_neg y, if_neg (by omega)]
  · have n21 : ¬ M2 1 21 = 0 := by
      rw [g1 1 (by omega), flg 21 12 rfl (by omega) (by omega)]; decide
    refine h261 _ _ (br_f (nI_ge (b := 9) hi (by omega)) ⟨n21, vin hi (by omega), ?_⟩)
    rw [nI_clamp (show i < 2 ^ 31 by omega), nI_1]
    intro M4 e4
    refine ih M4 (fun k hk => by rw [e4, upM_ne _ _ _ hk]; exact g1 k hk) (fun q => ?_)
    rw [e4, up_at, g2]
    by_cases z : q = i
    · rw [if_pos z, if_pos (by omega)]
    · rw [if_neg z]
      by_cases y : q < i
      · rw [if_pos y, if_pos (by omega)]
      · rw [if_neg y, if_neg (by omega)]
/-- all references set: the raw world is the reference's -/
theorem LMK_LM {P : jP} {k : Nat} {f : Nat → Int32} {h : Nat → Int64} (hp : ∀ k, 1 ≤ k → k ≤ 29 → P.2.1 k = true) (hf : k = 1 → ∀ j d, mobL[j]? = some d → d ≠ 0 → d ≠ 1000 → f j ≠ 0) (tA : Nat → ClassId) : LR mob LM tA P k f h = LM tA P k f h := by
  by_cases hk : k = 1
  · subst hk
    have r : ∀ j d, mobL[j]? = some d → d ≠ 0 → d ≠ 1000 → rfv P f h j d = .ref (P.1 d) := fun j d hj d0 d1 => rfv_r0 ⟨d0, d1, mobL_1001 d (List.mem_of_getElem? hj)⟩ (hf rfl j d hj d0 d1)
    rw [LR_ob (hp 1 (by omega) (by omega)) mob_1]
    show some (Sum.inr (12, [rfv P f h 0 0, rfv P f h 1 0, rfv P f h 2 0, rfv P f h 3 2, rfv P f h 4 0, rfv P f h 5 0, rfv P f h 6 0, rfv P f h 7 0, rfv P f h 8 0, rfv P f h 9 3, rfv P f h 10 0, rfv P f h 11 0, rfv P f h 12 4, rfv P f h 13 5, rfv P f h 14 6, rfv P f h 15 7, rfv P f h 16 0, rfv P f h 17 8, rfv P f h 18 9, rfv P f h 19 10, rfv P f h 20 11, rfv P f h 21 12, rfv P f h 22 13, rfv P f h 23 14, rfv P f h 24 15, rfv P f h 25 0, rfv P f h 26 0, rfv P f h 27 0, rfv P f h 28 16, rfv P f h 29 17, rfv P f h 30 18, rfv P f h 31 0, rfv P f h 32 19, rfv P f h 33 20, rfv P f h 34 21, rfv P f h 35 22, rfv P f h 36 23, rfv P f h 37 1000, rfv P f h 38 24, rfv P f h 39 25, rfv P f h 40 26, rfv P f h 41 27, rfv P f h 42 28, rfv P f h 43 29, rfv P f h 44 0])) = _
    rw [r 3 2 rfl (by omega) (by omega), r 9 3 rfl (by omega) (by omega), r 12 4 rfl (by omega) (by omega), r 13 5 rfl (by omega) (by omega), r 14 6 rfl (by omega) (by omega), r 15 7 rfl (by omega) (by omega), r 17 8 rfl (by omega) (by omega), r 18 9 rfl (by omega) (by omega), r 19 10 rfl (by omega) (by omega), r 20 11 rfl (by omega) (by omega), r 21 12 rfl (by omega) (by omega), r 22 13 rfl (by omega) (by omega), r 23 14 rfl (by omega) (by omega), r 24 15 rfl (by omega) (by omega), r 28 16 rfl (by omega) (by omega), r 29 17 rfl (by omega) (by omega), r 30 18 rfl (by omega) (by omega), r 32 19 rfl (by omega) (by omega), r 33 20 rfl (by omega) (by omega), r 34 21 rfl (by omega) (by omega), r 35 22 rfl (by omega) (by omega), r 36 23 rfl (by omega) (by omega), r 38 24 rfl (by omega) (by omega), r 39 25 rfl (by omega) (by omega), r 40 26 rfl (by omega) (by omega), r 41 27 rfl (by omega) (by omega), r 42 28 rfl (by omega) (by omega), r 43 29 rfl (by omega) (by omega)]
    rfl
  · by_cases hk2 : P.2.1 k = true
    · exact LR_ar hk2 (mob_ne hk) tA f h
    · have hn : P.2.1 k = false := by
        cases e : P.2.1 k with
        | true => exact absurd e hk2
        | false => rfl
      rw [LR_no hn]
      by_cases h0 : k = 0
      · subst h0; rfl
      · by_cases h30 : 30 ≤ k
        · obtain ⟨j, rfl⟩ : ∃ j, k = j + 30 := ⟨k - 30, by omega⟩
          rfl
        · exact absurd (hp k (by omega) (by omega)) hk2
