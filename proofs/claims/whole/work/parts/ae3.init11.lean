/-! A NEW OBJECT, the class's side -/
abbrev keysC : List Nat := [14, 13, 12, 11, 44, 43, 10, 39, 42, 41, 40, 38, 9, 37, 36, 35, 8, 30, 31, 32, 33, 34, 29, 7, 28, 27, 6, 26, 25, 24, 23, 5, 131, 130, 129, 128, 22, 21, 20, 19, 18, 4, 17, 3, 16, 15, 2, 1]
/-- the tables of a new object of n facts -/
def bornC (n : Nat) (M : jM) : Prop := (∀ k j, k ∈ keysC → rsl k j = true → M k j = 1) ∧ (M 1 10 = 0 ∧ M 1 12 = 0) ∧ (M 2 0 = nI n ∧ M 2 1 = nI (2 ^ n - 1) ∧ M 2 2 = nI (2 ^ n) ∧ M 2 3 = nI (3 ^ n)) ∧ M 3 1 = 0 ∧ (M 4 1 = nI n ∧ M 4 9 = nI 128) ∧ (M 5 1 = nI (sideN n) ∧ M 5 6 = 0 ∧ M 23 = fun _ => 0) ∧ (M 6 0 = nI n ∧ M 6 3 = 0 ∧ (M 28 = fun _ => 0) ∧ ∀ f, f < n → M 27 f = 1) ∧ (M 7 0 = nI n ∧ M 7 1 = 0 ∧ ∀ s f, s < 4 → f < n → M (31 + s) f = 5) ∧ (M 8 6 = 0 ∧ M 8 7 = 0 ∧ M 8 10 = 1) ∧ (M 9 0 = 0 ∧ M 9 6 = 0 ∧ (M 39 = fun _ => 0) ∧ M 40 = fun _ => 0) ∧ M 10 0 = 0 ∧ ((M 11 = fun _ => 0) ∧ M 12 = fun _ => 0) ∧ (∀ f, f < n → M 15 f = nI (3 ^ f)) ∧ ∀ b, b < 2 ^ n → M 16 b = nI (sum3 b)
theorem i_X11 {P : jP} {M : jM} {N : jN} {n : Nat} {a1 : Int32} (hS : PR P [1]) (hM : ∀ k, k < 1000 → M k = fun _ => 0) (z0 : P.2.2 0 = n) (z1 : P.2.2 1 = 2 ^ n) (z2 : P.2.2 2 = 3 ^ n) (z3 : P.2.2 3 = sideN n * sideN n) (h1 : 1 ≤ n) (h9 : n ≤ 9) (ha : (if 1 < (if a1 < 9 then a1 else 9) then (if a1 < 9 then a1 else 9) else 1) = nI n) {Q : jP → jM → jN → Prop}
    (hq : ∀ P' M' N', PR P' keysC → P'.2.2 = P.2.2 → WR P' M' → bornC n M' → Q P' M' N') : w_X11_init P a1 M N Q := by
  have C := two_le h9
  have hW : WR P M := ⟨fun k j hk _ => Or.inr (Or.inr (Or.inl (by rw [hM k hk]))), fun h30 => by
    rw [hS.no 30 (by omega) (by decide)] at h30
    exact absurd h30 (by decide)⟩
  unfold w_X11_init
  refine ⟨hS.yes 1 (by omega) (by decide), ?_⟩
  rintro y2 rfl
  rw [ha]
  refine ⟨hW.free (hS.no 2 (by omega) (by decide)), ?_⟩
  intro b4 P5 e5
  have S5 := hS.new 2 b4
  have w5 := hW.new (a := b4) (show 2 ≠ 30 by omega)
  have s5 : P5.2.2 = P.2.2 := by rw [e5]; rfl
  rw [← e5] at S5 w5
  have q5 : ∀ k, k < 1000 → zM M 2 k = fun _ => 0 := fun k hk => by
    by_cases z : k = 2
    · subst z; exact zM_at
    · rw [zM_ne z]; exact hM k hk
  generalize zM M 2 = M5 at w5 q5 ⊢
  clear hM hW
  refine i_X3 S5 w5 (by rw [s5]; exact z0) (by rw [s5]; exact z1) h1 h9 (fun Pa Ma Na Sa sa wa ka a20 a21 a22 a23 a24 a25 a15 a16 => ?_)
  have sA : Pa.2.2 = P.2.2 := sa.trans s5
  have oA : ∀ k, k < 1000 → k ≠ 2 → k ≠ 15 → k ≠ 16 → Ma k = fun _ => 0 := fun k h x y z => (ka k x y z).trans (q5 k h)
  clear ka q5 w5

  have u3 := wa.upr (k := 1) (j := 0) (v := 1) (d := 2) rfl (by omega) (Sa.yes 2 (by omega) (by decide))
  refine ⟨u3.free (Sa.no 3 (by omega) (by decide)), ?_⟩
  intro b3 P3 e3
  have T3 := Sa.new 3 b3
  have v3 := u3.new (a := b3) (show 3 ≠ 30 by omega)
  rw [← e3] at T3 v3

  have s3 : P3.2.2 = P.2.2 := by rw [e3]; exact sA
  refine i_X10 T3 v3 (fun Pb Mb Nb Sb sb wb kb b30 b3j b33 => ?_)
  have sB : Pb.2.2 = P.2.2 := sb.trans s3
  have cB : ∀ k, k ≠ 1 → k ≠ 3 → k ≠ 17 → Mb k = Ma k := fun k a b c => by rw [kb k b c, zM_ne b, upM_ne _ _ _ a]
  have rB : ∀ j, Mb 1 j = if j = 0 then 1 else Ma 1 j := fun j => by rw [kb 1 (by omega) (by omega), zM_ne (by omega), up_at]
  have b31 : Mb 3 1 = 0 := b3j 1 (Or.inl rfl)
  clear kb b3j
  have u4 := wb.upr (k := 1) (j := 1) (v := 1) (d := 3) rfl (by omega) (Sb.yes 3 (by omega) (by decide))
  refine ⟨u4.free (Sb.no 4 (by omega) (by decide)), ?_⟩
  intro b4 P4 e4
  have T4 := Sb.new 4 b4
  have v4 := u4.new (a := b4) (show 4 ≠ 30 by omega)
  rw [← e4] at T4 v4

  have s4 : P4.2.2 = P.2.2 := by rw [e4]; exact sB
  refine ⟨show ¬ (1 : Int32) = 0 by decide, ?_⟩
  refine i_X7 T4 v4 (fun Pc Mc Nc Sc sc wc kc c41 c49 c4j c128 => ?_)
  have sC : Pc.2.2 = P.2.2 := sc.trans s4
  have cC : ∀ k, k ≠ 1 → k ≠ 4 → ¬ (18 ≤ k ∧ k ≤ 22) → ¬ (128 ≤ k ∧ k ≤ 131) → Mc k = Mb k := fun k a b c d => by rw [kc k b c d, zM_ne b, upM_ne _ _ _ a]
  have rC' : ∀ j, Mc 1 j = if j = 1 then 1 else Mb 1 j := fun j => by rw [kc 1 (by omega) (by omega) (by omega), zM_ne (by omega), up_at]
  clear kc
  have u5 := wc.upr (k := 1) (j := 2) (v := 1) (d := 4) rfl (by omega) (Sc.yes 4 (by omega) (by decide))
  refine ⟨u5.free (Sc.no 5 (by omega) (by decide)), ?_⟩
  intro b5 P5 e5
  have T5 := Sc.new 5 b5
  have v5 := u5.new (a := b5) (show 5 ≠ 30 by omega)
  rw [← e5] at T5 v5

  have s5' : P5.2.2 = P.2.2 := by rw [e5]; exact sC
  have x0 : (zM (upM Mc 1 2 1) 5) 1 0 = 1 := by
    rw [zM_ne (by omega), up_at, if_neg (by omega), rC' 0, if_neg (by omega), rB 0, if_pos rfl]
  have y0 : (zM (upM Mc 1 2 1) 5) 2 0 = nI n := by
    rw [zM_ne (by omega), up_of _ _ _ _ (by omega), cC 2 (by omega) (by omega) (by omega) (by omega), cB 2 (by omega) (by omega) (by omega)]; exact a20
  have y2 : (zM (upM Mc 1 2 1) 5) 2 2 = nI (2 ^ n) := by
    rw [zM_ne (by omega), up_of _ _ _ _ (by omega), cC 2 (by omega) (by omega) (by omega) (by omega), cB 2 (by omega) (by omega) (by omega)]; exact a22
  refine ⟨by rw [x0]; decide, ?_⟩
  refine i_X1 T5 v5 (by rw [s5', z0]) (by rw [s5', z1]) (by rw [s5', z3]) h9 y0 y2 (fun Pd Md Nd Sd sd wd kd d5j d51 d56 d23 => ?_)
  have sD : Pd.2.2 = P.2.2 := sd.trans s5'
  have cD : ∀ k, k ≠ 1 → k ≠ 5 → ¬ (23 ≤ k ∧ k ≤ 26) → Md k = Mc k := fun k a b c => by rw [kd k b c, zM_ne b, upM_ne _ _ _ a]
  have rD : ∀ j, Md 1 j = if j = 2 then 1 else Mc 1 j := fun j => by rw [kd 1 (by omega) (by omega), zM_ne (by omega), up_at]
  have d56 : Md 5 6 = 0 := d56
  clear kd x0 y0 y2
  have u6 := wd.upr (k := 1) (j := 3) (v := 1) (d := 5) rfl (by omega) (Sd.yes 5 (by omega) (by decide))
  refine ⟨u6.free (Sd.no 6 (by omega) (by decide)), ?_⟩
  intro b6 P6 e6
  have T6 := Sd.new 6 b6
  have v6 := u6.new (a := b6) (show 6 ≠ 30 by omega)
  rw [← e6] at T6 v6

  have s6 : P6.2.2 = P.2.2 := by rw [e6]; exact sD
  refine i_X9 T6 v6 (by rw [s6, z0]) h9 (fun Pe Me Ne Se se we ke f60 f61 f62 f63 f28 f27 => ?_)
  have sE : Pe.2.2 = P.2.2 := se.trans s6
  have cE : ∀ k, k ≠ 1 → k ≠ 6 → k ≠ 27 → k ≠ 28 → Me k = Md k := fun k a b c d => by rw [ke k b c d, zM_ne b, upM_ne _ _ _ a]
  have rE : ∀ j, Me 1 j = if j = 3 then 1 else Md 1 j := fun j => by rw [ke 1 (by omega) (by omega) (by omega), zM_ne (by omega), up_at]
  have f63 : Me 6 3 = 0 := f63
  clear ke
  have u7 := we.upr (k := 1) (j := 4) (v := 1) (d := 6) rfl (by omega) (Se.yes 6 (by omega) (by decide))
  refine ⟨u7.free (Se.no 7 (by omega) (by decide)), ?_⟩
  intro b7 P7 e7
  have T7 := Se.new 7 b7
  have v7 := u7.new (a := b7) (show 7 ≠ 30 by omega)
  rw [← e7] at T7 v7

  have s7 : P7.2.2 = P.2.2 := by rw [e7]; exact sE
  refine i_X5 T7 v7 (by rw [s7, z0]) h9 (fun Pf Mf Nf Sf sf wf kf g70 g71 g72 g73 g31 => ?_)
  have sF : Pf.2.2 = P.2.2 := sf.trans s7
  have cF : ∀ k, k ≠ 1 → k ≠ 7 → ¬ (29 ≤ k ∧ k ≤ 34) → Mf k = Me k := fun k a b c => by rw [kf k b c, zM_ne b, upM_ne _ _ _ a]
  have rF : ∀ j, Mf 1 j = if j = 4 then 1 else Me 1 j := fun j => by rw [kf 1 (by omega) (by omega), zM_ne (by omega), up_at]
  have g71 : Mf 7 1 = 0 := g71
  clear kf
  have u8 := wf.upr (k := 1) (j := 5) (v := 1) (d := 7) rfl (by omega) (Sf.yes 7 (by omega) (by decide))
  refine ⟨u8.free (Sf.no 8 (by omega) (by decide)), ?_⟩
  intro b8 P8 e8
  have T8 := Sf.new 8 b8
  have v8 := u8.new (a := b8) (show 8 ≠ 30 by omega)
  rw [← e8] at T8 v8

  have s8 : P8.2.2 = P.2.2 := by rw [e8]; exact sF
  have c2 : ∀ j, Mf 2 j = Ma 2 j := fun j => by
    rw [cF 2 (by omega) (by omega) (by omega), cE 2 (by omega) (by omega) (by omega) (by omega), cD 2 (by omega) (by omega) (by omega), cC 2 (by omega) (by omega) (by omega) (by omega), cB 2 (by omega) (by omega) (by omega)]
  have x0 : (zM (upM Mf 1 5 1) 8) 1 0 = 1 := by
    rw [zM_ne (by omega), up_at, if_neg (by omega), rF, if_neg (by omega), rE, if_neg (by omega), rD, if_neg (by omega), rC', if_neg (by omega), rB, if_pos rfl]
  have x4 : (zM (upM Mf 1 5 1) 8) 1 4 = 1 := by
    rw [zM_ne (by omega), up_at, if_neg (by omega), rF, if_pos rfl]
  refine ⟨by rw [x0]; decide, by rw [x4]; decide, show ¬ (1 : Int32) = 0 by decide, ?_⟩
  refine i_X0 T8 v8 (by rw [s8, z2]) h9 (by rw [zM_ne (by omega), up_of _ _ _ _ (by omega), c2]; exact a23) (fun Pg Mg Ng Sg sg wg kg i8j i867 i810 => ?_)
  have sG : Pg.2.2 = P.2.2 := sg.trans s8
  have cG : ∀ k, k ≠ 1 → k ≠ 8 → ¬ (35 ≤ k ∧ k ≤ 37) → Mg k = Mf k := fun k a b c => by rw [kg k b c, zM_ne b, upM_ne _ _ _ a]
  have rG : ∀ j, Mg 1 j = if j = 5 then 1 else Mf 1 j := fun j => by rw [kg 1 (by omega) (by omega), zM_ne (by omega), up_at]
  have i86 : Mg 8 6 = 0 := i867 6 (Or.inl rfl)
  have i87 : Mg 8 7 = 0 := i867 7 (Or.inr rfl)
  clear kg x0 x4 i867
  have u9 := wg.upr (k := 1) (j := 6) (v := 1) (d := 8) rfl (by omega) (Sg.yes 8 (by omega) (by decide))
  refine ⟨u9.free (Sg.no 9 (by omega) (by decide)), ?_⟩
  intro b9 P9 e9
  have T9 := Sg.new 9 b9
  have v9 := u9.new (a := b9) (show 9 ≠ 30 by omega)
  rw [← e9] at T9 v9

  have s9 : P9.2.2 = P.2.2 := by rw [e9]; exact sG
  have x0 : (zM (upM Mg 1 6 1) 9) 1 0 = 1 := by
    rw [zM_ne (by omega), up_at, if_neg (by omega), rG, if_neg (by omega), rF, if_neg (by omega), rE, if_neg (by omega), rD, if_neg (by omega), rC', if_neg (by omega), rB, if_pos rfl]
  have y2 : (zM (upM Mg 1 6 1) 9) 2 2 = nI (2 ^ n) := by
    rw [zM_ne (by omega), up_of _ _ _ _ (by omega), cG 2 (by omega) (by omega) (by omega), c2]; exact a22
  refine ⟨by rw [x0]; decide, ?_⟩
  rw [y2]
  refine i_X6 T9 v9 (by rw [s9, z1]) h9 (fun Ph Mh Nh Sh sh wh kh j9j j90 j39 => ?_)
  have sH : Ph.2.2 = P.2.2 := sh.trans s9
  have cH : ∀ k, k ≠ 1 → k ≠ 9 → ¬ (38 ≤ k ∧ k ≤ 42) → Mh k = Mg k := fun k a b c => by rw [kh k b c, zM_ne b, upM_ne _ _ _ a]
  have rH : ∀ j, Mh 1 j = if j = 6 then 1 else Mg 1 j := fun j => by rw [kh 1 (by omega) (by omega), zM_ne (by omega), up_at]
  have j900 : Mh 9 0 = 0 := j90 0 (Or.inl rfl)
  have j906 : Mh 9 6 = 0 := j90 6 (Or.inr rfl)
  clear kh x0 y2 j90
  have u10 := wh.upr (k := 1) (j := 7) (v := 1) (d := 9) rfl (by omega) (Sh.yes 9 (by omega) (by decide))
  refine ⟨u10.free (Sh.no 10 (by omega) (by decide)), ?_⟩
  intro b10 P10 e10
  have T10 := Sh.new 10 b10
  have v10 := u10.new (a := b10) (show 10 ≠ 30 by omega)
  rw [← e10] at T10 v10

  have s10 : P10.2.2 = P.2.2 := by rw [e10]; exact sH
  refine i_X8 T10 v10 (fun Pi Mi Ni Si si wi ki k10j k100 => ?_)
  have sI : Pi.2.2 = P.2.2 := si.trans s10
  have cI : ∀ k, k ≠ 1 → k ≠ 10 → k ≠ 43 → k ≠ 44 → Mi k = Mh k := fun k a b c d => by rw [ki k b c d, zM_ne b, upM_ne _ _ _ a]
  have rI : ∀ j, Mi 1 j = if j = 7 then 1 else Mh 1 j := fun j => by rw [ki 1 (by omega) (by omega) (by omega), zM_ne (by omega), up_at]
  have k100 : Mi 10 0 = 0 := k100
  clear ki
  have u11 := wi.upr (k := 1) (j := 8) (v := 1) (d := 10) rfl (by omega) (Si.yes 10 (by omega) (by decide))
  refine ⟨u11.free (Si.no 11 (by omega) (by decide)), ?_⟩
  intro b11 P11 e11
  have T11 := Si.new 11 b11
  have v11 := u11.new (a := b11) (show 11 ≠ 30 by omega)
  rw [← e11] at T11 v11

  intro M251 e251
  have u12 := v11.upr (k := 1) (j := 9) (v := 1) (d := 11) rfl (by omega) (T11.yes 11 (by omega) (by decide))
  rw [← e251] at u12
  refine ⟨u12.free (T11.no 12 (by omega) (by decide)), ?_⟩
  intro b12 P12 e12
  have T12 := T11.new 12 b12
  have v12 := u12.new (a := b12) (show 12 ≠ 30 by omega)
  rw [← e12] at T12 v12
  have u13 := v12.upr (k := 1) (j := 11) (v := 1) (d := 12) rfl (by omega) (T12.yes 12 (by omega) (by decide))
  have s12 : P12.2.2 = P.2.2 := by rw [e12, e11]; exact sI
  have r251 : ∀ j, M251 1 j = if j = 9 then 1 else if j = 8 then 1 else Mi 1 j := fun j => by rw [e251, up_at, zM_ne (by omega), up_at]
  have k251 : ∀ k, k ≠ 1 → k ≠ 11 → M251 k = Mi k := fun k a b => by rw [e251, upM_ne _ _ _ a, zM_ne b, upM_ne _ _ _ a]
  have q251 : M251 11 = fun _ => 0 := by rw [e251, upM_ne _ _ _ (by omega), zM_at]
  have rAll : ∀ j, (j ≤ 9 → M251 1 j = 1) ∧ (10 ≤ j → M251 1 j = 0) := fun j => by
    have zero : ∀ j, Ma 1 j = 0 := fun j => by rw [oA 1 (by omega) (by omega) (by omega) (by omega)]
    rw [r251, rI, rH, rG, rF, rE, rD, rC', rB, zero]
    constructor
    · intro hj
      have : j = 0 ∨ j = 1 ∨ j = 2 ∨ j = 3 ∨ j = 4 ∨ j = 5 ∨ j = 6 ∨ j = 7 ∨ j = 8 ∨ j = 9 := by omega
      rcases this with rfl | rfl | rfl | rfl | rfl | rfl | rfl | rfl | rfl | rfl <;> rfl
    · intro hj
      rw [if_neg (by omega), if_neg (by omega), if_neg (by omega), if_neg (by omega), if_neg (by omega), if_neg (by omega), if_neg (by omega), if_neg (by omega), if_neg (by omega), if_neg (by omega)]
  clear r251 e251 rI rH rG rF rE rD rC' rB
  have y2 : (upM (zM M251 12) 1 11 1) 2 2 = nI (2 ^ n) := by
    rw [up_of _ _ _ _ (by omega), zM_ne (by omega), k251 2 (by omega) (by omega), cI 2 (by omega) (by omega) (by omega) (by omega), cH 2 (by omega) (by omega) (by omega), cG 2 (by omega) (by omega) (by omega), c2]; exact a22
  have y1 : (upM (zM M251 12) 1 11 1) 1 0 = 1 := by
    rw [up_at, if_neg (by omega), zM_ne (by omega)]; exact (rAll 0).1 (by omega)
  refine ⟨by rw [y1]; decide, u13.free (T12.no 13 (by omega) (by decide)), by rw [y2, s12, z1], by rw [s12, z1]; exact C, ?_⟩
  intro b13 P13 e13 M292 e292 N293 e293
  have T13 := T12.new 13 b13
  have v13 := u13.new (a := b13) (show 13 ≠ 30 by omega)
  rw [← e13] at T13 v13
  rw [← e292] at v13
  have u14 := v13.upr (k := 1) (j := 13) (v := 1) (d := 13) rfl (by omega) (T13.yes 13 (by omega) (by decide))
  refine ⟨u14.free (T13.no 14 (by omega) (by decide)), ?_⟩
  intro b14 P14 e14 M314 e314
  have T14 := T13.new 14 b14
  have v14 := (u14.new (a := b14) (show 14 ≠ 30 by omega)).upr (k := 1) (j := 14) (v := 1) (d := 14) rfl (by omega) (pnew_at _ _ _).1
  rw [← e14] at T14 v14
  rw [← e314] at v14
  have fin1 : ∀ j, M314 1 j = if j = 14 then 1 else if j = 13 then 1 else if j = 11 then 1 else M251 1 j := fun j => by
    rw [e314, up_at, zM_ne (by omega), up_at, e292, zM_ne (by omega), up_at, zM_ne (by omega)]
  have fin : ∀ k, k ≠ 1 → k ≠ 12 → k ≠ 13 → k ≠ 14 → M314 k = M251 k := fun k a b c d => by
    rw [e314, upM_ne _ _ _ a, zM_ne d, upM_ne _ _ _ a, e292, zM_ne c, upM_ne _ _ _ a, zM_ne b]
  have q12 : M314 12 = fun _ => 0 := by
    rw [e314, upM_ne _ _ _ (by omega), zM_ne (by omega), upM_ne _ _ _ (by omega), e292, zM_ne (by omega), upM_ne _ _ _ (by omega), zM_at]
  clear e314 e292 v13 u14 u13 v12 u12
  have toI : ∀ k, k ≠ 1 → ¬ (11 ≤ k ∧ k ≤ 14) → M314 k = Mi k := fun k a b => by rw [fin k a (by omega) (by omega) (by omega), k251 k a (by omega)]
  have toH : ∀ k, k ≠ 1 → ¬ (10 ≤ k ∧ k ≤ 14) → ¬ (43 ≤ k ∧ k ≤ 44) → M314 k = Mh k := fun k a b c => by rw [toI k a (by omega), cI k a (by omega) (by omega) (by omega)]
  have toG : ∀ k, k ≠ 1 → ¬ (9 ≤ k ∧ k ≤ 14) → ¬ (38 ≤ k ∧ k ≤ 44) → M314 k = Mg k := fun k a b c => by rw [toH k a (by omega) (by omega), cH k a (by omega) (by omega)]
  have toF : ∀ k, k ≠ 1 → ¬ (8 ≤ k ∧ k ≤ 14) → ¬ (35 ≤ k ∧ k ≤ 44) → M314 k = Mf k := fun k a b c => by rw [toG k a (by omega) (by omega), cG k a (by omega) (by omega)]
  have toE : ∀ k, k ≠ 1 → ¬ (7 ≤ k ∧ k ≤ 14) → ¬ (29 ≤ k ∧ k ≤ 44) → M314 k = Me k := fun k a b c => by rw [toF k a (by omega) (by omega), cF k a (by omega) (by omega)]
  have toD : ∀ k, k ≠ 1 → ¬ (6 ≤ k ∧ k ≤ 14) → ¬ (27 ≤ k ∧ k ≤ 44) → M314 k = Md k := fun k a b c => by rw [toE k a (by omega) (by omega), cE k a (by omega) (by omega) (by omega)]
  have toC : ∀ k, k ≠ 1 → ¬ (5 ≤ k ∧ k ≤ 14) → ¬ (23 ≤ k ∧ k ≤ 44) → M314 k = Mc k := fun k a b c => by rw [toD k a (by omega) (by omega), cD k a (by omega) (by omega)]
  have toB : ∀ k, k ≠ 1 → ¬ (4 ≤ k ∧ k ≤ 14) → ¬ (18 ≤ k ∧ k ≤ 44) → ¬ (128 ≤ k ∧ k ≤ 131) → M314 k = Mb k := fun k a b c d => by rw [toC k a (by omega) (by omega), cC k a (by omega) (by omega) d]
  have toA : ∀ k, k ≠ 1 → ¬ (3 ≤ k ∧ k ≤ 14) → ¬ (17 ≤ k ∧ k ≤ 44) → ¬ (128 ≤ k ∧ k ≤ 131) → M314 k = Ma k := fun k a b c d => by rw [toB k a (by omega) (by omega) d, cB k a (by omega) (by omega)]
  refine hq P14 M314 _ T14 (by rw [e14, e13]; exact s12) v14 ⟨?_, ⟨?_, ?_⟩, ⟨?_, ?_, ?_, ?_⟩, ?_, ⟨?_, ?_⟩, ⟨?_, ?_, ?_⟩, ⟨?_, ?_, ?_, ?_⟩, ⟨?_, ?_, ?_⟩, ⟨?_, ?_, ?_⟩, ⟨?_, ?_, ?_, ?_⟩, ?_, ⟨?_, q12⟩, ?_, ?_⟩
  · intro k j hk hr
    have nob : ∀ k, kob k = none → rsl k j = false := fun k h => by unfold rsl; rw [h]
    have big : ∀ k ci ds, kob k = some (ci, ds) → rsl k j = true → j < ds.length := fun k ci ds h hr => by
      unfold rsl at hr
      rw [h] at hr
      rcases Nat.lt_or_ge j ds.length with z | z
      · exact z
      · have e : ds[j]? = none := List.getElem?_eq_none z
        replace hr : (match ds[j]? with | some d => !(Nat.beq d 0 || Nat.beq d 1000 || Nat.beq d 1001) | none => false) = true := hr
        rw [e] at hr
        cases hr
    by_cases hx : k = 1 ∨ k = 2 ∨ k = 3 ∨ k = 4 ∨ k = 5 ∨ k = 6 ∨ k = 7 ∨ k = 8 ∨ k = 9 ∨ k = 10 ∨ k = 128
    · rcases hx with rfl | rfl | rfl | rfl | rfl | rfl | rfl | rfl | rfl | rfl | rfl
      · have hj := big 1 _ _ rfl hr
        rw [fin1]
        have hj : j < 15 := hj
        have : j ≤ 9 ∨ j = 10 ∨ j = 11 ∨ j = 12 ∨ j = 13 ∨ j = 14 := by omega
        rcases this with h | rfl | rfl | rfl | rfl | rfl
        · rw [if_neg (by omega), if_neg (by omega), if_neg (by omega)]; exact (rAll j).1 h
        · cases hr
        · rfl
        · cases hr
        · rfl
        · rfl
      · have hj : j < 6 := big 2 _ _ rfl hr
        rw [toA 2 (by omega) (by omega) (by omega) (by omega)]
        have : j = 0 ∨ j = 1 ∨ j = 2 ∨ j = 3 ∨ j = 4 ∨ j = 5 := by omega
        rcases this with rfl | rfl | rfl | rfl | rfl | rfl
        · cases hr
        · cases hr
        · cases hr
        · cases hr
        · exact a24
        · exact a25
      · have hj : j < 4 := big 3 _ _ rfl hr
        rw [toB 3 (by omega) (by omega) (by omega) (by omega)]
        have : j = 0 ∨ j = 1 ∨ j = 2 ∨ j = 3 := by omega
        rcases this with rfl | rfl | rfl | rfl
        · exact b30
        · cases hr
        · cases hr
        · cases hr
      · have hj : j < 11 := big 4 _ _ rfl hr
        rw [toC 4 (by omega) (by omega) (by omega)]
        have : (j = 0 ∨ j = 2 ∨ (5 ≤ j ∧ j ≤ 8)) ∨ j = 1 ∨ j = 3 ∨ j = 4 ∨ j = 9 ∨ j = 10 := by omega
        rcases this with h | rfl | rfl | rfl | rfl | rfl
        · exact c4j j h
        · cases hr
        · cases hr
        · cases hr
        · cases hr
        · cases hr
      · have hj : j < 8 := big 5 _ _ rfl hr
        rw [toD 5 (by omega) (by omega) (by omega)]
        have : (j = 0 ∨ (2 ≤ j ∧ j ≤ 5)) ∨ j = 1 ∨ j = 6 ∨ j = 7 := by omega
        rcases this with h | rfl | rfl | rfl
        · exact d5j j h
        · cases hr
        · cases hr
        · cases hr
      · have hj : j < 4 := big 6 _ _ rfl hr
        rw [toE 6 (by omega) (by omega) (by omega)]
        have : j = 0 ∨ j = 1 ∨ j = 2 ∨ j = 3 := by omega
        rcases this with rfl | rfl | rfl | rfl
        · cases hr
        · exact f61
        · exact f62
        · cases hr
      · have hj : j < 4 := big 7 _ _ rfl hr
        rw [toF 7 (by omega) (by omega) (by omega)]
        have : j = 0 ∨ j = 1 ∨ j = 2 ∨ j = 3 := by omega
        rcases this with rfl | rfl | rfl | rfl
        · cases hr
        · cases hr
        · exact g72
        · exact g73
      · have hj : j < 11 := big 8 _ _ rfl hr
        rw [toG 8 (by omega) (by omega) (by omega)]
        have : j ≤ 5 ∨ j = 6 ∨ j = 7 ∨ j = 8 ∨ j = 9 ∨ j = 10 := by omega
        rcases this with h | rfl | rfl | rfl | rfl | rfl
        · exact i8j j h
        · cases hr
        · cases hr
        · cases hr
        · cases hr
        · cases hr
      · have hj : j < 7 := big 9 _ _ rfl hr
        rw [toH 9 (by omega) (by omega) (by omega)]
        have : (1 ≤ j ∧ j ≤ 5) ∨ j = 0 ∨ j = 6 := by omega
        rcases this with h | rfl | rfl
        · exact j9j j h.1 h.2
        · cases hr
        · cases hr
      · have hj : j < 3 := big 10 _ _ rfl hr
        rw [toI 10 (by omega) (by omega)]
        have : (j = 1 ∨ j = 2) ∨ j = 0 := by omega
        rcases this with h | rfl
        · exact k10j j h
        · cases hr
      · have hj : j < 4 := big 128 _ _ rfl hr
        rw [toC 128 (by omega) (by omega) (by omega)]
        have : (1 ≤ j ∧ j ≤ 3) ∨ j = 0 := by omega
        rcases this with h | rfl
        · exact c128 j h.1 h.2
        · cases hr
    · have hn : kob k = none := by
        unfold keysC at hk
        simp only [List.mem_cons, List.mem_nil_iff, or_false] at hk
        have : k = 14 ∨ k = 13 ∨ k = 12 ∨ k = 11 ∨ (15 ≤ k ∧ k ≤ 44) ∨ (129 ≤ k ∧ k ≤ 131) := by omega
        unfold kob
        rw [if_pos (by rw [Nat.ble_eq]; omega), if_neg (by simp only [Bool.and_eq_true, Nat.ble_eq, Nat.blt_eq]; omega), if_neg]
        simp only [Bool.and_eq_true, Nat.ble_eq, Nat.blt_eq]
        intro z
        have := Nat.eq_of_beq_eq_true z.2
        omega
      rw [nob k hn] at hr
      cases hr
  · rw [fin1, if_neg (by omega), if_neg (by omega), if_neg (by omega)]; exact (rAll 10).2 (by omega)
  · rw [fin1, if_neg (by omega), if_neg (by omega), if_neg (by omega)]; exact (rAll 12).2 (by omega)
  · rw [toA 2 (by omega) (by omega) (by omega) (by omega)]; exact a20
  · rw [toA 2 (by omega) (by omega) (by omega) (by omega)]; exact a21
  · rw [toA 2 (by omega) (by omega) (by omega) (by omega)]; exact a22
  · rw [toA 2 (by omega) (by omega) (by omega) (by omega)]; exact a23
  · rw [toB 3 (by omega) (by omega) (by omega) (by omega)]; exact b31
  · rw [toC 4 (by omega) (by omega) (by omega)]; exact c41
  · rw [toC 4 (by omega) (by omega) (by omega)]; exact c49
  · rw [toD 5 (by omega) (by omega) (by omega)]; exact d51
  · rw [toD 5 (by omega) (by omega) (by omega)]; exact d56
  · rw [toD 23 (by omega) (by omega) (by omega)]; exact d23
  · rw [toE 6 (by omega) (by omega) (by omega)]; exact f60
  · rw [toE 6 (by omega) (by omega) (by omega)]; exact f63
  · rw [toE 28 (by omega) (by omega) (by omega)]; exact f28
  · intro f hf; rw [toE 27 (by omega) (by omega) (by omega)]; exact f27 f hf
  · rw [toF 7 (by omega) (by omega) (by omega)]; exact g70
  · rw [toF 7 (by omega) (by omega) (by omega)]; exact g71
  · intro s f hs hf; rw [toF (31 + s) (by omega) (by omega) (by omega)]; exact g31 s f hs hf
  · rw [toG 8 (by omega) (by omega) (by omega)]; exact i86
  · rw [toG 8 (by omega) (by omega) (by omega)]; exact i87
  · rw [toG 8 (by omega) (by omega) (by omega)]; exact i810
  · rw [toH 9 (by omega) (by omega) (by omega)]; exact j900
  · rw [toH 9 (by omega) (by omega) (by omega)]; exact j906
  · rw [toH 39 (by omega) (by omega) (by omega)]; exact j39 39 (Or.inl rfl)
  · rw [toH 40 (by omega) (by omega) (by omega)]; exact j39 40 (Or.inr rfl)
  · rw [toI 10 (by omega) (by omega)]; exact k100
  · rw [fin 11 (by omega) (by omega) (by omega) (by omega)]; exact q251
  · intro f hf; rw [toA 15 (by omega) (by omega) (by omega) (by omega)]; exact a15 f hf
  · intro b hb; rw [toA 16 (by omega) (by omega) (by omega) (by omega)]; exact a16 b hb
