/-! THE CLASS'S MAKERS, two -/
theorem i_X1 {P : jP} {M : jM} {N : jN} {n : Nat} (hS : PR P [5, 131, 130, 129, 128, 22, 21, 20, 19, 18, 4, 17, 3, 16, 15, 2, 1]) (hW : WR P M) (z0 : P.2.2 0 = n) (z1 : P.2.2 1 = 2 ^ n) (z3 : P.2.2 3 = sideN n * sideN n) (h9 : n ≤ 9) (m0 : M 2 0 = nI n) (m2 : M 2 2 = nI (2 ^ n)) {Q : jP → jM → jN → Prop}
    (hq : ∀ P' M' N', PR P' [26, 25, 24, 23, 5, 131, 130, 129, 128, 22, 21, 20, 19, 18, 4, 17, 3, 16, 15, 2, 1] → P'.2.2 = P.2.2 → WR P' M' → (∀ k, k ≠ 5 → ¬ (23 ≤ k ∧ k ≤ 26) → M' k = M k) → (∀ j, j = 0 ∨ (2 ≤ j ∧ j ≤ 5) → M' 5 j = 1) → M' 5 1 = nI (sideN n) → M' 5 6 = M 5 6 → M' 23 = (fun _ => 0) → Q P' M' N') : w_X1_init P M N Q := by
  have C := two_le h9
  have hs := (side_le h9).2
  have hss : sideN n * sideN n ≤ 18225 := by
    have := Nat.mul_le_mul hs hs
    omega
  unfold w_X1_init
  refine ⟨hS.yes 5 (by omega) (by decide), hS.yes 2 (by omega) (by decide), ?_⟩
  intro M3 e3
  have ev : (7 : Int32) + (if 42 < (((upM M 5 0 1) 2 2) / 4) then (((upM M 5 0 1) 2 2) / 4) else 42) = nI (sideN n) := by
    have e1 : (upM M 5 0 1) 2 2 = nI (2 ^ n) := m2
    have e2 : nI (2 ^ n) / 4 = nI (2 ^ n / 4) := pk_div (d := 4) (by omega) (by omega) (by omega)
    rw [e1, e2, show (42 : Int32) = nI 42 from rfl, show (7 : Int32) = nI 7 from rfl]
    unfold sideN
    by_cases z : 42 < 2 ^ n / 4
    · rw [if_pos ((nI_ltI (by omega) (by omega)).mpr z), nI_add, Nat.max_eq_right (by omega)]
    · rw [if_neg (fun y => z ((nI_ltI (by omega) (by omega)).mp y)), nI_add, Nat.max_eq_left (by omega)]
  rw [ev] at e3
  have a1 : M3 5 1 = nI (sideN n) := by rw [e3]; rfl
  have w3 : WR P M3 := by rw [e3]; exact (hW.upr (d := 2) rfl (by omega) (hS.yes 2 (by omega) (by decide))).upi rfl
  have k3 : ∀ k, k ≠ 5 → M3 k = M k := fun k hk => by rw [e3, upM_ne _ _ _ hk, upM_ne _ _ _ hk]
  have f0 : M3 5 0 = 1 := by rw [e3]; rfl
  have f6 : M3 5 6 = M 5 6 := by rw [e3]; rfl
  clear e3 ev
  have hm : nI (sideN n) * nI (sideN n) = nI (sideN n * sideN n) := pk_mul _ _
  refine ⟨w3.free (hS.no 23 (by omega) (by decide)), by rw [a1, hm, z3], by rw [z3]; exact hss, ?_⟩
  intro b7 P8 e8
  have S8 := hS.new 23 b7
  have w8 := (w3.new (a := b7) (show 23 ≠ 30 by omega)).upr (k := 5) (j := 2) (v := 1) (d := 23) rfl (by omega) (pnew_at _ _ _).1
  rw [← e8] at S8 w8
  have z8 : P8.2.2 = P.2.2 := by rw [e8]; rfl
  have b1 : (upM (zM M3 23) 5 2 1) 5 1 = nI (sideN n) := a1
  refine ⟨w8.free (S8.no 24 (by omega) (by decide)), by rw [b1, hm, z8, z3], by rw [z8, z3]; exact hss, ?_⟩
  intro b18 P19 e19 M27 e27
  have S19 := S8.new 24 b18
  have w19 := (w8.new (a := b18) (show 24 ≠ 30 by omega)).upr (k := 5) (j := 3) (v := 1) (d := 24) rfl (by omega) (pnew_at _ _ _).1
  rw [← e19] at S19 w19
  rw [← e27] at w19
  have z19 : P19.2.2 = P.2.2 := by rw [e19]; exact z8
  have c2 : (upM M27 5 3 1) 2 2 = nI (2 ^ n) := by
    rw [up_of _ _ _ _ (by omega), e27, zM_ne (by omega), up_of _ _ _ _ (by omega), zM_ne (by omega), k3 2 (by omega)]
    exact m2
  refine ⟨w19.free (S19.no 25 (by omega) (by decide)), by rw [c2, z19, z1], by rw [z19, z1]; exact C, ?_⟩
  intro b31 P32 e32 M41 e41
  have S32 := S19.new 25 b31
  have w32 := (w19.new (a := b31) (show 25 ≠ 30 by omega)).upr (k := 5) (j := 4) (v := 1) (d := 25) rfl (by omega) (pnew_at _ _ _).1
  rw [← e32] at S32 w32
  rw [← e41] at w32
  have z32 : P32.2.2 = P.2.2 := by rw [e32]; exact z19
  have c0 : M41 2 0 = nI n := by
    rw [e41, up_of _ _ _ _ (by omega), zM_ne (by omega), up_of _ _ _ _ (by omega), e27, zM_ne (by omega), up_of _ _ _ _ (by omega), zM_ne (by omega), k3 2 (by omega)]
    exact m0
  refine ⟨w32.free (S32.no 26 (by omega) (by decide)), by rw [c0, z32, z0], by rw [z32, z0]; exact h9, ?_⟩
  intro b45 P46 e46 N56 e56
  have S46 := S32.new 26 b45
  have w46 := (w32.new (a := b45) (show 26 ≠ 30 by omega)).upr (k := 5) (j := 5) (v := 1) (d := 26) rfl (by omega) (pnew_at _ _ _).1
  rw [← e46] at S46 w46
  refine hq P46 _ _ S46 (by rw [e46]; exact z32) w46 (fun k a b => ?_) (fun j hj => ?_) ?_ ?_ ?_
  · rw [upM_ne _ _ _ a, zM_ne (by omega), e41, upM_ne _ _ _ a, zM_ne (by omega), upM_ne _ _ _ a, e27, zM_ne (by omega), upM_ne _ _ _ a, zM_ne (by omega), k3 k a]
  · have : j = 0 ∨ j = 2 ∨ j = 3 ∨ j = 4 ∨ j = 5 := by omega
    rw [e41, e27]
    rcases this with rfl | rfl | rfl | rfl | rfl
    · exact f0
    · rfl
    · rfl
    · rfl
    · rfl
  · rw [e41, e27]; exact a1
  · rw [e41, e27]; exact f6
  · rw [upM_ne _ _ _ (by omega), zM_ne (by omega), e41, upM_ne _ _ _ (by omega), zM_ne (by omega), upM_ne _ _ _ (by omega), e27, zM_ne (by omega), upM_ne _ _ _ (by omega), zM_at]
theorem i_X9 {P : jP} {M : jM} {N : jN} {n : Nat} (hS : PR P [6, 26, 25, 24, 23, 5, 131, 130, 129, 128, 22, 21, 20, 19, 18, 4, 17, 3, 16, 15, 2, 1]) (hW : WR P M) (z0 : P.2.2 0 = n) (h9 : n ≤ 9) {Q : jP → jM → jN → Prop}
    (hq : ∀ P' M' N', PR P' [28, 27, 6, 26, 25, 24, 23, 5, 131, 130, 129, 128, 22, 21, 20, 19, 18, 4, 17, 3, 16, 15, 2, 1] → P'.2.2 = P.2.2 → WR P' M' → (∀ k, k ≠ 6 → k ≠ 27 → k ≠ 28 → M' k = M k) → M' 6 0 = nI n → M' 6 1 = 1 → M' 6 2 = 1 → M' 6 3 = M 6 3 → M' 28 = (fun _ => 0) → (∀ f, f < n → M' 27 f = 1) → Q P' M' N') : w_X9_init P (nI n) M N Q := by
  unfold w_X9_init
  have w0 := hW.upi (k := 6) (j := 0) (v := nI n) rfl
  refine ⟨hS.yes 6 (by omega) (by decide), w0.free (hS.no 27 (by omega) (by decide)), by rw [z0], by rw [z0]; exact h9, ?_⟩
  intro b5 P6 e6 M12 e12
  have S6 := hS.new 27 b5
  have w6 := (w0.new (a := b5) (show 27 ≠ 30 by omega)).upr (k := 6) (j := 1) (v := 1) (d := 27) rfl (by omega) (pnew_at _ _ _).1
  rw [← e6] at S6 w6
  rw [← e12] at w6
  have z6 : P6.2.2 = P.2.2 := by rw [e6]; rfl
  refine ⟨w6.free (S6.no 28 (by omega) (by decide)), by rw [z6, z0], by rw [z6, z0]; exact h9, ?_⟩
  intro b16 P17 e17
  have S17 := S6.new 28 b16
  have w17 := (w6.new (a := b16) (show 28 ≠ 30 by omega)).upr (k := 6) (j := 2) (v := 1) (d := 28) rfl (by omega) (pnew_at _ _ _).1
  rw [← e17] at S17 w17
  have z17 : P17.2.2 = P.2.2 := by rw [e17]; exact z6
  have k0 : ∀ k, k ≠ 6 → k ≠ 27 → k ≠ 28 → upM (zM M12 28) 6 2 1 k = M k := fun k a b c => by rw [upM_ne _ _ _ a, zM_ne c, e12, upM_ne _ _ _ a, zM_ne b, upM_ne _ _ _ a]
  have k28 : upM (zM M12 28) 6 2 1 28 = fun _ => 0 := rfl
  have k6 : upM (zM M12 28) 6 2 1 6 0 = nI n ∧ upM (zM M12 28) 6 2 1 6 1 = 1 ∧ upM (zM M12 28) 6 2 1 6 2 = 1 ∧ upM (zM M12 28) 6 2 1 6 3 = M 6 3 := by rw [e12]; exact ⟨rfl, rfl, rfl, rfl⟩
  generalize upM (zM M12 28) 6 2 1 = M13 at w17 k0 k28 k6 ⊢
  intro R25 h25
  refine lp_up (R := fun i => ∀ M2, (∀ k, k ≠ 27 → M2 k = M13 k) → WR P17 M2 → (∀ f, f < i → M2 27 f = 1) → R25 (nI i) M2) n (fun M2 g1 g2 g3 => ?_) (fun i hi ih M2 g1 g2 g3 => ?_) 0 (Nat.zero_le _) M13 (fun _ _ => rfl) w17 (fun f hf => absurd hf (Nat.not_lt_zero f))
  · refine h25 _ _ (br_t (Int32.le_refl _) (hq P17 M2 _ S17 z17 g2 (fun k a b c => by rw [g1 k b, k0 k a b c]) ?_ ?_ ?_ ?_ ?_ g3))
    · rw [g1 6 (by omega)]; exact k6.1
    · rw [g1 6 (by omega)]; exact k6.2.1
    · rw [g1 6 (by omega)]; exact k6.2.2.1
    · rw [g1 6 (by omega)]; exact k6.2.2.2
    · rw [g1 28 (by omega)]; exact k28
  · refine h25 _ _ (br_f (nI_ge hi (by omega)) ⟨by rw [g1 6 (by omega), k6.2.1]; decide, by rw [z17, z0]; exact vin hi (by omega), ?_⟩)
    rw [nI_clamp (show i < 2 ^ 31 by omega), nI_1]
    intro M29 e29
    refine ih M29 (fun k hk => by rw [e29, upM_ne _ _ _ hk]; exact g1 k hk) (by rw [e29]; exact g2.upi rfl) (fun f hf => ?_)
    rw [e29, up_at]
    by_cases z : f = i
    · rw [if_pos z]
    · rw [if_neg z]; exact g3 f (by omega)
theorem kob31 {s : Nat} (hs : s < 4) : kob (31 + s) = none := by
  match s, hs with
  | 0, _ => rfl
  | 1, _ => rfl
  | 2, _ => rfl
  | 3, _ => rfl
theorem refD31 {s j : Nat} (hs : s < 4) : refD (31 + s) j = 0 := by
  unfold refD
  rw [if_neg (by omega), if_neg (by omega), kob31 hs]
theorem i_X5 {P : jP} {M : jM} {N : jN} {n : Nat} (hS : PR P [7, 28, 27, 6, 26, 25, 24, 23, 5, 131, 130, 129, 128, 22, 21, 20, 19, 18, 4, 17, 3, 16, 15, 2, 1]) (hW : WR P M) (z0 : P.2.2 0 = n) (h9 : n ≤ 9) {Q : jP → jM → jN → Prop}
    (hq : ∀ P' M' N', PR P' [30, 31, 32, 33, 34, 29, 7, 28, 27, 6, 26, 25, 24, 23, 5, 131, 130, 129, 128, 22, 21, 20, 19, 18, 4, 17, 3, 16, 15, 2, 1] → P'.2.2 = P.2.2 → WR P' M' → (∀ k, k ≠ 7 → ¬ (29 ≤ k ∧ k ≤ 34) → M' k = M k) → M' 7 0 = nI n → M' 7 1 = M 7 1 → M' 7 2 = 1 → M' 7 3 = 1 → (∀ s f, s < 4 → f < n → M' (31 + s) f = 5) → Q P' M' N') : w_X5_init P (nI n) M N Q := by
  unfold w_X5_init
  refine ⟨hS.yes 7 (by omega) (by decide), hW.free (hS.no 29 (by omega) (by decide)), ?_⟩
  intro b3 P4 e4 M10 e10
  have S4 := hS.new 29 b3
  have w4 := ((hW.new (a := b3) (show 29 ≠ 30 by omega)).upr (k := 7) (j := 2) (v := 1) (d := 29) rfl (by omega) (pnew_at _ _ _).1).upi (k := 7) (j := 0) (v := nI n) rfl
  rw [← e4] at S4 w4
  rw [← e10] at w4
  have z4 : P4.2.2 = P.2.2 := by rw [e4]; rfl
  refine ⟨w4.mfr (fun q hq => S4.no q (by have := hq.2; omega) (fun z => by
    have h1 := hq.1
    have h2 := hq.2
    simp only [List.mem_cons, List.mem_nil_iff, or_false] at z
    omega)), by rw [z4, z0], by rw [z4, z0]; exact h9, ?_⟩
  intro b14 P15 e15
  have S15 := S4.mul b14
  have w15 := (w4.mul (a := b14)).upr (k := 7) (j := 3) (v := 1) (d := 30) rfl (by omega) (pmul_in ⟨by omega, by omega⟩)
  rw [← e15] at S15 w15
  have z15 : P15.2.2 = P.2.2 := by rw [e15]; exact z4
  have k0 : ∀ k, k ≠ 7 → ¬ (29 ≤ k ∧ k ≤ 34) → upM (zM5 M10) 7 3 1 k = M k := fun k a b => by
    have e : zM5 M10 k = M10 k := if_neg (fun z => by
      have := mulK_b.mp z
      unfold mulK at this
      omega)
    rw [upM_ne _ _ _ a, e, e10, upM_ne _ _ _ a, upM_ne _ _ _ a, zM_ne (by omega)]
  have k7 : upM (zM5 M10) 7 3 1 7 0 = nI n ∧ upM (zM5 M10) 7 3 1 7 1 = M 7 1 ∧ upM (zM5 M10) 7 3 1 7 2 = 1 ∧ upM (zM5 M10) 7 3 1 7 3 = 1 := by rw [e10]; exact ⟨rfl, rfl, rfl, rfl⟩
  generalize upM (zM5 M10) 7 3 1 = M13 at w15 k0 k7 ⊢
  intro R28 h28
  refine lp_up (R := fun s => ∀ M2, (∀ k, ¬ (31 ≤ k ∧ k ≤ 34) → M2 k = M13 k) → WR P15 M2 → (∀ t f, t < s → f < n → M2 (31 + t) f = 5) → R28 (nI s) M2) 4 (fun M2 g1 g2 g3 => ?_) (fun s hs ih M2 g1 g2 g3 => ?_) 0 (Nat.zero_le _) M13 (fun _ _ => rfl) w15 (fun t f ht => absurd ht (Nat.not_lt_zero t))
  · refine h28 _ _ (br_t (Int32.le_refl _) (hq P15 M2 _ S15 z15 g2 (fun k a b => by rw [g1 k (by omega), k0 k a b]) ?_ ?_ ?_ ?_ g3))
    · rw [g1 7 (by omega)]; exact k7.1
    · rw [g1 7 (by omega)]; exact k7.2.1
    · rw [g1 7 (by omega)]; exact k7.2.2.1
    · rw [g1 7 (by omega)]; exact k7.2.2.2
  · refine h28 _ _ (br_f (nI_ge (b := 4) hs (by omega)) ?_)
    intro R35 h35
    have hp : P15.2.1 (31 + s) = true := S15.yes (31 + s) (by omega) (by
      have : s = 0 ∨ s = 1 ∨ s = 2 ∨ s = 3 := by omega
      rcases this with rfl | rfl | rfl | rfl <;> decide)
    refine lp_up (R := fun i => ∀ M2, (∀ k, ¬ (31 ≤ k ∧ k ≤ 34) → M2 k = M13 k) → WR P15 M2 → (∀ t f, t < s → f < n → M2 (31 + t) f = 5) → (∀ f, f < i → M2 (31 + s) f = 5) → R35 (nI i) M2) n (fun M2 t1 t2 t3 t4 => ?_) (fun i hi ih2 M2 t1 t2 t3 t4 => ?_) 0 (Nat.zero_le _) M2 g1 g2 g3 (fun f hf => absurd hf (Nat.not_lt_zero f))
    · refine h35 _ _ (br_t (Int32.le_refl _) ?_)
      rw [nI_1]
      refine ih M2 t1 t2 (fun t f ht hf => ?_)
      by_cases z : t = s
      · rw [z]; exact t4 f hf
      · exact t3 t f (by omega) hf
    · have sc : (nI s).toNatClampNeg = s := nI_clamp (by omega)
      refine h35 _ _ (br_f (nI_ge hi (by omega)) ⟨by rw [t1 7 (by omega), k7.2.2.2]; decide, vin hs (by omega), ?_, ?_⟩)
      · rw [sc]
        refine ⟨n, fun tA f h => ?_, vin hi (by omega)⟩
        rw [LR_ar hp (kob31 hs), LC_ia ((chIA hs).trans (congrArg some (by rw [z15, z0])))]
      · rw [sc, nI_clamp (show i < 2 ^ 31 by omega), nI_1]
        intro M31 e31
        refine ih2 M31 (fun k hk => by rw [e31, upM_ne _ _ _ (by omega)]; exact t1 k hk) (by rw [e31]; exact t2.upi (refD31 hs)) (fun t f ht hf => by rw [e31, up_of _ _ _ _ (by omega)]; exact t3 t f ht hf) (fun f hf => ?_)
        rw [e31, up_at]
        by_cases z : f = i
        · rw [if_pos z]
        · rw [if_neg z]; exact t4 f (by omega)
theorem i_X0 {P : jP} {M : jM} {N : jN} {n : Nat} (hS : PR P [8, 30, 31, 32, 33, 34, 29, 7, 28, 27, 6, 26, 25, 24, 23, 5, 131, 130, 129, 128, 22, 21, 20, 19, 18, 4, 17, 3, 16, 15, 2, 1]) (hW : WR P M) (z2 : P.2.2 2 = 3 ^ n) (h9 : n ≤ 9) (m3 : M 2 3 = nI (3 ^ n)) {Q : jP → jM → jN → Prop}
    (hq : ∀ P' M' N', PR P' [37, 36, 35, 8, 30, 31, 32, 33, 34, 29, 7, 28, 27, 6, 26, 25, 24, 23, 5, 131, 130, 129, 128, 22, 21, 20, 19, 18, 4, 17, 3, 16, 15, 2, 1] → P'.2.2 = P.2.2 → WR P' M' → (∀ k, k ≠ 8 → ¬ (35 ≤ k ∧ k ≤ 37) → M' k = M k) → (∀ j, j ≤ 5 → M' 8 j = 1) → (∀ j, j = 6 ∨ j = 7 → M' 8 j = M 8 j) → M' 8 10 = 1 → Q P' M' N') : w_X0_init P M N Q := by
  have C3 : 3 ^ n ≤ 3 ^ 9 := Nat.pow_le_pow_right (by omega) h9
  have C9 : (3 : Nat) ^ 9 = 19683 := by decide
  unfold w_X0_init
  refine ⟨hS.yes 8 (by omega) (by decide), hS.yes 2 (by omega) (by decide), hS.yes 6 (by omega) (by decide), hS.yes 7 (by omega) (by decide), ?_⟩
  intro M5 e5
  have w5 := (((hW.upi (k := 8) (j := 10) (v := 1) rfl).upr (k := 8) (j := 0) (v := 1) (d := 2) rfl (by omega) (hS.yes 2 (by omega) (by decide))).upr (k := 8) (j := 1) (v := 1) (d := 6) rfl (by omega) (hS.yes 6 (by omega) (by decide))).upr (k := 8) (j := 2) (v := 1) (d := 7) rfl (by omega) (hS.yes 7 (by omega) (by decide))
  rw [← e5] at w5
  have a3 : (upM M5 8 2 1) 2 3 = nI (3 ^ n) := by rw [e5]; exact m3
  refine ⟨w5.free (hS.no 35 (by omega) (by decide)), by rw [a3, z2], by rw [z2]; omega, ?_⟩
  intro b9 P10 e10 M19 e19
  have S10 := hS.new 35 b9
  have w10 := (w5.new (a := b9) (show 35 ≠ 30 by omega)).upr (k := 8) (j := 3) (v := 1) (d := 35) rfl (by omega) (pnew_at _ _ _).1
  rw [← e10] at S10 w10
  rw [← e19] at w10
  have z10 : P10.2.2 = P.2.2 := by rw [e10]; rfl
  have a19 : M19 2 3 = nI (3 ^ n) := by rw [e19]; exact a3
  refine ⟨w10.free (S10.no 36 (by omega) (by decide)), by rw [a19, z10, z2], by rw [z10, z2]; omega, ?_⟩
  intro b23 P24 e24
  have S24 := S10.new 36 b23
  have w24 := (w10.new (a := b23) (show 36 ≠ 30 by omega)).upr (k := 8) (j := 4) (v := 1) (d := 36) rfl (by omega) (pnew_at _ _ _).1
  rw [← e24] at S24 w24
  have z24 : P24.2.2 = P.2.2 := by rw [e24]; exact z10
  have a24 : (upM (zM M19 36) 8 4 1) 2 3 = nI (3 ^ n) := a19
  refine ⟨w24.free (S24.no 37 (by omega) (by decide)), by rw [a24, z24, z2], by rw [z24, z2]; omega, ?_⟩
  intro b37 P38 e38 M49 e49
  have S38 := S24.new 37 b37
  have w38 := (w24.new (a := b37) (show 37 ≠ 30 by omega)).upr (k := 8) (j := 5) (v := 1) (d := 37) rfl (by omega) (pnew_at _ _ _).1
  rw [← e38] at S38 w38
  rw [← e49] at w38
  refine hq P38 _ _ S38 (by rw [e38]; exact z24) w38 (fun k a b => ?_) (fun j hj => ?_) (fun j hj => ?_) ?_
  · rw [upM_ne _ _ _ a, e49, zM_ne (by omega), upM_ne _ _ _ a, zM_ne (by omega), e19, upM_ne _ _ _ a, zM_ne (by omega), upM_ne _ _ _ a, e5, upM_ne _ _ _ a, upM_ne _ _ _ a, upM_ne _ _ _ a]
  · have : j = 0 ∨ j = 1 ∨ j = 2 ∨ j = 3 ∨ j = 4 ∨ j = 5 := by omega
    rw [e49, e19, e5]
    rcases this with rfl | rfl | rfl | rfl | rfl | rfl <;> rfl
  · rw [e49, e19, e5]
    rcases hj with rfl | rfl <;> rfl
  · rw [e49, e19, e5]; rfl
theorem i_X6 {P : jP} {M : jM} {N : jN} {n : Nat} (hS : PR P [9, 37, 36, 35, 8, 30, 31, 32, 33, 34, 29, 7, 28, 27, 6, 26, 25, 24, 23, 5, 131, 130, 129, 128, 22, 21, 20, 19, 18, 4, 17, 3, 16, 15, 2, 1]) (hW : WR P M) (z1 : P.2.2 1 = 2 ^ n) (h9 : n ≤ 9) {Q : jP → jM → jN → Prop}
    (hq : ∀ P' M' N', PR P' [39, 42, 41, 40, 38, 9, 37, 36, 35, 8, 30, 31, 32, 33, 34, 29, 7, 28, 27, 6, 26, 25, 24, 23, 5, 131, 130, 129, 128, 22, 21, 20, 19, 18, 4, 17, 3, 16, 15, 2, 1] → P'.2.2 = P.2.2 → WR P' M' → (∀ k, k ≠ 9 → ¬ (38 ≤ k ∧ k ≤ 42) → M' k = M k) → (∀ j, 1 ≤ j → j ≤ 5 → M' 9 j = 1) → (∀ j, j = 0 ∨ j = 6 → M' 9 j = M 9 j) → (∀ k, k = 39 ∨ k = 40 → M' k = fun _ => 0) → Q P' M' N') : w_X6_init P (nI (2 ^ n)) M N Q := by
  have C := two_le h9
  unfold w_X6_init
  refine ⟨hS.yes 9 (by omega) (by decide), hW.free (hS.no 38 (by omega) (by decide)), ?_⟩
  intro b3 P4 e4
  have S4 := hS.new 38 b3
  have w4 := (hW.new (a := b3) (show 38 ≠ 30 by omega)).upr (k := 9) (j := 1) (v := 1) (d := 38) rfl (by omega) (pnew_at _ _ _).1
  rw [← e4] at S4 w4
  refine ⟨w4.free (S4.no 40 (by omega) (by decide)), ?_⟩
  intro b11 P12 e12 M19 e19
  have S12 := S4.new 40 b11
  have w12 := (w4.new (a := b11) (show 40 ≠ 30 by omega)).upr (k := 9) (j := 3) (v := 1) (d := 40) rfl (by omega) (pnew_at _ _ _).1
  rw [← e12] at S12 w12
  rw [← e19] at w12
  refine ⟨w12.free (S12.no 41 (by omega) (by decide)), ?_⟩
  intro b21 P22 e22 M30 e30
  have S22 := S12.new 41 b21
  have w22 := (w12.new (a := b21) (show 41 ≠ 30 by omega)).upr (k := 9) (j := 4) (v := 1) (d := 41) rfl (by omega) (pnew_at _ _ _).1
  rw [← e22] at S22 w22
  rw [← e30] at w22
  refine ⟨w22.free (S22.no 42 (by omega) (by decide)), ?_⟩
  intro b32 P33 e33 N42 e42
  have S33 := S22.new 42 b32
  have w33 := (w22.new (a := b32) (show 42 ≠ 30 by omega)).upr (k := 9) (j := 5) (v := 1) (d := 42) rfl (by omega) (pnew_at _ _ _).1
  rw [← e33] at S33 w33
  have z33 : P33.2.2 = P.2.2 := by rw [e33, e22, e12, e4]; rfl
  refine ⟨w33.free (S33.no 39 (by omega) (by decide)), by rw [z33, z1], by rw [z33, z1]; exact C, ?_⟩
  intro b46 P47 e47 M57 e57
  have S47 := S33.new 39 b46
  have w47 := (w33.new (a := b46) (show 39 ≠ 30 by omega)).upr (k := 9) (j := 2) (v := 1) (d := 39) rfl (by omega) (pnew_at _ _ _).1
  rw [← e47] at S47 w47
  rw [← e57] at w47
  refine hq P47 _ _ S47 (by rw [e47]; exact z33) w47 (fun k a b => ?_) (fun j h1 h5 => ?_) (fun j hj => ?_) (fun k hk => ?_)
  · rw [upM_ne _ _ _ a, e57, zM_ne (by omega), upM_ne _ _ _ a, zM_ne (by omega), e30, upM_ne _ _ _ a, zM_ne (by omega), upM_ne _ _ _ a, e19, zM_ne (by omega), upM_ne _ _ _ a, zM_ne (by omega)]
  · have : j = 1 ∨ j = 2 ∨ j = 3 ∨ j = 4 ∨ j = 5 := by omega
    rw [e57, e30, e19]
    rcases this with rfl | rfl | rfl | rfl | rfl <;> rfl
  · rw [e57, e30, e19]
    rcases hj with rfl | rfl <;> rfl
  · rw [e57, e30, e19]
    rcases hk with rfl | rfl <;> rfl
theorem i_X8 {P : jP} {M : jM} {N : jN} (hS : PR P [10, 39, 42, 41, 40, 38, 9, 37, 36, 35, 8, 30, 31, 32, 33, 34, 29, 7, 28, 27, 6, 26, 25, 24, 23, 5, 131, 130, 129, 128, 22, 21, 20, 19, 18, 4, 17, 3, 16, 15, 2, 1]) (hW : WR P M) {Q : jP → jM → jN → Prop}
    (hq : ∀ P' M' N', PR P' [44, 43, 10, 39, 42, 41, 40, 38, 9, 37, 36, 35, 8, 30, 31, 32, 33, 34, 29, 7, 28, 27, 6, 26, 25, 24, 23, 5, 131, 130, 129, 128, 22, 21, 20, 19, 18, 4, 17, 3, 16, 15, 2, 1] → P'.2.2 = P.2.2 → WR P' M' → (∀ k, k ≠ 10 → k ≠ 43 → k ≠ 44 → M' k = M k) → (∀ j, j = 1 ∨ j = 2 → M' 10 j = 1) → M' 10 0 = M 10 0 → Q P' M' N') : w_X8_init P M N Q := by
  unfold w_X8_init
  refine ⟨hS.yes 10 (by omega) (by decide), hW.free (hS.no 43 (by omega) (by decide)), ?_⟩
  intro b3 P4 e4
  have S4 := hS.new 43 b3
  have w4 := (hW.new (a := b3) (show 43 ≠ 30 by omega)).upr (k := 10) (j := 1) (v := 1) (d := 43) rfl (by omega) (pnew_at _ _ _).1
  rw [← e4] at S4 w4
  refine ⟨w4.free (S4.no 44 (by omega) (by decide)), ?_⟩
  intro b11 P12 e12 M19 e19
  have S12 := S4.new 44 b11
  have w12 := (w4.new (a := b11) (show 44 ≠ 30 by omega)).upr (k := 10) (j := 2) (v := 1) (d := 44) rfl (by omega) (pnew_at _ _ _).1
  rw [← e12] at S12 w12
  rw [← e19] at w12
  refine hq P12 _ _ S12 (by rw [e12, e4]; rfl) w12 (fun k a b c => by rw [upM_ne _ _ _ a, e19, zM_ne c, upM_ne _ _ _ a, zM_ne b]) (fun j hj => ?_) (by rw [e19]; rfl)
  rw [e19]
  rcases hj with rfl | rfl <;> rfl
