/-! THE CLASS'S MAKERS, on the tables: what stands behind each -/
theorem pow_or {i c : Nat} (hc : c < 2 ^ i) : 2 ^ i ||| c = 2 ^ i + c := by
  have := Nat.two_pow_add_eq_or_of_lt hc 1
  rw [Nat.mul_one] at this
  exact this.symm
theorem nI_m1 {n : Nat} (h : 0 < n) : nI n - 1 = nI (n - 1) := by
  obtain ⟨x, rfl⟩ : ∃ x, n = x + 1 := ⟨n - 1, by omega⟩
  rw [nI_pred, Nat.add_sub_cancel]
theorem i_X3 {P : jP} {M : jM} {N : jN} {n : Nat} (hS : PR P [2, 1]) (hW : WR P M) (z0 : P.2.2 0 = n) (z1 : P.2.2 1 = 2 ^ n) (h1 : 1 ≤ n) (h9 : n ≤ 9) {Q : jP → jM → jN → Prop}
    (hq : ∀ P' M' N', PR P' [16, 15, 2, 1] → P'.2.2 = P.2.2 → WR P' M' → (∀ k, k ≠ 2 → k ≠ 15 → k ≠ 16 → M' k = M k) → M' 2 0 = nI n → M' 2 1 = nI (2 ^ n - 1) → M' 2 2 = nI (2 ^ n) → M' 2 3 = nI (3 ^ n) → M' 2 4 = 1 → M' 2 5 = 1 → (∀ f, f < n → M' 15 f = nI (3 ^ f)) → (∀ b, b < 2 ^ n → M' 16 b = nI (sum3 b)) → Q P' M' N') : w_X3_init P (nI n) M N Q := by
  have C := two_le h9
  have C3 : 3 ^ n ≤ 3 ^ 9 := Nat.pow_le_pow_right (by omega) h9
  have C9 : (3 : Nat) ^ 9 = 19683 := by decide
  unfold w_X3_init
  refine ⟨hS.yes 2 (by omega) (by decide), ?_⟩
  intro M2 e2 M3 e3
  have a22 : M2 2 2 = nI (2 ^ n) := by rw [e2, up_at, if_pos rfl, shl_1 (by omega)]
  have b20 : M3 2 0 = nI n := by rw [e3, e2]; rfl
  have b21 : M3 2 1 = nI (2 ^ n - 1) := by rw [e3, up_at, if_pos rfl, a22, nI_m1 (Nat.two_pow_pos n)]
  have b22 : M3 2 2 = nI (2 ^ n) := by rw [e3, up_at, if_neg (by omega), a22]
  have m3 : ∀ k, k ≠ 2 → M3 k = M k := fun k hk => by rw [e3, upM_ne _ _ _ hk, e2, upM_ne _ _ _ hk, upM_ne _ _ _ hk]
  have w3 : WR P M3 := by rw [e3, e2]; exact ((hW.upi rfl).upi rfl).upi rfl
  clear e3 e2 a22
  refine ⟨w3.free (hS.no 15 (by omega) (by decide)), by rw [z0], by rw [z0]; exact h9, ?_⟩
  intro b7 P8 e8
  have S8 : PR P8 [15, 2, 1] := by rw [e8]; exact hS.new 15 b7
  have z8 : P8.2.2 = P.2.2 := by rw [e8]; rfl
  have w8 : WR P8 (upM (zM M3 15) 2 4 1) := by rw [e8]; exact (w3.new (by omega)).upr (d := 15) rfl (by omega) (pnew_at _ _ _).1
  refine ⟨w8.free (S8.no 16 (by omega) (by decide)), by rw [z8, z1]; exact b22, by rw [z8, z1]; exact C, ?_⟩
  intro b17 P18 e18
  have S18 : PR P18 [16, 15, 2, 1] := by rw [e18]; exact S8.new 16 b17
  have z18 : P18.2.2 = P.2.2 := by rw [e18]; exact z8
  intro M25 e25
  have w25 : WR P18 (upM M25 2 5 1) := by rw [e25, e18]; exact (w8.new (by omega)).upr (d := 16) rfl (by omega) (pnew_at _ _ _).1
  have f2 : ∀ j, j ≠ 4 → j ≠ 5 → upM M25 2 5 1 2 j = M3 2 j := fun j a b => by
    rw [up_at, if_neg b, e25]
    show upM (zM M3 15) 2 4 1 2 j = _
    rw [up_at, if_neg a]
    rfl
  have f24 : upM M25 2 5 1 2 4 = 1 := by rw [e25]; rfl
  have f25 : upM M25 2 5 1 2 5 = 1 := rfl
  have fk : ∀ k, k ≠ 2 → k ≠ 15 → k ≠ 16 → upM M25 2 5 1 k = M k := fun k a b c => by
    rw [upM_ne _ _ _ a, e25, zM_ne c, upM_ne _ _ _ a, zM_ne b, m3 k a]
  have f16 : upM M25 2 5 1 16 0 = nI (sum3 0) := by rw [e25]; rfl
  generalize upM M25 2 5 1 = M26 at w25 f2 f24 f25 fk f16 ⊢
  clear e25 w8 w3
  intro R47 h47
  refine lp_up (R := fun i => ∀ M28, (∀ k, k ≠ 15 → k ≠ 16 → M28 k = M26 k) → WR P18 M28 → (∀ f, f < i → M28 15 f = nI (3 ^ f)) → (∀ b, b < 2 ^ i → M28 16 b = nI (sum3 b)) → R47 (nI (3 ^ i)) (nI i) M28) n (fun M28 g1 g2 g3 g4 => ?_) (fun i hi ih M28 g1 g2 g3 g4 => ?_) 0 (Nat.zero_le _) M26 (fun _ _ _ => rfl) w25 (fun f hf => absurd hf (Nat.not_lt_zero f)) (fun b hb => by
    have : b = 0 := by simpa using hb
    rw [this]; exact f16)
  · refine h47 _ _ _ (br_t (Int32.le_refl _) ?_)
    have e2 : M28 2 = M26 2 := g1 2 (by omega) (by omega)
    refine hq P18 _ _ S18 z18 (g2.upi rfl) (fun k a b c => by rw [upM_ne _ _ _ a, g1 k b c, fk k a b c]) ?_ ?_ ?_ rfl ?_ ?_ (fun f hf => by rw [up_of _ _ _ _ (by omega)]; exact g3 f hf) (fun b hb => by rw [up_of _ _ _ _ (by omega)]; exact g4 b hb)
    · rw [up_at, if_neg (by omega), e2, f2 0 (by omega) (by omega)]; exact b20
    · rw [up_at, if_neg (by omega), e2, f2 1 (by omega) (by omega)]; exact b21
    · rw [up_at, if_neg (by omega), e2, f2 2 (by omega) (by omega)]; exact b22
    · rw [up_at, if_neg (by omega), e2]; exact f24
    · rw [up_at, if_neg (by omega), e2]; exact f25
  · have hp : 2 ^ i ≤ 2 ^ 8 := Nat.pow_le_pow_right (by omega) (by omega)
    have hpn : 2 ^ (i + 1) ≤ 2 ^ n := Nat.pow_le_pow_right (by omega) (by omega)
    have hps : 2 ^ (i + 1) = 2 ^ i + 2 ^ i := by rw [Nat.pow_succ]; omega
    have c8 : (2 : Nat) ^ 8 = 256 := by decide
    refine h47 _ _ _ (br_f (nI_ge hi (by omega)) ⟨by rw [g1 2 (by omega) (by omega), f24]; decide, by rw [z18, z0]; exact vin hi (by omega), ?_⟩)
    rw [nI_clamp (show i < 2 ^ 31 by omega), shl_1 (show i < 32 by omega)]
    intro M32 e32
    intro R62 h62
    refine lp_up (R := fun c => ∀ M34, (∀ k, k ≠ 15 → k ≠ 16 → M34 k = M26 k) → WR P18 M34 → (∀ f, f < i + 1 → M34 15 f = nI (3 ^ f)) → (∀ b, b < 2 ^ i + c → M34 16 b = nI (sum3 b)) → R62 (nI c) M34) (2 ^ i) (fun M34 t1 t2 t3 t4 => ?_) (fun c hc ih2 M34 t1 t2 t3 t4 => ?_) 0 (Nat.zero_le _) M32 (fun k a b => by rw [e32, upM_ne _ _ _ a]; exact g1 k a b) (by rw [e32]; exact g2.upi rfl) (fun f hf => ?_) (fun b hb => by rw [e32, up_of _ _ _ _ (by omega)]; exact g4 b (by omega))
    · refine h62 _ _ (br_t (Int32.le_refl _) ?_)
      have e3 : nI (3 ^ i) * 3 = nI (3 ^ (i + 1)) := by rw [show (3 : Int32) = nI 3 from rfl, pk_mul, Nat.pow_succ]
      rw [e3, nI_1]
      exact ih M34 t1 t2 t3 (fun b hb => t4 b (by omega))
    · have v1 : vp_in (nI c) (P18.2.2 1) := by rw [z18, z1]; exact vin (by omega) (by omega)
      have v2 : vp_in (nI (2 ^ i) ||| nI c) (P18.2.2 1) := by rw [z18, z1, nI_or, pow_or hc]; exact vin (by omega) (by omega)
      have n5 : ¬ M34 2 5 = 0 := by rw [t1 2 (by omega) (by omega), f25]; decide
      refine h62 _ _ (br_f (nI_ge hc (by omega)) ⟨n5, n5, v1, v2, ?_⟩)
      rw [nI_or, pow_or hc, nI_clamp (show 2 ^ i + c < 2 ^ 31 by omega), nI_clamp (show c < 2 ^ 31 by omega), t4 c (by omega), nI_add, nI_1]
      intro M40 e40
      have hb : ¬ c.testBit i = true := by rw [Nat.testBit_lt_two_pow hc]; decide
      have es : sum3 c + 3 ^ i = sum3 (2 ^ i + c) := by rw [← pow_or hc, Nat.or_comm, sum3_or hb (by omega)]
      refine ih2 M40 (fun k a b => by rw [e40, upM_ne _ _ _ b]; exact t1 k a b) (by rw [e40]; exact t2.upi rfl) (fun f hf => by rw [e40, up_of _ _ _ _ (by omega)]; exact t3 f hf) (fun b hb2 => ?_)
      rw [e40, up_at]
      by_cases z : b = 2 ^ i + c
      · rw [if_pos z, z, es]
      · rw [if_neg z]; exact t4 b (by omega)
    · rw [e32, up_at]
      by_cases z : f = i
      · rw [if_pos z, z]
      · rw [if_neg z]; exact g3 f (by omega)
theorem i_X10 {P : jP} {M : jM} {N : jN} (hS : PR P [3, 16, 15, 2, 1]) (hW : WR P M) {Q : jP → jM → jN → Prop}
    (hq : ∀ P' M' N', PR P' [17, 3, 16, 15, 2, 1] → P'.2.2 = P.2.2 → WR P' M' → (∀ k, k ≠ 3 → k ≠ 17 → M' k = M k) → M' 3 0 = 1 → (∀ j, j = 1 ∨ j = 2 → M' 3 j = M 3 j) → M' 3 3 = -1 → Q P' M' N') : w_X10_init P M N Q := by
  unfold w_X10_init
  refine ⟨hS.yes 3 (by omega) (by decide), hW.free (hS.no 17 (by omega) (by decide)), ?_⟩
  intro b3 P4 e4 M10 e10
  subst e4 e10
  refine hq _ _ _ (hS.new 17 b3) rfl (((hW.new (by omega)).upr (d := 17) rfl (by omega) (pnew_at _ _ _).1).upi rfl) (fun k a b => by rw [upM_ne _ _ _ a, upM_ne _ _ _ a, zM_ne b]) rfl (fun j hj => ?_) rfl
  rcases hj with rfl | rfl <;> rfl
theorem i_X2 {P : jP} {M : jM} {N : jN} {g : Nat} {S : List Nat} (hg : ∃ f, f ≤ 6 ∧ g = 128 + 4 * f) (hS : PR P S) (h0 : g ∈ S) (h1 : g + 1 ∉ S) (h2 : g + 2 ∉ S) (h3 : g + 3 ∉ S) (hW : WR P M) {Q : jP → jM → jN → Prop}
    (hq : ∀ P' M' N', PR P' ((g + 3) :: (g + 2) :: (g + 1) :: S) → P'.2.2 = P.2.2 → WR P' M' → (∀ k, k ≠ g → k ≠ g + 1 → k ≠ g + 2 → k ≠ g + 3 → M' k = M k) → M' g 0 = M g 0 → (∀ j, 1 ≤ j → j ≤ 3 → M' g j = 1) → (∀ j, 1 ≤ j → j ≤ 3 → M' (g + j) = fun _ => 0) → (∀ k, ¬ (g ≤ k ∧ k ≤ g + 3) → N' k = N k) → Q P' M' N') : w_X2_init P g M N Q := by
  obtain ⟨f, hf, eg⟩ := hg
  have ob : kob g = some (2, [0, g + 1, g + 2, g + 3]) := by
    subst eg
    unfold kob
    rw [if_pos (by rw [Nat.ble_eq]; omega), if_neg (by simp only [Bool.and_eq_true, Nat.ble_eq, Nat.blt_eq]; omega), if_pos]
    simp only [Bool.and_eq_true, Nat.ble_eq, Nat.blt_eq]
    exact ⟨⟨by omega, by omega⟩, by rw [show (128 + 4 * f) % 4 = 0 by omega]; rfl⟩
  have no : ∀ r, 1 ≤ r → r ≤ 3 → kob (g + r) = none := by
    intro r a b
    subst eg
    unfold kob
    rw [if_pos (by rw [Nat.ble_eq]; omega), if_neg (by simp only [Bool.and_eq_true, Nat.ble_eq, Nat.blt_eq]; omega), if_neg]
    simp only [Bool.and_eq_true, Nat.ble_eq, Nat.blt_eq]
    intro z
    have := Nat.eq_of_beq_eq_true z.2
    omega
  have ar : ∀ r, 1 ≤ r → r ≤ 3 → ∀ (P : jP) (tA : Nat → ClassId) (f : Nat → Int32) (h : Nat → Int64), P.2.1 (g + r) = true → LC tA P (g + r) f h = some (.inl (tA 0, 12, .inl f)) := by
    intro r a b P tA f' h hp
    refine LC_ia ?_ tA f' h
    unfold cIA
    rw [if_neg (by omega), if_neg (by omega), if_pos]
    rw [hp]
    simp only [Bool.and_eq_true, Nat.ble_eq, Nat.blt_eq, Bool.not_eq_true', and_true]
    refine ⟨⟨by omega, by omega⟩, ?_⟩
    cases e : Nat.beq ((g + r) % 4) 0 with
    | false => rfl
    | true => exact absurd (Nat.eq_of_beq_eq_true e) (by omega)
  have g200 : g < 200 := by omega
  unfold w_X2_init
  refine ⟨hS.yes g (by omega) h0, ob, g200, no 1 (by omega) (by omega), ar 1 (by omega) (by omega), no 2 (by omega) (by omega), ar 2 (by omega) (by omega), no 3 (by omega) (by omega), ar 3 (by omega) (by omega), hW.free (hS.no (g + 1) (by omega) h1), ?_⟩
  intro b9 P10 e10
  have S10 : PR P10 ((g + 1) :: S) := by rw [e10]; exact hS.new _ _
  have w10 : WR P10 (upM (zM M (g + 1)) g 1 1) := by rw [e10]; exact (hW.new (by omega)).upr (refD_ob ob (j := 1) rfl) (by omega) (pnew_at _ _ _).1
  refine ⟨w10.free (S10.no (g + 2) (by omega) (fun z => (List.mem_cons.mp z).elim (fun y => by omega) h2)), ?_⟩
  intro b17 P18 e18 M25 e25 N26 e26
  have S18 : PR P18 ((g + 2) :: (g + 1) :: S) := by rw [e18]; exact S10.new _ _
  have w18 : WR P18 (upM M25 g 2 1) := by rw [e18, e25]; exact (w10.new (by omega)).upr (refD_ob ob (j := 2) rfl) (by omega) (pnew_at _ _ _).1
  refine ⟨w18.free (S18.no (g + 3) (by omega) (fun z => (List.mem_cons.mp z).elim (fun y => by omega) (fun y => (List.mem_cons.mp y).elim (fun x => by omega) h3))), ?_⟩
  intro b28 P29 e29 M37 e37
  refine hq P29 _ _ (by rw [e29]; exact S18.new _ _) (by rw [e29, e18, e10]; rfl) (by rw [e29, e37]; exact (w18.new (by omega)).upr (refD_ob ob (j := 3) rfl) (by omega) (pnew_at _ _ _).1) (fun k a b c d => ?_) ?_ (fun j a b => ?_) (fun j a b => ?_) (fun k hk => by
    have zn : ∀ (N : jN) (g : Nat), k ≠ g → zN N g k = N k := fun N g h => if_neg h
    rw [zn _ _ (by omega), e26, zn _ _ (by omega), zn _ _ (by omega)])
  · rw [upM_ne _ _ _ a, e37, zM_ne d, upM_ne _ _ _ a, e25, zM_ne c, upM_ne _ _ _ a, zM_ne b]
  · rw [up_at, if_neg (by omega), e37, zM_ne (by omega), up_at, if_neg (by omega), e25, zM_ne (by omega), up_at, if_neg (by omega), zM_ne (by omega)]
  · have : j = 1 ∨ j = 2 ∨ j = 3 := by omega
    rcases this with rfl | rfl | rfl
    · rw [up_at, if_neg (by omega), e37, zM_ne (by omega), up_at, if_neg (by omega), e25, zM_ne (by omega), up_at, if_pos rfl]
    · rw [up_at, if_neg (by omega), e37, zM_ne (by omega), up_at, if_pos rfl]
    · rw [up_at, if_pos rfl]
  · have : j = 1 ∨ j = 2 ∨ j = 3 := by omega
    rcases this with rfl | rfl | rfl
    · rw [upM_ne _ _ _ (by omega), e37, zM_ne (by omega), upM_ne _ _ _ (by omega), e25, zM_ne (by omega), upM_ne _ _ _ (by omega), zM_at]
    · rw [upM_ne _ _ _ (by omega), e37, zM_ne (by omega), upM_ne _ _ _ (by omega), e25, zM_at]
    · rw [upM_ne _ _ _ (by omega), e37, zM_at]
theorem i_X7 {P : jP} {M : jM} {N : jN} {a2 : Int32} (hS : PR P [4, 17, 3, 16, 15, 2, 1]) (hW : WR P M) {Q : jP → jM → jN → Prop}
    (hq : ∀ P' M' N', PR P' [131, 130, 129, 128, 22, 21, 20, 19, 18, 4, 17, 3, 16, 15, 2, 1] → P'.2.2 = P.2.2 → WR P' M' → (∀ k, k ≠ 4 → ¬ (18 ≤ k ∧ k ≤ 22) → ¬ (128 ≤ k ∧ k ≤ 131) → M' k = M k) → M' 4 1 = a2 → M' 4 9 = nI 128 → (∀ j, j = 0 ∨ j = 2 ∨ (5 ≤ j ∧ j ≤ 8) → M' 4 j = 1) → (∀ j, 1 ≤ j → j ≤ 3 → M' 128 j = 1) → Q P' M' N') : w_X7_init P a2 M N Q := by
  unfold w_X7_init
  refine ⟨hS.yes 4 (by omega) (by decide), hS.yes 3 (by omega) (by decide), hW.free (hS.no 18 (by omega) (by decide)), ?_⟩
  intro b4 P5 e5
  have S5 := hS.new 18 b4
  have w5 := (hW.new (a := b4) (show 18 ≠ 30 by omega)).upr (k := 4) (j := 2) (v := 1) (d := 18) rfl (by omega) (pnew_at _ _ _).1
  rw [← e5] at S5 w5
  refine ⟨w5.free (S5.no 19 (by omega) (by decide)), ?_⟩
  intro b13 P14 e14 M22 e22
  have S14 := S5.new 19 b13
  have w14 := (w5.new (a := b13) (show 19 ≠ 30 by omega)).upr (k := 4) (j := 5) (v := 1) (d := 19) rfl (by omega) (pnew_at _ _ _).1
  rw [← e14] at S14 w14
  rw [← e22] at w14
  refine ⟨w14.free (S14.no 20 (by omega) (by decide)), ?_⟩
  intro b24 P25 e25 M34 e34
  have S25 := S14.new 20 b24
  have w25 := (w14.new (a := b24) (show 20 ≠ 30 by omega)).upr (k := 4) (j := 6) (v := 1) (d := 20) rfl (by omega) (pnew_at _ _ _).1
  rw [← e25] at S25 w25
  rw [← e34] at w25
  refine ⟨w25.free (S25.no 21 (by omega) (by decide)), ?_⟩
  intro b36 P37 e37 N47 e47
  have S37 := S25.new 21 b36
  have w37 := (w25.new (a := b36) (show 21 ≠ 30 by omega)).upr (k := 4) (j := 7) (v := 1) (d := 21) rfl (by omega) (pnew_at _ _ _).1
  rw [← e37] at S37 w37
  refine ⟨w37.free (S37.no 22 (by omega) (by decide)), ?_⟩
  intro b49 P50 e50 M61 e61
  have S50 := S37.new 22 b49
  have w50 := (w37.new (a := b49) (show 22 ≠ 30 by omega)).upr (k := 4) (j := 8) (v := 1) (d := 22) rfl (by omega) (pnew_at _ _ _).1
  rw [← e50] at S50 w50
  rw [← e61] at w50
  refine ⟨w50.free (S50.no 128 (by omega) (by decide)), ?_⟩
  intro b63 P64 e64
  have S64 := S50.new 128 b63
  have w64 := w50.new (a := b63) (show 128 ≠ 30 by omega)
  rw [← e64] at S64 w64
  have z64 : P64.2.2 = P.2.2 := by rw [e64, e50, e37, e25, e14, e5]; rfl
  have f4 : ∀ j, j = 2 ∨ (5 ≤ j ∧ j ≤ 8) → zM (upM M61 4 8 1) 128 4 j = 1 := by
    intro j hj
    have : j = 2 ∨ j = 5 ∨ j = 6 ∨ j = 7 ∨ j = 8 := by omega
    rw [e61, e34, e22]
    rcases this with rfl | rfl | rfl | rfl | rfl <;> rfl
  have fk : ∀ k, k ≠ 4 → ¬ (18 ≤ k ∧ k ≤ 22) → ¬ (128 ≤ k ∧ k ≤ 131) → zM (upM M61 4 8 1) 128 k = M k := fun k a b c => by
    rw [zM_ne (by omega), upM_ne _ _ _ a, e61, zM_ne (by omega), upM_ne _ _ _ a, zM_ne (by omega), e34, upM_ne _ _ _ a, zM_ne (by omega), upM_ne _ _ _ a, e22, zM_ne (by omega), upM_ne _ _ _ a, zM_ne (by omega)]
  refine i_X2 ⟨0, by omega, rfl⟩ S64 (by decide) (by decide) (by decide) (by decide) w64 (fun P76 M77 N78 S76 z76 w76 k76 _ j76 _ _ => ?_)
  intro M91 e91
  refine hq P76 _ _ S76 (z76.trans z64) ?_ (fun k a b c => ?_) ?_ ?_ (fun j hj => ?_) (fun j a b => ?_)
  · rw [e91]
    exact ((w76.upk (k := 4) (j := 9) rfl (by rw [nI_clamp (by omega)]; exact S76.yes 128 (by omega) (by decide))).upr (k := 4) (j := 0) (d := 3) rfl (by omega) (S76.yes 3 (by omega) (by decide))).upi rfl
  · rw [upM_ne _ _ _ a, e91, upM_ne _ _ _ a, upM_ne _ _ _ a, k76 k (by omega) (by omega) (by omega) (by omega)]
    exact fk k a b c
  · rfl
  · rw [e91]; rfl
  · by_cases h0 : j = 0
    · subst h0; rw [e91]; rfl
    · rw [up_at, if_neg (by omega), e91, up_at, if_neg h0, up_at, if_neg (by omega), k76 4 (by omega) (by omega) (by omega) (by omega)]
      exact f4 j (by omega)
  · rw [up_of _ _ _ _ (by omega), e91, up_of _ _ _ _ (by omega), up_of _ _ _ _ (by omega)]
    exact j76 j a b
