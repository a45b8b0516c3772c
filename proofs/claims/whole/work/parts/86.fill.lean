/-! ways: the class's fill -/
def CoreC (P : jP) (M : jM) (n : Nat) : Prop := (1 ≤ n ∧ n ≤ 9) ∧ (P.2.2 0 = n ∧ P.2.2 1 = 2 ^ n ∧ P.2.2 2 = 3 ^ n ∧ P.2.2 3 = sideN n * sideN n) ∧ M 2 1 = nI (2 ^ n - 1) ∧ M 5 1 = nI (sideN n) ∧ (∀ f, f < n → M 15 f = nI (3 ^ f)) ∧ ∀ b, b < 2 ^ n → M 16 b = nI (sum3 b)
theorem RelC.core {P : jP} {M : jM} {A : aS} (h : RelC P M A) : CoreC P M (A.1 0) :=
  ⟨h.1.1.1, ⟨h.2.1.1, h.2.1.2.1, h.2.1.2.2.1, h.2.1.2.2.2.1⟩, h.full, h.2.2.1 5 1 rfl, fun f hf => h.2.2.1 15 f hf, fun b hb => h.2.2.1 16 b hb⟩
def agW (l : Nat) (M M' : jM) : Prop := (∀ k, k ≠ 5 → k ≠ 23 → k ≠ 24 → k ≠ 64 + 8 * l + 4 → M' k = M k) ∧ ∀ j, j ≠ 6 → j ≠ 7 → M' 5 j = M 5 j
theorem agW.refl (l : Nat) (M : jM) : agW l M M := ⟨fun _ _ _ _ _ => rfl, fun _ _ _ => rfl⟩
theorem agW.trans {l : Nat} {M M' M2 : jM} (h : agW l M M') (h' : agW l M' M2) : agW l M M2 := ⟨fun k a b c d => (h'.1 k a b c d).trans (h.1 k a b c d), fun j a b => (h'.2 j a b).trans (h.2 j a b)⟩
theorem agW.u5 {l : Nat} (M : jM) {j : Nat} (hj : j = 6 ∨ j = 7) (v : Int32) : agW l M (upM M 5 j v) := ⟨fun k a _ _ _ => upM_ne _ _ _ a, fun i a b => by rw [up_at, if_neg (by omega)]⟩
theorem agW.u23 {l : Nat} (M : jM) (j : Nat) (v : Int32) : agW l M (upM M 23 j v) := ⟨fun k _ b _ _ => upM_ne _ _ _ b, fun i _ _ => up_of _ _ _ _ (by omega)⟩
theorem agW.u24 {l : Nat} (M : jM) (j : Nat) (v : Int32) : agW l M (upM M 24 j v) := ⟨fun k _ _ c _ => upM_ne _ _ _ c, fun i _ _ => up_of _ _ _ _ (by omega)⟩
theorem agW.uw {l : Nat} (M : jM) (j : Nat) (v : Int32) : agW l M (upM M (64 + 8 * l + 4) j v) := ⟨fun k _ _ _ d => upM_ne _ _ _ d, fun i _ _ => up_of _ _ _ _ (by omega)⟩
theorem CoreC.agW {P : jP} {M M' : jM} {n l : Nat} (h : CoreC P M n) (g : agW l M M') : CoreC P M' n := by
  obtain ⟨a, b, c, d, e, f⟩ := h
  refine ⟨a, b, ?_, ?_, fun i hi => ?_, fun i hi => ?_⟩
  · rw [g.1 2 (by omega) (by omega) (by omega) (by omega)]; exact c
  · rw [g.2 1 (by omega) (by omega)]; exact d
  · rw [g.1 15 (by omega) (by omega) (by omega) (by omega)]; exact e i hi
  · rw [g.1 16 (by omega) (by omega) (by omega) (by omega)]; exact f i hi
theorem place_core {P : jP} {M : jM} {n : Nat} (h : CoreC P M n) {kn so : Nat} (hk : kn < 2 ^ n) (hs : so < 2 ^ n) {Q : Int32 → Prop} (hq : Q (nI (sum3 kn + sum3 so))) : w_X3_place P (nI kn) (nI so) M Q := by
  have hC := two_le h.1.2
  unfold w_X3_place
  rw [h.2.1.2.1]
  refine ⟨vin hk (by omega), vin hs (by omega), ?_⟩
  rw [nI_clamp (show kn < 2 ^ 31 by omega), nI_clamp (show so < 2 ^ 31 by omega), h.2.2.2.2.2 kn hk, h.2.2.2.2.2 so hs, nI_add]
  exact hq
theorem place_lt {n kn so : Nat} (hn : n ≤ 9) (hk : kn < 2 ^ n) (hs : so < 2 ^ n) : sum3 kn + sum3 so < 3 ^ n ∧ 3 ^ n ≤ 19683 := by
  have h1 := sum3_le hn hk
  have h2 := sum3_le hn hs
  have h3 : 3 ^ n ≤ 3 ^ 9 := Nat.pow_le_pow_right (by omega) hn
  have h4 : (3 : Nat) ^ 9 = 19683 := rfl
  omega
/-- the lowest fact that is not known -/
abbrev freeL (n kn : Nat) : Nat := lowb (andn (2 ^ n - 1) kn)
theorem free_ok {n kn : Nat} (hn : n ≤ 9) (hk : kn < 2 ^ n) (hne : kn ≠ 2 ^ n - 1) : freeL n kn < n ∧ ¬ kn.testBit (freeL n kn) = true ∧ andn (2 ^ n - 1) kn < 4096 := by
  have hC := two_le hn
  have hle : andn (2 ^ n - 1) kn ≤ 2 ^ n - 1 := andn_le
  have bits : ∀ i, i < n → (andn (2 ^ n - 1) kn).testBit i = !kn.testBit i := fun i hi => by
    unfold andn
    rw [Nat.testBit_and, Nat.testBit_xor, Nat.testBit_two_pow_sub_one, decide_eq_true hi, show Nat.testBit 4095 i = true from (by decide : ∀ i, i < 12 → Nat.testBit 4095 i = true) i (by omega)]
    cases kn.testBit i <;> rfl
  obtain ⟨f, f1, f2⟩ := some_out hk hne
  have h0 : andn (2 ^ n - 1) kn ≠ 0 := fun e => by
    have := bits f f1
    rw [e, Nat.zero_testBit, Bool.eq_false_iff.mpr f2] at this
    exact absurd this (by decide)
  have hb := lowb_bit _ (by omega) h0
  have hlt : freeL n kn < n := by
    apply Classical.byContradiction
    intro z
    have : (andn (2 ^ n - 1) kn).testBit (freeL n kn) = false := Nat.testBit_lt_two_pow (Nat.lt_of_lt_of_le (show andn (2 ^ n - 1) kn < 2 ^ n by omega) (Nat.pow_le_pow_right (by omega) (by omega)))
    rw [this] at hb
    exact absurd hb (by decide)
  refine ⟨hlt, fun z => ?_, by omega⟩
  have := bits _ hlt
  rw [hb, z] at this
  exact absurd this (by decide)
theorem s11_joined {P : jP} {M : jM} {n l kn so a d : Nat} (h : CoreC P M n) (hlw : cLw P (64 + 8 * l) = true) (hi4 : cIA P (64 + 8 * l + 4) = some (3 ^ n)) (hk : kn < 2 ^ n) (hne : kn ≠ 2 ^ n - 1) (hs : so < 2 ^ n) (hsub : so &&& kn = so) (ea : M (64 + 8 * l + 4) (sum3 (kn ||| 2 ^ freeL n kn) + sum3 so) = nI a) (ed : M (64 + 8 * l + 4) (sum3 (kn ||| 2 ^ freeL n kn) + sum3 (so ||| 2 ^ freeL n kn)) = nI d) (ha : a < sideN n) (hd : d < sideN n) {Q : Int32 → jM → Prop} (q0 : a = d → a < 7 → Q (nI a) M) (q1 : ¬ (a = d ∧ a < 7) → M 23 (a * sideN n + d) = M 5 6 → Q (M 24 (a * sideN n + d)) M) (q2 : ¬ (a = d ∧ a < 7) → ¬ M 23 (a * sideN n + d) = M 5 6 → Q (M 5 7) (upM (upM (upM M 23 (a * sideN n + d) (M 5 6)) 5 7 (M 5 7 + 1)) 24 (a * sideN n + d) (M 5 7))) : w_X1_joined P (64 + 8 * l) (nI (sum3 kn + sum3 so)) (nI kn) M Q := by
  obtain ⟨hn, ⟨z0, z1, z2, z3⟩, m1, m5, m15, m16⟩ := h
  have hC := two_le hn.2
  have hsd := side_le hn.2
  have hsq := side_sq hn.2
  obtain ⟨f1, f2, f3⟩ := free_ok hn.2 hk hne
  have hsb : ¬ so.testBit (freeL n kn) = true := fun z => f2 (bits_sub hsub z)
  have hf2 : 2 ^ freeL n kn < 2 ^ n := Nat.pow_lt_pow_right (by omega) f1
  have k1 : kn ||| 2 ^ freeL n kn < 2 ^ n := Nat.or_lt_two_pow hk hf2
  have k2 : so ||| 2 ^ freeL n kn < 2 ^ n := Nat.or_lt_two_pow hs hf2
  have pl1 := place_lt hn.2 k1 hs
  have pl2 := place_lt hn.2 k1 k2
  have e1 : nI (sum3 kn + sum3 so) + nI (3 ^ freeL n kn) = nI (sum3 (kn ||| 2 ^ freeL n kn) + sum3 so) := by
    rw [nI_add, sum3_or f2 (by omega)]
    congr 1; omega
  have e2 : nI (sum3 kn + sum3 so) + 2 * nI (3 ^ freeL n kn) = nI (sum3 (kn ||| 2 ^ freeL n kn) + sum3 (so ||| 2 ^ freeL n kn)) := by
    rw [show (2 : Int32) = nI 2 from rfl, pk_mul, nI_add, sum3_or f2 (by omega), sum3_or hsb (by omega)]
    congr 1; omega
  unfold w_X1_joined w_X11_lowest
  refine s_bc ?_
  rw [m1, nI_andn (by omega), low_small _ f3]
  refine ⟨vin (show freeL n kn < P.2.2 0 by omega) (by omega), hlw, ?_⟩
  rw [nI_clamp (show freeL n kn < 2 ^ 31 by omega), m15 _ f1, e1, e2, nI_clamp (show sum3 (kn ||| 2 ^ freeL n kn) + sum3 so < 2 ^ 31 by omega), nI_clamp (show sum3 (kn ||| 2 ^ freeL n kn) + sum3 (so ||| 2 ^ freeL n kn) < 2 ^ 31 by omega), ea, ed]
  refine ⟨jin_of hi4 (by omega) (by omega), ?_⟩
  rintro y1 rfl
  refine ⟨hlw, jin_of hi4 (by omega) (by omega), ?_⟩
  rintro y2 rfl
  rw [m5, pk_mul, nI_add]
  have hp : a * sideN n + d < P.2.2 3 := by
    rw [z3]
    have h1 := Nat.mul_le_mul_right (sideN n) (show a + 1 ≤ sideN n by omega)
    rw [Nat.add_mul, Nat.one_mul] at h1
    omega
  have hp31 : a * sideN n + d < 2 ^ 31 := by omega
  have main : ¬ (a = d ∧ a < 7) → ∀ R65 : Prop, ((∀ R92 : Prop, ((Q (M 5 7) (upM M 5 7 ((M 5 7) + 1))) → R92) → ((nI (a * sideN n + d) < 0 → (R92)) ∧ (¬ nI (a * sideN n + d) < 0 → ((nI (a * sideN n + d) < (Int32.ofNat (P.2.2 3)) → (vp_in (nI (a * sideN n + d)) (P.2.2 3) ∧ ∀ R147 : jM → Prop, (∀ (M14 : jM), (vp_in (nI (a * sideN n + d)) (P.2.2 3) ∧ Q (M14 24 (nI (a * sideN n + d)).toNatClampNeg) M14) → R147 M14) → ((M 23 (nI (a * sideN n + d)).toNatClampNeg) = (M 5 6) → (R147 M)) ∧ (¬ (M 23 (nI (a * sideN n + d)).toNatClampNeg) = (M 5 6) → (vp_in (nI (a * sideN n + d)) (P.2.2 3) ∧ ∀ M18 : jM, M18 = upM M 23 (nI (a * sideN n + d)).toNatClampNeg (M 5 6) → vp_in (nI (a * sideN n + d)) (P.2.2 3) ∧ ∀ M20 : jM, M20 = upM (upM M18 5 7 ((M18 5 7) + 1)) 24 (nI (a * sideN n + d)).toNatClampNeg (M18 5 7) → R147 M20)))) ∧ (¬ nI (a * sideN n + d) < (Int32.ofNat (P.2.2 3)) → (R92)))))) → R65) → R65 := by
    intro hnt R65 h65
    refine h65 ?_
    intro R92 h92
    refine br_f (nI_pos hp31) (br_t ((nI_ltI hp31 (by omega)).mpr hp) ⟨vin hp (by omega), ?_⟩)
    intro R147 h147
    rw [nI_clamp hp31]
    refine br_c (fun z => h147 _ ⟨vin hp (by omega), by rw [nI_clamp hp31]; exact q1 hnt z⟩) (fun z => ⟨vin hp (by omega), ?_⟩)
    rintro M18 rfl
    rw [up_of _ _ _ _ (show (5 : Nat) ≠ 23 by omega)]
    refine ⟨vin hp (by omega), ?_⟩
    rintro M20 rfl
    refine h147 _ ⟨vin hp (by omega), ?_⟩
    rw [nI_clamp hp31]
    have := q2 hnt z
    rw [up_at, if_pos rfl]
    exact this
  intro R65 h65
  have mm := fun w => main w R65 h65
  rw [nI_eq (show a < 2 ^ 31 by omega) (show d < 2 ^ 31 by omega)]
  refine bn_c (fun z => mm (fun y => z y.1)) (fun z => br_c (fun y => mm (fun w => ?_)) (fun y => ?_))
  · have := (nI_leI (a := 7) (by omega) (by omega)).mp y
    omega
  · have y : ¬ 7 ≤ a := fun w => y ((nI_leI (a := 7) (by omega) (by omega)).mpr w)
    exact q0 z (by omega)
