/-! ways: one set of known facts -/
abbrev nmW (M : jM) (l n kn b : Nat) : Nat := (M (64 + 8 * l + 4) (sum3 (kn ||| 2 ^ freeL n kn) + sum3 b)).toNatClampNeg
def trivW (M : jM) (l n kn b : Nat) : Prop := nmW M l n kn b = nmW M l n kn (b ||| 2 ^ freeL n kn) ∧ nmW M l n kn b < 7
def prW (M : jM) (l n kn b : Nat) : Nat := nmW M l n kn b * sideN n + nmW M l n kn (b ||| 2 ^ freeL n kn)
def stB (M : jM) (s : Nat) : Nat → Bool := fun i => M 23 i == nI s
theorem stB_iff {M : jM} {s i : Nat} : stB M s i = true ↔ M 23 i = nI s := beq_iff_eq
def fillI (z : Nat) (M M' : jM) (n l kn s w k e : Nat) : Prop :=
  agW l M M' ∧ M' 5 6 = nI s ∧ M' 5 7 = nI w ∧ (7 ≤ w ∧ w ≤ 7 + k) ∧ (∀ i, i < z → ∃ v : Nat, v ≤ s ∧ M' 23 i = nI v) ∧ (∀ q b, q ≠ kn → q < 2 ^ n → b < 2 ^ n → b &&& q = b → M' (64 + 8 * l + 4) (sum3 q + sum3 b) = M (64 + 8 * l + 4) (sum3 q + sum3 b)) ∧ w = 7 + cntB (stB M' s) z ∧ (∀ b, b < e → b &&& kn = b → (trivW M l n kn b → M' (64 + 8 * l + 4) (sum3 kn + sum3 b) = nI (nmW M l n kn b)) ∧ (¬ trivW M l n kn b → M' 23 (prW M l n kn b) = nI s ∧ M' (64 + 8 * l + 4) (sum3 kn + sum3 b) = M' 24 (prW M l n kn b))) ∧ (∀ i, i < z → M' 23 i = nI s → (∃ b, b < e ∧ b &&& kn = b ∧ ¬ trivW M l n kn b ∧ i = prW M l n kn b) ∧ ∃ v : Nat, 7 ≤ v ∧ v < w ∧ M' 24 i = nI v) ∧ ∀ i j, i < z → j < z → M' 23 i = nI s → M' 23 j = nI s → M' 24 i = M' 24 j → i = j
theorem fillI_tail {z : Nat} {M M' : jM} {n l kn s w k b0 e : Nat} (hl : l < 6) (hn : n ≤ 9) (h : fillI z M M' n l kn s w k b0) (hk : kn < 2 ^ n) (hs : b0 &&& kn = b0) (hnx : ∀ c, c &&& kn = c → (c < e ↔ c < b0 ∨ c = b0)) {v : Int32} (ht : trivW M l n kn b0 → v = nI (nmW M l n kn b0)) (hnt : ¬ trivW M l n kn b0 → M' 23 (prW M l n kn b0) = nI s ∧ v = M' 24 (prW M l n kn b0)) : fillI z M (upM M' (64 + 8 * l + 4) (sum3 kn + sum3 b0) v) n l kn s w (k + 1) e := by
  obtain ⟨g, e6, e7, ⟨w1, w2⟩, hv, hq, hc, hb, hi, hj⟩ := h
  have hC := two_le hn
  have o23 : ∀ j, upM M' (64 + 8 * l + 4) (sum3 kn + sum3 b0) v 23 j = M' 23 j := fun j => up_of _ _ _ _ (by omega)
  have o24 : ∀ j, upM M' (64 + 8 * l + 4) (sum3 kn + sum3 b0) v 24 j = M' 24 j := fun j => up_of _ _ _ _ (by omega)
  have o5 : ∀ j, upM M' (64 + 8 * l + 4) (sum3 kn + sum3 b0) v 5 j = M' 5 j := fun j => up_of _ _ _ _ (by omega)
  refine ⟨g.trans (agW.uw _ _ _), by rw [o5]; exact e6, by rw [o5]; exact e7, ⟨w1, by omega⟩, fun i hi2 => by rw [o23]; exact hv i hi2, fun q b q1 q2 q3 q4 => ?_, ?_, fun b b1 b2 => ?_, fun i i1 i2 => ?_, fun i j i1 j1 i2 j2 e2 => ?_⟩
  · rw [up_at, if_neg (fun e2 => q1 (place_inj (by omega) (by omega) q4 hs e2).1)]
    exact hq q b q1 q2 q3 q4
  · rw [hc]
    congr 1
    exact cntB_congr (fun i _ => by unfold stB; rw [o23])
  · rw [up_at, o23, o24]
    by_cases eb : b = b0
    · subst eb
      rw [if_pos rfl]
      exact ⟨ht, hnt⟩
    · rw [if_neg (fun e2 => eb (place_inj (by omega) (by omega) b2 hs e2).2)]
      exact hb b (((hnx b b2).mp b1).resolve_right eb) b2
  · rw [o23] at i2
    rw [o24]
    obtain ⟨⟨b, b1, b2, b3⟩, v1⟩ := hi i i1 i2
    exact ⟨⟨b, (hnx b b2).mpr (Or.inl b1), b2, b3⟩, v1⟩
  · rw [o23] at i2 j2
    rw [o24, o24] at e2
    exact hj i j i1 j1 i2 j2 e2
theorem cntB_upd {p q : Nat → Bool} {x : Nat} (hp : ¬ p x = true) (hq : q x = true) (h : ∀ i, i ≠ x → q i = p i) : ∀ N, x < N → cntB q N = cntB p N + 1
  | 0, hx => absurd hx (Nat.not_lt_zero x)
  | N + 1, hx => by
    by_cases e : x = N
    · subst e
      rw [cntB_t hq, cntB_f hp, cntB_congr (fun c hc => h c (by omega))]
    · have ih := cntB_upd hp hq h N (by omega)
      show cntB q N + _ = cntB p N + _ + 1
      rw [ih, h N (fun z => e z.symm)]
      omega
theorem fillI_next {z : Nat} {M M' : jM} {n l kn s w k b0 e : Nat} (hl : l < 6) (hn : n ≤ 9) (h : fillI z M M' n l kn s w k b0) (hk20 : k ≤ 4096) (hk : kn < 2 ^ n) (hs : b0 &&& kn = b0) (hnx : ∀ c, c &&& kn = c → (c < e ↔ c < b0 ∨ c = b0)) (hp : prW M l n kn b0 < z) (hnt : ¬ trivW M l n kn b0) (hno : ¬ M' 23 (prW M l n kn b0) = nI s) : fillI z M (upM (upM (upM (upM M' 23 (prW M l n kn b0) (nI s)) 5 7 (nI w + 1)) 24 (prW M l n kn b0) (nI w)) (64 + 8 * l + 4) (sum3 kn + sum3 b0) (nI w)) n l kn s (w + 1) (k + 1) e := by
  obtain ⟨g, e6, e7, ⟨w1, w2⟩, hv, hq, hc, hb, hi, hj⟩ := h
  have hC := two_le hn
  generalize hM2 : upM (upM (upM (upM M' 23 (prW M l n kn b0) (nI s)) 5 7 (nI w + 1)) 24 (prW M l n kn b0) (nI w)) (64 + 8 * l + 4) (sum3 kn + sum3 b0) (nI w) = M2
  have o23 : ∀ j, M2 23 j = if j = prW M l n kn b0 then nI s else M' 23 j := fun j => by
    rw [← hM2, up_of _ _ _ _ (by omega), up_of _ _ _ _ (by omega), up_of _ _ _ _ (by omega), up_at]
  have o24 : ∀ j, M2 24 j = if j = prW M l n kn b0 then nI w else M' 24 j := fun j => by
    rw [← hM2, up_of _ _ _ _ (by omega), up_at, up_of _ _ _ _ (by omega), up_of _ _ _ _ (by omega)]
  have oK : ∀ j, M2 (64 + 8 * l + 4) j = if j = sum3 kn + sum3 b0 then nI w else M' (64 + 8 * l + 4) j := fun j => by
    rw [← hM2, up_at, up_of _ _ _ _ (by omega), up_of _ _ _ _ (by omega), up_of _ _ _ _ (by omega)]
  have g2 : agW l M M2 := by
    rw [← hM2]
    exact (((g.trans (agW.u23 _ _ _)).trans (agW.u5 _ (Or.inr rfl) _)).trans (agW.u24 _ _ _)).trans (agW.uw _ _ _)
  have o56 : M2 5 6 = nI s := by
    rw [← hM2, up_of _ _ _ _ (by omega), up_of _ _ _ _ (by omega), up_at, if_neg (by omega), up_of _ _ _ _ (by omega)]
    exact e6
  have o57 : M2 5 7 = nI (w + 1) := by
    rw [← hM2, up_of _ _ _ _ (by omega), up_of _ _ _ _ (by omega), up_at, if_pos rfl, nI_1]
  refine ⟨g2, o56, o57, ⟨by omega, by omega⟩, fun i hi2 => ?_, fun q b q1 q2 q3 q4 => ?_, ?_, fun b b1 b2 => ?_, fun i i1 i2 => ?_, fun i j i1 j1 i2 j2 e2 => ?_⟩
  · rw [o23]
    split
    · exact ⟨s, Nat.le_refl _, rfl⟩
    · exact hv i hi2
  · rw [oK, if_neg (fun e2 => q1 (place_inj (by omega) (by omega) q4 hs e2).1)]
    exact hq q b q1 q2 q3 q4
  · rw [cntB_upd (p := stB M' s) (q := stB M2 s) (x := prW M l n kn b0) (fun y => hno (stB_iff.mp y)) (stB_iff.mpr (by rw [o23, if_pos rfl])) (fun i hi2 => by unfold stB; rw [o23, if_neg hi2]) z hp]
    omega
  · by_cases eb : b = b0
    · subst eb
      refine ⟨fun y => absurd y hnt, fun _ => ?_⟩
      rw [o23, if_pos rfl, oK, if_pos rfl, o24, if_pos rfl]
      exact ⟨rfl, rfl⟩
    · have old := hb b (((hnx b b2).mp b1).resolve_right eb) b2
      rw [oK, if_neg (fun e2 => eb (place_inj (by omega) (by omega) b2 hs e2).2)]
      refine ⟨old.1, fun y => ?_⟩
      obtain ⟨t1, t2⟩ := old.2 y
      have hne : prW M l n kn b ≠ prW M l n kn b0 := fun e2 => hno (by rw [← e2]; exact t1)
      rw [o23, o24, if_neg hne, if_neg hne]
      exact ⟨t1, t2⟩
  · by_cases ei : i = prW M l n kn b0
    · exact ⟨⟨b0, (hnx b0 hs).mpr (Or.inr rfl), hs, hnt, ei⟩, w, w1, by omega, by rw [o24, if_pos ei]⟩
    · rw [o23, if_neg ei] at i2
      obtain ⟨⟨b, b1, b2, b3⟩, v, v1, v2, v3⟩ := hi i i1 i2
      exact ⟨⟨b, (hnx b b2).mpr (Or.inl b1), b2, b3⟩, v, v1, by omega, by rw [o24, if_neg ei]; exact v3⟩
  · rw [o23] at i2 j2
    rw [o24, o24] at e2
    by_cases ei : i = prW M l n kn b0
    · by_cases ej : j = prW M l n kn b0
      · rw [ei, ej]
      · rw [if_pos ei, if_neg ej] at e2
        rw [if_neg ej] at j2
        obtain ⟨-, v, v1, v2, v3⟩ := hi j j1 j2
        rw [v3] at e2
        have := (nI_eq (by omega) (by omega)).mp e2
        omega
    · by_cases ej : j = prW M l n kn b0
      · rw [if_neg ei, if_pos ej] at e2
        rw [if_neg ei] at i2
        obtain ⟨-, v, v1, v2, v3⟩ := hi i i1 i2
        rw [v3] at e2
        have := (nI_eq (by omega) (by omega)).mp e2
        omega
      · rw [if_neg ei] at i2 e2
        rw [if_neg ej] at j2 e2
        exact hj i j i1 j1 i2 j2 e2
def pairB (sd : Nat) : Nat → Bool := fun i => decide (i / sd < 7) && decide (i % sd < 7) && !(i / sd == i % sd)
theorem pair42 : ∀ n, n < 10 → cntB (pairB (sideN n)) (7 * sideN n) ≤ 42 := by decide +kernel
theorem cntB_imp {p q : Nat → Bool} : ∀ N, (∀ i, i < N → p i = true → q i = true) → cntB p N ≤ cntB q N
  | 0, _ => Nat.le_refl _
  | N + 1, h => by
    have ih := cntB_imp N (fun i hi => h i (by omega))
    show cntB p N + _ ≤ cntB q N + _
    by_cases hp : p N = true
    · rw [if_pos hp, if_pos (h N (by omega) hp)]; omega
    · rw [if_neg hp]; omega
theorem full_of {n m : Nat} (hn : n ≤ 9) (hm : m < 2 ^ n) (h : n ≤ popc m) : m = 2 ^ n - 1 := by
  have hC := two_le hn
  apply Classical.byContradiction
  intro ne
  have := popc_full n (by omega) m (by omega) (by omega)
  rw [popc_fulln n (by omega)] at this
  omega
theorem cst_full {A : aS} {l b : Nat} : cst A l (2 ^ A.1 0 - 1) b := fun r hr hz => by
  have e : r = 0 := by
    rw [Nat.and_two_pow_sub_one_eq_mod, Nat.mod_eq_of_lt hr] at hz
    exact hz
  rw [e, Nat.or_zero]
theorem fillI_end {M M' : jM} {A : aS} {l kn s w k : Nat} (h1 : 1 ≤ A.1 0) (h9 : A.1 0 ≤ 9) (hk : kn < 2 ^ A.1 0) (hne : kn ≠ 2 ^ A.1 0 - 1) (hkk : k = 2 ^ popc kn) (hd : waysOK M A l (kn ||| 2 ^ freeL (A.1 0) kn)) (h : fillI (sideN (A.1 0) * sideN (A.1 0)) M M' (A.1 0) l kn s w k (2 ^ A.1 0)) : waysOK M' A l kn := by
  obtain ⟨g, e6, e7, ⟨w1, w2⟩, hv, hq, hc, hb, hi, hj⟩ := h
  have hC := two_le h9
  have hsd := side_le h9
  have hsq := side_sq h9
  obtain ⟨f1, f2, f3⟩ := free_ok h9 hk hne
  have hf2 : 2 ^ freeL (A.1 0) kn < 2 ^ A.1 0 := Nat.pow_lt_pow_right (by omega) f1
  have k1 : kn ||| 2 ^ freeL (A.1 0) kn < 2 ^ A.1 0 := Nat.or_lt_two_pow hk hf2
  have sb0 : ∀ b, b &&& kn = b → b &&& (kn ||| 2 ^ freeL (A.1 0) kn) = b := fun b hb2 => by
    apply Nat.eq_of_testBit_eq
    intro i
    have e2 := congrArg (fun x => x.testBit i) hb2
    simp only [Nat.testBit_and, Nat.testBit_or] at e2 ⊢
    revert e2
    cases b.testBit i <;> cases kn.testBit i <;> cases (2 ^ freeL (A.1 0) kn).testBit i <;> decide
  have sb1 : ∀ b, b &&& kn = b → (b ||| 2 ^ freeL (A.1 0) kn) &&& (kn ||| 2 ^ freeL (A.1 0) kn) = b ||| 2 ^ freeL (A.1 0) kn := fun b hb2 => by
    apply Nat.eq_of_testBit_eq
    intro i
    have e2 := congrArg (fun x => x.testBit i) hb2
    simp only [Nat.testBit_and, Nat.testBit_or] at e2 ⊢
    revert e2
    cases b.testBit i <;> cases kn.testBit i <;> cases (2 ^ freeL (A.1 0) kn).testBit i <;> decide
  -- the ways behind
  have ch : ∀ b, b < 2 ^ A.1 0 → b &&& (kn ||| 2 ^ freeL (A.1 0) kn) = b → nmW M l (A.1 0) kn b < sideN (A.1 0) ∧ M (64 + 8 * l + 4) (sum3 (kn ||| 2 ^ freeL (A.1 0) kn) + sum3 b) = nI (nmW M l (A.1 0) kn b) ∧ ((nmW M l (A.1 0) kn b < 7 ∧ cst A l (kn ||| 2 ^ freeL (A.1 0) kn) b ∧ sdA A l b + 1 = nI (nmW M l (A.1 0) kn b)) ∨ (7 ≤ nmW M l (A.1 0) kn b ∧ ¬ cst A l (kn ||| 2 ^ freeL (A.1 0) kn) b)) := fun b b1 b2 => by
    obtain ⟨v, v1, v2, v3⟩ := hd.1 b b1 b2
    have e : nmW M l (A.1 0) kn b = v := by
      show (M _ _).toNatClampNeg = v
      rw [v2, nI_clamp (by omega)]
    rw [e]
    exact ⟨v1, v2, v3⟩
  have inC : ∀ b, b < 2 ^ A.1 0 → b ||| 2 ^ freeL (A.1 0) kn < 2 ^ A.1 0 := fun b hb2 => Nat.or_lt_two_pow hb2 hf2
  have prlt : ∀ b, b < 2 ^ A.1 0 → b &&& kn = b → prW M l (A.1 0) kn b < sideN (A.1 0) * sideN (A.1 0) ∧ prW M l (A.1 0) kn b / sideN (A.1 0) = nmW M l (A.1 0) kn b ∧ prW M l (A.1 0) kn b % sideN (A.1 0) = nmW M l (A.1 0) kn (b ||| 2 ^ freeL (A.1 0) kn) := fun b b1 b2 => by
    have a := (ch b b1 (sb0 b b2)).1
    have d := (ch _ (inC b b1) (sb1 b b2)).1
    unfold prW
    generalize nmW M l (A.1 0) kn b = x at a
    generalize nmW M l (A.1 0) kn (b ||| 2 ^ freeL (A.1 0) kn) = y at d
    refine ⟨?_, ?_, ?_⟩
    · have h1 := Nat.mul_le_mul_right (sideN (A.1 0)) (show x + 1 ≤ sideN (A.1 0) by omega)
      rw [Nat.add_mul, Nat.one_mul] at h1
      omega
    · rw [Nat.add_comm, Nat.mul_comm, Nat.add_mul_div_left _ _ (by omega), Nat.div_eq_of_lt d, Nat.zero_add]
    · rw [Nat.add_comm, Nat.mul_comm, Nat.add_mul_mod_self_left, Nat.mod_eq_of_lt d]
  have triv : ∀ b, b < 2 ^ A.1 0 → b &&& kn = b → (trivW M l (A.1 0) kn b ↔ cst A l kn b) := fun b b1 b2 => by
    obtain ⟨a1, a2, a3⟩ := ch b b1 (sb0 b b2)
    obtain ⟨d1, d2, d3⟩ := ch _ (inC b b1) (sb1 b b2)
    unfold trivW
    generalize nmW M l (A.1 0) kn b = x at a1 a3
    generalize nmW M l (A.1 0) kn (b ||| 2 ^ freeL (A.1 0) kn) = y at d1 d3
    rw [cst_split f1 f2]
    constructor
    · rintro ⟨t1, t2⟩
      rcases a3 with ⟨p1, p2, p3⟩ | ⟨p1, p2⟩
      · rcases d3 with ⟨q1, q2, q3⟩ | ⟨q1, q2⟩
        · refine ⟨p2, q2, ?_⟩
          rw [← sdOK_sub p3, ← sdOK_sub q3, t1]
        · omega
      · omega
    · rintro ⟨t1, t2, t3⟩
      rcases a3 with ⟨p1, p2, p3⟩ | ⟨p1, p2⟩
      · rcases d3 with ⟨q1, q2, q3⟩ | ⟨q1, q2⟩
        · rw [t3, q3] at p3
          exact ⟨(nI_eq (by omega) (by omega)).mp p3.symm, p1⟩
        · exact absurd t2 q2
      · exact absurd t1 p2
  have hw : w ≤ sideN (A.1 0) := by
    by_cases hp : popc kn + 2 ≤ A.1 0
    · have h2 := Nat.pow_le_pow_right (n := 2) (by omega) hp
      rw [Nat.pow_add] at h2
      unfold sideN
      omega
    · have efull : kn ||| 2 ^ freeL (A.1 0) kn = 2 ^ A.1 0 - 1 := by
        refine full_of h9 k1 ?_
        rw [popc_add _ (by omega) _ (by omega) (Bool.eq_false_iff.mpr f2)]
        omega
      have all7 : ∀ b, b < 2 ^ A.1 0 → b &&& (kn ||| 2 ^ freeL (A.1 0) kn) = b → nmW M l (A.1 0) kn b < 7 := fun b b1 b2 => by
        obtain ⟨-, -, a3⟩ := ch b b1 b2
        rcases a3 with ⟨p1, -, -⟩ | ⟨p1, p2⟩
        · exact p1
        · rw [efull] at p2
          exact absurd cst_full p2
      have c1 := cntB_imp (p := stB M' s) (q := pairB (sideN (A.1 0))) (sideN (A.1 0) * sideN (A.1 0)) (fun i i1 i2 => by
        obtain ⟨⟨b, b1, b2, b3, b4⟩, -⟩ := hi i i1 (stB_iff.mp i2)
        obtain ⟨-, p2, p3⟩ := prlt b b1 b2
        have a7 := all7 b b1 (sb0 b b2)
        have d7 := all7 _ (inC b b1) (sb1 b b2)
        have hne2 : ¬ nmW M l (A.1 0) kn b = nmW M l (A.1 0) kn (b ||| 2 ^ freeL (A.1 0) kn) := fun e => b3 ⟨e, a7⟩
        unfold pairB
        rw [b4, p2, p3, decide_eq_true a7, decide_eq_true d7, beq_eq_false_iff_ne.mpr hne2]
        rfl)
      have c2 := cntB_skip (p := pairB (sideN (A.1 0))) (x := 7 * sideN (A.1 0)) (sideN (A.1 0) * sideN (A.1 0)) (Nat.mul_le_mul_right _ (by omega)) (fun c c1 _ hp2 => by
        unfold pairB at hp2
        simp only [Bool.and_eq_true, decide_eq_true_eq] at hp2
        have := (Nat.le_div_iff_mul_le (show 0 < sideN (A.1 0) by omega)).mpr c1
        omega)
      have c3 := pair42 (A.1 0) (by omega)
      omega
  refine ⟨fun so s1 s2 => ?_, fun a b a1 b1 a2 b2 => ?_⟩
  · by_cases t : trivW M l (A.1 0) kn so
    · refine ⟨nmW M l (A.1 0) kn so, (ch so s1 (sb0 so s2)).1, (hb so s1 s2).1 t, Or.inl ⟨t.2, (triv so s1 s2).mp t, ?_⟩⟩
      obtain ⟨-, -, a3⟩ := ch so s1 (sb0 so s2)
      rcases a3 with ⟨-, -, p3⟩ | ⟨p1, -⟩
      · exact p3
      · have := t.2; omega
    · obtain ⟨t1, t2⟩ := (hb so s1 s2).2 t
      obtain ⟨-, v, v1, v2, v3⟩ := hi _ (prlt so s1 s2).1 t1
      exact ⟨v, by omega, t2.trans v3, Or.inr ⟨v1, fun c => t ((triv so s1 s2).mpr c)⟩⟩
  · obtain ⟨a3, a4, -⟩ := ch a a1 (sb0 a a2)
    obtain ⟨a5, a6, -⟩ := ch _ (inC a a1) (sb1 a a2)
    obtain ⟨b3, b4, -⟩ := ch b b1 (sb0 b b2)
    obtain ⟨b5, b6, -⟩ := ch _ (inC b b1) (sb1 b b2)
    have q1 := hd.2 a b a1 b1 (sb0 a a2) (sb0 b b2)
    have q2 := hd.2 _ _ (inC a a1) (inC b b1) (sb1 a a2) (sb1 b b2)
    rw [a4, b4, nI_eq (by omega) (by omega)] at q1
    rw [a6, b6, nI_eq (by omega) (by omega)] at q2
    rw [alk_split f1 f2, ← q1, ← q2]
    have pa := prlt a a1 a2
    have pb := prlt b b1 b2
    by_cases ta : trivW M l (A.1 0) kn a
    · by_cases tb : trivW M l (A.1 0) kn b
      · rw [(hb a a1 a2).1 ta, (hb b b1 b2).1 tb, nI_eq (by omega) (by omega)]
        exact ⟨fun e => ⟨e, by rw [← ta.1, ← tb.1]; exact e⟩, fun e => e.1⟩
      · obtain ⟨t1, t2⟩ := (hb b b1 b2).2 tb
        obtain ⟨-, v, v1, v2, v3⟩ := hi _ pb.1 t1
        rw [(hb a a1 a2).1 ta, t2, v3, nI_eq (by omega) (by omega)]
        constructor
        · intro e
          have := ta.2
          omega
        · rintro ⟨e1, e2⟩
          exact absurd ⟨by rw [← e1, ← e2]; exact ta.1, by rw [← e1]; exact ta.2⟩ tb
    · obtain ⟨t1, t2⟩ := (hb a a1 a2).2 ta
      obtain ⟨-, v, v1, v2, v3⟩ := hi _ pa.1 t1
      by_cases tb : trivW M l (A.1 0) kn b
      · rw [(hb b b1 b2).1 tb, t2, v3, nI_eq (by omega) (by omega)]
        constructor
        · intro e
          have := tb.2
          omega
        · rintro ⟨e1, e2⟩
          exact absurd ⟨by rw [e1, e2]; exact tb.1, by rw [e1]; exact tb.2⟩ ta
      · obtain ⟨t3, t4⟩ := (hb b b1 b2).2 tb
        rw [t2, t4]
        constructor
        · intro e
          have e2 := hj _ _ pa.1 pb.1 t1 t3 e
          refine ⟨?_, ?_⟩
          · rw [← pa.2.1, ← pb.2.1, e2]
          · rw [← pa.2.2, ← pb.2.2, e2]
        · rintro ⟨e1, e2⟩
          have : prW M l (A.1 0) kn a = prW M l (A.1 0) kn b := by
            unfold prW
            rw [e1, e2]
          rw [this]
