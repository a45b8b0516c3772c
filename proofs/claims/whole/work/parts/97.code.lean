/-! reading: what a condition's steps do to the stack of bits -/
def xb (x : Int64) (i : Nat) : Bool := x.toBitVec.getLsbD i
theorem xb_and (x y : Int64) (i : Nat) : xb (x &&& y) i = (xb x i && xb y i) := by
  unfold xb
  rw [Int64.toBitVec_and, BitVec.getLsbD_and]
theorem xb_or (x y : Int64) (i : Nat) : xb (x ||| y) i = (xb x i || xb y i) := by
  unfold xb
  rw [Int64.toBitVec_or, BitVec.getLsbD_or]
theorem xb_xor (x y : Int64) (i : Nat) : xb (x ^^^ y) i = (xb x i ^^ xb y i) := by
  unfold xb
  rw [Int64.toBitVec_xor, BitVec.getLsbD_xor]
theorem xb_1 : ∀ i, i < 64 → xb 1 i = decide (i = 0) := by decide
theorem xb_m2 : ∀ i, i < 64 → xb (-2) i = !decide (i = 0) := by decide
theorem xb_0 (i : Nat) : xb 0 i = false := by
  unfold xb
  show (0#64).getLsbD i = false
  exact BitVec.getLsbD_zero
theorem xb_shr (x : Int64) (i : Nat) : xb (jlushr x 1) i = xb x (i + 1) := by
  unfold xb jlushr
  have e : ((x.toUInt64 >>> ((1 : Int32).toInt64.toUInt64 &&& Int64.toUInt64 63)).toInt64).toBitVec = x.toBitVec >>> 1 := by
    show (x.toUInt64 >>> ((1 : Int32).toInt64.toUInt64 &&& Int64.toUInt64 63)).toBitVec = x.toBitVec >>> 1
    rw [UInt64.toBitVec_shiftRight]
    rfl
  rw [e, BitVec.getLsbD_ushiftRight, Nat.add_comm]
theorem xb_shl (x : Int64) (i : Nat) : xb (jlshl x 1) i = (decide (i < 64) && (!decide (i < 1) && xb x (i - 1))) := by
  unfold xb jlshl
  have e : (x <<< ((1 : Int32).toInt64 &&& 63)).toBitVec = x.toBitVec <<< 1 := by
    rw [Int64.toBitVec_shiftLeft]
    rfl
  rw [e, BitVec.getLsbD_shiftLeft]
  cases decide (i < 64) <;> cases decide (i < 1) <;> rfl
def bitC (c : Nat) (cd : Int32) : Int32 := if bcF (((cd >>> ((2 : Int32) &&& 31)) &&& nI c) &&& 511) < ((cd >>> ((2 : Int32) &&& 31)) >>> ((9 : Int32) &&& 31)) then 0 else 1
def stepC (c : Nat) (x : Int64) (cd : Int32) : Int64 := if cd &&& 3 = 1 then x ^^^ 1 else if cd &&& 3 = 2 then jlushr x 1 &&& ((x &&& 1) ||| (-2)) else if cd &&& 3 = 3 then jlushr x 1 ||| (x &&& 1) else jlshl x 1 ||| (bitC c cd).toInt64
def runC (c : Nat) (x : Int64) (L : List Int32) : Int64 := L.foldl (stepC c) x
theorem runC_app (c : Nat) (x : Int64) (L L' : List Int32) : runC c x (L ++ L') = runC c (runC c x L) L' := List.foldl_append
theorem runC_one (c : Nat) (x : Int64) (cd : Int32) : runC c x [cd] = stepC c x cd := rfl
/-- a condition's code lays its value on the stack -/
def cOK (L : List Int32) (val : Nat → Bool) (w : Nat) : Prop := ∀ c, c < 512 → ∀ x h, h + w ≤ 64 → xb (runC c x L) 0 = val c ∧ ∀ i, i < h → xb (runC c x L) (i + 1) = xb x i
/-- what goes on behind a value -/
def tOK (op : Bool → Bool → Bool) (L : List Int32) (tv : Nat → Bool) (w : Nat) : Prop := ∀ c, c < 512 → ∀ x h, h + w ≤ 64 → xb (runC c x L) 0 = op (xb x 0) (tv c) ∧ ∀ i, i < h → xb (runC c x L) (i + 1) = xb x (i + 1)
theorem cOK.mono {L : List Int32} {val : Nat → Bool} {w w' : Nat} (h : cOK L val w) (hw : w ≤ w') : cOK L val w' := fun c hc x k hk => h c hc x k (by omega)
theorem step_and (c : Nat) (x : Int64) : xb (stepC c x 2) 0 = (xb x 1 && xb x 0) ∧ ∀ i, i + 1 < 64 → xb (stepC c x 2) (i + 1) = xb x (i + 2) := by
  have e : stepC c x 2 = jlushr x 1 &&& ((x &&& 1) ||| (-2)) := rfl
  rw [e]
  refine ⟨?_, fun i hi => ?_⟩
  · rw [xb_and, xb_shr, xb_or, xb_and, xb_1 0 (by omega), xb_m2 0 (by omega)]
    cases xb x 0 <;> cases xb x (0 + 1) <;> rfl
  · rw [xb_and, xb_shr, xb_or, xb_m2 (i + 1) hi, decide_eq_false (show ¬ i + 1 = 0 by omega), Bool.not_false, Bool.or_true, Bool.and_true]
theorem step_or (c : Nat) (x : Int64) : xb (stepC c x 3) 0 = (xb x 1 || xb x 0) ∧ ∀ i, i + 1 < 64 → xb (stepC c x 3) (i + 1) = xb x (i + 2) := by
  have e : stepC c x 3 = jlushr x 1 ||| (x &&& 1) := rfl
  rw [e]
  refine ⟨?_, fun i hi => ?_⟩
  · rw [xb_or, xb_shr, xb_and, xb_1 0 (by omega)]
    cases xb x 0 <;> cases xb x (0 + 1) <;> rfl
  · rw [xb_or, xb_shr, xb_and, xb_1 (i + 1) hi, decide_eq_false (show ¬ i + 1 = 0 by omega), Bool.and_false, Bool.or_false]
theorem step_not (c : Nat) (x : Int64) : xb (stepC c x 1) 0 = !xb x 0 ∧ ∀ i, i + 1 < 64 → xb (stepC c x 1) (i + 1) = xb x (i + 1) := by
  have e : stepC c x 1 = x ^^^ 1 := rfl
  rw [e]
  refine ⟨?_, fun i hi => ?_⟩
  · rw [xb_xor, xb_1 0 (by omega)]
    cases xb x 0 <;> rfl
  · rw [xb_xor, xb_1 (i + 1) hi, decide_eq_false (show ¬ i + 1 = 0 by omega), Bool.xor_false]
theorem cOK.not {L : List Int32} {val : Nat → Bool} {w : Nat} (h : cOK L val w) (hw : 1 ≤ w) : cOK (L ++ [1]) (fun c => !val c) w := fun c hc x k hk => by
  obtain ⟨h1, h2⟩ := h c hc x k hk
  obtain ⟨s1, s2⟩ := step_not c (runC c x L)
  rw [runC_app, runC_one]
  exact ⟨by rw [s1, h1], fun i hi => by rw [s2 i (by omega)]; exact h2 i hi⟩
theorem tOK_nil {op : Bool → Bool → Bool} {u : Bool} (hu : ∀ b, op b u = b) {w : Nat} : tOK op [] (fun _ => u) w := fun c _ x h _ => ⟨(hu _).symm, fun _ _ => rfl⟩
theorem tOK_and {L1 L2 : List Int32} {val tv : Nat → Bool} {w : Nat} (h1 : cOK L1 val w) (h2 : tOK and L2 tv (w + 1)) (hw : 1 ≤ w) : tOK and (L1 ++ 2 :: L2) (fun c => val c && tv c) (w + 1) := fun c hc x h hh => by
  obtain ⟨a1, a2⟩ := h1 c hc x (h + 1) (by omega)
  obtain ⟨s1, s2⟩ := step_and c (runC c x L1)
  obtain ⟨b1, b2⟩ := h2 c hc (stepC c (runC c x L1) 2) h hh
  rw [runC_app]
  show xb (runC c (stepC c (runC c x L1) 2) L2) 0 = _ ∧ ∀ i, i < h → xb (runC c (stepC c (runC c x L1) 2) L2) (i + 1) = _
  refine ⟨?_, fun i hi => ?_⟩
  · rw [b1, s1, a1, a2 0 (by omega)]
    exact Bool.and_assoc _ _ _
  · rw [b2 i hi, s2 i (by omega)]
    exact a2 (i + 1) (by omega)
theorem tOK_or {L1 L2 : List Int32} {val tv : Nat → Bool} {w : Nat} (h1 : cOK L1 val w) (h2 : tOK or L2 tv (w + 1)) (hw : 1 ≤ w) : tOK or (L1 ++ 3 :: L2) (fun c => val c || tv c) (w + 1) := fun c hc x h hh => by
  obtain ⟨a1, a2⟩ := h1 c hc x (h + 1) (by omega)
  obtain ⟨s1, s2⟩ := step_or c (runC c x L1)
  obtain ⟨b1, b2⟩ := h2 c hc (stepC c (runC c x L1) 3) h hh
  rw [runC_app]
  show xb (runC c (stepC c (runC c x L1) 3) L2) 0 = _ ∧ ∀ i, i < h → xb (runC c (stepC c (runC c x L1) 3) L2) (i + 1) = _
  refine ⟨?_, fun i hi => ?_⟩
  · rw [b1, s1, a1, a2 0 (by omega)]
    exact Bool.or_assoc _ _ _
  · rw [b2 i hi, s2 i (by omega)]
    exact a2 (i + 1) (by omega)
theorem cOK_tail {op : Bool → Bool → Bool} {L1 L2 : List Int32} {val tv : Nat → Bool} {w : Nat} (h1 : cOK L1 val w) (h2 : tOK op L2 tv (w + 1)) : cOK (L1 ++ L2) (fun c => op (val c) (tv c)) (w + 1) := fun c hc x h hh => by
  obtain ⟨a1, a2⟩ := h1 c hc x h (by omega)
  obtain ⟨b1, b2⟩ := h2 c hc (runC c x L1) h hh
  rw [runC_app]
  exact ⟨by rw [b1, a1], fun i hi => by rw [b2 i hi]; exact a2 i hi⟩
/-- so many at least of some facts -/
abbrev atI (least letters : Nat) : Int32 := nI ((least * 512 + letters) * 4)
theorem atI_of {P : jP} {least letters : Nat} (hl : letters < 512) {Q : Int32 → Prop} (hq : Q (atI least letters)) : w_X7_atLeast P (nI least) (nI letters) Q := by
  unfold w_X7_atLeast
  have e : ((((nI least <<< ((9 : Int32) &&& 31)) ||| nI letters) <<< ((2 : Int32) &&& 31)) ||| 0) = atI least letters := by
    rw [show (9 : Int32) = nI 9 from rfl, show (2 : Int32) = nI 2 from rfl, show (0 : Int32) = nI 0 from rfl, nI_shl least (by omega), nI_or, nI_shl _ (by omega), nI_or]
    congr 1
    rw [Nat.or_zero, Nat.shiftLeft_eq, Nat.shiftLeft_eq, show least * 2 ^ 9 = 2 ^ 9 * least by omega, ← Nat.two_pow_add_eq_or_of_lt (show letters < 2 ^ 9 by omega) least]
  rw [e]
  exact hq
theorem and_3 (m : Nat) : nI (m * 4) &&& 3 = 0 := by
  rw [show (3 : Int32) = nI 3 from rfl, nI_and, show (3 : Nat) = 2 ^ 2 - 1 from rfl, Nat.and_two_pow_sub_one_eq_mod]
  show nI (m * 4 % 4) = 0
  rw [Nat.mul_mod_left]
  rfl
theorem bit_at {least letters c : Nat} (hl : least ≤ 9) (hs : letters < 512) (hc : c < 512) : bitC c (atI least letters) = bi (least ≤ popc (letters &&& c)) := by
  have e2 : atI least letters >>> ((2 : Int32) &&& 31) = nI (least * 512 + letters) := by
    rw [show (2 : Int32) = nI 2 from rfl, nI_shr (by omega) (by omega), Nat.shiftRight_eq_div_pow]
    congr 1
    omega
  have e9 : nI (least * 512 + letters) >>> ((9 : Int32) &&& 31) = nI least := by
    rw [show (9 : Int32) = nI 9 from rfl, nI_shr (by omega) (by omega), Nat.shiftRight_eq_div_pow]
    congr 1
    omega
  have eb : (least * 512 + letters) &&& c &&& 511 = letters &&& c := by
    rw [Nat.and_assoc, Nat.and_comm c 511, ← Nat.and_assoc, show (511 : Nat) = 2 ^ 9 - 1 from rfl, Nat.and_two_pow_sub_one_eq_mod, show (least * 512 + letters) % 2 ^ 9 = letters by omega]
  have hle : letters &&& c < 512 := Nat.lt_of_le_of_lt Nat.and_le_left hs
  have hp := popc_le12 (letters &&& c)
  unfold bitC
  rw [e2, e9, nI_and, show (511 : Int32) = nI 511 from rfl, nI_and, eb, bc_small _ (by omega)]
  unfold bi
  by_cases z : least ≤ popc (letters &&& c)
  · rw [if_neg (fun y => by have := (nI_ltI (show popc (letters &&& c) < 2 ^ 31 by omega) (show least < 2 ^ 31 by omega)).mp y; omega), if_pos z]
  · rw [if_pos ((nI_ltI (show popc (letters &&& c) < 2 ^ 31 by omega) (show least < 2 ^ 31 by omega)).mpr (by omega)), if_neg z]
theorem xb_bi (p : Prop) [Decidable p] (i : Nat) (hi : i < 64) : xb (bi p).toInt64 i = (decide p && decide (i = 0)) := by
  by_cases h : p
  · rw [bi_t h, decide_eq_true h]
    exact xb_1 i hi
  · rw [bi_f h, decide_eq_false h]
    exact xb_0 i
theorem cOK_at {least letters : Nat} (hl : least ≤ 9) (hs : letters < 512) : cOK [atI least letters] (fun c => decide (least ≤ popc (letters &&& c))) 1 := fun c hc x h hh => by
  have e3 := and_3 (least * 512 + letters)
  have e : stepC c x (atI least letters) = jlshl x 1 ||| (bi (least ≤ popc (letters &&& c))).toInt64 := by
    unfold stepC
    rw [show atI least letters &&& 3 = 0 from e3, if_neg (by decide), if_neg (by decide), if_neg (by decide), bit_at hl hs hc]
  rw [runC_one, e]
  refine ⟨?_, fun i hi => ?_⟩
  · rw [xb_or, xb_shl, xb_bi _ 0 (by omega)]
    simp
  · rw [xb_or, xb_shl, xb_bi _ (i + 1) (by omega), decide_eq_true (show i + 1 < 64 by omega), decide_eq_false (show ¬ i + 1 < 1 by omega), decide_eq_false (show ¬ i + 1 = 0 by omega)]
    simp
theorem popc_bit : ∀ f, f < 9 → ∀ c, c < 512 → (decide (1 ≤ popc (2 ^ f &&& c)) = c.testBit f) := by decide +kernel
theorem xb_low (x : Int64) : lg_cmp (x &&& 1) 0 = 0 ↔ xb x 0 = false := by
  rw [lg_cmp_eq]
  constructor
  · intro h
    have := congrArg (fun y => xb y 0) h
    simp only [xb_and, xb_0] at this
    rw [xb_1 0 (by omega)] at this
    simpa using this
  · intro h
    apply Int64.toBitVec_inj.mp
    apply BitVec.eq_of_getLsbD_eq
    intro i hi
    show xb (x &&& 1) i = xb 0 i
    rw [xb_and, xb_0, xb_1 i hi]
    by_cases e : i = 0
    · subst e; rw [h]; rfl
    · rw [decide_eq_false e, Bool.and_false]
theorem s11_isSo {P : jP} {M : jM} {a c : Nat} {L : List Int32} (h160 : a + L.length ≤ 160) (hL : ∀ j, j < L.length → M 18 (a + j) = L.getD j 0) {Q : Int32 → Prop} (hq : Q (bi (xb (runC c 0 L) 0 = true))) : w_X7_isSo P (nI a) (nI (a + L.length)) (nI c) M Q := by
  unfold w_X7_isSo
  intro R hR
  refine lp_up (R := fun j => R (runC c 0 (L.take j)) (nI (a + j))) L.length ?_ ?_ 0 (Nat.zero_le _)
  · rw [List.take_length]
    refine hR _ _ (br_t (nI_le (Nat.le_refl _) (by omega)) ?_)
    rw [xb_low]
    refine br_c (fun z => ?_) (fun z => ?_)
    · rw [bi_f (by rw [z]; decide)] at hq; exact hq
    · rw [bi_t (by cases e : xb (runC c 0 L) 0 with | true => rfl | false => exact absurd e z)] at hq; exact hq
  · intro j hj ih
    have eg : L.getD j 0 = L[j] := by rw [List.getD_eq_getElem?_getD, List.getElem?_eq_getElem hj]; rfl
    have et : L.take (j + 1) = L.take j ++ [L[j]] := List.take_succ_eq_append_getElem hj
    rw [et, runC_app, runC_one] at ih
    refine hR _ _ (br_f (nI_ge (show a + j < a + L.length by omega) (by omega)) ⟨vin (by omega) (by omega), vin (by omega) (by omega), ?_⟩)
    rw [nI_clamp (show a + j < 2 ^ 31 by omega), hL j hj, eg, nI_1]
    intro R137 h137
    have ih : R (stepC c (runC c 0 (L.take j)) L[j]) (nI (a + j + 1)) := ih
    unfold stepC at ih
    refine ⟨fun z => ?_, fun z => ?_, fun z => ?_, fun z1 z2 z3 => s_bc ?_⟩
    · rw [if_pos z] at ih; exact h137 _ ih
    · rw [if_neg (by rw [z]; decide), if_pos z] at ih; exact h137 _ ih
    · rw [if_neg (by rw [z]; decide), if_neg (by rw [z]; decide), if_pos z] at ih; exact h137 _ ih
    · rw [if_neg z1, if_neg z2, if_neg z3] at ih
      intro R133 h133
      unfold bitC at ih
      refine br_c (fun z => h133 _ _ (h137 _ ?_)) (fun z => h133 _ _ (h137 _ ?_))
      · rw [if_pos z] at ih; exact ih
      · rw [if_neg z] at ih; exact ih
