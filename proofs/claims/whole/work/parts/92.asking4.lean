/-! asking out: the class's pieces -/
def mI (m : Nat) : Int64 := if m < 1000000000000000 then lN m else -1
def wI (w : Nat) : Int32 := if w < 1000000 then nI w else -1
theorem lN_ne1 {m : Nat} (h : m < 2 ^ 62) : lN m ≠ -1 := fun e => by
  have h1 := pk_lT (n := m) (by omega)
  rw [e] at h1
  have : ((-1 : Int64)).toInt = -1 := by decide
  omega
theorem mI_1 {m : Nat} (h : m ≤ 1000000000000000) : mI m = -1 ↔ m = 1000000000000000 := by
  unfold mI
  by_cases z : m < 1000000000000000
  · rw [if_pos z]
    exact ⟨fun e => absurd e (lN_ne1 (by omega)), fun e => by omega⟩
  · rw [if_neg z]
    exact ⟨fun _ => by omega, fun _ => rfl⟩
theorem wI_1 {m : Nat} (h : m ≤ 1000000) : wI m = -1 ↔ m = 1000000 := by
  unfold wI
  by_cases z : m < 1000000
  · rw [if_pos z]
    exact ⟨fun e => absurd e (nI_ne1 (by omega)), fun e => by omega⟩
  · rw [if_neg z]
    exact ⟨fun _ => by omega, fun _ => rfl⟩
theorem mby_ok {A : aS} (h : wfA A) {l o : Nat} {two : Bool} {kn so f : Nat} (hk : kn < 2 ^ A.1 0) (hsub : so &&& kn = so) (hf : f < A.1 0) : (¬ (1000000000000000 ≤ meG A l o two (kn ||| 2 ^ f) so ∨ 1000000000000000 ≤ meG A l o two (kn ||| 2 ^ f) (so ||| 2 ^ f)) → shR A kn so * miA A f + meG A l o two (kn ||| 2 ^ f) so + meG A l o two (kn ||| 2 ^ f) (so ||| 2 ^ f) < 1000000000000000) ∧ (¬ 1000000 ≤ max (woG A l o two (kn ||| 2 ^ f) so) (woG A l o two (kn ||| 2 ^ f) (so ||| 2 ^ f)) → max (woG A l o two (kn ||| 2 ^ f) so) (woG A l o two (kn ||| 2 ^ f) (so ||| 2 ^ f)) + miA A f < 1000000) := by
  have h9 := h.1.1.2
  have hf2 : 2 ^ f < 2 ^ A.1 0 := Nat.pow_lt_pow_right (by omega) hf
  have k1 : kn ||| 2 ^ f < 2 ^ A.1 0 := Nat.or_lt_two_pow hk hf2
  have sub := sub_or (f := f) hsub
  obtain ⟨a1, a2, -⟩ := meN_le h (l := l) (o := o) (two := two) (A.1 0) _ _ k1 sub.1
  obtain ⟨b1, b2, -⟩ := meN_le h (l := l) (o := o) (two := two) (A.1 0) _ _ k1 sub.2
  have s1 := (shR_le h (kn := kn ||| 2 ^ f) (so := so)).2
  have s2 := (shR_le h (kn := kn ||| 2 ^ f) (so := so ||| 2 ^ f)).2
  have s3 := (shR_le h (kn := kn) (so := so)).2
  have hmi : miA A f ≤ 99 := by
    have := (mbF_le h (b := 2 ^ f) hf).1
    unfold mbF at this
    rw [Nat.testBit_two_pow, decide_eq_true rfl, if_pos rfl] at this
    exact this
  have hm := Nat.mul_le_mul s3 hmi
  have h1 : 99 * A.1 0 * shR A (kn ||| 2 ^ f) so ≤ 891 * shR A (kn ||| 2 ^ f) so := Nat.mul_le_mul_right _ (by omega)
  have h2 : 99 * A.1 0 * shR A (kn ||| 2 ^ f) (so ||| 2 ^ f) ≤ 891 * shR A (kn ||| 2 ^ f) (so ||| 2 ^ f) := Nat.mul_le_mul_right _ (by omega)
  constructor
  · show ¬ (1000000000000000 ≤ meN A l o two (A.1 0) (kn ||| 2 ^ f) so ∨ 1000000000000000 ≤ meN A l o two (A.1 0) (kn ||| 2 ^ f) (so ||| 2 ^ f)) → shR A kn so * miA A f + meN A l o two (A.1 0) (kn ||| 2 ^ f) so + meN A l o two (A.1 0) (kn ||| 2 ^ f) (so ||| 2 ^ f) < 1000000000000000
    intro z
    generalize shR A kn so * miA A f = x at hm ⊢
    omega
  · show ¬ 1000000 ≤ max (woN A l o two (A.1 0) (kn ||| 2 ^ f) so) (woN A l o two (A.1 0) (kn ||| 2 ^ f) (so ||| 2 ^ f)) → max (woN A l o two (A.1 0) (kn ||| 2 ^ f) so) (woN A l o two (A.1 0) (kn ||| 2 ^ f) (so ||| 2 ^ f)) + miA A f < 1000000
    intro z
    omega
/-- the laws that are asked -/
def askH (M : jM) (A : aS) (l o : Nat) (two : Bool) : Prop := l < A.1 2 ∧ (two = true → o < A.1 2) ∧ M 8 6 = nI (64 + 8 * l) ∧ M 8 7 = if two = true then nI (64 + 8 * o) else 0
theorem s11_outAt {P : jP} {M : jM} {A : aS} (h : RelC P M A) (hW : ∀ l, l < A.1 2 → WayS M A l) {l o kn so : Nat} {two : Bool} (hh : askH M A l o two) (hk : kn < 2 ^ A.1 0) (hs : so < 2 ^ A.1 0) (hsub : so &&& kn = so) {Q : Int32 → Prop} (q1 : isO A l o two kn so = true → Q 1) (q0 : ¬ isO A l o two kn so = true → Q 0) : w_X0_isSureAt P (nI (sum3 kn + sum3 so)) M Q := by
  have h6 := h.num
  unfold wfNum at h6
  obtain ⟨hl, ho, e6, e7⟩ := hh
  unfold w_X0_isSureAt
  unfold isO at q1 q0
  rw [e6, nI_clamp (show 64 + 8 * l < 2 ^ 31 by omega)]
  refine ⟨by omega, h.lw hl, s11_isSureAt h hl (hW l hl) hk hs hsub (br_i (fun z => q0 ?_) (fun z => ?_))⟩
  · rw [Classical.byContradiction z]
    intro y
    simp at y
  · rw [beq_eq_false_iff_ne.mpr z] at q1 q0
    rw [e7]
    cases two with
    | false =>
      rw [if_neg (by decide)]
      exact ⟨fun _ => q1 rfl, fun y => absurd rfl y⟩
    | true =>
      have ho := ho rfl
      rw [if_pos rfl, nI_clamp (show 64 + 8 * o < 2 ^ 31 by omega)]
      refine ⟨fun y => absurd y (by omega), fun _ => ⟨by omega, h.lw ho, s11_isSureAt h ho (hW o ho) hk hs hsub (br_i (fun y => q0 ?_) (fun y => q1 ?_))⟩⟩
      · rw [Classical.byContradiction y]
        intro u
        simp at u
      · rw [beq_eq_false_iff_ne.mpr y]; rfl
theorem andn_bit {h s i : Nat} (hi : i < 12) : (andn h s).testBit i = (h.testBit i && !s.testBit i) := by
  unfold andn
  rw [Nat.testBit_and, Nat.testBit_xor, show Nat.testBit 4095 i = true from (by decide : ∀ i, i < 12 → Nat.testBit 4095 i = true) i hi]
  cases h.testBit i <;> cases s.testBit i <;> rfl
theorem and_pow_0 {m f : Nat} : m &&& 2 ^ f = 0 ↔ ¬ m.testBit f = true := by
  constructor
  · intro h z
    have e : (m &&& 2 ^ f).testBit f = (0 : Nat).testBit f := by rw [h]
    rw [Nat.testBit_and, z, Nat.testBit_two_pow, decide_eq_true rfl, Nat.zero_testBit] at e
    exact absurd e (by decide)
  · intro z
    apply Nat.eq_of_testBit_eq
    intro i
    rw [Nat.testBit_and, Nat.testBit_two_pow, Nat.zero_testBit]
    by_cases e : f = i
    · subst e; rw [Bool.eq_false_iff.mpr z]; rfl
    · rw [decide_eq_false e, Bool.and_false]
theorem s11_mayAsk {P : jP} {M : jM} {A : aS} (h : RelC P M A) {kn f : Nat} (hf : f < A.1 0) {Q : Int32 → Prop} (q1 : opP A kn f = true → Q 1) (q0 : ¬ opP A kn f = true → Q 0) : w_X0_mayAsk P (nI f) (nI (andn (2 ^ A.1 0 - 1) kn)) M Q := by
  have hC := h.C512
  have h9 := h.n9
  have e63 : M 6 3 = nI (bitsN (fun f => A.2 15 f == 1) (A.1 0)) := h.2.2.1 6 3 (Or.inr rfl)
  have hle : andn (2 ^ A.1 0 - 1) kn ≤ 2 ^ A.1 0 - 1 := andn_le
  have hle2 : ∀ x, andn (andn (2 ^ A.1 0 - 1) kn) x ≤ 2 ^ A.1 0 - 1 := fun x => Nat.le_trans andn_le hle
  unfold w_X0_mayAsk
  rw [e63, nI_andn (by omega), shl1 (by omega), nI_and, show (0 : Int32) = nI 0 from rfl, nI_eq (Nat.lt_of_le_of_lt Nat.and_le_left (by have := hle2 (bitsN (fun f => A.2 15 f == 1) (A.1 0)); omega)) (by omega), and_pow_0, andn_bit (by omega), andn_bit (by omega), Nat.testBit_two_pow_sub_one, decide_eq_true hf, bitsN_bit, decide_eq_true hf, Bool.true_and, Bool.true_and]
  have key : (!kn.testBit f && !(A.2 15 f == 1)) = opP A kn f := by
    unfold opP
    congr 1
    rcases h.1.2.2.2.2.1.2.2.2.1 f hf with e | e <;> rw [e] <;> decide
  rw [key]
  exact ⟨q0, fun z => q1 (Classical.byContradiction z)⟩
/-- a place's rows stand -/
def T11 (M : jM) (N : jN) (A : aS) (l o : Nat) (two : Bool) (kn so : Nat) : Prop := N 35 (sum3 kn + sum3 so) = lN (shR A kn so) ∧ N 36 (sum3 kn + sum3 so) = mI (meG A l o two kn so) ∧ M 37 (sum3 kn + sum3 so) = wI (woG A l o two kn so)
theorem unit_at {P : jP} {M : jM} {A : aS} (h : RelC P M A) {kn so f : Nat} (hk : kn < 2 ^ A.1 0) (hs : so < 2 ^ A.1 0) (hsub : so &&& kn = so) (hf : f < A.1 0) (hb : ¬ kn.testBit f = true) : M 15 f = nI (3 ^ f) ∧ nI (sum3 kn + sum3 so) + nI (3 ^ f) = nI (sum3 (kn ||| 2 ^ f) + sum3 so) ∧ nI (sum3 kn + sum3 so) + 2 * nI (3 ^ f) = nI (sum3 (kn ||| 2 ^ f) + sum3 (so ||| 2 ^ f)) ∧ sum3 (kn ||| 2 ^ f) + sum3 so < 3 ^ A.1 0 ∧ sum3 (kn ||| 2 ^ f) + sum3 (so ||| 2 ^ f) < 3 ^ A.1 0 ∧ 3 ^ A.1 0 ≤ 19683 := by
  have h9 := h.n9
  have hsb : ¬ so.testBit f = true := fun z => hb (bits_sub hsub z)
  have hf2 : 2 ^ f < 2 ^ A.1 0 := Nat.pow_lt_pow_right (by omega) hf
  have k1 : kn ||| 2 ^ f < 2 ^ A.1 0 := Nat.or_lt_two_pow hk hf2
  have k2 : so ||| 2 ^ f < 2 ^ A.1 0 := Nat.or_lt_two_pow hs hf2
  have p1 := place_lt h9 k1 hs
  have p2 := place_lt h9 k1 k2
  refine ⟨h.2.2.1 15 f hf, ?_, ?_, p1.1, p2.1, p2.2⟩
  · rw [nI_add, sum3_or hb (by omega)]
    congr 1; omega
  · rw [show (2 : Int32) = nI 2 from rfl, pk_mul, nI_add, sum3_or hb (by omega), sum3_or hsb (by omega)]
    congr 1; omega
theorem s11_meanBy {P : jP} {M : jM} {N : jN} {A : aS} (h : RelC P M A) {l o kn so f : Nat} {two : Bool} (hk : kn < 2 ^ A.1 0) (hs : so < 2 ^ A.1 0) (hsub : so &&& kn = so) (hf : f < A.1 0) (hb : ¬ kn.testBit f = true) (t1 : T11 M N A l o two (kn ||| 2 ^ f) so) (t2 : T11 M N A l o two (kn ||| 2 ^ f) (so ||| 2 ^ f)) (e35 : N 35 (sum3 kn + sum3 so) = lN (shR A kn so)) {Q : Int64 → Prop} (hq : Q (mI (mbyA A l o two kn so f))) : w_X0_meanBy P (nI (sum3 kn + sum3 so)) (nI f) M N Q := by
  have h9 := h.n9
  obtain ⟨u1, u2, u3, u4, u5, u6⟩ := unit_at h hk hs hsub hf hb
  have z0 := h.2.1.1
  have z2 : P.2.2 2 = 3 ^ A.1 0 := h.2.1.2.2.1
  have hf2 : 2 ^ f < 2 ^ A.1 0 := Nat.pow_lt_pow_right (by omega) hf
  have k1 : kn ||| 2 ^ f < 2 ^ A.1 0 := Nat.or_lt_two_pow hk hf2
  have sub := sub_or (f := f) hsub
  have b1 := (meG_le h.1 (l := l) (o := o) (two := two) k1 sub.1).1
  have b2 := (meG_le h.1 (l := l) (o := o) (two := two) k1 sub.2).1
  have hmb := (mby_ok h.1 (l := l) (o := o) (two := two) hk hsub hf).1
  have pl := place_lt h9 hk hs
  have e27 : M 27 f = A.2 12 f := h.2.2.1 27 f hf
  have emi := (mbF_le h.1 (b := 0) hf).2
  have hmi : miA A f ≤ 99 := by
    have := (mbF_le h.1 (b := 2 ^ f) hf).1
    unfold mbF at this
    rw [Nat.testBit_two_pow, decide_eq_true rfl, if_pos rfl] at this
    exact this
  unfold w_X0_meanBy
  rw [nI_clamp (show f < 2 ^ 31 by omega), u1, u2, u3, nI_clamp (show sum3 (kn ||| 2 ^ f) + sum3 so < 2 ^ 31 by omega), nI_clamp (show sum3 (kn ||| 2 ^ f) + sum3 (so ||| 2 ^ f) < 2 ^ 31 by omega), nI_clamp (show sum3 kn + sum3 so < 2 ^ 31 by omega), t1.2.1, t2.2.1, e35, e27]
  refine ⟨vin (by omega) (by omega), vin (by omega) (by omega), ?_⟩
  rintro y1 rfl
  refine ⟨vin (by omega) (by omega), vin (by omega) (by omega), ?_⟩
  rintro y2 rfl
  have hq : Q (mI (mbyN (shR A kn so) (miA A f) (meG A l o two (kn ||| 2 ^ f) so) (meG A l o two (kn ||| 2 ^ f) (so ||| 2 ^ f)))) := hq
  rw [lg_cmp_eq, lg_cmp_eq, mI_1 b1, mI_1 b2]
  generalize meG A l o two (kn ||| 2 ^ f) so = no at b1 hq hmb ⊢
  generalize meG A l o two (kn ||| 2 ^ f) (so ||| 2 ^ f) = yes at b2 hq hmb ⊢
  unfold mbyN at hq
  refine br_c (fun z => ?_) (fun z => bn_c (fun z2 => ⟨vin (by omega) (by omega), vin (by omega) (by omega), ?_⟩) (fun z2 => ?_))
  · rw [if_pos (by omega)] at hq
    exact hq
  · have hmb := hmb (by omega)
    rw [if_neg (by omega)] at hq
    unfold mI at hq
    rw [if_pos (by omega)] at hq
    unfold mI
    rw [if_pos (by omega), if_pos (by omega), emi, nI_l (show miA A f < 2 ^ 31 by omega), lN_mul, lN_add, lN_add]
    exact hq
  · rw [if_pos (by omega)] at hq
    exact hq
theorem s11_worstBy {P : jP} {M : jM} {N : jN} {A : aS} (h : RelC P M A) {l o kn so f : Nat} {two : Bool} (hk : kn < 2 ^ A.1 0) (hs : so < 2 ^ A.1 0) (hsub : so &&& kn = so) (hf : f < A.1 0) (hb : ¬ kn.testBit f = true) (t1 : T11 M N A l o two (kn ||| 2 ^ f) so) (t2 : T11 M N A l o two (kn ||| 2 ^ f) (so ||| 2 ^ f)) {Q : Int32 → Prop} (hq : Q (wI (wbyA A l o two kn so f))) : w_X0_worstBy P (nI (sum3 kn + sum3 so)) (nI f) M Q := by
  have h9 := h.n9
  obtain ⟨u1, u2, u3, u4, u5, u6⟩ := unit_at h hk hs hsub hf hb
  have z0 := h.2.1.1
  have z2 : P.2.2 2 = 3 ^ A.1 0 := h.2.1.2.2.1
  have hf2 : 2 ^ f < 2 ^ A.1 0 := Nat.pow_lt_pow_right (by omega) hf
  have k1 : kn ||| 2 ^ f < 2 ^ A.1 0 := Nat.or_lt_two_pow hk hf2
  have sub := sub_or (f := f) hsub
  have b1 := (meG_le h.1 (l := l) (o := o) (two := two) k1 sub.1).2.1
  have b2 := (meG_le h.1 (l := l) (o := o) (two := two) k1 sub.2).2.1
  have hmb := (mby_ok h.1 (l := l) (o := o) (two := two) hk hsub hf).2
  have e27 : M 27 f = A.2 12 f := h.2.2.1 27 f hf
  have emi := (mbF_le h.1 (b := 0) hf).2
  unfold w_X0_worstBy
  rw [nI_clamp (show f < 2 ^ 31 by omega), u1, u2, u3, nI_clamp (show sum3 (kn ||| 2 ^ f) + sum3 so < 2 ^ 31 by omega), nI_clamp (show sum3 (kn ||| 2 ^ f) + sum3 (so ||| 2 ^ f) < 2 ^ 31 by omega), t1.2.2, t2.2.2, e27]
  refine ⟨vin (by omega) (by omega), vin (by omega) (by omega), ?_⟩
  rintro y1 rfl
  refine ⟨vin (by omega) (by omega), vin (by omega) (by omega), ?_⟩
  rintro y2 rfl
  have hq : Q (wI (wbyN (miA A f) (woG A l o two (kn ||| 2 ^ f) so) (woG A l o two (kn ||| 2 ^ f) (so ||| 2 ^ f)))) := hq
  rw [wI_1 b1, wI_1 b2]
  generalize woG A l o two (kn ||| 2 ^ f) so = no at b1 hq hmb ⊢
  generalize woG A l o two (kn ||| 2 ^ f) (so ||| 2 ^ f) = yes at b2 hq hmb ⊢
  unfold wbyN at hq
  refine br_c (fun z => ?_) (fun z => bn_c (fun z2 => ⟨vin (by omega) (by omega), ?_⟩) (fun z2 => ?_))
  · rw [if_pos (by omega)] at hq
    exact hq
  · have hmb := hmb (by omega)
    rw [if_neg (by omega)] at hq
    unfold wI at hq
    rw [if_pos (by omega)] at hq
    unfold wI
    rw [if_pos (show no < 1000000 by omega), if_pos (show yes < 1000000 by omega), maxI (by omega) (by omega), emi, nI_add, Nat.add_comm]
    exact hq
  · rw [if_pos (by omega)] at hq
    exact hq
