/-! orders name each fact once; ways that go on alike -/
theorem popc_or : ∀ m, m < 512 → ∀ d, d < 9 → popc (m ||| 2 ^ d) ≤ popc m + 1 := by decide +kernel
theorem popc_fulln : ∀ n, n < 10 → popc (2 ^ n - 1) = n := by decide +kernel
theorem or_old {m d : Nat} (h : m.testBit d = true) : m ||| 2 ^ d = m := by
  apply Nat.eq_of_testBit_eq
  intro i
  rw [Nat.testBit_or, Nat.testBit_two_pow]
  by_cases e : d = i
  · subst e; rw [h]; rfl
  · rw [decide_eq_false e, Bool.or_false]
theorem ordM_bit {n x : Nat} : ∀ k i, (ordM n x k).testBit i = true ↔ ∃ t, t < k ∧ ordD n x t = i
  | 0, i => by
    show (0 : Nat).testBit i = true ↔ _
    rw [Nat.zero_testBit]
    exact ⟨fun z => absurd z (by decide), fun ⟨t, h, _⟩ => absurd h (Nat.not_lt_zero t)⟩
  | k + 1, i => by
    show (ordM n x k ||| 2 ^ ordD n x k).testBit i = true ↔ _
    rw [or_bit, ordM_bit k i]
    constructor
    · rintro (⟨t, h1, h2⟩ | h)
      · exact ⟨t, by omega, h2⟩
      · exact ⟨k, by omega, h.symm⟩
    · rintro ⟨t, h1, h2⟩
      rcases Nat.lt_succ_iff_lt_or_eq.mp h1 with q | q
      · exact Or.inl ⟨t, q, h2⟩
      · subst q; exact Or.inr h2.symm
theorem ordM_pop {n x : Nat} (h1 : 1 ≤ n) (hn : n ≤ 9) : ∀ k, popc (ordM n x k) ≤ k ∧ ∀ t, t < k → (ordM n x t).testBit (ordD n x t) = true → popc (ordM n x k) < k
  | 0 => ⟨(by decide : popc 0 ≤ 0), fun t ht => absurd ht (Nat.not_lt_zero t)⟩
  | k + 1 => by
    obtain ⟨a, b⟩ := ordM_pop (x := x) h1 hn k
    have hC := two_le hn
    have hl := ordM_lt (n := n) (x := x) h1 k
    have hd := ordD_lt (n := n) (x := x) (k := k) h1
    have hp := popc_or (ordM n x k) (by omega) (ordD n x k) (by omega)
    have e : ordM n x (k + 1) = ordM n x k ||| 2 ^ ordD n x k := rfl
    rw [e]
    refine ⟨by omega, fun t ht hb => ?_⟩
    rcases Nat.lt_succ_iff_lt_or_eq.mp ht with q | q
    · have := b t q hb
      omega
    · subst q
      rw [or_old hb]
      omega
theorem ord_inj {n x : Nat} (h1 : 1 ≤ n) (hn : n ≤ 9) (hf : ordM n x n = 2 ^ n - 1) {s t : Nat} (hs : s < t) (ht : t < n) : ordD n x s ≠ ordD n x t := by
  intro e
  have := (ordM_pop h1 hn n (x := x)).2 t ht ((ordM_bit t _).mpr ⟨s, hs, e⟩)
  rw [hf, popc_fulln n (by omega)] at this
  omega
theorem sum3N_or {b x : Nat} (hb : ¬ b.testBit x = true) : ∀ k, sum3N (b ||| 2 ^ x) k = sum3N b k + (if x < k then 3 ^ x else 0)
  | 0 => rfl
  | k + 1 => by
    show sum3N (b ||| 2 ^ x) k + (if (b ||| 2 ^ x).testBit k = true then 3 ^ k else 0) = sum3N b k + (if b.testBit k = true then 3 ^ k else 0) + _
    rw [sum3N_or hb k]
    by_cases e : k = x
    · subst e
      rw [if_pos (or_bit.mpr (Or.inr rfl)), if_neg hb, if_neg (by omega), if_pos (by omega)]
    · have e2 : (b ||| 2 ^ x).testBit k = b.testBit k := by
        rw [Nat.testBit_or, Nat.testBit_two_pow, decide_eq_false (fun z => e z.symm), Bool.or_false]
      rw [e2]
      by_cases q : x < k
      · rw [if_pos q, if_pos (show x < k + 1 by omega)]; omega
      · rw [if_neg q, if_neg (show ¬ x < k + 1 by omega)]; omega
theorem sum3_or {b x : Nat} (hb : ¬ b.testBit x = true) (hx : x < 9) : sum3 (b ||| 2 ^ x) = sum3 b + 3 ^ x := by
  have := sum3N_or hb 9
  rw [if_pos hx] at this
  exact this
/-- equal ways: what is said goes on alike -/
def WayE (M : jM) (A : aS) (l : Nat) : Prop := ∀ kn s t, kn < 2 ^ A.1 0 → s < 2 ^ A.1 0 → t < 2 ^ A.1 0 → s &&& kn = s → t &&& kn = t → (M (64 + 8 * l + 4) (sum3 kn + sum3 s) = M (64 + 8 * l + 4) (sum3 kn + sum3 t) ↔ ∀ r, r < 2 ^ A.1 0 → r &&& kn = 0 → sdA A l (s ||| r) = sdA A l (t ||| r))
def matY (A : aS) (l kn so x : Nat) : Prop := ∃ c, c < 2 ^ A.1 0 ∧ c &&& kn = so ∧ sdA A l c ≠ sdA A l (c ^^^ 2 ^ x)
theorem bits_sub {a b : Nat} (h : a &&& b = a) {i : Nat} (hi : a.testBit i = true) : b.testBit i = true := by
  have e := congrArg (fun x => x.testBit i) h
  simp only [Nat.testBit_and] at e
  rw [hi, Bool.true_and] at e
  exact e
theorem mat_iff {sd : Nat → Int32} {n kn so f : Nat} (hs : so < 2 ^ n) (hsub : so &&& kn = so) (hf : f < n) (hb : ¬ kn.testBit f = true) : (∀ r, r < 2 ^ n → r &&& (kn ||| 2 ^ f) = 0 → sd (so ||| r) = sd ((so ||| 2 ^ f) ||| r)) ↔ ¬ ∃ c, c < 2 ^ n ∧ c &&& kn = so ∧ sd c ≠ sd (c ^^^ 2 ^ f) := by
  have hb := Bool.eq_false_iff.mpr hb
  have hsf : so.testBit f = false := Bool.eq_false_iff.mpr (fun z => by rw [bits_sub hsub z] at hb; exact absurd hb (by decide))
  have es2 : ∀ i, (so.testBit i && kn.testBit i) = so.testBit i := fun i => by rw [← Nat.testBit_and, hsub]
  constructor
  · rintro H ⟨c, hc, e, ne⟩
    apply ne
    have es : ∀ i, so.testBit i = (c.testBit i && kn.testBit i) := fun i => by rw [← e, Nat.testBit_and]
    have h1 := H (c ^^^ (c &&& (kn ||| 2 ^ f))) (Nat.xor_lt_two_pow hc (Nat.lt_of_le_of_lt Nat.and_le_left hc)) (by
      apply Nat.eq_of_testBit_eq
      intro i
      simp only [Nat.testBit_and, Nat.testBit_or, Nat.testBit_xor, Nat.zero_testBit]
      cases c.testBit i <;> cases kn.testBit i <;> cases (2 ^ f).testBit i <;> rfl)
    by_cases q : c.testBit f = true
    · have a1 : so ||| (c ^^^ (c &&& (kn ||| 2 ^ f))) = c ^^^ 2 ^ f := by
        apply Nat.eq_of_testBit_eq
        intro i
        simp only [Nat.testBit_and, Nat.testBit_or, Nat.testBit_xor, es, Nat.testBit_two_pow]
        by_cases ei : f = i
        · subst ei; rw [hb, q, decide_eq_true rfl]; rfl
        · rw [decide_eq_false ei]; cases c.testBit i <;> cases kn.testBit i <;> rfl
      have a2 : (so ||| 2 ^ f) ||| (c ^^^ (c &&& (kn ||| 2 ^ f))) = c := by
        apply Nat.eq_of_testBit_eq
        intro i
        simp only [Nat.testBit_and, Nat.testBit_or, Nat.testBit_xor, es, Nat.testBit_two_pow]
        by_cases ei : f = i
        · subst ei; rw [hb, q, decide_eq_true rfl]; rfl
        · rw [decide_eq_false ei]; cases c.testBit i <;> cases kn.testBit i <;> rfl
      rw [a1, a2] at h1
      exact h1.symm
    · have q := Bool.eq_false_iff.mpr q
      have a1 : so ||| (c ^^^ (c &&& (kn ||| 2 ^ f))) = c := by
        apply Nat.eq_of_testBit_eq
        intro i
        simp only [Nat.testBit_and, Nat.testBit_or, Nat.testBit_xor, es, Nat.testBit_two_pow]
        by_cases ei : f = i
        · subst ei; rw [hb, q, decide_eq_true rfl]; rfl
        · rw [decide_eq_false ei]; cases c.testBit i <;> cases kn.testBit i <;> rfl
      have a2 : (so ||| 2 ^ f) ||| (c ^^^ (c &&& (kn ||| 2 ^ f))) = c ^^^ 2 ^ f := by
        apply Nat.eq_of_testBit_eq
        intro i
        simp only [Nat.testBit_and, Nat.testBit_or, Nat.testBit_xor, es, Nat.testBit_two_pow]
        by_cases ei : f = i
        · subst ei; rw [hb, q, decide_eq_true rfl]; rfl
        · rw [decide_eq_false ei]; cases c.testBit i <;> cases kn.testBit i <;> rfl
      rw [a1, a2] at h1
      exact h1
  · intro H r hr hz
    apply Classical.byContradiction
    intro ne
    have rz : ∀ i, (r.testBit i && (kn.testBit i || decide (f = i))) = false := fun i => by
      have := congrArg (fun x => x.testBit i) hz
      simp only [Nat.testBit_and, Nat.testBit_or, Nat.testBit_two_pow, Nat.zero_testBit] at this
      exact this
    refine H ⟨so ||| r, Nat.or_lt_two_pow hs hr, ?_, ?_⟩
    · apply Nat.eq_of_testBit_eq
      intro i
      have h1 := rz i
      have h2 := es2 i
      rw [Nat.testBit_and, Nat.testBit_or]
      revert h1 h2
      generalize decide (f = i) = d
      cases so.testBit i <;> cases kn.testBit i <;> cases r.testBit i <;> cases d <;> decide
    · have a : (so ||| r) ^^^ 2 ^ f = (so ||| 2 ^ f) ||| r := by
        apply Nat.eq_of_testBit_eq
        intro i
        have h1 := rz i
        have h2 := es2 i
        rw [Nat.testBit_xor, Nat.testBit_or, Nat.testBit_or, Nat.testBit_or, Nat.testBit_two_pow]
        by_cases ei : f = i
        · subst ei
          rw [hb, decide_eq_true rfl] at h1
          rw [hsf, decide_eq_true rfl]
          revert h1
          cases r.testBit f <;> decide
        · rw [decide_eq_false ei]
          cases so.testBit i <;> cases r.testBit i <;> rfl
      rw [a]
      exact ne
theorem s11_mattersAt {P : jP} {M : jM} {A : aS} (h : RelC P M A) {l kn so f : Nat} (hl : l < A.1 2) (hE : WayE M A l) (hk : kn < 2 ^ A.1 0) (hs : so < 2 ^ A.1 0) (hsub : so &&& kn = so) (hf : f < A.1 0) (hb : ¬ kn.testBit f = true) {Q : Int32 → Prop} (h1 : matY A l kn so f → Q 1) (h0 : ¬ matY A l kn so f → Q 0) : w_X1_mattersAt P (64 + 8 * l) (nI (sum3 kn + sum3 so)) (nI f) M Q := by
  have h9 := h.n9
  have hC := h.C512
  have hsb : ¬ so.testBit f = true := fun z => hb (bits_sub hsub z)
  have hf2 : 2 ^ f < 2 ^ A.1 0 := Nat.pow_lt_pow_right (by omega) hf
  have k1 : kn ||| 2 ^ f < 2 ^ A.1 0 := Nat.or_lt_two_pow hk hf2
  have k2 : so ||| 2 ^ f < 2 ^ A.1 0 := Nat.or_lt_two_pow hs hf2
  obtain ⟨p1, p2⟩ := place_in h hl k1 hs
  obtain ⟨q1, q2⟩ := place_in h hl k1 k2
  have e15 : M 15 f = nI (3 ^ f) := h.2.2.1 15 f hf
  have e1 : nI (sum3 kn + sum3 so) + nI (3 ^ f) = nI (sum3 (kn ||| 2 ^ f) + sum3 so) := by
    rw [nI_add, sum3_or hb (by omega)]
    congr 1; omega
  have e2 : nI (sum3 kn + sum3 so) + 2 * nI (3 ^ f) = nI (sum3 (kn ||| 2 ^ f) + sum3 (so ||| 2 ^ f)) := by
    rw [show (2 : Int32) = nI 2 from rfl, pk_mul, nI_add, sum3_or hb (by omega), sum3_or hsb (by omega)]
    congr 1; omega
  have key := (hE (kn ||| 2 ^ f) so (so ||| 2 ^ f) k1 hs k2 (by
      apply Nat.eq_of_testBit_eq
      intro i
      have h2 : (so.testBit i && kn.testBit i) = so.testBit i := by rw [← Nat.testBit_and, hsub]
      rw [Nat.testBit_and, Nat.testBit_or]
      revert h2
      cases so.testBit i <;> cases kn.testBit i <;> cases (2 ^ f).testBit i <;> decide) (by
      apply Nat.eq_of_testBit_eq
      intro i
      have h2 : (so.testBit i && kn.testBit i) = so.testBit i := by rw [← Nat.testBit_and, hsub]
      rw [Nat.testBit_and, Nat.testBit_or, Nat.testBit_or]
      revert h2
      cases so.testBit i <;> cases kn.testBit i <;> cases (2 ^ f).testBit i <;> decide)).trans (mat_iff (sd := sdA A l) hs hsub hf hb)
  unfold w_X1_mattersAt
  rw [nI_clamp (show f < 2 ^ 31 by omega), e15, e1, e2, p2, q2]
  refine ⟨vin (by rw [h.2.1.1]; exact hf) (by rw [h.2.1.1]; omega), h.lw hl, p1, h.lw hl, q1, ?_⟩
  exact br_c (fun z => h0 (key.mp z)) (fun z => h1 (Classical.byContradiction (fun w => z (key.mpr w))))
theorem s12_mattersYet {P : jP} {M : jM} {A : aS} (h : RelM M A) {l kn so f : Nat} (hl : l < A.1 2) (hk : kn < 512) (hs : so < 512) (hf : f < A.1 0) {Q : Int32 → Prop} (h1 : matY A l kn so f → Q 1) (h0 : ¬ matY A l kn so f → Q 0) : w_X12_mattersYet P (nI l) (nI kn) (nI so) (nI f) M Q := by
  have h6 := h.num
  unfold wfNum at h6
  have hC := h.C512
  unfold w_X12_mattersYet
  rw [h.cases, shl1 (by omega)]
  intro R hR
  refine lp_up (R := fun c => (∀ d, d < c → d &&& kn = so → sdA A l d = sdA A l (d ^^^ 2 ^ f)) → R (nI c)) (2 ^ A.1 0) (fun H => hR _ (br_t (nI_le (Nat.le_refl _) (by omega)) (h0 ?_))) ?_ 0 (Nat.zero_le _) (fun d hd => absurd hd (Nat.not_lt_zero d))
  · rintro ⟨c, hc, e, ne⟩
    exact ne (H c hc e)
  · intro c hc ih H
    have hx := xor_bit_lt hc hf
    refine hR _ (br_f (nI_ge hc (by omega)) ?_)
    intro R44 h44
    rw [nI_and, nI_xor, nI_1] at *
    have next : (c &&& kn = so → sdA A l c = sdA A l (c ^^^ 2 ^ f)) → R44 := fun hn => h44 (ih (fun d hd e => by
      rcases Nat.lt_succ_iff_lt_or_eq.mp hd with q | q
      · exact H d q e
      · subst q; exact hn e))
    have hcl : c &&& kn < 512 := Nat.lt_of_le_of_lt Nat.and_le_left (by omega)
    rw [nI_eq (by omega) (by omega)]
    refine bn_c (fun z => next (fun e => absurd e z)) (fun e => s12_saidOn h (by omega) (by omega) (s12_saidOn h (by omega) (by omega) (br_c (fun z => next (fun _ => z)) (fun z => h1 ⟨c, hc, e, z⟩))))
