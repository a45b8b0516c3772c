/-! tells: both sides. Pairs, counted one by one or by what is said -/
def sumN (f : Nat → Nat) : Nat → Nat
  | 0 => 0
  | n + 1 => sumN f n + f n
theorem sumN_congr {f g : Nat → Nat} : ∀ {n : Nat}, (∀ i, i < n → f i = g i) → sumN f n = sumN g n
  | 0, _ => rfl
  | n + 1, h => by
    show sumN f n + f n = sumN g n + g n
    rw [sumN_congr (fun i hi => h i (by omega)), h n (by omega)]
theorem sumN_add (f g : Nat → Nat) : ∀ n, sumN (fun i => f i + g i) n = sumN f n + sumN g n
  | 0 => rfl
  | n + 1 => by
    show sumN _ n + (f n + g n) = sumN f n + f n + (sumN g n + g n)
    rw [sumN_add f g n]
    omega
theorem sumN_at (d s : Nat) : ∀ n, sumN (fun i => if i = s then d else 0) n = if s < n then d else 0
  | 0 => by rw [if_neg (by omega)]; rfl
  | n + 1 => by
    show sumN _ n + (if n = s then d else 0) = _
    rw [sumN_at d s n]
    by_cases h : n = s
    · rw [if_pos h, if_neg (by omega), if_pos (by omega), Nat.zero_add]
    · rw [if_neg h]
      by_cases h2 : s < n
      · rw [if_pos h2, if_pos (by omega), Nat.add_zero]
      · rw [if_neg h2, if_neg (by omega)]
/-- how many say o, of the yes and of the no; how many of the yes say another -/
abbrev cYo (Y : Nat → Bool) (S : Nat → Nat) (o n : Nat) : Nat := cntB (fun c => Y c && S c == o) n
abbrev cNo (Y : Nat → Bool) (S : Nat → Nat) (o n : Nat) : Nat := cntB (fun c => !Y c && S c == o) n
abbrev cUo (Y : Nat → Bool) (S : Nat → Nat) (o n : Nat) : Nat := cntB (fun c => Y c && !(S c == o)) n
abbrev prB (Y : Nat → Bool) (S : Nat → Nat) (c d : Nat) : Bool := !(S c == S d) && !(Y c == Y d)
theorem cnt_step (p : Nat → Bool) (n : Nat) : cntB p (n + 1) = cntB p n + (if p n = true then 1 else 0) := rfl
theorem cYU (Y : Nat → Bool) (S : Nat → Nat) (o : Nat) : ∀ n, cYo Y S o n + cUo Y S o n = cntB Y n
  | 0 => rfl
  | n + 1 => by
    have ih := cYU Y S o n
    rw [cYo, cUo, cnt_step, cnt_step, cnt_step]
    rw [cYo, cUo] at ih
    cases Y n <;> cases S n == o <;> simp <;> omega
theorem cN_sum (Y : Nat → Bool) (S : Nat → Nat) (s : Nat) : ∀ n, (∀ c, c < n → S c < 7) → sumN (fun o => if o = s then 0 else cNo Y S o n) 7 = cntB (fun d => !(s == S d) && !Y d) n
  | 0, _ => by
    rw [sumN_congr (g := fun i => if i = 0 then 0 else 0) (fun i hi => by split <;> split <;> rfl), sumN_at]
    split <;> rfl
  | n + 1, h => by
    have ih := cN_sum Y S s n (fun c hc => h c (by omega))
    rw [cnt_step, ← ih]
    by_cases hp : (!(s == S n) && !Y n) = true
    · have hp2 : ¬ s = S n ∧ Y n = false := by simpa using hp
      rw [if_pos hp, sumN_congr (g := fun o => (if o = s then 0 else cNo Y S o n) + (if o = S n then 1 else 0)) (fun o ho => ?_), sumN_add, sumN_at, if_pos (h n (by omega))]
      by_cases h1 : o = s
      · rw [if_pos h1, if_pos h1, if_neg (by omega)]
      · rw [if_neg h1, if_neg h1, cNo, cnt_step, hp2.2]
        by_cases h2 : o = S n
        · rw [if_pos h2, if_pos (by simp [h2])]
        · rw [if_neg h2, if_neg (by simp; omega)]
    · rw [if_neg hp, Nat.add_zero]
      refine sumN_congr (fun o ho => ?_)
      by_cases h1 : o = s
      · rw [if_pos h1, if_pos h1]
      · rw [if_neg h1, if_neg h1, cNo, cnt_step]
        refine (congrArg (cNo Y S o n + ·) (if_neg ?_)).trans (Nat.add_zero _)
        intro q
        simp only [Bool.and_eq_true, Bool.not_eq_true', beq_iff_eq] at q
        apply hp
        simp only [Bool.and_eq_true, Bool.not_eq_true', beq_eq_false_iff_ne]
        exact ⟨fun e => h1 (by rw [e, q.2]), q.1⟩
theorem pairs_eq (Y : Nat → Bool) (S : Nat → Nat) : ∀ n, (∀ c, c < n → S c < 7) → sumN (fun c => cntB (prB Y S c) c) n = sumN (fun o => cUo Y S o n * cNo Y S o n) 7
  | 0, _ => by
    rw [sumN_congr (f := fun o => cUo Y S o 0 * cNo Y S o 0) (g := fun i => if i = 0 then 0 else 0) (fun i hi => by split <;> rfl), sumN_at]
    rfl
  | n + 1, h => by
    have ih := pairs_eq Y S n (fun c hc => h c (by omega))
    show sumN _ n + cntB (prB Y S n) n = _
    rw [ih]
    cases hy : Y n with
    | true =>
      have e1 : cntB (prB Y S n) n = cntB (fun d => !(S n == S d) && !Y d) n := cntB_congr (fun d _ => by
        show (!(S n == S d) && !(Y n == Y d)) = _
        rw [hy]; cases Y d <;> rfl)
      rw [e1, ← cN_sum Y S (S n) n (fun c hc => h c (by omega)), ← sumN_add]
      refine sumN_congr (fun o ho => ?_)
      have s1 : cUo Y S o (n + 1) = cUo Y S o n + (if (Y n && !(S n == o)) = true then 1 else 0) := rfl
      have s2 : cNo Y S o (n + 1) = cNo Y S o n + (if (!Y n && S n == o) = true then 1 else 0) := rfl
      rw [s1, s2, hy]
      by_cases h1 : o = S n
      · rw [if_pos h1, if_neg (by simp [h1]), if_neg (by simp)]
        rfl
      · have h2 : ¬ S n = o := fun e => h1 e.symm
        rw [if_neg h1, if_pos (by simp [h2]), if_neg (by simp), Nat.add_mul, Nat.one_mul]
        rfl
    | false =>
      have e1 : cntB (prB Y S n) n = cUo Y S (S n) n := cntB_congr (fun d _ => by
        show (!(S n == S d) && !(Y n == Y d)) = _
        have : (S n == S d) = (S d == S n) := by rw [Bool.eq_iff_iff, beq_iff_eq, beq_iff_eq]; exact ⟨Eq.symm, Eq.symm⟩
        rw [hy, this]; cases Y d <;> cases S d == S n <;> rfl)
      have e2 := sumN_at (cUo Y S (S n) n) (S n) 7
      rw [if_pos (h n (by omega))] at e2
      rw [e1, ← e2, ← sumN_add]
      refine sumN_congr (fun o ho => ?_)
      have s1 : cUo Y S o (n + 1) = cUo Y S o n + (if (Y n && !(S n == o)) = true then 1 else 0) := rfl
      have s2 : cNo Y S o (n + 1) = cNo Y S o n + (if (!Y n && S n == o) = true then 1 else 0) := rfl
      rw [s1, s2, hy]
      by_cases h1 : o = S n
      · subst h1
        rw [if_pos rfl, if_neg (by simp), if_pos (by simp), Nat.add_zero, Nat.mul_add, Nat.mul_one]
      · have h2 : ¬ S n = o := fun e => h1 e.symm
        rw [if_neg h1, if_neg (by simp), if_neg (by simp [h2])]
        rfl

/-! the state's pairs -/
abbrev yesA (A : aS) (q c : Nat) : Bool := A.2 14 (512 * q + c) == 1
def soN (A : aS) (l c : Nat) : Nat := (sdA A l c + 1).toNatClampNeg
theorem so_ok {A : aS} (h : wfLaws A) {l c : Nat} (hl : l < A.1 2) (hc : c < 2 ^ A.1 0) : sdA A l c + 1 = nI (soN A l c) ∧ soN A l c < 7 := by
  obtain ⟨cl, c1, c2, c3, c4, c5⟩ := law_ok h hl
  obtain ⟨b, b1, b2, b3, b4⟩ := c5 c hc
  have e : sdA A l c = outOf A l b := b4
  have key : ∃ o : Nat, o < 7 ∧ sdA A l c + 1 = nI o := by
    rw [e, outOf]
    by_cases h0 : b = 0
    · rw [if_pos h0]; exact ⟨0, by omega, rfl⟩
    · rw [if_neg h0]
      obtain ⟨o, ho, eo⟩ := c4 _ (lowb_lt cl c2 b b1 h0)
      rw [eo, nI_1]
      exact ⟨o + 1, by omega, rfl⟩
  obtain ⟨o, ho, eo⟩ := key
  unfold soN
  rw [eo, nI_clamp (by omega)]
  exact ⟨rfl, ho⟩
theorem so_eq {A : aS} (h : wfLaws A) {l c d : Nat} (hl : l < A.1 2) (hc : c < 2 ^ A.1 0) (hd : d < 2 ^ A.1 0) : sdA A l c = sdA A l d ↔ soN A l c = soN A l d := by
  obtain ⟨e1, l1⟩ := so_ok h hl hc
  obtain ⟨e2, l2⟩ := so_ok h hl hd
  constructor
  · intro e; unfold soN; rw [e]
  · intro e
    have z : sdA A l c + 1 = sdA A l d + 1 := by rw [e1, e2, e]
    have := congrArg (· - 1) z
    simpa using this
abbrev prN (A : aS) (q l n : Nat) : Nat := sumN (fun c => cntB (prB (yesA A q) (soN A l) c) c) n
theorem prN_le (A : aS) (q l : Nat) : ∀ n, n ≤ 512 → prN A q l n ≤ 512 * n
  | 0, _ => Nat.le_refl 0
  | n + 1, h => by
    have ih := prN_le A q l n (by omega)
    show prN A q l n + cntB _ n ≤ _
    have := cntB_le (prB (yesA A q) (soN A l) n) n
    omega
def tellsS (A : aS) (a b : Int32) : Int32 := if okQ A a ∧ okL A b then nI (prN A a.toNatClampNeg b.toNatClampNeg (2 ^ A.1 0)) else -1
theorem s12_tells {P : jP} {M : jM} {A : aS} (h : RelM M A) {a b : Int32} {Q : Int32 → jM → Prop} (hq : ∀ M', RelM M' A → Q (tellsS A a b) M') : w_X12_tells P a b M Q := by
  unfold w_X12_tells
  have h0 := h.thr 0
  generalize upM M 1 0 0 = M0 at h0 ⊢
  have hq := hq M0 h0
  refine s12_isQuestion h0 (br_i (fun hn => ?_) (fun hf => s12_isLaw h0 (br_j (fun hl => ?_) (fun hn => ?_))))
  · rw [tellsS, if_neg (fun z => hn z.1)] at hq; exact hq
  · rw [tellsS, if_pos ⟨hf, hl⟩] at hq
    obtain ⟨q, hq1, hq2, rfl⟩ := okQ_of h0 hf
    obtain ⟨l, hl1, hl2, rfl⟩ := okL_of h0 hl
    rw [nI_clamp (show q < 2 ^ 31 by omega), nI_clamp (show l < 2 ^ 31 by omega)] at hq
    have hC := h0.C512
    have hyn : ∀ c, c < 2 ^ A.1 0 → A.2 14 (512 * q + c) = 0 ∨ A.2 14 (512 * q + c) = 1 := h0.1.2.2.2.2.1.2.2.1 q hq1
    rw [h0.cases]
    intro R hR
    refine lp_up (R := fun c => R (nI (prN A q l c)) (nI c)) (2 ^ A.1 0) (hR _ _ (br_t (nI_le (Nat.le_refl _) (by omega)) hq)) ?_ 0 (Nat.zero_le _)
    intro c hc ih
    refine hR _ _ (br_f (nI_ge hc (by omega)) ?_)
    intro R40 h40
    have start : R40 (nI (prN A q l c + cntB (prB (yesA A q) (soN A l) c) 0)) (nI 0) → R40 (nI (prN A q l c)) 0 := fun z => z
    refine start (lp_up (R := fun d => R40 (nI (prN A q l c + cntB (prB (yesA A q) (soN A l) c) d)) (nI d)) c (h40 _ _ (br_t (nI_le (Nat.le_refl _) (by omega)) (by rw [nI_1]; exact ih))) ?_ 0 (Nat.zero_le _))
    intro d hd ih2
    refine h40 _ _ (br_f (nI_ge hd (by omega)) (s12_saidOn h0 hl2 (by omega) (s12_saidOn h0 hl2 (by omega) ?_)))
    intro R99 h99
    have hp : prB (yesA A q) (soN A l) c d = true ↔ (¬ sdA A l c = sdA A l d ∧ ¬ A.2 14 (512 * q + c) = A.2 14 (512 * q + d)) := by
      rw [so_eq h0.1.2.2.1 hl1 hc (by omega)]
      simp only [prB, Bool.and_eq_true, Bool.not_eq_true', beq_eq_false_iff_ne]
      refine and_congr Iff.rfl (not_congr ?_)
      unfold yesA
      rcases hyn c hc with e1 | e1 <;> rcases hyn d (by omega) with e2 | e2 <;> rw [e1, e2] <;> decide
    have no : ¬ prB (yesA A q) (soN A l) c d = true → R99 0 := fun z => by
      rw [cntB_f (p := prB (yesA A q) (soN A l) c) z] at ih2
      exact h99 _ (by rw [show (0 : Int32) = nI 0 from rfl, nI_add, nI_1, Nat.add_zero]; exact ih2)
    have yes : prB (yesA A q) (soN A l) c d = true → R99 1 := fun z => by
      rw [cntB_t (p := prB (yesA A q) (soN A l) c) z] at ih2
      exact h99 _ (by rw [nI_1, nI_1, Nat.add_assoc]; exact ih2)
    refine br_c (fun e => no (fun z => (hp.mp z).1 e)) (fun e => ?_)
    have i1 := ix512q (l := q) (c := c) (by omega) (by omega)
    have i2 := ix512q (l := q) (c := d) (by omega) (by omega)
    refine ⟨i1.1, i2.1, ?_⟩
    rw [i1.2, i2.2, h0.row (by omega), h0.row (by omega)]
    exact br_c (fun e2 => no (fun z => (hp.mp z).2 e2)) (fun e2 => yes (hp.mpr ⟨e, e2⟩))
  · rw [tellsS, if_neg (fun z => hn z.2)] at hq; exact hq

/-- but for the two rows of sums, the same tables -/
abbrev ag2 (M M' : jM) : Prop := ∀ k, k ≠ 41 → k ≠ 42 → M' k = M k
theorem RelC.k2 {P : jP} {M M' : jM} {A : aS} (h : RelC P M A) (hM : ag2 M M') : RelC P M' A :=
  h.keep [41, 42] (by simp) (by intro k hk j; simp only [List.mem_cons, List.mem_nil_iff, or_false] at hk; rcases hk with e | e <;> subst e <;> exact fun z => z) (fun k hk => hM k (fun e => hk (by simp [e])) (fun e => hk (by simp [e])))
theorem ag2_41 {M M' : jM} (h : ag2 M M') (j : Nat) (v : Int32) : ag2 M (upM M' 41 j v) := fun k h1 h2 => by rw [upM_ne _ _ _ h1]; exact h k h1 h2
theorem ag2_42 {M M' : jM} (h : ag2 M M') (j : Nat) (v : Int32) : ag2 M (upM M' 42 j v) := fun k h1 h2 => by rw [upM_ne _ _ _ h2]; exact h k h1 h2
theorem up_at (M : jM) (k j i : Nat) (v : Int32) : upM M k j v k i = if i = j then v else M k i := by
  rw [upM_same]
  by_cases h : i = j
  · subst h; rw [pk_us, if_pos rfl]
  · rw [pk_un h, if_neg h]
theorem up_of (M : jM) {k a : Nat} (j i : Nat) (v : Int32) (h : a ≠ k) : upM M k j v a i = M a i := by rw [upM_ne _ _ _ h]
theorem s11_pairsParted {P : jP} {M : jM} {A : aS} (h : RelC P M A) {q l : Nat} (hq1 : q < A.1 3) (hl : l < A.1 2) {Q : Int32 → jM → Prop} (hq : ∀ M', ag2 M M' → Q (nI (prN A q l (2 ^ A.1 0))) M') : w_X6_pairsParted P (nI q) (64 + 8 * l + 3) M Q := by
  have h6 := h.num
  unfold wfNum at h6
  have hC := h.C512
  have hS : ∀ c, c < 2 ^ A.1 0 → sdA A l c + 1 = nI (soN A l c) ∧ soN A l c < 7 := fun c hc => so_ok h.1.2.2.1 hl hc
  rw [prN, pairs_eq _ _ _ (fun c hc => (hS c hc).2)] at hq
  have hbd : ∀ k, sumN (fun o => cUo (yesA A q) (soN A l) o (2 ^ A.1 0) * cNo (yesA A q) (soN A l) o (2 ^ A.1 0)) k ≤ 262144 * k := by
    intro k
    induction k with
    | zero => exact Nat.le_refl _
    | succ k ih =>
      show sumN _ k + _ * _ ≤ _
      have u := cntB_le (fun c => yesA A q c && !(soN A l c == k)) (2 ^ A.1 0)
      have v := cntB_le (fun c => !yesA A q c && soN A l c == k) (2 ^ A.1 0)
      have := Nat.mul_le_mul (Nat.le_trans u hC) (Nat.le_trans v hC)
      show sumN _ k + cntB _ _ * cntB _ _ ≤ _
      omega
  unfold w_X6_pairsParted
  rw [h.z1]
  intro R5 h5
  have clear : ∀ k, k ≤ 7 → ∀ M', ag2 M M' → (∀ j, j < k → M' 41 j = 0 ∧ M' 42 j = 0) → R5 (nI k) M' := by
    refine fun k hk => lp_up (R := fun k => ∀ M', ag2 M M' → (∀ j, j < k → M' 41 j = 0 ∧ M' 42 j = 0) → R5 (nI k) M') 7 ?_ ?_ k hk
    · intro M1 hM1 hz
      refine h5 _ _ (br_t (nI_le (Nat.le_refl _) (by omega)) ?_)
      intro R40 h40
      have count : ∀ c, c ≤ 2 ^ A.1 0 → ∀ M', ag2 M M' → (∀ j, j < 7 → M' 41 j = nI (cYo (yesA A q) (soN A l) j c) ∧ M' 42 j = nI (cNo (yesA A q) (soN A l) j c)) → R40 (nI (cntB (yesA A q) c)) (nI c) M' := by
        refine fun c hc => lp_up (R := fun c => ∀ M', ag2 M M' → (∀ j, j < 7 → M' 41 j = nI (cYo (yesA A q) (soN A l) j c) ∧ M' 42 j = nI (cNo (yesA A q) (soN A l) j c)) → R40 (nI (cntB (yesA A q) c)) (nI c) M') (2 ^ A.1 0) ?_ ?_ c hc
        · intro M2 hM2 hz2
          refine h40 _ _ _ (br_t (nI_le (Nat.le_refl _) (by omega)) ?_)
          intro R112 h112
          refine lp_up (R := fun k => R112 (nI (sumN (fun o => cUo (yesA A q) (soN A l) o (2 ^ A.1 0) * cNo (yesA A q) (soN A l) o (2 ^ A.1 0)) k)) (nI k)) 7 (h112 _ _ (br_t (nI_le (Nat.le_refl _) (by omega)) (hq M2 hM2))) ?_ 0 (Nat.zero_le _)
          intro k hk ih
          refine h112 _ _ (br_f (nI_ge hk (by omega)) ⟨vin hk (by omega), vin hk (by omega), ?_⟩)
          intro y hy
          have hyu := cYU (yesA A q) (soN A l) k (2 ^ A.1 0)
          rw [nI_clamp (by omega), (hz2 k hk).1, (hz2 k hk).2, pk_sub (by omega), pk_mul, nI_add] at hy
          rw [hy, nI_1]
          have e : sumN (fun o => cUo (yesA A q) (soN A l) o (2 ^ A.1 0) * cNo (yesA A q) (soN A l) o (2 ^ A.1 0)) k + (cntB (yesA A q) (2 ^ A.1 0) - cYo (yesA A q) (soN A l) k (2 ^ A.1 0)) * cNo (yesA A q) (soN A l) k (2 ^ A.1 0) = sumN (fun o => cUo (yesA A q) (soN A l) o (2 ^ A.1 0) * cNo (yesA A q) (soN A l) o (2 ^ A.1 0)) (k + 1) := by
            have e2 : cntB (yesA A q) (2 ^ A.1 0) - cYo (yesA A q) (soN A l) k (2 ^ A.1 0) = cUo (yesA A q) (soN A l) k (2 ^ A.1 0) := by omega
            rw [e2]
            rfl
          rw [e]
          exact ih
        · intro c hc ih M2 hM2 hz2
          refine h40 _ _ _ (br_f (nI_ge hc (by omega)) ⟨vin hc (by omega), ?_⟩)
          intro R100 h100
          have hr := h.k2 hM2
          have hs := hS c hc
          have hsum : M2 (64 + 8 * l + 3) c + 1 = nI (soN A l c) := by rw [hr.said hl hc]; exact hs.1
          have hcy := cntB_le (fun d => yesA A q d && soN A l d == soN A l c) c
          have hbit : (ansA A c).testBit q = yesA A q c := by
            unfold ansA
            rw [bitsN_bit, decide_eq_true hq1, Bool.true_and]
          have ha := ansA_lt h.1 c
          rw [nI_clamp (show c < 2 ^ 31 by omega), hr.ans hc, bit1_0 (by omega) (by omega), hbit, hsum, nI_clamp (show soN A l c < 2 ^ 31 by omega)]
          refine br_c (fun hy => ⟨jin_of (h.ia hl).2.2.1 hc (by omega), vin hs.2 (by omega), vin hs.2 (by omega), ?_⟩) (fun hy => ⟨jin_of (h.ia hl).2.2.1 hc (by omega), vin hs.2 (by omega), vin hs.2 (by omega), ?_⟩)
          · rintro M3 rfl
            refine h100 _ _ ?_
            rw [nI_1, ← cntB_f (p := yesA A q) hy]
            refine ih _ (ag2_42 hM2 _ _) (fun j hj => ⟨?_, ?_⟩)
            · rw [up_of _ _ _ _ (by omega), (hz2 j hj).1, cYo, cYo, cntB_f]
              simp [Bool.eq_false_iff.mpr hy]
            · rw [up_at]
              by_cases e : j = soN A l c
              · subst e
                rw [if_pos rfl, (hz2 _ hj).2, nI_1, cNo, cNo, cntB_t (by simp [Bool.eq_false_iff.mpr hy])]
              · rw [if_neg e, (hz2 _ hj).2, cNo, cNo, cntB_f (by simp; intro _ z; exact e z.symm)]
          · have hy : yesA A q c = true := Classical.byContradiction hy
            rintro M3 rfl
            refine h100 _ _ ?_
            rw [nI_1, nI_1, ← cntB_t (p := yesA A q) hy]
            refine ih _ (ag2_41 hM2 _ _) (fun j hj => ⟨?_, ?_⟩)
            · rw [up_at]
              by_cases e : j = soN A l c
              · subst e
                rw [if_pos rfl, (hz2 _ hj).1, nI_1, cYo, cYo, cntB_t (by simp [hy])]
              · rw [if_neg e, (hz2 _ hj).1, cYo, cYo, cntB_f (by simp; intro _ z; exact e z.symm)]
            · rw [up_of _ _ _ _ (by omega), (hz2 j hj).2, cNo, cNo, cntB_f]
              simp [hy]
      exact count 0 (Nat.zero_le _) M1 hM1 (fun j hj => hz j hj)
    · intro k hk ih M1 hM1 hz
      refine h5 _ _ (br_f (nI_ge hk (by omega)) ⟨vin hk (by omega), vin hk (by omega), ?_⟩)
      rintro M2 rfl
      rw [nI_clamp (show k < 2 ^ 31 by omega), nI_1]
      refine ih _ (ag2_42 (ag2_41 hM1 _ _) _ _) (fun j hj => ⟨?_, ?_⟩)
      · rw [up_of _ _ _ _ (by omega), up_at]
        by_cases e : j = k
        · rw [if_pos e]
        · rw [if_neg e]; exact (hz j (by omega)).1
      · rw [up_at, up_of _ _ _ _ (by omega)]
        by_cases e : j = k
        · rw [if_pos e]
        · rw [if_neg e]; exact (hz j (by omega)).2
  exact clear 0 (Nat.zero_le _) M (fun _ _ _ => rfl) (fun j hj => absurd hj (Nat.not_lt_zero j))
theorem s11_tells {P : jP} {M : jM} {A : aS} (h : RelC P M A) {a b : Int32} {Q : Int32 → jM → Prop} (hq : ∀ M', ag2 M M' → Q (tellsS A a b) M') : w_X11_tells P a b M Q := by
  have h6 := h.num
  unfold wfNum at h6
  unfold w_X11_tells
  rw [h.qn]
  have h0 := hq M (fun _ _ _ => rfl)
  refine s11_lawAt h (fun hn => br_t rfl ?_) (fun l hl el => br_f (by omega) (br_c (fun hw => ?_) (fun hw => br_c (fun hw1 => ⟨h.lw hl, ?_⟩) (fun hw1 => ?_))))
  · rw [tellsS, if_neg (fun z => hn z.2)] at h0; exact h0
  · rw [tellsS, if_neg (fun z => z.1.1 hw)] at h0; exact h0
  · subst el
    have ol := okL_mk (M := M) h.1 hl
    have ok : okQ A a := ⟨hw, Int32.not_le.mpr hw1⟩
    obtain ⟨q, hq1, rfl⟩ := (ok3 (by omega)).mp ok
    rw [tellsS, if_pos ⟨ok, ol.1⟩, nI_clamp (show q < 2 ^ 31 by omega), nI_clamp (show l < 2 ^ 31 by omega)] at hq
    exact s11_pairsParted h hq1 hl hq
  · rw [tellsS, if_neg (fun z => hw1 (Int32.not_le.mp z.1.2))] at h0; exact h0
