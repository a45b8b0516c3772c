/-! matters, office, swap: both sides -/
theorem cntB_pos {p : Nat → Bool} {n : Nat} : 0 < cntB p n ↔ ∃ c, c < n ∧ p c = true := by
  constructor
  · intro h
    obtain ⟨c, h1, h2, -⟩ := cntB_hit h
    exact ⟨c, h1, h2⟩
  · rintro ⟨c, h1, h2⟩
    have := cntB_lt h1 h2
    omega
theorem cntB_all {p : Nat → Bool} : ∀ {n : Nat}, cntB p n = n ↔ ∀ c, c < n → p c = true
  | 0 => ⟨fun _ c hc => absurd hc (Nat.not_lt_zero c), fun _ => rfl⟩
  | n + 1 => by
    have hle := cntB_le p n
    by_cases hp : p n = true
    · rw [cntB_t hp]
      constructor
      · intro h c hc
        rcases Nat.lt_succ_iff_lt_or_eq.mp hc with h1 | h1
        · exact cntB_all.mp (by omega) c h1
        · subst h1; exact hp
      · intro h
        have := cntB_all.mpr (fun c hc => h c (Nat.lt_succ_of_lt hc))
        omega
    · rw [cntB_f hp]
      constructor
      · intro h; omega
      · intro h; exact absurd (h n (Nat.lt_succ_self n)) hp
theorem bitsN_or {p : Nat → Bool} {n : Nat} : bitsN p (n + 1) = bitsN p n ||| (if p n = true then 2 ^ n else 0) := by
  apply Nat.eq_of_testBit_eq
  intro i
  rw [bitsN_bit, Nat.testBit_or, bitsN_bit]
  by_cases hp : p n = true
  · rw [if_pos hp, Nat.testBit_two_pow]
    by_cases h1 : i < n
    · have h2 : ¬ n = i := by omega
      simp [h1, h2, Nat.lt_succ_of_lt h1]
    · by_cases h2 : i = n
      · subst h2; simp [hp]
      · have h3 : ¬ i < n + 1 := by omega
        simp [h1, h3]; omega
  · rw [if_neg hp]
    by_cases h1 : i < n
    · simp [h1, Nat.lt_succ_of_lt h1]
    · by_cases h2 : i = n
      · subst h2; simp [hp]
      · have h3 : ¬ i < n + 1 := by omega
        simp [h1, h3]
theorem bitsN_congr {p q : Nat → Bool} {n : Nat} (h : ∀ i, i < n → p i = q i) : bitsN p n = bitsN q n := by
  apply Nat.eq_of_testBit_eq
  intro i
  rw [bitsN_bit, bitsN_bit]
  by_cases h1 : i < n
  · rw [h i h1]
  · simp [h1]
theorem xor_bit_lt {c f n : Nat} (hc : c < 2 ^ n) (hf : f < n) : c ^^^ 2 ^ f < 2 ^ n := Nat.xor_lt_two_pow hc (Nat.pow_lt_pow_right (by omega) hf)
abbrev mtB (A : aS) (l f : Nat) : Nat → Bool := fun c => !(sdA A l c == sdA A l (c ^^^ 2 ^ f))
def mattersB (A : aS) (l : Nat) (what : Int32) (f : Nat) : Bool := if what = 0 then decide (0 < cntB (mtB A l f) (2 ^ A.1 0)) else decide (cntB (mtB A l f) (2 ^ A.1 0) = 2 ^ A.1 0)
def mattersS (A : aS) (a what : Int32) : Int32 := if okL A a ∧ (¬ what < 0 ∧ ¬ 1 < what) then nI (bitsN (mattersB A a.toNatClampNeg what) (A.1 0)) else -1
theorem s12_matters {P : jP} {M : jM} {A : aS} (h : RelM M A) {a what : Int32} {Q : Int32 → jM → Prop} (hq : ∀ M', RelM M' A → Q (mattersS A a what) M') : w_X12_matters P a what M Q := by
  unfold w_X12_matters
  have h0 := h.thr 0
  generalize upM M 1 0 0 = M0 at h0 ⊢
  have hq := hq M0 h0
  refine s12_isLaw h0 (br_i (fun hn => ?_) (fun hl => s12_isIn (br_j (fun hm => ?_) (fun hn => ?_))))
  · rw [mattersS, if_neg (fun z => hn z.1)] at hq; exact hq
  · rw [mattersS, if_pos ⟨hl, hm⟩] at hq
    obtain ⟨l, hl1, hl2, rfl⟩ := okL_of h0 hl
    rw [nI_clamp (by omega)] at hq
    have hC := h0.C512
    have h9 := h0.n9
    rw [h0.cases, h0.facts]
    intro R hR
    refine lp_up (R := fun f => R (nI (bitsN (mattersB A l what) f)) (nI f)) (A.1 0) ?_ ?_ 0 (Nat.zero_le _)
    · exact hR _ _ (br_t (nI_le (Nat.le_refl _) (by omega)) hq)
    · intro f hf ih
      refine hR _ _ (br_f (nI_ge hf (by omega)) ?_)
      intro R44 h44
      refine lp_up (R := fun c => R44 (nI (cntB (mtB A l f) c)) (nI c)) (2 ^ A.1 0) ?_ ?_ 0 (Nat.zero_le _)
      · refine h44 _ _ (br_t (nI_le (Nat.le_refl _) (by omega)) ?_)
        intro R121 h121 R113 h113
        have hle := cntB_le (mtB A l f) (2 ^ A.1 0)
        rw [bitsN_or] at ih
        have t0 : ¬ mattersB A l what f = true → R121 0 := fun z => by
          rw [if_neg z] at ih
          exact h121 _ (by rw [show (0 : Int32) = nI 0 from rfl, nI_or, nI_1]; exact ih)
        have t1 : mattersB A l what f = true → R113 := fun z => by
          rw [if_pos z] at ih
          exact h113 (h121 _ (by rw [shl1 (by omega), nI_or, nI_1]; exact ih))
        unfold mattersB at t0 t1
        refine bn_c (fun hw => bn_c (fun z => ?_) (fun z => ?_)) (fun hw => br_c (fun z => ?_) (fun z => ?_))
        · rw [if_neg hw] at t0
          refine t0 (fun q => z ?_)
          rw [of_decide_eq_true q]
        · rw [if_neg hw] at t1
          exact t1 (decide_eq_true ((nI_eq (by omega) (by omega)).mp z))
        · rw [if_pos hw] at t0
          refine t0 (fun q => ?_)
          have q := of_decide_eq_true q
          exact nI_nle q (by omega) z
        · rw [if_pos hw] at t1
          refine t1 (decide_eq_true ?_)
          refine Nat.pos_of_ne_zero (fun e => z ?_)
          rw [e]; decide
      · intro c hc ih2
        have hx := xor_bit_lt hc hf
        refine h44 _ _ (br_f (nI_ge hc (by omega)) (s12_saidOn h0 hl2 (by omega) ?_))
        rw [shl1 (by omega), nI_xor]
        refine s12_saidOn h0 hl2 (by omega) ?_
        intro R82 h82
        refine br_c (fun e => h82 _ ?_) (fun e => h82 _ ?_)
        · rw [cntB_f (by simp [e])] at ih2
          rw [show (0 : Int32) = nI 0 from rfl, nI_add, nI_1, Nat.add_zero]
          exact ih2
        · rw [cntB_t (by simpa using e)] at ih2
          rw [nI_1, nI_1]
          exact ih2
  · rw [mattersS, if_neg (fun z => hn z.2)] at hq; exact hq
/-- facts that matter on a case -/
def hereN (A : aS) (l c : Nat) : Nat := bitsN (fun f => mtB A l f c) (A.1 0)
def everN (A : aS) (l : Nat) : Nat → Nat
  | 0 => 0
  | c + 1 => everN A l c ||| hereN A l c
def alwaysN (A : aS) (l : Nat) : Nat → Nat
  | 0 => 2 ^ A.1 0 - 1
  | c + 1 => alwaysN A l c &&& hereN A l c
theorem everN_bit (A : aS) (l i : Nat) : ∀ n, (everN A l n).testBit i = true ↔ i < A.1 0 ∧ ∃ c, c < n ∧ mtB A l i c = true
  | 0 => by
    constructor
    · intro z; simp [everN] at z
    · rintro ⟨-, c, hc, -⟩; omega
  | n + 1 => by
    show (everN A l n ||| hereN A l n).testBit i = true ↔ _
    rw [Nat.testBit_or, Bool.or_eq_true, everN_bit A l i n, hereN, bitsN_bit, Bool.and_eq_true, decide_eq_true_eq]
    constructor
    · rintro (⟨h1, c, h2, h3⟩ | ⟨h1, h2⟩)
      · exact ⟨h1, c, by omega, h3⟩
      · exact ⟨h1, n, by omega, h2⟩
    · rintro ⟨h1, c, h2, h3⟩
      by_cases hc : c = n
      · subst hc; exact Or.inr ⟨h1, h3⟩
      · exact Or.inl ⟨h1, c, by omega, h3⟩
theorem alwaysN_bit (A : aS) (l i : Nat) : ∀ n, (alwaysN A l n).testBit i = true ↔ i < A.1 0 ∧ ∀ c, c < n → mtB A l i c = true
  | 0 => by
    show (2 ^ A.1 0 - 1).testBit i = true ↔ _
    rw [Nat.testBit_two_pow_sub_one, decide_eq_true_eq]
    exact ⟨fun h => ⟨h, fun c hc => absurd hc (Nat.not_lt_zero c)⟩, fun h => h.1⟩
  | n + 1 => by
    show (alwaysN A l n &&& hereN A l n).testBit i = true ↔ _
    rw [Nat.testBit_and, Bool.and_eq_true, alwaysN_bit A l i n, hereN, bitsN_bit, Bool.and_eq_true, decide_eq_true_eq]
    constructor
    · rintro ⟨⟨h1, h2⟩, -, h3⟩
      refine ⟨h1, fun c hc => ?_⟩
      rcases Nat.lt_succ_iff_lt_or_eq.mp hc with q | q
      · exact h2 c q
      · subst q; exact h3
    · rintro ⟨h1, h2⟩
      exact ⟨⟨h1, fun c hc => h2 c (by omega)⟩, h1, h2 n (by omega)⟩
theorem everN_eq (A : aS) (l : Nat) : everN A l (2 ^ A.1 0) = bitsN (mattersB A l 0) (A.1 0) := by
  apply Nat.eq_of_testBit_eq
  intro i
  rw [bitsN_bit, Bool.eq_iff_iff, everN_bit, Bool.and_eq_true, decide_eq_true_eq, mattersB, if_pos rfl, decide_eq_true_eq, cntB_pos]
theorem alwaysN_eq (A : aS) (l : Nat) {what : Int32} (hw : ¬ what = 0) : alwaysN A l (2 ^ A.1 0) = bitsN (mattersB A l what) (A.1 0) := by
  apply Nat.eq_of_testBit_eq
  intro i
  rw [bitsN_bit, Bool.eq_iff_iff, alwaysN_bit, Bool.and_eq_true, decide_eq_true_eq, mattersB, if_neg hw, decide_eq_true_eq, cntB_all]
theorem s11_factsThatMatter {P : jP} {M : jM} {A : aS} (h : RelC P M A) {l c : Nat} (hl : l < A.1 2) (hc : c < 2 ^ A.1 0) {Q : Int32 → Prop} (hq : Q (nI (hereN A l c))) : w_X11_factsThatMatter P (64 + 8 * l) (nI c) M Q := by
  have hC := h.C512
  have h9 := h.n9
  unfold w_X11_factsThatMatter
  rw [h.facts, nI_clamp (show c < 2 ^ 31 by omega), h.said hl hc]
  intro R hR
  refine lp_up (R := fun f => R (nI (bitsN (fun f => mtB A l f c) f)) (nI f)) (A.1 0) ?_ ?_ 0 (Nat.zero_le _)
  · exact hR _ _ (br_t (nI_le (Nat.le_refl _) (by omega)) hq)
  · intro f hf ih
    have hx := xor_bit_lt hc hf
    rw [bitsN_or] at ih
    refine hR _ _ (br_f (nI_ge hf (by omega)) ⟨h.lw hl, jin_of (h.ia hl).2.2.1 hc (by omega), h.lw hl, ?_⟩)
    rw [shl1 (by omega), nI_xor]
    refine ⟨jin_of (h.ia hl).2.2.1 hx (by omega), ?_⟩
    rw [nI_clamp (show c ^^^ 2 ^ f < 2 ^ 31 by omega), h.said hl hx]
    intro R44 h44
    refine br_c (fun e => h44 _ ?_) (fun e => h44 _ ?_)
    · rw [if_neg (by simp [e]), Nat.or_zero] at ih
      rw [nI_1]; exact ih
    · rw [if_pos (by simpa using e)] at ih
      rw [nI_or, nI_1]; exact ih
theorem s11_matters {P : jP} {M : jM} {A : aS} (h : RelC P M A) {a what : Int32} {Q : Int32 → Prop} (hq : Q (mattersS A a what)) : w_X11_matters P a what M Q := by
  have hC := h.C512
  unfold w_X11_matters
  refine s11_lawAt h (fun hn => br_t rfl ?_) (fun l hl el => br_f (by omega) (br_c (fun hw => ?_) (fun hw => br_c (fun hw1 => ?_) (fun hw1 => ?_))))
  · rw [mattersS, if_neg (fun z => hn z.1)] at hq; exact hq
  · rw [mattersS, if_neg (fun z => z.2.1 hw)] at hq; exact hq
  · subst el
    have ol := okL_mk (M := M) h.1 hl
    rw [mattersS, if_pos ⟨ol.1, hw, Int32.not_lt.mpr hw1⟩, nI_clamp (by omega)] at hq
    rw [h.cases, h.full]
    intro R hR
    refine lp_up (R := fun c => R (nI (everN A l c)) (nI (alwaysN A l c)) (nI c)) (2 ^ A.1 0) ?_ ?_ 0 (Nat.zero_le _)
    · refine hR _ _ _ (br_t (nI_le (Nat.le_refl _) (by omega)) (bn_c (fun hz => ?_) (fun hz => ?_)))
      · rw [alwaysN_eq A l hz]; exact hq
      · rw [everN_eq, ← hz]; exact hq
    · intro c hc ih
      refine hR _ _ _ (br_f (nI_ge hc (by omega)) (s11_factsThatMatter h hl hc ?_))
      rw [nI_or, nI_and, nI_1]
      exact ih
  · rw [mattersS, if_neg (fun z => z.2.2 (Int32.not_le.mp hw1))] at hq; exact hq
