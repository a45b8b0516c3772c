/-! gap (clashes), matters: both sides -/
def clBits (o : Nat → Nat) (h : Nat) : Nat → Nat
  | 0 => 0
  | k + 1 => clBits o h k ||| (if h.testBit k = true then 2 ^ o k else 0)
theorem clBits_bit (o : Nat → Nat) (h j : Nat) : ∀ n, (clBits o h n).testBit j = true ↔ ∃ k, k < n ∧ h.testBit k = true ∧ o k = j
  | 0 => by
    constructor
    · intro z; simp [clBits] at z
    · rintro ⟨k, hk, -⟩; omega
  | n + 1 => by
    show (clBits o h n ||| _).testBit j = true ↔ _
    rw [Nat.testBit_or, Bool.or_eq_true, clBits_bit o h j n]
    constructor
    · rintro (⟨k, h1, h2, h3⟩ | z)
      · exact ⟨k, by omega, h2, h3⟩
      · by_cases hb : h.testBit n = true
        · rw [if_pos hb, Nat.testBit_two_pow] at z
          exact ⟨n, by omega, hb, by simpa using z⟩
        · rw [if_neg hb] at z
          simp at z
    · rintro ⟨k, h1, h2, h3⟩
      by_cases hk : k = n
      · subst hk
        right
        rw [if_pos h2, Nat.testBit_two_pow]
        simpa using h3
      · exact Or.inl ⟨k, by omega, h2, h3⟩
theorem clBits_lt (o : Nat → Nat) (h : Nat) : ∀ n, (∀ k, k < n → o k ≤ 5) → clBits o h n < 64
  | 0, _ => by show 0 < 64; omega
  | n + 1, ho => by
    show clBits o h n ||| _ < 2 ^ 6
    refine Nat.or_lt_two_pow (clBits_lt o h n (fun k hk => ho k (by omega))) ?_
    split
    · exact Nat.pow_lt_pow_right (by omega) (by have := ho n (by omega); omega)
    · omega
theorem pop1 : ∀ x, x < 64 → ∀ e, e < 6 → x.testBit e = true → (popc x ≤ 1 ↔ ∀ j, j < 6 → x.testBit j = true → j = e) := by decide +kernel
/-- two clauses of unlike outcomes hold -/
def clashB (A : aS) (l c : Nat) : Bool := (List.range (A.2 10 l).toNatClampNeg).any (fun k => (A.2 9 (512 * l + c)).toNatClampNeg.testBit k && !(A.2 11 (12 * l + k) == A.2 8 (512 * l + c)))
theorem clashB_iff {A : aS} {l c : Nat} : clashB A l c = true ↔ ∃ k, k < (A.2 10 l).toNatClampNeg ∧ (A.2 9 (512 * l + c)).toNatClampNeg.testBit k = true ∧ A.2 11 (12 * l + k) ≠ A.2 8 (512 * l + c) := by
  unfold clashB
  rw [List.any_eq_true]
  constructor
  · rintro ⟨k, h1, h2⟩
    simp only [Bool.and_eq_true, Bool.not_eq_true', beq_eq_false_iff_ne] at h2
    exact ⟨k, List.mem_range.mp h1, h2.1, h2.2⟩
  · rintro ⟨k, h1, h2, h3⟩
    refine ⟨k, List.mem_range.mpr h1, ?_⟩
    simp only [Bool.and_eq_true, Bool.not_eq_true', beq_eq_false_iff_ne]
    exact ⟨h2, h3⟩
theorem lowb_bit : ∀ m, m < 4096 → (m ≠ 0 → m.testBit (lowb m) = true) := all4096 (by decide +kernel)
theorem s12_clashes {P : jP} {M : jM} {A : aS} (h : RelM M A) {l c : Nat} (hl : l < A.1 2) (hc : c < 2 ^ A.1 0) {Q : Int32 → Prop} (hq : Q (bi (clashB A l c = true))) : w_X12_clashes P (nI l) (nI c) M Q := by
  have h6 := h.num
  unfold wfNum at h6
  have hC := h.C512
  obtain ⟨cl, c1, c2, c3, c4, c5⟩ := law_ok h.1.2.2.1 hl
  obtain ⟨b, b1, b2, b3, b4⟩ := c5 c hc
  obtain ⟨o, ho⟩ : ∃ o : Nat → Nat, ∀ k, k < cl → o k ≤ 5 ∧ A.2 11 (12 * l + k) = nI (o k) := ⟨fun k => (A.2 11 (12 * l + k)).toNatClampNeg, fun k hk => by
    obtain ⟨x, hx, ex⟩ := c4 k hk
    dsimp only
    rw [ex, nI_clamp (by omega)]
    exact ⟨hx, rfl⟩⟩
  have hlt := clBits_lt o b cl (fun k hk => (ho k hk).1)
  have hfin : bi (clashB A l c = true) = if nI (popc (clBits o b cl)) ≤ 1 then 0 else 1 := by
    have e : (clashB A l c = true) ↔ ¬ popc (clBits o b cl) ≤ 1 := by
      rw [clashB_iff, c3, b3, b4, nI_clamp (by omega), nI_clamp (by omega)]
      by_cases hb0 : b = 0
      · subst hb0
        constructor
        · rintro ⟨k, -, h2, -⟩; simp at h2
        · intro z
          exfalso
          apply z
          have : clBits o 0 cl = 0 := by
            apply Nat.eq_of_testBit_eq
            intro j
            have := clBits_bit o 0 j cl
            rw [Nat.zero_testBit]
            rw [Bool.eq_false_iff]
            intro q
            obtain ⟨k, -, h2, -⟩ := this.mp q
            simp at h2
          rw [this]
          decide
      · have l1 := lowb_lt cl c2 b b1 hb0
        have l2 := lowb_bit b b2 hb0
        have hs : outOf A l b = nI (o (lowb b)) := by rw [outOf, if_neg hb0, (ho _ l1).2]
        rw [hs, pop1 _ hlt (o (lowb b)) (by have := (ho _ l1).1; omega) ((clBits_bit o b _ cl).mpr ⟨_, l1, l2, rfl⟩)]
        constructor
        · rintro ⟨k, k1, k2, k3⟩ z
          apply k3
          rw [(ho k k1).2, z (o k) (by have := (ho k k1).1; omega) ((clBits_bit o b _ cl).mpr ⟨k, k1, k2, rfl⟩)]
        · intro z
          refine Classical.byContradiction fun q => z (fun j hj hb => ?_)
          obtain ⟨k, k1, k2, k3⟩ := (clBits_bit o b j cl).mp hb
          refine Classical.byContradiction fun q2 => q ⟨k, k1, k2, fun e => q2 ?_⟩
          rw [(ho k k1).2] at e
          rw [← k3]
          exact (nI_eq (by have := (ho k k1).1; omega) (by have := (ho _ l1).1; omega)).mp e
    have hp : popc (clBits o b cl) ≤ 12 := cntB_le _ 12
    have e2 : nI (popc (clBits o b cl)) ≤ 1 ↔ popc (clBits o b cl) ≤ 1 := nI_leI (b := 1) (by omega) (by omega)
    by_cases z : popc (clBits o b cl) ≤ 1
    · rw [bi_f (fun q => e.mp q z), if_pos (e2.mpr z)]
    · rw [bi_t (e.mpr z), if_neg (fun q => z (e2.mp q))]
  rw [hfin] at hq
  unfold w_X12_clashes
  intro R hR
  have hrow : M 10 (nI l).toNatClampNeg = nI cl := by rw [nI_clamp (by omega), h.row (by omega), c3]
  refine lp_up (R := fun k => R (nI (clBits o b k)) (nI k)) cl ?_ ?_ 0 (Nat.zero_le _)
  · refine hR _ _ ⟨vin (by omega) (by omega), ?_⟩
    rw [hrow]
    refine br_t (nI_le (Nat.le_refl _) (by omega)) (s_bc ?_)
    rw [bc_small _ (by omega)]
    refine br_c (fun z => ?_) (fun z => ?_)
    · rw [if_pos z] at hq; exact hq
    · rw [if_neg z] at hq; exact hq
  · intro k hk ih
    refine hR _ _ ⟨vin (by omega) (by omega), ?_⟩
    rw [hrow]
    refine br_f (nI_ge hk (by omega)) ⟨(ix512 (by omega) (by omega)).1, ?_⟩
    rw [(ix512 (by omega) (by omega)).2, h.row (by omega), b3]
    refine s12_has (by omega) (by omega) ?_
    intro R55 h55
    have step : clBits o b (k + 1) = clBits o b k ||| (if b.testBit k = true then 2 ^ o k else 0) := rfl
    refine br_i (fun z => h55 _ ?_) (fun z => ?_)
    · rw [step, if_neg z] at ih
      rw [show (0 : Int32) = nI 0 from rfl, nI_or, nI_1]
      exact ih
    · rw [step, if_pos z] at ih
      have ix := ix12 (l := l) (k := k) (N := 72) (by omega) (by omega)
      refine ⟨ix.1, h55 _ ?_⟩
      rw [ix.2, h.row (by omega), (ho k hk).2, shl1 (by have := (ho k hk).1; omega), nI_or, nI_1]
      exact ih
theorem s11_clashes {P : jP} {M : jM} {A : aS} (h : RelC P M A) {l c : Nat} (hl : l < A.1 2) (hc : c < 2 ^ A.1 0) {Q : Int32 → Prop} (hq : Q (bi (clashB A l c = true))) : w_X4_clashes P (64 + 8 * l) (nI c) M Q := by
  have hC := h.C512
  obtain ⟨cl, c1, c2, c3, c4, c5⟩ := law_ok h.1.2.2.1 hl
  obtain ⟨b, b1, b2, b3, b4⟩ := c5 c hc
  unfold w_X4_clashes
  rw [h.many hl, c3, nI_clamp (show c < 2 ^ 31 by omega), h.held hl hc, h.said hl hc, b3]
  intro R hR
  have hcb := @clashB_iff A l c
  rw [c3, b3, nI_clamp (by omega), nI_clamp (by omega)] at hcb
  refine lp_up (R := fun k => (∀ i, i < k → ¬ (b.testBit i = true ∧ A.2 11 (12 * l + i) ≠ A.2 8 (512 * l + c))) → R (nI k)) cl ?_ ?_ 0 (Nat.zero_le _) (fun i hi => absurd hi (Nat.not_lt_zero i))
  · intro hall
    rw [bi_f (fun z => by obtain ⟨k, k1, k2⟩ := hcb.mp z; exact hall k k1 k2)] at hq
    exact hR _ ⟨h.lw hl, br_t (nI_le (Nat.le_refl _) (by omega)) hq⟩
  · intro k hk ih hall
    refine hR _ ⟨h.lw hl, br_f (nI_ge hk (by omega)) ⟨h.lw hl, jin_of (h.ia hl).2.1 hc (by omega), ?_⟩⟩
    intro R40 h40
    rw [bit1_0 (by omega) (by omega)]
    have next : ¬ (b.testBit k = true ∧ A.2 11 (12 * l + k) ≠ A.2 8 (512 * l + c)) → R (nI k + 1) := fun z => by
      rw [nI_1]
      refine ih (fun i hi => ?_)
      rcases Nat.lt_succ_iff_lt_or_eq.mp hi with q | q
      · exact hall i q
      · subst q; exact z
    refine ⟨fun z => h40 (next (fun q => z q.1)), fun z => ⟨h.lw hl, jin_of (h.ia hl).1 (by omega) (by omega), h.lw hl, jin_of (h.ia hl).2.2.1 hc (by omega), ?_⟩⟩
    rw [nI_clamp (show k < 2 ^ 31 by omega), h.out hl (by rw [c3, nI_clamp (by omega)]; exact hk)]
    refine br_c (fun e => h40 (next (fun q => q.2 e))) (fun e => ?_)
    rw [bi_t (hcb.mpr ⟨k, hk, Classical.byContradiction fun q => z q, e⟩)] at hq
    exact hq
/-! gap -/
def gapB (A : aS) (l : Nat) (what : Int32) : Nat → Bool := fun c => if what = 0 then clashB A l c else sdA A l c == -1
def gapS (A : aS) (a what i : Int32) : Int32 := if okL A a ∧ (¬ what < 0 ∧ ¬ 1 < what) then hitsF (gapB A a.toNatClampNeg what) (2 ^ A.1 0) i else -1
theorem s12_gap {P : jP} {M : jM} {A : aS} (h : RelM M A) {a what i : Int32} {Q : Int32 → jM → Prop} (hq : ∀ M', RelM M' A → Q (gapS A a what i) M') : w_X12_gap P a what i M Q := by
  unfold w_X12_gap
  have h0 := h.thr 0
  generalize upM M 1 0 0 = M0 at h0 ⊢
  have hq := hq M0 h0
  refine s12_isLaw h0 (br_i (fun hn => ?_) (fun hl => s12_isIn (br_j (fun hm => ?_) (fun hn => ?_))))
  · rw [gapS, if_neg (fun z => hn z.1)] at hq; exact hq
  · rw [gapS, if_pos ⟨hl, hm⟩] at hq
    obtain ⟨l, hl1, hl2, rfl⟩ := okL_of h0 hl
    rw [nI_clamp (by omega)] at hq
    have hC := h0.C512
    rw [h0.cases]
    intro R hR
    refine hits12 (Q := fun r => Q r M0) (i := i) hC hq (fun x hx => hR _ _ (br_t (nI_le (Nat.le_refl _) (by omega)) hx)) (fun c x hc hp hx => hR _ _ (br_f (nI_ge hc (by omega)) ?_)) (fun c x hc hp hx => hR _ _ (br_f (nI_ge hc (by omega)) ?_))
    · intro R82 h82 R70 h70
      have nx : R82 x := h82 _ (by rw [nI_1]; exact hx)
      unfold gapB at hp
      refine bn_c (fun hw => s12_saidOn h0 hl2 (by omega) ?_) (fun hw => s12_clashes h0 hl1 hc (br_i (fun _ => nx) (fun z => ?_)))
      · rw [if_neg hw] at hp
        exact br_f (by simpa using hp) nx
      · rw [if_pos hw] at hp
        exact absurd z hp
    · intro R82 h82 R70 h70
      have nx : R70 := h70 (bn_c (fun z => h82 _ (by rw [nI_1]; exact hx.1 z)) (fun z => hx.2 z))
      unfold gapB at hp
      refine bn_c (fun hw => s12_saidOn h0 hl2 (by omega) ?_) (fun hw => s12_clashes h0 hl1 hc (br_i (fun z => ?_) (fun z => nx)))
      · rw [if_neg hw] at hp
        exact br_t (by simpa using hp) nx
      · rw [if_pos hw] at hp
        exact absurd hp z
  · rw [gapS, if_neg (fun z => hn z.2)] at hq; exact hq
theorem s11_gap {P : jP} {M : jM} {A : aS} (h : RelC P M A) {a what i : Int32} {Q : Int32 → jM → Prop} (hq : ∀ M', (∀ k, k ≠ 13 → M' k = M k) → Q (gapS A a what i) M') : w_X11_gap P a what i M Q := by
  have hC := h.C512
  unfold w_X11_gap
  refine s11_lawAt h (fun hn => br_t rfl ?_) (fun l hl el => br_f (by omega) (br_c (fun hw => ?_) (fun hw => br_c (fun hw1 => ?_) (fun hw1 => ?_))))
  · have hq := hq M (fun _ _ => rfl)
    rw [gapS, if_neg (fun z => hn z.1)] at hq; exact hq
  · have hq := hq M (fun _ _ => rfl)
    rw [gapS, if_neg (fun z => z.2.1 hw)] at hq; exact hq
  · subst el
    have ol := okL_mk (M := M) h.1 hl
    have e : gapS A (nI l) what i = hitsF (gapB A l what) (2 ^ A.1 0) i := by
      rw [gapS, if_pos ⟨ol.1, hw, Int32.not_lt.mpr hw1⟩, nI_clamp (by omega)]
    rw [e] at hq
    intro R hR
    refine hits11 h.z1 hC hq (fun x M' hM hx => hR _ _ _ ?_) (fun c x M' hc hM hp hx => hR _ _ _ ?_) (fun c x M' hc hxc hM hp hx => hR _ _ _ ?_)
    · rw [(h.k13 hM).cases]
      exact br_t (nI_le (Nat.le_refl _) (by omega)) hx
    · rw [(h.k13 hM).cases]
      refine br_f (nI_ge hc (by omega)) ?_
      intro R82 h82 R70 h70
      have nx : R82 x M' := h82 _ _ (by rw [nI_1]; exact hx)
      unfold gapB at hp
      refine bn_c (fun hz => ⟨h.lw hl, jin_of (h.ia hl).2.2.1 hc (by omega), ?_⟩) (fun hz => ⟨h.lw hl, s11_clashes (h.k13 hM) hl hc (br_i (fun _ => nx) (fun z => ?_))⟩)
      · rw [if_neg hz] at hp
        rw [nI_clamp (by omega), (h.k13 hM).said hl hc]
        exact ⟨fun _ => nx, fun z => absurd z (by simpa using hp)⟩
      · rw [if_pos hz] at hp
        exact absurd z hp
    · rw [(h.k13 hM).cases]
      refine br_f (nI_ge hc (by omega)) ?_
      intro R82 h82 R70 h70
      have nx : R70 := h70 ⟨by rw [h.z1]; exact vin (by omega) (by omega), h82 _ _ (by rw [nI_1 c, nI_clamp (by omega)]; exact hx)⟩
      unfold gapB at hp
      refine bn_c (fun hz => ⟨h.lw hl, jin_of (h.ia hl).2.2.1 hc (by omega), ?_⟩) (fun hz => ⟨h.lw hl, s11_clashes (h.k13 hM) hl hc (br_i (fun z => ?_) (fun z => nx))⟩)
      · rw [if_neg hz] at hp
        rw [nI_clamp (by omega), (h.k13 hM).said hl hc]
        exact ⟨fun z => absurd (by simpa using hp) z, fun _ => nx⟩
      · rw [if_pos hz] at hp
        exact absurd hp z
  · have hq := hq M (fun _ _ => rfl)
    rw [gapS, if_neg (fun z => z.2.2 (Int32.not_le.mp hw1))] at hq; exact hq
