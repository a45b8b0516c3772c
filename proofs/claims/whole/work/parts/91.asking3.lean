/-! asking out: the reference's calls -/
theorem sdOK_of {A : aS} (h : wfLaws A) {l : Nat} (hl : l < A.1 2) : sdOK A l := fun c hc => by
  obtain ⟨c1, c2, c3, c4, c5⟩ := law_at h hl
  obtain ⟨b1, b2, b3, b4⟩ := c5 c hc
  show ∃ v : Nat, v ≤ 6 ∧ A.2 8 (512 * l + c) + 1 = nI v
  rw [b4]
  unfold outOf
  by_cases h0 : hdA A l c = 0
  · rw [if_pos h0]; exact ⟨0, by omega, by decide⟩
  · rw [if_neg h0]
    obtain ⟨o, ho, eo⟩ := c4 _ (lowb_lt _ c2 _ b1 h0)
    rw [eo]
    exact ⟨o + 1, by omega, nI_1 o⟩
abbrev askOK (A : aS) (a b kn so : Int32) : Prop := okL A a ∧ (b = -1 ∨ okL A b) ∧ okK A kn so
def twoB (b : Int32) : Bool := !(b == -1)
theorem twoB_iff {b : Int32} : b = -1 ↔ twoB b = false := by
  unfold twoB
  by_cases h : b = -1
  · rw [h]; decide
  · rw [beq_eq_false_iff_ne.mpr h]
    exact ⟨fun z => absurd z h, fun z => absurd z (by decide)⟩
theorem T12.keep {M M' : jM} {N N' : jN} {A : aS} {l o : Nat} {two : Bool} {k s i : Nat} (h : T12 M N A l o two k s) (g : keepT M M' N N' A i) (hne : 512 * k + s ≠ i) : T12 M' N' A l o two k s := by
  obtain ⟨a, b, c, d⟩ := h
  obtain ⟨g1, g2, g3, g4⟩ := g.2 _ hne
  exact ⟨g1.trans a, fun t => g2.trans (b t), g4.trans c, g3.trans d⟩
theorem s12_canAsk {P : jP} {M : jM} {N : jN} {A : aS} (h : RelM M A) {a b kn so : Int32} {Q : Int32 → jM → jN → Prop} (hq1 : askOK A a b kn so → ∀ M' N', RelM M' A → (∀ k s, k < 2 ^ A.1 0 → s < 2 ^ A.1 0 → s &&& k = s → T12 M' N' A a.toNatClampNeg b.toNatClampNeg (twoB b) k s) → Q 1 M' N') (hq0 : ¬ askOK A a b kn so → Q 0 M N) : w_X12_canAsk P a b kn so M N Q := by
  have hC := h.C512
  have hp := Nat.two_pow_pos (A.1 0)
  unfold w_X12_canAsk
  refine s12_isLaw h (br_i (fun hn => hq0 (fun z => hn z.1)) (fun hl => ?_))
  intro R21 h21
  have main : (b = -1 ∨ okL A b) → R21 := fun hb => h21 (s12_isKnown h (br_j (fun hk => ?_) (fun hn => hq0 (fun z => hn z.2.2))))
  · refine br_c (fun z => main (Or.inl z)) (fun z => s12_isLaw h (br_i (fun hn => hq0 (fun y => y.2.1.elim z hn)) (fun hl2 => main (Or.inr hl2))))
  · have hq1 := hq1 ⟨hl, hb, hk⟩
    obtain ⟨l, hl1, hl2, rfl⟩ := okL_of h hl
    rw [nI_clamp (show l < 2 ^ 31 by omega)] at hq1
    have ho : twoB b = true → b.toNatClampNeg < A.1 2 ∧ b = nI b.toNatClampNeg := fun t => by
      obtain ⟨o, o1, o2, rfl⟩ := okL_of h (hb.resolve_left (fun e => by rw [twoB_iff.mp e] at t; exact absurd t (by decide)))
      rw [nI_clamp (show o < 2 ^ 31 by omega)]
      exact ⟨o1, rfl⟩
    intro R41 h41
    rw [h.cases, dI_sub hp]
    refine lp_dn (R := fun j => j ≤ 2 ^ A.1 0 → ∀ M' N', RelM M' A → (∀ k s, j ≤ k → k < 2 ^ A.1 0 → s < 2 ^ A.1 0 → s &&& k = s → T12 M' N' A l b.toNatClampNeg (twoB b) k s) → R41 (dI j) M' N') ?_ ?_ (2 ^ A.1 0) (Nat.le_refl _) M N h (fun k s k1 k2 => absurd k2 (by omega))
    · intro _ M' N' r ht
      exact h41 _ _ _ (br_t (by decide) (hq1 M' N' r (fun k s k1 s1 s2 => ht k s (Nat.zero_le _) k1 s1 s2)))
    · intro j ih hj M' N' r ht
      refine h41 _ _ _ ?_
      rw [show dI (j + 1) = nI j from rfl]
      refine br_f (nI_pos (by omega)) ?_
      intro R49 h49
      refine lp_up (R := fun i => ∀ M' N', RelM M' A → (∀ k s, j + 1 ≤ k → k < 2 ^ A.1 0 → s < 2 ^ A.1 0 → s &&& k = s → T12 M' N' A l b.toNatClampNeg (twoB b) k s) → (∀ s, s < i → s &&& j = s → T12 M' N' A l b.toNatClampNeg (twoB b) j s) → R49 (nI i) M' N') (j + 1) ?_ ?_ 0 (Nat.zero_le _) M' N' r ht (fun s hs => absurd hs (Nat.not_lt_zero s))
      · intro M2 N2 r2 t1 t2
        refine h49 _ _ _ (br_t ((nI_ltI (by omega) (by omega)).mpr (by omega)) ?_)
        rw [dI_of]
        refine ih (by omega) M2 N2 r2 (fun k s k1 k2 s1 s2 => ?_)
        by_cases e : k = j
        · subst e
          have : s ≤ k := by rw [← s2]; exact Nat.and_le_right
          exact t2 s (by omega) s2
        · exact t1 k s (by omega) k2 s1 s2
      · intro i hi ihi M2 N2 r2 t1 t2
        refine h49 _ _ _ (br_f (fun z => by have := (nI_ltI (by omega) (by omega)).mp z; omega) ?_)
        intro R76 h76
        rw [sub_iff (show i < 4096 by omega)]
        refine bn_c (fun z => h76 _ _ ?_) (fun z => s12_layState r2 hl1 twoB_iff ho (sdOK_of h.1.2.2.1 hl1) (fun t => sdOK_of h.1.2.2.1 (ho t).1) (show j < 2 ^ A.1 0 by omega) (show i < 2 ^ A.1 0 by omega) z (fun k s k1 k2 s1 s2 => t1 k s (by omega) k2 s1 s2) (fun M3 N3 k3 t3 => h76 _ _ ?_))
        · rw [nI_1]
          refine ihi M2 N2 r2 t1 (fun s s1 s2 => ?_)
          rcases Nat.lt_succ_iff_lt_or_eq.mp s1 with q | q
          · exact t2 s q s2
          · subst q; exact absurd s2 z
        · rw [nI_1]
          refine ihi M3 N3 k3.1 (fun k s k1 k2 s1 s2 => (t1 k s k1 k2 s1 s2).keep k3 (by omega)) (fun s s1 s2 => ?_)
          rcases Nat.lt_succ_iff_lt_or_eq.mp s1 with q | q
          · exact (t2 s q s2).keep k3 (by omega)
          · subst q; exact t3
def meanS (A : aS) (a b kn so : Int32) : Int64 := if askOK A a b kn so then (if meG A a.toNatClampNeg b.toNatClampNeg (twoB b) kn.toNatClampNeg so.toNatClampNeg < 1000000000000000 then lN (meG A a.toNatClampNeg b.toNatClampNeg (twoB b) kn.toNatClampNeg so.toNatClampNeg) else -1) else -1
def worstS (A : aS) (a b kn so : Int32) : Int32 := if askOK A a b kn so then (if woG A a.toNatClampNeg b.toNatClampNeg (twoB b) kn.toNatClampNeg so.toNatClampNeg < 1000000 then nI (woG A a.toNatClampNeg b.toNatClampNeg (twoB b) kn.toNatClampNeg so.toNatClampNeg) else -1) else -1
def besP (A : aS) (l o : Nat) (two : Bool) (kn so : Nat) (w : Int32) (f : Nat) : Bool := opP A kn f && (if w = 0 then mbyA A l o two kn so f == meG A l o two kn so else wbyA A l o two kn so f == woG A l o two kn so)
def bestV (A : aS) (l o : Nat) (two : Bool) (kn so : Nat) (w : Int32) : Int32 := if isO A l o two kn so = true ∨ ¬ meG A l o two kn so < 1000000000000000 then -1 else firstF (besP A l o two kn so w) (A.1 0)
def bestS (A : aS) (a b kn so w : Int32) : Int32 := if (¬ w < 0 ∧ ¬ 1 < w) ∧ askOK A a b kn so then bestV A a.toNatClampNeg b.toNatClampNeg (twoB b) kn.toNatClampNeg so.toNatClampNeg w else -1
theorem s12_mean {P : jP} {M : jM} {N : jN} {A : aS} (h : RelM M A) {a b kn so : Int32} {Q : Int64 → jM → jN → Prop} (hq : ∀ M' N', RelM M' A → Q (meanS A a b kn so) M' N') : w_X12_mean P a b kn so M N Q := by
  unfold w_X12_mean
  have h0 := h.thr 0
  generalize upM M 1 0 0 = M0 at h0 ⊢
  refine s12_canAsk h0 (fun ok M' N' r ht => ⟨fun _ => ?_, fun z => absurd z (by decide)⟩) (fun no => ⟨fun z => absurd rfl z, fun _ => ?_⟩)
  · have hq := hq M' N' r
    rw [meanS, if_pos ok] at hq
    obtain ⟨k, s, k1, s1, rfl, rfl, hsub, k2, s2⟩ := okK_of h0.1 ok.2.2
    rw [nI_clamp (show k < 2 ^ 31 by omega), nI_clamp (show s < 2 ^ 31 by omega)] at hq
    have hle := (meG_le h0.1 (l := a.toNatClampNeg) (o := b.toNatClampNeg) (two := twoB b) k1 hsub).1
    refine s12_state s2 ⟨vin (by omega) (by omega), ?_⟩
    rw [nI_clamp (show 512 * k + s < 2 ^ 31 by omega), (ht k s k1 s1 hsub).2.2.1, lg_cmp_lt, show (1000000000000000 : Int64) = lN 1000000000000000 from rfl, pk_lLT (by omega) (by omega)]
    refine br_c (fun z => ?_) (fun z => ?_)
    · rw [if_pos z] at hq; exact hq
    · rw [if_neg z] at hq; exact hq
  · have hq := hq M0 N h0
    rw [meanS, if_neg no] at hq
    exact hq
theorem s12_worst {P : jP} {M : jM} {N : jN} {A : aS} (h : RelM M A) {a b kn so : Int32} {Q : Int32 → jM → jN → Prop} (hq : ∀ M' N', RelM M' A → Q (worstS A a b kn so) M' N') : w_X12_worst P a b kn so M N Q := by
  unfold w_X12_worst
  have h0 := h.thr 0
  generalize upM M 1 0 0 = M0 at h0 ⊢
  refine s12_canAsk h0 (fun ok M' N' r ht => ⟨fun _ => ?_, fun z => absurd z (by decide)⟩) (fun no => ⟨fun z => absurd rfl z, fun _ => ?_⟩)
  · have hq := hq M' N' r
    rw [worstS, if_pos ok] at hq
    obtain ⟨k, s, k1, s1, rfl, rfl, hsub, k2, s2⟩ := okK_of h0.1 ok.2.2
    rw [nI_clamp (show k < 2 ^ 31 by omega), nI_clamp (show s < 2 ^ 31 by omega)] at hq
    have hle := (meG_le h0.1 (l := a.toNatClampNeg) (o := b.toNatClampNeg) (two := twoB b) k1 hsub).2.1
    refine s12_state s2 ⟨vin (by omega) (by omega), ?_⟩
    rw [nI_clamp (show 512 * k + s < 2 ^ 31 by omega), (ht k s k1 s1 hsub).2.2.2, show (1000000 : Int32) = nI 1000000 from rfl, nI_ltI (by omega) (by omega)]
    refine br_c (fun z => ?_) (fun z => ?_)
    · rw [if_pos z] at hq; exact hq
    · rw [if_neg z] at hq; exact hq
  · have hq := hq M0 N h0
    rw [worstS, if_neg no] at hq
    exact hq
theorem by_lt {A : aS} (h : wfA A) {l o : Nat} {two : Bool} {kn so f : Nat} (hk : kn < 2 ^ A.1 0) (hsub : so &&& kn = so) (hf : f < A.1 0) : mbyA A l o two kn so f < 2 ^ 62 ∧ wbyA A l o two kn so f < 2 ^ 30 := by
  have hf2 : 2 ^ f < 2 ^ A.1 0 := Nat.pow_lt_pow_right (by omega) hf
  have k1 : kn ||| 2 ^ f < 2 ^ A.1 0 := Nat.or_lt_two_pow hk hf2
  have sub := sub_or (f := f) hsub
  have b1 := meG_le h (l := l) (o := o) (two := two) k1 sub.1
  have b2 := meG_le h (l := l) (o := o) (two := two) k1 sub.2
  have hmi : miA A f ≤ 99 := by
    have := (mbF_le h (b := 2 ^ f) hf).1
    unfold mbF at this
    rw [Nat.testBit_two_pow, decide_eq_true rfl, if_pos rfl] at this
    exact this
  have hsh := (shR_le h (kn := kn) (so := so)).2
  have hm := Nat.mul_le_mul hsh hmi
  constructor
  · show mbyN (shR A kn so) (miA A f) (meG A l o two (kn ||| 2 ^ f) so) (meG A l o two (kn ||| 2 ^ f) (so ||| 2 ^ f)) < 2 ^ 62
    unfold mbyN
    split
    · omega
    · have := b1.1
      have := b2.1
      omega
  · show wbyN (miA A f) (woG A l o two (kn ||| 2 ^ f) so) (woG A l o two (kn ||| 2 ^ f) (so ||| 2 ^ f)) < 2 ^ 30
    unfold wbyN
    split <;> omega
theorem s12_best {P : jP} {M : jM} {N : jN} {A : aS} (h : RelM M A) {a b kn so w : Int32} {Q : Int32 → jM → jN → Prop} (hq : ∀ M' N', RelM M' A → Q (bestS A a b kn so w) M' N') : w_X12_best P a b kn so w M N Q := by
  unfold w_X12_best
  have h0 := h.thr 0
  generalize upM M 1 0 0 = M0 at h0 ⊢
  have h9 := h0.n9
  refine s12_isIn (br_i (fun hn => ?_) (fun hw => s12_canAsk h0 (fun ok M' N' r ht => ⟨fun _ => ?_, fun z => absurd z (by decide)⟩) (fun no => ⟨fun z => absurd rfl z, fun _ => ?_⟩)))
  · have hq := hq M0 N h0
    rw [bestS, if_neg (fun z => hn z.1)] at hq
    exact hq
  · have hq := hq M' N' r
    rw [bestS, if_pos ⟨hw, ok⟩] at hq
    obtain ⟨k, s, k1, s1, rfl, rfl, hsub, k2, s2⟩ := okK_of h0.1 ok.2.2
    rw [nI_clamp (show k < 2 ^ 31 by omega), nI_clamp (show s < 2 ^ 31 by omega)] at hq
    have hle := meG_le h0.1 (l := a.toNatClampNeg) (o := b.toNatClampNeg) (two := twoB b) k1 hsub
    have T := ht k s k1 s1 hsub
    refine s12_state s2 ?_
    intro R51 h51
    have main : ∀ x : Int32, (x = 0 ↔ twoB b = false) → R51 x := by
      intro x hx
      refine h51 x (s12_isOut hx (by omega) T.1 T.2.1 (fun t => ⟨fun _ => ?_, fun z => absurd z (by decide)⟩) (fun t => ⟨fun z => absurd rfl z, fun _ => ⟨vin (by omega) (by omega), ?_⟩⟩))
      · rw [bestV, if_pos (Or.inl t)] at hq; exact hq
      · rw [nI_clamp (show 512 * k + s < 2 ^ 31 by omega), T.2.2.1, T.2.2.2, lg_cmp_lt, show (1000000000000000 : Int64) = lN 1000000000000000 from rfl, pk_lLT (by omega) (by omega)]
        refine br_c (fun z => ?_) (fun z => ?_)
        · rw [bestV, if_neg (fun y => y.elim t (fun u => u z))] at hq
          intro R76 h76
          have step : ∀ f, f < A.1 0 → (besP A a.toNatClampNeg b.toNatClampNeg (twoB b) k s w f = true → Q (nI f) M' N') → (¬ besP A a.toNatClampNeg b.toNatClampNeg (twoB b) k s w f = true → R76 (nI (f + 1))) → R76 (nI f) := by
            intro f hf hy hno
            refine h76 _ ?_
            rw [r.facts]
            refine br_f (nI_ge hf (by omega)) (s12_has (by omega) (by omega) ?_)
            intro R157 h157
            have no : ¬ besP A a.toNatClampNeg b.toNatClampNeg (twoB b) k s w f = true → R157 := fun q => h157 (by rw [nI_1]; exact hno q)
            have e15 : M' 15 f = A.2 15 f := r.row (by omega) f
            refine br_j (fun hbit => no (fun q => (opP_iff.mp (Bool.and_eq_true _ _ ▸ q).1).1 hbit)) (fun hbit => ⟨vin (by omega) (by omega), ?_⟩)
            rw [nI_clamp (show f < 2 ^ 31 by omega), e15]
            refine br_c (fun hbar => ?_) (fun hbar => no (fun q => hbar (opP_iff.mp (Bool.and_eq_true _ _ ▸ q).1).2))
            have hop : opP A k f = true := opP_iff.mpr ⟨hbit, hbar⟩
            have hf2 : 2 ^ f < 2 ^ A.1 0 := Nat.pow_lt_pow_right (by omega) hf
            have kk1 : k ||| 2 ^ f < 2 ^ A.1 0 := Nat.or_lt_two_pow k1 hf2
            have kk2 : s ||| 2 ^ f < 2 ^ A.1 0 := Nat.or_lt_two_pow s1 hf2
            have sub := sub_or (f := f) hsub
            obtain ⟨-, -, n1, w1⟩ := ht _ s kk1 s1 sub.1
            obtain ⟨-, -, n2, w2⟩ := ht _ (s ||| 2 ^ f) kk1 kk2 sub.2
            have b1 := meG_le h0.1 (l := a.toNatClampNeg) (o := b.toNatClampNeg) (two := twoB b) kk1 sub.1
            have b2 := meG_le h0.1 (l := a.toNatClampNeg) (o := b.toNatClampNeg) (two := twoB b) kk1 sub.2
            have bl := by_lt h0.1 (l := a.toNatClampNeg) (o := b.toNatClampNeg) (two := twoB b) k1 hsub hf
            unfold besP at hy no
            rw [hop, Bool.true_and] at hy no
            refine bn_c (fun hw0 => s12_worstBy r k1 s1 hf b1.2.1 b2.2.1 w1 w2 ⟨vin (by omega) (by omega), ?_⟩) (fun hw0 => s12_meanBy r k1 s1 hf b1.1 b2.1 n1 n2 ⟨vin (by omega) (by omega), ?_⟩)
            · rw [if_neg hw0, beq_iff_eq] at hy no
              have bl2 : wbyN (miA A f) (woG A a.toNatClampNeg b.toNatClampNeg (twoB b) (k ||| 2 ^ f) s) (woG A a.toNatClampNeg b.toNatClampNeg (twoB b) (k ||| 2 ^ f) (s ||| 2 ^ f)) < 2 ^ 30 := bl.2
              rw [nI_eq (by omega) (by omega)]
              exact bn_c no hy
            · rw [if_pos hw0, beq_iff_eq] at hy no
              have bl1 : mbyN (shR A k s) (miA A f) (meG A a.toNatClampNeg b.toNatClampNeg (twoB b) (k ||| 2 ^ f) s) (meG A a.toNatClampNeg b.toNatClampNeg (twoB b) (k ||| 2 ^ f) (s ||| 2 ^ f)) < 2 ^ 62 := bl.1
              rw [lg_cmp_eq, pk_lEQ (by omega) (by omega)]
              exact bn_c no hy
          refine first_loop (Q := fun v => Q v M' N') hq (fun hm => h76 _ ?_) (fun f hf hp hy => step f hf (fun _ => hy) (fun q => absurd hp q)) (fun f hf hp hn => step f hf (fun q => absurd q hp) (fun _ => hn))
          rw [r.facts]
          exact br_t (nI_le (Nat.le_refl _) (by omega)) hm
        · rw [bestV, if_pos (Or.inr z)] at hq
          exact hq
    exact br_c (fun z => main 0 ⟨fun _ => twoB_iff.mp z, fun _ => rfl⟩) (fun z => main 1 ⟨fun y => absurd y (by decide), fun y => absurd (twoB_iff.mpr y) z⟩)
  · have hq := hq M0 N h0
    rw [bestS, if_neg (fun z => no z.2)] at hq
    exact hq
