/-! likely: both sides -/
theorem full_bit {n f : Nat} (hf : f < n) : (2 ^ n - 1).testBit f = true := by
  rw [Nat.testBit_two_pow_sub_one]
  exact decide_eq_true hf
theorem s12_shareOfSort {P : jP} {M : jM} {A : aS} (h : RelM M A) {s so : Nat} (hs5 : s < A.1 5) (hs : so < 512) {Q : Int64 → Prop} (hq : Q (shF A s (2 ^ A.1 0 - 1) so (A.1 0))) : w_X12_shareOfSort P (nI s) (nI so) M Q := by
  have h6 := h.num
  unfold wfNum at h6
  unfold w_X12_shareOfSort
  rw [h.facts, nI_clamp (show s < 2 ^ 31 by omega), h.row (by omega)]
  refine ⟨vin (by omega) (by omega), ?_⟩
  intro R hR
  refine lp_up (R := fun f => R (shF A s (2 ^ A.1 0 - 1) so f) (nI f)) (A.1 0) (hR _ _ (br_t (nI_le (Nat.le_refl _) (by omega)) hq)) ?_ 0 (Nat.zero_le _)
  intro f hf ih2
  refine hR _ _ (br_f (nI_ge hf (by omega)) (s12_has (by omega) (by omega) ?_))
  intro R62 h62
  have ix := ix9 (l := s) (k := f) (N := 36) (by omega) (by omega)
  have step : shF A s (2 ^ A.1 0 - 1) so (f + 1) = shF A s (2 ^ A.1 0 - 1) so f * facL A s (2 ^ A.1 0 - 1) so f := rfl
  rw [step, facL, if_pos (full_bit hf)] at ih2
  refine br_i (fun z => ⟨ix.1, h62 _ ?_⟩) (fun z => ⟨ix.1, h62 _ ?_⟩)
  · rw [if_neg z] at ih2
    rw [ix.2, h.row (by omega), nI_1]; exact ih2
  · rw [if_pos z] at ih2
    rw [ix.2, h.row (by omega), nI_1]; exact ih2
def lkF (A : aS) (l : Nat) (o w : Int32) : Nat → Int64
  | 0 => 0
  | c + 1 => if sdA A l c = o then lkF A l o w c + (if w = -1 then shA A (2 ^ A.1 0 - 1) c (A.1 5) else shF A w.toNatClampNeg (2 ^ A.1 0 - 1) c (A.1 0)) else lkF A l o w c
abbrev okO (o : Int32) : Prop := ¬ o < -1 ∧ ¬ 5 < o
abbrev okW (A : aS) (w : Int32) : Prop := ¬ w < -1 ∧ w < nI (A.1 5)
def likelyS (A : aS) (a o w : Int32) : Int64 := if okL A a ∧ okO o ∧ okW A w then lkF A a.toNatClampNeg o w (2 ^ A.1 0) else -1
theorem neg_m1 {w : Int32} (h : ¬ w < -1) (h2 : w < 0) : w = -1 := by
  have e : ¬ w.toInt < -1 := fun z => h (Int32.lt_iff_toInt_lt.mpr (by rw [show (-1 : Int32).toInt = -1 from rfl]; exact z))
  have e2 : w.toInt < 0 := Int32.lt_iff_toInt_lt.mp h2
  rw [← Int32.toInt_inj, show (-1 : Int32).toInt = -1 from rfl]
  omega
theorem okW_of {A : aS} (h : wfA A) {w : Int32} (hw : okW A w) : w = -1 ∨ ∃ s, s < A.1 5 ∧ w = nI s := by
  have h6 := h.1
  unfold wfNum at h6
  by_cases h0 : w < 0
  · exact Or.inl (neg_m1 hw.1 h0)
  · obtain ⟨j, hj, e⟩ := (ok3 (by omega)).mp ⟨h0, Int32.not_le.mpr hw.2⟩
    exact Or.inr ⟨j, hj, e⟩
theorem s12_isOutcome {P : jP} {o : Int32} {Q : Int32 → Prop} (hq : Q (bi (okO o))) : w_X12_isOutcome P o Q := by
  unfold w_X12_isOutcome
  exact s12_isIn ⟨bi_jb, hq⟩
theorem s11_isOutcome {P : jP} {o : Int32} {Q : Int32 → Prop} (hq : Q (bi (okO o))) : w_X11_isOutcome P o Q := chk2 hq
theorem okW_in {A : aS} (h : wfA A) {w : Int32} (hw : w ≠ -1) : okW A w ↔ (¬ w < 0 ∧ ¬ nI (A.1 5) - 1 < w) := by
  have h6 := h.1
  unfold wfNum at h6
  constructor
  · intro z
    rcases okW_of h z with e | ⟨s, hs, rfl⟩
    · exact absurd e hw
    · refine ⟨nI_pos (by omega), fun y => ?_⟩
      have := (nI_sub_lt (a := A.1 5) (b := 1) (k := s) (by omega) (by omega) (by omega)).mp y
      omega
  · rintro ⟨z1, z2⟩
    refine ⟨fun y => z1 (Int32.lt_iff_toInt_lt.mpr ?_), ?_⟩
    · have := Int32.lt_iff_toInt_lt.mp y
      rw [show (-1 : Int32).toInt = -1 from rfl] at this
      rw [show (0 : Int32).toInt = 0 from rfl]
      omega
    · rcases arg3 w (n := A.1 5) (by omega) with y | ⟨-, y⟩ | ⟨j, j1, rfl, -, y⟩
      · exact absurd y z1
      · exfalso
        apply z2
        have e := Int32.le_iff_toInt_le.mp y
        rw [nI_toInt (by omega)] at e
        rw [Int32.lt_iff_toInt_lt, show (1 : Int32) = nI 1 from rfl, pk_sub_toInt (by omega) (by omega)]
        omega
      · exact Int32.not_le.mp y
theorem s12_likely {P : jP} {M : jM} {A : aS} (h : RelM M A) {a o w : Int32} {Q : Int64 → jM → Prop} (hq : ∀ M', RelM M' A → Q (likelyS A a o w) M') : w_X12_likely P a o w M Q := by
  unfold w_X12_likely
  have h0 := h.thr 0
  generalize upM M 1 0 0 = M0 at h0 ⊢
  have hq := hq M0 h0
  have h6 := h0.num
  unfold wfNum at h6
  refine s12_isLaw h0 (br_i (fun hn => ?_) (fun hl => s12_isOutcome (br_i (fun hn => ?_) (fun ho => ?_))))
  · rw [likelyS, if_neg (fun z => hn z.1)] at hq; exact hq
  · rw [likelyS, if_neg (fun z => hn z.2.1)] at hq; exact hq
  · intro R43 h43
    have hC := h0.C512
    have go : okW A w → R43 := by
      intro hw
      refine h43 ?_
      rw [likelyS, if_pos ⟨hl, ho, hw⟩] at hq
      obtain ⟨l, hl1, hl2, rfl⟩ := okL_of h0 hl
      rw [nI_clamp (show l < 2 ^ 31 by omega)] at hq
      have hp := Nat.two_pow_pos (A.1 0)
      rw [h0.cases]
      intro R hR
      refine lp_up (R := fun c => R (lkF A l o w c) (nI c)) (2 ^ A.1 0) (hR _ _ (br_t (nI_le (Nat.le_refl _) (by omega)) hq)) ?_ 0 (Nat.zero_le _)
      intro c hc ih
      refine hR _ _ (br_f (nI_ge hc (by omega)) (s12_saidOn h0 hl2 (by omega) ?_))
      intro R101 h101
      have step : lkF A l o w (c + 1) = if sdA A l c = o then lkF A l o w c + (if w = -1 then shA A (2 ^ A.1 0 - 1) c (A.1 5) else shF A w.toNatClampNeg (2 ^ A.1 0 - 1) c (A.1 0)) else lkF A l o w c := rfl
      refine bn_c (fun z => h101 _ ?_) (fun z => ?_)
      · rw [step, if_neg z] at ih
        rw [nI_1]; exact ih
      · intro R98 h98
        rw [step, if_pos z] at ih
        have e1 : nI (2 ^ A.1 0) - 1 = nI (2 ^ A.1 0 - 1) := pk_sub (a := 2 ^ A.1 0) (b := 1) hp
        rw [e1]
        refine bn_c (fun y => ?_) (fun y => s12_shareOf h0 (by omega) (by omega) (h98 _ (h101 _ ?_)))
        · rcases okW_of h0.1 hw with e | ⟨s, hs, rfl⟩
          · exact absurd e y
          · rw [if_neg y, nI_clamp (by omega)] at ih
            exact s12_shareOfSort h0 hs (by omega) (h98 _ (h101 _ (by rw [nI_1]; exact ih)))
        · rw [if_pos y] at ih
          rw [nI_1]; exact ih
    refine br_c (fun z => go ⟨by rw [z]; decide, ?_⟩) (fun z => ?_)
    · rw [z]
      rw [Int32.lt_iff_toInt_lt, nI_toInt (by omega), show (-1 : Int32).toInt = -1 from rfl]
      omega
    · rw [h0.sorts]
      refine s12_isIn (br_j (fun y => go ((okW_in h0.1 z).mpr y)) (fun y => ?_))
      rw [likelyS, if_neg (fun q => y ((okW_in h0.1 z).mp q.2.2))] at hq; exact hq
theorem s11_likely {P : jP} {M : jM} {A : aS} (h : RelC P M A) {a o w : Int32} {Q : Int64 → Prop} (hq : Q (likelyS A a o w)) : w_X11_likely P a o w M Q := by
  have h6 := h.num
  unfold wfNum at h6
  have hC := h.C512
  have hp := Nat.two_pow_pos (A.1 0)
  unfold w_X11_likely
  rw [h.sortn]
  refine s11_lawAt h (fun hn => br_t rfl ?_) (fun l hl el => br_f (by omega) (s11_isOutcome (br_i (fun hn => ?_) (fun ho => br_c (fun hn => ?_) (fun h1 => br_c (fun h2 => ?_) (fun hn => ?_))))))
  · rw [likelyS, if_neg (fun z => hn z.1)] at hq; exact hq
  · rw [likelyS, if_neg (fun z => hn z.2.1)] at hq; exact hq
  · rw [likelyS, if_neg (fun z => z.2.2.1 hn)] at hq; exact hq
  · subst el
    have ol := okL_mk (M := M) h.1 hl
    rw [likelyS, if_pos ⟨ol.1, ho, h1, h2⟩, nI_clamp (show l < 2 ^ 31 by omega)] at hq
    rw [h.cases, h.full]
    intro R hR
    refine lp_up (R := fun c => R (lkF A l o w c) (nI c)) (2 ^ A.1 0) (hR _ _ (br_t (nI_le (Nat.le_refl _) (by omega)) hq)) ?_ 0 (Nat.zero_le _)
    intro c hc ih
    refine hR _ _ (br_f (nI_ge hc (by omega)) ⟨h.lw hl, jin_of (h.ia hl).2.2.1 hc (by omega), ?_⟩)
    intro R115 h115
    have step : lkF A l o w (c + 1) = if sdA A l c = o then lkF A l o w c + (if w = -1 then shA A (2 ^ A.1 0 - 1) c (A.1 5) else shF A w.toNatClampNeg (2 ^ A.1 0 - 1) c (A.1 0)) else lkF A l o w c := rfl
    rw [nI_clamp (show c < 2 ^ 31 by omega), h.said hl hc]
    refine bn_c (fun z => h115 _ ?_) (fun z => ?_)
    · rw [step, if_neg z] at ih
      rw [nI_1]; exact ih
    · intro R112 h112
      rw [step, if_pos z] at ih
      refine bn_c (fun y => ?_) (fun y => s11_shareOfAll h (by omega) (by omega) (h112 _ (h115 _ ?_)))
      · rcases okW_of h.1 ⟨h1, h2⟩ with e | ⟨s, hs, rfl⟩
        · exact absurd e y
        · rw [if_neg y, nI_clamp (by omega)] at ih
          exact s11_shareOfOne h hs (by omega) (by omega) (h112 _ (h115 _ (by rw [nI_1]; exact ih)))
      · rw [if_pos y] at ih
        rw [nI_1]; exact ih
  · rw [likelyS, if_neg (fun z => hn z.2.2.2)] at hq; exact hq
