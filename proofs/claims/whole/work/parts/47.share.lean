/-! count, share, likely: both sides -/
def countS (A : aS) (w : Int32) : Int32 := if w = 0 then nI (A.1 2) else if w = 1 then nI (A.1 3) else if w = 2 then nI (A.1 4) else if w = 3 then nI (A.1 5) else if w = 4 then nI (A.1 0) else if w = 5 then nI (A.1 1) else if w = 6 then nI (A.1 6) else -1
theorem s12_count {P : jP} {M : jM} {A : aS} (h : RelM M A) {w : Int32} {Q : Int32 → jM → Prop} (hq : ∀ M', RelM M' A → Q (countS A w) M') : w_X12_count P w M Q := by
  unfold w_X12_count
  have h0 := h.thr 0
  generalize upM M 1 0 0 = M0 at h0 ⊢
  have hq := hq M0 h0
  rw [h0.laws, h0.qs, h0.forms, h0.sorts, h0.facts, h0.len, h0.rules]
  refine ⟨?_, ?_, ?_, ?_, ?_, ?_, ?_, fun n0 n1 n2 n3 n4 n5 n6 => ?_⟩
  all_goals first | (rintro rfl; exact hq) | skip
  rw [countS, if_neg n0, if_neg n1, if_neg n2, if_neg n3, if_neg n4, if_neg n5, if_neg n6] at hq
  exact hq
theorem s11_count {P : jP} {M : jM} {A : aS} (h : RelC P M A) {w : Int32} {Q : Int32 → Prop} (hq : Q (countS A w)) : w_X11_count P w M Q := by
  unfold w_X11_count
  have e3 : M 7 1 = nI (A.1 5) := h.2.2.1 7 1 (Or.inr rfl)
  have e6 : M 10 0 = nI (A.1 6) := h.2.2.1 10 0 rfl
  rw [h.lawn, h.qn, h.formn, e3, h.facts, h.len, e6]
  refine ⟨?_, ?_, ?_, ?_, ?_, ?_, ?_, fun n0 n1 n2 n3 n4 n5 n6 => ?_⟩
  all_goals first | (rintro rfl; exact hq) | skip
  rw [countS, if_neg n0, if_neg n1, if_neg n2, if_neg n3, if_neg n4, if_neg n5, if_neg n6] at hq
  exact hq
/-! what is known -/
abbrev okK (A : aS) (kn so : Int32) : Prop := okC A kn ∧ so &&& (kn ^^^ (-1)) = 0
theorem okK_of {A : aS} (h : wfA A) {kn so : Int32} (hk : okK A kn so) : ∃ k s, k < 2 ^ A.1 0 ∧ s < 2 ^ A.1 0 ∧ kn = nI k ∧ so = nI s ∧ s &&& k = s ∧ k < 512 ∧ s < 512 := by
  have h6 := h.1
  unfold wfNum at h6
  have hC := two_le h6.1.2
  obtain ⟨k, k1, rfl⟩ := (ok3 (by omega)).mp hk.1
  obtain ⟨s, s1, rfl, s2⟩ := sub_of (by omega) k1 hk.2
  exact ⟨k, s, k1, s1, rfl, rfl, s2, by omega, by omega⟩
theorem s12_isKnown {P : jP} {M : jM} {A : aS} (h : RelM M A) {kn so : Int32} {Q : Int32 → Prop} (hq : Q (bi (okK A kn so))) : w_X12_isKnown P kn so M Q := by
  have hC := h.C512
  unfold w_X12_isKnown
  refine s12_isCase h (br_i (fun n => ?_) (fun y => s12_isCase h (br_i (fun n => ?_) (fun y2 => bn_c (fun n => ?_) (fun y3 => ?_)))))
  · rw [bi_f (fun z => n z.1)] at hq; exact hq
  · rw [bi_f (fun z => n ?_)] at hq
    · exact hq
    · obtain ⟨k, s, k1, s1, -, rfl, -⟩ := okK_of h.1 z
      exact (ok3 (by omega)).mpr ⟨s, s1, rfl⟩
  · rw [bi_f (fun z => n z.2)] at hq; exact hq
  · rw [bi_t ⟨y, y3⟩] at hq; exact hq
theorem s11_isKnown {P : jP} {M : jM} {A : aS} (h : RelC P M A) {kn so : Int32} {Q : Int32 → Prop} (hq : Q (bi (okK A kn so))) : w_X3_isKnown P kn so M Q := by
  unfold w_X3_isKnown
  refine s11_isCase h (br_i (fun n => ?_) (fun y => bn_c (fun n => ?_) (fun y3 => ?_)))
  · rw [bi_f (fun z => n z.1)] at hq; exact hq
  · rw [bi_f (fun z => n z.2)] at hq; exact hq
  · rw [bi_t ⟨y, y3⟩] at hq; exact hq
/-! share -/
def facL (A : aS) (s kn so f : Nat) : Int64 := if kn.testBit f = true then (if so.testBit f = true then (A.2 18 (9 * s + f)).toInt64 else (10 - A.2 18 (9 * s + f)).toInt64) else 10
def shF (A : aS) (s kn so : Nat) : Nat → Int64
  | 0 => (A.2 17 s).toInt64
  | f + 1 => shF A s kn so f * facL A s kn so f
def shA (A : aS) (kn so : Nat) : Nat → Int64
  | 0 => 0
  | s + 1 => shA A kn so s + shF A s kn so (A.1 0)
theorem s12_shareOf {P : jP} {M : jM} {A : aS} (h : RelM M A) {kn so : Nat} (hk : kn < 512) (hs : so < 512) {Q : Int64 → Prop} (hq : Q (shA A kn so (A.1 5))) : w_X12_shareOf P (nI kn) (nI so) M Q := by
  have h6 := h.num
  unfold wfNum at h6
  unfold w_X12_shareOf
  rw [h.sorts, h.facts]
  intro R hR
  refine lp_up (R := fun s => R (shA A kn so s) (nI s)) (A.1 5) (hR _ _ (br_t (nI_le (Nat.le_refl _) (by omega)) hq)) ?_ 0 (Nat.zero_le _)
  intro s hs5 ih
  refine hR _ _ (br_f (nI_ge hs5 (by omega)) ⟨vin (by omega) (by omega), ?_⟩)
  intro R27 h27
  rw [nI_clamp (show s < 2 ^ 31 by omega), h.row (by omega)]
  refine lp_up (R := fun f => R27 (shF A s kn so f) (nI f)) (A.1 0) (h27 _ _ (br_t (nI_le (Nat.le_refl _) (by omega)) (by rw [nI_1]; exact ih))) ?_ 0 (Nat.zero_le _)
  intro f hf ih2
  refine h27 _ _ (br_f (nI_ge hf (by omega)) (s12_has (by omega) (by omega) ?_))
  intro R96 h96
  have ix := ix9 (l := s) (k := f) (N := 36) (by omega) (by omega)
  have step : shF A s kn so (f + 1) = shF A s kn so f * facL A s kn so f := rfl
  refine br_j (fun z => s12_has (by omega) (by omega) (br_i (fun z2 => ⟨ix.1, h96 _ ?_⟩) (fun z2 => ⟨ix.1, h96 _ ?_⟩))) (fun z => h96 _ ?_)
  · rw [step, facL, if_pos z, if_neg z2] at ih2
    rw [ix.2, h.row (by omega), nI_1]; exact ih2
  · rw [step, facL, if_pos z, if_pos z2] at ih2
    rw [ix.2, h.row (by omega), nI_1]; exact ih2
  · rw [step, facL, if_neg z] at ih2
    rw [nI_1]; exact ih2
theorem RelC.chance {P : jP} {M : jM} {A : aS} (h : RelC P M A) {s f : Nat} (hs : s < A.1 5) (hf : f < A.1 0) : M (31 + s) f = A.2 18 (9 * s + f) := by
  have h6 := h.num
  unfold wfNum at h6
  match s, hs with
  | 0, hs => exact (h.2.2.1 31 f hf).trans ((if_pos hs).trans (congrArg (A.2 18) (by omega)))
  | 1, hs => exact (h.2.2.1 32 f hf).trans ((if_pos hs).trans (congrArg (A.2 18) (by omega)))
  | 2, hs => exact (h.2.2.1 33 f hf).trans ((if_pos hs).trans (congrArg (A.2 18) (by omega)))
  | 3, hs => exact (h.2.2.1 34 f hf).trans ((if_pos hs).trans (congrArg (A.2 18) (by omega)))
  | s + 4, hs => omega
theorem RelC.sortn {P : jP} {M : jM} {A : aS} (h : RelC P M A) : M 7 1 = nI (A.1 5) := h.2.2.1 7 1 (Or.inr rfl)
theorem RelC.facts7 {P : jP} {M : jM} {A : aS} (h : RelC P M A) : M 7 0 = nI (A.1 0) := h.2.2.1 7 0 (Or.inl rfl)
theorem chIA {P : jP} {s : Nat} (hs : s < 4) : cIA P (31 + s) = some (P.2.2 0) := by
  match s, hs with
  | 0, _ => rfl
  | 1, _ => rfl
  | 2, _ => rfl
  | 3, _ => rfl
theorem s11_shareOfOne {P : jP} {M : jM} {A : aS} (h : RelC P M A) {s kn so : Nat} (hs5 : s < A.1 5) (hk : kn < 512) (hs : so < 512) {Q : Int64 → Prop} (hq : Q (shF A s kn so (A.1 0))) : w_X5_shareOfOne P (nI s) (nI kn) (nI so) M Q := by
  have h6 := h.num
  unfold wfNum at h6
  unfold w_X5_shareOfOne
  have e29 : M 29 s = A.2 17 s := h.2.2.1 29 s hs5
  rw [h.facts7, nI_clamp (show s < 2 ^ 31 by omega), e29]
  refine ⟨vin (by omega) (by omega), ?_⟩
  intro R hR
  refine lp_up (R := fun f => R (shF A s kn so f) (nI f)) (A.1 0) (hR _ _ (br_t (nI_le (Nat.le_refl _) (by omega)) hq)) ?_ 0 (Nat.zero_le _)
  intro f hf ih2
  have hci : cIA P (31 + s) = some (A.1 0) := (chIA (by omega)).trans (congrArg some h.2.1.1)
  refine hR _ _ (br_f (nI_ge hf (by omega)) ⟨vin (by omega) (by omega), jin_of hci hf (by omega), ?_⟩)
  intro R46 h46
  rw [bit1_0 (m := kn) (j := f) (by omega) (by omega)]
  rw [bit1_0 (m := so) (j := f) (by omega) (by omega), nI_clamp (show f < 2 ^ 31 by omega), h.chance hs5 hf] at h46
  have step : shF A s kn so (f + 1) = shF A s kn so f * facL A s kn so f := rfl
  rw [step, facL] at ih2
  have go : ∀ x7 : Int32, (x7 = 0 ↔ ¬ kn.testBit f = true) → R46 x7 := by
    intro x7 hx
    refine h46 x7 ?_
    intro R62 h62
    have go2 : ∀ x8 : Int32, (x8 = 0 ↔ ¬ so.testBit f = true) → R62 x8 := by
      intro x8 hx8
      refine h62 x8 ?_
      intro R94 h94
      rw [hx, hx8]
      refine ⟨fun z => br_c (fun z2 => h94 _ ?_) (fun z2 => h94 _ ?_), fun z => h94 _ ?_⟩
      · rw [if_pos (Classical.byContradiction z), if_neg z2] at ih2
        rw [nI_1]; exact ih2
      · rw [if_pos (Classical.byContradiction z), if_pos (Classical.byContradiction z2)] at ih2
        rw [nI_1]; exact ih2
      · rw [if_neg z] at ih2
        rw [nI_1]; exact ih2
    exact br_c (fun z => go2 0 ⟨fun _ => z, fun _ => rfl⟩) (fun z => go2 1 ⟨fun q => absurd q (by decide), fun q => absurd q z⟩)
  exact br_c (fun z => go 0 ⟨fun _ => z, fun _ => rfl⟩) (fun z => go 1 ⟨fun q => absurd q (by decide), fun q => absurd q z⟩)
theorem s11_shareOfAll {P : jP} {M : jM} {A : aS} (h : RelC P M A) {kn so : Nat} (hk : kn < 512) (hs : so < 512) {Q : Int64 → Prop} (hq : Q (shA A kn so (A.1 5))) : w_X5_shareOfAll P (nI kn) (nI so) M Q := by
  have h6 := h.num
  unfold wfNum at h6
  unfold w_X5_shareOfAll
  rw [h.sortn]
  intro R hR
  refine lp_up (R := fun s => R (shA A kn so s) (nI s)) (A.1 5) (hR _ _ (br_t (nI_le (Nat.le_refl _) (by omega)) hq)) ?_ 0 (Nat.zero_le _)
  intro s hs5 ih
  exact hR _ _ (br_f (nI_ge hs5 (by omega)) (s11_shareOfOne h hs5 hk hs (by rw [nI_1]; exact ih)))
def shareS (A : aS) (kn so : Int32) : Int64 := if okK A kn so then shA A kn.toNatClampNeg so.toNatClampNeg (A.1 5) else -1
theorem s12_share {P : jP} {M : jM} {A : aS} (h : RelM M A) {kn so : Int32} {Q : Int64 → jM → Prop} (hq : ∀ M', RelM M' A → Q (shareS A kn so) M') : w_X12_share P kn so M Q := by
  unfold w_X12_share
  have h0 := h.thr 0
  generalize upM M 1 0 0 = M0 at h0 ⊢
  have hq := hq M0 h0
  refine s12_isKnown h0 (br_i (fun n => ?_) (fun y => ?_))
  · rw [shareS, if_neg n] at hq; exact hq
  · rw [shareS, if_pos y] at hq
    obtain ⟨k, s, k1, s1, rfl, rfl, -, k2, s2⟩ := okK_of h0.1 y
    rw [nI_clamp (by omega), nI_clamp (by omega)] at hq
    exact s12_shareOf h0 k2 s2 hq
theorem s11_share {P : jP} {M : jM} {A : aS} (h : RelC P M A) {kn so : Int32} {Q : Int64 → Prop} (hq : Q (shareS A kn so)) : w_X11_share P kn so M Q := by
  unfold w_X11_share
  refine s11_isKnown h (br_i (fun n => ?_) (fun y => ?_))
  · rw [shareS, if_neg n] at hq; exact hq
  · rw [shareS, if_pos y] at hq
    obtain ⟨k, s, k1, s1, rfl, rfl, -, k2, s2⟩ := okK_of h.1 y
    rw [nI_clamp (by omega), nI_clamp (by omega)] at hq
    exact s11_shareOfAll h k2 s2 hq
