/-! against, burden, swap, office: both sides -/
abbrev hdA (A : aS) (l c : Nat) : Nat := (A.2 9 (512 * l + c)).toNatClampNeg
abbrev cmA (A : aS) (l : Nat) : Nat := (A.2 10 l).toNatClampNeg
theorem law_at {A : aS} (h : wfLaws A) {l : Nat} (hl : l < A.1 2) : 1 ≤ cmA A l ∧ cmA A l ≤ 12 ∧ A.2 10 l = nI (cmA A l) ∧ (∀ k, k < cmA A l → ∃ o : Nat, o ≤ 5 ∧ A.2 11 (12 * l + k) = nI o) ∧ ∀ c, c < 2 ^ A.1 0 → hdA A l c < 2 ^ cmA A l ∧ hdA A l c < 4096 ∧ A.2 9 (512 * l + c) = nI (hdA A l c) ∧ A.2 8 (512 * l + c) = outOf A l (hdA A l c) := by
  obtain ⟨cl, h1, h2, h3, h4, h5⟩ := law_ok h hl
  have e : cmA A l = cl := by
    show (A.2 10 l).toNatClampNeg = cl
    rw [h3, nI_clamp (by omega)]
  rw [e]
  refine ⟨h1, h2, h3, h4, fun c hc => ?_⟩
  obtain ⟨b, b1, b2, b3, b4⟩ := h5 c hc
  have e2 : hdA A l c = b := by
    show (A.2 9 (512 * l + c)).toNatClampNeg = b
    rw [b3, nI_clamp (by omega)]
  rw [e2]
  exact ⟨b1, b2, b3, b4⟩
/-- what is said without some clauses -/
abbrev woA (A : aS) (l s c : Nat) : Int32 := outOf A l (andn (hdA A l c) s)
theorem s12_without {P : jP} {M : jM} {A : aS} (h : RelM M A) {l c s : Nat} (hl : l < A.1 2) (hc : c < 2 ^ A.1 0) {Q : Int32 → Prop} (hq : Q (woA A l s c)) : w_X12_saidWithout P (nI l) (nI s) (nI c) M Q := by
  have hC := h.C512
  obtain ⟨c1, c2, c3, c4, c5⟩ := law_at h.1.2.2.1 hl
  obtain ⟨b1, b2, b3, b4⟩ := c5 c hc
  exact s12_saidWithout h hl c2 (by omega) b3 b1 hq
theorem s11_without {P : jP} {M : jM} {A : aS} (h : RelC P M A) {l c s : Nat} (hl : l < A.1 2) (hc : c < 2 ^ A.1 0) {Q : Int32 → Prop} (hq : Q (woA A l s c)) : w_X4_outcomeOf P (64 + 8 * l) (nI (hdA A l c) &&& (nI s ^^^ (-1))) M Q := by
  obtain ⟨c1, c2, c3, c4, c5⟩ := law_at h.1.2.2.1 hl
  obtain ⟨b1, b2, b3, b4⟩ := c5 c hc
  rw [nI_andn b2]
  exact s11_outcomeOf h hl c3 c2 (Nat.lt_of_le_of_lt andn_le b1) hq
/-! against -/
def agB (A : aS) (l s r : Nat) : Bool := !(woA A l s (A.2 28 r).toNatClampNeg == A.2 29 r)
theorem s12_againstWithout {P : jP} {M : jM} {A : aS} (h : RelM M A) {l s : Nat} (hl : l < A.1 2) {Q : Int32 → Prop} (hq : Q (nI (bitsN (agB A l s) (A.1 6)))) : w_X12_againstWithout P (nI l) (nI s) M Q := by
  have h6 := h.num
  unfold wfNum at h6
  have hC := h.C512
  unfold w_X12_againstWithout
  rw [h.rules]
  intro R hR
  refine lp_up (R := fun r => R (nI (bitsN (agB A l s) r)) (nI r)) (A.1 6) ?_ ?_ 0 (Nat.zero_le _)
  · exact hR _ _ (br_t (nI_le (Nat.le_refl _) (by omega)) hq)
  · intro r hr ih
    obtain ⟨⟨c, hc, ec⟩, -⟩ := h.1.2.2.2.2.2.2 r hr
    rw [bitsN_or] at ih
    refine hR _ _ (br_f (nI_ge hr (by omega)) ⟨vin (by omega) (by omega), ?_⟩)
    rw [nI_clamp (show r < 2 ^ 31 by omega), h.row (by omega), h.row (by omega), ec]
    refine s12_without h hl hc ⟨vin (by omega) (by omega), ?_⟩
    have e : agB A l s r = !(woA A l s c == A.2 29 r) := by unfold agB; rw [ec, nI_clamp (by omega)]
    intro R46 h46
    refine br_c (fun z => h46 _ ?_) (fun z => h46 _ ?_)
    · rw [if_neg (by rw [e]; simpa using z)] at ih
      rw [show (0 : Int32) = nI 0 from rfl, nI_or, nI_1]; exact ih
    · rw [if_pos (by rw [e]; simpa using z)] at ih
      rw [shl1 (by omega), nI_or, nI_1]; exact ih
theorem RelC.rulen {P : jP} {M : jM} {A : aS} (h : RelC P M A) : M 10 0 = nI (A.1 6) := h.2.2.1 10 0 rfl
theorem RelC.rcase {P : jP} {M : jM} {A : aS} (h : RelC P M A) {r : Nat} (hr : r < A.1 6) : M 43 r = A.2 28 r := h.2.2.1 43 r hr
theorem RelC.rout {P : jP} {M : jM} {A : aS} (h : RelC P M A) {r : Nat} (hr : r < A.1 6) : M 44 r = A.2 29 r := h.2.2.1 44 r hr
theorem s11_againstWithout {P : jP} {M : jM} {A : aS} (h : RelC P M A) {l s : Nat} (hl : l < A.1 2) {Q : Int32 → Prop} (hq : Q (nI (bitsN (agB A l s) (A.1 6)))) : w_X8_againstWithout P (64 + 8 * l) (nI s) M Q := by
  have h6 := h.num
  unfold wfNum at h6
  have hC := h.C512
  unfold w_X8_againstWithout
  rw [h.rulen]
  intro R hR
  refine lp_up (R := fun r => R (nI (bitsN (agB A l s) r)) (nI r)) (A.1 6) ?_ ?_ 0 (Nat.zero_le _)
  · exact hR _ _ (br_t (nI_le (Nat.le_refl _) (by omega)) hq)
  · intro r hr ih
    obtain ⟨⟨c, hc, ec⟩, -⟩ := h.1.2.2.2.2.2.2 r hr
    rw [bitsN_or] at ih
    refine hR _ _ (br_f (nI_ge hr (by omega)) ⟨h.lw hl, vin (by omega) (by omega), ?_⟩)
    rw [nI_clamp (show r < 2 ^ 31 by omega), h.rcase hr, h.rout hr, ec]
    refine ⟨jin_of (h.ia hl).2.1 hc (by omega), h.lw hl, ?_⟩
    have hb := (law_at h.1.2.2.1 hl).2.2.2.2 c hc
    rw [nI_clamp (show c < 2 ^ 31 by omega), h.held hl hc, hb.2.2.1]
    refine s11_without h hl hc ⟨vin (by omega) (by omega), ?_⟩
    have e : agB A l s r = !(woA A l s c == A.2 29 r) := by unfold agB; rw [ec, nI_clamp (by omega)]
    intro R46 h46
    refine br_c (fun z => h46 _ ?_) (fun z => h46 _ ?_)
    · rw [if_neg (by rw [e]; simpa using z), Nat.or_zero] at ih
      rw [nI_1]; exact ih
    · rw [if_pos (by rw [e]; simpa using z)] at ih
      rw [shl1 (by omega), nI_or, nI_1]; exact ih
def againstS (A : aS) (a : Int32) : Int32 := if okL A a then nI (bitsN (agB A a.toNatClampNeg 0) (A.1 6)) else -1
theorem s12_against {P : jP} {M : jM} {A : aS} (h : RelM M A) {a : Int32} {Q : Int32 → jM → Prop} (hq : ∀ M', RelM M' A → Q (againstS A a) M') : w_X12_against P a M Q := by
  unfold w_X12_against
  have h0 := h.thr 0
  generalize upM M 1 0 0 = M0 at h0 ⊢
  have hq := hq M0 h0
  first
  | refine s12_isLaw h0 (br_j (fun hl => ?_) (fun hn => ?_))
    · rw [againstS, if_pos hl] at hq
      obtain ⟨l, hl1, hl2, rfl⟩ := okL_of h0 hl
      rw [nI_clamp (by omega)] at hq
      exact s12_againstWithout (s := 0) h0 hl1 hq
    · rw [againstS, if_neg hn] at hq; exact hq
  | refine s12_isLaw h0 (br_i (fun hn => ?_) (fun hl => ?_))
    · rw [againstS, if_neg hn] at hq; exact hq
    · rw [againstS, if_pos hl] at hq
      obtain ⟨l, hl1, hl2, rfl⟩ := okL_of h0 hl
      rw [nI_clamp (by omega)] at hq
      exact s12_againstWithout (s := 0) h0 hl1 hq
theorem s11_against {P : jP} {M : jM} {A : aS} (h : RelC P M A) {a : Int32} {Q : Int32 → Prop} (hq : Q (againstS A a)) : w_X11_against P a M Q := by
  unfold w_X11_against
  refine s11_lawAt h (fun hn => ⟨fun z => absurd rfl z, fun _ => ?_⟩) (fun l hl el => ⟨fun _ => ?_, fun z => absurd z (by omega)⟩)
  · rw [againstS, if_neg hn] at hq; exact hq
  · subst el
    have ol := okL_mk (M := M) h.1 hl
    rw [againstS, if_pos ol.1, nI_clamp (by omega)] at hq
    exact s11_againstWithout (s := 0) h hl hq
/-! burden -/
def burB (A : aS) (l k : Nat) : Nat → Bool := fun c => !(woA A l (2 ^ k) c == sdA A l c)
abbrev burN (A : aS) (l k : Nat) : Nat := cntB (burB A l k) (2 ^ A.1 0)
theorem s12_burdenOf {P : jP} {M : jM} {A : aS} (h : RelM M A) {l k : Nat} (hl : l < A.1 2) (hk : k < 12) {Q : Int32 → Prop} (hq : Q (nI (burN A l k))) : w_X12_burdenOf P (nI l) (nI k) M Q := by
  have h6 := h.num
  unfold wfNum at h6
  have hC := h.C512
  unfold w_X12_burdenOf
  rw [h.cases, shl1 (by omega)]
  intro R hR
  refine lp_up (R := fun c => R (nI (cntB (burB A l k) c)) (nI c)) (2 ^ A.1 0) ?_ ?_ 0 (Nat.zero_le _)
  · exact hR _ _ (br_t (nI_le (Nat.le_refl _) (by omega)) hq)
  · intro c hc ih
    refine hR _ _ (br_f (nI_ge hc (by omega)) (s12_without h hl hc (s12_saidOn h (by omega) (by omega) ?_)))
    intro R40 h40
    refine br_c (fun e => h40 _ ?_) (fun e => h40 _ ?_)
    · rw [cntB_f (by unfold burB; simp [e])] at ih
      rw [show (0 : Int32) = nI 0 from rfl, nI_add, nI_1, Nat.add_zero]
      exact ih
    · rw [cntB_t (by unfold burB; simpa using e)] at ih
      rw [nI_1, nI_1]
      exact ih
theorem s11_burdenOf {P : jP} {M : jM} {A : aS} (h : RelC P M A) {l k : Nat} (hl : l < A.1 2) (hk : k < 12) {Q : Int32 → Prop} (hq : Q (nI (burN A l k))) : w_X11_burdenOf P (64 + 8 * l) (nI k) M Q := by
  have hC := h.C512
  unfold w_X11_burdenOf
  rw [h.cases, shl1 (by omega)]
  intro R hR
  refine lp_up (R := fun c => R (nI (cntB (burB A l k) c)) (nI c)) (2 ^ A.1 0) ?_ ?_ 0 (Nat.zero_le _)
  · exact hR _ _ (br_t (nI_le (Nat.le_refl _) (by omega)) hq)
  · intro c hc ih
    have hb := (law_at h.1.2.2.1 hl).2.2.2.2 c hc
    refine hR _ _ (br_f (nI_ge hc (by omega)) ⟨h.lw hl, jin_of (h.ia hl).2.1 hc (by omega), h.lw hl, ?_⟩)
    rw [nI_clamp (show c < 2 ^ 31 by omega), h.held hl hc, hb.2.2.1, h.said hl hc]
    refine s11_without h hl hc ⟨h.lw hl, jin_of (h.ia hl).2.2.1 hc (by omega), ?_⟩
    intro R47 h47
    refine br_c (fun e => h47 _ ?_) (fun e => h47 _ ?_)
    · rw [cntB_f (by unfold burB; simp [e])] at ih
      rw [nI_1]
      exact ih
    · rw [cntB_t (by unfold burB; simpa using e)] at ih
      rw [nI_1, nI_1]
      exact ih
def burdenS (A : aS) (a k : Int32) : Int32 := if okL A a ∧ (k = -1 ∨ (¬ k < 0 ∧ k < nI (cmA A a.toNatClampNeg))) then (if k = -1 then nI (bitsN (fun j => burN A a.toNatClampNeg j == 0) (cmA A a.toNatClampNeg)) else nI (burN A a.toNatClampNeg k.toNatClampNeg)) else -1
theorem burN_lt {A : aS} (h : wfA A) {l k : Nat} : burN A l k < 2 ^ 31 := by
  have := cntB_le (burB A l k) (2 ^ A.1 0)
  have := C512 h
  show cntB _ _ < _
  omega
theorem nI_sub_lt {a b k : Nat} (ha : a < 2 ^ 30) (hb : b < 2 ^ 30) (hk : k < 2 ^ 31) : nI a - nI b < nI k ↔ a < b + k := by
  rw [Int32.lt_iff_toInt_lt, pk_sub_toInt ha hb, nI_toInt hk]
  omega
theorem nI_lt_sub {a b k : Nat} (ha : a < 2 ^ 30) (hb : b < 2 ^ 30) (hk : k < 2 ^ 31) : nI k < nI a - nI b ↔ k + b < a := by
  rw [Int32.lt_iff_toInt_lt, pk_sub_toInt ha hb, nI_toInt hk]
  omega
theorem s12_burden {P : jP} {M : jM} {A : aS} (h : RelM M A) {a k : Int32} {Q : Int32 → jM → Prop} (hq : ∀ M', RelM M' A → Q (burdenS A a k) M') : w_X12_burden P a k M Q := by
  unfold w_X12_burden
  have h0 := h.thr 0
  generalize upM M 1 0 0 = M0 at h0 ⊢
  have hq := hq M0 h0
  refine s12_isLaw h0 (br_i (fun hn => ?_) (fun hl => ?_))
  · rw [burdenS, if_neg (fun z => hn z.1)] at hq; exact hq
  · obtain ⟨l, hl1, hl2, rfl⟩ := okL_of h0 hl
    obtain ⟨c1, c2, c3, c4, c5⟩ := law_at h0.1.2.2.1 hl1
    rw [burdenS, nI_clamp (show l < 2 ^ 31 by omega)] at hq
    intro R36 h36
    rw [nI_clamp (show l < 2 ^ 31 by omega), h0.row (by omega), c3] at *
    refine br_c (fun hk => ?_) (fun hk => ?_)
    · subst hk
      rw [if_pos ⟨hl, Or.inl rfl⟩, if_pos rfl] at hq
      refine h36 (br_t rfl ?_)
      intro R hR
      refine lp_up (R := fun j => R (nI (bitsN (fun j => burN A l j == 0) j)) (nI j)) (cmA A l) ?_ ?_ 0 (Nat.zero_le _)
      · exact hR _ _ ⟨vin hl2 (by omega), br_t (nI_le (Nat.le_refl _) (by omega)) hq⟩
      · intro j hj ih
        rw [bitsN_or] at ih
        refine hR _ _ ⟨vin hl2 (by omega), br_f (nI_ge hj (by omega)) (s12_burdenOf h0 hl1 (by omega) ?_)⟩
        intro R83 h83
        have hb := burN_lt h0.1 (l := l) (k := j)
        refine bn_c (fun z => h83 _ ?_) (fun z => h83 _ ?_)
        · rw [if_neg (by simp; intro q; apply z; rw [q]; rfl)] at ih
          rw [show (0 : Int32) = nI 0 from rfl, nI_or, nI_1]; exact ih
        · rw [if_pos (by simp; exact (nI_eq hb (by omega)).mp z)] at ih
          rw [shl1 (by omega), nI_or, nI_1]; exact ih
    · refine ⟨vin hl2 (by omega), s12_isIn (br_j (fun hm => ?_) (fun hn => ?_))⟩
      · obtain ⟨j, hj, rfl⟩ := nI_of hm.1
        have hjc : j < cmA A l := by
          have := mt (nI_sub_lt (a := cmA A l) (b := 1) (k := j) (by omega) (by omega) hj).mpr hm.2
          omega
        rw [if_pos ⟨hl, Or.inr ⟨hm.1, nI_lt hjc (by omega)⟩⟩, if_neg hk, nI_clamp hj] at hq
        exact h36 (br_f hk (s12_burdenOf h0 hl1 (by omega) hq))
      · rw [if_neg] at hq
        · exact hq
        · rintro ⟨-, z | ⟨z1, z2⟩⟩
          · exact hk z
          · obtain ⟨j, hj, rfl⟩ := nI_of z1
            have := (nI_ltI hj (by omega)).mp z2
            refine hn ⟨z1, fun q => ?_⟩
            have := (nI_sub_lt (a := cmA A l) (b := 1) (k := j) (by omega) (by omega) hj).mp q
            omega
theorem lt_m1 {k : Int32} : k < -1 ↔ k < 0 ∧ k ≠ -1 := by
  rw [Int32.lt_iff_toInt_lt, Int32.lt_iff_toInt_lt, show (-1 : Int32).toInt = -1 by decide, Int32.toInt_zero]
  have e : k ≠ -1 ↔ k.toInt ≠ -1 := by
    rw [ne_eq, ne_eq, ← Int32.toInt_inj, show (-1 : Int32).toInt = -1 by decide]
  rw [e]
  omega
theorem s11_burden {P : jP} {M : jM} {A : aS} (h : RelC P M A) {a k : Int32} {Q : Int32 → Prop} (hq : Q (burdenS A a k)) : w_X11_burden P a k M Q := by
  unfold w_X11_burden
  refine s11_lawAt h (fun hn => br_t rfl ?_) (fun l hl el => br_f (by omega) ?_)
  · rw [burdenS, if_neg (fun z => hn z.1)] at hq; exact hq
  · subst el
    have ol := okL_mk (M := M) h.1 hl
    obtain ⟨c1, c2, c3, c4, c5⟩ := law_at h.1.2.2.1 hl
    rw [burdenS, nI_clamp (show l < 2 ^ 31 by omega)] at hq
    rw [h.many hl, c3]
    refine br_c (fun z => ?_) (fun z => ⟨h.lw hl, br_c (fun hk => bn_c (fun hne => ?_) (fun he => ?_) |> fun q => ⟨q.2, q.1⟩) (fun hk => ?_)⟩)
    · have z := lt_m1.mp z
      rw [if_neg (by rintro ⟨-, q | q⟩; exact z.2 q; exact q.1 z.1)] at hq
      exact hq
    · have hp : ¬ k < 0 := fun q => z (lt_m1.mpr ⟨q, hne⟩)
      rw [if_pos ⟨ol.1, Or.inr ⟨hp, hk⟩⟩, if_neg hne] at hq
      obtain ⟨j, hj, rfl⟩ := nI_of hp
      have := (nI_ltI hj (by omega)).mp hk
      rw [nI_clamp hj] at hq
      exact s11_burdenOf h hl (by omega) hq
    · rw [if_pos ⟨ol.1, Or.inl he⟩, if_pos he] at hq
      intro R hR
      refine lp_up (R := fun j => R (nI (bitsN (fun j => burN A l j == 0) j)) (nI j)) (cmA A l) ?_ ?_ 0 (Nat.zero_le _)
      · exact hR _ _ ⟨h.lw hl, br_t (nI_le (Nat.le_refl _) (by omega)) hq⟩
      · intro j hj ih
        rw [bitsN_or] at ih
        refine hR _ _ ⟨h.lw hl, br_f (nI_ge hj (by omega)) (s11_burdenOf h hl (by omega) ?_)⟩
        intro R83 h83
        have hb := burN_lt h.1 (l := l) (k := j)
        refine bn_c (fun z => h83 _ ?_) (fun z => h83 _ ?_)
        · rw [if_neg (by simp; intro q; apply z; rw [q]; rfl), Nat.or_zero] at ih
          rw [nI_1]; exact ih
        · rw [if_pos (by simp; exact (nI_eq hb (by omega)).mp z)] at ih
          rw [shl1 (by omega), nI_or, nI_1]; exact ih
    · rw [if_neg] at hq
      · exact hq
      · rintro ⟨-, q | q⟩
        · rw [q] at hk
          exact hk (Int32.lt_of_lt_of_le (show (-1 : Int32) < 0 by decide) (Int32.not_lt.mp (nI_pos (by omega))))
        · exact hk q.2
