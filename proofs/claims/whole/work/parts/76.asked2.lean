/-! straight: both sides -/
noncomputable def askN (Y : Nat → Nat → Nat → Prop) (D : Nat → Nat) (c : Nat) : Nat → Nat
  | 0 => 0
  | k + 1 => @ite _ (Y (askN Y D c k) (c &&& askN Y D c k) (D k)) (Classical.propDecidable _) (askN Y D c k ||| 2 ^ D k) (askN Y D c k)
theorem askN_t {Y : Nat → Nat → Nat → Prop} {D : Nat → Nat} {c k : Nat} (h : Y (askN Y D c k) (c &&& askN Y D c k) (D k)) : askN Y D c (k + 1) = askN Y D c k ||| 2 ^ D k := @if_pos _ _ h _ _ _
theorem askN_f {Y : Nat → Nat → Nat → Prop} {D : Nat → Nat} {c k : Nat} (h : ¬ Y (askN Y D c k) (c &&& askN Y D c k) (D k)) : askN Y D c (k + 1) = askN Y D c k := @if_neg _ _ h _ _ _
theorem askN_bit {Y : Nat → Nat → Nat → Prop} {D : Nat → Nat} {c i : Nat} : ∀ k, (askN Y D c k).testBit i = true → ∃ t, t < k ∧ D t = i
  | 0, h => by
    rw [show askN Y D c 0 = 0 from rfl, Nat.zero_testBit] at h
    exact absurd h (by decide)
  | k + 1, h => by
    have old : (askN Y D c k).testBit i = true → ∃ t, t < k + 1 ∧ D t = i := fun z => by
      obtain ⟨t, h1, h2⟩ := askN_bit k z
      exact ⟨t, by omega, h2⟩
    rcases Classical.em (Y (askN Y D c k) (c &&& askN Y D c k) (D k)) with q | q
    · rw [askN_t q, or_bit] at h
      rcases h with z | z
      · exact old z
      · exact ⟨k, by omega, z.symm⟩
    · rw [askN_f q] at h
      exact old h
theorem askN_lt {Y : Nat → Nat → Nat → Prop} {D : Nat → Nat} {c n : Nat} (hD : ∀ t, D t < n) : ∀ k, askN Y D c k < 2 ^ n
  | 0 => Nat.two_pow_pos n
  | k + 1 => by
    have ih := askN_lt (Y := Y) (c := c) hD k
    rcases Classical.em (Y (askN Y D c k) (c &&& askN Y D c k) (D k)) with q | q
    · rw [askN_t q]
      exact Nat.or_lt_two_pow ih (Nat.pow_lt_pow_right (by omega) (hD k))
    · rw [askN_f q]; exact ih
abbrev ordG (A : aS) (x j : Nat) : Nat := ordD (A.1 0) x (A.1 0 - 1 - j)
theorem ordG_lt {A : aS} (h : wfA A) {x j : Nat} : ordG A x j < A.1 0 := ordD_lt h.1.1.1
theorem ordG_ne {A : aS} (h : wfA A) {a : Int32} (ho : okOrd A a) {s t : Nat} (hs : s < t) (ht : t < A.1 0) : ordG A a.toNatClampNeg s ≠ ordG A a.toNatClampNeg t := fun e => ord_inj h.1.1.1 h.1.1.2 ho.2.2 (s := A.1 0 - 1 - t) (t := A.1 0 - 1 - s) (by omega) (by omega) e.symm
noncomputable abbrev asN (A : aS) (l x c : Nat) : Nat := askN (matY A l) (ordG A x) c (A.1 0)
theorem s12_askedOn {P : jP} {M : jM} {A : aS} (h : RelM M A) {l c x : Nat} (hl : l < A.1 2) (hc : c < 2 ^ A.1 0) (hj : ∀ j, j < A.1 0 → M 24 j = nI (ordG A x j)) {Q : Int32 → Prop} (hq : Q (nI (asN A l x c))) : w_X12_askedOn P (nI l) (nI c) M Q := by
  have hC := h.C512
  have h9 := h.n9
  unfold w_X12_askedOn
  rw [h.facts]
  intro R hR
  refine lp_up (R := fun k => R (nI (askN (matY A l) (ordG A x) c k)) (nI k)) (A.1 0) (hR _ _ (br_t (nI_le (Nat.le_refl _) (by omega)) hq)) ?_ 0 (Nat.zero_le _)
  intro k hk ih
  have ha := askN_lt (Y := matY A l) (c := c) (fun t => ordG_lt (x := x) (j := t) h.1) k
  have hlt := ordG_lt (x := x) (j := k) h.1
  refine hR _ _ (br_f (nI_ge hk (by omega)) ⟨vin (by omega) (by omega), ?_⟩)
  have hand : c &&& askN (matY A l) (ordG A x) c k < 512 := Nat.lt_of_le_of_lt Nat.and_le_left (by omega)
  rw [nI_clamp (show k < 2 ^ 31 by omega), hj k hk, nI_and]
  refine s12_mattersYet h hl (by omega) hand hlt (fun z => ?_) (fun z => ?_)
  · intro R45 h45
    refine br_f (by decide) ⟨vin (by omega) (by omega), ?_⟩
    rintro y rfl
    rw [askN_t z] at ih
    refine h45 _ ?_
    rw [shl1 (by omega), nI_or, nI_1]
    exact ih
  · intro R45 h45
    rw [askN_f z] at ih
    refine br_t rfl (h45 _ ?_)
    rw [nI_1]; exact ih
theorem s11_askedInOrder {P : jP} {M : jM} {A : aS} (h : RelC P M A) {l c x : Nat} (hl : l < A.1 2) (hE : WayE M A l) (hc : c < 2 ^ A.1 0) (hx : ∀ s t, s < t → t < A.1 0 → ordG A x s ≠ ordG A x t) (hj : ∀ j, j < A.1 0 → M 26 j = nI (ordG A x j)) {Q : Int32 → Prop} (hq : Q (nI (asN A l x c))) : w_X1_askedInOrder P (64 + 8 * l) (nI c) M Q := by
  have hC := h.C512
  have h9 := h.n9
  unfold w_X1_askedInOrder
  rw [h.facts, h.2.1.1]
  intro R hR
  refine lp_up (R := fun k => R (nI (askN (matY A l) (ordG A x) c k)) (nI k)) (A.1 0) (hR _ _ (br_t (nI_le (Nat.le_refl _) (by omega)) hq)) ?_ 0 (Nat.zero_le _)
  intro k hk ih
  have ha := askN_lt (Y := matY A l) (c := c) (fun t => ordG_lt (x := x) (j := t) h.1) k
  have hlt := ordG_lt (x := x) (j := k) h.1
  have hand : c &&& askN (matY A l) (ordG A x) c k < 2 ^ A.1 0 := Nat.lt_of_le_of_lt Nat.and_le_left hc
  have hnb : ¬ (askN (matY A l) (ordG A x) c k).testBit (ordG A x k) = true := fun z => by
    obtain ⟨t, t1, t2⟩ := askN_bit k z
    exact hx t k t1 hk t2
  refine hR _ _ (br_f (nI_ge hk (by omega)) ?_)
  rw [nI_clamp (show k < 2 ^ 31 by omega), hj k hk, nI_and]
  refine s11_place h ha hand ⟨vin hk (by omega), s11_mattersAt h hl hE ha hand (by rw [Nat.and_assoc, Nat.and_self]) hlt hnb (fun z => ?_) (fun z => ?_)⟩
  · intro R45 h45
    refine br_f (by decide) ⟨vin hk (by omega), ?_⟩
    rintro y rfl
    rw [askN_t z] at ih
    refine h45 _ ?_
    rw [shl1 (by omega), nI_or, nI_1]
    exact ih
  · intro R45 h45
    rw [askN_f z] at ih
    refine br_t rfl (h45 _ ?_)
    rw [nI_1]; exact ih
def mbF (A : aS) (b f : Nat) : Nat := if b.testBit f = true then (A.2 12 f).toNatClampNeg else 0
abbrev mbN (A : aS) (b : Nat) : Nat := sumN (mbF A b) (A.1 0)
theorem mbF_le {A : aS} (h : wfA A) {b f : Nat} (hf : f < A.1 0) : mbF A b f ≤ 99 ∧ A.2 12 f = nI (A.2 12 f).toNatClampNeg := by
  obtain ⟨m, m1, m2, m3⟩ := h.2.2.2.2.1.1 f hf
  have e : (A.2 12 f).toNatClampNeg = m := by rw [m3, nI_clamp (by omega)]
  refine ⟨?_, by rw [e]; exact m3⟩
  unfold mbF
  rw [e]
  split <;> omega
theorem mbN_le {A : aS} (h : wfA A) {b : Nat} : ∀ k, k ≤ A.1 0 → sumN (mbF A b) k ≤ 99 * k
  | 0, _ => Nat.le_refl _
  | k + 1, hk => by
    have ih := mbN_le h (b := b) k (by omega)
    have := (mbF_le h (b := b) (f := k) (by omega)).1
    show sumN (mbF A b) k + mbF A b k ≤ _
    omega
noncomputable def straightS (A : aS) (a o c : Int32) : Int32 := @ite _ (okL A a ∧ (c = -1 ∨ okC A c) ∧ okOrd A o) (Classical.propDecidable _) (if c = -1 then nI (maxN (fun d => mbN A (asN A a.toNatClampNeg o.toNatClampNeg d)) (2 ^ A.1 0)) else bcF (nI (asN A a.toNatClampNeg o.toNatClampNeg c.toNatClampNeg))) (-1)
theorem straightS_t {A : aS} {a o c : Int32} (h : okL A a ∧ (c = -1 ∨ okC A c) ∧ okOrd A o) : straightS A a o c = if c = -1 then nI (maxN (fun d => mbN A (asN A a.toNatClampNeg o.toNatClampNeg d)) (2 ^ A.1 0)) else bcF (nI (asN A a.toNatClampNeg o.toNatClampNeg c.toNatClampNeg)) := @if_pos _ _ h _ _ _
theorem straightS_f {A : aS} {a o c : Int32} (h : ¬ (okL A a ∧ (c = -1 ∨ okC A c) ∧ okOrd A o)) : straightS A a o c = -1 := @if_neg _ _ h _ _ _
theorem s12_straight {P : jP} {M : jM} {A : aS} (h : RelM M A) {a o c : Int32} {Q : Int32 → jM → Prop} (hq : ∀ M', RelM M' A → Q (straightS A a o c) M') : w_X12_straight P a o c M Q := by
  unfold w_X12_straight
  have h0 := h.thr 0
  generalize upM M 1 0 0 = M0 at h0 ⊢
  have hC := h0.C512
  have h9 := h0.n9
  refine s12_isLaw h0 (br_i (fun hn => ?_) (fun hl => ?_))
  · have hq := hq M0 h0
    rw [straightS_f (fun z => hn z.1)] at hq; exact hq
  · intro R26 h26
    have hmain : (c = -1 ∨ okC A c) → R26 := fun hc => h26 (s12_isOrder h0 (fun hn M' h' => ?_) (fun ho M' h' hj => ?_))
    · refine br_c (fun z => hmain (Or.inl z)) (fun z => s12_isCase h0 (br_i (fun hn => ?_) (fun hc => hmain (Or.inr hc))))
      have hq := hq M0 h0
      rw [straightS_f (fun y => y.2.1.elim z hn)] at hq; exact hq
    · have hq := hq M' h'
      rw [straightS_f (fun z => hn z.2.2)] at hq
      exact ⟨fun z => absurd rfl z, fun _ => hq⟩
    · have hq := hq M' h'
      rw [straightS_t ⟨hl, hc, ho⟩] at hq
      obtain ⟨l, hl1, hl2, rfl⟩ := okL_of h0 hl
      rw [nI_clamp (show l < 2 ^ 31 by omega)] at hq
      refine ⟨fun _ => br_c (fun z => ?_) (fun z => ?_), fun z => absurd z (by decide)⟩
      · rw [if_pos z] at hq
        rw [h'.cases]
        intro R hR
        have hb : ∀ d, mbN A (asN A l o.toNatClampNeg d) ≤ 99 * A.1 0 := fun d => mbN_le h0.1 _ (Nat.le_refl _)
        refine lp_up (R := fun d => R (nI (maxN (fun d => mbN A (asN A l o.toNatClampNeg d)) d)) (nI d)) (2 ^ A.1 0) (hR _ _ (br_t (nI_le (Nat.le_refl _) (by omega)) hq)) ?_ 0 (Nat.zero_le _)
        intro d hd ih
        have m1 := maxN_le (g := fun d => mbN A (asN A l o.toNatClampNeg d)) hb d
        have m2 : sumN (mbF A (asN A l o.toNatClampNeg d)) (A.1 0) ≤ 99 * A.1 0 := hb d
        refine hR _ _ (br_f (nI_ge hd (by omega)) (s12_askedOn h' hl1 hd hj ?_))
        rw [h'.facts]
        intro R81 h81
        have hlt : asN A l o.toNatClampNeg d < 2 ^ A.1 0 := askN_lt (fun t => ordG_lt h0.1) _
        refine lp_up (R := fun f => R81 (nI (sumN (mbF A (asN A l o.toNatClampNeg d)) f)) (nI f)) (A.1 0) (h81 _ _ (br_t (nI_le (Nat.le_refl _) (by omega)) ?_)) ?_ 0 (Nat.zero_le _)
        · rw [maxI (by omega) (by omega), nI_1]
          exact ih
        · intro f hf ihf
          refine h81 _ _ (br_f (nI_ge hf (by omega)) (s12_has (by omega) (by omega) ?_))
          intro R113 h113
          have step : sumN (mbF A (asN A l o.toNatClampNeg d)) (f + 1) = sumN (mbF A (asN A l o.toNatClampNeg d)) f + mbF A (asN A l o.toNatClampNeg d) f := rfl
          refine br_i (fun q => h113 _ ?_) (fun q => ⟨vin (by omega) (by omega), h113 _ ?_⟩)
          · rw [step, mbF, if_neg q, Nat.add_zero] at ihf
            rw [show (0 : Int32) = nI 0 from rfl, nI_add, Nat.add_zero, nI_1]; exact ihf
          · rw [step, mbF, if_pos q] at ihf
            rw [nI_clamp (show f < 2 ^ 31 by omega), h'.row (by omega), (mbF_le h0.1 (b := 0) hf).2, nI_add, nI_1]; exact ihf
      · rw [if_neg z] at hq
        obtain ⟨d, hd1, hd2, rfl⟩ := okC_of h0 (hc.resolve_left z)
        rw [nI_clamp (show d < 2 ^ 31 by omega)] at hq
        exact s12_askedOn h' hl1 hd1 hj (s_bc hq)
theorem s11_minOf9 {P : jP} {M : jM} {A : aS} (h : RelC P M A) {b : Nat} (hb : b < 512) {Q : Int32 → Prop} (hq : Q (nI (mbN A b))) : w_X9_minutesOf P (nI b) M Q := by
  have h9 := h.n9
  unfold w_X9_minutesOf
  have e6 : M 6 0 = nI (A.1 0) := h.2.2.1 6 0 (Or.inl rfl)
  rw [e6]
  intro R hR
  refine lp_up (R := fun f => R (nI (sumN (mbF A b) f)) (nI f)) (A.1 0) (hR _ _ (br_t (nI_le (Nat.le_refl _) (by omega)) hq)) ?_ 0 (Nat.zero_le _)
  intro f hf ihf
  refine hR _ _ (br_f (nI_ge hf (by omega)) ?_)
  intro R29 h29
  have step : sumN (mbF A b) (f + 1) = sumN (mbF A b) f + mbF A b f := rfl
  have e27 : M 27 f = A.2 12 f := h.2.2.1 27 f hf
  rw [bit1_0 (by omega) (by omega)]
  refine br_c (fun z => h29 _ ?_) (fun z => ⟨vin (by rw [h.2.1.1]; exact hf) (by rw [h.2.1.1]; omega), h29 _ ?_⟩)
  · rw [step, mbF, if_neg z, Nat.add_zero] at ihf
    rw [nI_1]; exact ihf
  · rw [step, mbF, if_pos (Classical.byContradiction z)] at ihf
    rw [nI_clamp (show f < 2 ^ 31 by omega), e27, (mbF_le h.1 (b := 0) hf).2, nI_add, nI_1]; exact ihf
theorem s11_straight {P : jP} {M : jM} {A : aS} (h : RelC P M A) (hE : ∀ l, l < A.1 2 → WayE M A l) {a o c : Int32} {Q : Int32 → jM → Prop} (hq : ∀ M', (∀ k, k ≠ 26 → M' k = M k) → Q (straightS A a o c) M') : w_X11_straight P a o c M Q := by
  have hC := h.C512
  have h9 := h.n9
  unfold w_X11_straight
  refine s11_lawAt h (fun hn => br_t rfl ?_) (fun l hl el => br_f (by omega) ?_)
  · have hq := hq M (fun _ _ => rfl)
    rw [straightS_f (fun z => hn z.1)] at hq; exact hq
  · subst el
    have ol := okL_mk (M := M) h.1 hl
    intro R26 h26
    have hmain : (c = -1 ∨ okC A c) → R26 := fun hc => h26 (s11_keepOrder h (fun hn M' hM => ?_) (fun ho M' hM hj => ?_))
    · refine br_c (fun z => hmain (Or.inl z)) (fun z => s11_isCase h (br_i (fun hn => ?_) (fun hc => hmain (Or.inr hc))))
      have hq := hq M (fun _ _ => rfl)
      rw [straightS_f (fun y => y.2.1.elim z hn)] at hq; exact hq
    · have hq := hq M' hM
      rw [straightS_f (fun z => hn z.2.2)] at hq
      exact ⟨fun z => absurd rfl z, fun _ => hq⟩
    · have hq := hq M' hM
      have h' := h.k26 hM
      have hE' : WayE M' A l := by
        have := hE l hl
        unfold WayE
        rw [hM (64 + 8 * l + 4) (by omega)]
        exact this
      have hx : ∀ s t, s < t → t < A.1 0 → ordG A o.toNatClampNeg s ≠ ordG A o.toNatClampNeg t := fun s t => ordG_ne h.1 ho
      rw [straightS_t ⟨ol.1, hc, ho⟩, nI_clamp (show l < 2 ^ 31 by omega)] at hq
      refine ⟨fun _ => br_c (fun z => ?_) (fun z => ?_), fun z => absurd z (by decide)⟩
      · rw [if_pos z] at hq
        rw [h'.cases]
        intro R hR
        have hb : ∀ d, mbN A (asN A l o.toNatClampNeg d) ≤ 99 * A.1 0 := fun d => mbN_le h.1 _ (Nat.le_refl _)
        refine lp_up (R := fun d => R (nI (maxN (fun d => mbN A (asN A l o.toNatClampNeg d)) d)) (nI d)) (2 ^ A.1 0) (hR _ _ (br_t (nI_le (Nat.le_refl _) (by omega)) hq)) ?_ 0 (Nat.zero_le _)
        intro d hd ih
        have m1 := maxN_le (g := fun d => mbN A (asN A l o.toNatClampNeg d)) hb d
        have m2 := hb d
        have hlt : asN A l o.toNatClampNeg d < 2 ^ A.1 0 := askN_lt (fun t => ordG_lt h.1) _
        refine hR _ _ (br_f (nI_ge hd (by omega)) (s11_askedInOrder h' hl hE' hd hx hj (s11_minOf9 h' (by omega) ?_)))
        rw [maxI (by omega) (by omega), nI_1]
        exact ih
      · rw [if_neg z] at hq
        obtain ⟨d, hd1, hd2, rfl⟩ := okC_mk h.1 (hc.resolve_left z)
        rw [nI_clamp (show d < 2 ^ 31 by omega)] at hq
        exact s11_askedInOrder h' hl hE' hd1 hx hj (s_bc hq)
