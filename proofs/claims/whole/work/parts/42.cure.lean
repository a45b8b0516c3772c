/-! cure, mend, spoiled: both sides -/
/-- a set of bits goes ahead of another -/
def befI (s t : Int32) : Prop := if bcF s = bcF t then ¬ ((s &&& (s ^^^ t)) &&& (-(s ^^^ t))) = 0 else ¬ bcF t ≤ bcF s
theorem befI_dec (s t : Int32) : befI s t ∨ ¬ befI s t := Classical.em _
noncomputable def befB (s t : Int32) : Int32 := @ite _ (befI s t) (Classical.propDecidable _) 1 0
theorem s12_isBefore {P : jP} {s t : Int32} {Q : Int32 → Prop} (h1 : befI s t → Q 1) (h0 : ¬ befI s t → Q 0) : w_X12_isBefore P s t Q := by
  unfold befI at h0 h1
  refine s_bc (s_bc (br_c (fun e => ?_) (fun e => ?_)))
  · rw [if_pos e] at h0 h1
    exact br_c (fun z => h0 (fun q => q z)) (fun z => h1 z)
  · rw [if_neg e] at h0 h1
    exact br_c (fun z => h0 (fun q => q z)) (fun z => h1 z)
theorem bcF_small (a : Int32) : ∃ j : Nat, j < 64 ∧ bcF a = nI j := pk_andE _ 6 (by decide)
theorem s11_isAhead {P : jP} {s t : Int32} {Q : Int32 → Prop} (h1 : (t = -1 ∨ befI s t) → Q 1) (h0 : ¬ (t = -1 ∨ befI s t) → Q 0) : w_X11_isAhead P s t Q := by
  obtain ⟨i, hi, ei⟩ := bcF_small s
  obtain ⟨j, hj, ej⟩ := bcF_small t
  unfold w_X11_isAhead
  refine bn_c (fun hne => s_bc (s_bc ?_)) (fun he => h1 (Or.inl he))
  have hz : (t = -1 ∨ befI s t) ↔ befI s t := ⟨fun q => q.resolve_left hne, Or.inr⟩
  rw [hz] at h1 h0
  unfold befI at h1 h0
  rw [ei, ej] at h1 h0 ⊢
  have e1 : nI i - nI j < 0 ↔ i < j := by
    have := nI_sub_lt (a := i) (b := j) (k := 0) (by omega) (by omega) (by omega)
    exact this
  have e2 : nI i - nI j = 0 ↔ i = j := by
    rw [← Int32.toInt_inj, pk_sub_toInt (by omega) (by omega), Int32.toInt_zero]
    omega
  have e3 : nI i = nI j ↔ i = j := nI_eq (by omega) (by omega)
  have e4 : nI j ≤ nI i ↔ j ≤ i := nI_leI (by omega) (by omega)
  rw [e1, e2]
  simp only [e3, e4] at h1 h0
  refine br_c (fun z => ?_) (fun z => bn_c (fun q => ?_) (fun q => br_c (fun w => ?_) (fun w => ?_)))
  · rw [if_neg (by omega)] at h1
    exact h1 (by omega)
  · rw [if_neg q] at h0
    exact h0 (by omega)
  · rw [if_pos q] at h0
    exact h0 (fun y => y w)
  · rw [if_pos q] at h1
    exact h1 w
/-- the best set so far: ahead of the others, of those that are good -/
noncomputable def bestF (good : Nat → Prop) : Nat → Int32
  | 0 => -1
  | s + 1 => @ite _ ((bestF good s = -1 ∨ befI (nI s) (bestF good s)) ∧ good s) (Classical.propDecidable _) (nI s) (bestF good s)
theorem bestF_t {good : Nat → Prop} {s : Nat} (h : (bestF good s = -1 ∨ befI (nI s) (bestF good s)) ∧ good s) : bestF good (s + 1) = nI s := @if_pos _ _ h _ _ _
theorem bestF_f {good : Nat → Prop} {s : Nat} (h : ¬ ((bestF good s = -1 ∨ befI (nI s) (bestF good s)) ∧ good s)) : bestF good (s + 1) = bestF good s := @if_neg _ _ h _ _ _
/-! cure -/
abbrev cureG (A : aS) (l : Nat) : Nat → Prop := fun s => nI (bitsN (agB A l s) (A.1 6)) = 0
noncomputable def cureS (A : aS) (a : Int32) : Int32 := if okL A a then bestF (cureG A a.toNatClampNeg) (2 ^ cmA A a.toNatClampNeg) else -1
theorem s12_cure {P : jP} {M : jM} {A : aS} (h : RelM M A) {a : Int32} {Q : Int32 → jM → Prop} (hq : ∀ M', RelM M' A → Q (cureS A a) M') : w_X12_cure P a M Q := by
  unfold w_X12_cure
  have h0 := h.thr 0
  generalize upM M 1 0 0 = M0 at h0 ⊢
  have hq := hq M0 h0
  refine s12_isLaw h0 (br_j (fun hl => ?_) (fun hn => ?_))
  · rw [cureS, if_pos hl] at hq
    obtain ⟨l, hl1, hl2, rfl⟩ := okL_of h0 hl
    obtain ⟨c1, c2, c3, c4, c5⟩ := law_at h0.1.2.2.1 hl1
    have hp := Nat.pow_le_pow_right (show 0 < 2 by omega) c2
    rw [nI_clamp (by omega)] at hq
    rw [nI_clamp (show l < 2 ^ 31 by omega), h0.row (by omega), c3, shl1 (by omega)]
    intro R hR
    refine lp_up (R := fun s => R (bestF (cureG A l) s) (nI s)) (2 ^ cmA A l) ?_ ?_ 0 (Nat.zero_le _)
    · exact hR _ _ ⟨vin hl2 (by omega), br_t (nI_le (Nat.le_refl _) (by omega)) hq⟩
    · intro s hs ih
      refine hR _ _ ⟨vin hl2 (by omega), br_f (nI_ge hs (by omega)) ?_⟩
      intro R55 h55 R44 h44
      have keep : bestF (cureG A l) (s + 1) = bestF (cureG A l) s → R55 (bestF (cureG A l) s) := fun z => by
        rw [z] at ih
        exact h55 _ (by rw [nI_1]; exact ih)
      have take : bestF (cureG A l) (s + 1) = nI s → R55 (nI s) := fun z => by
        rw [z] at ih
        exact h55 _ (by rw [nI_1]; exact ih)
      have try' : (bestF (cureG A l) s = -1 ∨ befI (nI s) (bestF (cureG A l) s)) → R44 := fun hb => h44 (s12_againstWithout h0 hl1 (bn_c (fun z => keep (bestF_f (fun q => z q.2))) (fun z => take (bestF_t ⟨hb, z⟩))))
      refine br_c (fun z => try' (Or.inl z)) (fun z => s12_isBefore (fun hb => br_f (by decide) (try' (Or.inr hb))) (fun hb => br_t rfl (keep (bestF_f (fun q => q.1.elim z hb)))))
  · rw [cureS, if_neg hn] at hq; exact hq
theorem s11_cure {P : jP} {M : jM} {A : aS} (h : RelC P M A) {a : Int32} {Q : Int32 → Prop} (hq : Q (cureS A a)) : w_X11_cure P a M Q := by
  unfold w_X11_cure
  refine s11_lawAt h (fun hn => ⟨fun z => absurd rfl z, fun _ => ?_⟩) (fun l hl el => ⟨fun _ => ?_, fun z => absurd z (by omega)⟩)
  · rw [cureS, if_neg hn] at hq; exact hq
  · subst el
    have ol := okL_mk (M := M) h.1 hl
    obtain ⟨c1, c2, c3, c4, c5⟩ := law_at h.1.2.2.1 hl
    have hp := Nat.pow_le_pow_right (show 0 < 2 by omega) c2
    rw [cureS, if_pos ol.1, nI_clamp (by omega)] at hq
    rw [h.many hl, c3, shl1 (by omega)]
    intro R hR
    refine lp_up (R := fun s => R (bestF (cureG A l) s) (nI s)) (2 ^ cmA A l) ?_ ?_ 0 (Nat.zero_le _)
    · exact hR _ _ ⟨h.lw hl, br_t (nI_le (Nat.le_refl _) (by omega)) hq⟩
    · intro s hs ih
      refine hR _ _ ⟨h.lw hl, br_f (nI_ge hs (by omega)) ?_⟩
      refine s11_isAhead (fun hb => ?_) (fun hb => ?_)
      · intro R53 h53
        refine br_f (by decide) (s11_againstWithout h hl (bn_c (fun z => h53 _ ?_) (fun z => h53 _ ?_)))
        · rw [bestF_f (fun q => z q.2)] at ih
          rw [nI_1]; exact ih
        · rw [bestF_t ⟨hb, z⟩] at ih
          rw [nI_1]; exact ih
      · intro R53 h53
        refine br_t rfl (h53 _ ?_)
        rw [bestF_f (fun q => hb q.1)] at ih
        rw [nI_1]; exact ih
/-! mend -/
def mendB (A : aS) (l m k : Nat) : Bool := !(decide (k < cmA A l) && (A.2 11 (12 * l + k) == A.2 11 (12 * m + k)) && !anyB (fun c => (hdA A l c).testBit k != (hdA A m c).testBit k) (2 ^ A.1 0))
def mendS (A : aS) (a b : Int32) : Int32 := if okL A a ∧ okL A b then nI (bitsN (mendB A a.toNatClampNeg b.toNatClampNeg) (cmA A b.toNatClampNeg)) else -1
theorem s12_alike {P : jP} {M : jM} {A : aS} (h : RelM M A) {l m k : Nat} (hl : l < A.1 2) (hm : m < A.1 2) (hk : k < cmA A m) {Q : Int32 → Prop} (hq : Q (bi (mendB A l m k = false))) : w_X12_isClauseAlike P (nI l) (nI m) (nI k) M Q := by
  have h6 := h.num
  unfold wfNum at h6
  have hC := h.C512
  obtain ⟨c1, c2, c3, c4, c5⟩ := law_at h.1.2.2.1 hl
  obtain ⟨d1, d2, d3, d4, d5⟩ := law_at h.1.2.2.1 hm
  unfold w_X12_isClauseAlike
  refine ⟨vin (show l < 6 by omega) (by omega), ?_⟩
  rw [nI_clamp (show l < 2 ^ 31 by omega), h.row (by omega), c3]
  refine br_c (fun z => ?_) (fun z => ?_)
  · have := (nI_leI (by omega) (by omega)).mp z
    rw [bi_f (by unfold mendB; simp; omega)] at hq
    exact hq
  · have hkl : k < cmA A l := by
      have := mt (nI_leI (a := cmA A l) (b := k) (by omega) (by omega)).mpr z
      omega
    have ix := ix12 (l := l) (k := k) (N := 72) (by omega) (by omega)
    have iy := ix12 (l := m) (k := k) (N := 72) (by omega) (by omega)
    refine ⟨ix.1, iy.1, ?_⟩
    rw [ix.2, iy.2, h.row (by omega), h.row (by omega), h.cases]
    refine br_c (fun e => ?_) (fun e => ?_)
    · intro R hR
      refine any_loop (p := fun c => (hdA A l c).testBit k != (hdA A m c).testBit k) (C := 2 ^ A.1 0) (Y := Q 0) (N := Q 1) (fun y => ?_) (fun y => ?_) (fun y => hR _ (br_t (nI_le (Nat.le_refl _) (by omega)) y)) (fun c hc hp y => ?_) (fun c hc hp y => ?_)
      · rw [bi_f (by unfold mendB; rw [anyB_iff.mpr y]; simp)] at hq
        exact hq
      · have hno : anyB (fun c => (hdA A l c).testBit k != (hdA A m c).testBit k) (2 ^ A.1 0) = false := by
          rw [Bool.eq_false_iff]; exact fun q => y (anyB_iff.mp q)
        rw [bi_t (by unfold mendB; rw [hno]; simp [hkl, e])] at hq
        exact hq
      · obtain ⟨u1, u2, u3, -⟩ := c5 c hc
        obtain ⟨v1, v2, v3, -⟩ := d5 c hc
        refine hR _ (br_f (nI_ge hc (by omega)) ⟨(ix512 (by omega) (by omega)).1, ?_⟩)
        rw [(ix512 (show l < 6 by omega) (by omega)).2, h.row (by omega), u3]
        refine s12_has (by omega) (by omega) ⟨(ix512 (by omega) (by omega)).1, ?_⟩
        rw [(ix512 (show m < 6 by omega) (by omega)).2, h.row (by omega), v3]
        refine s12_has (by omega) (by omega) ?_
        rw [bi_ne]
        exact br_f (by simpa using hp) y
      · obtain ⟨u1, u2, u3, -⟩ := c5 c hc
        obtain ⟨v1, v2, v3, -⟩ := d5 c hc
        refine hR _ (br_f (nI_ge hc (by omega)) ⟨(ix512 (by omega) (by omega)).1, ?_⟩)
        rw [(ix512 (show l < 6 by omega) (by omega)).2, h.row (by omega), u3]
        refine s12_has (by omega) (by omega) ⟨(ix512 (by omega) (by omega)).1, ?_⟩
        rw [(ix512 (show m < 6 by omega) (by omega)).2, h.row (by omega), v3]
        refine s12_has (by omega) (by omega) ?_
        rw [bi_ne]
        refine br_t (by simpa using hp) ?_
        rw [nI_1]; exact y
    · rw [bi_f (by unfold mendB; simp [e])] at hq
      exact hq
theorem s12_mend {P : jP} {M : jM} {A : aS} (h : RelM M A) {a b : Int32} {Q : Int32 → jM → Prop} (hq : ∀ M', RelM M' A → Q (mendS A a b) M') : w_X12_mend P a b M Q := by
  unfold w_X12_mend
  have h0 := h.thr 0
  generalize upM M 1 0 0 = M0 at h0 ⊢
  have hq := hq M0 h0
  refine s12_isLaw h0 (br_i (fun hn => ?_) (fun hl => s12_isLaw h0 (br_j (fun hm => ?_) (fun hn => ?_))))
  · rw [mendS, if_neg (fun z => hn z.1)] at hq; exact hq
  · rw [mendS, if_pos ⟨hl, hm⟩] at hq
    obtain ⟨l, hl1, hl2, rfl⟩ := okL_of h0 hl
    obtain ⟨m, hm1, hm2, rfl⟩ := okL_of h0 hm
    rw [nI_clamp (by omega), nI_clamp (by omega)] at hq
    obtain ⟨d1, d2, d3, d4, d5⟩ := law_at h0.1.2.2.1 hm1
    rw [nI_clamp (show m < 2 ^ 31 by omega), h0.row (by omega), d3]
    intro R hR
    refine lp_up (R := fun k => R (nI (bitsN (mendB A l m) k)) (nI k)) (cmA A m) ?_ ?_ 0 (Nat.zero_le _)
    · exact hR _ _ ⟨vin hm2 (by omega), br_t (nI_le (Nat.le_refl _) (by omega)) hq⟩
    · intro k hk ih
      rw [bitsN_or] at ih
      refine hR _ _ ⟨vin hm2 (by omega), br_f (nI_ge hk (by omega)) (s12_alike h0 hl1 hm1 hk ?_)⟩
      intro R59 h59
      refine br_i (fun z => h59 _ ?_) (fun z => h59 _ ?_)
      · rw [if_pos (by simpa using z)] at ih
        rw [shl1 (by omega), nI_or, nI_1]; exact ih
      · rw [if_neg (by simpa using z)] at ih
        rw [show (0 : Int32) = nI 0 from rfl, nI_or, nI_1]; exact ih
  · rw [mendS, if_neg (fun z => hn z.2)] at hq; exact hq
def xorN (A : aS) (l m : Nat) : Nat → Nat
  | 0 => 0
  | c + 1 => xorN A l m c ||| (hdA A l c ^^^ hdA A m c)
theorem xorN_bit (A : aS) (l m k : Nat) : ∀ n, (xorN A l m n).testBit k = true ↔ ∃ c, c < n ∧ ((hdA A l c).testBit k != (hdA A m c).testBit k) = true
  | 0 => by
    constructor
    · intro z; simp [xorN] at z
    · rintro ⟨c, hc, -⟩; omega
  | n + 1 => by
    show (xorN A l m n ||| _).testBit k = true ↔ _
    rw [Nat.testBit_or, Bool.or_eq_true, xorN_bit A l m k n, Nat.testBit_xor]
    constructor
    · rintro (⟨c, h1, h2⟩ | z)
      · exact ⟨c, by omega, h2⟩
      · exact ⟨n, by omega, z⟩
    · rintro ⟨c, h1, h2⟩
      by_cases hc : c = n
      · subst hc; exact Or.inr h2
      · exact Or.inl ⟨c, by omega, h2⟩
theorem s11_mend {P : jP} {M : jM} {A : aS} (h : RelC P M A) {a b : Int32} {Q : Int32 → Prop} (hq : Q (mendS A a b)) : w_X11_mend P a b M Q := by
  have hC := h.C512
  unfold w_X11_mend
  refine s11_lawAt h (fun hn => s11_lawAt h (fun _ => br_t rfl ?_) (fun m hm em => br_t rfl ?_)) (fun l hl el => s11_lawAt h (fun hn => br_f (by omega) ⟨fun z => absurd rfl z, fun _ => ?_⟩) (fun m hm em => br_f (by omega) ⟨fun _ => ?_, fun z => absurd z (by omega)⟩))
  · rw [mendS, if_neg (fun z => hn z.1)] at hq; exact hq
  · rw [mendS, if_neg (fun z => hn z.1)] at hq; exact hq
  · rw [mendS, if_neg (fun z => hn z.2)] at hq; exact hq
  · subst el em
    have ol := okL_mk (M := M) h.1 hl
    have om := okL_mk (M := M) h.1 hm
    rw [mendS, if_pos ⟨ol.1, om.1⟩, nI_clamp (by omega), nI_clamp (by omega)] at hq
    obtain ⟨c1, c2, c3, c4, c5⟩ := law_at h.1.2.2.1 hl
    obtain ⟨d1, d2, d3, d4, d5⟩ := law_at h.1.2.2.1 hm
    rw [h.cases, h.many hl, h.many hm, c3, d3]
    intro R hR
    refine lp_up (R := fun c => R (nI (xorN A l m c)) (nI c)) (2 ^ A.1 0) ?_ ?_ 0 (Nat.zero_le _)
    · refine hR _ _ (br_t (nI_le (Nat.le_refl _) (by omega)) ?_)
      intro R72 h72
      obtain ⟨g, hg⟩ : ∃ g : Nat → Bool, g = fun k => !(decide (k < cmA A l) && (A.2 11 (12 * l + k) == A.2 11 (12 * m + k))) := ⟨_, rfl⟩
      have fin : (xorN A l m (2 ^ A.1 0) ||| bitsN g (cmA A m)) &&& (2 ^ cmA A m - 1) = bitsN (mendB A l m) (cmA A m) := by
        apply Nat.eq_of_testBit_eq
        intro k
        rw [Nat.testBit_and, Nat.testBit_or, bitsN_bit, bitsN_bit, Nat.testBit_two_pow_sub_one]
        by_cases hk : k < cmA A m
        · simp only [hk, decide_true, Bool.true_and, Bool.and_true]
          have hx : (xorN A l m (2 ^ A.1 0)).testBit k = anyB (fun c => (hdA A l c).testBit k != (hdA A m c).testBit k) (2 ^ A.1 0) := by
            rw [Bool.eq_iff_iff, xorN_bit, anyB_iff]
          rw [hx, hg]
          unfold mendB
          cases anyB (fun c => (hdA A l c).testBit k != (hdA A m c).testBit k) (2 ^ A.1 0) <;> simp
        · simp [hk]
      have key := lp_up (R := fun k => R72 (nI (xorN A l m (2 ^ A.1 0) ||| bitsN g k)) (nI k)) (cmA A m) ?_ ?_ 0 (Nat.zero_le _)
      · rw [show bitsN g 0 = 0 from rfl, Nat.or_zero] at key
        exact key
      · refine h72 _ _ ⟨h.lw hm, br_t (nI_le (Nat.le_refl _) (by omega)) ⟨h.lw hm, ?_⟩⟩
        have hp := Nat.two_pow_pos (cmA A m)
        rw [shl1 (by omega), show (1 : Int32) = nI 1 from rfl, pk_sub (by omega), nI_and, fin]
        exact hq
      · intro k hk ih
        rw [bitsN_or, ← Nat.or_assoc] at ih
        refine h72 _ _ ⟨h.lw hm, br_f (nI_ge hk (by omega)) ⟨h.lw hl, ?_⟩⟩
        intro R118 h118 R109 h109
        have no : ¬ g k = true → R118 (nI (xorN A l m (2 ^ A.1 0) ||| bitsN g k)) := fun z => by
          rw [if_neg z, Nat.or_zero] at ih
          exact h118 _ (by rw [nI_1]; exact ih)
        have yes : g k = true → R109 := fun z => by
          rw [if_pos z] at ih
          exact h109 (h118 _ (by rw [shl1 (by omega), nI_or, nI_1]; exact ih))
        have hgk : g k = !(decide (k < cmA A l) && (A.2 11 (12 * l + k) == A.2 11 (12 * m + k))) := by rw [hg]
        rw [hgk] at no yes
        refine br_c (fun z => yes ?_) (fun z => ⟨h.lw hl, jin_of (h.ia hl).1 (by omega) (by omega), h.lw hm, jin_of (h.ia hm).1 (by omega) (by omega), ?_⟩)
        · have := (nI_leI (by omega) (by omega)).mp z
          simp; omega
        · have hkl : k < cmA A l := by
            have := mt (nI_leI (a := cmA A l) (b := k) (by omega) (by omega)).mpr z
            omega
          rw [nI_clamp (show k < 2 ^ 31 by omega), h.out hl hkl, h.out hm hk]
          exact br_c (fun e => no (by simp [hkl, e])) (fun e => yes (by simp [e]))
    · intro c hc ih
      obtain ⟨u1, u2, u3, -⟩ := c5 c hc
      obtain ⟨v1, v2, v3, -⟩ := d5 c hc
      refine hR _ _ (br_f (nI_ge hc (by omega)) ⟨h.lw hl, jin_of (h.ia hl).2.1 hc (by omega), h.lw hm, jin_of (h.ia hm).2.1 hc (by omega), fun y hy => ?_⟩)
      rw [nI_clamp (show c < 2 ^ 31 by omega), h.held hl hc, h.held hm hc, u3, v3, nI_xor, nI_or] at hy
      subst hy
      rw [nI_1]; exact ih
