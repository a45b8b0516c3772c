/-! EASY METHODS, both sides: clauses, apart, unlike, unused -/
def firstF (p : Nat → Bool) (C : Nat) : Int32 := match (List.range C).find? p with
  | some c => nI c
  | none => -1
theorem firstF_at {p : Nat → Bool} {C c : Nat} (hc : c < C) (hp : p c = true) (hb : ∀ d, d < c → ¬ p d = true) : firstF p C = nI c := by
  unfold firstF
  cases hf : (List.range C).find? p with
  | none => exact absurd hp (by simpa using List.find?_eq_none.mp hf c (List.mem_range.mpr hc))
  | some d =>
    obtain ⟨h1, as, bs, h2, h3⟩ := List.find?_eq_some_iff_append.mp hf
    show nI d = nI c
    congr 1
    rcases Nat.lt_trichotomy d c with h | h | h
    · exact absurd h1 (hb d h)
    · exact h
    · exfalso
      have e1 : (as ++ d :: bs)[as.length]? = some d := by simp
      rw [← h2] at e1
      have l1 : as.length < C := by
        have := (List.getElem?_eq_some_iff.mp e1).1
        simpa using this
      rw [List.getElem?_range l1] at e1
      have e2 : as.length = d := Option.some.inj e1
      have e3 : (as ++ d :: bs)[c]? = some c := by rw [← h2, List.getElem?_range hc]
      rw [List.getElem?_append_left (by omega)] at e3
      have := h3 c (List.mem_of_getElem? e3)
      rw [hp] at this
      simp at this
theorem firstF_no {p : Nat → Bool} {C : Nat} (h : ∀ c, c < C → ¬ p c = true) : firstF p C = -1 := by
  unfold firstF
  cases hf : (List.range C).find? p with
  | none => rfl
  | some d => exact absurd (List.find?_some hf) (h d (List.mem_range.mp (List.mem_of_find?_eq_some hf)))
theorem first_loop {R : Int32 → Prop} {p : Nat → Bool} {C : Nat} {Q : Int32 → Prop} (hq : Q (firstF p C)) (hend : Q (-1) → R (nI C)) (hyes : ∀ c, c < C → p c = true → Q (nI c) → R (nI c)) (hno : ∀ c, c < C → ¬ p c = true → R (nI (c + 1)) → R (nI c)) : R 0 := by
  refine lp_up (R := fun c => (∀ d, d < c → ¬ p d = true) → R (nI c)) C ?_ ?_ 0 (Nat.zero_le _) (fun d hd => absurd hd (Nat.not_lt_zero d))
  · intro hall
    rw [firstF_no hall] at hq
    exact hend hq
  · intro c hc ih hall
    by_cases hp : p c = true
    · rw [firstF_at hc hp hall] at hq
      exact hyes c hc hp hq
    · refine hno c hc hp (ih (fun d hd => ?_))
      rcases Nat.lt_succ_iff_lt_or_eq.mp hd with h1 | h1
      · exact hall d h1
      · subst h1; exact hp
theorem okL_mk {M : jM} {A : aS} (h : wfA A) {l : Nat} (hl : l < A.1 2) : okL A (nI l) ∧ l < 6 := by
  have h6 := h.1
  unfold wfNum at h6
  exact ⟨(ok3 (by omega)).mpr ⟨l, hl, rfl⟩, by omega⟩
theorem okF_mk {A : aS} (h : wfA A) {l : Nat} (hl : l < A.1 4) : okF A (nI l) ∧ l < 6 := by
  have h6 := h.1
  unfold wfNum at h6
  exact ⟨(ok3 (by omega)).mpr ⟨l, hl, rfl⟩, by omega⟩
theorem C512 {A : aS} (h : wfA A) : 2 ^ A.1 0 ≤ 512 := two_le h.1.1.2
theorem okC_mk {A : aS} (h : wfA A) {a : Int32} (ha : okC A a) : ∃ c, c < 2 ^ A.1 0 ∧ c < 512 ∧ a = nI c := by
  have := C512 h
  obtain ⟨l, h1, h2⟩ := (ok3 (by omega)).mp ha
  exact ⟨l, h1, by omega, h2⟩
/-! clauses -/
def clausesS (A : aS) (a c : Int32) : Int32 := if okL A a ∧ okC A c then A.2 9 (512 * a.toNatClampNeg + c.toNatClampNeg) else -1
theorem s12_clauses {P : jP} {M : jM} {A : aS} (h : RelM M A) {a c : Int32} {Q : Int32 → jM → Prop} (hq : ∀ M', RelM M' A → Q (clausesS A a c) M') : w_X12_clauses P a c M Q := by
  unfold w_X12_clauses
  have h0 := h.thr 0
  generalize upM M 1 0 0 = M0 at h0 ⊢
  have hq := hq M0 h0
  refine s12_isLaw h0 (br_i (fun hn => ?_) (fun hl => s12_isCase h0 (br_i (fun hn => ?_) (fun hc => ?_))))
  · rw [clausesS, if_neg (fun z => hn z.1)] at hq; exact hq
  · rw [clausesS, if_neg (fun z => hn z.2)] at hq; exact hq
  · rw [clausesS, if_pos ⟨hl, hc⟩] at hq
    obtain ⟨l, hl1, hl2, rfl⟩ := okL_of h0 hl
    obtain ⟨c, hc1, hc2, rfl⟩ := okC_of h0 hc
    rw [nI_clamp (by omega), nI_clamp (by omega)] at hq
    refine ⟨(ix512 hl2 hc2).1, ?_⟩
    rw [(ix512 hl2 hc2).2, h0.row (by omega)]
    exact hq
theorem s11_clauses {P : jP} {M : jM} {A : aS} (h : RelC P M A) {a c : Int32} {Q : Int32 → Prop} (hq : Q (clausesS A a c)) : w_X11_clauses P a c M Q := by
  have hC := h.C512
  unfold w_X11_clauses
  refine s11_lawAt h (fun hn => br_t rfl ?_) (fun l hl el => br_f (by omega) (s11_isCase h (br_j (fun hc => ?_) (fun hn => ?_))))
  · rw [clausesS, if_neg (fun z => hn z.1)] at hq; exact hq
  · subst el
    obtain ⟨ho, h6⟩ := okL_mk (M := M) h.1 hl
    rw [clausesS, if_pos ⟨ho, hc⟩] at hq
    obtain ⟨c, hc1, hc2, rfl⟩ := okC_mk h.1 hc
    rw [nI_clamp (by omega), nI_clamp (by omega)] at hq
    refine ⟨h.lw hl, jin_of (h.ia hl).2.1 hc1 (by omega), ?_⟩
    rw [nI_clamp (by omega), h.held hl hc1]
    exact hq
  · rw [clausesS, if_neg (fun z => hn z.2)] at hq; exact hq
/-! unlike -/
def unlikeS (A : aS) (a b : Int32) : Int32 := if okF A a ∧ okF A b then firstF (fun c => !(leadV A a.toNatClampNeg c == leadV A b.toNatClampNeg c)) (2 ^ A.1 0) else -1
theorem s12_unlike {P : jP} {M : jM} {A : aS} (h : RelM M A) {a b : Int32} {Q : Int32 → jM → Prop} (hq : ∀ M', RelM M' A → Q (unlikeS A a b) M') : w_X12_unlike P a b M Q := by
  unfold w_X12_unlike
  have h0 := h.thr 0
  generalize upM M 1 0 0 = M0 at h0 ⊢
  have hq := hq M0 h0
  refine s12_isForm h0 (br_i (fun hn => ?_) (fun hl => s12_isForm h0 (br_j (fun hm => ?_) (fun hn => ?_))))
  · rw [unlikeS, if_neg (fun z => hn z.1)] at hq; exact hq
  · rw [unlikeS, if_pos ⟨hl, hm⟩] at hq
    obtain ⟨f, hf1, hf2, rfl⟩ := okF_of h0 hl
    obtain ⟨g, hg1, hg2, rfl⟩ := okF_of h0 hm
    rw [nI_clamp (by omega), nI_clamp (by omega)] at hq
    have hC := h0.C512
    rw [h0.cases]
    intro R hR
    refine first_loop (Q := fun r => Q r M0) hq (fun z => hR _ (br_t (nI_le (Nat.le_refl _) (by omega)) z)) (fun c hc hp z => hR _ (br_f (nI_ge hc (by omega)) ?_)) (fun c hc hp z => hR _ (br_f (nI_ge hc (by omega)) ?_))
    · exact s12_leadsOn h0 hf1 (by omega) (s12_leadsOn h0 hg1 (by omega) (br_f (by simpa using hp) z))
    · refine s12_leadsOn h0 hf1 (by omega) (s12_leadsOn h0 hg1 (by omega) (br_t (by simpa using hp) ?_))
      rw [nI_1]; exact z
  · rw [unlikeS, if_neg (fun z => hn z.2)] at hq; exact hq
theorem s11_unlike {P : jP} {M : jM} {A : aS} (h : RelC P M A) {a b : Int32} {Q : Int32 → Prop} (hq : Q (unlikeS A a b)) : w_X11_unlike P a b M Q := by
  have hC := h.C512
  unfold w_X11_unlike
  refine s11_formAt h (fun hn => s11_formAt h (fun _ => br_t rfl ?_) (fun m hm em => br_t rfl ?_)) (fun f hf ef => s11_formAt h (fun hn => br_f (by omega) ⟨fun z => absurd rfl z, fun _ => ?_⟩) (fun g hg eg => br_f (by omega) ⟨fun _ => ?_, fun z => absurd z (by omega)⟩))
  · rw [unlikeS, if_neg (fun z => hn z.1)] at hq; exact hq
  · rw [unlikeS, if_neg (fun z => hn z.1)] at hq; exact hq
  · rw [unlikeS, if_neg (fun z => hn z.2)] at hq; exact hq
  · subst ef eg
    have of := okF_mk h.1 hf
    have og := okF_mk h.1 hg
    rw [unlikeS, if_pos ⟨of.1, og.1⟩, nI_clamp (by omega), nI_clamp (by omega)] at hq
    rw [h.cases]
    intro R hR
    refine first_loop hq (fun z => hR _ (br_t (nI_le (Nat.le_refl _) (by omega)) z)) (fun c hc hp z => hR _ (br_f (nI_ge hc (by omega)) ?_)) (fun c hc hp z => hR _ (br_f (nI_ge hc (by omega)) ?_))
    · exact ⟨h.fm hf, s11_outcomeOn h hf (by omega) ⟨h.fm hg, s11_outcomeOn h hg (by omega) (br_f (by simpa using hp) z)⟩⟩
    · refine ⟨h.fm hf, s11_outcomeOn h hf (by omega) ⟨h.fm hg, s11_outcomeOn h hg (by omega) (br_t (by simpa using hp) ?_)⟩⟩
      rw [nI_1]; exact z
/-! apart -/
def apartS (A : aS) (a b i : Int32) : Int32 := if okF A a ∧ okL A b then hitsF (fun c => !(leadV A a.toNatClampNeg c == sdA A b.toNatClampNeg c)) (2 ^ A.1 0) i else -1
theorem s12_apart {P : jP} {M : jM} {A : aS} (h : RelM M A) {a b i : Int32} {Q : Int32 → jM → Prop} (hq : ∀ M', RelM M' A → Q (apartS A a b i) M') : w_X12_apart P a b i M Q := by
  unfold w_X12_apart
  have h0 := h.thr 0
  generalize upM M 1 0 0 = M0 at h0 ⊢
  have hq := hq M0 h0
  refine s12_isForm h0 (br_i (fun hn => ?_) (fun hl => s12_isLaw h0 (br_j (fun hm => ?_) (fun hn => ?_))))
  · rw [apartS, if_neg (fun z => hn z.1)] at hq; exact hq
  · rw [apartS, if_pos ⟨hl, hm⟩] at hq
    obtain ⟨l, hl1, hl2, rfl⟩ := okF_of h0 hl
    obtain ⟨m, hm1, hm2, rfl⟩ := okL_of h0 hm
    rw [nI_clamp (by omega), nI_clamp (by omega)] at hq
    have hC := h0.C512
    rw [h0.cases]
    intro R hR
    refine hits12 (Q := fun r => Q r M0) (i := i) hC hq (fun x hx => hR _ _ (br_t (nI_le (Nat.le_refl _) (by omega)) hx)) (fun c x hc hp hx => hR _ _ (br_f (nI_ge hc (by omega)) ?_)) (fun c x hc hp hx => hR _ _ (br_f (nI_ge hc (by omega)) ?_))
    · refine s12_leadsOn h0 hl1 (by omega) (s12_saidOn h0 hm2 (by omega) ?_)
      intro R70 h70
      refine bn_t (by simpa using hp) (h70 _ ?_)
      rw [nI_1]; exact hx
    · refine s12_leadsOn h0 hl1 (by omega) (s12_saidOn h0 hm2 (by omega) ?_)
      intro R70 h70
      refine bn_f (by simpa using hp) (bn_c (fun z => h70 _ ?_) (fun z => hx.2 z))
      rw [nI_1]; exact hx.1 z
  · rw [apartS, if_neg (fun z => hn z.2)] at hq; exact hq
theorem RelC.k13 {P : jP} {M M' : jM} {A : aS} (h : RelC P M A) (hM : ∀ k, k ≠ 13 → M' k = M k) : RelC P M' A :=
  h.keep [13] (by decide) (fun k hk j => by rcases List.mem_singleton.mp hk with rfl; exact fun z => z) (fun k hk => hM k (fun e => hk (by rw [e]; exact List.mem_singleton.mpr rfl)))
theorem s11_apart {P : jP} {M : jM} {A : aS} (h : RelC P M A) {a b i : Int32} {Q : Int32 → jM → Prop} (hq : ∀ M', (∀ k, k ≠ 13 → M' k = M k) → Q (apartS A a b i) M') : w_X11_apart P a b i M Q := by
  have hC := h.C512
  unfold w_X11_apart
  refine s11_formAt h (fun hn => s11_lawAt h (fun _ => br_t rfl ?_) (fun m hm em => br_t rfl ?_)) (fun l hl el => s11_lawAt h (fun hn => br_f (by omega) ⟨fun z => absurd rfl z, fun _ => ?_⟩) (fun m hm em => br_f (by omega) ⟨fun _ => ?_, fun z => absurd z (by omega)⟩))
  · have hq := hq M (fun _ _ => rfl)
    rw [apartS, if_neg (fun z => hn z.1)] at hq; exact hq
  · have hq := hq M (fun _ _ => rfl)
    rw [apartS, if_neg (fun z => hn z.1)] at hq; exact hq
  · have hq := hq M (fun _ _ => rfl)
    rw [apartS, if_neg (fun z => hn z.2)] at hq; exact hq
  · subst el em
    have ol := okF_mk h.1 hl
    have om := okL_mk (M := M) h.1 hm
    have e : apartS A (nI l) (nI m) i = hitsF (fun c => !(leadV A l c == sdA A m c)) (2 ^ A.1 0) i := by
      rw [apartS, if_pos ⟨ol.1, om.1⟩, nI_clamp (by omega), nI_clamp (by omega)]
    rw [e] at hq
    intro R hR
    have sd : ∀ M' : jM, (∀ k, k ≠ 13 → M' k = M k) → ∀ c, c < 2 ^ A.1 0 → M' (64 + 8 * m + 3) (nI c).toNatClampNeg = sdA A m c := fun M' hM c hc => by
      rw [nI_clamp (by omega), hM _ (by omega)]; exact h.said hm hc
    refine hits11 h.z1 hC hq (fun x M' hM hx => hR _ _ _ ?_) (fun c x M' hc hM hp hx => hR _ _ _ ?_) (fun c x M' hc hxc hM hp hx => hR _ _ _ ?_)
    · rw [(h.k13 hM).cases]
      exact br_t (nI_le (Nat.le_refl _) (by omega)) hx
    · rw [(h.k13 hM).cases]
      refine br_f (nI_ge hc (by omega)) ⟨h.fm hl, s11_outcomeOn (h.k13 hM) hl (by omega) ⟨h.lw hm, jin_of (h.ia hm).2.2.1 hc (by omega), ?_⟩⟩
      rw [sd M' hM c hc]
      intro R41 h41
      refine br_t (by simpa using hp) (h41 _ _ ?_)
      rw [nI_1]; exact hx
    · rw [(h.k13 hM).cases]
      refine br_f (nI_ge hc (by omega)) ⟨h.fm hl, s11_outcomeOn (h.k13 hM) hl (by omega) ⟨h.lw hm, jin_of (h.ia hm).2.2.1 hc (by omega), ?_⟩⟩
      rw [sd M' hM c hc]
      intro R41 h41
      refine br_f (by simpa using hp) ⟨by rw [h.z1]; exact vin (by omega) (by omega), h41 _ _ ?_⟩
      rw [nI_1 c, nI_clamp (by omega)]
      exact hx
/-! unused -/
theorem and_not_or (a u v : Int32) : (a &&& (u ^^^ (-1))) &&& (v ^^^ (-1)) = a &&& ((u ||| v) ^^^ (-1)) := by
  apply Int32.toBitVec_inj.mp
  apply BitVec.eq_of_getLsbD_eq
  intro i hi
  have hm : (-1 : Int32).toBitVec = BitVec.allOnes 32 := by decide
  simp only [Int32.toBitVec_and, Int32.toBitVec_or, Int32.toBitVec_xor, hm, BitVec.getLsbD_and, BitVec.getLsbD_or, BitVec.getLsbD_xor, BitVec.getLsbD_allOnes, hi, decide_true]
  cases a.toBitVec.getLsbD i <;> cases u.toBitVec.getLsbD i <;> cases v.toBitVec.getLsbD i <;> rfl
def usedN (A : aS) (f : Nat) : Nat → Nat
  | 0 => 0
  | i + 1 => usedN A f i ||| nodesF A f i 12 0 0
def unusedS (A : aS) (a : Int32) : Int32 := if okF A a then (nI (2 ^ (A.2 7 a.toNatClampNeg).toNatClampNeg) - 1) &&& (nI (usedN A a.toNatClampNeg (2 ^ A.1 0)) ^^^ (-1)) else -1
theorem s12_unused {P : jP} {M : jM} {A : aS} (h : RelM M A) {a : Int32} {Q : Int32 → jM → Prop} (hq : ∀ M', RelM M' A → Q (unusedS A a) M') : w_X12_unused P a M Q := by
  unfold w_X12_unused
  have h0 := h.thr 0
  generalize upM M 1 0 0 = M0 at h0 ⊢
  have hq := hq M0 h0
  refine s12_isForm h0 (br_j (fun hl => ?_) (fun hn => ?_))
  · rw [unusedS, if_pos hl] at hq
    obtain ⟨f, hf1, hf2, rfl⟩ := okF_of h0 hl
    rw [nI_clamp (by omega)] at hq ⊢
    have hC := h0.C512
    obtain ⟨nm, h1, h2, h3, -⟩ := form_ok h0.1.2.2.2.1 hf1
    refine ⟨vin (by omega) (by omega), ?_⟩
    intro y hy
    rw [h0.many hf2, h3, shl1 (by omega)] at hy
    rw [h3, nI_clamp (by omega)] at hq
    rw [h0.cases]
    intro R hR
    have key := lp_up (R := fun i => R (y &&& (nI (usedN A f i) ^^^ (-1))) (nI i)) (2 ^ A.1 0) ?_ ?_ 0 (Nat.zero_le _)
    · have e : y &&& (nI (usedN A f 0) ^^^ (-1)) = y := by
        apply Int32.toBitVec_inj.mp
        apply BitVec.eq_of_getLsbD_eq
        intro i hi
        have hm : (nI (usedN A f 0) ^^^ (-1) : Int32).toBitVec = BitVec.allOnes 32 := (by decide : (nI 0 ^^^ (-1) : Int32).toBitVec = BitVec.allOnes 32)
        simp only [Int32.toBitVec_and, hm, BitVec.getLsbD_and, BitVec.getLsbD_allOnes, hi, decide_true, Bool.and_true]
      rw [e] at key
      exact key
    · refine hR _ _ (br_t (nI_le (Nat.le_refl _) (by omega)) ?_)
      rw [hy]; exact hq
    · intro c hc ih
      refine hR _ _ (br_f (nI_ge hc (by omega)) (s12_comesTo h0 hf1 (by omega) ?_))
      rw [and_not_or, nI_or, nI_1]
      exact ih
  · rw [unusedS, if_neg hn] at hq; exact hq
theorem s11_unused {P : jP} {M : jM} {A : aS} (h : RelC P M A) {a : Int32} {Q : Int32 → Prop} (hq : Q (unusedS A a)) : w_X11_unused P a M Q := by
  have hC := h.C512
  unfold w_X11_unused
  refine s11_formAt h (fun hn => ⟨fun z => absurd rfl z, fun _ => ?_⟩) (fun f hf ef => ⟨fun _ => ?_, fun z => absurd z (by omega)⟩)
  · rw [unusedS, if_neg hn] at hq; exact hq
  · subst ef
    have of := okF_mk h.1 hf
    obtain ⟨nm, h1, h2, h3, -⟩ := form_ok h.1.2.2.2.1 hf
    rw [unusedS, if_pos of.1, nI_clamp (by omega), h3, nI_clamp (by omega)] at hq
    rw [h.cases, h.fmany hf, h3, shl1 (by omega)]
    intro R hR
    refine lp_up (R := fun i => R (nI (usedN A f i)) (nI i)) (2 ^ A.1 0) ?_ ?_ 0 (Nat.zero_le _)
    · exact hR _ _ (br_t (nI_le (Nat.le_refl _) (by omega)) ⟨h.fm hf, hq⟩)
    · intro c hc ih
      refine hR _ _ (br_f (nI_ge hc (by omega)) ⟨h.fm hf, s11_nodesOn h hf (by omega) ?_⟩)
      rw [nI_or, nI_1]
      exact ih
