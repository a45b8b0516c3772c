/-! given: both sides -/
def ansA (A : aS) (c : Nat) : Nat := bitsN (fun q => A.2 14 (512 * q + c) == 1) (A.1 3)
theorem ansA_lt {A : aS} (h : wfA A) (c : Nat) : ansA A c < 1024 := by
  have h6 := h.1
  unfold wfNum at h6
  have h1 := bitsN_lt (fun q => A.2 14 (512 * q + c) == 1) (A.1 3)
  have h2 := Nat.pow_le_pow_right (show 0 < 2 by omega) h6.2.2.2.1
  show bitsN _ _ < _
  omega
theorem RelC.ans {P : jP} {M : jM} {A : aS} (h : RelC P M A) {c : Nat} (hc : c < 2 ^ A.1 0) : M 39 c = nI (ansA A c) := h.2.2.1 39 c hc
theorem RelC.qn {P : jP} {M : jM} {A : aS} (h : RelC P M A) : M 9 0 = nI (A.1 3) := h.2.2.1 9 0 rfl
theorem s12_answersOf {P : jP} {M : jM} {A : aS} (h : RelM M A) {s c : Nat} (hs : s < 1024) (hc : c < 2 ^ A.1 0) {Q : Int32 → Prop} (hq : Q (nI (ansA A c &&& s))) : w_X12_answersOf P (nI s) (nI c) M Q := by
  have h6 := h.num
  unfold wfNum at h6
  have hC := h.C512
  have e : ansA A c &&& s = bitsN (fun q => s.testBit q && (A.2 14 (512 * q + c) == 1)) (A.1 3) := by
    apply Nat.eq_of_testBit_eq
    intro i
    unfold ansA
    rw [Nat.testBit_and, bitsN_bit, bitsN_bit]
    cases s.testBit i <;> simp
  rw [e] at hq
  unfold w_X12_answersOf
  rw [h.qs]
  intro R hR
  refine lp_up (R := fun q => R (nI (bitsN (fun q => s.testBit q && (A.2 14 (512 * q + c) == 1)) q)) (nI q)) (A.1 3) ?_ ?_ 0 (Nat.zero_le _)
  · exact hR _ _ (br_t (nI_le (Nat.le_refl _) (by omega)) hq)
  · intro q hq2 ih
    rw [bitsN_or] at ih
    refine hR _ _ (br_f (nI_ge hq2 (by omega)) (s12_has (by omega) (by omega) ?_))
    intro R48 h48
    have no : ¬ (s.testBit q && (A.2 14 (512 * q + c) == 1)) = true → R48 0 := fun z => by
      rw [if_neg z] at ih
      exact h48 _ (by rw [show (0 : Int32) = nI 0 from rfl, nI_or, nI_1]; exact ih)
    have yes : (s.testBit q && (A.2 14 (512 * q + c) == 1)) = true → R48 ((1 : Int32) <<< (nI q &&& 31)) := fun z => by
      rw [if_pos z] at ih
      exact h48 _ (by rw [shl1 (by omega), nI_or, nI_1]; exact ih)
    refine br_i (fun z => no (by simp [z])) (fun z => ?_)
    have ix := ix512q (l := q) (c := c) (by omega) (by omega)
    refine ⟨ix.1, ?_⟩
    rw [ix.2, h.row (by omega)]
    rcases h.1.2.2.2.2.1.2.2.1 q hq2 c hc with y | y
    · exact br_t y (no (by rw [y]; simp))
    · refine br_f (by rw [y]; decide) (yes (by rw [y, z]; rfl))
abbrev mB (A : aS) (s g : Nat) : Nat → Bool := fun c => ansA A c &&& s == g
abbrev cgN (A : aS) (s g : Nat) : Nat := cntB (mB A s g) (2 ^ A.1 0)
theorem and_lt1024 {a b : Nat} (h : a < 1024) : a &&& b < 1024 := Nat.lt_of_le_of_lt Nat.and_le_left h
theorem nI_andeq {a b g : Nat} (ha : a < 1024) (hg : g < 1024) : nI (a &&& b) = nI g ↔ (a &&& b == g) = true := by
  rw [nI_eq (by have := and_lt1024 (b := b) ha; omega) (by omega), beq_iff_eq]
theorem s12_casesOf {P : jP} {M : jM} {A : aS} (h : RelM M A) {s g : Nat} (hs : s < 1024) (hg : g < 1024) {Q : Int32 → Prop} (hq : Q (nI (cgN A s g))) : w_X12_casesOf P (nI s) (nI g) M Q := by
  have hC := h.C512
  unfold w_X12_casesOf
  rw [h.cases]
  intro R hR
  refine lp_up (R := fun c => R (nI (cntB (mB A s g) c)) (nI c)) (2 ^ A.1 0) ?_ ?_ 0 (Nat.zero_le _)
  · exact hR _ _ (br_t (nI_le (Nat.le_refl _) (by omega)) hq)
  · intro c hc ih
    refine hR _ _ (br_f (nI_ge hc (by omega)) (s12_answersOf h hs hc ?_))
    intro R31 h31
    rw [nI_andeq (ansA_lt h.1 c) hg]
    refine bn_c (fun e => h31 _ ?_) (fun e => h31 _ ?_)
    · rw [cntB_f (p := mB A s g) e] at ih
      rw [show (0 : Int32) = nI 0 from rfl, nI_add, nI_1, Nat.add_zero]
      exact ih
    · rw [cntB_t (p := mB A s g) e] at ih
      rw [nI_1, nI_1]
      exact ih
theorem s11_casesGiven {P : jP} {M : jM} {A : aS} (h : RelC P M A) {s g : Nat} (hg : g < 1024) {Q : Int32 → Prop} (hq : Q (nI (cgN A s g))) : w_X6_casesGiven P (nI s) (nI g) M Q := by
  have hC := h.C512
  unfold w_X6_casesGiven
  rw [h.z1]
  intro R hR
  refine lp_up (R := fun c => R (nI (cntB (mB A s g) c)) (nI c)) (2 ^ A.1 0) ?_ ?_ 0 (Nat.zero_le _)
  · exact hR _ _ (br_t (nI_le (Nat.le_refl _) (by omega)) hq)
  · intro c hc ih
    refine hR _ _ (br_f (nI_ge hc (by omega)) ⟨vin hc (by omega), ?_⟩)
    rw [nI_clamp (show c < 2 ^ 31 by omega), h.ans hc, nI_and, nI_andeq (ansA_lt h.1 c) hg]
    intro R31 h31
    refine bn_c (fun e => h31 _ ?_) (fun e => h31 _ ?_)
    · rw [cntB_f (p := mB A s g) e] at ih
      rw [show (0 : Int32) = nI 0 from rfl, nI_add, nI_1, Nat.add_zero]
      exact ih
    · rw [cntB_t (p := mB A s g) e] at ih
      rw [nI_1, nI_1]
      exact ih
/-- what is said on all that match; -2: unlike things, or none matches -/
def lastV (p : Nat → Bool) (sd : Nat → Int32) : Nat → Int32
  | 0 => -2
  | i + 1 => if p i = true then sd i else lastV p sd i
def confB (p : Nat → Bool) (sd : Nat → Int32) (C : Nat) : Bool := (List.range C).any (fun c => p c && (List.range c).any (fun d => p d && !(sd d == sd c)))
theorem confB_iff {p : Nat → Bool} {sd : Nat → Int32} {C : Nat} : confB p sd C = true ↔ ∃ c, c < C ∧ p c = true ∧ ∃ d, d < c ∧ p d = true ∧ sd d ≠ sd c := by
  unfold confB
  simp only [List.any_eq_true, List.mem_range, Bool.and_eq_true, Bool.not_eq_true', beq_eq_false_iff_ne, ne_eq]
def toldV (p : Nat → Bool) (sd : Nat → Int32) (C : Nat) : Int32 := if confB p sd C = true then -2 else lastV p sd C
theorem lastV_all {p : Nat → Bool} {sd : Nat → Int32} : ∀ {i : Nat}, (¬ ∃ c, c < i ∧ p c = true ∧ ∃ d, d < c ∧ p d = true ∧ sd d ≠ sd c) → ∀ d, d < i → p d = true → sd d = lastV p sd i
  | 0, _, d, hd, _ => absurd hd (Nat.not_lt_zero d)
  | i + 1, hn, d, hd, hp => by
    unfold lastV
    by_cases hi : p i = true
    · rw [if_pos hi]
      by_cases e : d = i
      · rw [e]
      · refine Classical.byContradiction fun z => hn ⟨i, by omega, hi, d, by omega, hp, z⟩
    · rw [if_neg hi]
      have : d ≠ i := fun e => hi (e ▸ hp)
      exact lastV_all (fun ⟨c, h1, h2⟩ => hn ⟨c, by omega, h2⟩) d (by omega) hp
theorem told_loop {R : Int32 → Int32 → Prop} {p : Nat → Bool} {sd : Nat → Int32} {C : Nat} {Q : Int32 → Prop} (hsd : ∀ c, c < C → sd c ≠ -2) (hq : Q (toldV p sd C)) (hend : ∀ x, Q x → R x (nI C)) (hno : ∀ c x, c < C → ¬ p c = true → R x (nI (c + 1)) → R x (nI c)) (hyes : ∀ c x, c < C → p c = true → ((x = -2 ∨ x = sd c) → R (sd c) (nI (c + 1))) → (x ≠ -2 → x ≠ sd c → Q (-2)) → R x (nI c)) : R (-2) 0 := by
  refine lp_up (R := fun i => (¬ ∃ c, c < i ∧ p c = true ∧ ∃ d, d < c ∧ p d = true ∧ sd d ≠ sd c) → R (lastV p sd i) (nI i)) C ?_ ?_ 0 (Nat.zero_le _) (fun ⟨c, hc, _⟩ => absurd hc (Nat.not_lt_zero c))
  · intro hn
    refine hend _ ?_
    rw [toldV, if_neg (fun z => hn (confB_iff.mp z))] at hq
    exact hq
  · intro i hi ih hn
    have last : ∀ k, lastV p sd k ≠ -2 → ∃ d, d < k ∧ p d = true ∧ sd d = lastV p sd k := by
      intro k
      induction k with
      | zero => intro z; exact absurd rfl z
      | succ k ihk =>
        unfold lastV
        intro z
        by_cases hk : p k = true
        · rw [if_pos hk]; exact ⟨k, by omega, hk, rfl⟩
        · rw [if_neg hk] at z ⊢
          obtain ⟨d, h1, h2⟩ := ihk z
          exact ⟨d, by omega, h2⟩
    by_cases hp : p i = true
    · refine hyes i _ hi hp (fun hx => ?_) (fun h2 hs => ?_)
      · have e : lastV p sd (i + 1) = sd i := if_pos hp
        rw [← e]
        refine ih ?_
        rintro ⟨c, hc, hpc, d, hd, hpd, hne⟩
        by_cases ec : c = i
        · subst ec
          have hd2 := lastV_all hn d hd hpd
          rcases hx with z | z
          · exact hsd d (by omega) (hd2.trans z)
          · exact hne (hd2.trans z)
        · exact hn ⟨c, by omega, hpc, d, hd, hpd, hne⟩
      · obtain ⟨d, h3, h4, h5⟩ := last i h2
        rw [toldV, if_pos (confB_iff.mpr ⟨i, hi, hp, d, h3, h4, by rw [h5]; exact hs⟩)] at hq
        exact hq
    · have e : lastV p sd (i + 1) = lastV p sd i := if_neg hp
      refine hno i _ hi hp ?_
      rw [← e]
      refine ih ?_
      rintro ⟨c, hc, hpc, rest⟩
      by_cases ec : c = i
      · subst ec; exact hp hpc
      · exact hn ⟨c, by omega, hpc, rest⟩
theorem sd_ne2 {A : aS} (h : wfLaws A) {l c : Nat} (hl : l < A.1 2) (hc : c < 2 ^ A.1 0) : sdA A l c ≠ -2 := by
  obtain ⟨c1, c2, c3, c4, c5⟩ := law_at h hl
  obtain ⟨b1, b2, b3, b4⟩ := c5 c hc
  show A.2 8 (512 * l + c) ≠ -2
  rw [b4]
  unfold outOf
  by_cases h0 : hdA A l c = 0
  · rw [if_pos h0]; decide
  · rw [if_neg h0]
    obtain ⟨o, ho, eo⟩ := c4 _ (lowb_lt _ c2 _ b1 h0)
    rw [eo]
    intro e
    have hp := nI_pos (n := o) (by omega)
    rw [e] at hp
    exact hp (by decide)
theorem s12_toldBy {P : jP} {M : jM} {A : aS} (h : RelM M A) {l s g : Nat} (hl : l < A.1 2) (hs : s < 1024) (hg : g < 1024) {Q : Int32 → Prop} (hq : Q (toldV (mB A s g) (sdA A l) (2 ^ A.1 0))) : w_X12_toldBy P (nI l) (nI s) (nI g) M Q := by
  have h6 := h.num
  unfold wfNum at h6
  have hC := h.C512
  unfold w_X12_toldBy
  rw [h.cases]
  intro R hR
  refine told_loop (fun c hc => sd_ne2 h.1.2.2.1 hl hc) hq (fun x z => hR _ _ (br_t (nI_le (Nat.le_refl _) (by omega)) z)) (fun c x hc hp z => hR _ _ (br_f (nI_ge hc (by omega)) (s12_answersOf h hs hc ?_))) (fun c x hc hp z1 z2 => hR _ _ (br_f (nI_ge hc (by omega)) (s12_answersOf h hs hc ?_)))
  · intro R61 h61
    rw [nI_andeq (ansA_lt h.1 c) hg]
    exact br_f hp (h61 _ (by rw [nI_1]; exact z))
  · intro R61 h61
    rw [nI_andeq (ansA_lt h.1 c) hg]
    refine br_t hp ?_
    intro R52 h52
    have go : (x = -2 ∨ x = sdA A l c) → R52 := fun y => h52 (s12_saidOn h (by omega) (by omega) (h61 _ (by rw [nI_1]; exact z1 y)))
    exact br_c (fun y => go (Or.inl y)) (fun y => s12_saidOn h (by omega) (by omega) (br_c (fun w => go (Or.inr w)) (fun w => z2 y w)))
theorem s11_toldGiven {P : jP} {M : jM} {A : aS} (h : RelC P M A) {l s g : Nat} (hl : l < A.1 2) (hg : g < 1024) {Q : Int32 → Prop} (hq : Q (toldV (mB A s g) (sdA A l) (2 ^ A.1 0))) : w_X6_toldGiven P (64 + 8 * l + 3) (nI s) (nI g) M Q := by
  have hC := h.C512
  unfold w_X6_toldGiven
  rw [h.z1]
  intro R hR
  refine told_loop (fun c hc => sd_ne2 h.1.2.2.1 hl hc) hq (fun x z => hR _ _ (br_t (nI_le (Nat.le_refl _) (by omega)) z)) (fun c x hc hp z => hR _ _ (br_f (nI_ge hc (by omega)) ⟨vin hc (by omega), ?_⟩)) (fun c x hc hp z1 z2 => hR _ _ (br_f (nI_ge hc (by omega)) ⟨vin hc (by omega), ?_⟩))
  · rw [nI_clamp (show c < 2 ^ 31 by omega), h.ans hc, nI_and, nI_andeq (ansA_lt h.1 c) hg]
    intro R61 h61
    exact ⟨fun _ => h61 _ (by rw [nI_1]; exact z), fun y => absurd y hp⟩
  · rw [nI_clamp (show c < 2 ^ 31 by omega), h.ans hc, nI_and, nI_andeq (ansA_lt h.1 c) hg, h.said hl hc]
    intro R61 h61
    refine ⟨fun y => absurd hp y, fun _ => ?_⟩
    intro R52 h52
    have go : (x = -2 ∨ x = sdA A l c) → R52 := fun y => h52 ⟨jin_of (h.ia hl).2.2.1 hc (by omega), h61 _ (by rw [nI_1]; exact z1 y)⟩
    exact br_c (fun y => go (Or.inl y)) (fun y => ⟨jin_of (h.ia hl).2.2.1 hc (by omega), br_c (fun w => go (Or.inr w)) (fun w => z2 y w)⟩)
/-! the next question -/
/-- the best question below q so far, and how many cases in the worse of both answers (-1, anything: none yet) -/
def worseN (A : aS) (s g q : Nat) : Nat := max (cgN A (s ||| 2 ^ q) g) (cgN A (s ||| 2 ^ q) (g ||| 2 ^ q))
def askF (A : aS) (s g : Nat) : Nat → Option (Nat × Nat)
  | 0 => none
  | q + 1 => if s.testBit q = true then askF A s g q else match askF A s g q with
    | none => some (q, worseN A s g q)
    | some (b, w) => if worseN A s g q < w then some (q, worseN A s g q) else some (b, w)
def askV (A : aS) (s g : Nat) : Int32 := match askF A s g (A.1 3) with
  | none => -1
  | some (b, _) => nI b
theorem cgN_le {A : aS} (h : wfA A) (s g : Nat) : cgN A s g ≤ 512 := by
  have := cntB_le (mB A s g) (2 ^ A.1 0)
  have := C512 h
  show cntB _ _ ≤ _
  omega
theorem maxI {a b : Nat} (ha : a < 2 ^ 31) (hb : b < 2 ^ 31) : (if nI a < nI b then nI b else nI a) = nI (max a b) := by
  by_cases z : a < b
  · rw [if_pos (nI_lt z hb), Nat.max_eq_right (by omega)]
  · rw [if_neg (nI_nlt (by omega) ha), Nat.max_eq_left (by omega)]
theorem or_lt1024 {a q : Nat} (h : a < 1024) (hq : q < 10) : a ||| 2 ^ q < 1024 := Nat.or_lt_two_pow (n := 10) h (Nat.pow_lt_pow_right (by omega) hq)
theorem s12_askNext {P : jP} {M : jM} {A : aS} (h : RelM M A) {s g : Nat} (hs : s < 1024) (hg : g < 1024) {Q : Int32 → Prop} (hq : Q (askV A s g)) : w_X12_askNext P (nI s) (nI g) M Q := by
  have h6 := h.num
  unfold wfNum at h6
  unfold w_X12_askNext
  rw [h.qs]
  intro R hR
  refine lp_up (R := fun q => ∀ x w, (match askF A s g q with | none => x = -1 | some (b, v) => x = nI b ∧ w = nI v ∧ b < 2 ^ 31 ∧ v ≤ 512) → R x w (nI q)) (A.1 3) ?_ ?_ 0 (Nat.zero_le _) (-1) 0 rfl
  · intro x w hx
    refine hR _ _ _ (br_t (nI_le (Nat.le_refl _) (by omega)) ?_)
    unfold askV at hq
    cases e : askF A s g (A.1 3) with
    | none => rw [e] at hx hq; dsimp only at hx hq; rw [hx]; exact hq
    | some bv =>
      obtain ⟨b, v⟩ := bv
      rw [e] at hx hq
      dsimp only at hx hq
      rw [hx.1]; exact hq
  · intro q hq2 ih x w hx
    refine hR _ _ _ (br_f (nI_ge hq2 (by omega)) (s12_has (by omega) (by omega) ?_))
    intro R83 h83
    have hw : worseN A s g q ≤ 512 := by
      have := cgN_le h.1 (s ||| 2 ^ q) g
      have := cgN_le h.1 (s ||| 2 ^ q) (g ||| 2 ^ q)
      unfold worseN
      omega
    refine br_i (fun z => ?_) (fun z => h83 _ _ ?_)
    · rw [shl1 (by omega), nI_or, nI_or]
      have l1 := cgN_le h.1 (s ||| 2 ^ q) g
      have l2 := cgN_le h.1 (s ||| 2 ^ q) (g ||| 2 ^ q)
      refine s12_casesOf h (or_lt1024 hs (by omega)) hg (s12_casesOf h (or_lt1024 hs (by omega)) (or_lt1024 hg (by omega)) ?_)
      rw [maxI (by omega) (by omega)]
      intro R76 h76
      have take : askF A s g (q + 1) = some (q, worseN A s g q) → R76 := fun e => h76 (h83 _ _ (by
        rw [nI_1]
        refine ih _ _ ?_
        rw [e]
        exact ⟨rfl, rfl, by omega, hw⟩))
      cases e : askF A s g q with
      | none =>
        rw [e] at hx
        dsimp only at hx
        exact br_t hx (take (by unfold askF; rw [if_neg z, e]))
      | some bv =>
        obtain ⟨b, v⟩ := bv
        rw [e] at hx
        dsimp only at hx
        obtain ⟨rfl, rfl, hb, hv⟩ := hx
        have ew : nI (worseN A s g q) < nI v ↔ worseN A s g q < v := nI_ltI (by omega) (by omega)
        refine br_f (nI_ne1 hb) (br_c (fun y => take ?_) (fun y => h83 _ _ ?_))
        · unfold askF
          rw [if_neg z, e]
          exact if_pos (ew.mp y)
        · rw [nI_1]
          refine ih _ _ ?_
          have : askF A s g (q + 1) = some (b, v) := by
            unfold askF
            rw [if_neg z, e]
            exact if_neg (fun y2 => y (ew.mpr y2))
          rw [this]
          exact ⟨rfl, rfl, hb, hv⟩
    · rw [nI_1]
      refine ih _ _ ?_
      have : askF A s g (q + 1) = askF A s g q := by
        show (if s.testBit q = true then _ else _) = _
        rw [if_pos z]
      rw [this]
      exact hx
theorem cgN_split {A : aS} {s g q : Nat} (hs : s.testBit q = false) (hg : g.testBit q = false) : cgN A s g = cgN A (s ||| 2 ^ q) g + cgN A (s ||| 2 ^ q) (g ||| 2 ^ q) := by
  have key : ∀ n, cntB (mB A s g) n = cntB (mB A (s ||| 2 ^ q) g) n + cntB (mB A (s ||| 2 ^ q) (g ||| 2 ^ q)) n := by
    intro n
    induction n with
    | zero => rfl
    | succ n ih =>
      have e1 : mB A s g n = true ↔ (mB A (s ||| 2 ^ q) g n = true ∨ mB A (s ||| 2 ^ q) (g ||| 2 ^ q) n = true) := by
        simp only [beq_iff_eq]
        constructor
        · intro z
          by_cases hb : (ansA A n).testBit q = true
          · right
            apply Nat.eq_of_testBit_eq
            intro i
            have zi : ((ansA A n) &&& s).testBit i = g.testBit i := by rw [z]
            rw [Nat.testBit_and] at zi
            rw [Nat.testBit_and, Nat.testBit_or, Nat.testBit_or, Nat.testBit_two_pow, ← zi]
            by_cases hi : q = i
            · subst hi; simp [hb]
            · simp [hi]
          · left
            apply Nat.eq_of_testBit_eq
            intro i
            have zi : ((ansA A n) &&& s).testBit i = g.testBit i := by rw [z]
            rw [Nat.testBit_and] at zi
            rw [Nat.testBit_and, Nat.testBit_or, Nat.testBit_two_pow, ← zi]
            by_cases hi : q = i
            · subst hi; simp [hb]
            · simp [hi]
        · intro z
          apply Nat.eq_of_testBit_eq
          intro i
          rw [Nat.testBit_and]
          rcases z with z | z
          · have zi : ((ansA A n) &&& (s ||| 2 ^ q)).testBit i = g.testBit i := by rw [z]
            rw [Nat.testBit_and, Nat.testBit_or, Nat.testBit_two_pow] at zi
            by_cases hi : q = i
            · subst hi; simp [hs, hg]
            · rw [← zi]; simp [hi]
          · have zi : ((ansA A n) &&& (s ||| 2 ^ q)).testBit i = (g ||| 2 ^ q).testBit i := by rw [z]
            rw [Nat.testBit_and, Nat.testBit_or, Nat.testBit_or, Nat.testBit_two_pow] at zi
            by_cases hi : q = i
            · subst hi; simp [hs, hg]
            · simpa [hi] using zi
      have e2 : ¬ (mB A (s ||| 2 ^ q) g n = true ∧ mB A (s ||| 2 ^ q) (g ||| 2 ^ q) n = true) := by
        simp only [beq_iff_eq]
        rintro ⟨z1, z2⟩
        have : g.testBit q = (g ||| 2 ^ q).testBit q := by rw [← z2, ← z1]
        rw [Nat.testBit_or, Nat.testBit_two_pow, hg] at this
        simp at this
      by_cases h1 : mB A (s ||| 2 ^ q) g n = true
      · have h2 : ¬ mB A (s ||| 2 ^ q) (g ||| 2 ^ q) n = true := fun z => e2 ⟨h1, z⟩
        rw [cntB_t (p := mB A s g) (e1.mpr (Or.inl h1)), cntB_t (p := mB A (s ||| 2 ^ q) g) h1, cntB_f (p := mB A (s ||| 2 ^ q) (g ||| 2 ^ q)) h2, ih]
        omega
      · by_cases h2 : mB A (s ||| 2 ^ q) (g ||| 2 ^ q) n = true
        · rw [cntB_t (p := mB A s g) (e1.mpr (Or.inr h2)), cntB_f (p := mB A (s ||| 2 ^ q) g) h1, cntB_t (p := mB A (s ||| 2 ^ q) (g ||| 2 ^ q)) h2, ih]
          omega
        · rw [cntB_f (p := mB A s g) (fun z => (e1.mp z).elim h1 h2), cntB_f (p := mB A (s ||| 2 ^ q) g) h1, cntB_f (p := mB A (s ||| 2 ^ q) (g ||| 2 ^ q)) h2, ih]
  exact key _
theorem s11_nextGiven {P : jP} {M : jM} {A : aS} (h : RelC P M A) {s g : Nat} (hs : s < 1024) (hg : g < 1024) (hsub : g &&& s = g) {Q : Int32 → Prop} (hq : Q (if cgN A s g = 0 then -1 else askV A s g)) : w_X6_nextGiven P (nI s) (nI g) M Q := by
  have h6 := h.num
  unfold wfNum at h6
  have hcg := cgN_le h.1 s g
  unfold w_X6_nextGiven
  refine s11_casesGiven h hg ?_
  rw [h.qn, nI_1]
  intro R hR
  by_cases h0 : cgN A s g = 0
  · rw [if_pos h0] at hq
    refine hR _ _ _ (br_c (fun _ => hq) (fun _ => br_t ?_ hq))
    rw [h0]; decide
  · rw [if_neg h0] at hq
    refine lp_up (R := fun q => ∀ x w, (match askF A s g q with | none => x = -1 ∧ w = nI (cgN A s g + 1) | some (b, v) => x = nI b ∧ w = nI v ∧ b < 2 ^ 31 ∧ v ≤ 512) → R x w (nI q)) (A.1 3) ?_ ?_ 0 (Nat.zero_le _) (-1) (nI (cgN A s g + 1)) ⟨rfl, rfl⟩
    · intro x w hx
      refine hR _ _ _ (br_t (nI_le (Nat.le_refl _) (by omega)) ?_)
      unfold askV at hq
      cases e : askF A s g (A.1 3) with
      | none => rw [e] at hx hq; dsimp only at hx hq; rw [hx.1]; exact hq
      | some bv =>
        obtain ⟨b, v⟩ := bv
        rw [e] at hx hq
        dsimp only at hx hq
        rw [hx.1]; exact hq
    · intro q hq2 ih x w hx
      refine hR _ _ _ (br_f (nI_ge hq2 (by omega)) (br_f (nI_nle (by omega) (by omega)) ?_))
      intro R84 h84
      rw [bit1_0 (by omega) (by omega)]
      refine ⟨fun z => h84 _ _ ?_, fun z => ?_⟩
      · have z : s.testBit q = true := Classical.byContradiction fun y => z y
        rw [nI_1]
        refine ih _ _ ?_
        have : askF A s g (q + 1) = askF A s g q := by
          show (if s.testBit q = true then _ else _) = _
          rw [if_pos z]
        rw [this]
        exact hx
      · have hsf : s.testBit q = false := by simpa using z
        have hgf : g.testBit q = false := by
          have : (g &&& s).testBit q = g.testBit q := by rw [hsub]
          rw [Nat.testBit_and, hsf, Bool.and_false] at this
          exact this.symm
        have hsp := cgN_split (A := A) hsf hgf
        have l1 := cgN_le h.1 (s ||| 2 ^ q) g
        have l2 := cgN_le h.1 (s ||| 2 ^ q) (g ||| 2 ^ q)
        rw [shl1 (by omega), nI_or, nI_or]
        refine s11_casesGiven h (or_lt1024 hg (by omega)) (fun y hy => ?_)
        rw [pk_sub (by omega), maxI (by omega) (by omega)] at hy
        have hw : max (cgN A (s ||| 2 ^ q) (g ||| 2 ^ q)) (cgN A s g - cgN A (s ||| 2 ^ q) (g ||| 2 ^ q)) = worseN A s g q := by
          unfold worseN
          omega
        rw [hw] at hy
        have hwl : worseN A s g q ≤ cgN A s g := by unfold worseN; omega
        have take : askF A s g (q + 1) = some (q, worseN A s g q) → R84 (nI q) y := fun e => h84 _ _ (by
          rw [nI_1]
          refine ih _ _ ?_
          rw [e]
          exact ⟨rfl, hy, by omega, by omega⟩)
        subst hy
        cases e : askF A s g q with
        | none =>
          rw [e] at hx
          dsimp only at hx
          obtain ⟨rfl, rfl⟩ := hx
          exact br_f (nI_ge (by omega) (by omega)) (take (by unfold askF; rw [if_neg z, e]))
        | some bv =>
          obtain ⟨b, v⟩ := bv
          rw [e] at hx
          dsimp only at hx
          obtain ⟨rfl, rfl, hb, hv⟩ := hx
          have ew : nI v ≤ nI (worseN A s g q) ↔ v ≤ worseN A s g q := nI_leI (by omega) (by omega)
          refine br_c (fun y => h84 _ _ ?_) (fun y => take ?_)
          · rw [nI_1]
            refine ih _ _ ?_
            have : askF A s g (q + 1) = some (b, v) := by
              unfold askF
              rw [if_neg z, e]
              exact if_neg (fun y2 => by have := ew.mp y; omega)
            rw [this]
            exact ⟨rfl, rfl, hb, hv⟩
          · unfold askF
            rw [if_neg z, e]
            exact if_pos (by have := mt ew.mpr y; omega)
/-! given -/
abbrev okS (A : aS) (s : Int32) : Prop := ¬ s < 0 ∧ ¬ nI (2 ^ A.1 3) ≤ s
def givenS (A : aS) (a s g what : Int32) : Int32 := if okL A a ∧ okS A s ∧ g &&& (s ^^^ (-1)) = 0 ∧ (¬ what < 0 ∧ ¬ 2 < what) then
    (if what = 1 then nI (cgN A s.toNatClampNeg g.toNatClampNeg) else if what = 0 then toldV (mB A s.toNatClampNeg g.toNatClampNeg) (sdA A a.toNatClampNeg) (2 ^ A.1 0) else if toldV (mB A s.toNatClampNeg g.toNatClampNeg) (sdA A a.toNatClampNeg) (2 ^ A.1 0) = -2 then (if cgN A s.toNatClampNeg g.toNatClampNeg = 0 then -1 else askV A s.toNatClampNeg g.toNatClampNeg) else -1) else -2
/-- a part of a set is a number below it -/
theorem sub_of {g : Int32} {s k : Nat} (hk : k ≤ 30) (hs : s < 2 ^ k) (h : g &&& (nI s ^^^ (-1)) = 0) : ∃ m, m < 2 ^ k ∧ g = nI m ∧ m &&& s = m := by
  have key : ∀ i, i < 32 → g.toBitVec.getLsbD i = true → s.testBit i = true := by
    intro i hi hb
    have h2 : (g &&& (nI s ^^^ (-1))).toBitVec.getLsbD i = false := by rw [h]; simp
    have hm : (-1 : Int32).toBitVec = BitVec.allOnes 32 := by decide
    have hn : (nI s).toBitVec = BitVec.ofNat 32 s := rfl
    simp only [Int32.toBitVec_and, Int32.toBitVec_xor, hm, hn, BitVec.getLsbD_and, BitVec.getLsbD_xor, BitVec.getLsbD_allOnes, BitVec.getLsbD_ofNat, hi, decide_true, Bool.true_and, hb, Bool.bne_true, Bool.not_eq_false'] at h2
    simpa using h2
  refine ⟨g.toBitVec.toNat &&& s, Nat.lt_of_le_of_lt Nat.and_le_right hs, ?_, ?_⟩
  · apply Int32.toBitVec_inj.mp
    apply BitVec.eq_of_getLsbD_eq
    intro i hi
    have hn : (nI (g.toBitVec.toNat &&& s)).toBitVec = BitVec.ofNat 32 (g.toBitVec.toNat &&& s) := rfl
    rw [hn, BitVec.getLsbD_ofNat, Nat.testBit_and, BitVec.testBit_toNat]
    cases hb : g.toBitVec.getLsbD i with
    | false => simp
    | true => rw [key i hi hb]; simp [hi]
  · rw [Nat.and_assoc, Nat.and_self]
theorem pow_q {A : aS} (h : wfA A) : 2 ^ A.1 3 ≤ 1024 := by
  have h6 := h.1
  unfold wfNum at h6
  exact Nat.pow_le_pow_right (show 0 < 2 by omega) h6.2.2.2.1
theorem s12_given {P : jP} {M : jM} {A : aS} (h : RelM M A) {a s g what : Int32} {Q : Int32 → jM → Prop} (hq : ∀ M', RelM M' A → Q (givenS A a s g what) M') : w_X12_given P a s g what M Q := by
  have h6 := h.num
  unfold wfNum at h6
  unfold w_X12_given
  have h0 := h.thr 0
  generalize upM M 1 0 0 = M0 at h0 ⊢
  have hq := hq M0 h0
  have hp := pow_q h.1
  rw [h0.qs, shl1 (by omega)]
  refine s12_isLaw h0 (br_i (fun hn => ?_) (fun hl => br_c (fun hn => ?_) (fun hs0 => br_c (fun hn => ?_) (fun hs1 => ?_))))
  · rw [givenS, if_neg (fun z => hn z.1)] at hq; exact hq
  · rw [givenS, if_neg (fun z => z.2.1.1 hn)] at hq; exact hq
  · rw [givenS, if_neg (fun z => z.2.1.2 hn)] at hq; exact hq
  · obtain ⟨l, hl1, hl2, rfl⟩ := okL_of h0 hl
    obtain ⟨s, hs, rfl⟩ := (ok3 (by omega)).mp ⟨hs0, hs1⟩
    have bad : ¬ g &&& (nI s ^^^ (-1)) = 0 → Q (-2) M0 := fun z => by
      rw [givenS, if_neg (fun y => z y.2.2.1)] at hq; exact hq
    refine br_c (fun hn => bad (fun z => ?_)) (fun hg0 => bn_c bad (fun hsub => s12_isIn (br_j (fun hw => ?_) (fun hn => ?_))))
    · obtain ⟨m, hm, rfl, -⟩ := sub_of (k := 10) (by omega) (show s < 2 ^ 10 by omega) z
      exact nI_pos (by omega) hn
    · obtain ⟨g, hg, rfl, hgs⟩ := sub_of (k := 10) (by omega) (show s < 2 ^ 10 by omega) hsub
      rw [givenS, if_pos ⟨hl, ⟨hs0, hs1⟩, hsub, hw⟩, nI_clamp (show l < 2 ^ 31 by omega), nI_clamp (show s < 2 ^ 31 by omega), nI_clamp (show g < 2 ^ 31 by omega)] at hq
      have hcg := cgN_le h0.1 s g
      refine bn_c (fun w1 => s12_toldBy h0 hl1 (by omega) (by omega) (bn_c (fun w0 => bn_c (fun ht => ?_) (fun ht => s12_casesOf h0 (by omega) (by omega) (bn_c (fun hc => s12_askNext h0 (by omega) (by omega) ?_) (fun hc => ?_)))) (fun w0 => ?_))) (fun w1 => s12_casesOf h0 (by omega) (by omega) ?_)
      · rw [if_neg w1, if_neg w0, if_neg ht] at hq; exact hq
      · rw [if_neg w1, if_neg w0, if_pos ht, if_neg (fun z => hc (by rw [z]; rfl))] at hq; exact hq
      · rw [if_neg w1, if_neg w0, if_pos ht, if_pos ((nI_eq (a := cgN A s g) (b := 0) (by omega) (by omega)).mp hc)] at hq; exact hq
      · rw [if_neg w1, if_pos w0] at hq; exact hq
      · rw [if_pos w1] at hq; exact hq
    · rw [givenS, if_neg (fun z => hn z.2.2.2)] at hq; exact hq
theorem s11_isSet {P : jP} {M : jM} {A : aS} (h : RelC P M A) {s : Int32} {Q : Int32 → Prop} (hq : Q (bi (okS A s))) : w_X6_isSet P s M Q := by
  have h6 := h.num
  unfold wfNum at h6
  have hp := pow_q h.1
  unfold w_X6_isSet
  rw [h.qn, shl1 (by omega)]
  exact chk2 hq
theorem s11_given {P : jP} {M : jM} {A : aS} (h : RelC P M A) {a s g what : Int32} {Q : Int32 → Prop} (hq : Q (givenS A a s g what)) : w_X11_given P a s g what M Q := by
  have h6 := h.num
  unfold wfNum at h6
  have hp := pow_q h.1
  unfold w_X11_given
  refine s11_lawAt h (fun hn => br_t rfl ?_) (fun l hl el => br_f (by omega) (br_c (fun hn => ?_) (fun hw0 => br_c (fun hn => ?_) (fun hw2 => s11_isSet h (br_i (fun hn => ?_) (fun hs => ?_))))))
  · rw [givenS, if_neg (fun z => hn z.1)] at hq; exact hq
  · rw [givenS, if_neg (fun z => z.2.2.2.1 hn)] at hq; exact hq
  · rw [givenS, if_neg (fun z => z.2.2.2.2 hn)] at hq; exact hq
  · rw [givenS, if_neg (fun z => hn z.2.1)] at hq; exact hq
  · subst el
    have ol := okL_mk (M := M) h.1 hl
    refine br_c (fun hsub => ?_) (fun hn => ?_)
    · obtain ⟨s, hs1, rfl⟩ := (ok3 (by omega)).mp hs
      obtain ⟨g, hg, rfl, hgs⟩ := sub_of (k := 10) (by omega) (show s < 2 ^ 10 by omega) hsub
      rw [givenS, if_pos ⟨ol.1, hs, hsub, hw0, hw2⟩, nI_clamp (show l < 2 ^ 31 by omega), nI_clamp (show s < 2 ^ 31 by omega), nI_clamp (show g < 2 ^ 31 by omega)] at hq
      refine bn_c (fun w1 => ⟨h.lw hl, s11_toldGiven h hl (by omega) (bn_c (fun w0 => bn_c (fun ht => ?_) (fun ht => s11_nextGiven h (by omega) (by omega) hgs ?_)) (fun w0 => ?_))⟩) (fun w1 => s11_casesGiven h (by omega) ?_)
      · rw [if_neg w1, if_neg w0, if_neg ht] at hq; exact hq
      · rw [if_neg w1, if_neg w0, if_pos ht] at hq; exact hq
      · rw [if_neg w1, if_pos w0] at hq; exact hq
      · rw [if_pos w1] at hq; exact hq
    · rw [givenS, if_neg (fun z => hn z.2.2.1)] at hq; exact hq
