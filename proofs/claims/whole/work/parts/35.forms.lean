/-! FORMS: the way of a case through a form -/
def nxF (A : aS) (f c t : Nat) : Nat := if c.testBit (A.2 4 (12 * f + t)).toNatClampNeg = true then (A.2 5 (12 * f + t)).toNatClampNeg else (A.2 6 (12 * f + t)).toNatClampNeg
def runF (A : aS) (f c : Nat) : Nat → Nat → Nat
  | 0, t => t
  | k + 1, t => if t < 12 then runF A f c k (nxF A f c t) else t
def lastF (A : aS) (f c : Nat) : Nat → Nat → Nat → Nat
  | 0, l, _ => l
  | k + 1, l, t => if t < 12 then lastF A f c k t (nxF A f c t) else l
def nodesF (A : aS) (f c : Nat) : Nat → Nat → Nat → Nat
  | 0, b, _ => b
  | k + 1, b, t => if t < 12 then nodesF A f c k (b ||| 2 ^ t) (nxF A f c t) else b
/-- what a form says on a case -/
abbrev leadV (A : aS) (f c : Nat) : Int32 := nI (runF A f c 12 0) - 100
def cv (t : Nat) : Nat := if t < 12 then t else t - 87
theorem form_ok {A : aS} (h : wfForms A) {f : Nat} (hf : f < A.1 4) : ∃ nm : Nat, 1 ≤ nm ∧ nm ≤ 12 ∧ A.2 7 f = nI nm ∧ ∀ c t, t < nm → (∃ x : Nat, x < A.1 0 ∧ A.2 4 (12 * f + t) = nI x) ∧ ((t < nxF A f c t ∧ nxF A f c t < nm) ∨ (99 ≤ nxF A f c t ∧ nxF A f c t ≤ 105)) ∧ A.2 5 (12 * f + t) = nI (A.2 5 (12 * f + t)).toNatClampNeg ∧ A.2 6 (12 * f + t) = nI (A.2 6 (12 * f + t)).toNatClampNeg ∧ tconv (A.2 5 (12 * f + t)) = nI (cv (A.2 5 (12 * f + t)).toNatClampNeg) ∧ tconv (A.2 6 (12 * f + t)) = nI (cv (A.2 6 (12 * f + t)).toNatClampNeg) := by
  obtain ⟨nm, h1, h2, h3, h4⟩ := h f hf
  refine ⟨nm, h1, h2, h3, fun c t ht => ?_⟩
  obtain ⟨hx, hy, hn⟩ := h4 t ht
  have key : ∀ {v : Int32}, tgtOk v t nm → v = nI v.toNatClampNeg ∧ tconv v = nI (cv v.toNatClampNeg) ∧ ((t < v.toNatClampNeg ∧ v.toNatClampNeg < nm) ∨ (99 ≤ v.toNatClampNeg ∧ v.toNatClampNeg ≤ 105)) := by
    intro v hv
    rcases hv with ⟨u, hu1, hu2, rfl⟩ | ⟨s, hs, rfl⟩
    · rw [nI_clamp (by omega)]
      refine ⟨rfl, ?_, Or.inl ⟨hu1, hu2⟩⟩
      unfold tconv cv
      rw [if_neg (nI_ge (by omega) (by omega)), if_pos (by omega)]
    · rw [nI_clamp (by omega)]
      refine ⟨rfl, ?_, Or.inr (by omega)⟩
      unfold tconv cv
      rw [if_pos (nI_le (by omega) (by omega)), if_neg (by omega), show (87 : Int32) = nI 87 from rfl, pk_sub (by omega)]
  obtain ⟨y1, y2, y3⟩ := key hy
  obtain ⟨n1, n2, n3⟩ := key hn
  refine ⟨hx, ?_, y1, n1, y2, n2⟩
  unfold nxF
  split
  · exact y3
  · exact n3
theorem bit1 {m j : Nat} (hm : m < 2 ^ 31) (hj : j < 32) : ((nI m >>> (nI j &&& 31)) &&& 1) = nI (if m.testBit j = true then 1 else 0) := by
  rw [nI_shr hm hj, show (1 : Int32) = nI 1 from rfl, nI_and, Nat.and_one_is_mod]
  congr 1
  have h : m.testBit j = decide ((m >>> j) % 2 = 1) := by
    rw [Nat.testBit, Nat.one_and_eq_mod_two]
    by_cases h : (m >>> j) % 2 = 1
    · simp [h]
    · have h0 : (m >>> j) % 2 = 0 := by omega
      simp [h0]
  rw [h]
  by_cases h : (m >>> j) % 2 = 1
  · simp [h]
  · have h0 : (m >>> j) % 2 = 0 := by omega
    simp [h0]
theorem bit1_1 {m j : Nat} (hm : m < 2 ^ 31) (hj : j < 32) : ((nI m >>> (nI j &&& 31)) &&& 1) = 1 ↔ m.testBit j = true := by
  rw [bit1 hm hj]
  by_cases h : m.testBit j = true
  · rw [if_pos h]; exact ⟨fun _ => h, fun _ => rfl⟩
  · rw [if_neg h]; exact ⟨fun e => absurd e (by decide), fun e => absurd e h⟩
theorem bit1_0 {m j : Nat} (hm : m < 2 ^ 31) (hj : j < 32) : ((nI m >>> (nI j &&& 31)) &&& 1) = 0 ↔ ¬ m.testBit j = true := by
  rw [bit1 hm hj]
  by_cases h : m.testBit j = true
  · rw [if_pos h]; exact ⟨fun e => absurd e (by decide), fun e => absurd h e⟩
  · rw [if_neg h]; exact ⟨fun _ => h, fun _ => rfl⟩
theorem shl1 {j : Nat} (hj : j < 32) : (1 : Int32) <<< (nI j &&& 31) = nI (2 ^ j) := by
  rw [show (1 : Int32) = nI 1 from rfl, nI_shl 1 hj, Nat.shiftLeft_eq, Nat.one_mul]
theorem s12_has {P : jP} {m j : Nat} {Q : Int32 → Prop} (hm : m < 2 ^ 31) (hj : j < 32) (hq : Q (bi (m.testBit j = true))) : w_X12_has P (nI m) (nI j) Q := by
  unfold w_X12_has
  rw [bit1_1 hm hj]
  refine bn_c (fun z => ?_) (fun z => ?_)
  · rw [bi_f z] at hq; exact hq
  · rw [bi_t z] at hq; exact hq
theorem s12_node {P : jP} {M : jM} {A : aS} (h : RelM M A) {f c t : Nat} (hf : f < A.1 4) {nm : Nat} (hnm : A.2 7 f = nI nm) (ht : t < nm) (hm : nm ≤ 12) (hc : c < 512) {Q : Int32 → Prop} (hq : Q (nI (nxF A f c t))) : w_X12_factOf P (nI f) (nI t) M (fun r3 => w_X12_has P (nI c) r3 (fun r6 => w_X12_nextOf P (nI f) (nI t) r6 M Q)) := by
  have h6 := h.num
  unfold wfNum at h6
  obtain ⟨nm', h1, h2, h3, h4⟩ := form_ok h.1.2.2.2.1 hf
  have e : nm = nm' := (nI_eq (by omega) (by omega)).mp (hnm.symm.trans h3)
  subst e
  obtain ⟨⟨x, hx, ex⟩, -, e5, e6, -, -⟩ := h4 c t ht
  have ix := ix12 (l := f) (k := t) (N := 84) (by omega) (by omega)
  unfold w_X12_factOf
  refine ⟨ix.1, ?_⟩
  rw [ix.2, h.node (by omega) (by omega), ex]
  have hb : nxF A f c t = if c.testBit x = true then (A.2 5 (12 * f + t)).toNatClampNeg else (A.2 6 (12 * f + t)).toNatClampNeg := by
    unfold nxF
    rw [ex, nI_clamp (by omega)]
  refine s12_has (by omega) (by omega) ?_
  unfold w_X12_nextOf
  rw [ix.2, h.node (k := 5) (by omega) (by omega), h.node (k := 6) (by omega) (by omega)]
  refine br_i (fun z => ⟨ix.1, ?_⟩) (fun z => ⟨ix.1, ?_⟩)
  · rw [hb, if_neg z, ← e6] at hq; exact hq
  · rw [hb, if_pos z, ← e5] at hq; exact hq
theorem s12_leadsOn {P : jP} {M : jM} {A : aS} (h : RelM M A) {f c : Nat} (hf : f < A.1 4) (hc : c < 512) {Q : Int32 → Prop} (hq : Q (leadV A f c)) : w_X12_leadsOn P (nI f) (nI c) M Q := by
  obtain ⟨nm, h1, h2, h3, h4⟩ := form_ok h.1.2.2.2.1 hf
  unfold w_X12_leadsOn
  intro R hR
  have key : ∀ k t, (t < nm ∨ (99 ≤ t ∧ t ≤ 105)) → 12 ≤ t + k → Q (nI (runF A f c k t) - 100) → R (nI t) := by
    intro k
    induction k with
    | zero =>
      intro t ht hk hq
      exact hR _ (br_t (nI_le (a := 12) (by omega) (by omega)) hq)
    | succ k ih =>
      intro t ht hk hq
      by_cases h12 : t < 12
      · have htn : t < nm := by omega
        unfold runF at hq
        rw [if_pos h12] at hq
        refine hR _ (br_f (nI_ge (a := t) (b := 12) h12 (by omega)) (s12_node h hf h3 htn h2 hc ?_))
        have := (h4 c t htn).2.1
        exact ih _ (by omega) (by omega) hq
      · unfold runF at hq
        rw [if_neg h12] at hq
        exact hR _ (br_t (nI_le (a := 12) (by omega) (by omega)) hq)
  exact key 12 0 (Or.inl (by omega)) (by omega) hq
theorem s12_comesTo {P : jP} {M : jM} {A : aS} (h : RelM M A) {f c : Nat} (hf : f < A.1 4) (hc : c < 512) {Q : Int32 → Prop} (hq : Q (nI (nodesF A f c 12 0 0))) : w_X12_comesTo P (nI f) (nI c) M Q := by
  obtain ⟨nm, h1, h2, h3, h4⟩ := form_ok h.1.2.2.2.1 hf
  unfold w_X12_comesTo
  intro R hR
  have key : ∀ k t b, (t < nm ∨ (99 ≤ t ∧ t ≤ 105)) → 12 ≤ t + k → Q (nI (nodesF A f c k b t)) → R (nI b) (nI t) := by
    intro k
    induction k with
    | zero =>
      intro t b ht hk hq
      exact hR _ _ (br_t (nI_le (a := 12) (by omega) (by omega)) hq)
    | succ k ih =>
      intro t b ht hk hq
      by_cases h12 : t < 12
      · have htn : t < nm := by omega
        unfold nodesF at hq
        rw [if_pos h12] at hq
        refine hR _ _ (br_f (nI_ge (a := t) (b := 12) h12 (by omega)) (s12_node h hf h3 htn h2 hc ?_))
        have := (h4 c t htn).2.1
        rw [shl1 (by omega), nI_or]
        exact ih _ _ (by omega) (by omega) hq
      · unfold nodesF at hq
        rw [if_neg h12] at hq
        exact hR _ _ (br_t (nI_le (a := 12) (by omega) (by omega)) hq)
  exact key 12 0 0 (Or.inl (by omega)) (by omega) hq
/-! the class's side -/
theorem RelC.fia {P : jP} {M : jM} {A : aS} (h : RelC P M A) {f r : Nat} (hf : f < A.1 4) (h1 : 1 ≤ r) (h3 : r ≤ 3) : cIA P (128 + 4 * f + r) = some 12 := by
  have h6 := h.num
  unfold wfNum at h6
  have hp := h.2.1.2.2.2.2.2 f r (by omega) h3
  unfold cIA
  rw [if_neg (by omega), if_neg (by omega), if_pos]
  simp only [Bool.and_eq_true, Nat.ble_eq, Nat.blt_eq, Bool.not_eq_true']
  refine ⟨⟨⟨by omega, by omega⟩, ?_⟩, hp⟩
  rw [show (128 + 4 * f + r) % 4 = r by omega]
  match r, h1 with
  | r + 1, _ => rfl
theorem RelC.fcell {P : jP} {M : jM} {A : aS} (h : RelC P M A) {f r t : Nat} (hf : f < A.1 4) (hr : r ≤ 3) (ht : (r = 0 ∧ t = 0) ∨ (r ≠ 0 ∧ t < (A.2 7 f).toNatClampNeg)) : M (128 + 4 * f + r) t = if r = 0 then A.2 7 f else if r = 1 then A.2 4 (12 * f + t) else if r = 2 then tconv (A.2 5 (12 * f + t)) else tconv (A.2 6 (12 * f + t)) := by
  have h6 := h.num
  unfold wfNum at h6
  have e1 : (128 + 4 * f + r - 128) / 4 = f := by omega
  have e2 : (128 + 4 * f + r - 128) % 4 = r := by omega
  rw [h.2.2.2 _ _ (show pCd A (128 + 4 * f + r) t by unfold pCd; rw [e1, e2]; exact Or.inr ⟨by omega, hf, ht⟩)]
  unfold cTd
  rw [if_neg (by omega), e1, e2]
theorem s11_targetOn {P : jP} {M : jM} {A : aS} (h : RelC P M A) {f c t nm : Nat} (hf : f < A.1 4) (hnm : A.2 7 f = nI nm) (ht : t < nm) (hm : nm ≤ 12) (hc : c < 512) {Q : Int32 → Prop} (hq : Q (nI (cv (nxF A f c t)))) : w_X2_targetOn P (128 + 4 * f) (nI t) (nI c) M Q := by
  have h6 := h.num
  unfold wfNum at h6
  obtain ⟨nm', h1, h2, h3, h4⟩ := form_ok h.1.2.2.2.1 hf
  have e : nm = nm' := (nI_eq (by omega) (by omega)).mp (hnm.symm.trans h3)
  subst e
  obtain ⟨⟨x, hx, ex⟩, -, -, -, e5, e6⟩ := h4 c t ht
  have hb : nxF A f c t = if c.testBit x = true then (A.2 5 (12 * f + t)).toNatClampNeg else (A.2 6 (12 * f + t)).toNatClampNeg := by
    unfold nxF
    rw [ex, nI_clamp (by omega)]
  have htn : t < (A.2 7 f).toNatClampNeg := by rw [h3, nI_clamp (by omega)]; exact ht
  have k1 := h.fcell (r := 1) (t := t) hf (by omega) (Or.inr ⟨by omega, htn⟩)
  have k2 := h.fcell (r := 2) (t := t) hf (by omega) (Or.inr ⟨by omega, htn⟩)
  have k3 := h.fcell (r := 3) (t := t) hf (by omega) (Or.inr ⟨by omega, htn⟩)
  rw [if_neg (by omega)] at k1 k2 k3
  rw [if_pos rfl] at k1
  rw [if_neg (by omega)] at k2 k3
  rw [if_pos rfl] at k2
  rw [if_neg (by omega)] at k3
  unfold w_X2_targetOn
  refine ⟨h.fm hf, jin_of (h.fia hf (by omega) (by omega)) (by omega) (by omega), ?_⟩
  rw [nI_clamp (by omega : t < 2 ^ 31), k1, ex, bit1_0 (by omega) (by omega), k2, k3]
  refine ⟨fun z => ⟨h.fm hf, jin_of (h.fia hf (by omega) (by omega)) (by omega) (by omega), ?_⟩, fun z => ⟨h.fm hf, jin_of (h.fia hf (by omega) (by omega)) (by omega) (by omega), ?_⟩⟩
  · rw [hb, if_neg z] at hq; rw [e6]; exact hq
  · rw [hb, if_pos (Classical.byContradiction fun q => z q)] at hq; rw [e5]; exact hq
theorem RelC.fmany {P : jP} {M : jM} {A : aS} (h : RelC P M A) {f : Nat} (hf : f < A.1 4) : M (128 + 4 * f) 0 = A.2 7 f := by
  have := h.fcell (r := 0) (t := 0) hf (by omega) (Or.inl ⟨rfl, rfl⟩)
  exact this
theorem lastF_big {A : aS} {f c k l t : Nat} (ht : 12 ≤ t) : lastF A f c k l t = l := by
  cases k with
  | zero => rfl
  | succ k => unfold lastF; rw [if_neg (by omega)]
theorem nodesF_big {A : aS} {f c k l t : Nat} (ht : 12 ≤ t) : nodesF A f c k l t = l := by
  cases k with
  | zero => rfl
  | succ k => unfold nodesF; rw [if_neg (by omega)]
theorem runF_big {A : aS} {f c k t : Nat} (ht : 12 ≤ t) : runF A f c k t = t := by
  cases k with
  | zero => rfl
  | succ k => unfold runF; rw [if_neg (by omega)]
theorem s11_lastOn {P : jP} {M : jM} {A : aS} (h : RelC P M A) {f c : Nat} (hf : f < A.1 4) (hc : c < 512) {Q : Int32 → Prop} (hq : Q (nI (lastF A f c 12 0 0))) : w_X2_lastOn P (128 + 4 * f) (nI c) M Q := by
  obtain ⟨nm, h1, h2, h3, h4⟩ := form_ok h.1.2.2.2.1 hf
  unfold w_X2_lastOn
  rw [h.fmany hf, h3]
  intro R hR
  have key : ∀ k t l s, ((t < nm ∧ s ≤ t) ∨ (99 ≤ t ∧ t ≤ 105 ∧ s ≤ 12)) → 12 ≤ t + k → Q (nI (lastF A f c k l t)) → R (nI l) (nI (cv t)) (nI s) := by
    intro k
    induction k with
    | zero =>
      intro t l s ht hk hq
      have hcv : nm ≤ cv t := by unfold cv; rw [if_neg (by omega)]; omega
      have hcb : cv t < 2 ^ 31 := by unfold cv; rw [if_neg (by omega)]; omega
      exact hR _ _ _ (br_c (fun _ => hq) (fun _ => ⟨h.fm hf, br_t (nI_le hcv hcb) hq⟩))
    | succ k ih =>
      intro t l s ht hk hq
      by_cases h12 : t < 12
      · have htn : t < nm := by omega
        have hcv : cv t = t := if_pos h12
        unfold lastF at hq
        rw [if_pos h12] at hq
        rw [hcv]
        refine hR _ _ _ (br_f (nI_ge (a := s) (b := 12) (by omega) (by omega)) ⟨h.fm hf, br_f (nI_ge htn (by omega)) ⟨h.fm hf, s11_targetOn h hf h3 htn h2 hc ?_⟩⟩)
        have := (h4 c t htn).2.1
        rw [nI_1]
        exact ih _ _ _ (by omega) (by omega) hq
      · have hcv : nm ≤ cv t := by unfold cv; rw [if_neg (by omega)]; omega
        have hcb : cv t < 2 ^ 31 := by unfold cv; rw [if_neg (by omega)]; omega
        rw [lastF_big (by omega)] at hq
        exact hR _ _ _ (br_c (fun _ => hq) (fun _ => ⟨h.fm hf, br_t (nI_le hcv hcb) hq⟩))
  exact key 12 0 0 0 (Or.inl ⟨by omega, by omega⟩) (by omega) hq
theorem s11_nodesOn {P : jP} {M : jM} {A : aS} (h : RelC P M A) {f c : Nat} (hf : f < A.1 4) (hc : c < 512) {Q : Int32 → Prop} (hq : Q (nI (nodesF A f c 12 0 0))) : w_X2_nodesOn P (128 + 4 * f) (nI c) M Q := by
  obtain ⟨nm, h1, h2, h3, h4⟩ := form_ok h.1.2.2.2.1 hf
  unfold w_X2_nodesOn
  rw [h.fmany hf, h3]
  intro R hR
  have key : ∀ k t l s, ((t < nm ∧ s ≤ t) ∨ (99 ≤ t ∧ t ≤ 105 ∧ s ≤ 12)) → 12 ≤ t + k → Q (nI (nodesF A f c k l t)) → R (nI l) (nI (cv t)) (nI s) := by
    intro k
    induction k with
    | zero =>
      intro t l s ht hk hq
      have hcv : nm ≤ cv t := by unfold cv; rw [if_neg (by omega)]; omega
      have hcb : cv t < 2 ^ 31 := by unfold cv; rw [if_neg (by omega)]; omega
      exact hR _ _ _ (br_c (fun _ => hq) (fun _ => ⟨h.fm hf, br_t (nI_le hcv hcb) hq⟩))
    | succ k ih =>
      intro t l s ht hk hq
      by_cases h12 : t < 12
      · have htn : t < nm := by omega
        have hcv : cv t = t := if_pos h12
        unfold nodesF at hq
        rw [if_pos h12] at hq
        rw [hcv]
        refine hR _ _ _ (br_f (nI_ge (a := s) (b := 12) (by omega) (by omega)) ⟨h.fm hf, br_f (nI_ge htn (by omega)) ⟨h.fm hf, s11_targetOn h hf h3 htn h2 hc ?_⟩⟩)
        have := (h4 c t htn).2.1
        rw [nI_1, shl1 (by omega), nI_or]
        exact ih _ _ _ (by omega) (by omega) hq
      · have hcv : nm ≤ cv t := by unfold cv; rw [if_neg (by omega)]; omega
        have hcb : cv t < 2 ^ 31 := by unfold cv; rw [if_neg (by omega)]; omega
        rw [nodesF_big (by omega)] at hq
        exact hR _ _ _ (br_c (fun _ => hq) (fun _ => ⟨h.fm hf, br_t (nI_le hcv hcb) hq⟩))
  exact key 12 0 0 0 (Or.inl ⟨by omega, by omega⟩) (by omega) hq
/-- the last node leads to the end -/
theorem last_run {A : aS} {f c nm : Nat} (h4 : ∀ t, t < nm → (t < nxF A f c t ∧ nxF A f c t < nm) ∨ (99 ≤ nxF A f c t ∧ nxF A f c t ≤ 105)) (hm : nm ≤ 12) : ∀ k t l, t < nm → 12 ≤ t + k → lastF A f c k l t < nm ∧ nxF A f c (lastF A f c k l t) = runF A f c k t ∧ 99 ≤ runF A f c k t ∧ runF A f c k t ≤ 105 := by
  intro k
  induction k with
  | zero => intro t l ht hk; omega
  | succ k ih =>
    intro t l ht hk
    unfold lastF runF
    rw [if_pos (by omega), if_pos (by omega)]
    rcases h4 t ht with h | h
    · exact ih _ _ h.2 (by omega)
    · rw [lastF_big (by omega), runF_big (by omega)]
      exact ⟨ht, rfl, h⟩
theorem s11_outcomeOn {P : jP} {M : jM} {A : aS} (h : RelC P M A) {f c : Nat} (hf : f < A.1 4) (hc : c < 512) {Q : Int32 → Prop} (hq : Q (leadV A f c)) : w_X2_outcomeOn P (128 + 4 * f) (nI c) M Q := by
  obtain ⟨nm, h1, h2, h3, h4⟩ := form_ok h.1.2.2.2.1 hf
  obtain ⟨l1, l2, l3, l4⟩ := last_run (fun t ht => (h4 c t ht).2.1) h2 12 0 0 (by omega) (by omega)
  unfold w_X2_outcomeOn
  refine ⟨h.fm hf, s11_lastOn h hf hc ⟨h.fm hf, s11_targetOn h hf h3 l1 h2 hc ?_⟩⟩
  rw [l2]
  have e : nI (cv (runF A f c 12 0)) - 13 = leadV A f c := by
    unfold leadV cv
    rw [if_neg (by omega), ← pk_sub (a := runF A f c 12 0) (b := 87) (by omega)]
    generalize nI (runF A f c 12 0) = x
    rw [Int32.sub_sub]
    rfl
  rw [e]
  exact hq
