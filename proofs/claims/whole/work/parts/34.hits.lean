/-! HITS: how many cases, the i-th: both sides -/
theorem nI_ne1 {n : Nat} (h : n < 2 ^ 31) : nI n ≠ -1 := by
  intro e
  have h0 := nI_pos h
  rw [e] at h0
  exact h0 (by decide)
theorem s11_hit {P : jP} {M : jM} {p : Nat → Bool} {C : Nat} {i : Int32} {Q : Int32 → Prop} (hz : P.2.2 1 = C) (hC : C ≤ 512) (hh : ∀ c, c < C → p c = true → M 13 (cntB p c) = nI c) (hq : Q (hitsF p C i)) : w_X11_hit P (nI (cntB p C)) i M Q := by
  have hle := cntB_le p C
  unfold w_X11_hit
  refine bn_c (fun hne => br_c (fun hneg => ?_) (fun hpos => ?_)) (fun e => ?_)
  · rw [hitsF_no hne (fun c hc hp e => ?_)] at hq
    · exact hq
    · have := cntB_le p c
      exact nI_pos (n := cntB p c) (by omega) (e ▸ hneg)
  · obtain ⟨m, hm, rfl⟩ := nI_of hpos
    rw [nI_leI (by omega) hm]
    refine br_c (fun hge => ?_) (fun hlt => ?_)
    · rw [hitsF_no hne (fun c hc hp e => ?_)] at hq
      · exact hq
      · have h1 := cntB_le p c
        have h2 := cntB_lt hc hp
        have h3 := (nI_eq (by omega) hm).mp e
        omega
    · obtain ⟨c, hc, hp, hcm⟩ := cntB_hit (show m < cntB p C by omega)
      rw [hz]
      refine br_f (fun z => ?_) ⟨vin (by omega) (by omega), ?_⟩
      · have := (nI_leI (a := C) (by omega) hm).mp z
        omega
      · rw [nI_clamp hm, ← hcm, hh c hc hp]
        rw [hitsF_at (by omega) hc hp (by rw [hcm])] at hq
        exact hq
  · subst e
    rw [hitsF_all] at hq
    exact hq
theorem hits12 {p : Nat → Bool} {C : Nat} {i : Int32} {R : Int32 → Int32 → Prop} {Q : Int32 → Prop} (hC : C ≤ 512) (hq : Q (hitsF p C i))
    (hend : ∀ x, ((¬ i = -1 → Q (-1)) ∧ (i = -1 → Q x)) → R x (nI C))
    (hno : ∀ c x, c < C → ¬ p c = true → R x (nI (c + 1)) → R x (nI c))
    (hyes : ∀ c x, c < C → p c = true → ((¬ x = i → R (x + 1) (nI (c + 1))) ∧ (x = i → Q (nI c))) → R x (nI c)) : R 0 0 := by
  refine lp_up (R := fun c => (∀ d, d < c → p d = true → nI (cntB p d) ≠ i) → R (nI (cntB p c)) (nI c)) C ?_ ?_ 0 (Nat.zero_le _) (fun d hd => absurd hd (Nat.not_lt_zero d))
  · intro hall
    refine hend _ (bn_c (fun hne => ?_) (fun e => ?_))
    · rw [hitsF_no hne hall] at hq
      exact hq
    · subst e
      rw [hitsF_all] at hq
      exact hq
  · intro c hc ih hall
    by_cases hp : p c = true
    · refine hyes c _ hc hp (bn_c (fun hne => ?_) (fun e => ?_))
      · rw [nI_1, ← cntB_t hp]
        refine ih (fun d hd hpd => ?_)
        rcases Nat.lt_succ_iff_lt_or_eq.mp hd with h1 | h1
        · exact hall d h1 hpd
        · subst h1; exact hne
      · rw [hitsF_at (by omega) hc hp e] at hq
        exact hq
    · refine hno c _ hc hp ?_
      rw [← cntB_f hp]
      refine ih (fun d hd hpd => ?_)
      rcases Nat.lt_succ_iff_lt_or_eq.mp hd with h1 | h1
      · exact hall d h1 hpd
      · subst h1; exact absurd hpd hp
theorem hits11 {P : jP} {M : jM} {p : Nat → Bool} {C : Nat} {i : Int32} {R : Int32 → Int32 → jM → Prop} {Q : Int32 → jM → Prop} (hz : P.2.2 1 = C) (hC : C ≤ 512) (hq : ∀ M', (∀ k, k ≠ 13 → M' k = M k) → Q (hitsF p C i) M')
    (hend : ∀ x M', (∀ k, k ≠ 13 → M' k = M k) → w_X11_hit P x i M' (fun r => Q r M') → R x (nI C) M')
    (hno : ∀ c x M', c < C → (∀ k, k ≠ 13 → M' k = M k) → ¬ p c = true → R x (nI (c + 1)) M' → R x (nI c) M')
    (hyes : ∀ c m M', c < C → m ≤ c → (∀ k, k ≠ 13 → M' k = M k) → p c = true → R (nI m + 1) (nI (c + 1)) (upM M' 13 m (nI c)) → R (nI m) (nI c) M') : R 0 0 M := by
  refine lp_up (R := fun c => ∀ M', (∀ k, k ≠ 13 → M' k = M k) → (∀ d, d < c → p d = true → M' 13 (cntB p d) = nI d) → R (nI (cntB p c)) (nI c) M') C ?_ ?_ 0 (Nat.zero_le _) M (fun _ _ => rfl) (fun d hd => absurd hd (Nat.not_lt_zero d))
  · intro M' hM hh
    exact hend _ M' hM (s11_hit hz hC hh (hq M' hM))
  · intro c hc ih M' hM hh
    by_cases hp : p c = true
    · refine hyes c _ M' hc (cntB_le p c) hM hp ?_
      rw [nI_1, ← cntB_t hp]
      refine ih _ (fun k hk => by rw [upM_ne _ _ _ hk]; exact hM k hk) (fun d hd hpd => ?_)
      rw [upM_same]
      rcases Nat.lt_succ_iff_lt_or_eq.mp hd with h1 | h1
      · rw [pk_un (by have := cntB_lt h1 hpd; omega)]
        exact hh d h1 hpd
      · subst h1; exact pk_us
    · refine hno c _ M' hc hM hp ?_
      rw [← cntB_f hp]
      refine ih _ hM (fun d hd hpd => ?_)
      rcases Nat.lt_succ_iff_lt_or_eq.mp hd with h1 | h1
      · exact hh d h1 hpd
      · subst h1; exact absurd hpd hp
/-- PARTS -/
def partsS (A : aS) (a b i : Int32) : Int32 := if okL A a ∧ okL A b then hitsF (fun c => !(sdA A a.toNatClampNeg c == sdA A b.toNatClampNeg c)) (2 ^ A.1 0) i else -1
theorem s12_parts {P : jP} {M : jM} {A : aS} (h : RelM M A) {a b i : Int32} {Q : Int32 → jM → Prop} (hq : ∀ M', RelM M' A → Q (partsS A a b i) M') : w_X12_parts P a b i M Q := by
  unfold w_X12_parts
  have h0 := h.thr 0
  generalize upM M 1 0 0 = M0 at h0 ⊢
  have hq := hq M0 h0
  refine s12_isLaw h0 (br_i (fun hn => ?_) (fun hl => s12_isLaw h0 (br_j (fun hm => ?_) (fun hn => ?_))))
  · rw [partsS, if_neg (fun z => hn z.1)] at hq
    exact hq
  · rw [partsS, if_pos ⟨hl, hm⟩] at hq
    obtain ⟨l, hl1, hl2, rfl⟩ := okL_of h0 hl
    obtain ⟨m, hm1, hm2, rfl⟩ := okL_of h0 hm
    rw [nI_clamp (by omega), nI_clamp (by omega)] at hq
    have hC := h0.C512
    rw [h0.cases]
    intro R hR
    refine hits12 (Q := fun r => Q r M0) (i := i) hC hq (fun x hx => hR _ _ (br_t (nI_le (Nat.le_refl _) (by omega)) hx)) (fun c x hc hp hx => hR _ _ (br_f (nI_ge hc (by omega)) ?_)) (fun c x hc hp hx => hR _ _ (br_f (nI_ge hc (by omega)) ?_))
    · refine s12_saidOn h0 hl2 (by omega) (s12_saidOn h0 hm2 (by omega) ?_)
      intro R70 h70
      refine bn_t (by simpa using hp) (h70 _ ?_)
      rw [nI_1]; exact hx
    · refine s12_saidOn h0 hl2 (by omega) (s12_saidOn h0 hm2 (by omega) ?_)
      intro R70 h70
      refine bn_f (by simpa using hp) (bn_c (fun z => h70 _ ?_) (fun z => hx.2 z))
      rw [nI_1]; exact hx.1 z
  · rw [partsS, if_neg (fun z => hn z.2)] at hq
    exact hq
theorem s11_hitsOfUnlike {P : jP} {M : jM} {A : aS} (h : RelC P M A) {l m : Nat} (hl : l < A.1 2) (hm : m < A.1 2) {i : Int32} {Q : Int32 → jM → Prop} (hq : ∀ M', (∀ k, k ≠ 13 → M' k = M k) → Q (hitsF (fun c => !(sdA A l c == sdA A m c)) (2 ^ A.1 0) i) M') : w_X11_hitsOfUnlike P (64 + 8 * l + 3) (64 + 8 * m + 3) i M Q := by
  have hC := h.C512
  have h6 := h.num
  unfold wfNum at h6
  unfold w_X11_hitsOfUnlike
  intro R hR
  have kp : ∀ M' : jM, (∀ k, k ≠ 13 → M' k = M k) → M' 2 2 = nI (2 ^ A.1 0) := fun M' hM => by rw [hM 2 (by omega)]; exact h.cases
  have sd : ∀ M' : jM, (∀ k, k ≠ 13 → M' k = M k) → ∀ l, l < A.1 2 → ∀ c, c < 2 ^ A.1 0 → M' (64 + 8 * l + 3) (nI c).toNatClampNeg = sdA A l c := fun M' hM l hl c hc => by
    rw [nI_clamp (by omega), hM _ (by omega)]; exact h.said hl hc
  refine hits11 h.z1 hC hq (fun x M' hM hx => hR _ _ _ ?_) (fun c x M' hc hM hp hx => hR _ _ _ ?_) (fun c x M' hc hxc hM hp hx => hR _ _ _ ?_)
  · rw [kp M' hM]
    exact br_t (nI_le (Nat.le_refl _) (by omega)) hx
  · rw [kp M' hM]
    refine br_f (nI_ge hc (by omega)) ⟨jin_of (h.ia hl).2.2.1 hc (by omega), jin_of (h.ia hm).2.2.1 hc (by omega), ?_⟩
    rw [sd M' hM l hl c hc, sd M' hM m hm c hc]
    intro R41 h41
    refine br_t (by simpa using hp) (h41 _ _ ?_)
    rw [nI_1]; exact hx
  · rw [kp M' hM]
    refine br_f (nI_ge hc (by omega)) ⟨jin_of (h.ia hl).2.2.1 hc (by omega), jin_of (h.ia hm).2.2.1 hc (by omega), ?_⟩
    rw [sd M' hM l hl c hc, sd M' hM m hm c hc]
    intro R41 h41
    refine br_f (by simpa using hp) ⟨by rw [h.z1]; exact vin (by omega) (by omega), h41 _ _ ?_⟩
    rw [nI_1 c, nI_clamp (by omega)]
    exact hx
theorem s11_parts {P : jP} {M : jM} {A : aS} (h : RelC P M A) {a b i : Int32} {Q : Int32 → jM → Prop} (hq : ∀ M', (∀ k, k ≠ 13 → M' k = M k) → Q (partsS A a b i) M') : w_X11_parts P a b i M Q := by
  have h6 := h.num
  unfold wfNum at h6
  unfold w_X11_parts
  refine s11_lawAt h (fun hn => s11_lawAt h (fun _ => ?_) (fun m hm em => ?_)) (fun l hl el => s11_lawAt h (fun hn => ?_) (fun m hm em => ?_))
  · refine br_t rfl ?_
    have hq := hq M (fun _ _ => rfl)
    rw [partsS, if_neg (fun z => hn z.1)] at hq
    exact hq
  · refine br_t rfl ?_
    have hq := hq M (fun _ _ => rfl)
    rw [partsS, if_neg (fun z => hn z.1)] at hq
    exact hq
  · refine br_f (by omega) ?_
    refine ⟨fun z => absurd rfl z, fun _ => ?_⟩
    have hq := hq M (fun _ _ => rfl)
    rw [partsS, if_neg (fun z => hn z.2)] at hq
    exact hq
  · refine br_f (by omega) ⟨fun _ => ⟨h.lw hl, h.lw hm, ?_⟩, fun z => absurd z (by omega)⟩
    subst el em
    have e : partsS A (nI l) (nI m) i = hitsF (fun c => !(sdA A l c == sdA A m c)) (2 ^ A.1 0) i := by
      rw [partsS, if_pos ⟨(ok3 (by omega)).mpr ⟨l, hl, rfl⟩, (ok3 (by omega)).mpr ⟨m, hm, rfl⟩⟩, nI_clamp (by omega), nI_clamp (by omega)]
    rw [e] at hq
    exact s11_hitsOfUnlike h hl hm hq
