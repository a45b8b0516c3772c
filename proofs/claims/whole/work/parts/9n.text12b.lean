/-! text: the reference's side, a law, a question, a form kept -/
theorem num_of1 {M' : jM} {A A' : aS} (h : ∀ j, pA A 1 j → M' 1 j = A'.2 1 j) : ∀ j, pA A' 1 j → M' 1 j = A'.2 1 j := fun j hp => h j (by unfold pA at hp ⊢; omega)
theorem s12_textL {P : jP} {A : aS} {n : Nat} {o : Nat → Nat} {cv uv : Nat → Nat → Bool} {M : jM} (hR : RelM M A) (hr : refLaw A n o cv uv) (hl : A.1 2 < 6) (h1 : 1 ≤ n) (h12 : n ≤ 12) (ho : ∀ j, j < n → o j ≤ 5) {Q : Int32 → jM → Prop} (hq : ∀ M', RelM M' (lawA A n o cv uv) → Q (nI (A.1 2)) M') : w_X12_text P (nI 0) M Q := by
  refine s12_textTop hR (by omega) ⟨fun _ => hl, fun z => by omega, fun z => by omega⟩ ?_
  unfold w_X12_fault
  refine s12_isIn ?_
  rw [bi_t (by decide)]
  refine bn_f (by decide) ?_
  unfold w_X12_readAs
  refine bn_t rfl (hr P 0 _ _ (by omega) ((hR.thr 0).thr 0).w (fun M6 g f6 _ _ _ => bn3 f6 ?_))
  have hR6 : RelM M6 A := ((hR.thr 0).thr 0).g12 g
  unfold tb12
  intro R74 h74
  refine bn_t rfl (s12_layLaw hR6 hr hl h1 h12 (fun M9 g1 g2 => h74 M9 ?_))
  intro R115 h115
  refine bn_f (by decide) (h115 M9 ?_)
  intro R128 h128
  refine bn_f (by decide) (h128 M9 (bn_t rfl ?_))
  have e25 : (upM M9 1 4 0) 1 25 = nI (A.1 2) := by rw [up_at, if_neg (by omega), g2 25 (by unfold pA; omega)]; exact hR.1.2.1.2.2.2.1
  rw [e25, nI_1]
  rintro M16 rfl
  rw [up_at, if_pos rfl, nI_pred]
  refine hq _ ⟨lawA_wf hR.1 hl h1 h12 ho, fun k j hp => ?_⟩
  by_cases hk : k = 1
  · subst hk
    have e1 : (lawA A n o cv uv).2 1 j = if j = 4 then 0 else if j = 25 then nI (A.1 2 + 1) else A.2 1 j := rfl
    have hp' : pA A 1 j := by unfold pA at hp ⊢; omega
    rw [e1, up_at, up_at]
    by_cases z4 : j = 4
    · rw [if_neg (by omega), if_pos z4, if_pos z4]
    · simp only [if_neg z4]
      by_cases z5 : j = 25
      · simp only [if_pos z5]
      · simp only [if_neg z5]
        exact g2 j hp'
  · rw [up_of _ _ _ _ hk, up_of _ _ _ _ hk]
    have hp' : pA A k j := by
      have : (lawA A n o cv uv).1 1 = 0 := rfl
      unfold pA at hp ⊢
      omega
    exact g1 k j hp' hk
def refQu (A : aS) (val : Nat → Bool) : Prop := ∀ (P : jP) (c : Nat) (M : jM) (Q : Int32 → jM → Prop), c < 512 → RelW M A → (∀ M', g12 0 M M' → M' 1 6 = -1 → Q (bi (val c = true)) M') → w_X12_readQuestion P (nI c) M Q
theorem s12_textQ {P : jP} {A : aS} {val : Nat → Bool} {M : jM} (hR : RelM M A) (hr : refQu A val) (hl : A.1 3 < 10) {Q : Int32 → jM → Prop} (hq : ∀ M', RelM M' (qA A val) → Q (nI (A.1 3)) M') : w_X12_text P (nI 1) M Q := by
  have hA := hR.1
  have C5 := two_le hR.n9
  refine s12_textTop hR (by omega) ⟨fun z => by omega, fun _ => hl, fun z => by omega⟩ ?_
  unfold w_X12_fault
  refine s12_isIn ?_
  rw [bi_t (by decide)]
  refine bn_f (by decide) ?_
  unfold w_X12_readAs
  refine bn_f (by decide) (bn_f (by decide) (hr P 0 _ _ (by omega) ((hR.thr 0).thr 0).w (fun M6 g f6 => bn3 f6 ?_)))
  have hR6 : RelM M6 A := ((hR.thr 0).thr 0).g12 g
  unfold tb12
  intro R74 h74
  refine bn_f (by decide) (h74 M6 ?_)
  intro R115 h115
  refine bn_t rfl ?_
  intro R81 h81
  refine lp_up (R := fun c => ∀ M, (∀ k j, pA A k j → M k j = if k = 14 ∧ 512 * A.1 3 ≤ j ∧ j < 512 * A.1 3 + c then bi (val (j - 512 * A.1 3) = true) else A.2 k j) → R81 (nI c) M) (2 ^ A.1 0) (fun M9 hI => ?_) (fun c hc ih M9 hI => ?_) 0 (Nat.zero_le _) M6 (fun k j hp => by rw [if_neg (by omega)]; exact hR6.2 k j hp)
  · have e2 : M9 1 2 = nI (2 ^ A.1 0) := by rw [hI 1 2 (by unfold pA; omega), if_neg (by omega)]; exact hA.2.1.2.1
    refine h81 _ _ (br_t (by rw [e2]; exact Int32.le_refl _) (h115 M9 ?_))
    intro R128 h128
    refine bn_f (by decide) (h128 M9 (bn_f (by decide) (bn_t rfl ?_)))
    have e26 : (upM M9 1 4 0) 1 26 = nI (A.1 3) := by rw [up_at, if_neg (by omega), hI 1 26 (by unfold pA; omega), if_neg (by omega)]; exact hA.2.1.2.2.2.2.1
    rw [e26, nI_1]
    rintro M15 rfl
    rw [up_at, if_pos rfl, nI_pred]
    refine hq _ ⟨qA_wf hA hl, fun k j hp => ?_⟩
    by_cases hk : k = 1
    · subst hk
      have e1 : (qA A val).2 1 j = if j = 4 then 0 else if j = 26 then nI (A.1 3 + 1) else A.2 1 j := rfl
      have hp' : pA A 1 j := by unfold pA at hp ⊢; omega
      rw [e1, up_at, up_at]
      by_cases z4 : j = 4
      · rw [if_neg (by omega), if_pos z4, if_pos z4]
      · simp only [if_neg z4]
        by_cases z5 : j = 26
        · simp only [if_pos z5]
        · simp only [if_neg z5]
          rw [hI 1 j hp', if_neg (by omega)]
    · rw [up_of _ _ _ _ hk, up_of _ _ _ _ hk]
      have hp' : pA A k j := by
        have : (qA A val).1 1 = 0 := rfl
        unfold pA at hp ⊢
        omega
      rw [hI k j hp']
      by_cases z : k = 14
      · subst z
        have e14 : (qA A val).2 14 j = if 512 * A.1 3 ≤ j ∧ j < 512 * A.1 3 + 2 ^ A.1 0 then bi (val (j - 512 * A.1 3) = true) else A.2 14 j := rfl
        rw [e14]
        by_cases y : 512 * A.1 3 ≤ j ∧ j < 512 * A.1 3 + 2 ^ A.1 0
        · rw [if_pos ⟨rfl, y⟩, if_pos y]
        · rw [if_neg (fun t => y t.2), if_neg y]
      · rw [if_neg (by omega)]
        exact (congrFun (qT_ne (A := A) (val := val) ⟨hk, z⟩) j).symm
  · have e2 : M9 1 2 = nI (2 ^ A.1 0) := by rw [hI 1 2 (by unfold pA; omega), if_neg (by omega)]; exact hA.2.1.2.1
    have e26 : M9 1 26 = nI (A.1 3) := by rw [hI 1 26 (by unfold pA; omega), if_neg (by omega)]; exact hA.2.1.2.2.2.2.1
    refine h81 _ _ (br_f (by rw [e2]; exact nI_ge hc (by omega)) (hr P c M9 _ (by omega) ⟨hA, fun k j hp hk => by rw [hI k j hp, if_neg (by omega)]⟩ (fun M25 g f6 => ?_)))
    rw [e26, show (512 : Int32) = nI 512 from rfl, pk_mul, nI_add, nI_clamp (show 512 * A.1 3 + c < 2 ^ 31 by omega), nI_1]
    refine ⟨vin (by omega) (by omega), bi_jb, ?_⟩
    rintro M29 rfl
    refine ih _ (fun k j hp => ?_)
    have M1g : M25 k j = M9 k j := by
      by_cases hk : k = 1
      · subst hk
        unfold pA at hp
        exact g.2.1 j (by omega) (by omega) (by omega)
      · rw [g.1 k hk (by intro z; subst z; unfold pA at hp; omega)]
    by_cases z : k = 14
    · subst z
      rw [up_at]
      by_cases y : j = 512 * A.1 3 + c
      · rw [if_pos y, if_pos ⟨rfl, by omega, by omega⟩, y, show 512 * A.1 3 + c - 512 * A.1 3 = c by omega]
      · rw [if_neg y, M1g, hI 14 j hp]
        by_cases y2 : 512 * A.1 3 ≤ j ∧ j < 512 * A.1 3 + c
        · rw [if_pos ⟨rfl, y2⟩, if_pos ⟨rfl, by omega, by omega⟩]
        · rw [if_neg (fun t => y2 t.2), if_neg (fun t => y2 ⟨t.2.1, by omega⟩)]
    · rw [up_of _ _ _ _ z, M1g, hI k j hp, if_neg (by omega), if_neg (by omega)]
def refForm (A : aS) (f n : Nat) (fc yt nt : Nat → Nat) : Prop := ∀ (P : jP) (M : jM) (Q : jM → Prop), RelW M A → (∀ M', v12 f 0 n M M' → M' 1 6 = -1 → M' 7 f = nI n → (∀ j, j < n → M' 4 (12 * f + j) = nI (fc j) ∧ M' 5 (12 * f + j) = nI (yt j) ∧ M' 6 (12 * f + j) = nI (nt j)) → Q M') → w_X12_readForm P (nI f) M Q
theorem s12_textF {P : jP} {A : aS} {n : Nat} {fc yt nt : Nat → Nat} {M : jM} (hR : RelM M A) (hr : ∀ f, f ≤ 6 → refForm A f n fc yt nt) (hl : A.1 4 < 6) (h1 : 1 ≤ n) (h12 : n ≤ 12) (ho : ∀ j, j < n → fc j < A.1 0 ∧ tOkN j n (yt j) ∧ tOkN j n (nt j)) {Q : Int32 → jM → Prop} (hq : ∀ M', RelM M' (fA A n fc yt nt) → Q (nI (A.1 4)) M') : w_X12_text P (nI 2) M Q := by
  have hA := hR.1
  refine s12_textTop hR (by omega) ⟨fun z => by omega, fun z => by omega, fun _ => hl⟩ ?_
  unfold w_X12_fault
  refine s12_isIn ?_
  rw [bi_t (by decide)]
  refine bn_f (by decide) ?_
  unfold w_X12_readAs
  refine bn_f (by decide) (bn_t rfl (hr 6 (by omega) P _ _ ((hR.thr 0).thr 0).w (fun M6 g f6 _ _ => bn3 f6 ?_)))
  have hR6 : RelM M6 A := ((hR.thr 0).thr 0).v6 g
  unfold tb12
  intro R74 h74
  refine bn_f (by decide) (h74 M6 ?_)
  intro R115 h115
  refine bn_f (by decide) (h115 M6 ?_)
  intro R128 h128
  refine bn_t rfl ?_
  rw [hR6.forms]
  refine hr (A.1 4) (by omega) P M6 _ hR6.w (fun M18 g2 _ e7 e456 => h128 M18 (bn_f (by decide) (bn_f (by decide) ?_)))
  have e27 : (upM M18 1 4 0) 1 27 = nI (A.1 4) := by rw [up_at, if_neg (by omega), g2.2.1 27 (by omega) (by omega)]; exact hR6.forms
  rw [e27, nI_1]
  rintro M14 rfl
  rw [up_at, if_pos rfl, nI_pred]
  refine hq _ ⟨fA_wf hA hl h1 h12 ho, fun k j hp => ?_⟩
  by_cases hk : k = 1
  · subst hk
    have e1 : (fA A n fc yt nt).2 1 j = if j = 4 then 0 else if j = 27 then nI (A.1 4 + 1) else A.2 1 j := rfl
    have hp' : pA A 1 j := by unfold pA at hp ⊢; omega
    rw [e1, up_at, up_at]
    by_cases z4 : j = 4
    · rw [if_neg (by omega), if_pos z4, if_pos z4]
    · simp only [if_neg z4]
      by_cases z5 : j = 27
      · simp only [if_pos z5]
      · simp only [if_neg z5]
        rw [g2.2.1 j (by unfold pA at hp'; omega) (by unfold pA at hp'; omega)]
        exact hR6.2 1 j hp'
  · rw [up_of _ _ _ _ hk, up_of _ _ _ _ hk]
    have hp' : pA A k j := by
      have : (fA A n fc yt nt).1 1 = 0 := rfl
      unfold pA at hp ⊢
      omega
    by_cases h7 : k = 7
    · subst h7
      have e : (fA A n fc yt nt).2 7 j = if j = A.1 4 then nI n else A.2 7 j := rfl
      rw [e]
      by_cases y : j = A.1 4
      · rw [if_pos y, y]; exact e7
      · rw [if_neg y, g2.2.2.2 j y]; exact hR6.2 7 j hp'
    · by_cases h4 : 4 ≤ k ∧ k ≤ 6
      · have e : (fA A n fc yt nt).2 k j = if 12 * A.1 4 ≤ j ∧ j < 12 * A.1 4 + n then (if k = 4 then nI (fc (j - 12 * A.1 4)) else if k = 5 then nI (yt (j - 12 * A.1 4)) else nI (nt (j - 12 * A.1 4))) else A.2 k j := by
          show (if k = 1 then _ else if k = 7 then _ else if 4 ≤ k ∧ k ≤ 6 then _ else _) = _
          rw [if_neg hk, if_neg h7, if_pos h4]
        rw [e]
        by_cases y : 12 * A.1 4 ≤ j ∧ j < 12 * A.1 4 + n
        · obtain ⟨e4, e5, e6⟩ := e456 (j - 12 * A.1 4) (by omega)
          rw [show 12 * A.1 4 + (j - 12 * A.1 4) = j by omega] at e4 e5 e6
          rw [if_pos y]
          have : k = 4 ∨ k = 5 ∨ k = 6 := by omega
          rcases this with rfl | rfl | rfl
          · rw [if_pos rfl]; exact e4
          · rw [if_neg (by omega), if_pos rfl]; exact e5
          · rw [if_neg (by omega), if_neg (by omega)]; exact e6
        · rw [if_neg y, g2.2.2.1 k h4.1 h4.2 j (by omega)]
          exact hR6.2 k j hp'
      · rw [g2.1 k hk (by omega), show (fA A n fc yt nt).2 k j = A.2 k j from congrFun (fT_ne (A := A) (n := n) (fc := fc) (yt := yt) (nt := nt) ⟨hk, by omega⟩) j]
        exact hR6.2 k j hp'
