/-! boxes: what both sides count -/
def alk (A : aS) (l a s t : Nat) : Prop := ∀ r, r < 2 ^ A.1 0 → r &&& a = 0 → sdA A l (s ||| r) = sdA A l (t ||| r)
theorem alk.symm {A : aS} {l a s t : Nat} (h : alk A l a s t) : alk A l a t s := fun r h1 h2 => (h r h1 h2).symm
theorem alk.trans {A : aS} {l a s t u : Nat} (h : alk A l a s t) (h' : alk A l a t u) : alk A l a s u := fun r h1 h2 => (h r h1 h2).trans (h' r h1 h2)
theorem and_or_0 {r a x : Nat} (h : r &&& (a ||| x) = 0) : r &&& a = 0 := by
  apply Nat.eq_of_testBit_eq
  intro i
  have e := congrArg (fun x => x.testBit i) h
  simp only [Nat.testBit_and, Nat.testBit_or, Nat.zero_testBit] at e ⊢
  revert e
  cases r.testBit i <;> cases a.testBit i <;> cases x.testBit i <;> decide
theorem bit_or_0 {r a f : Nat} (h : r &&& a = 0) (hb : ¬ a.testBit f = true) : (2 ^ f ||| r) &&& a = 0 := by
  apply Nat.eq_of_testBit_eq
  intro i
  have e := congrArg (fun x => x.testBit i) h
  simp only [Nat.testBit_and, Nat.testBit_or, Nat.zero_testBit, Nat.testBit_two_pow] at e ⊢
  by_cases ei : f = i
  · subst ei
    rw [Bool.eq_false_iff.mpr hb, Bool.and_false]
  · rw [decide_eq_false ei, Bool.false_or]; exact e
theorem alk_mat {A : aS} {l a s t f : Nat} (hs : s < 2 ^ A.1 0) (ht : t < 2 ^ A.1 0) (hsa : s &&& a = s) (hta : t &&& a = t) (hf : f < A.1 0) (hb : ¬ a.testBit f = true) (h : alk A l a s t) (hm : matY A l a s f) : matY A l a t f := by
  apply Classical.byContradiction
  intro hn
  have hf2 : 2 ^ f < 2 ^ A.1 0 := Nat.pow_lt_pow_right (by omega) hf
  have H := (mat_iff (sd := sdA A l) ht hta hf hb).mpr hn
  refine (mat_iff (sd := sdA A l) hs hsa hf hb).mp (fun r hr hz => ?_) hm
  have z1 := and_or_0 hz
  rw [h r hr z1, H r hr hz, Nat.or_assoc, Nat.or_assoc]
  exact (h _ (Nat.or_lt_two_pow hf2 hr) (bit_or_0 z1 hb)).symm
def hangY (A : aS) (l a s x : Nat) : Prop := ∃ c, c < 2 ^ A.1 0 ∧ c &&& a = 0 ∧ sdA A l (c ||| s) ≠ sdA A l (c ||| (s ^^^ 2 ^ x))
theorem xor_is_or {s f : Nat} (h : ¬ s.testBit f = true) : s ^^^ 2 ^ f = s ||| 2 ^ f := by
  apply Nat.eq_of_testBit_eq
  intro i
  rw [Nat.testBit_xor, Nat.testBit_or, Nat.testBit_two_pow]
  by_cases ei : f = i
  · subst ei; rw [Bool.eq_false_iff.mpr h, decide_eq_true rfl]; rfl
  · rw [decide_eq_false ei]; cases s.testBit i <;> rfl
theorem hang_iff {A : aS} {l a s f : Nat} (hs : s < 2 ^ A.1 0) (hsa : s &&& a = s) (hf : f < A.1 0) (hb : ¬ a.testBit f = true) : hangY A l a s f ↔ matY A l a s f := by
  have hsf : ¬ s.testBit f = true := fun z => hb (bits_sub hsa z)
  have key := mat_iff (sd := sdA A l) hs hsa hf hb
  unfold hangY
  rw [xor_is_or hsf]
  constructor
  · rintro ⟨c, h1, h2, h3⟩
    apply Classical.byContradiction
    intro hn
    have H := key.mpr hn
    apply h3
    by_cases q : c.testBit f = true
    · have e : c ||| s = c ||| (s ||| 2 ^ f) := by
        rw [Nat.or_comm s, ← Nat.or_assoc, or_old q]
      rw [e]
    · have := H c h1 (by
        apply Nat.eq_of_testBit_eq
        intro i
        have e := congrArg (fun x => x.testBit i) h2
        simp only [Nat.testBit_and, Nat.testBit_or, Nat.zero_testBit, Nat.testBit_two_pow] at e ⊢
        by_cases ei : f = i
        · subst ei; rw [Bool.eq_false_iff.mpr q]; rfl
        · rw [decide_eq_false ei, Bool.or_false]; exact e)
      rw [Nat.or_comm c, Nat.or_comm c]
      exact this
  · intro hm
    apply Classical.byContradiction
    intro hn
    refine key.mp (fun r h1 h2 => ?_) hm
    apply Classical.byContradiction
    intro h3
    refine hn ⟨r, h1, and_or_0 h2, ?_⟩
    rw [Nat.or_comm r, Nat.or_comm r]
    exact h3
/-- no lower one goes on alike -/
def fstB (A : aS) (l a s : Nat) : Prop := ∀ b, b < s → b &&& a = b → ¬ alk A l a s b
theorem fst_of {A : aS} {l a s : Nat} (h : ∀ b, b < s → ¬ (b &&& a = b ∧ fstB A l a b ∧ alk A l a s b)) : fstB A l a s := by
  have key : ∀ b, b < s → b &&& a = b → ¬ alk A l a s b := by
    intro b
    induction b using Nat.strongRecOn with
    | ind b ih =>
      intro h1 h2 h3
      refine h b h1 ⟨h2, fun d d1 d2 d3 => ?_, h3⟩
      exact ih d d1 (by omega) d2 (h3.trans d3)
  exact key
noncomputable def bxB (A : aS) (l a f s : Nat) : Bool := @decide (s &&& a = s ∧ matY A l a s f ∧ fstB A l a s) (Classical.propDecidable _)
theorem bxB_iff {A : aS} {l a f s : Nat} : bxB A l a f s = true ↔ s &&& a = s ∧ matY A l a s f ∧ fstB A l a s := @decide_eq_true_iff _ (Classical.propDecidable _)
noncomputable abbrev boxN (A : aS) (l a f : Nat) : Nat := cntB (bxB A l a f) (2 ^ A.1 0)
theorem s12_goesAlike {P : jP} {M : jM} {A : aS} (h : RelM M A) {l a s t : Nat} (hl : l < A.1 2) (ha : a < 2 ^ A.1 0) (hs : s < 2 ^ A.1 0) (ht : t < 2 ^ A.1 0) {Q : Int32 → Prop} (h1 : alk A l a s t → Q 1) (h0 : ¬ alk A l a s t → Q 0) : w_X12_goesAlike P (nI l) (nI a) (nI s) (nI t) M Q := by
  have h6 := h.num
  unfold wfNum at h6
  have hC := h.C512
  unfold w_X12_goesAlike
  rw [h.cases]
  intro R hR
  refine lp_up (R := fun c => (∀ d, d < c → d &&& a = 0 → sdA A l (s ||| d) = sdA A l (t ||| d)) → R (nI c)) (2 ^ A.1 0) (fun H => hR _ (br_t (nI_le (Nat.le_refl _) (by omega)) (h1 H))) ?_ 0 (Nat.zero_le _) (fun d hd => absurd hd (Nat.not_lt_zero d))
  intro c hc ih H
  refine hR _ (br_f (nI_ge hc (by omega)) ?_)
  intro R44 h44
  rw [nI_and, nI_or, nI_or, nI_1] at *
  have next : (c &&& a = 0 → sdA A l (s ||| c) = sdA A l (t ||| c)) → R44 := fun hn => h44 (ih (fun d hd e => by
    rcases Nat.lt_succ_iff_lt_or_eq.mp hd with q | q
    · exact H d q e
    · subst q; exact hn e))
  have hcl : c &&& a < 512 := Nat.lt_of_le_of_lt Nat.and_le_left (by omega)
  have b1 : c ||| s < 2 ^ A.1 0 := Nat.or_lt_two_pow hc hs
  have b2 : c ||| t < 2 ^ A.1 0 := Nat.or_lt_two_pow hc ht
  rw [show (0 : Int32) = nI 0 from rfl, nI_eq (by omega) (by omega)] at *
  refine bn_c (fun z => next (fun e => absurd e z)) (fun e => s12_saidOn h (by omega) (by omega) (s12_saidOn h (by omega) (by omega) (br_c (fun z => next (fun _ => ?_)) (fun z => h0 (fun H2 => z ?_)))))
  · rw [Nat.or_comm s, Nat.or_comm t]; exact z
  · rw [Nat.or_comm c, Nat.or_comm c]
    exact H2 c hc e
theorem s12_hangsOn {P : jP} {M : jM} {A : aS} (h : RelM M A) {l a s f : Nat} (hl : l < A.1 2) (ha : a < 2 ^ A.1 0) (hs : s < 2 ^ A.1 0) (hf : f < A.1 0) {Q : Int32 → Prop} (h1 : hangY A l a s f → Q 1) (h0 : ¬ hangY A l a s f → Q 0) : w_X12_hangsOn P (nI l) (nI a) (nI s) (nI f) M Q := by
  have h6 := h.num
  unfold wfNum at h6
  have hC := h.C512
  unfold w_X12_hangsOn
  rw [h.cases, shl1 (by omega)]
  intro R hR
  refine lp_up (R := fun c => (∀ d, d < c → d &&& a = 0 → sdA A l (d ||| s) = sdA A l (d ||| (s ^^^ 2 ^ f))) → R (nI c)) (2 ^ A.1 0) (fun H => hR _ (br_t (nI_le (Nat.le_refl _) (by omega)) (h0 ?_))) ?_ 0 (Nat.zero_le _) (fun d hd => absurd hd (Nat.not_lt_zero d))
  · rintro ⟨c, hc, e, ne⟩
    exact ne (H c hc e)
  · intro c hc ih H
    refine hR _ (br_f (nI_ge hc (by omega)) ?_)
    intro R44 h44
    rw [nI_and, nI_xor, nI_or, nI_or, nI_1] at *
    have next : (c &&& a = 0 → sdA A l (c ||| s) = sdA A l (c ||| (s ^^^ 2 ^ f))) → R44 := fun hn => h44 (ih (fun d hd e => by
      rcases Nat.lt_succ_iff_lt_or_eq.mp hd with q | q
      · exact H d q e
      · subst q; exact hn e))
    have hcl : c &&& a < 512 := Nat.lt_of_le_of_lt Nat.and_le_left (by omega)
    have b1 : c ||| s < 2 ^ A.1 0 := Nat.or_lt_two_pow hc hs
    have b2 : c ||| (s ^^^ 2 ^ f) < 2 ^ A.1 0 := Nat.or_lt_two_pow hc (xor_bit_lt hs hf)
    rw [show (0 : Int32) = nI 0 from rfl, nI_eq (by omega) (by omega)] at *
    refine bn_c (fun z => next (fun e => absurd e z)) (fun e => s12_saidOn h (by omega) (by omega) (s12_saidOn h (by omega) (by omega) (br_c (fun z => next (fun _ => z)) (fun z => h1 ⟨c, hc, e, z⟩))))
