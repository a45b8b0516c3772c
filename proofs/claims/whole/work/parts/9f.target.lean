/-! reading: a form's target, both sides -/
abbrev dgN (A : aS) (q : Nat) : Prop := 48 ≤ chN A q ∧ chN A q ≤ 57
theorem dg_len {A : aS} {q : Nat} (h : dgN A q) : q < A.1 1 := by
  apply Classical.byContradiction
  intro z
  have := h.1
  rw [ch_out z] at this
  omega
theorem S12.digit {P : jP} {M : jM} {A : aS} (hT : wfT A) {c i d : Nat} (hi : i ≤ A.1 1) (h : S12 M A c i d) {Q : Int32 → Prop} (hq : Q (bi (dgN A i))) : w_X12_isDigit P M Q := by
  unfold w_X12_isDigit
  refine h.here hT hi ?_
  rw [show (48 : Int32) = nI 48 from rfl, show (57 : Int32) = nI 57 from rfl, hR_lt hT (by omega) (by omega)]
  unfold bi at hq
  refine br_c (fun z => ?_) (fun z => h.here hT hi ?_)
  · rw [if_neg (by omega)] at hq; exact hq
  · rw [hR_gt hT (by omega)]
    refine br_c (fun z2 => ?_) (fun z2 => ?_)
    · rw [if_neg (by omega)] at hq; exact hq
    · rw [if_pos (by omega)] at hq; exact hq
theorem S7.digit {P : jP} {M : jM} {A : aS} (hT : wfT A) {i k : Nat} (hi : i ≤ A.1 1) (h : S7 P M A i k) {Q : Int32 → Prop} (hq : Q (bi (dgN A i))) : w_X10_hasDigit P M Q := by
  have hc := ch_lt hT i
  unfold w_X10_hasDigit
  refine h.here hT hi ?_
  rw [show (48 : Int32) = nI 48 from rfl, show (57 : Int32) = nI 57 from rfl, nI_ltI (by omega) (by omega)]
  unfold bi at hq
  refine br_c (fun z => ?_) (fun z => h.here hT hi ?_)
  · rw [if_neg (by omega)] at hq; exact hq
  · rw [nI_ltI (by omega) (by omega)]
    refine br_c (fun z2 => ?_) (fun z2 => ?_)
    · rw [if_neg (by omega)] at hq; exact hq
    · rw [if_pos (by omega)] at hq; exact hq
def u12 (M M' : jM) : Prop := (∀ k, k ≠ 1 → M' k = M k) ∧ ∀ j, ¬ (5 ≤ j ∧ j ≤ 7) → j ≠ 16 → M' 1 j = M 1 j
theorem u12.of {M M' : jM} (h : f12 M M') : u12 M M' := ⟨h.1, fun j a _ => h.2 j (by omega) (by omega) (by omega)⟩
theorem u12.trans {M M' M2 : jM} (h : u12 M M') (h' : u12 M' M2) : u12 M M2 := ⟨fun k a => (h'.1 k a).trans (h.1 k a), fun j a b => (h'.2 j a b).trans (h.2 j a b)⟩
theorem u12.up {M : jM} {j : Nat} (hj : (5 ≤ j ∧ j ≤ 7) ∨ j = 16) (v : Int32) : u12 M (upM M 1 j v) := ⟨fun k a => upM_ne _ _ _ a, fun i a b => by rw [up_at, if_neg (by omega)]⟩
theorem RelW.u12 {M M' : jM} {A : aS} (h : RelW M A) (g : u12 M M') : RelW M' A := by
  refine ⟨h.1, fun k j hp hn => ?_⟩
  by_cases hk : k = 1
  · subst hk
    have : ¬ (5 ≤ j ∧ j ≤ 7) ∧ j ≠ 16 := by
      unfold pA at hp
      omega
    rw [g.2 j this.1 this.2]
    exact h.2 1 j hp hn
  · rw [g.1 k hk]
    exact h.2 k j hp hn
def u7 (M M' : jM) : Prop := (∀ q, q ≠ 3 → q ≠ 4 → M' q = M q) ∧ (∀ j, j ≠ 2 → j ≠ 3 → M' 3 j = M 3 j) ∧ ∀ j, j ≠ 10 → M' 4 j = M 4 j
theorem u7.trans {M M' M2 : jM} (h : u7 M M') (h' : u7 M' M2) : u7 M M2 := ⟨fun q a b => (h'.1 q a b).trans (h.1 q a b), fun j a b => (h'.2.1 j a b).trans (h.2.1 j a b), fun j a => (h'.2.2 j a).trans (h.2.2 j a)⟩
theorem u7.refl (M : jM) : u7 M M := ⟨fun _ _ _ => rfl, fun _ _ _ => rfl, fun _ _ => rfl⟩
theorem u7.u3 {M : jM} {j : Nat} (hj : j = 2 ∨ j = 3) (v : Int32) : u7 M (upM M 3 j v) := ⟨fun q a _ => upM_ne _ _ _ a, fun i a b => by rw [up_at, if_neg (by omega)], fun i _ => up_of _ _ _ _ (by omega)⟩
theorem u7.u4 {M : jM} (v : Int32) : u7 M (upM M 4 10 v) := ⟨fun q _ b => upM_ne _ _ _ b, fun i _ _ => up_of _ _ _ _ (by omega), fun i a => by rw [up_at, if_neg a]⟩
theorem RelC.u7 {P : jP} {M M' : jM} {A : aS} (h : RelC P M A) (g : u7 M M') : RelC P M' A := by
  refine h.agree (fun q j hj => ?_) (fun q j hj => ?_)
  · by_cases e3 : q = 3
    · subst e3
      have : j = 1 := hj
      exact g.2.1 j (by omega) (by omega)
    · by_cases e4 : q = 4
      · subst e4
        have : j = 1 ∨ j = 9 := hj
        exact g.2.2 j (by omega)
      · rw [g.1 q e3 e4]
  · have := pCd_ge hj
    rw [g.1 q (by omega) (by omega)]
/-- reading on without code: the form of the frames that targets use -/
theorem S7.next' {P : jP} {M : jM} {A : aS} (hT : wfT A) {i k : Nat} (hi : i ≤ A.1 1) (h : S7 P M A i k) {Q : Int32 → jM → Prop} (hq : ∀ M', u7 M M' → M' 3 3 = M 3 3 → M' 4 10 = M 4 10 → S7 P M' A (skN A i) k → Q (nI (chN A (skN A i))) M') : w_X10_next P M Q := by
  obtain ⟨r1, r2, r3⟩ := h
  refine s11_next r1 hT r2 hi (fun M' g1 g2 g3 => ?_)
  have g : u7 M M' := ⟨fun q a _ => g1 q a, fun j a _ => g2 j a, fun j _ => by rw [g1 4 (by omega)]⟩
  exact hq M' g (g2 3 (by omega)) (by rw [g1 4 (by omega)]) ⟨r1.u7 g, g3, by rw [g1 4 (by omega)]; exact r3⟩
theorem S7.needs' {P : jP} {M : jM} {A : aS} (hT : wfT A) {i k v : Nat} (hi : i ≤ A.1 1) (h : S7 P M A i k) (hv : v < 2 ^ 31) {Q : Int32 → jM → Prop} (q1 : chN A (skN A i) = v → ∀ M', u7 M M' → M' 3 3 = M 3 3 → M' 4 10 = M 4 10 → S7 P M' A (skN A i + 1) k → Q 1 M') (q0 : ¬ chN A (skN A i) = v → ∀ M', u7 M M' → M' 3 3 = nI (skN A i) → Q 0 M') : w_X10_needs P (nI v) M Q := by
  obtain ⟨r1, r2, r3⟩ := h
  refine s11_needs r1 hT hv r2 hi (fun z M' g1 g2 g3 => ?_) (fun z M' g1 g2 g3 => ?_)
  · have g : u7 M M' := ⟨fun q a _ => g1 q a, fun j a _ => g2 j a, fun j _ => by rw [g1 4 (by omega)]⟩
    exact q1 z M' g (g2 3 (by omega)) (by rw [g1 4 (by omega)]) ⟨r1.u7 g, g3, by rw [g1 4 (by omega)]; exact r3⟩
  · exact q0 z M' ⟨fun q a _ => g1 q a, g2, fun j _ => by rw [g1 4 (by omega)]⟩ g3
theorem S7.inc' {P : jP} {M : jM} {A : aS} {i k : Nat} (h : S7 P M A i k) : u7 M (upM M 3 2 (M 3 2 + 1)) ∧ (upM M 3 2 (M 3 2 + 1)) 3 3 = M 3 3 ∧ (upM M 3 2 (M 3 2 + 1)) 4 10 = M 4 10 ∧ S7 P (upM M 3 2 (M 3 2 + 1)) A (i + 1) k :=
  ⟨u7.u3 (by omega) _, by rw [up_at, if_neg (by omega)], up_of _ _ _ _ (by omega), h.inc.2.2⟩
theorem S7.miss' {P : jP} {M : jM} {A : aS} {i k : Nat} (h : S7 P M A i k) {Q : Int32 → jM → Prop} (hq : ∀ M', u7 M M' → M' 3 3 = nI i → Q 0 M') : w_X10_miss P (M 3 2) M Q := by
  unfold w_X10_miss
  exact hq _ (u7.u3 (by omega) _) (by rw [up_at, if_pos rfl, h.2.1])
def tn12 (P : jP) (a1 x15 : Int32) (M16 : jM) (Q : Int32 → jM → Prop) : Prop := w_X12_isDigit P M16 (fun r17 => (r17 = 0 → (∀ R164 : Prop, ((w_X12_fails P (upM M16 1 5 ((M16 1 5) - 1)) (fun r21 M22 => Q 0 M22)) → R164) → (x15 ≤ a1 → (R164)) ∧ (¬ x15 ≤ a1 → ((x15 < 12 → (∀ M26 : jM, M26 = upM M16 1 16 (if (M16 1 16) < x15 then x15 else (M16 1 16)) → Q x15 M26)) ∧ (¬ x15 < 12 → (R164)))))) ∧ (¬ r17 = 0 → (w_X12_fails P M16 (fun r27 M28 => Q 0 M28))))
def tn7 (P : jP) (a1 x1 : Int32) (M3 : jM) (Q : Int32 → jM → Prop) : Prop := w_X10_hasDigit P M3 (fun r4 => (r4 = 0 → (∀ R92 : Prop, ((w_X10_miss P ((M3 3 2) - 1) M3 (fun r8 M9 => Q (-1) M9)) → R92) → (x1 ≤ a1 → (R92)) ∧ (¬ x1 ≤ a1 → ((x1 < 12 → (∀ M13 : jM, M13 = upM M3 4 10 (if (M3 4 10) < x1 then x1 else (M3 4 10)) → Q x1 M13)) ∧ (¬ x1 < 12 → (R92)))))) ∧ (¬ r4 = 0 → (w_X10_miss P (M3 3 2) M3 (fun r14 M15 => Q (-1) M15))))
def hiT (h rv : Nat) : Nat := if rv < 12 then max h rv else h
def tgO (T12 T7 : jT) (A : aS) (own i : Nat) : Prop :=
  (∃ p, p ≤ A.1 1 ∧ (∀ (P : jP) (M : jM) (Q : Int32 → jM → Prop), S12 M A 0 i 0 → (∀ M', u12 M M' → M' 1 6 = nI p → Q 0 M') → T12 P M Q) ∧ ∀ (P : jP) (M : jM) (k : Nat) (Q : Int32 → jM → Prop), S7 P M A i k → (∀ M', u7 M M' → M' 3 3 = nI p → Q (-1) M') → T7 P M Q) ∨
  ∃ i' rv, i ≤ i' ∧ i' ≤ A.1 1 ∧ ((own < rv ∧ rv < 12) ∨ (99 ≤ rv ∧ rv ≤ 105)) ∧ (∀ (P : jP) (M : jM) (h : Nat) (Q : Int32 → jM → Prop), S12 M A 0 i 0 → M 1 16 = nI h → h < 12 → (∀ M', u12 M M' → S12 M' A 0 i' 0 → M' 1 16 = nI (hiT h rv) → Q (nI rv) M') → T12 P M Q) ∧ ∀ (P : jP) (M : jM) (k h : Nat) (Q : Int32 → jM → Prop), S7 P M A i k → M 4 10 = nI h → h < 12 → (∀ M', u7 M M' → M' 3 3 = M 3 3 → S7 P M' A i' k → M' 4 10 = nI (hiT h rv) → Q (tconv (nI rv)) M') → T7 P M Q
theorem hi_max {h v : Nat} (hh : h < 12) (hv : v < 12) : (if nI h < nI v then nI v else nI h) = nI (hiT h v) := by
  unfold hiT
  rw [if_pos hv]
  by_cases z : h < v
  · rw [if_pos (nI_lt z (by omega)), Nat.max_eq_right (by omega)]
  · rw [if_neg (nI_nlt (by omega) (by omega)), Nat.max_eq_left (by omega)]
theorem tconv_lo {v : Nat} (hv : v < 12) : tconv (nI v) = nI v := if_neg (nI_ge hv (by omega))
theorem tconv_hi {s : Nat} (hs : s ≤ 6) : tconv (nI (99 + s)) = nI (12 + s) := by
  unfold tconv
  rw [if_pos (nI_le (by omega) (by omega)), show (87 : Int32) = nI 87 from rfl, pk_sub (by omega)]
  congr 1; omega
theorem num_jo {A : aS} (hT : wfT A) {own v q : Nat} (ho : own < 12) (hv : v < 100) (hq0 : 1 ≤ q) (hq : q ≤ A.1 1) : tgO (fun P M Q => tn12 P (nI own) (nI v) M Q) (fun P M Q => tn7 P (nI own) (nI v) M Q) A own q := by
  have lo : nI v ≤ nI own ↔ v ≤ own := nI_leI (by omega) (by omega)
  have l12 : nI v < 12 ↔ v < 12 := nI_ltI (b := 12) (by omega) (by omega)
  by_cases hd : dgN A q
  · refine Or.inl ⟨q, hq, fun P M Q hs hk => ?_, fun P M k Q hs hk => ?_⟩
    · unfold tn12
      exact hs.digit hT hq (br_i (fun z => absurd hd z) (fun _ => hs.fails (fun M' g e => hk M' (u12.of g) e)))
    · unfold tn7
      exact hs.digit hT hq (br_i (fun z => absurd hd z) (fun _ => hs.miss' (fun M' g e => hk M' g e)))
  · by_cases hok : own < v ∧ v < 12
    · refine Or.inr ⟨q, v, Nat.le_refl q, hq, Or.inl hok, fun P M h Q hs hh hh12 hk => ?_, fun P M k h Q hs hh hh12 hk => ?_⟩
      · unfold tn12
        refine hs.digit hT hq (br_i (fun _ => ?_) (fun z => absurd z hd))
        intro R164 h164
        refine br_f (fun z => by have := lo.mp z; omega) (br_t (l12.mpr hok.2) ?_)
        rintro M26 rfl
        rw [hh, hi_max hh12 hok.2]
        obtain ⟨r1, r2, r3, r4, r5⟩ := hs
        have g : u12 M (upM M 1 16 (nI (hiT h v))) := u12.up (by omega) _
        exact hk _ g ⟨r1.u12 g, by rw [up_at, if_neg (by omega)]; exact r2, by rw [up_at, if_neg (by omega)]; exact r3, by rw [up_at, if_neg (by omega)]; exact r4, by rw [up_at, if_neg (by omega)]; exact r5⟩ (by rw [up_at, if_pos rfl])
      · unfold tn7
        refine hs.digit hT hq (br_i (fun _ => ?_) (fun z => absurd z hd))
        intro R92 h92
        refine br_f (fun z => by have := lo.mp z; omega) (br_t (l12.mpr hok.2) ?_)
        rintro M13 rfl
        rw [hh, hi_max hh12 hok.2]
        have g : u7 M (upM M 4 10 (nI (hiT h v))) := u7.u4 _
        have := hk _ g (up_of _ _ _ _ (by omega)) ⟨hs.1.u7 g, by rw [up_of _ _ _ _ (by omega)]; exact hs.2.1, by rw [up_at, if_neg (by omega)]; exact hs.2.2⟩ (by rw [up_at, if_pos rfl])
        rw [tconv_lo hok.2] at this
        exact this
    · have em : nI q - 1 = nI (q - 1) := by
        rw [show (1 : Int32) = nI 1 from rfl, pk_sub hq0]
      refine Or.inl ⟨q - 1, by omega, fun P M Q hs hk => ?_, fun P M k Q hs hk => ?_⟩
      · unfold tn12
        refine hs.digit hT hq (br_i (fun _ => ?_) (fun z => absurd z hd))
        intro R164 h164
        have fin : R164 := by
          refine h164 ?_
          obtain ⟨r1, r2, r3, r4, r5⟩ := hs
          rw [r2, em]
          have g : f12 M (upM M 1 5 (nI (q - 1))) := f12.up (by omega) _
          exact s12_fails (p := q - 1) (by rw [up_at, if_pos rfl]) (by rw [up_at, if_neg (by omega)]; exact r3) (fun M' g2 e => hk M' (u12.of (g.trans g2)) e)
        exact br_c (fun _ => fin) (fun z => bn2 (fun y => hok ⟨by rw [lo] at z; omega, l12.mp y⟩) fin)
      · unfold tn7
        refine hs.digit hT hq (br_i (fun _ => ?_) (fun z => absurd z hd))
        intro R92 h92
        have fin : R92 := by
          refine h92 ?_
          rw [hs.2.1, em]
          unfold w_X10_miss
          exact hk _ (u7.u3 (by omega) _) (by rw [up_at, if_pos rfl])
        exact br_c (fun _ => fin) (fun z => bn2 (fun y => hok ⟨by rw [lo] at z; omega, l12.mp y⟩) fin)
