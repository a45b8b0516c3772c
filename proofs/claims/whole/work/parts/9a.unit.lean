/-! reading: a whole condition, both sides -/
theorem head_T {op : Bool → Bool → Bool} {T12 : jT → jP → Int32 → jM → (Int32 → jM → Prop) → Prop} {T7 : jT → jP → Int32 → Int32 → jM → (Int32 → jM → Prop) → Prop} {U12 U7 : jT} {A : aS} {d i w : Nat} (h160 : A.1 1 ≤ 160)
    (h12 : ∀ (P : jP) (v : Int32) (M : jM) (Q : Int32 → jM → Prop), ¬ M 1 6 = -1 → jb v → Q v M → T12 U12 P v M Q)
    (h7 : ∀ (P : jP) (x : Int32) (M : jM) (Q : Int32 → jM → Prop), Q 0 M → T7 U7 P 0 x M Q)
    (hU : jo U12 U7 A d i w) (hT : ∀ i', i' ≤ A.1 1 → jtl op T12 T7 U12 U7 A d i' w) :
    jo (fun P M Q => U12 P M (fun r M2 => T12 U12 P r M2 Q)) (fun P M Q => U7 P M (fun r M2 => T7 U7 P r 0 M2 Q)) A d i (w + 1) := by
  rcases hU with ⟨p, p1, p2, p3⟩ | ⟨i1, L1, val, e1, e2, e3, e4, e5, e6⟩
  · refine Or.inl ⟨p, p1, fun P c M Q hc hs hq => ?_, fun P M k Q hs hk hq => ?_⟩
    · exact p2 P c M _ hc hs (fun v M' hv g e => h12 P v M' Q (fun z => absurd (e.symm.trans z) (nI_ne1 (by omega))) hv.jb (hq v M' hv g e))
    · exact p3 P M k _ hs hk (fun M' g e => h7 P 0 M' Q (hq M' g e))
  · rcases hT i1 e2 with ⟨p, p1, p2, p3⟩ | ⟨i2, L2, tv, t1, t2, t3, t4, t5, t6⟩
    · refine Or.inl ⟨p, p1, fun P c M Q hc hs hq => ?_, fun P M k Q hs hk hq => ?_⟩
      · exact e5 P c M _ hc hs (fun M' g s' => p2 P c M' _ Q hc s' b01_bi (fun v' M2 hv g2 e => hq v' M2 hv (g.trans g2) e))
      · exact e6 P M k _ hs hk (fun M' g a1 a2 a3 a4 => p3 P M' (k + L1.length) 0 Q ⟨hs.1.f11 g, a2, a3⟩ (by omega) (by omega) (fun M2 g2 e => hq M2 (g.trans g2 (by omega)) e))
    · refine Or.inr ⟨i2, L1 ++ L2, fun c => op (val c) (tv c), by omega, t2, by rw [List.length_append]; omega, cOK_tail e4 t4, fun P c M Q hc hs hq => ?_, fun P M k Q hs hk hq => ?_⟩
      · exact e5 P c M _ hc hs (fun M' g s' => t5 P c M' (val c) Q hc s' (fun M2 g2 s2 => hq M2 (g.trans g2) s2))
      · refine e6 P M k _ hs hk (fun M' g a1 a2 a3 a4 => t6 P M' (k + L1.length) 0 Q ⟨hs.1.f11 g, a2, a3⟩ (by omega) (by omega) (fun M2 g2 b1 b2 b3 b4 => hq M2 (g.trans g2 (by omega)) (b1.trans a1) b2 ?_ (fun j hj => ?_)))
        · rw [b3, List.length_append, Nat.add_assoc]
        · rw [List.length_append] at hj
          rw [getD_app]
          by_cases z : j < L1.length
          · rw [if_pos z, g2.2.2.2 _ (by omega)]
            exact a4 j z
          · rw [if_neg z]
            have := b4 (j - L1.length) (by omega)
            rw [show k + L1.length + (j - L1.length) = k + j by omega] at this
            exact this
theorem S12.inc {M : jM} {A : aS} {c i d : Nat} (h : S12 M A c i d) : f12 M (upM M 1 5 (M 1 5 + 1)) ∧ S12 (upM M 1 5 (M 1 5 + 1)) A c (i + 1) d := by
  obtain ⟨r1, r2, r3, r4, r5⟩ := h
  refine ⟨f12.up (by omega) _, r1.f12 (f12.up (by omega) _), ?_, ?_, ?_, ?_⟩
  · rw [up_at, if_pos rfl, r2, nI_1]
  · rw [up_at, if_neg (by omega)]; exact r3
  · rw [up_at, if_neg (by omega)]; exact r4
  · rw [up_at, if_neg (by omega)]; exact r5
theorem S12.look {P : jP} {M : jM} {A : aS} (hT : wfT A) {c i d : Nat} (hi : i ≤ A.1 1) (h : S12 M A c i d) {Q : Int32 → jM → Prop} (hq : ∀ M', f12 M M' → S12 M' A c (skN A i) d → Q (hR A (skN A i)) M') : w_X12_look P M Q := by
  obtain ⟨r1, r2, r3, r4, r5⟩ := h
  exact s12_look r1 hT r2 hi (fun M9 g1 g2 g3 => hq M9 g1 ⟨r1.f12 g1, g3, (g2 6 (by omega)).trans r3, (g2 7 (by omega)).trans r4, (g2 8 (by omega)).trans r5⟩)
theorem S12.here {P : jP} {M : jM} {A : aS} (hT : wfT A) {c i d : Nat} (hi : i ≤ A.1 1) (h : S12 M A c i d) {Q : Int32 → Prop} (hq : Q (hR A i)) : w_X12_here P M Q := s12_here h.1 hT h.2.1 hi hq
theorem S12.fails {P : jP} {M : jM} {A : aS} {c i d : Nat} (h : S12 M A c i d) {Q : Int32 → jM → Prop} (hq : ∀ M', f12 M M' → M' 1 6 = nI i → Q 0 M') : w_X12_fails P M Q := s12_fails h.2.1 h.2.2.1 hq
theorem S7.next {P : jP} {M : jM} {A : aS} (hT : wfT A) {i k : Nat} (hi : i ≤ A.1 1) (h : S7 P M A i k) {Q : Int32 → jM → Prop} (hq : ∀ M', f11 k M M' → M' 3 3 = M 3 3 → S7 P M' A (skN A i) k → Q (nI (chN A (skN A i))) M') : w_X10_next P M Q := by
  obtain ⟨r1, r2, r3⟩ := h
  refine s11_next r1 hT r2 hi (fun M' g1 g2 g3 => ?_)
  have g : f11 k M M' := f11_of3 g1 (fun j a _ => g2 j a)
  exact hq M' g (g2 3 (by omega)) ⟨r1.f11 g, g3, by rw [g1 4 (by omega)]; exact r3⟩
theorem S7.here {P : jP} {M : jM} {A : aS} (hT : wfT A) {i k : Nat} (hi : i ≤ A.1 1) (h : S7 P M A i k) {Q : Int32 → Prop} (hq : Q (nI (chN A i))) : w_X10_here P M Q := s11_here h.1 hT h.2.1 hi hq
theorem S7.inc {P : jP} {M : jM} {A : aS} {i k : Nat} (h : S7 P M A i k) : f11 k M (upM M 3 2 (M 3 2 + 1)) ∧ (upM M 3 2 (M 3 2 + 1)) 3 3 = M 3 3 ∧ S7 P (upM M 3 2 (M 3 2 + 1)) A (i + 1) k := by
  obtain ⟨r1, r2, r3⟩ := h
  have g : f11 k M (upM M 3 2 (M 3 2 + 1)) := f11.u3 (by omega) _
  exact ⟨g, by rw [up_at, if_neg (by omega)], r1.f11 g, by rw [up_at, if_pos rfl, r2, nI_1], by rw [up_of _ _ _ _ (by omega)]; exact r3⟩
theorem S7.miss {P : jP} {M : jM} {A : aS} {i k : Nat} (h : S7 P M A i k) {Q : Int32 → jM → Prop} (hq : ∀ M', f11 k M M' → M' 3 3 = nI i → Q 0 M') : w_X10_miss P (M 3 2) M Q := by
  unfold w_X10_miss
  exact hq _ (f11.u3 (by omega) _) (by rw [up_at, if_pos rfl, h.2.1])
abbrev isF (A : aS) (q : Nat) : Prop := 97 ≤ chN A q ∧ chN A q < 97 + A.1 0
theorem s12_isFact {P : jP} {M : jM} {A : aS} (h : RelW M A) (hT : wfT A) {q : Nat} {Q : Int32 → Prop} (hq : Q (bi (isF A q))) : w_X12_isFact P (hR A q) M Q := by
  have h6 := h.num
  unfold wfNum at h6
  unfold w_X12_isFact
  rw [h.facts, show (97 : Int32) = nI 97 from rfl, nI_add, hR_lt hT (by omega) (by omega), hR_ge hT (by omega) (by omega)]
  unfold bi at hq
  refine br_c (fun z => ?_) (fun z => br_c (fun z2 => ?_) (fun z2 => ?_))
  · rw [if_neg (by omega)] at hq; exact hq
  · rw [if_neg (by omega)] at hq; exact hq
  · rw [if_pos (by omega)] at hq; exact hq
theorem s11_isLetter {P : jP} {M : jM} {A : aS} (h : RelC P M A) (hT : wfT A) {q : Nat} {Q : Int32 → Prop} (hq : Q (bi (isF A q))) : w_X7_isLetter P (nI (chN A q)) M Q := by
  have h6 := h.num
  unfold wfNum at h6
  have hc := ch_lt hT q
  have hf : M 4 1 = nI (A.1 0) := h.2.2.1 4 1 (Or.inl rfl)
  unfold w_X7_isLetter
  rw [hf, show (97 : Int32) = nI 97 from rfl, nI_add, nI_ltI (by omega) (by omega), nI_leI (by omega) (by omega)]
  unfold bi at hq
  refine br_c (fun z => ?_) (fun z => br_c (fun z2 => ?_) (fun z2 => ?_))
  · rw [if_neg (by omega)] at hq; exact hq
  · rw [if_neg (by omega)] at hq; exact hq
  · rw [if_pos (by omega)] at hq; exact hq
theorem hR_F {A : aS} {q : Nat} (h : isF A q) : hR A q = nI (chN A q) := by
  unfold hR
  rw [if_pos]
  apply Classical.byContradiction
  intro z
  have := h.1
  rw [ch_out z] at this
  omega
theorem F_len {A : aS} {q : Nat} (h : isF A q) : q < A.1 1 := by
  apply Classical.byContradiction
  intro z
  have := h.1
  rw [ch_out z] at this
  omega
theorem shl_1 {x : Nat} (hx : x < 32) : (1 : Int32) <<< (nI x &&& 31) = nI (2 ^ x) := by
  rw [show (1 : Int32) = nI 1 from rfl, nI_shl 1 hx, Nat.shiftLeft_eq, Nat.one_mul]
theorem S12.in_ {P : jP} {M : jM} {A : aS} {c q d : Nat} (h : S12 M A c q d) (hd : d < 6) {Q : Int32 → jM → Prop} (hq : ∀ M', f12 M M' → S12 M' A c (q + 1) (d + 1) → Q 1 M') : w_X12_goesIn P M Q := by
  obtain ⟨r1, r2, r3, r4, r5⟩ := h
  have hne : ¬ nI d = 6 := by
    rw [show (6 : Int32) = nI 6 from rfl, nI_eq (by omega) (by omega)]
    omega
  unfold w_X12_goesIn
  rw [r4]
  refine bn_f hne ?_
  rintro M2 rfl
  have g : f12 M (upM (upM M 1 7 (nI d + 1)) 1 5 ((upM M 1 7 (nI d + 1)) 1 5 + 1)) := (f12.up (by omega) _).trans (f12.up (by omega) _)
  refine hq _ g ⟨r1.f12 g, ?_, ?_, ?_, ?_⟩
  · rw [up_at, if_pos rfl, up_at, if_neg (by omega), r2, nI_1]
  · rw [up_at, if_neg (by omega), up_at, if_neg (by omega)]; exact r3
  · rw [up_at, if_neg (by omega), up_at, if_pos rfl, nI_1]
  · rw [up_at, if_neg (by omega), up_at, if_neg (by omega)]; exact r5
theorem S12.in6 {P : jP} {M : jM} {A : aS} {c q : Nat} (h : S12 M A c q 6) {Q : Int32 → jM → Prop} (hq : ∀ M', f12 M M' → M' 1 6 = nI q → Q 0 M') : w_X12_goesIn P M Q := by
  unfold w_X12_goesIn
  rw [h.2.2.2.1]
  exact bn_t (show nI 6 = 6 from rfl) (h.fails (fun M' g e => ⟨jb_0, hq M' g e⟩))
theorem S12.out {M : jM} {A : aS} {c q d : Nat} (h : S12 M A c q (d + 1)) : f12 M (upM M 1 7 (M 1 7 - 1)) ∧ S12 (upM M 1 7 (M 1 7 - 1)) A c q d := by
  obtain ⟨r1, r2, r3, r4, r5⟩ := h
  have g : f12 M (upM M 1 7 (M 1 7 - 1)) := f12.up (by omega) _
  refine ⟨g, r1.f12 g, ?_, ?_, ?_, ?_⟩
  · rw [up_at, if_neg (by omega)]; exact r2
  · rw [up_at, if_neg (by omega)]; exact r3
  · rw [up_at, if_pos rfl, r4, nI_pred]
  · rw [up_at, if_neg (by omega)]; exact r5
theorem S12.takes {P : jP} {M : jM} {A : aS} (hT : wfT A) {c i d v : Nat} (hi : i ≤ A.1 1) (h : S12 M A c i d) (h1 : 1 ≤ v) (hv : v < 2 ^ 31) {Q : Int32 → jM → Prop} (q1 : chN A (skN A i) = v → ∀ M', f12 M M' → S12 M' A c (skN A i + 1) d → Q 1 M') (q0 : ¬ chN A (skN A i) = v → ∀ M', f12 M M' → M' 1 6 = nI (skN A i) → Q 0 M') : w_X12_takes P (nI v) M Q := by
  unfold w_X12_takes
  intro R hR0
  refine bn_t h.2.2.1 (h.look hT hi (fun M8 g s => br_c (fun z => ?_) (fun z => ?_)))
  · have i8 := s.inc
    exact q1 ((hR_eq hT h1 hv).mp z) _ (g.trans i8.1) i8.2
  · exact hR0 _ (s.fails (fun M' g2 e => ⟨jb_0, q0 (fun y => z ((hR_eq hT h1 hv).mpr y)) M' (g.trans g2) e⟩))
theorem s12_takesF {P : jP} {M : jM} {p : Nat} (e : M 1 6 = nI p) (hp : p < 2 ^ 31) {v : Int32} {Q : Int32 → jM → Prop} (hq : Q 0 M) : w_X12_takes P v M Q := by
  unfold w_X12_takes
  intro R hR0
  exact bn_f (fun z => absurd (e.symm.trans z) (nI_ne1 hp)) (hR0 _ (s12_failsN e hp ⟨jb_0, hq⟩))
theorem S7.needs {P : jP} {M : jM} {A : aS} (hT : wfT A) {i k v : Nat} (hi : i ≤ A.1 1) (h : S7 P M A i k) (hv : v < 2 ^ 31) {Q : Int32 → jM → Prop} (q1 : chN A (skN A i) = v → ∀ M', f11 k M M' → M' 3 3 = M 3 3 → S7 P M' A (skN A i + 1) k → Q 1 M') (q0 : ¬ chN A (skN A i) = v → ∀ M', f11 k M M' → M' 3 3 = nI (skN A i) → Q 0 M') : w_X10_needs P (nI v) M Q := by
  obtain ⟨r1, r2, r3⟩ := h
  refine s11_needs r1 hT hv r2 hi (fun z M' g1 g2 g3 => ?_) (fun z M' g1 g2 g3 => ?_)
  · have g : f11 k M M' := f11_of3 g1 (fun j a _ => g2 j a)
    exact q1 z M' g (g2 3 (by omega)) ⟨r1.f11 g, g3, by rw [g1 4 (by omega)]; exact r3⟩
  · exact q0 z M' (f11_of3 g1 g2) g3
theorem S7.passes {P : jP} {M : jM} {A : aS} (hT : wfT A) {i k v : Nat} (hi : i ≤ A.1 1) (h : S7 P M A i k) (hv : v < 2 ^ 31) {Q : Int32 → jM → Prop} (q1 : chN A (skN A i) = v → ∀ M', f11 k M M' → M' 3 3 = M 3 3 → S7 P M' A (skN A i + 1) k → Q 1 M') (q0 : ¬ chN A (skN A i) = v → ∀ M', f11 k M M' → M' 3 3 = M 3 3 → S7 P M' A (skN A i) k → Q 0 M') : w_X10_passes P (nI v) M Q := by
  obtain ⟨r1, r2, r3⟩ := h
  refine s11_passes r1 hT hv r2 hi (fun z M' g1 g2 g3 => ?_) (fun z M' g1 g2 g3 => ?_)
  · have g : f11 k M M' := f11_of3 g1 (fun j a _ => g2 j a)
    exact q1 z M' g (g2 3 (by omega)) ⟨r1.f11 g, g3, by rw [g1 4 (by omega)]; exact r3⟩
  · have g : f11 k M M' := f11_of3 g1 (fun j a _ => g2 j a)
    exact q0 z M' g (g2 3 (by omega)) ⟨r1.f11 g, g3, by rw [g1 4 (by omega)]; exact r3⟩
theorem S7.emit {P : jP} {M : jM} {A : aS} {i k : Nat} {cd : Int32} (h : S7 P M A i k) (hk : k < 160) {Q : Int32 → jM → Prop} (hq : ∀ M', f11 k M M' → M' 3 3 = M 3 3 → S7 P M' A i (k + 1) → M' 18 k = cd → Q 1 M') : w_X7_emit P cd M Q := by
  obtain ⟨r1, r2, r3⟩ := h
  exact s11_emit r3 hk (fun M' g g3 g4 g5 => hq M' g (g3 3) ⟨r1.f11 g, (g3 2).trans r2, g4⟩ g5)
