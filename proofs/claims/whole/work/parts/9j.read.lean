/-! reading the tape as a law, a question, a form: both sides from the start -/
def rC (A : aS) (M M' : jM) : Prop := (∀ q, q ≠ 3 → q ≠ 4 → ¬ (18 ≤ q ∧ q ≤ 22) → ¬ (spF A + 1 ≤ q ∧ q ≤ spF A + 3) → M' q = M q) ∧ (∀ j, j ≠ 2 → j ≠ 3 → M' 3 j = M 3 j) ∧ ∀ j, j ≠ 3 → j ≠ 4 → j ≠ 10 → M' 4 j = M 4 j
theorem rC.refl (A : aS) (M : jM) : rC A M M := ⟨fun _ _ _ _ _ => rfl, fun _ _ _ => rfl, fun _ _ _ _ => rfl⟩
theorem rC.trans {A : aS} {M M' M2 : jM} (h : rC A M M') (h' : rC A M' M2) : rC A M M2 := ⟨fun q a b c d => (h'.1 q a b c d).trans (h.1 q a b c d), fun j a b => (h'.2.1 j a b).trans (h.2.1 j a b), fun j a b c => (h'.2.2 j a b c).trans (h.2.2 j a b c)⟩
theorem rC.of11 {A : aS} {M M' : jM} {k : Nat} (h : f11 k M M') : rC A M M' := ⟨fun q a b c _ => h.1 q a b (by omega), h.2.1, fun j a _ _ => h.2.2.1 j a⟩
theorem rC.ofL {A : aS} {M M' : jM} {a k : Nat} (h : gL a k M M') : rC A M M' := ⟨fun q x y z _ => h.1 q x y z, h.2.1, h.2.2.1⟩
theorem rC.of7 {A : aS} {M M' : jM} {k : Nat} (h : v7 A k M M') : rC A M M' := ⟨fun q x y _ z => h.1 q x y z, h.2.1, fun j _ b c => h.2.2.1 j b c⟩
theorem rC.u3 {A : aS} {M : jM} {j : Nat} (hj : j = 2 ∨ j = 3) (v : Int32) : rC A M (upM M 3 j v) := ⟨fun q a _ _ _ => upM_ne _ _ _ a, fun i a b => by rw [up_at, if_neg (by omega)], fun i _ _ _ => up_of _ _ _ _ (by omega)⟩
theorem rC.u4 {A : aS} {M : jM} {j : Nat} (hj : j = 3 ∨ j = 4 ∨ j = 10) (v : Int32) : rC A M (upM M 4 j v) := ⟨fun q _ a _ _ => upM_ne _ _ _ a, fun i _ _ => up_of _ _ _ _ (by omega), fun i a b c => by rw [up_at, if_neg (by omega)]⟩
theorem RelC.rC {P : jP} {M M' : jM} {A : aS} (h : RelC P M A) (g : rC A M M') : RelC P M' A := by
  have h6 := h.num
  unfold wfNum at h6
  have hsp := spF_eq A
  refine h.agree (fun q j hj => ?_) (fun q j hj => ?_)
  · by_cases e3 : q = 3
    · subst e3
      have : j = 1 := hj
      exact g.2.1 j (by omega) (by omega)
    · by_cases e4 : q = 4
      · subst e4
        have : j = 1 ∨ j = 9 := hj
        exact g.2.2 j (by omega) (by omega) (by omega)
      · by_cases es : 64 ≤ q
        · unfold pCs at hj
          split at hj <;> first | omega | exact absurd hj (fun z => z)
        · by_cases e18 : 18 ≤ q ∧ q ≤ 22
          · have : q = 18 ∨ q = 19 ∨ q = 20 ∨ q = 21 ∨ q = 22 := by omega
            rcases this with rfl | rfl | rfl | rfl | rfl <;> exact absurd hj (fun z => z)
          · rw [g.1 q e3 e4 e18 (by omega)]
  · have := pCd_ge hj
    unfold pCd at hj
    rw [g.1 q (by omega) (by omega) (by omega) (by omega)]
/-- the reader set to its start -/
def st7 (M : jM) : jM := upM (upM (upM (upM (upM M 3 2 0) 3 3 (-1)) 4 3 0) 4 4 0) 4 10 0
theorem st7_ok {P : jP} {M : jM} {A : aS} (h : RelC P M A) : rC A M (st7 M) ∧ S7 P (st7 M) A 0 0 ∧ st7 M 3 3 = -1 ∧ st7 M 4 10 = nI 0 := by
  have g : rC A M (st7 M) := ((((rC.u3 (by omega) _).trans (rC.u3 (by omega) _)).trans (rC.u4 (by omega) _)).trans (rC.u4 (by omega) _)).trans (rC.u4 (by omega) _)
  refine ⟨g, ⟨h.rC g, ?_, ?_⟩, ?_, ?_⟩ <;> unfold st7
  · rw [up_of _ _ _ _ (by omega), up_of _ _ _ _ (by omega), up_of _ _ _ _ (by omega), up_at, if_neg (by omega), up_at, if_pos rfl]; rfl
  · rw [up_at, if_neg (by omega), up_at, if_neg (by omega), up_at, if_pos rfl]; rfl
  · rw [up_of _ _ _ _ (by omega), up_of _ _ _ _ (by omega), up_of _ _ _ _ (by omega), up_at, if_pos rfl]
  · rw [up_at, if_pos rfl]; rfl
theorem readAs_st {P : jP} {a1 : Int32} {M : jM} {Q : Int32 → jM → Prop} (h1 : ¬ a1 = 1) (h : rl7 P a1 1 0 (st7 M) Q) : w_X7_readAs P a1 M Q := readAs_eq h1 h
/-- the reference's reader set to its start -/
def st12 (M : jM) (c : Nat) : jM := upM (upM (upM (upM M 1 5 0) 1 6 (-1)) 1 7 0) 1 8 (nI c)
theorem st12_ok {M : jM} {A : aS} (h : RelW M A) (c : Nat) : g12 0 M (st12 M c) ∧ S12 (st12 M c) A c 0 0 := by
  have g : g12 0 M (st12 M c) := (((g12.up (by omega) _).trans (g12.up (by omega) _) (Nat.le_refl 0)).trans (g12.up (by omega) _) (Nat.le_refl 0)).trans (g12.up (by omega) _) (Nat.le_refl 0)
  refine ⟨g, h.g12 g, ?_, ?_, ?_, ?_⟩ <;> unfold st12
  · rw [up_at, if_neg (by omega), up_at, if_neg (by omega), up_at, if_neg (by omega), up_at, if_pos rfl]; rfl
  · rw [up_at, if_neg (by omega), up_at, if_neg (by omega), up_at, if_pos rfl]
  · rw [up_at, if_neg (by omega), up_at, if_pos rfl]; rfl
  · rw [up_at, if_pos rfl]
theorem begin_st {P : jP} {c : Nat} {M : jM} {Q : jM → Prop} (h : Q (st12 M c)) : w_X12_begin P (nI c) M Q := by
  unfold w_X12_begin
  rintro M1 rfl
  exact h
def hN (n : Nat) (cv uv : Nat → Nat → Bool) (c : Nat) : Nat := bitsN (fun j => cv j c && !uv j c) n
def clsOf (M : jM) (n : Nat) (o st un en : Nat → Nat) (cv uv : Nat → Nat → Bool) : Prop := M 4 4 = nI n ∧ ∀ j, j < n → M 19 j = nI (o j) ∧ M 20 j = nI (st j) ∧ M 21 j = nI (un j) ∧ M 22 j = nI (en j) ∧ segOK (M 18) (st j) (un j) (cv j) ∧ ((un j = en j ∧ ∀ c, uv j c = false) ∨ segOK (M 18) (un j) (en j) (uv j))
def rdL (A : aS) : Prop :=
  (∃ p, p ≤ A.1 1 ∧ (∀ (P : jP) (c : Nat) (M : jM) (Q : jM → Prop), c < 512 → RelW M A → (∀ M', g12 0 M M' → M' 1 6 = nI p → Q M') → w_X12_readLaw P (nI c) M Q) ∧ ∀ (P : jP) (M : jM) (Q : Int32 → jM → Prop), RelC P M A → (∀ M', rC A M M' → Q (nI p) M') → w_X7_readAs P 0 M Q) ∨
  ∃ (n : Nat) (o st un en : Nat → Nat) (cv uv : Nat → Nat → Bool), 1 ≤ n ∧ n ≤ 12 ∧ (∀ j, j < n → o j ≤ 5 ∧ en j ≤ 160) ∧ (∀ (P : jP) (c : Nat) (M : jM) (Q : jM → Prop), c < 512 → RelW M A → (∀ M', g12 0 M M' → M' 1 6 = -1 → M' 1 10 = nI n → M' 1 11 = nI (hN n cv uv c) → (∀ j, j < n → M' 3 j = nI (o j)) → Q M') → w_X12_readLaw P (nI c) M Q) ∧ ∀ (P : jP) (M : jM) (Q : Int32 → jM → Prop), RelC P M A → (∀ M', rC A M M' → clsOf M' n o st un en cv uv → Q (-1) M') → w_X7_readAs P 0 M Q
theorem rdL_ok {A : aS} (hT : wfT A) (h160 : A.1 1 ≤ 160) (h9 : A.1 0 ≤ 9) : rdL A := by
  have s12 : ∀ (P : jP) (c : Nat) (M : jM) (Q : jM → Prop), RelW M A → (∀ M', g12 0 M M' → S12 M' A c 0 0 → M' 1 10 = nI 0 → M' 1 11 = nI 0 → rl12 P 1 M' Q) → w_X12_readLaw P (nI c) M Q := by
    intro P c M Q hR hK
    obtain ⟨g, s⟩ := st12_ok hR c
    refine readLaw_eq (begin_st ?_)
    have g2 : g12 0 (st12 M c) (upM (upM (st12 M c) 1 10 0) 1 11 0) := (g12.up (by omega) _).trans (g12.up (by omega) _) (Nat.le_refl 0)
    have e : ∀ j, j ≠ 10 → j ≠ 11 → (upM (upM (st12 M c) 1 10 0) 1 11 0) 1 j = st12 M c 1 j := fun j a b => by rw [up_at, if_neg b, up_at, if_neg a]
    exact hK _ (g.trans g2 (Nat.le_refl 0)) ⟨s.1.g12 g2, (e 5 (by omega) (by omega)).trans s.2.1, (e 6 (by omega) (by omega)).trans s.2.2.1, (e 7 (by omega) (by omega)).trans s.2.2.2.1, (e 8 (by omega) (by omega)).trans s.2.2.2.2⟩ (by rw [up_at, if_neg (by omega), up_at, if_pos rfl]; rfl) (by rw [up_at, if_pos rfl]; rfl)
  rcases lw_all hT h160 h9 (A.1 1) 0 0 0 (by omega) (by omega) (by omega) with ⟨p, p1, p2, p3⟩ | ⟨n, o, st, un, en, cv, uv, t1, t2, t3, t4, t5⟩
  · exact Or.inl ⟨p, p1, fun P c M Q hc hR hq => s12 P c M Q hR (fun M' g s e10 e11 => p2 P c M' Q 0 hc s e10 e11 (by omega) (fun M2 g2 e => hq M2 (g.trans g2 (Nat.le_refl 0)) e)), fun P M Q hR hq => readAs_st (by decide) (p3 P (st7 M) Q (st7_ok hR).2.1 (fun M' g => hq M' ((st7_ok hR).1.trans (rC.ofL g))))⟩
  · refine Or.inr ⟨n, o, st, un, en, cv, uv, t1, t2, fun j hj => t3 j (Nat.zero_le j) hj, fun P c M Q hc hR hq => s12 P c M Q hR (fun M' g s e10 e11 => t4 P c M' Q 0 hc s e10 e11 (by omega) (fun M2 h' g2 x1 x2 x3 x4 x5 x6 => hq M2 (g.trans g2 (Nat.le_refl 0)) x1 x2 ?_ (fun j hj => x6 j (Nat.zero_le j) hj))), fun P M Q hR hq => readAs_st (by decide) (t5 P (st7 M) Q (st7_ok hR).2.1 (st7_ok hR).2.2.1 (fun M' g x1 x2 x3 => hq M' ((st7_ok hR).1.trans (rC.ofL g)) ⟨x2, fun j hj => x3 j (Nat.zero_le j) hj⟩))⟩
    rw [x3]
    congr 1
    apply Nat.eq_of_testBit_eq
    intro j
    unfold hN
    rw [x5 j, bitsN_bit, if_neg (Nat.not_lt_zero j)]
def rdF (A : aS) : Prop :=
  (∃ p, p ≤ A.1 1 ∧ (∀ (f : Nat), f ≤ 6 → ∀ (P : jP) (M : jM) (Q : jM → Prop), RelW M A → (∀ M', v12 f 0 12 M M' → M' 1 6 = nI p → Q M') → w_X12_readForm P (nI f) M Q) ∧ ∀ (P : jP) (M : jM) (Q : Int32 → jM → Prop), RelC P M A → (∀ M', rC A M M' → Q (nI p) M') → w_X7_readAs P 2 M Q) ∨
  ∃ (n : Nat) (fc yt nt : Nat → Nat), 1 ≤ n ∧ n ≤ 12 ∧ (∀ j, j < n → fc j < A.1 0 ∧ tOkN j n (yt j) ∧ tOkN j n (nt j)) ∧ (∀ (f : Nat), f ≤ 6 → ∀ (P : jP) (M : jM) (Q : jM → Prop), RelW M A → (∀ M', v12 f 0 n M M' → M' 1 6 = -1 → M' 7 f = nI n → (∀ j, j < n → M' 4 (12 * f + j) = nI (fc j) ∧ M' 5 (12 * f + j) = nI (yt j) ∧ M' 6 (12 * f + j) = nI (nt j)) → Q M') → w_X12_readForm P (nI f) M Q) ∧ ∀ (P : jP) (M : jM) (Q : Int32 → jM → Prop), RelC P M A → (∀ M', rC A M M' → M' 4 4 = nI n → (∀ j, j < n → M' (spF A + 1) j = nI (fc j) ∧ M' (spF A + 2) j = tconv (nI (yt j)) ∧ M' (spF A + 3) j = tconv (nI (nt j))) → Q (-1) M') → w_X7_readAs P 2 M Q
theorem rdF_ok {A : aS} (hT : wfT A) (h160 : A.1 1 ≤ 160) (h9 : A.1 0 ≤ 9) (h4 : A.1 4 ≤ 6) : rdF A := by
  have ef : ∀ f, f ≤ 6 → (nI f).toNatClampNeg = f := fun f hf => nI_clamp (by omega)
  have s12 : ∀ (f : Nat), f ≤ 6 → ∀ (P : jP) (M : jM) (Q : jM → Prop), RelW M A → (∀ M', (∀ u, v12 f 0 u M M') → S12 M' A 0 0 0 → M' 1 16 = nI 0 → M' 7 f = nI 0 → rf12 P (nI f) 1 M' Q) → w_X12_readForm P (nI f) M Q := by
    intro f hf P M Q hR hK
    obtain ⟨g, s⟩ := st12_ok hR 0
    refine readForm_eq (begin_st (c := 0) ⟨vin (by omega) (by omega), ?_⟩)
    rw [ef f hf]
    have g1 : ∀ u, v12 f 0 u M (st12 M 0) := fun u => (((v12.up (by omega) _).trans (v12.up (by omega) _) (Nat.le_refl 0)).trans (v12.up (by omega) _) (Nat.le_refl 0)).trans (v12.up (by omega) _) (Nat.le_refl 0)
    have g2 : ∀ u, v12 f 0 u (st12 M 0) (upM (upM (st12 M 0) 1 16 0) 7 f 0) := fun u => (v12.up (by omega) _).trans (v12.up7 _) (Nat.le_refl 0)
    exact hK _ (fun u => (g1 u).trans (g2 u) (Nat.le_refl 0)) (s.v12 (g2 0) (fun j _ _ => by rw [up_of _ _ _ _ (by omega), up_at, if_neg (by omega)])) (by rw [up_of _ _ _ _ (by omega), up_at, if_pos rfl]; rfl) (by rw [up_at, if_pos rfl]; rfl)
  rcases fm_all hT h160 h9 h4 (A.1 1) 0 0 0 (by omega) (by omega) (by omega) with ⟨p, p1, p2, p3⟩ | ⟨n, fc, yt, nt, t1, t2, t0, t3, t4, t5⟩
  · exact Or.inl ⟨p, p1, fun f hf P M Q hR hq => s12 f hf P M Q hR (fun M' g s e16 e7 => p2 f hf P M' Q s e16 e7 (fun M2 g2 e => hq M2 ((g _).trans g2 (Nat.le_refl 0)) e)), fun P M Q hR hq => readAs_st (by decide) (p3 P (st7 M) 0 Q (st7_ok hR).2.1 (st7_ok hR).2.2.2 (st7_ok hR).2.2.1 (fun M' g => hq M' ((st7_ok hR).1.trans (rC.of7 g))))⟩
  · exact Or.inr ⟨n, fc, yt, nt, t1, t2, fun j hj => t3 j (Nat.zero_le j) hj, fun f hf P M Q hR hq => s12 f hf P M Q hR (fun M' g s e16 e7 => t4 f hf P M' Q s e16 e7 (fun M2 g2 x1 x2 x3 => hq M2 ((g _).trans g2 (Nat.le_refl 0)) x1 x2 (fun j hj => x3 j (Nat.zero_le j) hj))), fun P M Q hR hq => readAs_st (by decide) (t5 P (st7 M) 0 Q (st7_ok hR).2.1 (st7_ok hR).2.2.2 (st7_ok hR).2.2.1 (fun M' g x1 x2 x3 => hq M' ((st7_ok hR).1.trans (rC.of7 g)) x2 (fun j hj => x3 j (Nat.zero_le j) hj)))⟩
def rdQ (A : aS) : Prop :=
  (∃ p, p ≤ A.1 1 ∧ (∀ (P : jP) (c : Nat) (M : jM) (Q : Int32 → jM → Prop), c < 512 → RelW M A → (∀ v M', b01 v → g12 0 M M' → M' 1 6 = nI p → Q v M') → w_X12_readQuestion P (nI c) M Q) ∧ ∀ (P : jP) (M : jM) (Q : Int32 → jM → Prop), RelC P M A → (∀ M', rC A M M' → Q (nI p) M') → w_X7_readAs P 1 M Q) ∨
  ∃ (n : Nat) (val : Nat → Bool), n ≤ 160 ∧ (∀ (P : jP) (c : Nat) (M : jM) (Q : Int32 → jM → Prop), c < 512 → RelW M A → (∀ M', g12 0 M M' → M' 1 6 = -1 → Q (bi (val c = true)) M') → w_X12_readQuestion P (nI c) M Q) ∧ ∀ (P : jP) (M : jM) (Q : Int32 → jM → Prop), RelC P M A → (∀ M', rC A M M' → M' 4 3 = nI n → segOK (M' 18) 0 n val → Q (-1) M') → w_X7_readAs P 1 M Q
theorem rdQ_ok {A : aS} (hT : wfT A) (h160 : A.1 1 ≤ 160) (h9 : A.1 0 ≤ 9) : rdQ A := by
  have ref : ∀ (P : jP) (c : Nat) (M : jM) (Q : Int32 → jM → Prop), RelW M A → (∀ M', g12 0 M M' → S12 M' A c 0 0 → w_X12_condition P M' (fun r3 M4 => (¬ (M4 1 6) = (-1) → (jb r3 ∧ Q r3 M4)) ∧ ((M4 1 6) = (-1) → (w_X12_look P M4 (fun r8 M9 => (r8 = (-1) → (jb r3 ∧ Q r3 M9)) ∧ (¬ r8 = (-1) → (w_X12_fails P M9 (fun r13 M14 => jb r3 ∧ Q r3 M14)))))))) → w_X12_readQuestion P (nI c) M Q := by
    intro P c M Q hR hK
    obtain ⟨g, s⟩ := st12_ok hR c
    unfold w_X12_readQuestion
    exact begin_st (hK _ g s)
  have cls : ∀ (P : jP) (M : jM) (Q : Int32 → jM → Prop), RelC P M A → (∀ M', rC A M M' → S7 P M' A 0 0 → w_X7_condition P 0 M' (fun r32 M33 => ∀ R67 : Int32 → jM → Prop, (∀ (x35 : Int32) (M36 : jM), ((x35 = 0 → (Q (M36 3 3) M36)) ∧ (¬ x35 = 0 → (Q (-1) M36))) → R67 x35 M36) → (r32 = 0 → (R67 0 M33)) ∧ (¬ r32 = 0 → (w_X10_next P M33 (fun r39 M40 => (r39 = 0 → (R67 1 M40)) ∧ (¬ r39 = 0 → (w_X10_miss P (M40 3 2) M40 (fun r43 M44 => (r43 = 0 → (R67 0 M44)) ∧ (¬ r43 = 0 → (R67 1 M44)))))))))) → w_X7_readAs P 1 M Q := by
    intro P M Q hR hK
    obtain ⟨g, s, e3, e10⟩ := st7_ok hR
    unfold w_X7_readAs w_X10_rewind
    exact bn_t rfl (hK _ g s)
  rcases condJ hT h160 h9 (Nat.zero_le (A.1 1)) with ⟨p, p1, p2, p3⟩ | ⟨i1, L1, val, e1, e2, e3, e4, e5, e6⟩
  · refine Or.inl ⟨p, p1, fun P c M Q hc hR hq => ref P c M Q hR (fun M' g s => p2 P c M' _ hc s (fun v M2 hv g2 e => bn_f (fun z => absurd (e.symm.trans z) (nI_ne1 (by omega))) ⟨hv.jb, hq v M2 hv (g.trans (g12.of g2 0) (Nat.le_refl 0)) e⟩)), fun P M Q hR hq => cls P M Q hR (fun M' g s => p3 P M' 0 _ s (Nat.le_refl 0) (fun M2 g2 e => ?_))⟩
    intro R67 h67
    refine br_t rfl (h67 0 M2 (br_t rfl ?_))
    rw [e]
    exact hq M2 (g.trans (rC.of11 g2))
  · obtain ⟨m1, m2, m3⟩ := skN_le e2
    have hc1 := ch_lt hT (skN A i1)
    have i0 : nI (chN A (skN A i1)) = 0 ↔ chN A (skN A i1) = 0 := nI_eq (b := 0) (by omega) (by omega)
    by_cases h0 : chN A (skN A i1) = 0
    · refine Or.inr ⟨L1.length, val, by omega, fun P c M Q hc hR hq => ref P c M Q hR (fun M' g s => e5 P c M' _ hc s (fun M2 g2 s2 => bn_t s2.2.2.1 (s2.look hT e2 (fun M3 g3 s3 => br_t ((hR_n1 hT).mpr h0) ⟨bi_jb, hq M3 ((g.trans (g12.of g2 0) (Nat.le_refl 0)).trans (g12.of g3 0) (Nat.le_refl 0)) s3.2.2.1⟩)))), fun P M Q hR hq => cls P M Q hR (fun M' g s => e6 P M' 0 _ s (Nat.le_refl 0) (fun M2 g2 b1 b2 b3 b4 => ?_))⟩
      intro R67 h67
      refine br_f (by decide) (S7.next (k := 0 + L1.length) hT e2 ⟨s.1.f11 g2, b2, b3⟩ (fun M3 g3 c1 s3 => br_t (i0.mpr h0) (h67 1 M3 (br_f (by decide) (hq M3 ((g.trans (rC.of11 g2)).trans (rC.of11 g3)) (by rw [s3.2.2, Nat.zero_add]) ⟨L1, (Nat.zero_add _).symm, fun j hj => ?_, e4⟩)))))
      rw [g3.2.2.2 _ (by omega)]
      exact b4 j hj
    · refine Or.inl ⟨skN A i1, m2, fun P c M Q hc hR hq => ref P c M Q hR (fun M' g s => e5 P c M' _ hc s (fun M2 g2 s2 => bn_t s2.2.2.1 (s2.look hT e2 (fun M3 g3 s3 => br_f (fun z => h0 ((hR_n1 hT).mp z)) (s3.fails (fun M4 g4 e => ⟨bi_jb, hq _ M4 b01_bi (((g.trans (g12.of g2 0) (Nat.le_refl 0)).trans (g12.of g3 0) (Nat.le_refl 0)).trans (g12.of g4 0) (Nat.le_refl 0)) e⟩)))))), fun P M Q hR hq => cls P M Q hR (fun M' g s => e6 P M' 0 _ s (Nat.le_refl 0) (fun M2 g2 b1 b2 b3 b4 => ?_))⟩
      intro R67 h67
      refine br_f (by decide) (S7.next (k := 0 + L1.length) hT e2 ⟨s.1.f11 g2, b2, b3⟩ (fun M3 g3 c1 s3 => br_f (fun z => h0 (i0.mp z)) (s3.miss (fun M4 g4 e => br_t rfl (h67 0 M4 (br_t rfl ?_))))))
      rw [e]
      exact hq M4 (((g.trans (rC.of11 g2)).trans (rC.of11 g3)).trans (rC.of11 g4))
