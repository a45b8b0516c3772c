/-! feed: both sides -/
theorem ff_hi : ∀ i, i < 32 → ¬ i < 8 → (255 : Int32).toBitVec.getLsbD i = false := by decide
theorem b8 (v : Int32) : v.toInt8.toInt32.toInt8.toInt32 &&& 255 = v &&& 255 := by
  apply Int32.toBitVec_inj.mp
  apply BitVec.eq_of_getLsbD_eq
  intro i hi
  rw [Int32.toBitVec_and, Int32.toBitVec_and, BitVec.getLsbD_and, BitVec.getLsbD_and]
  by_cases h : i < 8
  · congr 1
    simp only [Int8.toBitVec_toInt32, Int32.toBitVec_toInt8, BitVec.getLsbD_signExtend, BitVec.getLsbD_setWidth]
    simp [h, hi]
  · rw [ff_hi i hi h, Bool.and_false, Bool.and_false]
abbrev sv (a x : Int32) : Int32 := a >>> (x &&& 31)
def nzb (v : Int32) : Nat := if v &&& 255 = 0 then 0 else 1
def addA (A : aS) (v : Int32) : aS := (setN A.1 1 (A.1 1 + 1), upM (upM A.2 2 (A.1 1) v.toInt8.toInt32.toInt8.toInt32) 1 4 (nI (A.1 1 + 1)))
def stepA (A : aS) (v : Int32) : aS := if v &&& 255 = 0 then A else addA A v
def putA (A : aS) (a : Int32) : aS := stepA (stepA (stepA (stepA A (sv a 24)) (sv a (24 + -8))) (sv a (24 + -8 + -8))) (sv a (24 + -8 + -8 + -8))
def nzW (a : Int32) : Nat := nzb (sv a 24) + nzb (sv a (24 + -8)) + nzb (sv a (24 + -8 + -8)) + nzb (sv a (24 + -8 + -8 + -8))
theorem nzb_le (v : Int32) : nzb v ≤ 1 := by
  unfold nzb
  split <;> omega
theorem nzW_le (a : Int32) : nzW a ≤ 4 := by
  have h1 := nzb_le (sv a 24)
  have h2 := nzb_le (sv a (24 + -8))
  have h3 := nzb_le (sv a (24 + -8 + -8))
  have h4 := nzb_le (sv a (24 + -8 + -8 + -8))
  unfold nzW
  omega
theorem stepA_len (A : aS) (v : Int32) : (stepA A v).1 1 = A.1 1 + nzb v := by
  unfold stepA nzb
  split
  · rfl
  · rfl
theorem addA_wf {A : aS} (h : wfA A) {v : Int32} (hl : A.1 1 < 160) : wfA (addA A v) := by
  obtain ⟨m, hd, hl2, hf, hs, hp, hu⟩ := h
  exact ⟨⟨m.1, hl, m.2.2⟩, ⟨hd.1, hd.2.1, rfl, hd.2.2.2⟩, hl2, hf, hs, hp, hu⟩
theorem s12_bytesIn {P : jP} {a : Int32} {Q : Int32 → Prop} (hq : Q (nI (nzW a))) : w_X12_bytesIn P a Q := by
  unfold w_X12_bytesIn
  intro R hR
  have key : ∀ n x, ¬ x < 0 → R (nI (n + nzb (sv a x))) (x + (-8)) → R (nI n) x := by
    intro n x hx h
    refine hR _ _ (br_f hx ?_)
    intro R25 h25
    refine br_c (fun z => h25 _ ?_) (fun z => h25 _ ?_)
    · rw [nzb, if_pos z] at h
      rw [show (0 : Int32) = nI 0 from rfl, nI_add]; exact h
    · rw [nzb, if_neg z] at h
      rw [nI_1]; exact h
  refine key 0 24 (by decide) (key _ _ (by decide) (key _ _ (by decide) (key _ _ (by decide) (hR _ _ (br_t (by decide) ?_)))))
  rw [show 0 + nzb (sv a 24) = nzb (sv a 24) by omega]
  exact hq
theorem s11_signs {P : jP} {a : Int32} {Q : Int32 → Prop} (hq : Q (nI (nzW a))) : w_X10_signs P a Q := by
  unfold w_X10_signs
  intro R hR
  have key : ∀ n x, ¬ x < 0 → R (nI (n + nzb (sv a x))) (x + (-8)) → R (nI n) x := by
    intro n x hx h
    refine hR _ _ (br_f hx ?_)
    intro R25 h25
    refine bn_c (fun z => h25 _ ?_) (fun z => h25 _ ?_)
    · rw [nzb, if_neg z] at h
      rw [nI_1]; exact h
    · rw [nzb, if_pos z] at h
      rw [show (0 : Int32) = nI 0 from rfl, nI_add]; exact h
  refine key 0 24 (by decide) (key _ _ (by decide) (key _ _ (by decide) (key _ _ (by decide) (hR _ _ (br_t (by decide) ?_)))))
  rw [show 0 + nzb (sv a 24) = nzb (sv a 24) by omega]
  exact hq
theorem s12_put {P : jP} {M : jM} {A : aS} (h : RelM M A) {a : Int32} (hl : A.1 1 + nzW a ≤ 160) {Q : jM → Prop} (hq : ∀ M', RelM M' (putA A a) → Q M') : w_X12_put P a M Q := by
  unfold w_X12_put
  intro R hR
  have key : ∀ (A : aS) x M, RelM M A → A.1 1 + nzb (sv a x) ≤ 160 → ¬ x < 0 → (∀ M', RelM M' (stepA A (sv a x)) → R (x + (-8)) M') → R x M := by
    intro A x M h hl hx hn
    refine hR _ _ (br_f hx ?_)
    intro R43 h43
    refine bn_c (fun z => ?_) (fun z => h43 _ (hn M (by rw [stepA, if_pos z]; exact h)))
    have hlt : A.1 1 < 160 := by
      rw [nzb, if_neg z] at hl
      omega
    rw [h.len, nI_clamp (by omega)]
    refine ⟨vin hlt (by omega), ?_⟩
    rintro M7 rfl
    refine h43 _ (hn _ ?_)
    rw [up_of _ _ _ _ (show (1 : Nat) ≠ 2 by omega), h.len, nI_1, stepA, if_neg z]
    refine ⟨addA_wf h.1 hlt, fun k j hk => ?_⟩
    show _ = upM (upM A.2 2 (A.1 1) _) 1 4 (nI (A.1 1 + 1)) k j
    rw [up2, up2, up2, up2]
    by_cases e : k = 2 ∧ j = A.1 1
    · rw [if_pos e, if_pos e]
    · have hk2 : pA A k j := by
        have e2 : (addA A (sv a x)).1 1 = A.1 1 + 1 := rfl
        unfold pA at hk ⊢
        rw [e2] at hk
        omega
      rw [h.2 k j hk2]
  unfold nzW at hl
  have l1 := stepA_len A (sv a 24)
  have l2 := stepA_len (stepA A (sv a 24)) (sv a (24 + -8))
  have l3 := stepA_len (stepA (stepA A (sv a 24)) (sv a (24 + -8))) (sv a (24 + -8 + -8))
  refine key A 24 M h (by omega) (by decide) (fun M1 h1 => key _ _ M1 h1 (by omega) (by decide) (fun M2 h2 => key _ _ M2 h2 (by omega) (by decide) (fun M3 h3 => key _ _ M3 h3 (by omega) (by decide) (fun M4 h4 => hR _ _ (br_t (by decide) (hq M4 h4))))))
theorem putA_len (A : aS) (a : Int32) : (putA A a).1 1 = A.1 1 + nzW a := by
  unfold putA nzW
  rw [stepA_len, stepA_len, stepA_len, stepA_len]
  omega
theorem addA_C {P : jP} {M : jM} {A : aS} (h : RelC P M A) {v : Int32} (hl : A.1 1 < 160) : RelC P (upM (upM M 3 1 (nI (A.1 1 + 1))) 17 (A.1 1) (v &&& 255)) (addA A v) := by
  refine h.step (addA_wf h.1 hl) h.2.1 (fun k j hk => ?_) (fun k j hk => ?_)
  · rcases pCs_key hk with rfl | rfl | rfl | rfl | rfl | rfl | rfl | rfl | rfl | rfl | rfl | rfl | rfl | rfl | rfl | rfl | rfl | rfl | rfl | rfl | rfl | rfl | rfl | rfl | rfl
    case inr.inr.inl =>
      have e : j = 1 := hk
      subst e
      exact Or.inr rfl
    case inr.inr.inr.inr.inr.inr.inr.inr.inr.inr.inr.inr.inr.inl =>
      have hj : j < A.1 1 + 1 := hk
      have e2 : cTs (addA A v) 17 j = (if j = A.1 1 then v.toInt8.toInt32.toInt8.toInt32 else A.2 2 j) &&& 255 := congrArg (· &&& 255) (up_at A.2 2 (A.1 1) j _)
      have e1 : upM (upM M 3 1 (nI (A.1 1 + 1))) 17 (A.1 1) (v &&& 255) 17 j = if j = A.1 1 then v &&& 255 else M 17 j := up_at _ _ _ _ _
      rw [e1, e2]
      by_cases e : j = A.1 1
      · rw [if_pos e, if_pos e, b8]; exact Or.inr rfl
      · rw [if_neg e, if_neg e]
        exact Or.inr (h.2.2.1 17 j (show j < A.1 1 by omega))
    all_goals exact Or.inl ⟨hk, rfl, rfl⟩
  · have := pCd_ge hk
    refine ⟨hk, rfl, ?_⟩
    rw [up_of _ _ _ _ (by omega), up_of _ _ _ _ (by omega)]
abbrev agF (M M' : jM) : Prop := ∀ k, k ≠ 3 → k ≠ 17 → M' k = M k
theorem s11_append {P : jP} {M : jM} {A : aS} (h : RelC P M A) {a : Int32} (hl : A.1 1 + nzW a ≤ 160) {Q : jM → Prop} (hq : ∀ M', RelC P M' (putA A a) → agF M M' → Q M') : w_X10_append P a M Q := by
  unfold w_X10_append
  intro R hR
  have key : ∀ (A : aS) x M1, RelC P M1 A → agF M M1 → A.1 1 + nzb (sv a x) ≤ 160 → ¬ x < 0 → (∀ M', RelC P M' (stepA A (sv a x)) → agF M M' → R (x + (-8)) M') → R x M1 := by
    intro A x M1 h ha hl hx hn
    refine hR _ _ (br_f hx ?_)
    intro R46 h46
    refine br_c (fun z => h46 _ (hn M1 (by rw [stepA, if_pos z]; exact h) ha)) (fun z => ?_)
    have hlt : A.1 1 < 160 := by
      rw [nzb, if_neg z] at hl
      omega
    rw [h.len, nI_clamp (by omega), nI_1]
    refine br_f (nI_ge (b := 160) hlt (by omega)) ⟨vin hlt (by omega), ?_⟩
    rintro M8 rfl
    refine h46 _ (hn _ ?_ ?_)
    · rw [stepA, if_neg z]
      exact addA_C h hlt
    · intro k k1 k2
      rw [upM_ne _ _ _ k2, upM_ne _ _ _ k1]
      exact ha k k1 k2
  unfold nzW at hl
  have l1 := stepA_len A (sv a 24)
  have l2 := stepA_len (stepA A (sv a 24)) (sv a (24 + -8))
  have l3 := stepA_len (stepA (stepA A (sv a 24)) (sv a (24 + -8))) (sv a (24 + -8 + -8))
  refine key A 24 M h (fun _ _ _ => rfl) (by omega) (by decide) (fun M1 h1 a1 => key _ _ M1 h1 a1 (by omega) (by decide) (fun M2 h2 a2 => key _ _ M2 h2 a2 (by omega) (by decide) (fun M3 h3 a3 => key _ _ M3 h3 a3 (by omega) (by decide) (fun M4 h4 a4 => hR _ _ (br_t (by decide) (hq M4 h4 a4))))))
abbrev fedN (a b c d e : Int32) : Nat := nzW a + nzW b + nzW c + nzW d + nzW e
def feedA (A : aS) (a b c d e : Int32) : aS := if A.1 1 + fedN a b c d e ≤ 160 then putA (putA (putA (putA (putA A a) b) c) d) e else A
def feedS (A : aS) (a b c d e : Int32) : Int32 := if A.1 1 + fedN a b c d e ≤ 160 then nI (A.1 1 + fedN a b c d e) else -1
theorem s12_feed {P : jP} {M : jM} {A : aS} (h : RelM M A) {a b c d e : Int32} {Q : Int32 → jM → Prop} (hq : ∀ M', RelM M' (feedA A a b c d e) → Q (feedS A a b c d e) M') : w_X12_feed P a b c d e M Q := by
  unfold w_X12_feed
  have h0 := h.thr 0
  generalize upM M 1 0 0 = M0 at h0 ⊢
  have h6 := h0.num
  unfold wfNum at h6
  have na := nzW_le a
  have nb := nzW_le b
  have nc := nzW_le c
  have nd := nzW_le d
  have ne := nzW_le e
  refine s12_bytesIn (s12_bytesIn (s12_bytesIn (s12_bytesIn (s12_bytesIn ?_))))
  rw [h0.len, nI_add, nI_add, nI_add, nI_add, nI_add]
  have e1 : nI (A.1 1 + nzW a + nzW b + nzW c + nzW d + nzW e) ≤ 160 ↔ A.1 1 + fedN a b c d e ≤ 160 := by
    have := nI_leI (a := A.1 1 + nzW a + nzW b + nzW c + nzW d + nzW e) (b := 160) (by omega) (by omega)
    unfold fedN
    rw [show A.1 1 + (nzW a + nzW b + nzW c + nzW d + nzW e) = A.1 1 + nzW a + nzW b + nzW c + nzW d + nzW e by omega]
    exact this
  rw [e1]
  have pa := putA_len A a
  have pb := putA_len (putA A a) b
  have pc := putA_len (putA (putA A a) b) c
  have pd := putA_len (putA (putA (putA A a) b) c) d
  have pe := putA_len (putA (putA (putA (putA A a) b) c) d) e
  refine br_c (fun z => ?_) (fun z => ?_)
  · have z2 : A.1 1 + (nzW a + nzW b + nzW c + nzW d + nzW e) ≤ 160 := z
    refine s12_put h0 (by omega) (fun M1 h1 => s12_put h1 (by omega) (fun M2 h2 => s12_put h2 (by omega) (fun M3 h3 => s12_put h3 (by omega) (fun M4 h4 => s12_put h4 (by omega) (fun M5 h5 => ?_)))))
    have hq := hq M5 (by rw [feedA, if_pos z]; exact h5)
    rw [feedS, if_pos z] at hq
    rw [h5.len, pe, pd, pc, pb, pa]
    rw [show A.1 1 + nzW a + nzW b + nzW c + nzW d + nzW e = A.1 1 + fedN a b c d e by unfold fedN; omega]
    exact hq
  · have hq := hq M0 (by rw [feedA, if_neg z]; exact h0)
    rw [feedS, if_neg z] at hq
    exact hq
theorem s11_feed {P : jP} {M : jM} {A : aS} (h : RelC P M A) {a b c d e : Int32} {Q : Int32 → jM → Prop} (hq : ∀ M', RelC P M' (feedA A a b c d e) → agF M M' → Q (feedS A a b c d e) M') : w_X11_feed P a b c d e M Q := by
  unfold w_X11_feed
  have h6 := h.num
  unfold wfNum at h6
  have na := nzW_le a
  have nb := nzW_le b
  have nc := nzW_le c
  have nd := nzW_le d
  have ne := nzW_le e
  refine s11_signs (s11_signs (s11_signs (s11_signs (s11_signs ?_))))
  rw [h.len, nI_add, nI_add, nI_add, nI_add, nI_add]
  have e1 : nI (A.1 1 + (nzW a + nzW b + nzW c + nzW d + nzW e)) ≤ 160 ↔ A.1 1 + fedN a b c d e ≤ 160 := nI_leI (a := A.1 1 + (nzW a + nzW b + nzW c + nzW d + nzW e)) (b := 160) (by omega) (by omega)
  rw [e1]
  have pa := putA_len A a
  have pb := putA_len (putA A a) b
  have pc := putA_len (putA (putA A a) b) c
  have pd := putA_len (putA (putA (putA A a) b) c) d
  have pe := putA_len (putA (putA (putA (putA A a) b) c) d) e
  refine br_c (fun z => ?_) (fun z => ?_)
  · have z2 : A.1 1 + (nzW a + nzW b + nzW c + nzW d + nzW e) ≤ 160 := z
    refine s11_append h (by omega) (fun M1 h1 a1 => s11_append h1 (by omega) (fun M2 h2 a2 => s11_append h2 (by omega) (fun M3 h3 a3 => s11_append h3 (by omega) (fun M4 h4 a4 => s11_append h4 (by omega) (fun M5 h5 a5 => ?_)))))
    have hq := hq M5 (by rw [feedA, if_pos z]; exact h5) (fun k k1 k2 => (a5 k k1 k2).trans ((a4 k k1 k2).trans ((a3 k k1 k2).trans ((a2 k k1 k2).trans (a1 k k1 k2)))))
    rw [feedS, if_pos z] at hq
    rw [h5.len, pe, pd, pc, pb, pa]
    rw [show A.1 1 + nzW a + nzW b + nzW c + nzW d + nzW e = A.1 1 + fedN a b c d e by unfold fedN; omega]
    exact hq
  · have hq := hq M (by rw [feedA, if_neg z]; exact h) (fun _ _ _ => rfl)
    rw [feedS, if_neg z] at hq
    exact hq
