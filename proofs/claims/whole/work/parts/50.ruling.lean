/-! STATE CHANGES. ruling: both sides -/
def setN (f : Nat → Nat) (i v : Nat) : Nat → Nat := fun j => if j = i then v else f j
theorem up2 (M : jM) (k j a i : Nat) (v : Int32) : upM M k j v a i = if a = k ∧ i = j then v else M a i := by
  by_cases h : a = k
  · subst h
    rw [up_at]
    by_cases h2 : i = j
    · rw [if_pos h2, if_pos ⟨rfl, h2⟩]
    · rw [if_neg h2, if_neg (fun z => h2 z.2)]
  · rw [up_of _ _ _ _ h, if_neg (fun z => h z.1)]
theorem pCs_key {A : aS} {k j : Nat} (h : pCs A k j) : k = 1 ∨ k = 2 ∨ k = 3 ∨ k = 4 ∨ k = 5 ∨ k = 6 ∨ k = 7 ∨ k = 9 ∨ k = 10 ∨ k = 11 ∨ k = 12 ∨ k = 15 ∨ k = 16 ∨ k = 17 ∨ k = 27 ∨ k = 28 ∨ k = 29 ∨ k = 31 ∨ k = 32 ∨ k = 33 ∨ k = 34 ∨ k = 38 ∨ k = 39 ∨ k = 43 ∨ k = 44 := by
  unfold pCs at h
  split at h
  all_goals first | omega | exact h.elim
theorem RelC.step {P : jP} {M M' : jM} {A A' : aS} (h : RelC P M A) (hw : wfA A') (hp : presC P A') (hs : ∀ k j, pCs A' k j → (pCs A k j ∧ cTs A' k j = cTs A k j ∧ M' k j = M k j) ∨ M' k j = cTs A' k j) (hd : ∀ k j, pCd A' k j → pCd A k j ∧ cTd A' k j = cTd A k j ∧ M' k j = M k j) : RelC P M' A' := by
  refine ⟨hw, hp, fun k j hk => ?_, fun k j hk => ?_⟩
  · rcases hs k j hk with ⟨h1, h2, h3⟩ | h1
    · rw [h2, h3]; exact h.2.2.1 k j h1
    · exact h1
  · obtain ⟨h1, h2, h3⟩ := hd k j hk
    rw [h2, h3]; exact h.2.2.2 k j h1
def rulA (A : aS) (c o : Int32) : aS := (setN A.1 6 (A.1 6 + 1), upM (upM (upM A.2 28 (A.1 6) c) 29 (A.1 6) o) 1 44 (nI (A.1 6 + 1)))
abbrev okR (A : aS) (c o : Int32) : Prop := A.1 6 < 20 ∧ okC A c ∧ okO o
def rulingN (A : aS) (c o : Int32) : aS := if okR A c o then rulA A c o else A
def rulingS (A : aS) (c o : Int32) : Int32 := if okR A c o then nI (A.1 6 + 1) else -1
theorem okO_of {o : Int32} (h : okO o) : o = -1 ∨ ∃ k : Nat, k ≤ 5 ∧ o = nI k := by
  by_cases h0 : o < 0
  · exact Or.inl (neg_m1 h.1 h0)
  · have h5 : ¬ nI 6 ≤ o := fun z => h.2 (by
      have e := Int32.le_iff_toInt_le.mp z
      rw [nI_toInt (by omega)] at e
      rw [Int32.lt_iff_toInt_lt, show (5 : Int32) = nI 5 from rfl, nI_toInt (by omega)]
      omega)
    obtain ⟨k, hk, e⟩ := (ok3 (n := 6) (by omega)).mp ⟨h0, h5⟩
    exact Or.inr ⟨k, by omega, e⟩
theorem rulA_wf {A : aS} (h : wfA A) {c o : Int32} (hr : okR A c o) : wfA (rulA A c o) := by
  obtain ⟨n, hd, hl, hf, hs, hp, hu⟩ := h
  have n2 := n
  unfold wfNum at n2
  refine ⟨⟨n.1, n.2.1, n.2.2.1, n.2.2.2.1, n.2.2.2.2.1, n.2.2.2.2.2.1, hr.1⟩, ⟨hd.1, hd.2.1, hd.2.2.1, hd.2.2.2.1, hd.2.2.2.2.1, hd.2.2.2.2.2.1, hd.2.2.2.2.2.2.1, rfl⟩, hl, hf, hs, hp, ?_⟩
  intro r hr2
  have hr3 : r < A.1 6 + 1 := hr2
  have e28 : (rulA A c o).2 28 r = if r = A.1 6 then c else A.2 28 r := up_at A.2 28 (A.1 6) r c
  have e29 : (rulA A c o).2 29 r = if r = A.1 6 then o else A.2 29 r := up_at A.2 29 (A.1 6) r o
  rw [e28, e29]
  by_cases e : r = A.1 6
  · rw [if_pos e, if_pos e]
    have hC := two_le n2.1.2
    obtain ⟨x, hx, ex⟩ := (ok3 (by omega)).mp hr.2.1
    exact ⟨⟨x, hx, ex⟩, okO_of hr.2.2⟩
  · rw [if_neg e, if_neg e]
    exact hu r (by omega)
theorem s12_ruling {P : jP} {M : jM} {A : aS} (h : RelM M A) {c o : Int32} {Q : Int32 → jM → Prop} (hq : ∀ M', RelM M' (rulingN A c o) → Q (rulingS A c o) M') : w_X12_ruling P c o M Q := by
  unfold w_X12_ruling
  have h0 := h.thr 0
  generalize upM M 1 0 0 = M0 at h0 ⊢
  have h6 := h0.num
  unfold wfNum at h6
  have bad : ¬ okR A c o → Q (-1) M0 := fun z => by
    have := hq M0 (by rw [rulingN, if_neg z]; exact h0)
    rw [rulingS, if_neg z] at this; exact this
  rw [h0.rules]
  refine br_c (fun e => bad (fun z => ?_)) (fun e => s12_isCase h0 (br_i (fun hn => bad (fun z => hn z.2.1)) (fun hc => s12_isOutcome (br_j (fun ho => ?_) (fun hn => bad (fun z => hn z.2.2))))))
  · have := (nI_eq (b := 20) (by omega) (by omega)).mp e
    omega
  · have hlt : A.1 6 < 20 := by
      rcases Nat.lt_or_ge (A.1 6) 20 with z | z
      · exact z
      · exact absurd (congrArg nI (show A.1 6 = 20 by omega)) e
    have ok : okR A c o := ⟨hlt, hc, ho⟩
    refine ⟨vin hlt (by omega), ?_⟩
    rintro M1 rfl
    rw [nI_clamp (show A.1 6 < 2 ^ 31 by omega), up_of _ _ _ _ (show (1 : Nat) ≠ 28 by omega), h0.rules]
    refine ⟨vin hlt (by omega), ?_⟩
    rintro M2 rfl
    rw [nI_clamp (show A.1 6 < 2 ^ 31 by omega), up_of _ _ _ _ (show (1 : Nat) ≠ 29 by omega), up_of _ _ _ _ (show (1 : Nat) ≠ 28 by omega), h0.rules, nI_1, up_at, if_pos rfl]
    have hq := hq (upM (upM (upM M0 28 (A.1 6) c) 29 (A.1 6) o) 1 44 (nI (A.1 6 + 1))) (by
      rw [rulingN, if_pos ok]
      refine ⟨rulA_wf h0.1 ok, fun k j hk => ?_⟩
      have e := h0.2 k j hk
      show upM _ 1 44 _ k j = upM _ 1 44 _ k j
      rw [up2, up2, up2, up2, up2, up2, e])
    rw [rulingS, if_pos ok] at hq
    exact hq
  done
theorem s11_ruling {P : jP} {M : jM} {A : aS} (h : RelC P M A) {c o : Int32} {Q : Int32 → jM → Prop} (hq : ∀ M', RelC P M' (rulingN A c o) → (∀ k, k ≠ 10 → k ≠ 43 → k ≠ 44 → M' k = M k) → Q (rulingS A c o) M') : w_X11_ruling P c o M Q := by
  have h6 := h.num
  unfold wfNum at h6
  have bad : ¬ okR A c o → Q (-1) M := fun z => by
    have := hq M (by rw [rulingN, if_neg z]; exact h) (fun _ _ _ _ => rfl)
    rw [rulingS, if_neg z] at this; exact this
  have e10 : M 10 0 = nI (A.1 6) := h.2.2.1 10 0 rfl
  unfold w_X11_ruling w_X8_added
  refine s11_isCase h (br_i (fun hn => bad (fun z => hn z.2.1)) (fun hc => s11_isOutcome (br_i (fun hn => bad (fun z => hn z.2.2)) (fun ho => ?_))))
  rw [e10]
  refine br_c (fun z => ?_) (fun z => bad (fun y => z ((nI_ltI (b := 20) (by omega) (by omega)).mpr y.1)))
  have hlt : A.1 6 < 20 := (nI_ltI (b := 20) (by omega) (by omega)).mp z
  have ok : okR A c o := ⟨hlt, hc, ho⟩
  rw [nI_clamp (show A.1 6 < 2 ^ 31 by omega), up_of _ _ _ _ (show (10 : Nat) ≠ 43 by omega), e10]
  refine ⟨vin hlt (by omega), vin hlt (by omega), ?_⟩
  rintro M2 rfl
  rw [nI_clamp (show A.1 6 < 2 ^ 31 by omega), up_of _ _ _ _ (show (10 : Nat) ≠ 44 by omega), up_of _ _ _ _ (show (10 : Nat) ≠ 43 by omega), e10, nI_1, up_at, if_pos rfl]
  have hq := hq (upM (upM (upM M 43 (A.1 6) c) 44 (A.1 6) o) 10 0 (nI (A.1 6 + 1))) (by
    rw [rulingN, if_pos ok]
    refine h.step (rulA_wf h.1 ok) h.2.1 (fun k j hk => ?_) (fun k j hk => ⟨hk, rfl, ?_⟩)
    · rcases pCs_key hk with rfl | rfl | rfl | rfl | rfl | rfl | rfl | rfl | rfl | rfl | rfl | rfl | rfl | rfl | rfl | rfl | rfl | rfl | rfl | rfl | rfl | rfl | rfl | rfl | rfl
      all_goals first | exact Or.inl ⟨hk, rfl, rfl⟩ | skip
      · have e : j = 0 := hk
        subst e
        exact Or.inr rfl
      · have hj : j < A.1 6 + 1 := hk
        have e1 : upM (upM (upM M 43 (A.1 6) c) 44 (A.1 6) o) 10 0 (nI (A.1 6 + 1)) 43 j = if j = A.1 6 then c else M 43 j := up_at M 43 (A.1 6) j c
        have e2 : cTs (rulA A c o) 43 j = if j = A.1 6 then c else A.2 28 j := up_at A.2 28 (A.1 6) j c
        rw [e1, e2]
        by_cases e : j = A.1 6
        · rw [if_pos e, if_pos e]; exact Or.inr rfl
        · rw [if_neg e, if_neg e]
          exact Or.inr (h.2.2.1 43 j (show j < A.1 6 by omega))
      · have hj : j < A.1 6 + 1 := hk
        have e1 : upM (upM (upM M 43 (A.1 6) c) 44 (A.1 6) o) 10 0 (nI (A.1 6 + 1)) 44 j = if j = A.1 6 then o else M 44 j := up_at (upM M 43 (A.1 6) c) 44 (A.1 6) j o
        have e2 : cTs (rulA A c o) 44 j = if j = A.1 6 then o else A.2 29 j := up_at A.2 29 (A.1 6) j o
        rw [e1, e2]
        by_cases e : j = A.1 6
        · rw [if_pos e, if_pos e]; exact Or.inr rfl
        · rw [if_neg e, if_neg e]
          exact Or.inr (h.2.2.1 44 j (show j < A.1 6 by omega))
    · have := pCd_ge hk
      rw [up_of _ _ _ _ (show k ≠ 10 by omega), up_of _ _ _ _ (show k ≠ 44 by omega), up_of _ _ _ _ (show k ≠ 43 by omega)]) (fun k a b d => by rw [upM_ne _ _ _ a, upM_ne _ _ _ d, upM_ne _ _ _ b])
  rw [rulingS, if_pos ok] at hq
  exact hq
