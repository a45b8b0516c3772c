/-! text: the states behind it, the reference's side -/
def num3 (A : aS) (k : Nat) : Nat → Nat := fun j => if j = 1 then 0 else if j = k then A.1 k + 1 else A.1 j
def lawT (A : aS) (n : Nat) (o : Nat → Nat) (cv uv : Nat → Nat → Bool) : jM := fun k j =>
  if k = 1 then (if j = 4 then 0 else if j = 25 then nI (A.1 2 + 1) else A.2 1 j)
  else if k = 8 then (if 512 * A.1 2 ≤ j ∧ j < 512 * A.1 2 + 2 ^ A.1 0 then (if hN n cv uv (j - 512 * A.1 2) = 0 then -1 else nI (o (lowb (hN n cv uv (j - 512 * A.1 2))))) else A.2 8 j)
  else if k = 9 then (if 512 * A.1 2 ≤ j ∧ j < 512 * A.1 2 + 2 ^ A.1 0 then nI (hN n cv uv (j - 512 * A.1 2)) else A.2 9 j)
  else if k = 10 then (if j = A.1 2 then nI n else A.2 10 j)
  else if k = 11 then (if 12 * A.1 2 ≤ j ∧ j < 12 * A.1 2 + n then nI (o (j - 12 * A.1 2)) else A.2 11 j)
  else A.2 k j
def lawA (A : aS) (n : Nat) (o : Nat → Nat) (cv uv : Nat → Nat → Bool) : aS := (num3 A 2, lawT A n o cv uv)
def qT (A : aS) (val : Nat → Bool) : jM := fun k j =>
  if k = 1 then (if j = 4 then 0 else if j = 26 then nI (A.1 3 + 1) else A.2 1 j)
  else if k = 14 then (if 512 * A.1 3 ≤ j ∧ j < 512 * A.1 3 + 2 ^ A.1 0 then bi (val (j - 512 * A.1 3) = true) else A.2 14 j)
  else A.2 k j
def qA (A : aS) (val : Nat → Bool) : aS := (num3 A 3, qT A val)
def fT (A : aS) (n : Nat) (fc yt nt : Nat → Nat) : jM := fun k j =>
  if k = 1 then (if j = 4 then 0 else if j = 27 then nI (A.1 4 + 1) else A.2 1 j)
  else if k = 7 then (if j = A.1 4 then nI n else A.2 7 j)
  else if 4 ≤ k ∧ k ≤ 6 then (if 12 * A.1 4 ≤ j ∧ j < 12 * A.1 4 + n then (if k = 4 then nI (fc (j - 12 * A.1 4)) else if k = 5 then nI (yt (j - 12 * A.1 4)) else nI (nt (j - 12 * A.1 4))) else A.2 k j)
  else A.2 k j
def fA (A : aS) (n : Nat) (fc yt nt : Nat → Nat) : aS := (num3 A 4, fT A n fc yt nt)
theorem lawT_ne {A : aS} {n : Nat} {o : Nat → Nat} {cv uv : Nat → Nat → Bool} {k : Nat} (h : k ≠ 1 ∧ ¬ (8 ≤ k ∧ k ≤ 11)) : lawT A n o cv uv k = A.2 k := by
  funext j
  unfold lawT
  rw [if_neg h.1, if_neg (by omega), if_neg (by omega), if_neg (by omega), if_neg (by omega)]
theorem qT_ne {A : aS} {val : Nat → Bool} {k : Nat} (h : k ≠ 1 ∧ k ≠ 14) : qT A val k = A.2 k := by
  funext j
  unfold qT
  rw [if_neg h.1, if_neg h.2]
theorem fT_ne {A : aS} {n : Nat} {fc yt nt : Nat → Nat} {k : Nat} (h : k ≠ 1 ∧ ¬ (4 ≤ k ∧ k ≤ 7)) : fT A n fc yt nt k = A.2 k := by
  funext j
  unfold fT
  rw [if_neg h.1, if_neg (by omega), if_neg (by omega)]
theorem hN_lt (n : Nat) (cv uv : Nat → Nat → Bool) (c : Nat) : hN n cv uv c < 2 ^ n := bitsN_lt _ n
theorem lawA_wf {A : aS} (h : wfA A) {n : Nat} {o : Nat → Nat} {cv uv : Nat → Nat → Bool} (hl : A.1 2 < 6) (h1 : 1 ≤ n) (h12 : n ≤ 12) (ho : ∀ j, j < n → o j ≤ 5) : wfA (lawA A n o cv uv) := by
  obtain ⟨m, hd, hl2, hf, hs, hp, hu⟩ := h
  have T : ∀ a, a ≠ 1 ∧ ¬ (8 ≤ a ∧ a ≤ 11) → (lawA A n o cv uv).2 a = A.2 a := fun a h => lawT_ne h
  have m' := m
  unfold wfNum at m'
  have C := two_le m'.1.2
  have e0 : (lawA A n o cv uv).1 0 = A.1 0 := rfl
  have e2 : (lawA A n o cv uv).1 2 = A.1 2 + 1 := rfl
  refine ⟨⟨m.1, Nat.zero_le _, hl, m'.2.2.2⟩, ⟨hd.1, hd.2.1, rfl, rfl, hd.2.2.2.2⟩, ?_, wfForms_of hf rfl rfl (T _ (by omega)) (T _ (by omega)) (T _ (by omega)) (T _ (by omega)), wfSet_of hs rfl rfl (T _ (by omega)) (T _ (by omega)) (T _ (by omega)) (T _ (by omega)) (T _ (by omega)), ?_, wfRules_of hu rfl rfl (T _ (by omega)) (T _ (by omega))⟩
  · intro l hll
    rw [e2] at hll
    have e10 : ∀ j, (lawA A n o cv uv).2 10 j = if j = A.1 2 then nI n else A.2 10 j := fun j => rfl
    have e11 : ∀ j, (lawA A n o cv uv).2 11 j = if 12 * A.1 2 ≤ j ∧ j < 12 * A.1 2 + n then nI (o (j - 12 * A.1 2)) else A.2 11 j := fun j => rfl
    have e9 : ∀ j, (lawA A n o cv uv).2 9 j = if 512 * A.1 2 ≤ j ∧ j < 512 * A.1 2 + 2 ^ A.1 0 then nI (hN n cv uv (j - 512 * A.1 2)) else A.2 9 j := fun j => rfl
    have e8 : ∀ j, (lawA A n o cv uv).2 8 j = if 512 * A.1 2 ≤ j ∧ j < 512 * A.1 2 + 2 ^ A.1 0 then (if hN n cv uv (j - 512 * A.1 2) = 0 then -1 else nI (o (lowb (hN n cv uv (j - 512 * A.1 2))))) else A.2 8 j := fun j => rfl
    rw [e0]
    by_cases z : l = A.1 2
    · subst z
      refine ⟨n, h1, h12, by rw [e10, if_pos rfl], fun k hk => ⟨o k, ho k hk, by rw [e11, if_pos (by omega), show 12 * A.1 2 + k - 12 * A.1 2 = k by omega]⟩, fun c hc => ⟨hN n cv uv c, hN_lt n cv uv c, by rw [e9, if_pos (by omega), show 512 * A.1 2 + c - 512 * A.1 2 = c by omega], ?_⟩⟩
      rw [e8, if_pos (by omega), show 512 * A.1 2 + c - 512 * A.1 2 = c by omega]
      unfold outOf
      by_cases y : hN n cv uv c = 0
      · rw [if_pos y, if_pos y]
      · have hb := lowb_lt n h12 _ (hN_lt n cv uv c) y
        rw [if_neg y, if_neg y, e11, if_pos (by omega), show 12 * A.1 2 + lowb (hN n cv uv c) - 12 * A.1 2 = lowb (hN n cv uv c) by omega]
    · obtain ⟨cl, c1, c2, c3, c4, c5⟩ := hl2 l (by omega)
      refine ⟨cl, c1, c2, by rw [e10, if_neg z]; exact c3, fun k hk => ?_, fun c hc => ?_⟩
      · rw [e11, if_neg (by omega)]; exact c4 k hk
      · obtain ⟨hh, h1', h2', h3'⟩ := c5 c hc
        refine ⟨hh, h1', by rw [e9, if_neg (by omega)]; exact h2', ?_⟩
        rw [e8, if_neg (by omega), h3']
        unfold outOf
        by_cases y : hh = 0
        · rw [if_pos y, if_pos y]
        · have hb := lowb_lt cl c2 hh h1' y
          rw [if_neg y, if_neg y, e11, if_neg (by omega)]
  · unfold wfPeople at hp ⊢
    intro s hss
    have e17 : (lawA A n o cv uv).2 17 = A.2 17 := T _ (by omega)
    have e18 : (lawA A n o cv uv).2 18 = A.2 18 := T _ (by omega)
    rw [e17, e18]
    exact hp s hss
theorem qA_wf {A : aS} (h : wfA A) {val : Nat → Bool} (hl : A.1 3 < 10) : wfA (qA A val) := by
  obtain ⟨m, hd, hl2, hf, hs, hp, hu⟩ := h
  have T : ∀ a, a ≠ 1 ∧ a ≠ 14 → (qA A val).2 a = A.2 a := fun a h => qT_ne h
  have m' := m
  unfold wfNum at m'
  have C := two_le m'.1.2
  refine ⟨⟨m.1, Nat.zero_le _, m'.2.2.1, hl, m'.2.2.2.2⟩, ⟨hd.1, hd.2.1, rfl, hd.2.2.2.1, rfl, hd.2.2.2.2.2⟩, wfLaws_of hl2 rfl rfl (T _ (by omega)) (T _ (by omega)) (T _ (by omega)) (T _ (by omega)), wfForms_of hf rfl rfl (T _ (by omega)) (T _ (by omega)) (T _ (by omega)) (T _ (by omega)), ?_, ?_, wfRules_of hu rfl rfl (T _ (by omega)) (T _ (by omega))⟩
  · obtain ⟨s1, s2, s3, s4, s5⟩ := hs
    have e12 : (qA A val).2 12 = A.2 12 := T _ (by omega)
    have e13 : (qA A val).2 13 = A.2 13 := T _ (by omega)
    have e15 : (qA A val).2 15 = A.2 15 := T _ (by omega)
    have e16 : (qA A val).2 16 = A.2 16 := T _ (by omega)
    have e14 : ∀ j, (qA A val).2 14 j = if 512 * A.1 3 ≤ j ∧ j < 512 * A.1 3 + 2 ^ A.1 0 then bi (val (j - 512 * A.1 3) = true) else A.2 14 j := fun j => rfl
    unfold wfSet
    rw [e12, e13, e15, e16]
    refine ⟨s1, s2, fun q hq c hc => ?_, s4, s5⟩
    have hq' : q < A.1 3 + 1 := hq
    have hc' : c < 2 ^ A.1 0 := hc
    rw [e14]
    by_cases z : q = A.1 3
    · subst z
      rw [if_pos (by omega)]
      rcases b01_bi (p := val (512 * A.1 3 + c - 512 * A.1 3) = true) with h | h
      · exact Or.inl h
      · exact Or.inr h
    · rw [if_neg (by omega)]
      exact s3 q (by omega) c hc
  · unfold wfPeople at hp ⊢
    intro s hss
    have e17 : (qA A val).2 17 = A.2 17 := T _ (by omega)
    have e18 : (qA A val).2 18 = A.2 18 := T _ (by omega)
    rw [e17, e18]
    exact hp s hss
theorem tgt_of {j n v : Nat} (h : tOkN j n v) : tgtOk (nI v) j n := by
  rcases h with h | h
  · exact Or.inl ⟨v, h.1, h.2, rfl⟩
  · exact Or.inr ⟨v - 99, by omega, by rw [show 99 + (v - 99) = v by omega]⟩
theorem fA_wf {A : aS} (h : wfA A) {n : Nat} {fc yt nt : Nat → Nat} (hl : A.1 4 < 6) (h1 : 1 ≤ n) (h12 : n ≤ 12) (ho : ∀ j, j < n → fc j < A.1 0 ∧ tOkN j n (yt j) ∧ tOkN j n (nt j)) : wfA (fA A n fc yt nt) := by
  obtain ⟨m, hd, hl2, hf, hs, hp, hu⟩ := h
  have T : ∀ a, a ≠ 1 ∧ ¬ (4 ≤ a ∧ a ≤ 7) → (fA A n fc yt nt).2 a = A.2 a := fun a h => fT_ne h
  have m' := m
  unfold wfNum at m'
  refine ⟨⟨m.1, Nat.zero_le _, m'.2.2.1, m'.2.2.2.1, hl, m'.2.2.2.2.2⟩, ⟨hd.1, hd.2.1, rfl, hd.2.2.2.1, hd.2.2.2.2.1, rfl, hd.2.2.2.2.2.2⟩, wfLaws_of hl2 rfl rfl (T _ (by omega)) (T _ (by omega)) (T _ (by omega)) (T _ (by omega)), ?_, wfSet_of hs rfl rfl (T _ (by omega)) (T _ (by omega)) (T _ (by omega)) (T _ (by omega)) (T _ (by omega)), ?_, wfRules_of hu rfl rfl (T _ (by omega)) (T _ (by omega))⟩
  · intro f hff
    have hff' : f < A.1 4 + 1 := hff
    have e0 : (fA A n fc yt nt).1 0 = A.1 0 := rfl
    have e7 : ∀ j, (fA A n fc yt nt).2 7 j = if j = A.1 4 then nI n else A.2 7 j := fun j => rfl
    have e4 : ∀ j, (fA A n fc yt nt).2 4 j = if 12 * A.1 4 ≤ j ∧ j < 12 * A.1 4 + n then nI (fc (j - 12 * A.1 4)) else A.2 4 j := fun j => rfl
    have e5 : ∀ j, (fA A n fc yt nt).2 5 j = if 12 * A.1 4 ≤ j ∧ j < 12 * A.1 4 + n then nI (yt (j - 12 * A.1 4)) else A.2 5 j := fun j => rfl
    have e6 : ∀ j, (fA A n fc yt nt).2 6 j = if 12 * A.1 4 ≤ j ∧ j < 12 * A.1 4 + n then nI (nt (j - 12 * A.1 4)) else A.2 6 j := fun j => rfl
    rw [e0]
    by_cases z : f = A.1 4
    · subst z
      refine ⟨n, h1, h12, by rw [e7, if_pos rfl], fun j hj => ?_⟩
      obtain ⟨o1, o2, o3⟩ := ho j hj
      rw [e4, e5, e6, if_pos (by omega), if_pos (by omega), if_pos (by omega), show 12 * A.1 4 + j - 12 * A.1 4 = j by omega]
      exact ⟨⟨fc j, o1, rfl⟩, tgt_of o2, tgt_of o3⟩
    · obtain ⟨nm, n1, n2, n3, n4⟩ := hf f (by omega)
      refine ⟨nm, n1, n2, by rw [e7, if_neg z]; exact n3, fun j hj => ?_⟩
      rw [e4, e5, e6, if_neg (by omega), if_neg (by omega), if_neg (by omega)]
      exact n4 j hj
  · unfold wfPeople at hp ⊢
    intro s hss
    have e17 : (fA A n fc yt nt).2 17 = A.2 17 := T _ (by omega)
    have e18 : (fA A n fc yt nt).2 18 = A.2 18 := T _ (by omega)
    rw [e17, e18]
    exact hp s hss
