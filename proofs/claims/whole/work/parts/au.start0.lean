/-! THE STATE OF TWO NEW OBJECTS -/
def A0 (n : Nat) (Mm : jM) : aS := (fun j => if j = 0 then n else 0, Mm)
theorem bitsN_0 {f : Nat → Bool} (h : ∀ i, f i = false) : ∀ n, bitsN f n = 0 := by
  intro n
  induction n with
  | zero => rfl
  | succ n ih => unfold bitsN; rw [ih, h n]; rfl
theorem A0_wf {n : Nat} {Mm : jM} (h1 : 1 ≤ n) (h9 : n ≤ 9) (hB : bornM n Mm) : wfA (A0 n Mm) := by
  obtain ⟨b0, b1, b2, b3, b12, b13, bz⟩ := hB
  refine ⟨⟨⟨h1, h9⟩, Nat.zero_le _, Nat.zero_le _, Nat.zero_le _, Nat.zero_le _, Nat.zero_le _, Nat.zero_le _⟩, ⟨b1, b2, b3 4 (Or.inl rfl), b3 25 (Or.inr (Or.inl rfl)), b3 26 (Or.inr (Or.inr (Or.inl rfl))), b3 27 (Or.inr (Or.inr (Or.inr (Or.inl rfl)))), b3 31 (Or.inr (Or.inr (Or.inr (Or.inr (Or.inl rfl))))), b3 44 (Or.inr (Or.inr (Or.inr (Or.inr (Or.inr rfl)))))⟩, fun l hl => absurd hl (Nat.not_lt_zero l), fun f hf => absurd hf (Nat.not_lt_zero f), ⟨?_, ?_, fun q hq => absurd hq (Nat.not_lt_zero q), ?_, ?_⟩, fun s hs => absurd hs (Nat.not_lt_zero s), fun r hr => absurd hr (Nat.not_lt_zero r)⟩
  · intro f hf
    have hf : f < n := hf
    exact ⟨1, by omega, by omega, by show Mm 12 f = _; rw [b12 f, if_pos (by omega)]; rfl⟩
  · intro q hq
    exact ⟨1, by omega, by omega, by show Mm 13 q = _; rw [b13 q, if_pos hq]; rfl⟩
  · intro f hf
    exact Or.inl (by show Mm 15 f = _; rw [bz 15 (by omega) (by omega) (by omega) (by omega)])
  · intro f hf
    exact ⟨0, by omega, by show Mm 16 f = _; rw [bz 16 (by omega) (by omega) (by omega) (by omega)]; rfl⟩
theorem A0_rel {n : Nat} {Mm : jM} (h1 : 1 ≤ n) (h9 : n ≤ 9) (hB : bornM n Mm) : RelM Mm (A0 n Mm) := ⟨A0_wf h1 h9 hB, fun _ _ _ => rfl⟩
theorem A0_wfX {n : Nat} {Mm : jM} (hB : bornM n Mm) : wfX (A0 n Mm) := ⟨fun j hj => absurd hj (Nat.not_lt_zero j), fun q _ hq => by show Mm 13 q = 1; rw [hB.2.2.2.2.2.1 q, if_pos hq]⟩
theorem A0_GC {n : Nat} {Mm : jM} (h1 : 1 ≤ n) (h9 : n ≤ 9) (hB : bornM n Mm) {P : jP} {M : jM} {N : jN} (hP : PR P keysC) (z0 : P.2.2 0 = n) (z1 : P.2.2 1 = 2 ^ n) (z2 : P.2.2 2 = 3 ^ n) (z3 : P.2.2 3 = sideN n * sideN n) (hC : bornC n M) : GC P M N (A0 n Mm) 0 := by
  obtain ⟨-, ⟨c110, c112⟩, ⟨c20, c21, c22, c23⟩, c31, ⟨c41, c49⟩, ⟨c51, c56, c23z⟩, ⟨c60, c63, c28, c27⟩, ⟨c70, c71, c3x⟩, ⟨c86, c87, c810⟩, ⟨c90, c96, c39, c40⟩, c100, ⟨c11, c12⟩, c15, c16⟩ := hC
  have hX : presX P (A0 n Mm) := by
    intro k hk
    refine (hP k hk).trans ?_
    show k ∈ keysC ↔ (1 ≤ k ∧ k ≤ 44) ∨ (64 ≤ k ∧ k < 64 + 8 * 0 ∧ (k - 64) % 8 ≤ 4) ∨ (128 ≤ k ∧ k < 132 + 4 * 0)
    simp only [keysC, List.mem_cons, List.not_mem_nil, or_false]
    omega
  have bz := hB.2.2.2.2.2.2
  have e15 : Mm 15 = fun _ => 0 := bz 15 (by omega) (by omega) (by omega) (by omega)
  refine ⟨⟨A0_wf h1 h9 hB, ⟨z0, z1, z2, z3, fun l r hl => absurd hl (Nat.not_lt_zero l), fun f r hf hr => ?_⟩, ?_, ?_⟩, hX, fun l hl => absurd hl (Nat.not_lt_zero l), ⟨0, Nat.zero_le _, c56, fun i _ => ⟨0, Nat.zero_le _, by rw [c23z]; rfl⟩⟩, ⟨0, c96, Nat.zero_le _, fun j _ => ⟨0, by rw [c40]; rfl, by omega⟩⟩, fun z => absurd (c810.symm.trans z) (by decide), fun j hj => Or.inl (by rcases hj with rfl | rfl <;> assumption), fun j _ => by rw [c11], fun j _ => by rw [c12]⟩
  · have hf : f ≤ 0 := hf
    exact (hX _ (by omega)).mpr (Or.inr (Or.inr ⟨by omega, by show 128 + 4 * f + r < 132 + 4 * 0; omega⟩))
  · intro k j hk
    unfold pCs at hk
    split at hk
    · rcases hk with rfl | rfl
      · exact c110
      · exact c112
    · have : j = 0 ∨ j = 1 ∨ j = 2 ∨ j = 3 := by omega
      rcases this with rfl | rfl | rfl | rfl
      · exact c20
      · exact c21
      · exact c22
      · exact c23
    · subst hk; exact c31
    · rcases hk with rfl | rfl
      · exact c41
      · exact c49
    · subst hk; exact c51
    · rcases hk with rfl | rfl
      · exact c60
      · show M 6 3 = nI (bitsN (fun f => Mm 15 f == 1) n)
        rw [c63, bitsN_0 (fun i => by rw [e15]; rfl)]
        rfl
    · rcases hk with rfl | rfl
      · exact c70
      · exact c71
    · subst hk; exact c90
    · subst hk; exact c100
    · exact absurd hk (Nat.not_lt_zero j)
    · exact absurd hk (Nat.not_lt_zero j)
    · exact c15 j hk
    · exact c16 j hk
    · exact absurd hk (Nat.not_lt_zero j)
    · have hj : j < n := hk
      show M 27 j = Mm 12 j
      rw [c27 j hj, hB.2.2.2.2.1 j, if_pos (by omega)]
    · show M 28 j = Mm 16 j
      rw [c28, bz 16 (by omega) (by omega) (by omega) (by omega)]
    · exact absurd hk (Nat.not_lt_zero j)
    · exact c3x 0 j (by omega) hk
    · exact c3x 1 j (by omega) hk
    · exact c3x 2 j (by omega) hk
    · exact c3x 3 j (by omega) hk
    · exact absurd hk (Nat.not_lt_zero j)
    · show M 39 j = nI (bitsN (fun q => Mm 14 (512 * q + j) == 1) 0)
      rw [c39]; rfl
    · exact absurd hk (Nat.not_lt_zero j)
    · exact absurd hk (Nat.not_lt_zero j)
    · exact hk.elim
  · intro k j hk
    unfold pCd at hk
    rcases hk with ⟨_, q, _⟩ | ⟨_, q, _⟩
    · exact absurd q (Nat.not_lt_zero _)
    · exact absurd q (Nat.not_lt_zero _)
