/-! THE LAW'S WORLD: the class's at 1 .., the reference's at 1001 .., the row 'out' at 2000 -/
def LN : jL := fun _ _ _ _ _ => none
def shP (P : jP) : jP := (fun k => P.1 (k + 1000), fun k => P.2.1 (k + 1000), P.2.2)
def LWg (L1 L2 : jL) : jL := fun tA P k f h => if k < 1000 then L1 tA P k f h else if k < 2000 then L2 tA (shP P) (k - 1000) f h else if k = 2000 ∧ P.2.1 2000 = true then some (.inl (tA 1, 1, .inr (.inl h))) else none
def cmb (Mc Mm : jM) : jM := fun k => if k < 1000 then Mc k else if k < 2000 then Mm (k - 1000) else fun _ => 0
def cmbN (Nc Nm : jN) (h : Nat → Int64) : jN := fun k => if k < 1000 then Nc k else if k < 2000 then Nm (k - 1000) else if k = 2000 then h else fun _ => 0
def jFar (L : jL) : Prop := ∀ tA P k f h, 1000 ≤ k → L tA P k f h = none
theorem LWg_c {L1 L2 : jL} {tA : Nat → ClassId} {P : jP} {k : Nat} {f : Nat → Int32} {h : Nat → Int64} (hk : k < 1000) : LWg L1 L2 tA P k f h = L1 tA P k f h := if_pos hk
theorem LWg_m {L1 L2 : jL} {tA : Nat → ClassId} {P : jP} {k : Nat} {f : Nat → Int32} {h : Nat → Int64} (hk : k < 1000) : LWg L1 L2 tA P (k + 1000) f h = L2 tA (shP P) k f h := by
  unfold LWg
  rw [if_neg (by omega), if_pos (by omega), Nat.add_sub_cancel]
theorem LWg_o {L1 L2 : jL} {tA : Nat → ClassId} {P : jP} {f : Nat → Int32} {h : Nat → Int64} (hp : P.2.1 2000 = true) : LWg L1 L2 tA P 2000 f h = some (.inl (tA 1, 1, .inr (.inl h))) := by
  unfold LWg
  rw [if_neg (by decide), if_neg (by decide), if_pos ⟨rfl, hp⟩]
theorem LWg_far {L1 L2 : jL} {tA : Nat → ClassId} {P : jP} {k : Nat} {f : Nat → Int32} {h : Nat → Int64} (hk : 2000 < k) : LWg L1 L2 tA P k f h = none := by
  unfold LWg
  rw [if_neg (by omega), if_neg (by omega), if_neg (fun z => by omega)]
theorem LN_far : jFar LN := fun _ _ _ _ _ _ => rfl
theorem LC_far : jFar LC := by
  intro tA P k f h hk
  rw [LC_dyn (Or.inl (by omega))]
  have h1 : cIA P k = none := by
    unfold cIA
    rw [if_neg (by omega), if_neg (by omega), if_neg]
    simp only [Bool.and_eq_true, Nat.ble_eq, Nat.blt_eq]
    omega
  have h2 : cLw P k = false := by
    cases e : cLw P k with
    | false => rfl
    | true =>
      unfold cLw at e
      simp only [Bool.and_eq_true, Nat.ble_eq, Nat.blt_eq] at e
      omega
  have h3 : cFm P k = false := by
    cases e : cFm P k with
    | false => rfl
    | true =>
      unfold cFm at e
      simp only [Bool.and_eq_true, Nat.ble_eq, Nat.blt_eq] at e
      omega
  unfold cdyn
  rw [h1]
  show (if cLw P k = true then _ else if cFm P k = true then _ else none) = none
  rw [if_neg (by rw [h2]; decide), if_neg (by rw [h3]; decide)]
theorem LM_far : jFar LM := by
  intro tA P k f h hk
  obtain ⟨j, rfl⟩ : ∃ j, k = j + 30 := ⟨k - 30, by omega⟩
  rfl
theorem LR_far {ob : Nat → Option (Nat × List Nat)} {L : jL} (ho : ∀ k, 1000 ≤ k → ob k = none) (hL : jFar L) : jFar (LR ob L) := by
  intro tA P k f h hk
  by_cases hp : P.2.1 k = true
  · rw [LR_ar hp (ho k hk)]; exact hL tA P k f h hk
  · exact LR_no (by cases e : P.2.1 k with | true => exact absurd e hp | false => rfl) tA f h
theorem kob_far : ∀ k, 1000 ≤ k → kob k = none := by
  intro k hk
  unfold kob
  rw [if_pos (by rw [Nat.ble_eq]; omega), if_neg, if_neg]
  · simp only [Bool.and_eq_true, Nat.ble_eq, Nat.blt_eq]
    omega
  · simp only [Bool.and_eq_true, Nat.ble_eq, Nat.blt_eq]
    omega
theorem mob_far : ∀ k, 1000 ≤ k → mob k = none := by
  intro k hk
  unfold mob
  rw [if_neg (by omega)]
section SUBS
variable {L1 L2 : jL} {P : jP} {Mc Mm Mb : jM} {Nc Nm Nb : jN} {h : Nat → Int64}
theorem cmb_c {k : Nat} (hk : k < 1000) : cmb Mc Mm k = Mc k := if_pos hk
theorem cmb_m {k : Nat} (hk : k < 1000) : cmb Mc Mm (k + 1000) = Mm k := by
  unfold cmb
  rw [if_neg (by omega), if_pos (by omega), Nat.add_sub_cancel]
theorem cmbN_c {k : Nat} (hk : k < 1000) : cmbN Nc Nm h k = Nc k := if_pos hk
theorem cmbN_m {k : Nat} (hk : k < 1000) : cmbN Nc Nm h (k + 1000) = Nm k := by
  unfold cmbN
  rw [if_neg (by omega), if_pos (by omega), Nat.add_sub_cancel]
theorem cmbN_o : cmbN Nc Nm h 2000 = h := rfl
theorem jlt {L : jL} (hf : jFar L) {tA : Nat → ClassId} {k : Nat} {f : Nat → Int32} {g : Nat → Int64} {e : va_E} (he : L tA P k f g = some e) : k < 1000 := by
  rcases Nat.lt_or_ge k 1000 with h | h
  · exact h
  · rw [hf tA P k f g h] at he; cases he
theorem sub_c (hf : jFar L1) : jSub (LWg L1 L2) P (cmb Mc Mm) (cmbN Nc Nm h) L1 P Mc Nc (fun k => k) := by
  refine ⟨fun tA k e he => ?_, fun i j h => h⟩
  have hk := jlt hf he
  exact ⟨by show LWg L1 L2 tA P k (cmb Mc Mm k) (cmbN Nc Nm h k) = some e; rw [LWg_c hk, cmb_c hk, cmbN_c hk]; exact he, rfl⟩
theorem sub_m (hf : jFar L2) : jSub (LWg L1 L2) P (cmb Mc Mm) (cmbN Nc Nm h) L2 (shP P) Mm Nm (fun k => k + 1000) := by
  refine ⟨fun tA k e he => ?_, fun i j h => by have h9 : i + 1000 = j + 1000 := h; omega⟩
  have hk := jlt hf he
  exact ⟨by show LWg L1 L2 tA P (k + 1000) (cmb Mc Mm (k + 1000)) (cmbN Nc Nm h (k + 1000)) = some e; rw [LWg_m hk, cmb_m hk, cmbN_m hk]; exact he, rfl⟩
/-- the class has been called, and nothing is where nothing was -/
theorem dec_c (hf : jFar L1) : jDec (LWg L1 L2) P (cmb Mc Mm) (cmbN Nc Nm h) L1 P Mc Nc (fun k => k) P Mb Nb P (cmb Mb Mm) (cmbN Nb Nm h) := by
  intro tA j e he
  by_cases hj : j < 1000
  · refine Or.inl ⟨j, rfl, ?_, rfl⟩
    rw [LWg_c hj, cmb_c hj, cmbN_c hj] at he
    exact he
  · refine Or.inr ⟨?_, rfl, fun k x hx => ?_⟩
    · have e1 : cmb Mc Mm j = cmb Mb Mm j := by unfold cmb; rw [if_neg hj, if_neg hj]
      have e2 : cmbN Nc Nm h j = cmbN Nb Nm h j := by unfold cmbN; rw [if_neg hj, if_neg hj]
      rw [e1, e2]; exact he
    · have := jlt hf hx
      show k ≠ j
      omega
theorem dec_m (hf : jFar L2) : jDec (LWg L1 L2) P (cmb Mc Mm) (cmbN Nc Nm h) L2 (shP P) Mm Nm (fun k => k + 1000) (shP P) Mb Nb P (cmb Mc Mb) (cmbN Nc Nb h) := by
  intro tA j e he
  by_cases hj : 1000 ≤ j ∧ j < 2000
  · obtain ⟨k, rfl⟩ : ∃ k, j = k + 1000 := ⟨j - 1000, by omega⟩
    have hk : k < 1000 := by omega
    refine Or.inl ⟨k, rfl, ?_, rfl⟩
    rw [LWg_m hk, cmb_m hk, cmbN_m hk] at he
    exact he
  · refine Or.inr ⟨?_, rfl, fun k x hx => ?_⟩
    · have e1 : cmb Mc Mm j = cmb Mc Mb j := by
        unfold cmb
        by_cases h1 : j < 1000
        · rw [if_pos h1, if_pos h1]
        · have h2 : ¬ j < 2000 := fun z => hj ⟨by omega, z⟩
          rw [if_neg h1, if_neg h1, if_neg h2, if_neg h2]
      have e2 : cmbN Nc Nm h j = cmbN Nc Nb h j := by
        unfold cmbN
        by_cases h1 : j < 1000
        · rw [if_pos h1, if_pos h1]
        · have h2 : ¬ j < 2000 := fun z => hj ⟨by omega, z⟩
          rw [if_neg h1, if_neg h1, if_neg h2, if_neg h2]
      rw [e1, e2]; exact he
    · have := jlt hf hx
      show k + 1000 ≠ j
      omega
/-- the class and 'out' without the reference -/
theorem sub_s {M0 : jM} {N0 : jN} : jSub (LWg L1 L2) P (cmb Mc Mm) (cmbN Nc Nm h) (LWg L1 LN) P (cmb Mc M0) (cmbN Nc N0 h) (fun k => k) := by
  refine ⟨fun tA k e he => ⟨?_, rfl⟩, fun i j h => h⟩
  by_cases h1 : k < 1000
  · rw [LWg_c h1, cmb_c h1, cmbN_c h1] at he
    rw [LWg_c h1, cmb_c h1, cmbN_c h1]
    exact he
  · by_cases h2 : k < 2000
    · obtain ⟨j, rfl⟩ : ∃ j, k = j + 1000 := ⟨k - 1000, by omega⟩
      rw [LWg_m (by omega)] at he
      cases he
    · by_cases h3 : k = 2000
      · subst h3
        exact he
      · rw [LWg_far (by omega)] at he
        cases he
theorem dec_s {M0 : jM} {N0 : jN} {h' : Nat → Int64} : jDec (LWg L1 L2) P (cmb Mc Mm) (cmbN Nc Nm h) (LWg L1 LN) P (cmb Mc M0) (cmbN Nc N0 h) (fun k => k) P (cmb Mc M0) (cmbN Nc N0 h') P (cmb Mc Mm) (cmbN Nc Nm h') := by
  intro tA j e he
  by_cases h1 : j < 1000
  · refine Or.inl ⟨j, rfl, ?_, rfl⟩
    rw [LWg_c h1, cmb_c h1, cmbN_c h1] at he
    rw [LWg_c h1, cmb_c h1, cmbN_c h1]
    exact he
  · by_cases h2 : j < 2000
    · obtain ⟨k, rfl⟩ : ∃ k, j = k + 1000 := ⟨j - 1000, by omega⟩
      refine Or.inr ⟨?_, rfl, fun k' x hx => ?_⟩
      · rw [LWg_m (by omega), cmb_m (by omega), cmbN_m (by omega)] at he
        rw [LWg_m (by omega), cmb_m (by omega), cmbN_m (by omega)]
        exact he
      · intro (z : k' = k + 1000)
        rw [z, LWg_m (by omega)] at hx
        cases hx
    · by_cases h3 : j = 2000
      · subst h3
        exact Or.inl ⟨2000, rfl, he, rfl⟩
      · rw [LWg_far (by omega)] at he
        cases he
theorem cmb_upN {v : Int64} : upN (cmbN Nc Nm h) 2000 0 v = cmbN Nc Nm (vp_updL h 0 v) := by
  funext k
  by_cases hk : k = 2000
  · subst hk
    exact upN_same _ _ _ _
  · rw [upN_ne _ _ _ hk]
    unfold cmbN
    by_cases h1 : k < 1000
    · rw [if_pos h1, if_pos h1]
    · rw [if_neg h1, if_neg h1]
      by_cases h2 : k < 2000
      · rw [if_pos h2, if_pos h2]
      · rw [if_neg h2, if_neg h2, if_neg hk, if_neg hk]
end SUBS
