/-! proof: both sides -/
theorem popc_full : ∀ n, n < 10 → ∀ s, s < 512 → s < 2 ^ n - 1 → popc s < popc (2 ^ n - 1) := by decide +kernel
noncomputable def refF (good : Nat → Prop) (full : Nat) : Nat → Int32
  | 0 => nI full
  | s + 1 => @ite _ (befI (nI s) (refF good full s) ∧ good s) (Classical.propDecidable _) (nI s) (refF good full s)
theorem refF_t {good : Nat → Prop} {full s : Nat} (h : befI (nI s) (refF good full s) ∧ good s) : refF good full (s + 1) = nI s := @if_pos _ _ h _ _ _
theorem refF_f {good : Nat → Prop} {full s : Nat} (h : ¬ (befI (nI s) (refF good full s) ∧ good s)) : refF good full (s + 1) = refF good full s := @if_neg _ _ h _ _ _
theorem bef_full {n s : Nat} (hn : n ≤ 9) (hs : s < 2 ^ n - 1) : befI (nI s) (nI (2 ^ n - 1)) := by
  have hC := two_le hn
  have hp := popc_full n (by omega) s (by omega) hs
  have l1 : popc s ≤ 12 := cntB_le _ 12
  have l2 : popc (2 ^ n - 1) ≤ 12 := cntB_le _ 12
  unfold befI
  rw [bc_small s (by omega), bc_small (2 ^ n - 1) (by omega), if_neg (fun e => by have := (nI_eq (by omega) (by omega)).mp e; omega)]
  intro e
  have := (nI_leI (by omega) (by omega)).mp e
  omega
theorem bef_self (x : Int32) : ¬ befI x x := by
  unfold befI
  rw [if_pos rfl]
  intro z
  apply z
  rw [Int32.xor_self]
  rw [Int32.and_zero, Int32.zero_and]
theorem ref_best {good : Nat → Prop} {n : Nat} (hn : n ≤ 9) : ∀ s, s ≤ 2 ^ n - 1 → (bestF good s = -1 ∧ refF good (2 ^ n - 1) s = nI (2 ^ n - 1)) ∨ (bestF good s = refF good (2 ^ n - 1) s ∧ bestF good s ≠ -1)
  | 0, _ => Or.inl ⟨rfl, rfl⟩
  | s + 1, hs => by
    have hC := two_le hn
    rcases ref_best hn (good := good) s (by omega) with ⟨e1, e2⟩ | ⟨e1, e2⟩
    · by_cases g : good s
      · refine Or.inr ⟨?_, ?_⟩
        · rw [bestF_t ⟨Or.inl e1, g⟩, refF_t ⟨by rw [e2]; exact bef_full hn (by omega), g⟩]
        · rw [bestF_t ⟨Or.inl e1, g⟩]
          exact nI_ne1 (by omega)
      · rw [bestF_f (fun z => g z.2), refF_f (fun z => g z.2)]
        exact Or.inl ⟨e1, e2⟩
    · by_cases g : befI (nI s) (bestF good s) ∧ good s
      · refine Or.inr ⟨?_, ?_⟩
        · rw [bestF_t ⟨Or.inr g.1, g.2⟩, refF_t (by rw [← e1]; exact g)]
        · rw [bestF_t ⟨Or.inr g.1, g.2⟩]
          exact nI_ne1 (by omega)
      · rw [bestF_f (fun z => g ⟨z.1.resolve_left e2, z.2⟩), refF_f (by rw [← e1]; exact g)]
        exact Or.inr ⟨e1, e2⟩
theorem ref_best_full {good : Nat → Prop} {n : Nat} (hn : n ≤ 9) (hg : good (2 ^ n - 1)) : bestF good (2 ^ n) = refF good (2 ^ n - 1) (2 ^ n) := by
  have hp := Nat.two_pow_pos n
  have e : 2 ^ n = (2 ^ n - 1) + 1 := by omega
  have key : bestF good ((2 ^ n - 1) + 1) = refF good (2 ^ n - 1) ((2 ^ n - 1) + 1) := by
    rcases ref_best hn (good := good) (2 ^ n - 1) (Nat.le_refl _) with ⟨e1, e2⟩ | ⟨e1, e2⟩
    · rw [bestF_t ⟨Or.inl e1, hg⟩, refF_f (fun z => by rw [e2] at z; exact bef_self _ z.1), e2]
    · by_cases g : befI (nI (2 ^ n - 1)) (bestF good (2 ^ n - 1)) ∧ good (2 ^ n - 1)
      · rw [bestF_t ⟨Or.inr g.1, g.2⟩, refF_t (by rw [← e1]; exact g)]
      · rw [bestF_f (fun z => g ⟨z.1.resolve_left e2, z.2⟩), refF_f (by rw [← e1]; exact g), e1]
  rw [← e] at key
  exact key
