/-! off: a sum over the nodes that are left -/
abbrev gS (V : Nat → Nat → Nat) (fl : Nat → Nat) (j nm : Nat) : Nat := sumN (fun i => if j ≤ i then V i (fl i) else 0) nm
theorem gS_head {V : Nat → Nat → Nat} {fl : Nat → Nat} {j nm : Nat} (hj : j < nm) : gS V fl j nm = V j (fl j) + gS V fl (j + 1) nm := by
  have e := sumN_at (V j (fl j)) j nm
  rw [if_pos hj] at e
  unfold gS
  rw [← e, ← sumN_add]
  refine sumN_congr (fun i _ => ?_)
  by_cases z : i = j
  · subst z
    rw [if_pos (Nat.le_refl _), if_pos rfl, if_neg (by omega)]
    rfl
  · rw [if_neg z, Nat.zero_add]
    by_cases q : j ≤ i
    · rw [if_pos q, if_pos (by omega)]
    · rw [if_neg q, if_neg (by omega)]
theorem gS_add {V : Nat → Nat → Nat} {fl : Nat → Nat} {j nm u g : Nat} (hu : u < nm) (hj : j ≤ u) (ha : V u (fl u + g) = V u (fl u) + V u g) : gS V (newF fl u g) j nm = gS V fl j nm + V u g := by
  have e := sumN_at (V u g) u nm
  rw [if_pos hu] at e
  unfold gS
  rw [← e, ← sumN_add]
  refine sumN_congr (fun i _ => ?_)
  unfold newF
  by_cases z : i = u
  · subst z
    rw [if_pos rfl, if_pos hj, if_pos hj, if_pos rfl]
    exact ha
  · rw [if_neg z, if_neg z, Nat.add_zero]
theorem gS_same {V : Nat → Nat → Nat} {fl : Nat → Nat} {j nm u g : Nat} (hu : nm ≤ u) : gS V (newF fl u g) j nm = gS V fl j nm := by
  refine sumN_congr (fun i hi => ?_)
  unfold newF
  rw [if_neg (show ¬ i = u by omega)]
theorem gS_end {V : Nat → Nat → Nat} {fl : Nat → Nat} {nm : Nat} : ∀ n, n ≤ nm → sumN (fun i => if nm ≤ i then V i (fl i) else 0) n = 0
  | 0, _ => rfl
  | n + 1, h => by
    show sumN _ n + (if nm ≤ n then _ else 0) = 0
    rw [gS_end n (by omega), if_neg (by omega)]
