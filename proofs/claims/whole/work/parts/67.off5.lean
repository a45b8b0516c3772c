/-! off: the class's side, one node's step in numbers -/
def offI (A : aS) (f c : Nat) (o bar : Int32) (nm j T : Nat) (fl : Nat → Nat) : Prop := T + gS (offN A f c o bar 20) fl j nm = offN A f c o bar 20 0 1000000000000 ∧ (∀ i, j ≤ i → i < nm → 10 ^ (12 - i) ∣ fl i) ∧ gS (fun _ x => x) fl j nm ≤ 1000000000000
theorem offI_add {A : aS} {f c : Nat} {o bar : Int32} {nm j u g : Nat} {fl : Nat → Nat} (h4 : ∀ t, t < nm → (A.2 16 (fcN A f t)).toNatClampNeg ≤ 10 ∧ ((t < nxF A f c t ∧ nxF A f c t < nm) ∨ 99 ≤ nxF A f c t) ∧ ((t < oxF A f c t ∧ oxF A f c t < nm) ∨ 99 ≤ oxF A f c t)) (hm : nm ≤ 12) (hu : (j < u ∧ u < nm) ∨ 99 ≤ u) (hg : 10 ^ (11 - j) ∣ g) (hd : ∀ i, j + 1 ≤ i → i < nm → 10 ^ (12 - i) ∣ fl i) : gS (offN A f c o bar 20) (newF fl u g) (j + 1) nm + outV o u g = gS (offN A f c o bar 20) fl (j + 1) nm + offN A f c o bar 20 u g ∧ (∀ i, j + 1 ≤ i → i < nm → 10 ^ (12 - i) ∣ newF fl u g i) ∧ gS (fun _ x => x) (newF fl u g) (j + 1) nm ≤ gS (fun _ x => x) fl (j + 1) nm + g := by
  rcases hu with hu | hu
  · have hgu : 10 ^ (12 - u) ∣ g := Nat.dvd_trans (Nat.pow_dvd_pow 10 (by omega)) hg
    refine ⟨?_, fun i hi hin => ?_, ?_⟩
    · rw [gS_add hu.2 (by omega) (offN_add h4 hm 20 u (fl u) g (Or.inl hu.2) (hd u (by omega) hu.2) hgu), outV, if_pos (by omega)]
      rfl
    · unfold newF
      by_cases z : i = u
      · subst z
        rw [if_pos rfl]
        exact Nat.dvd_add (hd i hi hin) hgu
      · rw [if_neg z]; exact hd i hi hin
    · rw [gS_add hu.2 (by omega) rfl]
      exact Nat.le_refl _
  · have hv : offN A f c o bar 20 u g = outV o u g := by
      unfold offN outV
      rw [if_neg (show ¬ u < 12 by omega), if_neg (show ¬ u < 12 by omega)]
    refine ⟨?_, fun i hi hin => ?_, ?_⟩
    · rw [gS_same (by omega), hv]
    · unfold newF
      rw [if_neg (by omega)]; exact hd i hi hin
    · rw [gS_same (by omega)]
      exact Nat.le_add_right _ _
theorem offI_step {A : aS} {f c : Nat} {o bar : Int32} {nm j T : Nat} {fl : Nat → Nat} (h4 : ∀ t, t < nm → (A.2 16 (fcN A f t)).toNatClampNeg ≤ 10 ∧ ((t < nxF A f c t ∧ nxF A f c t < nm) ∨ 99 ≤ nxF A f c t) ∧ ((t < oxF A f c t ∧ oxF A f c t < nm) ∨ 99 ≤ oxF A f c t)) (hm : nm ≤ 12) (hj : j < nm) (h : offI A f c o bar nm j T fl) {y z g k : Nat} (hyz : (y = nxF A f c j ∧ g = fl j - shrM A bar (fcN A f j) (fl j) ∧ z = oxF A f c j ∧ k = shrM A bar (fcN A f j) (fl j)) ∨ (z = nxF A f c j ∧ k = fl j - shrM A bar (fcN A f j) (fl j) ∧ y = oxF A f c j ∧ g = shrM A bar (fcN A f j) (fl j))) : offI A f c o bar nm (j + 1) (T + outV o y g + outV o z k) (newF (newF fl y g) z k) := by
  obtain ⟨h1, h2, h3⟩ := h
  obtain ⟨hw, hy, hz⟩ := h4 j hj
  have hdj := h2 j (Nat.le_refl _) hj
  have ek : 12 - j = (11 - j) + 1 := by omega
  rw [ek] at hdj
  have dm := shrM_dvd (A := A) (bar := bar) (x := fcN A f j) hdj
  have lm := shrM_le (A := A) (bar := bar) (x := fcN A f j) hw (fl j)
  have dj : 10 ^ (11 - j) ∣ fl j := Nat.dvd_trans ⟨10, Nat.pow_succ _ _⟩ hdj
  have ds := Nat.dvd_sub dj dm
  have f4 : ∀ t, t < nm → ((t < nxF A f c t ∧ nxF A f c t < nm) ∨ 99 ≤ nxF A f c t) ∧ ((t < oxF A f c t ∧ oxF A f c t < nm) ∨ 99 ≤ oxF A f c t) := fun t ht => (h4 t ht).2
  have hV : offN A f c o bar 20 j (fl j) = offN A f c o bar 20 (nxF A f c j) (fl j - shrM A bar (fcN A f j) (fl j)) + offN A f c o bar 20 (oxF A f c j) (shrM A bar (fcN A f j) (fl j)) := by
    have e : offN A f c o bar 20 j (fl j) = offN A f c o bar 19 (nxF A f c j) (fl j - shrM A bar (fcN A f j) (fl j)) + offN A f c o bar 19 (oxF A f c j) (shrM A bar (fcN A f j) (fl j)) := by
      show (if j < 12 then _ else _) = _
      rw [if_pos (by omega)]
    rw [e, offN_fuel f4 19 20 (nxF A f c j) _ (by omega) (by omega) (by omega) (by omega) (by omega) hm, offN_fuel f4 19 20 (oxF A f c j) _ (by omega) (by omega) (by omega) (by omega) (by omega) hm]
  have hd1 : ∀ i, j + 1 ≤ i → i < nm → 10 ^ (12 - i) ∣ fl i := fun i hi hin => h2 i (by omega) hin
  rw [gS_head hj] at h1 h3
  have props : ((j < y ∧ y < nm) ∨ 99 ≤ y) ∧ ((j < z ∧ z < nm) ∨ 99 ≤ z) ∧ 10 ^ (11 - j) ∣ g ∧ 10 ^ (11 - j) ∣ k ∧ g + k = fl j ∧ offN A f c o bar 20 j (fl j) = offN A f c o bar 20 y g + offN A f c o bar 20 z k := by
    rcases hyz with ⟨rfl, rfl, rfl, rfl⟩ | ⟨rfl, rfl, rfl, rfl⟩
    · exact ⟨hy, hz, ds, dm, by omega, hV⟩
    · exact ⟨hz, hy, dm, ds, by omega, by rw [hV, Nat.add_comm]⟩
  obtain ⟨py, pz, dg, dk, egk, ev⟩ := props
  obtain ⟨a1, a2, a3⟩ := offI_add (o := o) (bar := bar) h4 hm py dg hd1
  obtain ⟨b1, b2, b3⟩ := offI_add (o := o) (bar := bar) h4 hm pz dk a2
  refine ⟨?_, b2, ?_⟩
  · omega
  · omega
