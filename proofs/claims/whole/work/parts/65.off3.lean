/-! off: towards the class's side -/
theorem offN_fuel {A : aS} {f c nm : Nat} {o bar : Int32} (h4 : ∀ t, t < nm → ((t < nxF A f c t ∧ nxF A f c t < nm) ∨ 99 ≤ nxF A f c t) ∧ ((t < oxF A f c t ∧ oxF A f c t < nm) ∨ 99 ≤ oxF A f c t)) : ∀ d d' t fl, 13 ≤ t + d → 13 ≤ t + d' → 1 ≤ d → 1 ≤ d' → (t < nm ∨ 99 ≤ t) → nm ≤ 12 → offN A f c o bar d t fl = offN A f c o bar d' t fl := by
  intro d
  induction d with
  | zero => intro d' t fl _ _ hd; omega
  | succ d ih =>
    intro d' t fl h1 h2 _ hd' ht hm
    match d', hd' with
    | d' + 1, _ =>
      unfold offN
      by_cases h : t < 12
      · rw [if_pos h, if_pos h]
        obtain ⟨a1, a2⟩ := h4 t (by omega)
        rw [ih d' _ _ (by omega) (by omega) (by omega) (by omega) (by omega) hm, ih d' _ _ (by omega) (by omega) (by omega) (by omega) (by omega) hm]
      · rw [if_neg h, if_neg h]
def newF (fl : Nat → Nat) (u g : Nat) : Nat → Nat := fun i => if i = u then fl i + g else fl i
def outV (o : Int32) (u g : Nat) : Nat := if u < 12 then 0 else if nI u - 100 = o then 0 else g
theorem s11_offBehind {P : jP} {N : jN} {u g : Nat} {o : Int32} {fl : Nat → Nat} (hu : u < 12 ∨ (99 ≤ u ∧ u ≤ 105)) (hN : ∀ i, i < 12 → N 14 i = lN (fl i)) {Q : Int64 → jN → Prop} (hq : ∀ N' : jN, (∀ k, k ≠ 14 → N' k = N k) → (∀ i, i < 12 → N' 14 i = lN (newF fl u g i)) → Q (lN (outV o u g)) N') : w_X11_offBehind P (nI (cv u)) (lN g) o N Q := by
  unfold w_X11_offBehind
  intro R22 h22
  rcases hu with hu | hu
  · have e : cv u = u := if_pos hu
    rw [e]
    refine br_f (nI_pos (by omega)) (br_f (nI_ge (b := 12) hu (by omega)) ⟨vin hu (by omega), vin hu (by omega), ?_⟩)
    rintro N6 rfl
    rw [nI_clamp (show u < 2 ^ 31 by omega), hN u hu, lN_add]
    have hq := hq (upN N 14 u (lN (fl u + g))) (fun k hk => upN_ne _ _ _ hk) (fun i hi => by
      rw [upN_same, newF]
      by_cases z : i = u
      · subst z; rw [pk_uLs, if_pos rfl]
      · rw [pk_uLn z, if_neg z, hN i hi])
    rw [outV, if_pos hu] at hq
    exact hq
  · have e : cv u = u - 87 := if_neg (by omega)
    rw [e]
    have hq := hq N (fun _ _ => rfl) (fun i hi => by rw [newF, if_neg (by omega), hN i hi])
    rw [outV, if_neg (by omega)] at hq
    have hr : R22 := h22 (by
      have e2 : nI (u - 87) - 13 = nI u - 100 := by
        rw [← pk_sub (show 87 ≤ u by omega), Int32.sub_sub]
        rfl
      rw [e, e2]
      refine bn_c (fun z => ?_) (fun z => ?_)
      · rw [if_neg z] at hq; exact hq
      · rw [if_pos z] at hq; exact hq)
    exact br_f (nI_pos (by omega)) (br_t (nI_le (a := 12) (by omega) (by omega)) hr)
