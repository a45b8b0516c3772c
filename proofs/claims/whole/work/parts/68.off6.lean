/-! off: the class's side -/
theorem s11_offOn {P : jP} {M : jM} {N : jN} {A : aS} (h : RelC P M A) {f l c : Nat} (hf : f < A.1 4) (hl : l < A.1 2) (hc : c < 2 ^ A.1 0) {bar : Int32} {Q : Int64 → jN → Prop} (hq : ∀ N' : jN, (∀ k, k ≠ 14 → N' k = N k) → Q (lN (offN A f c (sdA A l c) bar 20 0 1000000000000)) N') : w_X11_offOn P (128 + 4 * f) (64 + 8 * l) (nI c) bar M N Q := by
  have h6 := h.num
  unfold wfNum at h6
  have hC := h.C512
  obtain ⟨nm, n1, n2, n3, n4⟩ := form_ok h.1.2.2.2.1 hf
  have ok := fun t (ht : t < nm) => off_ok h.1 hf n3 n2 ht
  have h4 : ∀ t, t < nm → (A.2 16 (fcN A f t)).toNatClampNeg ≤ 10 ∧ ((t < nxF A f c t ∧ nxF A f c t < nm) ∨ 99 ≤ nxF A f c t) ∧ ((t < oxF A f c t ∧ oxF A f c t < nm) ∨ 99 ≤ oxF A f c t) := fun t ht => by
    obtain ⟨-, -, -, a, -, -, b⟩ := ok t ht
    obtain ⟨b1, b2⟩ := b c
    exact ⟨a, b1.imp id And.left, b2.imp id And.left⟩
  unfold w_X11_offOn
  rw [h.fmany hf, n3]
  intro R3 h3
  refine lp_up (R := fun k => ∀ N', (∀ q, q ≠ 14 → N' q = N q) → (∀ i, i < k → N' 14 i = lN 0) → R3 (nI k) N') 12 ?_ ?_ 0 (Nat.zero_le _) N (fun _ _ => rfl) (fun i hi => absurd hi (Nat.not_lt_zero i))
  · intro N2 hN hz
    refine h3 _ _ (br_t (nI_le (a := 12) (Nat.le_refl _) (by omega)) ⟨vin (n := 0) (by omega) (by omega), ?_⟩)
    rintro N5 rfl
    intro R39 h39
    have hz0 : (0 : Int32).toNatClampNeg = 0 := rfl
    rw [hz0]
    have start : ∀ nn, sumN (fun i => if 0 ≤ i then offN A f c (sdA A l c) bar 20 i (if i = 0 then 1000000000000 else 0) else 0) nn = if 0 < nn then offN A f c (sdA A l c) bar 20 0 1000000000000 else 0 := by
      intro nn
      rw [← sumN_at]
      refine sumN_congr (fun i _ => ?_)
      rw [if_pos (Nat.zero_le _)]
      by_cases z : i = 0
      · rw [if_pos z, if_pos z, z]
      · rw [if_neg z, if_neg z, offN_0]
    have start2 : ∀ nn, sumN (fun i => if 0 ≤ i then (if i = 0 then 1000000000000 else 0) else 0) nn ≤ 1000000000000 := by
      intro nn
      rw [sumN_congr (g := fun i => if i = 0 then 1000000000000 else 0) (fun i _ => if_pos (Nat.zero_le _)), sumN_at]
      split <;> omega
    have main : ∀ j, j ≤ nm → ∀ T fl N', (∀ q, q ≠ 14 → N' q = N q) → (∀ i, i < 12 → N' 14 i = lN (fl i)) → offI A f c (sdA A l c) bar nm j T fl → R39 (lN T) (nI j) N' := by
      refine fun j hj => lp_up (R := fun j => ∀ T fl N', (∀ q, q ≠ 14 → N' q = N q) → (∀ i, i < 12 → N' 14 i = lN (fl i)) → offI A f c (sdA A l c) bar nm j T fl → R39 (lN T) (nI j) N') nm ?_ ?_ j hj
      · intro T fl N8 hN8 hfl hI
        have e := hI.1
        rw [gS, gS_end nm (Nat.le_refl _), Nat.add_zero] at e
        subst e
        exact h39 _ _ _ ⟨h.fm hf, br_t (nI_le (Nat.le_refl _) (by omega)) (hq N8 hN8)⟩
      · intro j hj ih T fl N8 hN8 hfl hI
        obtain ⟨hx, ex, ew, hw, e5, e6, hn⟩ := ok j hj
        obtain ⟨hnx, hox⟩ := hn c
        have htn : j < (A.2 7 f).toNatClampNeg := by rw [n3, nI_clamp (by omega)]; exact hj
        have k1 := h.fcell (r := 1) (t := j) hf (by omega) (Or.inr ⟨by omega, htn⟩)
        have k2 := h.fcell (r := 2) (t := j) hf (by omega) (Or.inr ⟨by omega, htn⟩)
        have k3 := h.fcell (r := 3) (t := j) hf (by omega) (Or.inr ⟨by omega, htn⟩)
        rw [if_neg (by omega)] at k1 k2 k3
        rw [if_pos rfl] at k1
        rw [if_neg (by omega)] at k2 k3
        rw [if_pos rfl] at k2
        rw [if_neg (by omega)] at k3
        obtain ⟨nm', m1, m2, m3, m4⟩ := form_ok h.1.2.2.2.1 hf
        have enm : nm = nm' := (nI_eq (by omega) (by omega)).mp (n3.symm.trans m3)
        subst enm
        obtain ⟨-, -, -, -, t5, t6⟩ := m4 c j hj
        have e28 : M 28 (fcN A f j) = A.2 16 (fcN A f j) := h.2.2.1 28 (fcN A f j) hx
        have hflj : fl j ≤ 1000000000000 := by
          have := hI.2.2
          rw [gS_head hj] at this
          exact Nat.le_trans (Nat.le_add_right _ _) this
        have lm := shrM_le (A := A) (bar := bar) (x := fcN A f j) hw (fl j)
        have jn1 : jin P (128 + 4 * f + 1) (nI j) := jin_of (h.fia hf (by omega) (by omega)) (by omega) (by omega)
        have jn2 : jin P (128 + 4 * f + 2) (nI j) := jin_of (h.fia hf (by omega) (by omega)) (by omega) (by omega)
        have jn3 : jin P (128 + 4 * f + 3) (nI j) := jin_of (h.fia hf (by omega) (by omega)) (by omega) (by omega)
        have jnl : jin P (64 + 8 * l + 3) (nI c) := jin_of (h.ia hl).2.2.1 hc (by omega)
        refine h39 _ _ _ ⟨h.fm hf, br_f (nI_ge hj (by omega)) ⟨h.fm hf, jn1, ?_⟩⟩
        rw [nI_clamp (show j < 2 ^ 31 by omega), nI_clamp (show c < 2 ^ 31 by omega), k1, k2, k3, ex, t5, t6, h.said hl hc, hfl j (by omega)]
        rw [nI_clamp (show fcN A f j < 2 ^ 31 by omega), e28, ew, nI_l (show (A.2 16 (fcN A f j)).toNatClampNeg < 2 ^ 31 by omega)]
        intro R91 h91
        have go : R91 (lN (shrM A bar (fcN A f j) (fl j))) := by
          refine h91 _ ?_
          intro R107 h107
          have two : ∀ x14 : Int32, (x14 = 0 ↔ ¬ c.testBit (fcN A f j) = true) → R107 x14 := by
            intro x14 hx14
            refine h107 x14 ?_
            intro R129 h129
            have fin : ∀ g k, g + k = fl j → ((((A.2 5 (12 * f + j)).toNatClampNeg = nxF A f c j ∧ g = fl j - shrM A bar (fcN A f j) (fl j) ∧ (A.2 6 (12 * f + j)).toNatClampNeg = oxF A f c j ∧ k = shrM A bar (fcN A f j) (fl j)) ∨ ((A.2 6 (12 * f + j)).toNatClampNeg = nxF A f c j ∧ k = fl j - shrM A bar (fcN A f j) (fl j) ∧ (A.2 5 (12 * f + j)).toNatClampNeg = oxF A f c j ∧ g = shrM A bar (fcN A f j) (fl j)))) → R129 (lN g) := by
              intro g k hgk hyz
              have hu : ((j < (A.2 5 (12 * f + j)).toNatClampNeg ∧ (A.2 5 (12 * f + j)).toNatClampNeg < 12) ∨ (99 ≤ (A.2 5 (12 * f + j)).toNatClampNeg ∧ (A.2 5 (12 * f + j)).toNatClampNeg ≤ 105)) ∧ ((j < (A.2 6 (12 * f + j)).toNatClampNeg ∧ (A.2 6 (12 * f + j)).toNatClampNeg < 12) ∨ (99 ≤ (A.2 6 (12 * f + j)).toNatClampNeg ∧ (A.2 6 (12 * f + j)).toNatClampNeg ≤ 105)) := by
                rcases hyz with ⟨q1, -, q2, -⟩ | ⟨q1, -, q2, -⟩ <;> rw [q1, q2] <;> omega
              refine h129 _ ⟨h.fm hf, jn2, h.lw hl, jnl, s11_offBehind (hu.1.imp And.right id) hfl (fun N21 hN21 hf21 => ⟨h.fm hf, jn3, vin (by omega) (by omega), h.lw hl, jnl, ?_⟩)⟩
              have ej : newF fl (A.2 5 (12 * f + j)).toNatClampNeg g j = fl j := if_neg (by omega)
              rw [hf21 j (by omega), ej, lN_sub (show g ≤ fl j by omega), show fl j - g = k by omega]
              refine s11_offBehind (hu.2.imp And.right id) hf21 (fun N29 hN29 hf29 => ?_)
              rw [lN_add, lN_add, nI_1]
              exact ih _ _ N29 (fun q hq => (hN29 q hq).trans ((hN21 q hq).trans (hN8 q hq))) hf29 (offI_step h4 n2 hj hI hyz)
            refine br_c (fun z => ?_) (fun z => ⟨vin (by omega) (by omega), ?_⟩)
            · have b := hx14.mp z
              refine fin _ (fl j - shrM A bar (fcN A f j) (fl j)) (by omega) (Or.inr ⟨?_, rfl, ?_, rfl⟩)
              · exact (if_neg b).symm
              · exact (if_neg b).symm
            · have b : c.testBit (fcN A f j) = true := Classical.byContradiction fun q => z (hx14.mpr q)
              rw [lN_sub lm]
              refine fin _ (shrM A bar (fcN A f j) (fl j)) (by omega) (Or.inl ⟨?_, rfl, ?_, rfl⟩)
              · exact (if_pos b).symm
              · exact (if_pos b).symm
          rw [bit1_0 (by omega) (by omega)]
          exact br_c (fun z => two 0 ⟨fun _ => z, fun _ => rfl⟩) (fun z => two 1 ⟨fun q => absurd q (by decide), fun q => absurd q z⟩)
        refine bn_c (fun b => ⟨vin (by omega) (by omega), vin (by rw [h.2.1.1]; exact hx) (by rw [h.2.1.1]; omega), ?_⟩) (fun b => ?_)
        · rw [shrM, if_neg b] at go
          rw [show (10 : Int64) = lN 10 from rfl, pk_lDiv (by omega) (by omega) (by omega), lN_mul]
          exact go
        · rw [shrM, if_pos b] at go
          exact go
    refine main 0 (Nat.zero_le _) 0 (fun i => if i = 0 then 1000000000000 else 0) _ (fun q hq => by rw [upN_ne _ _ _ hq, hN q hq]) (fun i hi => ?_) ⟨?_, fun i _ _ => ?_, ?_⟩
    · rw [upN_same]
      by_cases z : i = 0
      · rw [if_pos z, z, pk_uLs]; rfl
      · rw [if_neg z, pk_uLn z]; exact hz i hi
    · have := start nm
      rw [if_pos (by omega)] at this
      rw [Nat.zero_add]
      exact this
    · show 10 ^ (12 - i) ∣ (if i = 0 then 1000000000000 else 0)
      by_cases z : i = 0
      · rw [if_pos z, z]; exact ⟨1, rfl⟩
      · rw [if_neg z]; exact Nat.dvd_zero _
    · exact start2 nm
  · intro k hk ih N2 hN hz
    refine h3 _ _ (br_f (nI_ge (b := 12) hk (by omega)) ⟨vin hk (by omega), ?_⟩)
    rw [nI_clamp (show k < 2 ^ 31 by omega), nI_1]
    refine ih _ (fun q hq => by rw [upN_ne _ _ _ hq, hN q hq]) (fun i hi => ?_)
    rw [upN_same]
    by_cases z : i = k
    · subst z; rw [pk_uLs]; rfl
    · rw [pk_uLn z]; exact hz i (by omega)
