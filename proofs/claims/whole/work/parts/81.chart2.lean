/-! chart: both sides -/
def ahN (D : Nat → Nat) : Nat → Nat
  | 0 => 0
  | k + 1 => ahN D k ||| 2 ^ D k
theorem ahN_bit {D : Nat → Nat} {i : Nat} : ∀ k, (ahN D k).testBit i = true → ∃ t, t < k ∧ D t = i
  | 0, h => by
    rw [show ahN D 0 = 0 from rfl, Nat.zero_testBit] at h
    exact absurd h (by decide)
  | k + 1, h => by
    have h : (ahN D k ||| 2 ^ D k).testBit i = true := h
    rw [or_bit] at h
    rcases h with z | z
    · obtain ⟨t, h1, h2⟩ := ahN_bit k z
      exact ⟨t, by omega, h2⟩
    · exact ⟨k, by omega, z.symm⟩
theorem ahN_lt {D : Nat → Nat} {n : Nat} (hD : ∀ t, D t < n) : ∀ k, ahN D k < 2 ^ n
  | 0 => Nat.two_pow_pos n
  | k + 1 => Nat.or_lt_two_pow (ahN_lt hD k) (Nat.pow_lt_pow_right (by omega) (hD k))
noncomputable abbrev chG (A : aS) (l x k : Nat) : Nat := boxN A l (ahN (ordG A x) k) (ordG A x k)
theorem boxN_le (A : aS) (l a f : Nat) : boxN A l a f ≤ 2 ^ A.1 0 := cntB_le _ _
theorem sumN_le {g : Nat → Nat} {b : Nat} (h : ∀ i, g i ≤ b) : ∀ n, sumN g n ≤ b * n
  | 0 => Nat.le_refl _
  | n + 1 => by
    have := sumN_le h n
    have := h n
    show sumN g n + g n ≤ _
    rw [Nat.mul_succ]
    omega
noncomputable def chartS (A : aS) (a o w : Int32) : Int32 := @ite _ (okL A a ∧ (¬ w < 0 ∧ ¬ 1 < w) ∧ okOrd A o) (Classical.propDecidable _) (if w = 0 then nI (sumN (chG A a.toNatClampNeg o.toNatClampNeg) (A.1 0)) else nI (maxN (chG A a.toNatClampNeg o.toNatClampNeg) (A.1 0))) (-1)
theorem chartS_t {A : aS} {a o w : Int32} (h : okL A a ∧ (¬ w < 0 ∧ ¬ 1 < w) ∧ okOrd A o) : chartS A a o w = if w = 0 then nI (sumN (chG A a.toNatClampNeg o.toNatClampNeg) (A.1 0)) else nI (maxN (chG A a.toNatClampNeg o.toNatClampNeg) (A.1 0)) := @if_pos _ _ h _ _ _
theorem chartS_f {A : aS} {a o w : Int32} (h : ¬ (okL A a ∧ (¬ w < 0 ∧ ¬ 1 < w) ∧ okOrd A o)) : chartS A a o w = -1 := @if_neg _ _ h _ _ _
theorem ahN_no {A : aS} (h : wfA A) {o : Int32} (ho : okOrd A o) {k : Nat} (hk : k < A.1 0) : ¬ (ahN (ordG A o.toNatClampNeg) k).testBit (ordG A o.toNatClampNeg k) = true := fun z => by
  obtain ⟨t, t1, t2⟩ := ahN_bit k z
  exact ordG_ne h ho t1 hk t2
theorem s12_chart {P : jP} {M : jM} {A : aS} (h : RelM M A) {a o w : Int32} {Q : Int32 → jM → Prop} (hq : ∀ M', RelM M' A → Q (chartS A a o w) M') : w_X12_chart P a o w M Q := by
  unfold w_X12_chart
  have h0 := h.thr 0
  generalize upM M 1 0 0 = M0 at h0 ⊢
  have hC := h0.C512
  have h9 := h0.n9
  refine s12_isLaw h0 (br_i (fun hn => ?_) (fun hl => s12_isIn (br_i (fun hn => ?_) (fun hw => s12_isOrder h0 (fun hn M' h' => ?_) (fun ho M' h' hj => ?_)))))
  · have hq := hq M0 h0
    rw [chartS_f (fun z => hn z.1)] at hq; exact hq
  · have hq := hq M0 h0
    rw [chartS_f (fun z => hn z.2.1)] at hq; exact hq
  · have hq := hq M' h'
    rw [chartS_f (fun z => hn z.2.2)] at hq
    exact ⟨fun z => absurd rfl z, fun _ => hq⟩
  · obtain ⟨l, hl1, hl2, rfl⟩ := okL_of h0 hl
    refine ⟨fun _ => ?_, fun z => absurd z (by decide)⟩
    intro R44 h44
    have hD : ∀ t, ordG A o.toNatClampNeg t < A.1 0 := fun t => ordG_lt h0.1
    have hb : ∀ k, chG A l o.toNatClampNeg k ≤ 512 := fun k => Nat.le_trans (boxN_le _ _ _ _) hC
    refine lp_up (R := fun k => ∀ M2, RelM M2 A → M2 24 = M' 24 → R44 (nI (ahN (ordG A o.toNatClampNeg) k)) (nI (sumN (chG A l o.toNatClampNeg) k)) (nI (maxN (chG A l o.toNatClampNeg) k)) (nI k) M2) (A.1 0) ?_ ?_ 0 (Nat.zero_le _) M' h' rfl
    · intro M2 r2 _
      have hq := hq M2 r2
      rw [chartS_t ⟨hl, hw, ho⟩, nI_clamp (show l < 2 ^ 31 by omega)] at hq
      refine h44 _ _ _ _ _ ?_
      rw [r2.facts]
      refine br_t (nI_le (Nat.le_refl _) (by omega)) (bn_c (fun z => ?_) (fun z => ?_))
      · rw [if_neg z] at hq; exact hq
      · rw [if_pos z] at hq; exact hq
    · intro k hk ih M2 r2 e24
      have hlt := ahN_lt hD k
      have hDk := hD k
      have m1 := sumN_le hb k
      have m2 := maxN_le hb k
      have m3 : boxN A l (ahN (ordG A o.toNatClampNeg) k) (ordG A o.toNatClampNeg k) ≤ 512 := hb k
      refine h44 _ _ _ _ _ ?_
      rw [r2.facts]
      refine br_f (nI_ge hk (by omega)) (s12_layBoxes r2 hl1 hlt (fun M3 k3 hbx => ?_))
      have e3 : M3 24 k = nI (ordG A o.toNatClampNeg k) := by
        rw [k3.2.1 24 (by omega) (by omega), e24]
        exact hj k hk
      have ix := ix9 (l := ahN (ordG A o.toNatClampNeg) k) (k := ordG A o.toNatClampNeg k) (N := 4608) (by omega) (by omega)
      have bx := hbx _ hDk (ahN_no h0.1 ho hk)
      rw [nI_clamp (show k < 2 ^ 31 by omega), e3]
      rw [ix.2, bx]
      refine ⟨vin (by omega) (by omega), ix.1, ?_⟩
      rintro y1 rfl
      refine ⟨vin (by omega) (by omega), ix.1, ?_⟩
      rintro y2 rfl
      refine ⟨vin (by omega) (by omega), ?_⟩
      rintro y3 rfl
      rw [shl1 (by omega), nI_or, nI_add, maxI (by omega) (by omega), nI_1]
      exact ih M3 k3.1 (by rw [k3.2.1 24 (by omega) (by omega), e24])
theorem s11_boxesInOrder {P : jP} {M : jM} {A : aS} (h : RelC P M A) {l B : Nat} {o v : Int32} (hl : l < A.1 2) (hE : WayE M A l) (hW : WayB M A l) (hS : StampOK P M B) (hB : B < 2 ^ 29) (ho : okOrd A o) (hj : ∀ j, j < A.1 0 → M 26 j = nI (ordG A o.toNatClampNeg j)) {Q : Int32 → jM → Prop} (hq : ∀ M', agS M M' → StampOK P M' (B + 9) → Q (if v = 0 then nI (sumN (chG A l o.toNatClampNeg) (A.1 0)) else nI (maxN (chG A l o.toNatClampNeg) (A.1 0))) M') : w_X1_boxesInOrder P (64 + 8 * l) v M Q := by
  have hC := h.C512
  have h9 := h.n9
  unfold w_X1_boxesInOrder
  intro R11 h11
  have hD : ∀ t, ordG A o.toNatClampNeg t < A.1 0 := fun t => ordG_lt h.1
  have hb : ∀ k, chG A l o.toNatClampNeg k ≤ 512 := fun k => Nat.le_trans (boxN_le _ _ _ _) hC
  refine lp_up (R := fun k => k ≤ A.1 0 → ∀ M2, agS M M2 → StampOK P M2 (B + k) → R11 (nI (sumN (chG A l o.toNatClampNeg) k)) (nI (maxN (chG A l o.toNatClampNeg) k)) (nI (ahN (ordG A o.toNatClampNeg) k)) (nI k) M2) (A.1 0) ?_ ?_ 0 (Nat.zero_le _) (Nat.zero_le _) M (agS.refl M) hS
  · intro _ M2 g ⟨s, s1, s2⟩
    have r2 := h.agS g
    have hq := hq M2 g ⟨s, by omega, s2⟩
    refine h11 _ _ _ _ _ ?_
    rw [r2.facts]
    refine br_t (nI_le (Nat.le_refl _) (by omega)) (br_c (fun z => ?_) (fun z => ?_))
    · rw [if_pos z] at hq; exact hq
    · rw [if_neg z] at hq; exact hq
  · intro k hk ih _ M2 g hS2
    have r2 := h.agS g
    have hlt := ahN_lt hD k
    have hDk := hD k
    have m1 := sumN_le hb k
    have m2 := maxN_le hb k
    have m3 : boxN A l (ahN (ordG A o.toNatClampNeg) k) (ordG A o.toNatClampNeg k) ≤ 512 := hb k
    have e26 : M2 26 k = nI (ordG A o.toNatClampNeg k) := by
      rw [g.1 26 (by omega) (by omega)]
      exact hj k hk
    refine h11 _ _ _ _ _ ?_
    rw [r2.facts, h.2.1.1]
    refine br_f (nI_ge hk (by omega)) ⟨vin hk (by omega), ?_⟩
    rw [nI_clamp (show k < 2 ^ 31 by omega), e26]
    refine s11_boxes r2 hl (hE.agS g) (hW.agS g) hS2 (by omega) hlt hDk (ahN_no h.1 ho hk) (fun M3 g3 hS3 => ⟨vin hk (by omega), ?_⟩)
    rintro y rfl
    rw [g3.1 26 (by omega) (by omega), e26, shl1 (by omega), nI_or, nI_add, maxI (by omega) (by omega), nI_1]
    exact ih (by omega) M3 (g.trans g3) hS3
theorem s11_chart {P : jP} {M : jM} {A : aS} (h : RelC P M A) (hE : ∀ l, l < A.1 2 → WayE M A l) (hW : ∀ l, l < A.1 2 → WayB M A l) {B : Nat} (hS : StampOK P M B) (hB : B < 2 ^ 29) {a o w : Int32} {Q : Int32 → jM → Prop} (hq : ∀ M', (∀ k, k ≠ 5 → k ≠ 23 → k ≠ 26 → M' k = M k) → (∀ j, j ≠ 6 → M' 5 j = M 5 j) → StampOK P M' (B + 9) → Q (chartS A a o w) M') : w_X11_chart P a o w M Q := by
  have hC := h.C512
  have h9 := h.n9
  have hS0 : StampOK P M (B + 9) := by
    obtain ⟨s, s1, s2⟩ := hS
    exact ⟨s, by omega, s2⟩
  have hq0 := hq M (fun _ _ _ _ => rfl) (fun _ _ => rfl) hS0
  unfold w_X11_chart
  refine s11_lawAt h (fun hn => br_t rfl ?_) (fun l hl el => br_f (by omega) (br_c (fun hw => ?_) (fun hw => br_c (fun hw1 => ?_) (fun hw1 => s11_keepOrder h (fun hn M' hM => ?_) (fun ho M' hM hj => ?_)))))
  · rw [chartS_f (fun z => hn z.1)] at hq0; exact hq0
  · rw [chartS_f (fun z => z.2.1.1 hw)] at hq0; exact hq0
  · rw [chartS_f (fun z => z.2.1.2 hw1)] at hq0; exact hq0
  · have hq := hq M' (fun k _ _ k3 => hM k k3) (fun j _ => by rw [hM 5 (by omega)]) (by
      unfold StampOK
      rw [hM 5 (by omega), hM 23 (by omega)]
      exact hS0)
    rw [chartS_f (fun z => hn z.2.2)] at hq
    exact ⟨fun z => absurd rfl z, fun _ => hq⟩
  · subst el
    have ol := okL_mk (M := M) h.1 hl
    have h' := h.k26 hM
    have hE' : WayE M' A l := by
      unfold WayE
      rw [hM (64 + 8 * l + 4) (by omega)]
      exact hE l hl
    have hW' : WayB M' A l := by
      unfold WayB
      rw [hM (64 + 8 * l + 4) (by omega)]
      exact hW l hl
    have hS' : StampOK P M' B := by
      unfold StampOK
      rw [hM 5 (by omega), hM 23 (by omega)]
      exact hS
    refine ⟨fun _ => ?_, fun z => absurd z (by decide)⟩
    intro R50 h50
    have key : ∀ v : Int32, ((v = 0) ↔ (w = 0)) → R50 v := fun v hv => h50 v (s11_boxesInOrder h' hl hE' hW' hS' hB ho hj (fun M2 g hS2 => by
      have hq := hq M2 (fun k k1 k2 k3 => (g.1 k k1 k2).trans (hM k k3)) (fun j hj => (g.2 j hj).trans (by rw [hM 5 (by omega)])) hS2
      rw [chartS_t ⟨ol.1, ⟨hw, hw1⟩, ho⟩, nI_clamp (show l < 2 ^ 31 by omega)] at hq
      by_cases z : v = 0
      · rw [if_pos z]
        rw [if_pos (hv.mp z)] at hq
        exact hq
      · rw [if_neg z]
        rw [if_neg (fun y => z (hv.mpr y))] at hq
        exact hq))
    have h01 : w = 0 ∨ w = 1 := by
      obtain ⟨j, hj, rfl⟩ := nI_of hw
      have : ¬ 1 < j := fun z => hw1 ((nI_ltI (a := 1) (by omega) (by omega)).mpr z)
      rcases (show j = 0 ∨ j = 1 by omega) with q | q
      · exact Or.inl (by rw [q]; rfl)
      · exact Or.inr (by rw [q]; rfl)
    refine ⟨fun z => key 0 ⟨fun _ => h01.resolve_right z, fun _ => rfl⟩, fun z => key 1 ⟨fun y => absurd y (by decide), fun y => ?_⟩⟩
    rw [y] at z
    exact absurd z (by decide)
