/-! sure: both sides -/
theorem sum3N_le (b : Nat) : ∀ k, 2 * sum3N b k + 1 ≤ 3 ^ k
  | 0 => Nat.le_refl _
  | k + 1 => by
    have ih := sum3N_le b k
    show 2 * (sum3N b k + (if b.testBit k = true then 3 ^ k else 0)) + 1 ≤ 3 ^ (k + 1)
    rw [Nat.pow_succ]
    split <;> omega
theorem sum3N_stop {b n : Nat} (hb : b < 2 ^ n) : ∀ k, sum3N b (n + k) = sum3N b n
  | 0 => rfl
  | k + 1 => by
    show sum3N b (n + k) + (if b.testBit (n + k) = true then 3 ^ (n + k) else 0) = _
    have z : ¬ b.testBit (n + k) = true := by
      rw [Nat.testBit_lt_two_pow (Nat.lt_of_lt_of_le hb (Nat.pow_le_pow_right (by omega) (by omega)))]
      decide
    rw [sum3N_stop hb k, if_neg z, Nat.add_zero]
theorem sum3_le {b n : Nat} (hn : n ≤ 9) (hb : b < 2 ^ n) : 2 * sum3 b + 1 ≤ 3 ^ n := by
  obtain ⟨k, e⟩ := Nat.le.dest hn
  unfold sum3
  rw [← e, sum3N_stop hb k]
  exact sum3N_le b n
/-- a law's ways tell what is sure -/
def WayS (M : jM) (A : aS) (l : Nat) : Prop := ∀ kn so, kn < 2 ^ A.1 0 → so < 2 ^ A.1 0 → so &&& kn = so → ∃ v : Nat, v < 2 ^ 20 ∧ M (64 + 8 * l + 4) (sum3 kn + sum3 so) = nI v ∧ ((v < 7 ∧ nI v - 1 = sureV (sdA A l) (2 ^ A.1 0) kn so ∧ sureV (sdA A l) (2 ^ A.1 0) kn so ≠ -2) ∨ (7 ≤ v ∧ sureV (sdA A l) (2 ^ A.1 0) kn so = -2))
def sureS (A : aS) (a kn so : Int32) : Int32 := if okL A a ∧ okK A kn so then sureV (sdA A a.toNatClampNeg) (2 ^ A.1 0) kn.toNatClampNeg so.toNatClampNeg else -2
theorem s12_sure {P : jP} {M : jM} {A : aS} (h : RelM M A) {a kn so : Int32} {Q : Int32 → jM → Prop} (hq : ∀ M', RelM M' A → Q (sureS A a kn so) M') : w_X12_sure P a kn so M Q := by
  unfold w_X12_sure
  have h0 := h.thr 0
  generalize upM M 1 0 0 = M0 at h0 ⊢
  have hq := hq M0 h0
  refine s12_isLaw h0 (br_i (fun hn => ?_) (fun hl => s12_isKnown h0 (br_i (fun hn => ?_) (fun hk => ?_))))
  · rw [sureS, if_neg (fun z => hn z.1)] at hq; exact hq
  · rw [sureS, if_neg (fun z => hn z.2)] at hq; exact hq
  · rw [sureS, if_pos ⟨hl, hk⟩] at hq
    obtain ⟨l, hl1, hl2, rfl⟩ := okL_of h0 hl
    obtain ⟨k, s, k1, s1, rfl, rfl, -, k2, s2⟩ := okK_of h0.1 hk
    rw [nI_clamp (show l < 2 ^ 31 by omega), nI_clamp (show k < 2 ^ 31 by omega), nI_clamp (show s < 2 ^ 31 by omega)] at hq
    exact s12_sureOf h0 hl2 k2 s2 hq
theorem s11_place {P : jP} {M : jM} {A : aS} (h : RelC P M A) {kn so : Nat} (hk : kn < 2 ^ A.1 0) (hs : so < 2 ^ A.1 0) {Q : Int32 → Prop} (hq : Q (nI (sum3 kn + sum3 so))) : w_X3_place P (nI kn) (nI so) M Q := by
  have hC := h.C512
  unfold w_X3_place
  rw [h.z1]
  have e1 : M 16 kn = nI (sum3 kn) := h.2.2.1 16 kn hk
  have e2 : M 16 so = nI (sum3 so) := h.2.2.1 16 so hs
  refine ⟨vin hk (by omega), vin hs (by omega), ?_⟩
  rw [nI_clamp (show kn < 2 ^ 31 by omega), nI_clamp (show so < 2 ^ 31 by omega), e1, e2, nI_add]
  exact hq
theorem place_in {P : jP} {M : jM} {A : aS} (h : RelC P M A) {l kn so : Nat} (hl : l < A.1 2) (hk : kn < 2 ^ A.1 0) (hs : so < 2 ^ A.1 0) : jin P (64 + 8 * l + 4) (nI (sum3 kn + sum3 so)) ∧ (nI (sum3 kn + sum3 so)).toNatClampNeg = sum3 kn + sum3 so := by
  have h1 := sum3_le h.n9 hk
  have h2 := sum3_le h.n9 hs
  have h3 : 3 ^ A.1 0 ≤ 3 ^ 9 := Nat.pow_le_pow_right (by omega) h.n9
  have h4 : (3 : Nat) ^ 9 = 19683 := rfl
  exact ⟨jin_of (h.ia hl).2.2.2 (by omega) (by omega), nI_clamp (by omega)⟩
theorem s11_isSureAt {P : jP} {M : jM} {A : aS} (h : RelC P M A) {l kn so : Nat} (hl : l < A.1 2) (hW : WayS M A l) (hk : kn < 2 ^ A.1 0) (hs : so < 2 ^ A.1 0) (hsub : so &&& kn = so) {Q : Int32 → Prop} (hq : Q (bi (sureV (sdA A l) (2 ^ A.1 0) kn so ≠ -2))) : w_X4_isSureAt P (64 + 8 * l) (nI (sum3 kn + sum3 so)) M Q := by
  unfold w_X4_isSureAt
  obtain ⟨p1, p2⟩ := place_in h hl hk hs
  obtain ⟨v, v1, v2, v3⟩ := hW kn so hk hs hsub
  rw [p2, v2]
  refine ⟨h.lw hl, p1, ?_⟩
  rcases v3 with ⟨a, -, c⟩ | ⟨a, c⟩
  · rw [bi_t c] at hq
    exact br_f (nI_ge (b := 7) a (by omega)) hq
  · rw [bi_f (fun z => z c)] at hq
    exact br_t (nI_le (a := 7) a (by omega)) hq
theorem s11_sure {P : jP} {M : jM} {A : aS} (h : RelC P M A) (hW : ∀ l, l < A.1 2 → WayS M A l) {a kn so : Int32} {Q : Int32 → Prop} (hq : Q (sureS A a kn so)) : w_X11_sure P a kn so M Q := by
  unfold w_X11_sure
  refine s11_lawAt h (fun hn => br_t rfl ?_) (fun l hl el => br_f (by omega) (s11_isKnown h (br_j (fun hk => ?_) (fun hn => ?_))))
  · rw [sureS, if_neg (fun z => hn z.1)] at hq; exact hq
  · subst el
    have ol := okL_mk (M := M) h.1 hl
    rw [sureS, if_pos ⟨ol.1, hk⟩] at hq
    obtain ⟨k, s, k1, s1, rfl, rfl, hsub, k2, s2⟩ := okK_of h.1 hk
    rw [nI_clamp (show l < 2 ^ 31 by omega), nI_clamp (show k < 2 ^ 31 by omega), nI_clamp (show s < 2 ^ 31 by omega)] at hq
    refine s11_place h k1 s1 ⟨h.lw hl, ⟨h.lw hl, s11_isSureAt h hl (hW l hl) k1 s1 hsub ?_⟩⟩
    obtain ⟨p1, p2⟩ := place_in h hl k1 s1
    obtain ⟨v, v1, v2, v3⟩ := hW l hl k s k1 s1 hsub
    refine br_i (fun z => ?_) (fun z => ⟨h.lw hl, p1, ?_⟩)
    · rw [Classical.byContradiction z] at hq; exact hq
    · rw [p2, v2]
      rcases v3 with ⟨-, b, -⟩ | ⟨-, b⟩
      · rw [b]; exact hq
      · exact absurd b z
  · rw [sureS, if_neg (fun z => hn z.2)] at hq; exact hq
