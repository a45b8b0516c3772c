/-! sort, chance: both sides -/
theorem in_pos {a : Int32} {lo hi : Nat} (hh : hi < 2 ^ 30) (h1 : ¬ a < nI lo) (h2 : ¬ nI hi < a) (hl : lo < 2 ^ 30) : ∃ w : Nat, lo ≤ w ∧ w ≤ hi ∧ a = nI w := by
  have e1 : ¬ a.toInt < lo := fun z => h1 (by rw [Int32.lt_iff_toInt_lt, nI_toInt (by omega)]; exact z)
  have e2 : ¬ (hi : Int) < a.toInt := fun z => h2 (by rw [Int32.lt_iff_toInt_lt, nI_toInt (by omega)]; exact z)
  refine ⟨a.toInt.toNat, by omega, by omega, ?_⟩
  rw [← Int32.toInt_inj, nI_toInt (by omega)]
  omega
theorem le_pred {a : Int32} {S : Nat} (hS : S < 2 ^ 30) (h : ¬ a < 0) : (¬ nI S - 1 < a) ↔ ¬ nI S ≤ a := by
  have e := fun z : a.toInt < 0 => h (by rw [Int32.lt_iff_toInt_lt]; exact z)
  have i1 : nI S - 1 < a ↔ (S : Int) - 1 < a.toInt := by
    rw [Int32.lt_iff_toInt_lt, show (1 : Int32) = nI 1 from rfl, pk_sub_toInt (by omega) (by omega)]
    rfl
  have i2 : nI S ≤ a ↔ (S : Int) ≤ a.toInt := by
    rw [Int32.le_iff_toInt_le, nI_toInt (by omega)]
  rw [i1, i2]
  omega
/-- the table with a sort's chances all even -/
def evenT (T : jM) (s x : Nat) : jM := fun k j => if k = 18 ∧ 9 * s ≤ j ∧ j < 9 * s + x then 5 else T k j
theorem evenT_up (T : jM) (s x k j : Nat) : upM (evenT T s x) 18 (9 * s + x) 5 k j = evenT T s (x + 1) k j := by
  rw [up2]
  unfold evenT
  by_cases h : k = 18 ∧ j = 9 * s + x
  · rw [if_pos h, if_pos (by omega)]
  · rw [if_neg h]
    by_cases h2 : k = 18 ∧ 9 * s ≤ j ∧ j < 9 * s + x
    · rw [if_pos h2, if_pos (by omega)]
    · rw [if_neg h2, if_neg (by omega)]
def srtA (A : aS) (w : Int32) : aS := (setN A.1 5 (A.1 5 + 1), upM (evenT (upM A.2 17 (A.1 5) w) (A.1 5) 9) 1 31 (nI (A.1 5 + 1)))
abbrev okT (A : aS) (w : Int32) : Prop := A.1 5 < 4 ∧ ¬ w < 1 ∧ ¬ 9 < w
def sortN (A : aS) (w : Int32) : aS := if okT A w then srtA A w else A
def sortS (A : aS) (w : Int32) : Int32 := if okT A w then nI (A.1 5) else -1
theorem srtA_at {A : aS} {w : Int32} {k j : Nat} (hk : k ≠ 1) (h17 : k ≠ 17) (h18 : k ≠ 18 ∨ j < 9 * A.1 5 ∨ 9 * A.1 5 + 9 ≤ j) : (srtA A w).2 k j = A.2 k j := by
  show upM _ 1 31 _ k j = _
  rw [up_of _ _ _ _ hk, evenT, if_neg (by omega), up_of _ _ _ _ h17]
theorem srtA_row {A : aS} {w : Int32} {k : Nat} (hk : k ≠ 1) (h17 : k ≠ 17) (h18 : k ≠ 18) : (srtA A w).2 k = A.2 k := funext fun j => srtA_at hk h17 (Or.inl h18)
theorem srtA_head {A : aS} {w : Int32} {j : Nat} (hj : j ≠ 31) : (srtA A w).2 1 j = A.2 1 j := by
  show upM _ 1 31 _ 1 j = _
  rw [up_at, if_neg hj, evenT, if_neg (by omega), up_of _ _ _ _ (by omega)]
theorem wfLaws_of {A A' : aS} (h : wfLaws A) (e0 : A'.1 0 = A.1 0) (e2 : A'.1 2 = A.1 2) (h8 : A'.2 8 = A.2 8) (h9 : A'.2 9 = A.2 9) (h10 : A'.2 10 = A.2 10) (h11 : A'.2 11 = A.2 11) : wfLaws A' := by
  unfold wfLaws outOf at h ⊢
  rw [e0, e2, h8, h9, h10, h11]
  exact h
theorem wfForms_of {A A' : aS} (h : wfForms A) (e0 : A'.1 0 = A.1 0) (e4 : A'.1 4 = A.1 4) (h4 : A'.2 4 = A.2 4) (h5 : A'.2 5 = A.2 5) (h6 : A'.2 6 = A.2 6) (h7 : A'.2 7 = A.2 7) : wfForms A' := by
  unfold wfForms at h ⊢
  rw [e0, e4, h4, h5, h6, h7]
  exact h
theorem wfSet_of {A A' : aS} (h : wfSet A) (e0 : A'.1 0 = A.1 0) (e3 : A'.1 3 = A.1 3) (h12 : A'.2 12 = A.2 12) (h13 : A'.2 13 = A.2 13) (h14 : A'.2 14 = A.2 14) (h15 : A'.2 15 = A.2 15) (h16 : A'.2 16 = A.2 16) : wfSet A' := by
  unfold wfSet at h ⊢
  rw [e0, e3, h12, h13, h14, h15, h16]
  exact h
theorem wfRules_of {A A' : aS} (h : wfRules A) (e0 : A'.1 0 = A.1 0) (e6 : A'.1 6 = A.1 6) (h28 : A'.2 28 = A.2 28) (h29 : A'.2 29 = A.2 29) : wfRules A' := by
  unfold wfRules at h ⊢
  rw [e0, e6, h28, h29]
  exact h
theorem srtA_17 {A : aS} {w : Int32} (j : Nat) : (srtA A w).2 17 j = if j = A.1 5 then w else A.2 17 j := by
  show upM (evenT (upM A.2 17 (A.1 5) w) (A.1 5) 9) 1 31 (nI (A.1 5 + 1)) 17 j = _
  rw [up_of _ _ _ _ (by omega), evenT, if_neg (by omega), up_at]
theorem srtA_18 {A : aS} {w : Int32} {j : Nat} (h1 : 9 * A.1 5 ≤ j) (h2 : j < 9 * A.1 5 + 9) : (srtA A w).2 18 j = 5 := by
  show upM (evenT (upM A.2 17 (A.1 5) w) (A.1 5) 9) 1 31 (nI (A.1 5 + 1)) 18 j = _
  rw [up_of _ _ _ _ (by omega), evenT, if_pos ⟨rfl, h1, h2⟩]
theorem srtA_wf {A : aS} (h : wfA A) {w : Int32} (ht : okT A w) : wfA (srtA A w) := by
  obtain ⟨n, hd, hl, hf, hs, hp, hu⟩ := h
  have n2 := n
  unfold wfNum at n2
  have R : ∀ k, k ≠ 1 → k ≠ 17 → k ≠ 18 → (srtA A w).2 k = A.2 k := fun k a b c => srtA_row a b c
  refine ⟨⟨n.1, n.2.1, n.2.2.1, n.2.2.2.1, n.2.2.2.2.1, ht.1, n.2.2.2.2.2.2⟩, ⟨?_, ?_, ?_, ?_, ?_, ?_, ?_, ?_⟩, wfLaws_of hl rfl rfl (R _ (by omega) (by omega) (by omega)) (R _ (by omega) (by omega) (by omega)) (R _ (by omega) (by omega) (by omega)) (R _ (by omega) (by omega) (by omega)), wfForms_of hf rfl rfl (R _ (by omega) (by omega) (by omega)) (R _ (by omega) (by omega) (by omega)) (R _ (by omega) (by omega) (by omega)) (R _ (by omega) (by omega) (by omega)), wfSet_of hs rfl rfl (R _ (by omega) (by omega) (by omega)) (R _ (by omega) (by omega) (by omega)) (R _ (by omega) (by omega) (by omega)) (R _ (by omega) (by omega) (by omega)) (R _ (by omega) (by omega) (by omega)), ?_, wfRules_of hu rfl rfl (R _ (by omega) (by omega) (by omega)) (R _ (by omega) (by omega) (by omega))⟩
  · rw [srtA_head (by omega)]; exact hd.1
  · rw [srtA_head (by omega)]; exact hd.2.1
  · rw [srtA_head (by omega)]; exact hd.2.2.1
  · rw [srtA_head (by omega)]; exact hd.2.2.2.1
  · rw [srtA_head (by omega)]; exact hd.2.2.2.2.1
  · rw [srtA_head (by omega)]; exact hd.2.2.2.2.2.1
  · rfl
  · rw [srtA_head (by omega)]; exact hd.2.2.2.2.2.2.2
  · intro s hs2
    have hs3 : s < A.1 5 + 1 := hs2
    rw [srtA_17]
    by_cases e : s = A.1 5
    · rw [if_pos e]
      obtain ⟨x, x1, x2, x3⟩ := in_pos (lo := 1) (hi := 9) (by omega) ht.2.1 ht.2.2 (by omega)
      refine ⟨⟨x, x1, x2, x3⟩, fun f hf2 => ⟨5, by omega, ?_⟩⟩
      have hf3 : f < A.1 0 := hf2
      rw [srtA_18 (by omega) (by omega)]
      rfl
    · rw [if_neg e]
      obtain ⟨p1, p2⟩ := hp s (by omega)
      refine ⟨p1, fun f hf2 => ?_⟩
      have hf3 : f < A.1 0 := hf2
      rw [srtA_at (by omega) (by omega) (Or.inr (Or.inl (by omega)))]
      exact p2 f hf3
theorem s12_sort {P : jP} {M : jM} {A : aS} (h : RelM M A) {w : Int32} {Q : Int32 → jM → Prop} (hq : ∀ M', RelM M' (sortN A w) → Q (sortS A w) M') : w_X12_sort P w M Q := by
  unfold w_X12_sort
  have h0 := h.thr 0
  generalize upM M 1 0 0 = M0 at h0 ⊢
  have h6 := h0.num
  unfold wfNum at h6
  have bad : ¬ okT A w → Q (-1) M0 := fun z => by
    have := hq M0 (by rw [sortN, if_neg z]; exact h0)
    rw [sortS, if_neg z] at this; exact this
  rw [h0.sorts]
  refine br_c (fun e => bad (fun z => ?_)) (fun e => s12_isIn (br_j (fun hw => ?_) (fun hn => bad (fun z => hn z.2))))
  · have := (nI_eq (b := 4) (by omega) (by omega)).mp e
    omega
  · have hlt : A.1 5 < 4 := by
      rcases Nat.lt_or_ge (A.1 5) 4 with z | z
      · exact z
      · exact absurd (congrArg nI (show A.1 5 = 4 by omega)) e
    have ok : okT A w := ⟨hlt, hw⟩
    refine ⟨vin hlt (by omega), ?_⟩
    rintro M1 rfl
    rw [nI_clamp (show A.1 5 < 2 ^ 31 by omega)]
    intro R hR
    have main : ∀ x, x ≤ 9 → ∀ M', (∀ k j, M' k j = evenT (upM M0 17 (A.1 5) w) (A.1 5) x k j) → R (nI x) M' := by
      refine fun x hx => lp_up (R := fun x => ∀ M', (∀ k j, M' k j = evenT (upM M0 17 (A.1 5) w) (A.1 5) x k j) → R (nI x) M') 9 ?_ ?_ x hx
      · intro M2 hM
        have e31 : M2 1 31 = nI (A.1 5) := by rw [hM, evenT, if_neg (by omega), up_of _ _ _ _ (by omega), h0.sorts]
        refine hR _ _ (br_t (nI_le (a := 9) (Nat.le_refl _) (by omega)) ?_)
        rw [e31, nI_1, up_at, if_pos rfl]
        have e1 : nI (A.1 5 + 1) - 1 = nI (A.1 5) := pk_sub (a := A.1 5 + 1) (b := 1) (by omega)
        have hq := hq (upM M2 1 31 (nI (A.1 5 + 1))) (by
          rw [sortN, if_pos ok]
          refine ⟨srtA_wf h0.1 ok, fun k j hk => ?_⟩
          have e := h0.2 k j hk
          show _ = upM _ 1 31 _ k j
          rw [up2, up2, hM, evenT, evenT, up2, up2, e])
        rw [sortS, if_pos ok] at hq
        rw [e1]
        exact hq
      · intro x hx ih M2 hM
        have e31 : M2 1 31 = nI (A.1 5) := by rw [hM, evenT, if_neg (by omega), up_of _ _ _ _ (by omega), h0.sorts]
        refine hR _ _ (br_f (nI_ge (b := 9) hx (by omega)) ?_)
        have ix := ix9 (l := A.1 5) (k := x) (N := 36) (by omega) (by omega)
        rw [e31]
        refine ⟨ix.1, ?_⟩
        rintro M3 rfl
        rw [ix.2, nI_1]
        refine ih _ (fun k j => ?_)
        have : M2 = evenT (upM M0 17 (A.1 5) w) (A.1 5) x := funext fun k => funext fun j => hM k j
        rw [this]
        exact evenT_up _ _ _ _ _
    exact main 0 (Nat.zero_le _) _ (fun k j => by rw [evenT, if_neg (by omega)])
theorem cTs_ch (A : aS) {i j : Nat} (hi : i < 4) : cTs A (31 + i) j = if i < A.1 5 then A.2 18 (9 * i + j) else 5 := by
  match i, hi with
  | 0, _ => rw [show 9 * 0 + j = j by omega]; rfl
  | 1, _ => rfl
  | 2, _ => rfl
  | 3, _ => rfl
/-- what stands in no lasting place, key 8's -/
theorem RelC.k8 {P : jP} {M : jM} {A : aS} (h : RelC P M A) (j : Nat) (v : Int32) : RelC P (upM M 8 j v) A :=
  h.keep [8] (by simp) (by intro k hk j; simp only [List.mem_cons, List.mem_nil_iff, or_false] at hk; subst hk; exact fun z => z) (fun k hk => upM_ne _ _ _ (fun e => hk (by simp [e])))
theorem s11_sort {P : jP} {M : jM} {A : aS} (h : RelC P M A) {w : Int32} {Q : Int32 → jM → Prop} (hq : ∀ M', RelC P M' (sortN A w) → (∀ k, k ≠ 7 → k ≠ 8 → k ≠ 29 → M' k = M k) → M' 8 = upd (M 8) 10 1 → Q (sortS A w) M') : w_X11_sort P w M Q := by
  have h6 := h.num
  unfold wfNum at h6
  have h8 := h.k8 10 1
  have u8 : ∀ k, k ≠ 7 → k ≠ 8 → k ≠ 29 → upM M 8 10 1 k = M k := fun k _ a _ => upM_ne _ _ _ a
  have v8 : upM M 8 10 1 8 = upd (M 8) 10 1 := upM_same _ _ _ _
  unfold w_X11_sort w_X5_added
  generalize upM M 8 10 1 = M0 at h8 u8 v8 ⊢
  have bad : ¬ okT A w → Q (-1) M0 := fun z => by
    have := hq M0 (by rw [sortN, if_neg z]; exact h8) u8 v8
    rw [sortS, if_neg z] at this; exact this
  rw [h8.sortn]
  refine br_c (fun z => bad (fun y => y.2.1 z)) (fun z1 => br_c (fun z => bad (fun y => y.2.2 z)) (fun z2 => br_c (fun z => ?_) (fun z => bad (fun y => z ((nI_ltI (b := 4) (by omega) (by omega)).mpr y.1)))))
  have hlt : A.1 5 < 4 := (nI_ltI (b := 4) (by omega) (by omega)).mp z
  have ok : okT A w := ⟨hlt, z1, z2⟩
  refine ⟨vin hlt (by omega), ?_⟩
  rintro M2 rfl
  rw [nI_clamp (show A.1 5 < 2 ^ 31 by omega), up_of _ _ _ _ (show (7 : Nat) ≠ 29 by omega), h8.sortn, nI_1]
  have hq := hq (upM (upM M0 29 (A.1 5) w) 7 1 (nI (A.1 5 + 1))) (by
    rw [sortN, if_pos ok]
    refine h8.step (srtA_wf h8.1 ok) h8.2.1 (fun k j hk => ?_) (fun k j hk => ?_)
    · have ch : ∀ i, i < 4 → j < A.1 0 → cTs (srtA A w) (31 + i) j = cTs A (31 + i) j := by
        intro i hi hj
        rw [cTs_ch _ hi, cTs_ch _ hi]
        have e : (srtA A w).1 5 = A.1 5 + 1 := rfl
        rw [e]
        by_cases c1 : i < A.1 5
        · rw [if_pos c1, if_pos (by omega), srtA_at (by omega) (by omega) (Or.inr (Or.inl (by omega)))]
        · rw [if_neg c1]
          by_cases c2 : i < A.1 5 + 1
          · rw [if_pos c2, srtA_18 (by omega) (by omega)]
          · rw [if_neg c2]
      rcases pCs_key hk with rfl | rfl | rfl | rfl | rfl | rfl | rfl | rfl | rfl | rfl | rfl | rfl | rfl | rfl | rfl | rfl | rfl | rfl | rfl | rfl | rfl | rfl | rfl | rfl | rfl
      case inr.inr.inr.inr.inr.inr.inl =>
        rcases hk with e | e
        · subst e; exact Or.inl ⟨Or.inl rfl, rfl, rfl⟩
        · subst e; exact Or.inr rfl
      case inr.inr.inr.inr.inr.inr.inr.inr.inr.inr.inr.inr.inr.inr.inr.inr.inl =>
        have hj : j < A.1 5 + 1 := hk
        have e1 : upM (upM M0 29 (A.1 5) w) 7 1 (nI (A.1 5 + 1)) 29 j = if j = A.1 5 then w else M0 29 j := up_at M0 29 (A.1 5) j w
        have e2 : cTs (srtA A w) 29 j = if j = A.1 5 then w else A.2 17 j := srtA_17 j
        rw [e1, e2]
        by_cases e : j = A.1 5
        · rw [if_pos e, if_pos e]; exact Or.inr rfl
        · rw [if_neg e, if_neg e]
          exact Or.inr (h8.2.2.1 29 j (show j < A.1 5 by omega))
      case inr.inr.inr.inr.inr.inr.inr.inr.inr.inr.inr.inr.inr.inr.inr.inr.inr.inl => exact Or.inl ⟨hk, ch 0 (by omega) hk, rfl⟩
      case inr.inr.inr.inr.inr.inr.inr.inr.inr.inr.inr.inr.inr.inr.inr.inr.inr.inr.inl => exact Or.inl ⟨hk, ch 1 (by omega) hk, rfl⟩
      case inr.inr.inr.inr.inr.inr.inr.inr.inr.inr.inr.inr.inr.inr.inr.inr.inr.inr.inr.inl => exact Or.inl ⟨hk, ch 2 (by omega) hk, rfl⟩
      case inr.inr.inr.inr.inr.inr.inr.inr.inr.inr.inr.inr.inr.inr.inr.inr.inr.inr.inr.inr.inl => exact Or.inl ⟨hk, ch 3 (by omega) hk, rfl⟩
      all_goals exact Or.inl ⟨hk, rfl, rfl⟩
    · have := pCd_ge hk
      refine ⟨hk, rfl, ?_⟩
      rw [up_of _ _ _ _ (show k ≠ 7 by omega), up_of _ _ _ _ (show k ≠ 29 by omega)]) (fun k a b d => by rw [upM_ne _ _ _ a, upM_ne _ _ _ d, u8 k a b d]) (by rw [upM_ne _ _ _ (by omega), upM_ne _ _ _ (by omega)]; exact v8)
  rw [sortS, if_pos ok] at hq
  exact hq
