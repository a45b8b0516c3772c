/-! chance, set: both sides. One cell of a table changes -/
def tabA (A : aS) (k j : Nat) (v : Int32) : aS := (A.1, upM A.2 k j v)
theorem tab_ne {A : aS} {k j a : Nat} {v : Int32} (h : a ≠ k) : (tabA A k j v).2 a = A.2 a := upM_ne _ _ _ h
theorem tab_at {A : aS} {k j i : Nat} {v : Int32} : (tabA A k j v).2 k i = if i = j then v else A.2 k i := up_at _ _ _ _ _
theorem RelM.tab {M : jM} {A : aS} (h : RelM M A) {k j : Nat} {v : Int32} (hw : wfA (tabA A k j v)) : RelM (upM M k j v) (tabA A k j v) := by
  refine ⟨hw, fun a i hk => ?_⟩
  have e := h.2 a i hk
  show _ = upM A.2 k j v a i
  rw [up2, up2, e]
abbrev okP (A : aS) (a : Int32) : Prop := ¬ a < 0 ∧ ¬ nI (A.1 5) ≤ a
abbrev okH (A : aS) (a b v : Int32) : Prop := okP A a ∧ okN A b ∧ ¬ v < 0 ∧ ¬ 10 < v
def chanceN (A : aS) (a b v : Int32) : aS := if okH A a b v then tabA A 18 (9 * a.toNatClampNeg + b.toNatClampNeg) v else A
def chanceS (A : aS) (a b v : Int32) : Int32 := bi (okH A a b v)
theorem tab18_wf {A : aS} (h : wfA A) {s f : Nat} {v : Int32} (hf9 : f < A.1 0) (h1 : ¬ v < 0) (h2 : ¬ 10 < v) : wfA (tabA A 18 (9 * s + f) v) := by
  obtain ⟨n, hd, hl, hf, hs, hp, hu⟩ := h
  have n2 := n
  unfold wfNum at n2
  refine ⟨n, hd, hl, hf, hs, fun t ht => ⟨(hp t ht).1, fun g hg => ?_⟩, hu⟩
  rw [tab_at]
  by_cases e : 9 * t + g = 9 * s + f
  · rw [if_pos e]
    obtain ⟨x, -, x2, x3⟩ := in_pos (lo := 0) (hi := 10) (by omega) h1 h2 (by omega)
    exact ⟨x, x2, x3⟩
  · rw [if_neg e]
    exact (hp t ht).2 g hg
theorem s12_chance {P : jP} {M : jM} {A : aS} (h : RelM M A) {a b v : Int32} {Q : Int32 → jM → Prop} (hq : ∀ M', RelM M' (chanceN A a b v) → Q (chanceS A a b v) M') : w_X12_chance P a b v M Q := by
  unfold w_X12_chance
  have h0 := h.thr 0
  generalize upM M 1 0 0 = M0 at h0 ⊢
  have h6 := h0.num
  unfold wfNum at h6
  have bad : ¬ okH A a b v → Q 0 M0 := fun z => by
    have := hq M0 (by rw [chanceN, if_neg z]; exact h0)
    rw [chanceS, bi_f z] at this; exact this
  rw [h0.sorts]
  refine s12_isIn (br_i (fun hn => bad (fun z => hn ⟨z.1.1, (le_pred (by omega) z.1.1).mpr z.1.2⟩)) (fun ha => s12_isFactNumber h0 (br_i (fun hn => bad (fun z => hn z.2.1)) (fun hb => s12_isIn (br_j (fun hv => ?_) (fun hn => bad (fun z => hn z.2.2)))))))
  have hp : okP A a := ⟨ha.1, (le_pred (by omega) ha.1).mp ha.2⟩
  have ok : okH A a b v := ⟨hp, hb, hv⟩
  obtain ⟨s, hs, rfl⟩ := (ok3 (by omega)).mp hp
  obtain ⟨f, hf, hf9, rfl⟩ := okN_of h0 hb
  have ix := ix9 (l := s) (k := f) (N := 36) (by omega) (by omega)
  refine ⟨ix.1, ?_⟩
  rintro M1 rfl
  rw [ix.2]
  have hq := hq (upM M0 18 (9 * s + f) v) (by
    rw [chanceN, if_pos ok, nI_clamp (by omega), nI_clamp (by omega)]
    exact h0.tab (tab18_wf h0.1 hf hv.1 hv.2))
  rw [chanceS, bi_t ok] at hq
  exact hq
theorem s11_chance {P : jP} {M : jM} {A : aS} (h : RelC P M A) {a b v : Int32} {Q : Int32 → jM → Prop} (hq : ∀ M', RelC P M' (chanceN A a b v) → (∀ k, k ≠ 8 → ¬ (31 ≤ k ∧ k ≤ 34) → M' k = M k) → M' 8 = upd (M 8) 10 1 → Q (chanceS A a b v) M') : w_X11_chance P a b v M Q := by
  have h6 := h.num
  unfold wfNum at h6
  have h8 := h.k8 10 1
  have u8 : ∀ k, k ≠ 8 → ¬ (31 ≤ k ∧ k ≤ 34) → upM M 8 10 1 k = M k := fun k a _ => upM_ne _ _ _ a
  have v8 : upM M 8 10 1 8 = upd (M 8) 10 1 := upM_same _ _ _ _
  unfold w_X11_chance w_X5_setChance
  generalize upM M 8 10 1 = M0 at h8 u8 v8 ⊢
  have bad : ¬ okH A a b v → jb 0 ∧ Q 0 M0 := fun z => by
    have := hq M0 (by rw [chanceN, if_neg z]; exact h8) u8 v8
    rw [chanceS, bi_f z] at this; exact ⟨jb_0, this⟩
  rw [h8.sortn, h8.facts7]
  refine br_c (fun z => bad (fun y => y.1.1 z)) (fun a1 => br_c (fun z => bad (fun y => y.1.2 z)) (fun a2 => br_c (fun z => bad (fun y => y.2.1.1 z)) (fun b1 => br_c (fun z => bad (fun y => y.2.1.2 z)) (fun b2 => br_c (fun z => bad (fun y => y.2.2.1 z)) (fun v1 => br_c (fun v2 => ?_) (fun z => bad (fun y => z (Int32.not_lt.mp y.2.2.2))))))))
  have ok : okH A a b v := ⟨⟨a1, a2⟩, ⟨b1, b2⟩, v1, Int32.not_lt.mpr v2⟩
  obtain ⟨s, hs, rfl⟩ := (ok3 (by omega)).mp ok.1
  obtain ⟨f, hf, rfl⟩ := (ok3 (by omega)).mp ok.2.1
  rw [nI_clamp (show s < 2 ^ 31 by omega), nI_clamp (show f < 2 ^ 31 by omega)]
  have hci : cIA P (31 + s) = some (A.1 0) := (chIA (by omega)).trans (congrArg some h.2.1.1)
  refine ⟨vin (by omega) (by omega), jin_of hci hf (by omega), ?_⟩
  rintro M1 rfl
  have hq := hq (upM M0 (31 + s) f v) (by
    rw [chanceN, if_pos ok, nI_clamp (by omega), nI_clamp (by omega)]
    refine h8.step (tab18_wf h8.1 hf v1 ok.2.2.2) h8.2.1 (fun k j hk => ?_) (fun k j hk => ?_)
    · have ch : ∀ i, i < 4 → j < A.1 0 → upM M0 (31 + s) f v (31 + i) j = cTs (tabA A 18 (9 * s + f) v) (31 + i) j := by
        intro i hi hj
        have hold : M0 (31 + i) j = cTs A (31 + i) j := h8.2.2.1 (31 + i) j (by
          match i, hi with
          | 0, _ => exact hj
          | 1, _ => exact hj
          | 2, _ => exact hj
          | 3, _ => exact hj)
        rw [cTs_ch _ hi] at hold ⊢
        rw [up2, hold, tab_at]
        have e : (tabA A 18 (9 * s + f) v).1 5 = A.1 5 := rfl
        rw [e]
        by_cases c : i = s ∧ j = f
        · rw [if_pos (by omega), if_pos (by omega), if_pos (by omega)]
        · rw [if_neg (by omega)]
          by_cases c2 : i < A.1 5
          · rw [if_pos c2, if_pos c2, if_neg (by omega)]
          · rw [if_neg c2, if_neg c2]
      rcases pCs_key hk with rfl | rfl | rfl | rfl | rfl | rfl | rfl | rfl | rfl | rfl | rfl | rfl | rfl | rfl | rfl | rfl | rfl | rfl | rfl | rfl | rfl | rfl | rfl | rfl | rfl
      case inr.inr.inr.inr.inr.inr.inr.inr.inr.inr.inr.inr.inr.inr.inr.inr.inr.inl => exact Or.inr (ch 0 (by omega) hk)
      case inr.inr.inr.inr.inr.inr.inr.inr.inr.inr.inr.inr.inr.inr.inr.inr.inr.inr.inl => exact Or.inr (ch 1 (by omega) hk)
      case inr.inr.inr.inr.inr.inr.inr.inr.inr.inr.inr.inr.inr.inr.inr.inr.inr.inr.inr.inl => exact Or.inr (ch 2 (by omega) hk)
      case inr.inr.inr.inr.inr.inr.inr.inr.inr.inr.inr.inr.inr.inr.inr.inr.inr.inr.inr.inr.inl => exact Or.inr (ch 3 (by omega) hk)
      all_goals exact Or.inl ⟨hk, rfl, up_of _ _ _ _ (by omega)⟩
    · have := pCd_ge hk
      exact ⟨hk, rfl, up_of _ _ _ _ (by omega)⟩) (fun k a b => by rw [upM_ne _ _ _ (by omega), u8 k a b]) (by rw [upM_ne _ _ _ (by omega)]; exact v8)
  rw [chanceS, bi_t ok] at hq
  exact ⟨jb_1, hq⟩
