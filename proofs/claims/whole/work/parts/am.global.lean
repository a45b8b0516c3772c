/-! EVERY CALL, on the class's whole state -/
theorem agl.tr {A B C : aS} (h : agl A B) (g : agl B C) (e : B.1 2 = A.1 2) : agl A C := ⟨g.1.trans h.1, Nat.le_trans h.2.1 g.2.1, fun l hl c hc => (g.2.2 l (by omega) c (by rw [h.1]; exact hc)).trans (h.2.2 l hl c hc)⟩
/-- a new state that agrees, with the laws and the forms as they were -/
def nxA (A A' : aS) : Prop := agA A A' ∧ A'.1 2 = A.1 2 ∧ A'.1 4 = A.1 4 ∧ (wfX A → wfX A')
theorem nxA.rfl' (A : aS) : nxA A A := ⟨agA.rfl' A, rfl, rfl, id⟩
theorem nxA.tr {A B C : aS} (h : nxA A B) (g : nxA B C) : nxA A C := by
  obtain ⟨⟨a1, a2, a3, a4, a5, a6⟩, b, c, d⟩ := h
  obtain ⟨⟨a1', a2', a3', a4', a5', a6'⟩, b', c', d'⟩ := g
  exact ⟨⟨a1.tr a1' b, a2'.trans a2, a3'.trans a3, a4'.trans a4, a5'.trans a5, a6'.trans a6⟩, b'.trans b, c'.trans c, fun h => d' (d h)⟩
theorem nxA.step (A : aS) (v : Int32) : nxA A (stepA A v) := by
  unfold stepA
  by_cases z : v &&& 255 = 0
  · rw [if_pos z]; exact nxA.rfl' A
  · rw [if_neg z]
    refine ⟨⟨⟨rfl, Nat.le_refl _, fun _ _ _ _ => rfl⟩, rfl, rfl, rfl, rfl, rfl⟩, rfl, rfl, fun h => ⟨fun j hj => ?_, h.2⟩⟩
    have hj : j < A.1 1 + 1 := hj
    show ¬ upM A.2 2 (A.1 1) v.toInt8.toInt32.toInt8.toInt32 2 j &&& 255 = 0
    rw [up_at]
    by_cases y : j = A.1 1
    · rw [if_pos y, b8]; exact z
    · rw [if_neg y]; exact h.1 j (by omega)
theorem nxA.put (A : aS) (a : Int32) : nxA A (putA A a) := (((nxA.step _ _).tr (nxA.step _ _)).tr (nxA.step _ _)).tr (nxA.step _ _)
theorem nxA.feed (A : aS) (a b c d e : Int32) : nxA A (feedA A a b c d e) := by
  unfold feedA
  by_cases z : A.1 1 + fedN a b c d e ≤ 160
  · rw [if_pos z]
    exact ((((nxA.put _ _).tr (nxA.put _ _)).tr (nxA.put _ _)).tr (nxA.put _ _)).tr (nxA.put _ _)
  · rw [if_neg z]; exact nxA.rfl' A
theorem nxA.end {A : aS} (hA : wfA A) (a : Int32) : nxA A (endA A a) := by
  unfold endA
  by_cases z : okZ A a
  · rw [if_pos z]
    obtain ⟨x, hx, rfl⟩ := okZ_of hA z
    have h6 := hA.1
    unfold wfNum at h6
    rw [nI_clamp (show x < 2 ^ 31 by omega)]
    refine ⟨⟨⟨rfl, Nat.le_refl _, fun _ _ _ _ => rfl⟩, rfl, rfl, rfl, rfl, rfl⟩, rfl, rfl, fun h => ⟨fun j hj => ?_, h.2⟩⟩
    have hj : j < x := hj
    exact h.1 j (by omega)
  · rw [if_neg z]; exact nxA.rfl' A
theorem nxA.ruling (A : aS) (c o : Int32) : nxA A (rulingN A c o) := by
  unfold rulingN
  by_cases z : okR A c o
  · rw [if_pos z]
    exact ⟨⟨⟨rfl, Nat.le_refl _, fun _ _ _ _ => rfl⟩, rfl, rfl, rfl, rfl, rfl⟩, rfl, rfl, fun h => h⟩
  · rw [if_neg z]; exact nxA.rfl' A
/-- a new state whose askings are stale -/
def nxS (A A' : aS) : Prop := agl A A' ∧ A'.1 2 = A.1 2 ∧ A'.1 4 = A.1 4 ∧ (wfX A → wfX A')
theorem nxS.rfl' (A : aS) : nxS A A := ⟨agl.rfl' A, rfl, rfl, id⟩
theorem nxS.sort (A : aS) (w : Int32) : nxS A (sortN A w) := by
  unfold sortN
  by_cases z : okT A w
  · rw [if_pos z]
    have e8 : (srtA A w).2 8 = A.2 8 := srtA_row (by omega) (by omega) (by omega)
    have e2 : (srtA A w).2 2 = A.2 2 := srtA_row (by omega) (by omega) (by omega)
    have e13 : (srtA A w).2 13 = A.2 13 := srtA_row (by omega) (by omega) (by omega)
    refine ⟨⟨rfl, Nat.le_refl _, fun l _ c _ => by show (srtA A w).2 8 _ = A.2 8 _; rw [e8]⟩, rfl, rfl, fun h => ⟨fun j hj => ?_, fun q a b => by rw [e13]; exact h.2 q a b⟩⟩
    rw [e2]
    exact h.1 j hj
  · rw [if_neg z]; exact nxS.rfl' A
theorem nxS.tab {A : aS} {k j : Nat} {v : Int32} (h2 : k ≠ 2) (h8 : k ≠ 8) (h13 : k ≠ 13 ∨ j < A.1 3) : nxS A (tabA A k j v) := by
  have e8 : (tabA A k j v).2 8 = A.2 8 := tab_ne (Ne.symm h8)
  have e2 : (tabA A k j v).2 2 = A.2 2 := tab_ne (Ne.symm h2)
  refine ⟨⟨rfl, Nat.le_refl _, fun l _ c _ => by show (tabA A k j v).2 8 _ = A.2 8 _; rw [e8]⟩, rfl, rfl, fun h => ⟨fun i hi => ?_, fun q a b => ?_⟩⟩
  · rw [e2]; exact h.1 i hi
  · have a : A.1 3 ≤ q := a
    show upM A.2 k j v 13 q = 1
    rw [up2, if_neg (by omega)]
    exact h.2 q a b
theorem nxS.chance (A : aS) (a b v : Int32) : nxS A (chanceN A a b v) := by
  unfold chanceN
  by_cases z : okH A a b v
  · rw [if_pos z]; exact nxS.tab (by omega) (by omega) (Or.inl (by omega))
  · rw [if_neg z]; exact nxS.rfl' A
theorem nxS.set {A : aS} (hA : wfA A) (w a v : Int32) : nxS A (setA A w a v) := by
  have h6 := hA.1
  unfold wfNum at h6
  unfold setA
  by_cases z : okE A w a v
  · rw [if_pos z]
    rcases z with ⟨rfl, z⟩ | ⟨rfl, z⟩ | ⟨rfl, z⟩ | ⟨rfl, z⟩
    · exact nxS.tab (show setK 0 ≠ 2 by decide) (show setK 0 ≠ 8 by decide) (Or.inl (show setK 0 ≠ 13 by decide))
    · refine nxS.tab (show setK 1 ≠ 2 by decide) (show setK 1 ≠ 8 by decide) (Or.inr ?_)
      obtain ⟨q, q1, rfl⟩ := (ok3 (show A.1 3 < 2 ^ 31 by omega)).mp z.1
      rw [nI_clamp (show q < 2 ^ 31 by omega)]
      exact q1
    · exact nxS.tab (show setK 2 ≠ 2 by decide) (show setK 2 ≠ 8 by decide) (Or.inl (show setK 2 ≠ 13 by decide))
    · exact nxS.tab (show setK 3 ≠ 2 by decide) (show setK 3 ≠ 8 by decide) (Or.inl (show setK 3 ≠ 13 by decide))
  · rw [if_neg z]; exact nxS.rfl' A
theorem presX.eq {P : jP} {A A' : aS} (e2 : A'.1 2 = A.1 2) (e4 : A'.1 4 = A.1 4) (h : presX P A) : presX P A' := by
  unfold presX at h ⊢
  rw [e2, e4]
  exact h
theorem GC.next {P : jP} {M M' : jM} {N N' : jN} {A A' : aS} {t : Nat} (h : GC P M N A t) (g : nxA A A') (hR : RelC P M' A') (hk : ∀ k, k = 5 ∨ k = 8 ∨ k = 9 ∨ k = 11 ∨ k = 12 ∨ k = 23 ∨ k = 37 ∨ k = 40 ∨ (64 ≤ k ∧ k < 112) → M' k = M k) (hN : N' 35 = N 35 ∧ N' 36 = N 36) : GC P M' N' A' (t + 1) := by
  obtain ⟨hR0, h2, h3, h4, h5, h6, h7, h8, h9⟩ := h
  obtain ⟨ag, e2, e4, -⟩ := g
  have hn := hR0.num
  unfold wfNum at hn
  refine ⟨hR, h2.eq e2 e4, fun l hl => ?_, h4.same rfl (by rw [hk 5 (by omega)]) (hk 23 (by omega)) (by omega), h5.same (by rw [hk 9 (by omega)]) (hk 40 (by omega)) (by omega), ask_ag ag (hk 8 (by omega)) (hk 37 (by omega)) hN.1 hN.2 h6, h7.ag (by omega) (by rw [hk 8 (by omega)]) (by rw [hk 8 (by omega)]), fun j hj => by rw [hk 11 (by omega)]; exact h8 j (by omega), fun j hj => by rw [hk 12 (by omega)]; exact h9 j (by omega)⟩
  rw [e2] at hl
  exact laws_ag ag.1 hl (hk _ (by omega)) (by rw [hk _ (by omega)]) (by rw [hk _ (by omega)]) (h3 l hl)
theorem GC.stale {P : jP} {M M' : jM} {N : jN} {A A' : aS} {t : Nat} (h : GC P M N A t) (g : nxS A A') (hR : RelC P M' A') (e8 : M' 8 = upd (M 8) 10 1) (hk : ∀ k, k = 5 ∨ k = 9 ∨ k = 11 ∨ k = 12 ∨ k = 23 ∨ k = 40 ∨ (64 ≤ k ∧ k < 112) → M' k = M k ∨ (k = 9 ∧ M' 9 6 = M 9 6)) : GC P M' N A' (t + 1) := by
  obtain ⟨hR0, h2, h3, h4, h5, h6, h7, h8, h9⟩ := h
  obtain ⟨ag, e2, e4, -⟩ := g
  have hn := hR0.num
  unfold wfNum at hn
  have hk' : ∀ k, k = 5 ∨ k = 11 ∨ k = 12 ∨ k = 23 ∨ k = 40 ∨ (64 ≤ k ∧ k < 112) → M' k = M k := fun k hk1 => by
    rcases hk k (by omega) with z | z
    · exact z
    · omega
  have k9 : M' 9 6 = M 9 6 := by
    rcases hk 9 (by omega) with z | z
    · rw [z]
    · exact z.2
  have u : ∀ j, j ≠ 10 → M' 8 j = M 8 j := fun j hj => by rw [e8]; exact pk_un hj
  refine ⟨hR, h2.eq e2 e4, fun l hl => ?_, h4.same rfl (by rw [hk' 5 (by omega)]) (hk' 23 (by omega)) (by omega), h5.same k9 (hk' 40 (by omega)) (by omega), fun z => ?_, h7.ag (by omega) (u 6 (by omega)) (u 7 (by omega)), fun j hj => by rw [hk' 11 (by omega)]; exact h8 j (by omega), fun j hj => by rw [hk' 12 (by omega)]; exact h9 j (by omega)⟩
  · rw [e2] at hl
    exact laws_ag ag hl (hk' _ (by omega)) (by rw [hk' _ (by omega)]) (by rw [hk' _ (by omega)]) (h3 l hl)
  · rw [e8] at z
    exact absurd (show (1 : Int32) = 0 from z) (by decide)
section G11
variable {P : jP} {M : jM} {N : jN} {A : aS} {t : Nat} {a b c d e : Int32}
theorem g11_feed (h : GC P M N A t) {Q : Int32 → jM → Prop} (hq : ∀ M', GC P M' N (feedA A a b c d e) (t + 1) → Q (feedS A a b c d e) M') : w_X11_feed P a b c d e M Q :=
  s11_feed h.1 (fun M' hR g => hq M' (h.next (nxA.feed A a b c d e) hR (fun k hk => g k (by omega) (by omega)) ⟨rfl, rfl⟩))
theorem g11_end (h : GC P M N A t) {Q : Int32 → jM → Prop} (hq : ∀ M', GC P M' N (endA A a) (t + 1) → Q (endS A a) M') : w_X11_end P a M Q :=
  s11_end h.1 (fun M' hR g => hq M' (h.next (nxA.end h.1.1 a) hR (fun k hk => g k (by omega)) ⟨rfl, rfl⟩))
theorem g11_ruling (h : GC P M N A t) {Q : Int32 → jM → Prop} (hq : ∀ M', GC P M' N (rulingN A a b) (t + 1) → Q (rulingS A a b) M') : w_X11_ruling P a b M Q :=
  s11_ruling h.1 (fun M' hR g => hq M' (h.next (nxA.ruling A a b) hR (fun k hk => g k (by omega) (by omega) (by omega)) ⟨rfl, rfl⟩))
theorem g11_sort (h : GC P M N A t) {Q : Int32 → jM → Prop} (hq : ∀ M', GC P M' N (sortN A a) (t + 1) → Q (sortS A a) M') : w_X11_sort P a M Q :=
  s11_sort h.1 (fun M' hR g g8 => hq M' (h.stale (nxS.sort A a) hR g8 (fun k hk => Or.inl (g k (by omega) (by omega) (by omega)))))
theorem g11_chance (h : GC P M N A t) {Q : Int32 → jM → Prop} (hq : ∀ M', GC P M' N (chanceN A a b c) (t + 1) → Q (chanceS A a b c) M') : w_X11_chance P a b c M Q :=
  s11_chance h.1 (fun M' hR g g8 => hq M' (h.stale (nxS.chance A a b c) hR g8 (fun k hk => Or.inl (g k (by omega) (by omega)))))
theorem g11_set (h : GC P M N A t) {Q : Int32 → jM → Prop} (hq : ∀ M', GC P M' N (setA A a b c) (t + 1) → Q (setS A a b c) M') : w_X11_set P a b c M Q :=
  s11_set h.1 (fun M' hR g g8 => hq M' (h.stale (nxS.set h.1.1 a b c) hR g8 (fun k hk => Or.inl (g k (by omega) (by omega) (by omega) (by omega) (by omega)))))
theorem g11_gap (h : GC P M N A t) {Q : Int32 → jM → Prop} (hq : ∀ M', GC P M' N A (t + 1) → Q (gapS A a b c) M') : w_X11_gap P a b c M Q :=
  s11_gap h.1 (fun M' g => hq M' (h.same (by omega) (h.1.k13 g) (fun k hk => g k (by omega)) ⟨rfl, rfl⟩))
theorem g11_parts (h : GC P M N A t) {Q : Int32 → jM → Prop} (hq : ∀ M', GC P M' N A (t + 1) → Q (partsS A a b c) M') : w_X11_parts P a b c M Q :=
  s11_parts h.1 (fun M' g => hq M' (h.same (by omega) (h.1.k13 g) (fun k hk => g k (by omega)) ⟨rfl, rfl⟩))
theorem g11_apart (h : GC P M N A t) {Q : Int32 → jM → Prop} (hq : ∀ M', GC P M' N A (t + 1) → Q (apartS A a b c) M') : w_X11_apart P a b c M Q :=
  s11_apart h.1 (fun M' g => hq M' (h.same (by omega) (h.1.k13 g) (fun k hk => g k (by omega)) ⟨rfl, rfl⟩))
theorem g11_straight (h : GC P M N A t) {Q : Int32 → jM → Prop} (hq : ∀ M', GC P M' N A (t + 1) → Q (straightS A a b c) M') : w_X11_straight P a b c M Q :=
  s11_straight h.1 (fun l hl => (h.2.2.1 l hl).2.1) (fun M' g => hq M' (h.same (by omega) (h.1.keep [26] (by simp) (by intro k hk j; simp only [List.mem_cons, List.mem_nil_iff, or_false] at hk; subst hk; exact fun z => z) (fun k hk => g k (fun z => hk (by simp [z])))) (fun k hk => g k (by omega)) ⟨rfl, rfl⟩))
theorem g11_tells (h : GC P M N A t) {Q : Int32 → jM → Prop} (hq : ∀ M', GC P M' N A (t + 1) → Q (tellsS A a b) M') : w_X11_tells P a b M Q :=
  s11_tells h.1 (fun M' g => hq M' (h.same (by omega) (h.1.keep [41, 42] (by simp) (by
    intro k hk j
    simp only [List.mem_cons, List.mem_nil_iff, or_false] at hk
    rcases hk with rfl | rfl <;> exact fun z => z) (fun k hk => g k (fun z => hk (by simp [z])) (fun z => hk (by simp [z])))) (fun k hk => g k (by omega) (by omega)) ⟨rfl, rfl⟩))
theorem g11_page (h : GC P M N A t) (ht : t < 4000) {Q : Int32 → jM → Prop} (hq : ∀ M', GC P M' N A (t + 1) → Q (pageS A a) M') : w_X11_page P a M Q := by
  have hn := h.1.num
  unfold wfNum at hn
  refine s11_page h.1 h.2.2.2.2.1 (by omega) (fun M' g hm => hq M' ?_)
  have gk : ∀ k, k ≠ 9 → k ≠ 40 → M' k = M k := fun k a b => funext fun j => g k j (fun z => a z.1) b
  have hR : RelC P M' A := h.1.agree (fun k j hk => by
    refine g k j (fun z => ?_) (fun z => ?_)
    · obtain ⟨rfl, rfl⟩ := z
      exact absurd (show 6 = 0 from hk) (by omega)
    · subst z
      exact hk) (fun k j hk => by
    have := pCd_ge hk
    rw [gk k (by omega) (by omega)])
  obtain ⟨-, h2, h3, h4, h5, h6, h7, h8, h9⟩ := h
  exact ⟨hR, h2, fun l hl => laws_ag (agl.rfl' A) hl (gk _ (by omega) (by omega)) (by rw [gk _ (by omega) (by omega)]) (by rw [gk _ (by omega) (by omega)]) (h3 l hl), h4.same rfl (by rw [gk 5 (by omega) (by omega)]) (gk 23 (by omega) (by omega)) (by omega), hm.mono (by omega), ask_ag (agA.rfl' A) (gk 8 (by omega) (by omega)) (gk 37 (by omega) (by omega)) rfl rfl h6, h7.ag (Nat.le_refl _) (by rw [gk 8 (by omega) (by omega)]) (by rw [gk 8 (by omega) (by omega)]), fun j hj => by rw [gk 11 (by omega) (by omega)]; exact h8 j hj, fun j hj => by rw [gk 12 (by omega) (by omega)]; exact h9 j hj⟩
theorem GC.asked {M' : jM} {N' : jN} (h : GC P M N A t) (g : ∀ k, k ≠ 8 → k ≠ 37 → M' k = M k) (hA : AskOK M' N' A) (hr : RefOK M A → RefOK M' A) : GC P M' N' A (t + 1) := by
  obtain ⟨hR, h2, h3, h4, h5, h6, h7, h8, h9⟩ := h
  have hn := hR.num
  unfold wfNum at hn
  exact ⟨hR.k37 g, h2, fun l hl => laws_ag (agl.rfl' A) hl (g _ (by omega) (by omega)) (by rw [g _ (by omega) (by omega)]) (by rw [g _ (by omega) (by omega)]) (h3 l hl), h4.same rfl (by rw [g 5 (by omega) (by omega)]) (g 23 (by omega) (by omega)) (by omega), h5.same (by rw [g 9 (by omega) (by omega)]) (g 40 (by omega) (by omega)) (by omega), hA, hr h7, fun j hj => by rw [g 11 (by omega) (by omega)]; exact h8 j hj, fun j hj => by rw [g 12 (by omega) (by omega)]; exact h9 j hj⟩
theorem g11_mean (h : GC P M N A t) {Q : Int64 → jM → jN → Prop} (hq : ∀ M' N', GC P M' N' A (t + 1) → Q (meanS A a b c d) M' N') : w_X11_mean P a b c d M N Q :=
  s11_mean h.1 (fun l hl => (h.2.2.1 l hl).1) h.2.2.2.2.2.1 (fun M' N' g hA hr => hq M' N' (h.asked g hA hr))
theorem g11_worst (h : GC P M N A t) {Q : Int32 → jM → jN → Prop} (hq : ∀ M' N', GC P M' N' A (t + 1) → Q (worstS A a b c d) M' N') : w_X11_worst P a b c d M N Q :=
  s11_worst h.1 (fun l hl => (h.2.2.1 l hl).1) h.2.2.2.2.2.1 (fun M' N' g hA hr => hq M' N' (h.asked g hA hr))
theorem g11_best (h : GC P M N A t) {Q : Int32 → jM → jN → Prop} (hq : ∀ M' N', GC P M' N' A (t + 1) → Q (bestS A a b c d e) M' N') : w_X11_best P a b c d e M N Q :=
  s11_best h.1 (fun l hl => (h.2.2.1 l hl).1) h.2.2.2.2.2.1 (fun M' N' g hA hr => hq M' N' (h.asked g hA hr))
theorem g11_off (h : GC P M N A t) {Q : Int64 → jN → Prop} (hq : ∀ N', GC P M N' A (t + 1) → Q (offS A a b c) N') : w_X11_off P a b c M N Q :=
  s11_off h.1 (fun N' g => hq N' (h.same (by omega) h.1 (fun _ _ => rfl) ⟨g 35 (by omega), g 36 (by omega)⟩))
theorem g11_weak (h : GC P M N A t) {Q : Int32 → jN → Prop} (hq : ∀ N', GC P M N' A (t + 1) → Q (weakS A a b) N') : w_X11_weak P a b M N Q :=
  s11_weak h.1 (fun N' g => hq N' (h.same (by omega) h.1 (fun _ _ => rfl) ⟨g 35 (by omega), g 36 (by omega)⟩))
theorem g11_chart (h : GC P M N A t) (ht : t < 4000) {Q : Int32 → jM → Prop} (hq : ∀ M', GC P M' N A (t + 1) → Q (chartS A a b c) M') : w_X11_chart P a b c M Q := by
  have hn := h.1.num
  unfold wfNum at hn
  refine s11_chart h.1 (fun l hl => (h.2.2.1 l hl).2.1) (fun l hl => (h.2.2.1 l hl).2.2.1) h.2.2.2.1 (by omega) (fun M' g g5 gS => hq M' ?_)
  have hR : RelC P M' A := h.1.agree (fun k j hk => by
    by_cases k5 : k = 5
    · subst k5
      have hj : j = 1 := hk
      exact g5 j (by omega)
    · refine congrFun (g k k5 (fun z => ?_) (fun z => ?_)) j
      · subst z; exact hk
      · subst z; exact hk) (fun k j hk => by
    have := pCd_ge hk
    rw [g k (by omega) (by omega) (by omega)])
  obtain ⟨-, h2, h3, h4, h5, h6, h7, h8, h9⟩ := h
  have gk : ∀ k, k ≠ 5 → k ≠ 23 → k ≠ 26 → M' k = M k := g
  refine ⟨hR, h2, fun l hl => laws_ag (agl.rfl' A) hl (gk _ (by omega) (by omega) (by omega)) (by rw [gk _ (by omega) (by omega) (by omega)]) (by rw [gk _ (by omega) (by omega) (by omega)]) (h3 l hl), ?_, h5.same (by rw [gk 9 (by omega) (by omega) (by omega)]) (gk 40 (by omega) (by omega) (by omega)) (by omega), ask_ag (agA.rfl' A) (gk 8 (by omega) (by omega) (by omega)) (gk 37 (by omega) (by omega) (by omega)) rfl rfl h6, h7.ag (Nat.le_refl _) (by rw [gk 8 (by omega) (by omega) (by omega)]) (by rw [gk 8 (by omega) (by omega) (by omega)]), fun j hj => by rw [gk 11 (by omega) (by omega) (by omega)]; exact h8 j hj, fun j hj => by rw [gk 12 (by omega) (by omega) (by omega)]; exact h9 j hj⟩
  obtain ⟨s, s1, s2, s3⟩ := gS
  exact ⟨s, by omega, s2, s3⟩
theorem g11_least (h : GC P M N A t) (ht : t < 4000) {Q : Int32 → jM → Prop} (hq : ∀ M', GC P M' N A (t + 1) → Q (leastS A a b) M') : w_X11_least P a b M Q := by
  have hn := h.1.num
  unfold wfNum at hn
  refine s11_least h.1 (fun l hl => (h.2.2.1 l hl).2.1) (fun l hl => (h.2.2.1 l hl).2.2.1) (fun l hl => (h.2.2.1 l hl).2.2.2) h.2.2.2.1 (by omega) (hq M h.later) (fun l M' hl g gS gL => hq M' ?_)
  obtain ⟨hR0, h2, h3, h4, h5, h6, h7, h8, h9⟩ := h
  obtain ⟨g1, g5, gl⟩ := g
  have hR : RelC P M' A := hR0.agree (fun k j hk => by
    by_cases k5 : k = 5
    · subst k5
      have hj : j = 1 := hk
      exact g5 j (by omega)
    · have hk2 := pCs_key hk
      exact congrFun (g1 k k5 (by omega) (by omega) (by omega)) j) (fun k j hk => by
    have := pCd_ge hk
    by_cases kl : k = 64 + 8 * l
    · subst kl
      unfold pCd at hk
      have j0 : j = 0 := by omega
      exact gl j (by omega) (by omega)
    · rw [g1 k (by omega) (by omega) (by omega) kl])
  refine ⟨hR, h2, fun q hq2 => ?_, ?_, h5.same (by rw [g1 9 (by omega) (by omega) (by omega) (by omega)]) (g1 40 (by omega) (by omega) (by omega) (by omega)) (by omega), ask_ag (agA.rfl' A) (g1 8 (by omega) (by omega) (by omega) (by omega)) (g1 37 (by omega) (by omega) (by omega) (by omega)) rfl rfl h6, h7.ag (Nat.le_refl _) (by rw [g1 8 (by omega) (by omega) (by omega) (by omega)]) (by rw [g1 8 (by omega) (by omega) (by omega) (by omega)]), fun j hj => by rw [g1 11 (by omega) (by omega) (by omega) (by omega)]; exact h8 j hj, fun j hj => by rw [g1 12 (by omega) (by omega) (by omega) (by omega)]; exact h9 j hj⟩
  · have e4 : M' (64 + 8 * q + 4) = M (64 + 8 * q + 4) := g1 _ (by omega) (by omega) (by omega) (by omega)
    by_cases z : q = l
    · subst z
      obtain ⟨y1, y2, y3, -⟩ := h3 q hq2
      refine ⟨?_, ?_, ?_, gL⟩
      · unfold WayS; rw [e4]; exact y1
      · unfold WayE; rw [e4]; exact y2
      · unfold WayB; rw [e4]; exact y3
    · exact laws_ag (agl.rfl' A) hq2 e4 (by rw [g1 _ (by omega) (by omega) (by omega) (by omega)]) (by rw [g1 _ (by omega) (by omega) (by omega) (by omega)]) (h3 q hq2)
  · obtain ⟨s, s1, s2, s3⟩ := gS
    exact ⟨s, by omega, s2, s3⟩
end G11
