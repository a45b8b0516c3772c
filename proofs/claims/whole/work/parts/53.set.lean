/-! set: both sides -/
def setK (w : Int32) : Nat := if w = 0 then 12 else if w = 1 then 13 else if w = 2 then 15 else 16
abbrev okE (A : aS) (w a v : Int32) : Prop := (w = 0 ∧ okN A a ∧ ¬ v < 1 ∧ ¬ 99 < v) ∨ (w = 1 ∧ okQ A a ∧ ¬ v < 1 ∧ ¬ 99 < v) ∨ (w = 2 ∧ okN A a ∧ ¬ v < 0 ∧ ¬ 1 < v) ∨ (w = 3 ∧ okN A a ∧ ¬ v < 0 ∧ ¬ 10 < v)
def setA (A : aS) (w a v : Int32) : aS := if okE A w a v then tabA A (setK w) a.toNatClampNeg v else A
def setS (A : aS) (w a v : Int32) : Int32 := bi (okE A w a v)
theorem tabS_wf {A : aS} (h : wfA A) {k j : Nat} {v : Int32} (hk : (k = 12 ∧ ¬ v < 1 ∧ ¬ 99 < v) ∨ (k = 13 ∧ ¬ v < 1 ∧ ¬ 99 < v) ∨ (k = 15 ∧ ¬ v < 0 ∧ ¬ 1 < v) ∨ (k = 16 ∧ ¬ v < 0 ∧ ¬ 10 < v)) : wfA (tabA A k j v) := by
  obtain ⟨n, hd, hl, hf, hs, hp, hu⟩ := h
  have ne : k ≠ 1 ∧ k ≠ 4 ∧ k ≠ 5 ∧ k ≠ 6 ∧ k ≠ 7 ∧ k ≠ 8 ∧ k ≠ 9 ∧ k ≠ 10 ∧ k ≠ 11 ∧ k ≠ 14 ∧ k ≠ 17 ∧ k ≠ 18 ∧ k ≠ 28 ∧ k ≠ 29 := by omega
  have R : ∀ a, a ≠ k → (tabA A k j v).2 a = A.2 a := fun a z => tab_ne z
  refine ⟨n, ?_, wfLaws_of hl rfl rfl (R _ (by omega)) (R _ (by omega)) (R _ (by omega)) (R _ (by omega)), wfForms_of hf rfl rfl (R _ (by omega)) (R _ (by omega)) (R _ (by omega)) (R _ (by omega)), ?_, ?_, wfRules_of hu rfl rfl (R _ (by omega)) (R _ (by omega))⟩
  · unfold wfHead at hd ⊢
    rw [R 1 (by omega)]
    exact hd
  · obtain ⟨s1, s2, s3, s4, s5⟩ := hs
    refine ⟨fun f hf => ?_, fun q hq => ?_, fun q hq c hc => ?_, fun f hf => ?_, fun f hf => ?_⟩
    · by_cases e : 12 = k
      · subst e
        rw [tab_at]
        by_cases e2 : f = j
        · rw [if_pos e2]
          obtain ⟨z1, z2⟩ : ¬ v < 1 ∧ ¬ 99 < v := by
            rcases hk with z | z | z | z
            · exact z.2
            all_goals exact absurd z.1 (by omega)
          obtain ⟨x, x1, x2, x3⟩ := in_pos (lo := 1) (hi := 99) (by omega) z1 z2 (by omega)
          exact ⟨x, x1, x2, x3⟩
        · rw [if_neg e2]; exact s1 f hf
      · rw [R _ e]; exact s1 f hf
    · by_cases e : 13 = k
      · subst e
        rw [tab_at]
        by_cases e2 : q = j
        · rw [if_pos e2]
          obtain ⟨z1, z2⟩ : ¬ v < 1 ∧ ¬ 99 < v := by
            rcases hk with z | z | z | z
            · exact absurd z.1 (by omega)
            · exact z.2
            all_goals exact absurd z.1 (by omega)
          obtain ⟨x, x1, x2, x3⟩ := in_pos (lo := 1) (hi := 99) (by omega) z1 z2 (by omega)
          exact ⟨x, x1, x2, x3⟩
        · rw [if_neg e2]; exact s2 q hq
      · rw [R _ e]; exact s2 q hq
    · rw [R _ (by omega)]; exact s3 q hq c hc
    · by_cases e : 15 = k
      · subst e
        rw [tab_at]
        by_cases e2 : f = j
        · rw [if_pos e2]
          obtain ⟨z1, z2⟩ : ¬ v < 0 ∧ ¬ 1 < v := by
            rcases hk with z | z | z | z
            · exact absurd z.1 (by omega)
            · exact absurd z.1 (by omega)
            · exact z.2
            · exact absurd z.1 (by omega)
          obtain ⟨x, x1, x2, x3⟩ := in_pos (lo := 0) (hi := 1) (by omega) z1 z2 (by omega)
          rcases (show x = 0 ∨ x = 1 by omega) with y | y
          · exact Or.inl (by rw [x3, y]; rfl)
          · exact Or.inr (by rw [x3, y]; rfl)
        · rw [if_neg e2]; exact s4 f hf
      · rw [R _ e]; exact s4 f hf
    · by_cases e : 16 = k
      · subst e
        rw [tab_at]
        by_cases e2 : f = j
        · rw [if_pos e2]
          obtain ⟨z1, z2⟩ : ¬ v < 0 ∧ ¬ 10 < v := by
            rcases hk with z | z | z | z
            · exact absurd z.1 (by omega)
            · exact absurd z.1 (by omega)
            · exact absurd z.1 (by omega)
            · exact z.2
          obtain ⟨x, x1, x2, x3⟩ := in_pos (lo := 0) (hi := 10) (by omega) z1 z2 (by omega)
          exact ⟨x, x2, x3⟩
        · rw [if_neg e2]; exact s5 f hf
      · rw [R _ e]; exact s5 f hf
  · unfold wfPeople at hp ⊢
    rw [R 17 (by omega), R 18 (by omega)]
    exact hp
theorem okE_wf {A : aS} (h : wfA A) {w a v : Int32} (ok : okE A w a v) : wfA (tabA A (setK w) a.toNatClampNeg v) := by
  refine tabS_wf h ?_
  rcases ok with ⟨rfl, z⟩ | ⟨rfl, z⟩ | ⟨rfl, z⟩ | ⟨rfl, z⟩
  · exact Or.inl ⟨rfl, z.2⟩
  · exact Or.inr (Or.inl ⟨rfl, z.2⟩)
  · exact Or.inr (Or.inr (Or.inl ⟨rfl, z.2⟩))
  · exact Or.inr (Or.inr (Or.inr ⟨rfl, z.2⟩))
theorem s12_set {P : jP} {M : jM} {A : aS} (h : RelM M A) {w a v : Int32} {Q : Int32 → jM → Prop} (hq : ∀ M', RelM M' (setA A w a v) → Q (setS A w a v) M') : w_X12_set P w a v M Q := by
  unfold w_X12_set
  have h0 := h.thr 0
  generalize upM M 1 0 0 = M0 at h0 ⊢
  have h6 := h0.num
  unfold wfNum at h6
  have bad : ¬ okE A w a v → Q 0 M0 := fun z => by
    have := hq M0 (by rw [setA, if_neg z]; exact h0)
    rw [setS, bi_f z] at this; exact this
  have good : okE A w a v → Q 1 (upM M0 (setK w) a.toNatClampNeg v) := fun z => by
    have := hq _ (by rw [setA, if_pos z]; exact h0.tab (okE_wf h0.1 z))
    rw [setS, bi_t z] at this; exact this
  refine s12_isIn (br_i (fun hn => bad (fun z => ?_)) (fun hw => ?_))
  · apply hn
    rcases z with ⟨rfl, -⟩ | ⟨rfl, -⟩ | ⟨rfl, -⟩ | ⟨rfl, -⟩ <;> decide
  · intro R40 h40
    have four : w = 0 ∨ w = 1 ∨ w = 2 ∨ w = 3 := by
      obtain ⟨x, -, x2, x3⟩ := in_pos (lo := 0) (hi := 3) (by omega) hw.1 hw.2 (by omega)
      subst x3
      rcases (show x = 0 ∨ x = 1 ∨ x = 2 ∨ x = 3 by omega) with rfl | rfl | rfl | rfl
      · exact Or.inl rfl
      · exact Or.inr (Or.inl rfl)
      · exact Or.inr (Or.inr (Or.inl rfl))
      · exact Or.inr (Or.inr (Or.inr rfl))
    rcases four with rfl | rfl | rfl | rfl
    · refine bn_f (by decide) (s12_isFactNumber h0 (br_j (fun ha => h40 ?_) (fun hn => bad (fun z => ?_))))
      · intro R79 h79
        refine br_f (by decide) (s12_isIn (br_i (fun hn => bad (fun z => ?_)) (fun hv => h79 ?_)))
        · rcases z with z | z | z | z
          · exact hn z.2.2
          all_goals exact absurd z.1 (by decide)
        · have g := good (Or.inl ⟨rfl, ha, hv⟩)
          obtain ⟨f, hf, hf9, rfl⟩ := okN_of h0 ha
          intro R90 h90
          refine ⟨fun z => absurd rfl z, fun _ => ⟨vin hf9 (by omega), h90 _ ?_⟩⟩
          intro R102 h102
          refine ⟨fun _ => h102 _ ?_, fun z => absurd z (by decide)⟩
          intro R123 h123
          exact ⟨fun _ => h123 _ ⟨fun _ => g, fun z => absurd z (by decide)⟩, fun z => absurd z (by decide)⟩
      · rcases z with z | z | z | z
        · exact hn z.2.1
        all_goals exact absurd z.1 (by decide)
    · refine bn_t rfl (s12_isQuestion h0 (br_j (fun ha => h40 ?_) (fun hn => bad (fun z => ?_))))
      · intro R79 h79
        refine br_f (by decide) (s12_isIn (br_i (fun hn => bad (fun z => ?_)) (fun hv => h79 ?_)))
        · rcases z with z | z | z | z
          · exact absurd z.1 (by decide)
          · exact hn z.2.2
          all_goals exact absurd z.1 (by decide)
        · have g := good (Or.inr (Or.inl ⟨rfl, ha, hv⟩))
          obtain ⟨f, hf, hf9, rfl⟩ := okQ_of h0 ha
          intro R90 h90
          refine ⟨fun _ => h90 _ ?_, fun z => absurd z (by decide)⟩
          intro R102 h102
          refine ⟨fun z => absurd rfl z, fun _ => ⟨vin hf9 (by omega), h102 _ ?_⟩⟩
          intro R123 h123
          exact ⟨fun _ => h123 _ ⟨fun _ => g, fun z => absurd z (by decide)⟩, fun z => absurd z (by decide)⟩
      · rcases z with z | z | z | z
        · exact absurd z.1 (by decide)
        · exact hn z.2.1
        all_goals exact absurd z.1 (by decide)
    · refine bn_f (by decide) (s12_isFactNumber h0 (br_j (fun ha => h40 ?_) (fun hn => bad (fun z => ?_))))
      · intro R79 h79
        refine br_t (by decide) ?_
        intro R71 h71
        refine ⟨fun z => absurd rfl z, fun _ => h71 _ _ (s12_isIn (br_j (fun hv => h79 ?_) (fun hn => bad (fun z => ?_))))⟩
        · have g := good (Or.inr (Or.inr (Or.inl ⟨rfl, ha, hv⟩)))
          obtain ⟨f, hf, hf9, rfl⟩ := okN_of h0 ha
          obtain ⟨x, -, x2, x3⟩ := in_pos (lo := 0) (hi := 1) (by omega) hv.1 hv.2 (by omega)
          intro R90 h90
          refine ⟨fun _ => h90 _ ?_, fun z => absurd z (by decide)⟩
          intro R102 h102
          refine ⟨fun _ => h102 _ ?_, fun z => absurd z (by decide)⟩
          intro R123 h123
          refine ⟨fun z => absurd rfl z, fun _ => ?_⟩
          intro R122 h122
          have fin : jb v → R122 v := fun jv => h122 _ ⟨vin hf9 (by omega), jv, h123 _ ⟨fun _ => g, fun z => absurd z (by decide)⟩⟩
          rcases (show x = 0 ∨ x = 1 by omega) with y | y
          · have e : v = 0 := by rw [x3, y]; rfl
            subst e
            exact bn_f (by decide) (fin jb_0)
          · have e : v = 1 := by rw [x3, y]; rfl
            subst e
            exact bn_t rfl (fin jb_1)
        · rcases z with z | z | z | z
          · exact absurd z.1 (by decide)
          · exact absurd z.1 (by decide)
          · exact hn z.2.2
          · exact absurd z.1 (by decide)
      · rcases z with z | z | z | z
        · exact absurd z.1 (by decide)
        · exact absurd z.1 (by decide)
        · exact hn z.2.1
        · exact absurd z.1 (by decide)
    · refine bn_f (by decide) (s12_isFactNumber h0 (br_j (fun ha => h40 ?_) (fun hn => bad (fun z => ?_))))
      · intro R79 h79
        refine br_t (by decide) ?_
        intro R71 h71
        refine ⟨fun _ => h71 _ _ (s12_isIn (br_j (fun hv => h79 ?_) (fun hn => bad (fun z => ?_)))), fun z => absurd z (by decide)⟩
        · have g := good (Or.inr (Or.inr (Or.inr ⟨rfl, ha, hv⟩)))
          obtain ⟨f, hf, hf9, rfl⟩ := okN_of h0 ha
          intro R90 h90
          refine ⟨fun _ => h90 _ ?_, fun z => absurd z (by decide)⟩
          intro R102 h102
          refine ⟨fun _ => h102 _ ?_, fun z => absurd z (by decide)⟩
          intro R123 h123
          exact ⟨fun _ => h123 _ ⟨fun z => absurd rfl z, fun _ => ⟨vin hf9 (by omega), g⟩⟩, fun z => absurd z (by decide)⟩
        · rcases z with z | z | z | z
          · exact absurd z.1 (by decide)
          · exact absurd z.1 (by decide)
          · exact absurd z.1 (by decide)
          · exact hn z.2.2
      · rcases z with z | z | z | z
        · exact absurd z.1 (by decide)
        · exact absurd z.1 (by decide)
        · exact absurd z.1 (by decide)
        · exact hn z.2.1
