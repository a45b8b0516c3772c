/-! KEEPING: the class's side, a law made -/
theorem PR.any (P : jP) : PR P ((List.range 1000).filter (fun k => P.2.1 k)) := by
  intro k hk
  rw [List.mem_filter, List.mem_range]
  exact ⟨fun h => ⟨hk, h⟩, fun h => h.2⟩
theorem kob_law {l : Nat} (hl : l < 6) : kob (64 + 8 * l) = some (4, [0, 64 + 8 * l + 1, 64 + 8 * l + 2, 64 + 8 * l + 3, 64 + 8 * l + 4, 0, 0]) := by
  unfold kob
  rw [if_pos (by rw [Nat.ble_eq]; omega), if_pos]
  simp only [Bool.and_eq_true, Nat.ble_eq, Nat.blt_eq]
  exact ⟨⟨by omega, by omega⟩, by rw [show (64 + 8 * l) % 8 = 0 by omega]; rfl⟩
theorem kob_lrow {l r : Nat} (hl : l < 6) (h1 : 1 ≤ r) (h4 : r ≤ 4) : kob (64 + 8 * l + r) = none := by
  unfold kob
  rw [if_pos (by rw [Nat.ble_eq]; omega), if_neg, if_neg]
  · simp only [Bool.and_eq_true, Nat.ble_eq, Nat.blt_eq]
    omega
  · simp only [Bool.and_eq_true, Nat.ble_eq, Nat.blt_eq]
    intro z
    have := Nat.eq_of_beq_eq_true z.2
    omega
theorem cIA_law {P : jP} {l r : Nat} (hl : l < 6) (h1 : 1 ≤ r) (h4 : r ≤ 4) (hp : P.2.1 (64 + 8 * l + r) = true) : cIA P (64 + 8 * l + r) = some (if r = 1 then 12 else if r = 4 then P.2.2 2 else P.2.2 1) := by
  unfold cIA
  rw [if_neg (by omega), if_pos (by omega), hp]
  have : r = 1 ∨ r = 2 ∨ r = 3 ∨ r = 4 := by omega
  rcases this with rfl | rfl | rfl | rfl
  · rw [show (64 + 8 * l + 1) % 8 = 1 by omega]; rfl
  · rw [show (64 + 8 * l + 2) % 8 = 2 by omega]; rfl
  · rw [show (64 + 8 * l + 3) % 8 = 3 by omega]; rfl
  · rw [show (64 + 8 * l + 4) % 8 = 4 by omega]; rfl
theorem i_X4 {P : jP} {M : jM} {N : jN} {l n : Nat} {S : List Nat} {a1 : Int32} (hl : l < 6) (hS : PR P S) (h0 : 64 + 8 * l ∈ S) (hno : ∀ r, 1 ≤ r → r ≤ 4 → 64 + 8 * l + r ∉ S) (hW : WR P M) (z1 : P.2.2 1 = 2 ^ n) (z2 : P.2.2 2 = 3 ^ n) (h9 : n ≤ 9) {Q : jP → jM → jN → Prop}
    (hq : ∀ P' M' N', PR P' ((64 + 8 * l + 4) :: (64 + 8 * l + 3) :: (64 + 8 * l + 2) :: (64 + 8 * l + 1) :: S) → P'.2.2 = P.2.2 → (∀ k, ¬ (64 + 8 * l ≤ k ∧ k ≤ 64 + 8 * l + 4) → M' k = M k) → (∀ k, ¬ (64 + 8 * l ≤ k ∧ k ≤ 64 + 8 * l + 4) → N' k = N k) → M' (64 + 8 * l) 0 = a1 → M' (64 + 8 * l) 5 = -1 → (∀ j, 1 ≤ j → j ≤ 4 → M' (64 + 8 * l) j = 1) → Q P' M' N') : w_X4_init P (64 + 8 * l) a1 (nI (2 ^ n)) (nI (3 ^ n)) M N Q := by
  have C := two_le h9
  have C3 : 3 ^ n ≤ 3 ^ 9 := Nat.pow_le_pow_right (by omega) h9
  have C9 : (3 : Nat) ^ 9 = 19683 := by decide
  have ar : ∀ r, 1 ≤ r → r ≤ 4 → ∀ (P : jP) (tA : Nat → ClassId) (f : Nat → Int32) (h : Nat → Int64), P.2.1 (64 + 8 * l + r) = true → LC tA P (64 + 8 * l + r) f h = some (.inl (tA 0, if r = 1 then 12 else if r = 4 then P.2.2 2 else P.2.2 1, .inl f)) := fun r a b P tA f h hp => LC_ia (cIA_law hl a b hp) tA f h
  have ob := kob_law hl
  have rd : ∀ j, 1 ≤ j → j ≤ 4 → refD (64 + 8 * l) j = 64 + 8 * l + j := by
    intro j a b
    have : j = 1 ∨ j = 2 ∨ j = 3 ∨ j = 4 := by omega
    rcases this with rfl | rfl | rfl | rfl
    · exact refD_ob ob (j := 1) rfl
    · exact refD_ob ob (j := 2) rfl
    · exact refD_ob ob (j := 3) rfl
    · exact refD_ob ob (j := 4) rfl
  unfold w_X4_init
  refine ⟨hS.yes _ (by omega) h0, ob, by omega, kob_lrow hl (by omega) (by omega), ar 1 (by omega) (by omega), kob_lrow hl (by omega) (by omega), ar 2 (by omega) (by omega), kob_lrow hl (by omega) (by omega), ar 3 (by omega) (by omega), kob_lrow hl (by omega) (by omega), ar 4 (by omega) (by omega), hW.free (hS.no (64 + 8 * l + 1) (by omega) (hno 1 (by omega) (by omega))), ?_⟩
  intro b11 P12 e12 M18 e18 M19 e19
  have S12 := hS.new (64 + 8 * l + 1) b11
  have w12 := ((((hW.new (a := b11) (show 64 + 8 * l + 1 ≠ 30 by omega)).upr (k := 64 + 8 * l) (j := 1) (v := 1) (rd 1 (by omega) (by omega)) (by omega) (pnew_at _ _ _).1).upi (k := 64 + 8 * l) (j := 5) (v := -1) (refD_ob ob (j := 5) rfl)).upi (k := 64 + 8 * l) (j := 6) (v := -1) (refD_ob ob (j := 6) rfl)).upi (k := 64 + 8 * l) (j := 0) (v := a1) (refD_ob ob (j := 0) rfl)
  rw [← e12] at S12 w12
  rw [← e18, ← e19] at w12
  have z12 : P12.2.2 = P.2.2 := by rw [e12]; rfl
  have n2 : ∀ r, 2 ≤ r → r ≤ 4 → 64 + 8 * l + r ∉ (64 + 8 * l + 1) :: S := fun r a b z => (List.mem_cons.mp z).elim (fun y => by omega) (hno r (by omega) b)
  refine ⟨w12.free (S12.no (64 + 8 * l + 2) (by omega) (n2 2 (by omega) (by omega))), by rw [z12, z1], by rw [z12, z1]; exact C, ?_⟩
  intro b23 P24 e24 N31 e31 M32 e32
  have S24 := S12.new (64 + 8 * l + 2) b23
  have w24 := (w12.new (a := b23) (show 64 + 8 * l + 2 ≠ 30 by omega)).upr (k := 64 + 8 * l) (j := 2) (v := 1) (rd 2 (by omega) (by omega)) (by omega) (pnew_at _ _ _).1
  rw [← e24] at S24 w24
  rw [← e32] at w24
  have z24 : P24.2.2 = P.2.2 := by rw [e24]; exact z12
  have n3 : ∀ r, 3 ≤ r → r ≤ 4 → 64 + 8 * l + r ∉ (64 + 8 * l + 2) :: (64 + 8 * l + 1) :: S := fun r a b z => (List.mem_cons.mp z).elim (fun y => by omega) (n2 r (by omega) b)
  refine ⟨w24.free (S24.no (64 + 8 * l + 3) (by omega) (n3 3 (by omega) (by omega))), by rw [z24, z1], by rw [z24, z1]; exact C, ?_⟩
  intro b36 P37 e37 M45 e45
  have S37 := S24.new (64 + 8 * l + 3) b36
  have w37 := (w24.new (a := b36) (show 64 + 8 * l + 3 ≠ 30 by omega)).upr (k := 64 + 8 * l) (j := 3) (v := 1) (rd 3 (by omega) (by omega)) (by omega) (pnew_at _ _ _).1
  rw [← e37] at S37 w37
  rw [← e45] at w37
  have z37 : P37.2.2 = P.2.2 := by rw [e37]; exact z24
  refine ⟨w37.free (S37.no (64 + 8 * l + 4) (by omega) (fun z => (List.mem_cons.mp z).elim (fun y => by omega) (n3 4 (by omega) (by omega)))), by rw [z37, z2], by rw [z37, z2]; omega, ?_⟩
  intro b49 P50 e50 N59 e59 M60 e60
  have S50 := S37.new (64 + 8 * l + 4) b49
  rw [← e50] at S50
  refine hq P50 M60 N59 S50 (by rw [e50]; exact z37) (fun k hk => ?_) (fun k hk => ?_) ?_ ?_ (fun j a b => ?_)
  · rw [e60, upM_ne _ _ _ (by omega), zM_ne (by omega), e45, upM_ne _ _ _ (by omega), zM_ne (by omega), e32, upM_ne _ _ _ (by omega), zM_ne (by omega), e19, upM_ne _ _ _ (by omega), upM_ne _ _ _ (by omega), e18, upM_ne _ _ _ (by omega), upM_ne _ _ _ (by omega), zM_ne (by omega)]
  · have zn : ∀ (N : jN) (g : Nat), k ≠ g → zN N g k = N k := fun N g h => if_neg h
    rw [e59, zn _ _ (by omega), zn _ _ (by omega), e31, zn _ _ (by omega), zn _ _ (by omega)]
  · rw [e60, up_at, if_neg (by omega), zM_ne (by omega), e45, up_at, if_neg (by omega), zM_ne (by omega), e32, up_at, if_neg (by omega), zM_ne (by omega), e19, up_at, if_pos rfl]
  · rw [e60, up_at, if_neg (by omega), zM_ne (by omega), e45, up_at, if_neg (by omega), zM_ne (by omega), e32, up_at, if_neg (by omega), zM_ne (by omega), e19, up_at, if_neg (by omega), up_at, if_neg (by omega), e18, up_at, if_pos rfl]
  · have : j = 1 ∨ j = 2 ∨ j = 3 ∨ j = 4 := by omega
    rcases this with rfl | rfl | rfl | rfl
    · rw [e60, up_at, if_neg (by omega), zM_ne (by omega), e45, up_at, if_neg (by omega), zM_ne (by omega), e32, up_at, if_neg (by omega), zM_ne (by omega), e19, up_at, if_neg (by omega), up_at, if_neg (by omega), e18, up_at, if_neg (by omega), up_at, if_pos rfl]
    · rw [e60, up_at, if_neg (by omega), zM_ne (by omega), e45, up_at, if_neg (by omega), zM_ne (by omega), e32, up_at, if_pos rfl]
    · rw [e60, up_at, if_neg (by omega), zM_ne (by omega), e45, up_at, if_pos rfl]
    · rw [e60, up_at, if_pos rfl]
/-! THE WHOLE STATE of the class -/
/-- just what stands of the class is there -/
def presX (P : jP) (A : aS) : Prop := ∀ k, k < 1000 → (P.2.1 k = true ↔ (1 ≤ k ∧ k ≤ 44) ∨ (64 ≤ k ∧ k < 64 + 8 * A.1 2 ∧ (k - 64) % 8 ≤ 4) ∨ (128 ≤ k ∧ k < 132 + 4 * A.1 4))
def GC (P : jP) (M : jM) (N : jN) (A : aS) (t : Nat) : Prop := RelC P M A ∧ presX P A ∧ (∀ l, l < A.1 2 → WayS M A l ∧ WayE M A l ∧ WayB M A l ∧ LeastOK M A l) ∧ StampOK P M (6000 * t) ∧ MkOK M (1024 * t) ∧ AskOK M N A ∧ RefOK M A ∧ (∀ j, A.1 2 ≤ j → M 11 j = 0) ∧ ∀ j, A.1 4 ≤ j → M 12 j = 0
def wfX (A : aS) : Prop := wfT A ∧ ∀ q, A.1 3 ≤ q → q < 10 → A.2 13 q = 1
theorem presX.presK {P : jP} {A : aS} (h : presX P A) : presK P := fun k a b => (h k (by omega)).mpr (Or.inl ⟨a, b⟩)
theorem fM_no {M : jM} {k j : Nat} (h : rsl k j = false) : fM M k j = M k j := if_neg (by rw [h]; decide)
theorem fM_nob {M : jM} {k : Nat} (h : kob k = none) : fM M k = M k := by
  funext j
  refine fM_no ?_
  unfold rsl
  rw [h]
/-- what the class's tables speak of is there -/
theorem GC.wr {P : jP} {M : jM} {N : jN} {A : aS} {t : Nat} (h : GC P M N A t) : WR P (fM M) := by
  obtain ⟨hR, hX, -, -, -, -, hRef, h11, h12⟩ := h
  have h6 := hR.num
  unfold wfNum at h6
  refine ⟨fun k j hk hp => ?_, fun _ i a b => (hX i (by omega)).mpr (Or.inl ⟨by omega, by omega⟩)⟩
  have yes : ∀ d, 1 ≤ d → d ≤ 44 → P.2.1 d = true := fun d a b => (hX d (by omega)).mpr (Or.inl ⟨a, b⟩)
  have lawY : ∀ l r, l < A.1 2 → r ≤ 4 → P.2.1 (64 + 8 * l + r) = true := fun l r a b => (hX _ (by omega)).mpr (Or.inr (Or.inl ⟨by omega, by omega, by omega⟩))
  have frmY : ∀ f, f ≤ A.1 4 → P.2.1 (128 + 4 * f) = true := fun f a => (hX _ (by omega)).mpr (Or.inr (Or.inr ⟨by omega, by omega⟩))
  rcases (hX k hk).mp hp with z | z | z
  · -- the static keys
    by_cases k11 : k = 11
    · subst k11
      rw [fM_nob rfl]
      by_cases hj : j < A.1 2
      · refine Or.inr (Or.inr (Or.inr (Or.inl ⟨rfl, ?_⟩)))
        rw [hR.law hj, nI_clamp (by omega)]
        exact lawY j 0 hj (by omega)
      · exact Or.inr (Or.inr (Or.inl (h11 j (by omega))))
    · by_cases k12 : k = 12
      · subst k12
        rw [fM_nob rfl]
        by_cases hj : j < A.1 4
        · refine Or.inr (Or.inr (Or.inr (Or.inl ⟨rfl, ?_⟩)))
          rw [hR.form hj, nI_clamp (by omega)]
          exact frmY j (by omega)
        · exact Or.inr (Or.inr (Or.inl (h12 j (by omega))))
      · cases hob : kob k with
        | none =>
          refine Or.inl ?_
          unfold refD
          rw [if_neg k11, if_neg k12, hob]
        | some x =>
          have hk10 : k ≤ 10 := by
            rcases Nat.lt_or_ge 10 k with y | y
            · exfalso
              unfold kob at hob
              rw [if_pos (by rw [Nat.ble_eq]; omega), if_neg (by simp only [Bool.and_eq_true, Nat.ble_eq, Nat.blt_eq]; omega), if_neg (by simp only [Bool.and_eq_true, Nat.ble_eq, Nat.blt_eq]; omega)] at hob
              cases hob
            · exact y
          cases hj : x.2[j]? with
          | none =>
            refine Or.inl ?_
            unfold refD
            rw [if_neg k11, if_neg k12, hob]
            show (x.2[j]?).getD 0 = 0
            rw [hj]
            rfl
          | some d =>
            have hr := refD_ob hob hj
            rw [hr]
            by_cases d0 : d = 0
            · exact Or.inl d0
            · by_cases d1 : d = 1000
              · exact Or.inr (Or.inl d1)
              · by_cases d2 : d = 1001
                · subst d2
                  have hs : rsl k j = false := by
                    unfold rsl
                    rw [hob]
                    show (match x.2[j]? with | some d => !(Nat.beq d 0 || Nat.beq d 1000 || Nat.beq d 1001) | none => false) = false
                    rw [hj]
                    rfl
                  rw [fM_no hs]
                  have hc : (k = 4 ∧ j = 9) ∨ (k = 8 ∧ (j = 6 ∨ j = 7)) := by
                    have hk : k = 1 ∨ k = 2 ∨ k = 3 ∨ k = 4 ∨ k = 5 ∨ k = 6 ∨ k = 7 ∨ k = 8 ∨ k = 9 ∨ k = 10 := by omega
                    have fd : ∀ ds : List Nat, ds[j]? = some 1001 → ∃ i, i < ds.length ∧ i = j ∧ ds[i]? = some 1001 := fun ds h => ⟨j, (List.getElem?_eq_some_iff.mp h).1, rfl, h⟩
                    rcases hk with rfl | rfl | rfl | rfl | rfl | rfl | rfl | rfl | rfl | rfl
                    all_goals
                      cases hob
                      obtain ⟨i, i1, i2, i3⟩ := fd _ hj
                    · exact absurd i3 ((by decide : ∀ i, i < 15 → ([2, 3, 4, 5, 6, 7, 8, 9, 10, 11, 0, 12, 0, 13, 14] : List Nat)[i]? ≠ some 1001) i i1)
                    · exact absurd i3 ((by decide : ∀ i, i < 6 → ([0, 0, 0, 0, 15, 16] : List Nat)[i]? ≠ some 1001) i i1)
                    · exact absurd i3 ((by decide : ∀ i, i < 4 → ([17, 0, 0, 0] : List Nat)[i]? ≠ some 1001) i i1)
                    · exact Or.inl ⟨rfl, by rw [← i2]; exact (by decide : ∀ i, i < 11 → ([3, 0, 18, 0, 0, 19, 20, 21, 22, 1001, 0] : List Nat)[i]? = some 1001 → i = 9) i i1 i3⟩
                    · exact absurd i3 ((by decide : ∀ i, i < 8 → ([2, 0, 23, 24, 25, 26, 0, 0] : List Nat)[i]? ≠ some 1001) i i1)
                    · exact absurd i3 ((by decide : ∀ i, i < 4 → ([0, 27, 28, 0] : List Nat)[i]? ≠ some 1001) i i1)
                    · exact absurd i3 ((by decide : ∀ i, i < 4 → ([0, 0, 29, 30] : List Nat)[i]? ≠ some 1001) i i1)
                    · exact Or.inr ⟨rfl, by rw [← i2]; exact (by decide : ∀ i, i < 11 → ([2, 6, 7, 35, 36, 37, 1001, 1001, 0, 0, 0] : List Nat)[i]? = some 1001 → i = 6 ∨ i = 7) i i1 i3⟩
                    · exact absurd i3 ((by decide : ∀ i, i < 7 → ([0, 38, 39, 40, 41, 42, 0] : List Nat)[i]? ≠ some 1001) i i1)
                    · exact absurd i3 ((by decide : ∀ i, i < 3 → ([0, 43, 44] : List Nat)[i]? ≠ some 1001) i i1)
                  rcases hc with ⟨rfl, rfl⟩ | ⟨rfl, hj8⟩
                  · refine Or.inr (Or.inr (Or.inr (Or.inl ⟨rfl, ?_⟩)))
                    rw [hR.spare, nI_clamp (by omega)]
                    exact frmY _ (Nat.le_refl _)
                  · rcases hRef j hj8 with e | ⟨l, l1, l2⟩
                    · exact Or.inr (Or.inr (Or.inl e))
                    · refine Or.inr (Or.inr (Or.inr (Or.inl ⟨rfl, ?_⟩)))
                      rw [l2, nI_clamp (by omega)]
                      exact lawY l 0 l1 (by omega)
                · have hd : 1 ≤ d ∧ d ≤ 44 := by
                    have hm := List.mem_of_getElem? hj
                    have hk : k = 1 ∨ k = 2 ∨ k = 3 ∨ k = 4 ∨ k = 5 ∨ k = 6 ∨ k = 7 ∨ k = 8 ∨ k = 9 ∨ k = 10 := by omega
                    rcases hk with rfl | rfl | rfl | rfl | rfl | rfl | rfl | rfl | rfl | rfl
                    all_goals
                      cases hob
                      simp only [List.mem_cons, List.mem_nil_iff, or_false] at hm
                      omega
                  exact Or.inr (Or.inr (Or.inr (Or.inr ⟨d2, yes d hd.1 hd.2⟩)))
  · -- laws
    obtain ⟨l, r, rfl, hl, hr4⟩ : ∃ l r, k = 64 + 8 * l + r ∧ l < A.1 2 ∧ r ≤ 4 := ⟨(k - 64) / 8, (k - 64) % 8, by omega, by omega, by omega⟩
    by_cases hr : r = 0
    · subst hr
      have ob := kob_law (show l < 6 by omega)
      have ob : kob (64 + 8 * l + 0) = some (4, [0, 64 + 8 * l + 1, 64 + 8 * l + 2, 64 + 8 * l + 3, 64 + 8 * l + 4, 0, 0]) := ob
      by_cases hj : 1 ≤ j ∧ j ≤ 4
      · have rd : refD (64 + 8 * l + 0) j = 64 + 8 * l + j := by
          have : j = 1 ∨ j = 2 ∨ j = 3 ∨ j = 4 := by omega
          rcases this with rfl | rfl | rfl | rfl
          · exact refD_ob ob (j := 1) rfl
          · exact refD_ob ob (j := 2) rfl
          · exact refD_ob ob (j := 3) rfl
          · exact refD_ob ob (j := 4) rfl
        refine Or.inr (Or.inr (Or.inr (Or.inr ?_)))
        rw [rd]
        exact ⟨by omega, lawY l j hl hj.2⟩
      · refine Or.inl ?_
        by_cases j0 : j = 0
        · subst j0; exact refD_ob ob (j := 0) rfl
        · by_cases j5 : j = 5
          · subst j5; exact refD_ob ob (j := 5) rfl
          · by_cases j6 : j = 6
            · subst j6; exact refD_ob ob (j := 6) rfl
            · unfold refD
              rw [if_neg (by omega), if_neg (by omega), ob]
              show (([0, 64 + 8 * l + 1, 64 + 8 * l + 2, 64 + 8 * l + 3, 64 + 8 * l + 4, 0, 0] : List Nat)[j]?).getD 0 = 0
              rw [List.getElem?_eq_none (by show 7 ≤ j; omega)]
              rfl
    · refine Or.inl ?_
      unfold refD
      rw [if_neg (by omega), if_neg (by omega), kob_lrow (by omega) (by omega) hr4]
  · -- forms
    obtain ⟨f, r, rfl, hf, hr4⟩ : ∃ f r, k = 128 + 4 * f + r ∧ f ≤ A.1 4 ∧ r ≤ 3 := ⟨(k - 128) / 4, (k - 128) % 4, by omega, by omega, by omega⟩
    by_cases hr : r = 0
    · subst hr
      have ob : kob (128 + 4 * f + 0) = some (2, [0, 128 + 4 * f + 1, 128 + 4 * f + 2, 128 + 4 * f + 3]) := by
        unfold kob
        rw [if_pos (by rw [Nat.ble_eq]; omega), if_neg (by simp only [Bool.and_eq_true, Nat.ble_eq, Nat.blt_eq]; omega), if_pos]
        · simp only [Bool.and_eq_true, Nat.ble_eq, Nat.blt_eq]
          exact ⟨⟨by omega, by omega⟩, by rw [show (128 + 4 * f + 0) % 4 = 0 by omega]; rfl⟩
      by_cases hj : 1 ≤ j ∧ j ≤ 3
      · have rd : refD (128 + 4 * f + 0) j = 128 + 4 * f + j := by
          have : j = 1 ∨ j = 2 ∨ j = 3 := by omega
          rcases this with rfl | rfl | rfl
          · exact refD_ob ob (j := 1) rfl
          · exact refD_ob ob (j := 2) rfl
          · exact refD_ob ob (j := 3) rfl
        refine Or.inr (Or.inr (Or.inr (Or.inr ?_)))
        rw [rd]
        exact ⟨by omega, (hX _ (by omega)).mpr (Or.inr (Or.inr ⟨by omega, by omega⟩))⟩
      · refine Or.inl ?_
        by_cases j0 : j = 0
        · subst j0; exact refD_ob ob (j := 0) rfl
        · unfold refD
          rw [if_neg (by omega), if_neg (by omega), ob]
          show (([0, 128 + 4 * f + 1, 128 + 4 * f + 2, 128 + 4 * f + 3] : List Nat)[j]?).getD 0 = 0
          rw [List.getElem?_eq_none (by show 4 ≤ j; omega)]
          rfl
    · refine Or.inl ?_
      have ob : kob (128 + 4 * f + r) = none := by
        unfold kob
        rw [if_pos (by rw [Nat.ble_eq]; omega), if_neg (by simp only [Bool.and_eq_true, Nat.ble_eq, Nat.blt_eq]; omega), if_neg]
        simp only [Bool.and_eq_true, Nat.ble_eq, Nat.blt_eq]
        intro z
        have := Nat.eq_of_beq_eq_true z.2
        omega
      unfold refD
      rw [if_neg (by omega), if_neg (by omega), ob]
