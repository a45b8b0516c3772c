/-! TEXT, the class's side: keepForm, keepQuestion -/
theorem fM_up {M : jM} {k j : Nat} {v : Int32} (h : rsl k j = false) : fM (upM M k j v) = upM (fM M) k j v := by
  funext a b
  rw [up2]
  by_cases z : a = k ∧ b = j
  · rw [if_pos z, z.1, z.2, fM_no h, up_at, if_pos rfl]
  · rw [if_neg z]
    show (if rsl a b = true then 1 else upM M k j v a b) = if rsl a b = true then 1 else M a b
    rw [up2, if_neg z]
theorem agA_form {A : aS} {n : Nat} {fc yt nt : Nat → Nat} : agA A (fA A n fc yt nt) := by
  have T : ∀ k, k ≠ 1 ∧ ¬ (4 ≤ k ∧ k ≤ 7) → (fA A n fc yt nt).2 k = A.2 k := fun k h => fT_ne h
  refine ⟨⟨rfl, Nat.le_refl _, fun l hl c hc => ?_⟩, rfl, T 12 (by omega), T 15 (by omega), T 17 (by omega), T 18 (by omega)⟩
  show (fA A n fc yt nt).2 8 (512 * l + c) = A.2 8 (512 * l + c)
  rw [T 8 (by omega)]
theorem agA_q {A : aS} {val : Nat → Bool} : agA A (qA A val) := by
  have T : ∀ k, k ≠ 1 ∧ k ≠ 14 → (qA A val).2 k = A.2 k := fun k h => qT_ne h
  refine ⟨⟨rfl, Nat.le_refl _, fun l hl c hc => ?_⟩, rfl, T 12 (by omega), T 15 (by omega), T 17 (by omega), T 18 (by omega)⟩
  show (qA A val).2 8 (512 * l + c) = A.2 8 (512 * l + c)
  rw [T 8 (by omega)]
theorem k_form {P : jP} {M : jM} {N : jN} {A : aS} {t n : Nat} {fc yt nt : Nat → Nat} (hG : GC P M N A t) (e4 : M 4 4 = nI n) (h1 : 1 ≤ n) (h12 : n ≤ 12) (ho : ∀ j, j < n → fc j < A.1 0 ∧ tOkN j n (yt j) ∧ tOkN j n (nt j)) (hr : ∀ j, j < n → M (spF A + 1) j = nI (fc j) ∧ M (spF A + 2) j = tconv (nI (yt j)) ∧ M (spF A + 3) j = tconv (nI (nt j))) (hl : A.1 4 < 6) {Q : Int32 → jP → jM → jN → Prop}
    (hq : ∀ P' M' N', P'.2.2 = P.2.2 → GC P' (upM M' 3 1 0) N' (fA A n fc yt nt) (t + 1) → Q (nI (A.1 4)) P' M' N') : w_X11_keepForm P (128 + 4 * (A.1 4 + 1)) M N Q := by
  have hw := hG.wr
  obtain ⟨hR, hX, hL, hS, hMk, hAsk, hRef, h11, h12z⟩ := hG
  have hn := hR.num
  unfold wfNum at hn
  have C := hR.C512
  have hz := hR.2.1
  have wf' : wfA (fA A n fc yt nt) := fA_wf hR.1 hl h1 h12 ho
  have absent : ∀ r, r ≤ 3 → P.2.1 (128 + 4 * (A.1 4 + 1) + r) = false := by
    intro r hr
    cases e : P.2.1 (128 + 4 * (A.1 4 + 1) + r) with
    | false => rfl
    | true =>
      have := (hX _ (by omega)).mp e
      omega
  have yes : ∀ d, 1 ≤ d → d ≤ 44 → P.2.1 d = true := fun d a b => (hX d (by omega)).mpr (Or.inl ⟨a, b⟩)
  have esp : (M 4 9).toNatClampNeg = 128 + 4 * A.1 4 := by rw [hR.spare, nI_clamp (by omega)]
  have spY : P.2.1 (128 + 4 * A.1 4) = true := (hX _ (by omega)).mpr (Or.inr (Or.inr ⟨by omega, by omega⟩))
  have obs := kob_form (f := A.1 4) (by omega)
  unfold w_X11_keepForm
  refine ⟨yes 1 (by omega) (by omega), by omega, br_t (by rw [hR.formn]; exact (nI_ltI (b := 6) (by omega) (by omega)).mpr hl) ⟨yes 12 (by omega) (by omega), yes 4 (by omega) (by omega), ?_⟩⟩
  unfold w_X7_handOver
  rw [esp, e4]
  refine ⟨yes 4 (by omega) (by omega), by omega, by omega, spY, hR.fm' (Nat.le_refl _), hX.presK, ?_⟩
  intro M6 e6
  rw [fM_up (rsl_ob (j := 0) (d := 0) obs rfl)] at e6
  have w6 : WR P M6 := by rw [e6]; exact hw.upi (refD_ob (j := 0) (d := 0) obs rfl)
  refine ⟨kob_form (f := A.1 4 + 1) (by omega), w6.free (absent 0 (by omega)), ?_⟩
  intro b8 P9 e9
  have S0 := PR.any P
  generalize (List.range 1000).filter (fun k => P.2.1 k) = S at S0
  have S9 := S0.new (128 + 4 * (A.1 4 + 1)) b8
  have w9 := w6.new (a := b8) (show 128 + 4 * (A.1 4 + 1) ≠ 30 by omega)
  rw [← e9] at S9 w9
  have s9 : P9.2.2 = P.2.2 := by rw [e9]; rfl
  have nos : ∀ r, 1 ≤ r → r ≤ 3 → 128 + 4 * (A.1 4 + 1) + r ∉ (128 + 4 * (A.1 4 + 1)) :: S := fun r a b z => by
    rcases List.mem_cons.mp z with y | y
    · omega
    · have := (S0 _ (by omega)).mpr y
      rw [absent r b] at this
      exact absurd this (by decide)
  refine i_X2 ⟨A.1 4 + 1, by omega, rfl⟩ S9 List.mem_cons_self (nos 1 (by omega) (by omega)) (nos 2 (by omega) (by omega)) (nos 3 (by omega) (by omega)) w9 (fun P16 M17 N18 S16 s16 w16 k16 g0 gj gz n16 => ?_)
  have z16 : P16.2.2 = P.2.2 := s16.trans s9
  have in16 : ∀ k, k < 1000 → (P16.2.1 k = true ↔ (128 + 4 * (A.1 4 + 1) ≤ k ∧ k ≤ 128 + 4 * (A.1 4 + 1) + 3) ∨ P.2.1 k = true) := by
    intro k hk
    rw [S16 k hk]
    simp only [List.mem_cons]
    rw [← S0 k hk]
    constructor
    · rintro (z | z | z | z | z)
      · exact Or.inl (by omega)
      · exact Or.inl (by omega)
      · exact Or.inl (by omega)
      · exact Or.inl (by omega)
      · exact Or.inr z
    · rintro (z | z)
      · have : k = 128 + 4 * (A.1 4 + 1) + 3 ∨ k = 128 + 4 * (A.1 4 + 1) + 2 ∨ k = 128 + 4 * (A.1 4 + 1) + 1 ∨ k = 128 + 4 * (A.1 4 + 1) := by omega
        rcases this with y | y | y | y
        · exact Or.inl y
        · exact Or.inr (Or.inl y)
        · exact Or.inr (Or.inr (Or.inl y))
        · exact Or.inr (Or.inr (Or.inr (Or.inl y)))
      · exact Or.inr (Or.inr (Or.inr (Or.inr z)))
  have X16 : presX P16 (fA A n fc yt nt) := by
    intro k hk
    rw [in16 k hk, hX k hk]
    have e2 : (fA A n fc yt nt).1 2 = A.1 2 := rfl
    have e4' : (fA A n fc yt nt).1 4 = A.1 4 + 1 := rfl
    rw [e2, e4']
    constructor
    · rintro (z | z | z | z)
      · exact Or.inr (Or.inr (by omega))
      · exact Or.inl z
      · exact Or.inr (Or.inl z)
      · exact Or.inr (Or.inr (by omega))
    · rintro (z | z | z)
      · exact Or.inr (Or.inl z)
      · exact Or.inr (Or.inr (Or.inl z))
      · by_cases y : k < 132 + 4 * A.1 4
        · exact Or.inr (Or.inr (Or.inr (by omega)))
        · exact Or.inl (by omega)
  have out : ∀ k, ¬ (128 + 4 * (A.1 4 + 1) ≤ k ∧ k ≤ 128 + 4 * (A.1 4 + 1) + 3) → M17 k = upM (fM M) (128 + 4 * A.1 4) 0 (nI n) k := fun k hk => by
    rw [k16 k (by omega) (by omega) (by omega) (by omega), zM_ne (by omega), e6]
  refine ⟨fun k hk j hj => ?_, X16.presK, by omega, by omega, ?_⟩
  · by_cases z : 128 + 4 * (A.1 4 + 1) ≤ k ∧ k ≤ 128 + 4 * (A.1 4 + 1) + 3
    · obtain ⟨r, rfl⟩ : ∃ r, k = 128 + 4 * (A.1 4 + 1) + r := ⟨k - (128 + 4 * (A.1 4 + 1)), by omega⟩
      by_cases r0 : r = 0
      · subst r0
        have ob : kob (128 + 4 * (A.1 4 + 1) + 0) = some (2, [0, 128 + 4 * (A.1 4 + 1) + 1, 128 + 4 * (A.1 4 + 1) + 2, 128 + 4 * (A.1 4 + 1) + 3]) := kob_form (f := A.1 4 + 1) (by omega)
        by_cases jr : 1 ≤ j ∧ j ≤ 3
        · have := gj j jr.1 jr.2
          rw [Nat.add_zero, this]; decide
        · exfalso
          have : j = 0 ∨ 4 ≤ j := by omega
          rcases this with rfl | h7
          · rw [rsl_ob ob (j := 0) rfl] at hj; cases hj
          · unfold rsl at hj
            rw [ob] at hj
            replace hj : (match ([0, 128 + 4 * (A.1 4 + 1) + 1, 128 + 4 * (A.1 4 + 1) + 2, 128 + 4 * (A.1 4 + 1) + 3] : List Nat)[j]? with | some d => !(Nat.beq d 0 || Nat.beq d 1000 || Nat.beq d 1001) | none => false) = true := hj
            rw [List.getElem?_eq_none (by show 4 ≤ j; omega)] at hj
            cases hj
      · rw [rsl_none (kob_frow (by omega) (by omega))] at hj
        cases hj
    · rw [out k z, ← fM_up (rsl_ob (j := 0) (d := 0) obs rfl)]
      show ¬ (if rsl k j = true then (1 : Int32) else _) = 0
      rw [if_pos hj]; decide
  have fm16 : cFm P16 (128 + 4 * A.1 4) = true := by
    unfold cFm
    simp only [Bool.and_eq_true, Nat.ble_eq, Nat.blt_eq]
    exact ⟨⟨⟨by omega, by omega⟩, by rw [show (128 + 4 * A.1 4) % 4 = 0 by omega]; rfl⟩, (in16 _ (by omega)).mpr (Or.inr spY)⟩
  rw [hR.formn]
  refine ⟨by omega, fm16, ⟨by omega, by omega⟩, vin hl (by omega), ?_⟩
  rw [nI_clamp (show A.1 4 < 2 ^ 31 by omega)]
  intro M19 e19
  have a112 : M19 1 12 = nI (A.1 4) := by
    rw [e19, up_of _ _ _ _ (by omega), up_of _ _ _ _ (by omega), out 1 (by omega), up_of _ _ _ _ (by omega), fM_no rfl]; exact hR.formn
  rw [a112, nI_1]
  refine hq P16 _ N18 z16 ?_
  have F : ∀ k, k ≠ 1 → k ≠ 3 → k ≠ 4 → k ≠ 12 → upM (upM M19 1 12 (nI (A.1 4 + 1))) 3 1 0 k = M17 k := fun k a b c d => by rw [upM_ne _ _ _ b, upM_ne _ _ _ a, e19, upM_ne _ _ _ d, upM_ne _ _ _ c]
  have F1 : ∀ j, upM (upM M19 1 12 (nI (A.1 4 + 1))) 3 1 0 1 j = if j = 12 then nI (A.1 4 + 1) else fM M 1 j := fun j => by
    rw [up_of _ _ _ _ (by omega), up_at, e19, up_of _ _ _ _ (by omega), up_of _ _ _ _ (by omega), out 1 (by omega), up_of _ _ _ _ (by omega)]
  have F3 : upM (upM M19 1 12 (nI (A.1 4 + 1))) 3 1 0 3 1 = 0 := by rw [up_at, if_pos rfl]
  have F4 : ∀ j, upM (upM M19 1 12 (nI (A.1 4 + 1))) 3 1 0 4 j = if j = 9 then nI (128 + 4 * (A.1 4 + 1)) else fM M 4 j := fun j => by
    rw [up_of _ _ _ _ (by omega), up_of _ _ _ _ (by omega), e19, up_of _ _ _ _ (by omega), up_at, out 4 (by omega), up_of _ _ _ _ (by omega)]
  have F12 : ∀ j, upM (upM M19 1 12 (nI (A.1 4 + 1))) 3 1 0 12 j = if j = A.1 4 then nI (128 + 4 * A.1 4) else M 12 j := fun j => by
    rw [up_of _ _ _ _ (by omega), up_of _ _ _ _ (by omega), e19, up_at, up_of _ _ _ _ (by omega), out 12 (by omega), up_of _ _ _ _ (by omega), fM_nob rfl]
  generalize upM (upM M19 1 12 (nI (A.1 4 + 1))) 3 1 0 = MF at F F1 F3 F4 F12 ⊢
  have G : ∀ k, k ≠ 1 → k ≠ 3 → k ≠ 4 → k ≠ 12 → k ≠ 128 + 4 * A.1 4 → ¬ (128 + 4 * (A.1 4 + 1) ≤ k ∧ k ≤ 128 + 4 * (A.1 4 + 1) + 3) → MF k = fM M k := fun k a b c d e f => by rw [F k a b c d, out k f, upM_ne _ _ _ e]
  have hRf := hR.f
  have RF : RelC P16 MF (fA A n fc yt nt) := by
    refine ⟨wf', X16.presC wf'.1 (by rw [z16]; exact ⟨hz.1, hz.2.1, hz.2.2.1, hz.2.2.2.1⟩), fun k j hk => ?_, fun k j hk => ?_⟩
    · by_cases k1 : k = 1
      · subst k1
        rw [F1]
        rcases hk with rfl | rfl
        · rw [if_neg (by omega)]; exact hRf.lawn
        · rw [if_pos rfl]; rfl
      · by_cases k3 : k = 3
        · subst k3
          have hj : j = 1 := hk
          subst hj
          exact F3
        · by_cases k4 : k = 4
          · subst k4
            rw [F4]
            rcases hk with rfl | rfl
            · rw [if_neg (by omega)]; exact hRf.2.2.1 4 1 (Or.inl rfl)
            · rw [if_pos rfl]; rfl
          · by_cases k12 : k = 12
            · subst k12
              have hj : j < A.1 4 + 1 := hk
              rw [F12]
              by_cases z : j = A.1 4
              · rw [if_pos z, z]; rfl
              · rw [if_neg z]; exact hR.form (by omega)
            · by_cases k17 : k = 17
              · subst k17
                have hj : j < 0 := hk
                omega
              · have both : pCs A k j ∧ cTs (fA A n fc yt nt) k j = cTs A k j := by
                  rcases pCs_key hk with rfl | rfl | rfl | rfl | rfl | rfl | rfl | rfl | rfl | rfl | rfl | rfl | rfl | rfl | rfl | rfl | rfl | rfl | rfl | rfl | rfl | rfl | rfl | rfl | rfl
                  all_goals first | exact ⟨hk, rfl⟩ | skip
                  · exact absurd rfl k1
                  · exact absurd rfl k3
                  · exact absurd rfl k4
                  · exact absurd rfl k12
                  · exact absurd rfl k17
                have hk2 := pCs_key hk
                rw [G k k1 k3 k4 k12 (by omega) (by omega), both.2]
                exact hRf.2.2.1 k j both.1
    · have T7 : ∀ i, (fA A n fc yt nt).2 7 i = if i = A.1 4 then nI n else A.2 7 i := fun i => rfl
      have T4 : ∀ i, (fA A n fc yt nt).2 4 i = if 12 * A.1 4 ≤ i ∧ i < 12 * A.1 4 + n then nI (fc (i - 12 * A.1 4)) else A.2 4 i := fun i => rfl
      have T5 : ∀ i, (fA A n fc yt nt).2 5 i = if 12 * A.1 4 ≤ i ∧ i < 12 * A.1 4 + n then nI (yt (i - 12 * A.1 4)) else A.2 5 i := fun i => rfl
      have T6 : ∀ i, (fA A n fc yt nt).2 6 i = if 12 * A.1 4 ≤ i ∧ i < 12 * A.1 4 + n then nI (nt (i - 12 * A.1 4)) else A.2 6 i := fun i => rfl
      have tn : ∀ k, k = 8 ∨ k = 9 ∨ k = 10 ∨ k = 11 → (fA A n fc yt nt).2 k = A.2 k := fun k hk => fT_ne (by omega)
      unfold pCd at hk
      rcases hk with ⟨k64, hlt, hr'⟩ | ⟨k128, hlt, hr'⟩
      · have hlt : (k - 64) / 8 < A.1 2 := hlt
        rw [tn 10 (by omega)] at hr'
        have old : pCd A k j := by
          unfold pCd
          exact Or.inl ⟨k64, hlt, hr'⟩
        have eC : cTd (fA A n fc yt nt) k j = cTd A k j := by
          unfold cTd
          rw [if_pos (show k < 112 by omega), if_pos (show k < 112 by omega), tn 10 (by omega), tn 11 (by omega), tn 9 (by omega), tn 8 (by omega)]
        rw [eC, G k (by omega) (by omega) (by omega) (by omega) (by omega) (by omega)]
        exact hRf.2.2.2 k j old
      · have hlt : (k - 128) / 4 < A.1 4 + 1 := hlt
        rw [T7] at hr'
        by_cases hli : (k - 128) / 4 = A.1 4
        · rw [if_pos hli, nI_clamp (show n < 2 ^ 31 by omega)] at hr'
          unfold cTd
          rw [if_neg (show ¬ k < 112 by omega), hli, T7, if_pos rfl]
          have Fs : ∀ r, 1 ≤ r → r ≤ 3 → MF (128 + 4 * A.1 4 + r) = M (128 + 4 * A.1 4 + r) := fun r a b => by
            rw [G _ (by omega) (by omega) (by omega) (by omega) (by omega) (by omega), fM_nob (kob_frow a b)]
          rcases hr' with ⟨r, j0⟩ | ⟨r, j1⟩
          · have ek : k = 128 + 4 * A.1 4 := by omega
            rw [if_pos r, ek, j0, F _ (by omega) (by omega) (by omega) (by omega), out _ (by omega), up_at, if_pos rfl]
          · obtain ⟨x1, x2, x3⟩ := hr j j1
            have es := spF_eq A
            have : k = 128 + 4 * A.1 4 + 1 ∨ k = 128 + 4 * A.1 4 + 2 ∨ k = 128 + 4 * A.1 4 + 3 := by omega
            rcases this with ek | ek | ek
            · rw [if_neg r, if_pos (by omega), T4, if_pos (by omega), show 12 * A.1 4 + j - 12 * A.1 4 = j by omega, ek, Fs 1 (by omega) (by omega), ← es]; exact x1
            · rw [if_neg r, if_neg (by omega), if_pos (by omega), T5, if_pos (by omega), show 12 * A.1 4 + j - 12 * A.1 4 = j by omega, ek, Fs 2 (by omega) (by omega), ← es]; exact x2
            · rw [if_neg r, if_neg (by omega), if_neg (by omega), T6, if_pos (by omega), show 12 * A.1 4 + j - 12 * A.1 4 = j by omega, ek, Fs 3 (by omega) (by omega), ← es]; exact x3
        · rw [if_neg hli] at hr'
          have old : pCd A k j := by
            unfold pCd
            exact Or.inr ⟨k128, by omega, hr'⟩
          obtain ⟨nm, c1, c2, c3, -⟩ := hR.1.2.2.2.1 ((k - 128) / 4) (by omega)
          rw [c3, nI_clamp (show nm < 2 ^ 31 by omega)] at hr'
          have eC : cTd (fA A n fc yt nt) k j = cTd A k j := by
            unfold cTd
            rw [if_neg (show ¬ k < 112 by omega), if_neg (show ¬ k < 112 by omega), T7, if_neg hli]
            by_cases r0 : (k - 128) % 4 = 0
            · rw [if_pos r0, if_pos r0]
            · have j1 : j < nm := by
                rcases hr' with z | z
                · exact absurd z.1 r0
                · exact z.2
              have c4 : ¬ (12 * A.1 4 ≤ 12 * ((k - 128) / 4) + j ∧ 12 * ((k - 128) / 4) + j < 12 * A.1 4 + n) := by omega
              rw [if_neg r0, if_neg r0, T4, T5, T6, if_neg c4, if_neg c4, if_neg c4]
          rw [eC, G k (by omega) (by omega) (by omega) (by omega) (by omega) (by omega)]
          exact hRf.2.2.2 k j old
  have ag := agA_form (A := A) (n := n) (fc := fc) (yt := yt) (nt := nt)
  have zn : ∀ k, k ≠ 128 + 4 * (A.1 4 + 1) → zN N (128 + 4 * (A.1 4 + 1)) k = N k := fun k hk => if_neg hk
  have gN : N18 35 = N 35 ∧ N18 36 = N 36 := ⟨by rw [n16 35 (by omega), zn 35 (by omega)], by rw [n16 36 (by omega), zn 36 (by omega)]⟩
  have G0 : ∀ k, k = 5 ∨ k = 8 ∨ k = 9 ∨ k = 11 ∨ k = 23 ∨ k = 37 ∨ k = 40 ∨ (64 ≤ k ∧ k < 112) → MF k = fM M k := fun k hk => G k (by omega) (by omega) (by omega) (by omega) (by omega) (by omega)
  refine ⟨RF, X16, fun l hll => ?_, hS.same z16 (by rw [G0 5 (by omega), fM_no rfl]) (by rw [G0 23 (by omega), fM_nob rfl]) (by omega), hMk.same (by rw [G0 9 (by omega), fM_no rfl]) (by rw [G0 40 (by omega), fM_nob rfl]) (by omega), ?_, hRef.ag (Nat.le_refl _) (by rw [G0 8 (by omega), fM_no rfl]) (by rw [G0 8 (by omega), fM_no rfl]), fun j hj => by rw [G0 11 (by omega), fM_nob rfl]; exact h11 j hj, fun j hj => ?_⟩
  · have hll : l < A.1 2 := hll
    refine laws_ag ag.1 hll ?_ ?_ ?_ (hL l hll)
    · rw [G0 _ (by omega), fM_nob (kob_lrow (by omega) (by omega) (by omega))]
    · rw [G0 _ (by omega), fM_no (rsl_ob (kob_law (l := l) (by omega)) (j := 5) rfl)]
    · rw [G0 _ (by omega), fM_no (rsl_ob (kob_law (l := l) (by omega)) (j := 6) rfl)]
  · have z8 : fM M 8 6 = M 8 6 ∧ fM M 8 7 = M 8 7 ∧ fM M 8 8 = M 8 8 ∧ fM M 8 9 = M 8 9 ∧ fM M 8 10 = M 8 10 := ⟨fM_no rfl, fM_no rfl, fM_no rfl, fM_no rfl, fM_no rfl⟩
    have z37 : fM M 37 = M 37 := fM_nob rfl
    have aF : AskOK (fM M) N A := by
      intro z
      rw [z8.2.2.2.2] at z
      obtain ⟨l, o', two, root, rs, ⟨a1, a2, a3, a4⟩, b8, b9, r1, r2, T⟩ := hAsk z
      refine ⟨l, o', two, root, rs, ⟨a1, a2, z8.1.trans a3, z8.2.1.trans a4⟩, z8.2.2.1.trans b8, z8.2.2.2.1.trans b9, r1, r2, fun k s v => ?_⟩
      obtain ⟨x1, x2, x3⟩ := T k s v
      exact ⟨x1, x2, by rw [z37]; exact x3⟩
    exact ask_ag ag (G0 8 (by omega)) (G0 37 (by omega)) gN.1 gN.2 aF
  · have hj : A.1 4 + 1 ≤ j := hj
    rw [F12, if_neg (by omega)]
    exact h12z j (by omega)
theorem GC.rC {P : jP} {M M' : jM} {N : jN} {A : aS} {t t' : Nat} (h : GC P M N A t) (ht : t ≤ t') (g : rC A M M') : GC P M' N A t' := by
  have es := spF_eq A
  exact h.same ht (h.1.rC g) (fun k hk => g.1 k (by omega) (by omega) (by omega) (by omega)) ⟨rfl, rfl⟩
theorem k_q {P : jP} {M : jM} {N : jN} {A : aS} {t n : Nat} {val : Nat → Bool} (hG : GC P M N A t) (hX13 : ∀ q, A.1 3 ≤ q → q < 10 → A.2 13 q = 1) (e3 : M 4 3 = nI n) (hn160 : n ≤ 160) (sg : segOK (M 18) 0 n val) {Q : Int32 → jM → Prop}
    (q1 : A.1 3 < 10 → ∀ M', GC P (upM M' 3 1 0) N (qA A val) (t + 1) → Q (nI (A.1 3)) M') (q0 : ¬ A.1 3 < 10 → Q (-1) M) : w_X11_keepQuestion P M Q := by
  have hR := hG.1
  have hn := hR.num
  unfold wfNum at hn
  have C := hR.C512
  refine s11_keepQ hR e3 hn160 sg (fun hl M' g1 g38 g9 g39 => q1 hl M' ?_) q0
  obtain ⟨-, hX, hL, hS, hMk, hAsk, hRef, h11, h12z⟩ := hG
  have wf' : wfA (qA A val) := qA_wf hR.1 hl
  have F : ∀ k, k ≠ 3 → k ≠ 9 → k ≠ 38 → k ≠ 39 → upM M' 3 1 0 k = M k := fun k a b c d => by rw [upM_ne _ _ _ a, g1 k c b d]
  have F3 : upM M' 3 1 0 3 1 = 0 := by rw [up_at, if_pos rfl]
  have F9 : ∀ j, upM M' 3 1 0 9 j = if j = 0 then nI (A.1 3 + 1) else M 9 j := fun j => by rw [up_of _ _ _ _ (by omega)]; exact g9 j
  have F38 : ∀ j, upM M' 3 1 0 38 j = if j = A.1 3 then 1 else M 38 j := fun j => by rw [up_of _ _ _ _ (by omega)]; exact g38 j
  have F39 : ∀ c, upM M' 3 1 0 39 c = if c < 2 ^ A.1 0 ∧ val c = true then M 39 c ||| nI (2 ^ A.1 3) else M 39 c := fun j => by rw [up_of _ _ _ _ (by omega)]; exact g39 j
  generalize upM M' 3 1 0 = MF at F F3 F9 F38 F39 ⊢
  have hRq : RelC P MF (qA A val) := by
    refine ⟨wf', hX.presC wf'.1 ⟨hR.2.1.1, hR.2.1.2.1, hR.2.1.2.2.1, hR.2.1.2.2.2.1⟩, fun k j hk => ?_, fun k j hk => ?_⟩
    · by_cases k3 : k = 3
      · subst k3
        have hj : j = 1 := hk
        subst hj
        exact F3
      · by_cases k9 : k = 9
        · subst k9
          have hj : j = 0 := hk
          subst hj
          rw [F9, if_pos rfl]
          rfl
        · by_cases k38 : k = 38
          · subst k38
            have hj : j < A.1 3 + 1 := hk
            have e : cTs (qA A val) 38 j = A.2 13 j := rfl
            rw [F38, e]
            by_cases z : j = A.1 3
            · rw [if_pos z, z]; exact (hX13 _ (Nat.le_refl _) hl).symm
            · rw [if_neg z]; exact hR.2.2.1 38 j (show j < A.1 3 by omega)
          · by_cases k39 : k = 39
            · subst k39
              have hj : j < 2 ^ A.1 0 := hk
              have old : M 39 j = nI (bitsN (fun q => A.2 14 (512 * q + j) == 1) (A.1 3)) := hR.2.2.1 39 j hj
              have e : cTs (qA A val) 39 j = nI (bitsN (fun q => (qA A val).2 14 (512 * q + j) == 1) (A.1 3 + 1)) := rfl
              have T14 : ∀ i, (qA A val).2 14 i = if 512 * A.1 3 ≤ i ∧ i < 512 * A.1 3 + 2 ^ A.1 0 then bi (val (i - 512 * A.1 3) = true) else A.2 14 i := fun i => rfl
              have ec : bitsN (fun q => (qA A val).2 14 (512 * q + j) == 1) (A.1 3) = bitsN (fun q => A.2 14 (512 * q + j) == 1) (A.1 3) := bitsN_congr (fun i hi => by
                show ((qA A val).2 14 (512 * i + j) == 1) = (A.2 14 (512 * i + j) == 1)
                rw [T14, if_neg (by omega)])
              have c14 : 512 * A.1 3 ≤ 512 * A.1 3 + j ∧ 512 * A.1 3 + j < 512 * A.1 3 + 2 ^ A.1 0 := by omega
              rw [F39, e, bitsN_or, ec, T14, if_pos c14, show 512 * A.1 3 + j - 512 * A.1 3 = j by omega, old]
              by_cases v : val j = true
              · rw [if_pos ⟨hj, v⟩, bi_t v, if_pos (by decide), nI_or]
              · rw [if_neg (fun z => v z.2), bi_f v, if_neg (by decide), Nat.or_zero]
            · by_cases k17 : k = 17
              · subst k17
                have hj : j < 0 := hk
                omega
              · have both : pCs A k j ∧ cTs (qA A val) k j = cTs A k j := by
                  rcases pCs_key hk with rfl | rfl | rfl | rfl | rfl | rfl | rfl | rfl | rfl | rfl | rfl | rfl | rfl | rfl | rfl | rfl | rfl | rfl | rfl | rfl | rfl | rfl | rfl | rfl | rfl
                  all_goals first | exact ⟨hk, rfl⟩ | skip
                  · exact absurd rfl k3
                  · exact absurd rfl k9
                  · exact absurd rfl k17
                  · exact absurd rfl k38
                  · exact absurd rfl k39
                rw [F k k3 k9 k38 k39, both.2]
                exact hR.2.2.1 k j both.1
    · have tn : ∀ k, k = 4 ∨ k = 5 ∨ k = 6 ∨ k = 7 ∨ k = 8 ∨ k = 9 ∨ k = 10 ∨ k = 11 → (qA A val).2 k = A.2 k := fun k hk => qT_ne (by omega)
      have hg := pCd_ge hk
      have old : pCd A k j := by
        unfold pCd at hk ⊢
        rw [tn 10 (by omega), tn 7 (by omega)] at hk
        exact hk
      have eC : cTd (qA A val) k j = cTd A k j := by
        unfold cTd
        rw [tn 10 (by omega), tn 11 (by omega), tn 9 (by omega), tn 8 (by omega), tn 7 (by omega), tn 4 (by omega), tn 5 (by omega), tn 6 (by omega)]
      rw [eC, F k (by omega) (by omega) (by omega) (by omega)]
      exact hR.2.2.2 k j old
  have ag := agA_q (A := A) (val := val)
  refine ⟨hRq, hX, fun l hll => ?_, hS.same rfl (by rw [F 5 (by omega) (by omega) (by omega) (by omega)]) (F 23 (by omega) (by omega) (by omega) (by omega)) (by omega), hMk.same (by rw [F9, if_neg (by omega)]) (F 40 (by omega) (by omega) (by omega) (by omega)) (by omega), ask_ag ag (F 8 (by omega) (by omega) (by omega) (by omega)) (F 37 (by omega) (by omega) (by omega) (by omega)) rfl rfl hAsk, hRef.ag (Nat.le_refl _) (by rw [F 8 (by omega) (by omega) (by omega) (by omega)]) (by rw [F 8 (by omega) (by omega) (by omega) (by omega)]), fun j hj => by rw [F 11 (by omega) (by omega) (by omega) (by omega)]; exact h11 j hj, fun j hj => by rw [F 12 (by omega) (by omega) (by omega) (by omega)]; exact h12z j hj⟩
  have hll : l < A.1 2 := hll
  exact laws_ag ag.1 hll (F _ (by omega) (by omega) (by omega) (by omega)) (by rw [F _ (by omega) (by omega) (by omega) (by omega)]) (by rw [F _ (by omega) (by omega) (by omega) (by omega)]) (hL l hll)
