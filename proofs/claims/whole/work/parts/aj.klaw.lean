/-! TEXT, the class's side: keepLaw -/
theorem agl_law {A : aS} {n : Nat} {o : Nat → Nat} {cv uv : Nat → Nat → Bool} (hn : wfNum A) : agA A (lawA A n o cv uv) := by
  unfold wfNum at hn
  have C := two_le hn.1.2
  have T : ∀ k, k ≠ 1 ∧ ¬ (8 ≤ k ∧ k ≤ 11) → (lawA A n o cv uv).2 k = A.2 k := fun k h => lawT_ne h
  refine ⟨⟨rfl, Nat.le_succ _, fun l hl c hc => ?_⟩, rfl, T 12 (by omega), T 15 (by omega), T 17 (by omega), T 18 (by omega)⟩
  show (lawA A n o cv uv).2 8 (512 * l + c) = A.2 8 (512 * l + c)
  show (if 512 * A.1 2 ≤ 512 * l + c ∧ 512 * l + c < 512 * A.1 2 + 2 ^ A.1 0 then outL n o cv uv (512 * l + c - 512 * A.1 2) else A.2 8 (512 * l + c)) = _
  rw [if_neg (by omega)]
set_option maxRecDepth 20000 in
theorem k_law {P : jP} {M : jM} {N : jN} {A : aS} {t n : Nat} {o st un en : Nat → Nat} {cv uv : Nat → Nat → Bool} (hG : GC P M N A t) (ht : t < 4000) (hc : clsOf M n o st un en cv uv) (h1 : 1 ≤ n) (h12 : n ≤ 12) (hoe : ∀ j, j < n → o j ≤ 5 ∧ en j ≤ 160) (hl : A.1 2 < 6) {Q : Int32 → jP → jM → jN → Prop}
    (hq : ∀ P' M' N', P'.2.2 = P.2.2 → GC P' (upM M' 3 1 0) N' (lawA A n o cv uv) (t + 1) → Q (nI (A.1 2)) P' M' N') : w_X11_keepLaw P (64 + 8 * A.1 2) M N Q := by
  have hw := hG.wr
  obtain ⟨hR, hX, hL, hS, hMk, hAsk, hRef, h11, h12z⟩ := hG
  have hn := hR.num
  unfold wfNum at hn
  have C := hR.C512
  have hz := hR.2.1
  have wf' : wfA (lawA A n o cv uv) := lawA_wf hR.1 hl h1 h12 (fun j hj => (hoe j hj).1)
  have absent : ∀ r, r ≤ 4 → P.2.1 (64 + 8 * A.1 2 + r) = false := by
    intro r hr
    cases e : P.2.1 (64 + 8 * A.1 2 + r) with
    | false => rfl
    | true =>
      have := (hX _ (by omega)).mp e
      omega
  unfold w_X11_keepLaw
  refine ⟨(hX 1 (by omega)).mpr (Or.inl ⟨by omega, by omega⟩), by omega, br_t (by rw [hR.lawn]; exact (nI_ltI (b := 6) (by omega) (by omega)).mpr hl) ?_⟩
  refine ⟨hX.presK, kob_law hl, hw.free (absent 0 (by omega)), ?_⟩
  intro b5 P6 e6
  have S0 := PR.any P
  generalize (List.range 1000).filter (fun k => P.2.1 k) = S at S0
  have S6 := S0.new (64 + 8 * A.1 2) b5
  have w6 := hw.new (a := b5) (show 64 + 8 * A.1 2 ≠ 30 by omega)
  rw [← e6] at S6 w6
  have s6 : P6.2.2 = P.2.2 := by rw [e6]; rfl
  have up : ∀ d, 1 ≤ d → d ≤ 44 → P6.2.1 d = true := fun d a b => by
    rw [e6]; exact pnew_mono d ((hX d (by omega)).mpr (Or.inl ⟨a, b⟩))
  have fl : ∀ j, rsl 1 j = true → ¬ (zM (fM M) (64 + 8 * A.1 2)) 1 j = 0 := fun j hj => by
    rw [zM_ne (by omega)]
    show ¬ (if rsl 1 j = true then (1 : Int32) else M 1 j) = 0
    rw [if_pos hj]; decide
  have a44 : (zM (fM M) (64 + 8 * A.1 2)) 4 4 = nI n := by rw [zM_ne (by omega), fM_no rfl]; exact hc.1
  have a22 : (zM (fM M) (64 + 8 * A.1 2)) 2 2 = nI (2 ^ A.1 0) := by rw [zM_ne (by omega), fM_no rfl]; exact hR.cases
  have a23 : (zM (fM M) (64 + 8 * A.1 2)) 2 3 = nI (3 ^ A.1 0) := by rw [zM_ne (by omega), fM_no rfl]; exact hR.2.2.1 2 3 (show 3 < 4 by omega)
  rw [a44, a22, a23]
  refine ⟨fl 2 rfl, up 4 (by omega) (by omega), fl 0 rfl, up 2 (by omega) (by omega), fl 0 rfl, ?_⟩
  refine i_X4 hl S6 List.mem_cons_self (fun r r1 r4 z => ?_) w6 (by rw [s6]; exact hz.2.1) (by rw [s6]; exact hz.2.2.1) hR.n9 (fun P17 M18 N19 S17 s17 k18 n19 g0 g5 gj => ?_)
  · rcases List.mem_cons.mp z with y | y
    · omega
    · have := (S0 _ (by omega)).mpr y
      rw [absent r r4] at this
      exact absurd this (by decide)
  have z17 : P17.2.2 = P.2.2 := s17.trans s6
  have in17 : ∀ k, k < 1000 → (P17.2.1 k = true ↔ (64 + 8 * A.1 2 ≤ k ∧ k ≤ 64 + 8 * A.1 2 + 4) ∨ P.2.1 k = true) := by
    intro k hk
    rw [S17 k hk]
    simp only [List.mem_cons]
    rw [← S0 k hk]
    constructor
    · rintro (z | z | z | z | z | z)
      · exact Or.inl (by omega)
      · exact Or.inl (by omega)
      · exact Or.inl (by omega)
      · exact Or.inl (by omega)
      · exact Or.inl (by omega)
      · exact Or.inr z
    · rintro (z | z)
      · have : k = 64 + 8 * A.1 2 + 4 ∨ k = 64 + 8 * A.1 2 + 3 ∨ k = 64 + 8 * A.1 2 + 2 ∨ k = 64 + 8 * A.1 2 + 1 ∨ k = 64 + 8 * A.1 2 := by omega
        rcases this with y | y | y | y | y
        · exact Or.inl y
        · exact Or.inr (Or.inl y)
        · exact Or.inr (Or.inr (Or.inl y))
        · exact Or.inr (Or.inr (Or.inr (Or.inl y)))
        · exact Or.inr (Or.inr (Or.inr (Or.inr (Or.inl y))))
      · exact Or.inr (Or.inr (Or.inr (Or.inr (Or.inr z))))
  have X17 : presX P17 (lawA A n o cv uv) := by
    intro k hk
    rw [in17 k hk, hX k hk]
    have e2 : (lawA A n o cv uv).1 2 = A.1 2 + 1 := rfl
    have e4 : (lawA A n o cv uv).1 4 = A.1 4 := rfl
    rw [e2, e4]
    constructor
    · rintro (z | z | z | z)
      · exact Or.inr (Or.inl (by omega))
      · exact Or.inl z
      · exact Or.inr (Or.inl (by omega))
      · exact Or.inr (Or.inr z)
    · rintro (z | z | z)
      · exact Or.inr (Or.inl z)
      · by_cases y : k < 64 + 8 * A.1 2
        · exact Or.inr (Or.inr (Or.inl (by omega)))
        · exact Or.inl (by omega)
      · exact Or.inr (Or.inr (Or.inr z))
  have out : ∀ k, ¬ (64 + 8 * A.1 2 ≤ k ∧ k ≤ 64 + 8 * A.1 2 + 4) → M18 k = fM M k := fun k hk => by rw [k18 k hk, zM_ne (by omega)]
  have lw : cLw P17 (64 + 8 * A.1 2) = true := by
    unfold cLw
    simp only [Bool.and_eq_true, Nat.ble_eq, Nat.blt_eq]
    exact ⟨⟨⟨by omega, by omega⟩, by rw [show (64 + 8 * A.1 2) % 8 = 0 by omega]; rfl⟩, (in17 _ (by omega)).mpr (Or.inl (by omega))⟩
  have ia : ∀ r, 1 ≤ r → r ≤ 4 → cIA P17 (64 + 8 * A.1 2 + r) = some (if r = 1 then 12 else if r = 4 then P17.2.2 2 else P17.2.2 1) := fun r a b => cIA_law hl a b ((in17 _ (by omega)).mpr (Or.inl (by omega)))
  have ia1 : cIA P17 (64 + 8 * A.1 2 + 1) = some 12 := ia 1 (by omega) (by omega)
  have ia2 : cIA P17 (64 + 8 * A.1 2 + 2) = some (2 ^ A.1 0) := (ia 2 (by omega) (by omega)).trans (congrArg some (by rw [z17]; exact hz.2.1))
  have ia3 : cIA P17 (64 + 8 * A.1 2 + 3) = some (2 ^ A.1 0) := (ia 3 (by omega) (by omega)).trans (congrArg some (by rw [z17]; exact hz.2.1))
  have ia4 : cIA P17 (64 + 8 * A.1 2 + 4) = some (3 ^ A.1 0) := (ia 4 (by omega) (by omega)).trans (congrArg some (by rw [z17]; exact hz.2.2.1))
  refine ⟨fun k hk j hj => ?_, X17.presK, lw, ia1, by omega, ?_⟩
  · by_cases z : 64 + 8 * A.1 2 ≤ k ∧ k ≤ 64 + 8 * A.1 2 + 4
    · obtain ⟨r, rfl⟩ : ∃ r, k = 64 + 8 * A.1 2 + r := ⟨k - (64 + 8 * A.1 2), by omega⟩
      by_cases r0 : r = 0
      · subst r0
        have ob : kob (64 + 8 * A.1 2 + 0) = some (4, [0, 64 + 8 * A.1 2 + 1, 64 + 8 * A.1 2 + 2, 64 + 8 * A.1 2 + 3, 64 + 8 * A.1 2 + 4, 0, 0]) := kob_law hl
        by_cases jr : 1 ≤ j ∧ j ≤ 4
        · have := gj j jr.1 jr.2
          rw [Nat.add_zero, this]; decide
        · exfalso
          have : j = 0 ∨ j = 5 ∨ j = 6 ∨ 7 ≤ j := by omega
          rcases this with rfl | rfl | rfl | h7
          · rw [rsl_ob ob (j := 0) rfl] at hj; cases hj
          · rw [rsl_ob ob (j := 5) rfl] at hj; cases hj
          · rw [rsl_ob ob (j := 6) rfl] at hj; cases hj
          · unfold rsl at hj
            rw [ob] at hj
            replace hj : (match ([0, 64 + 8 * A.1 2 + 1, 64 + 8 * A.1 2 + 2, 64 + 8 * A.1 2 + 3, 64 + 8 * A.1 2 + 4, 0, 0] : List Nat)[j]? with | some d => !(Nat.beq d 0 || Nat.beq d 1000 || Nat.beq d 1001) | none => false) = true := hj
            rw [List.getElem?_eq_none (by show 7 ≤ j; omega)] at hj
            cases hj
      · rw [rsl_none (kob_lrow hl (by omega) (by omega))] at hj
        cases hj
    · rw [out k z]
      show ¬ (if rsl k j = true then (1 : Int32) else M k j) = 0
      rw [if_pos hj]; decide
  intro M33 e33
  have m33 : ∀ k, k ≠ 64 + 8 * A.1 2 + 1 → M33 k = M18 k := fun k hk => by rw [e33]; exact if_neg hk
  have r33 : ∀ j, j < n → M33 (64 + 8 * A.1 2 + 1) j = nI (o j) := fun j hj => by
    rw [e33]
    show (if 64 + 8 * A.1 2 + 1 = 64 + 8 * A.1 2 + 1 then (fun j => if j < 12 then M18 19 j else M18 (64 + 8 * A.1 2 + 1) j) else M18 _) j = _
    rw [if_pos rfl]
    show (if j < 12 then M18 19 j else _) = _
    rw [if_pos (by omega), out 19 (by omega), fM_nob rfl]
    exact (hc.2 j hj).1
  clear e33
  intro R60 h60
  refine lp_up (R := fun c => ∀ M35, (∀ k, k ≠ 64 + 8 * A.1 2 + 2 → k ≠ 64 + 8 * A.1 2 + 3 → M35 k = M33 k) → (∀ d, d < c → M35 (64 + 8 * A.1 2 + 2) d = nI (hN n cv uv d) ∧ M35 (64 + 8 * A.1 2 + 3) d = outL n o cv uv d) → R60 (nI c) M35) (2 ^ A.1 0) (fun M35 t1 t2 => ?_) (fun c hcc ih M35 t1 t2 => ?_) 0 (Nat.zero_le _) M33 (fun _ _ _ => rfl) (fun d hd => absurd hd (Nat.not_lt_zero d))
  · have o35 : ∀ k, ¬ (64 + 8 * A.1 2 ≤ k ∧ k ≤ 64 + 8 * A.1 2 + 4) → M35 k = fM M k := fun k hk => by rw [t1 k (by omega) (by omega), m33 k (by omega), out k hk]
    have m22 : M35 2 2 = nI (2 ^ A.1 0) := by rw [o35 2 (by omega), fM_no rfl]; exact hR.cases
    refine h60 _ _ (br_t (by rw [m22]; exact Int32.le_refl _) ?_)
    have core : CoreC P17 M35 ((lawA A n o cv uv).1 0) := by
      obtain ⟨c1, c2, c3, c4, c5, c6⟩ := hR.core
      refine ⟨c1, by rw [z17]; exact c2, ?_, ?_, fun f hf => ?_, fun b hb => ?_⟩
      · rw [o35 2 (by omega), fM_no rfl]; exact c3
      · rw [o35 5 (by omega), fM_no rfl]; exact c4
      · rw [o35 15 (by omega), fM_nob rfl]; exact c5 f hf
      · rw [o35 16 (by omega), fM_nob rfl]; exact c6 b hb
    have hl' : A.1 2 < (lawA A n o cv uv).1 2 := Nat.lt_succ_self _
    refine s11_fillWays (A := lawA A n o cv uv) core hl lw ia3 ia4 (sdOK_of wf'.2.2.1 hl') (fun c hc2 => ?_) (hS.same (B' := 6000 * t) z17 ?_ ?_ (Nat.le_refl _)) (by omega) (fun M37 g37 S37 y1 y2 y3 => ?_)
    · have hc2 : c < 2 ^ A.1 0 := hc2
      rw [(t2 c hc2).2]
      show outL n o cv uv c = (if 512 * A.1 2 ≤ 512 * A.1 2 + c ∧ 512 * A.1 2 + c < 512 * A.1 2 + 2 ^ A.1 0 then outL n o cv uv (512 * A.1 2 + c - 512 * A.1 2) else A.2 8 (512 * A.1 2 + c))
      rw [if_pos (by omega), show 512 * A.1 2 + c - 512 * A.1 2 = c by omega]
    · rw [o35 5 (by omega), fM_no rfl]
    · rw [o35 23 (by omega), fM_nob rfl]
    have e37 : ∀ k, k ≠ 5 → k ≠ 23 → k ≠ 24 → ¬ (64 + 8 * A.1 2 ≤ k ∧ k ≤ 64 + 8 * A.1 2 + 4) → M37 k = fM M k := fun k a b c d => by rw [g37.1 k a b c (by omega), o35 k d]
    have l37 : ∀ r, r ≤ 3 → M37 (64 + 8 * A.1 2 + r) = M35 (64 + 8 * A.1 2 + r) := fun r hr => g37.1 _ (by omega) (by omega) (by omega) (by omega)
    have m37 : M37 1 10 = nI (A.1 2) := by rw [e37 1 (by omega) (by omega) (by omega) (by omega), fM_no rfl]; exact hR.lawn
    refine ⟨lw, ⟨by omega, by omega⟩, by rw [m37]; exact vin hl (by omega), ?_⟩
    rw [m37, nI_clamp (show A.1 2 < 2 ^ 31 by omega)]
    intro M42 e42
    have a110 : M42 1 10 = nI (A.1 2) := by rw [e42, up_of _ _ _ _ (by omega)]; exact m37
    rw [a110]
    refine hq P17 _ N19 z17 ?_
    rw [nI_1]
    have F : ∀ k, k ≠ 1 → k ≠ 3 → k ≠ 11 → upM (upM M42 1 10 (nI (A.1 2 + 1))) 3 1 0 k = M37 k := fun k a b c => by rw [upM_ne _ _ _ b, upM_ne _ _ _ a, e42, upM_ne _ _ _ c]
    have F1 : ∀ j, upM (upM M42 1 10 (nI (A.1 2 + 1))) 3 1 0 1 j = if j = 10 then nI (A.1 2 + 1) else fM M 1 j := fun j => by
      rw [up_of _ _ _ _ (by omega), up_at, e42, up_of _ _ _ _ (by omega), e37 1 (by omega) (by omega) (by omega) (by omega)]
    have F3 : upM (upM M42 1 10 (nI (A.1 2 + 1))) 3 1 0 3 1 = 0 := by rw [up_at, if_pos rfl]
    have F11 : ∀ j, upM (upM M42 1 10 (nI (A.1 2 + 1))) 3 1 0 11 j = if j = A.1 2 then nI (64 + 8 * A.1 2) else M 11 j := fun j => by
      rw [up_of _ _ _ _ (by omega), up_of _ _ _ _ (by omega), e42, up_at, e37 11 (by omega) (by omega) (by omega) (by omega), fM_nob rfl]
    generalize upM (upM M42 1 10 (nI (A.1 2 + 1))) 3 1 0 = MF at F F1 F3 F11 ⊢
    have G : ∀ k, k ≠ 1 → k ≠ 3 → k ≠ 5 → k ≠ 11 → k ≠ 23 → k ≠ 24 → ¬ (64 + 8 * A.1 2 ≤ k ∧ k ≤ 64 + 8 * A.1 2 + 4) → MF k = fM M k := fun k a b c d e f g => by rw [F k a b d, e37 k c e f g]
    have G5 : ∀ j, j ≠ 6 → j ≠ 7 → MF 5 j = fM M 5 j := fun j a b => by rw [F 5 (by omega) (by omega) (by omega), g37.2 j a b, o35 5 (by omega)]
    have GL : ∀ r, r ≤ 3 → MF (64 + 8 * A.1 2 + r) = M35 (64 + 8 * A.1 2 + r) := fun r hr => by rw [F _ (by omega) (by omega) (by omega), l37 r hr]
    have r35 : ∀ j, M35 (64 + 8 * A.1 2 + 0) j = M18 (64 + 8 * A.1 2) j := fun j => by rw [Nat.add_zero, t1 _ (by omega) (by omega), m33 _ (by omega)]
    have RF : RelC P17 MF (lawA A n o cv uv) := by
      refine hR.f.addLaw hl h12 wf' z17 X17 (fun k j hk a b c d => ?_) (by rw [F1, if_pos rfl]) (by rw [F1, if_neg (by omega)]) F3 (fun j => by rw [F11, fM_nob rfl]) (fun k a b j _ _ => by rw [G k (by omega) (by omega) (by omega) (by omega) (by omega) (by omega) b]) ?_ (fun j hj => ?_) (fun c hc2 => ?_) (fun c hc2 => ?_) (fun k a b _ => G k (by omega) (by omega) (by omega) (by omega) (by omega) (by omega) b)
      · by_cases k5 : k = 5
        · subst k5
          have hj : j = 1 := hk
          subst hj
          exact G5 1 (by omega) (by omega)
        · have hk2 := pCs_key hk
          rw [G k a b k5 c (by omega) (by omega) (by omega)]
      · have := GL 0 (by omega)
        rw [Nat.add_zero] at this
        rw [this]
        exact (r35 0).trans g0
      · rw [GL 1 (by omega), t1 _ (by omega) (by omega)]; exact r33 j hj
      · rw [GL 2 (by omega)]; exact (t2 c hc2).1
      · rw [GL 3 (by omega)]; exact (t2 c hc2).2
    have ag := agl_law (A := A) (n := n) (o := o) (cv := cv) (uv := uv) hR.num
    have gN : N19 35 = N 35 ∧ N19 36 = N 36 := by
      have zn : ∀ k, k ≠ 64 + 8 * A.1 2 → zN N (64 + 8 * A.1 2) k = N k := fun k hk => if_neg hk
      exact ⟨by rw [n19 35 (by omega), zn 35 (by omega)], by rw [n19 36 (by omega), zn 36 (by omega)]⟩
    refine ⟨RF, X17, fun l hll => ?_, ?_, hMk.same (by rw [G 9 (by omega) (by omega) (by omega) (by omega) (by omega) (by omega) (by omega), fM_no rfl]) (by rw [G 40 (by omega) (by omega) (by omega) (by omega) (by omega) (by omega) (by omega), fM_nob rfl]) (by omega), ?_, ?_, fun j hj => ?_, fun j hj => ?_⟩
    · by_cases z : l < A.1 2
      · refine laws_ag ag.1 z ?_ ?_ ?_ (hL l z)
        · rw [G _ (by omega) (by omega) (by omega) (by omega) (by omega) (by omega) (by omega), fM_nob (kob_lrow (by omega) (by omega) (by omega))]
        · rw [G _ (by omega) (by omega) (by omega) (by omega) (by omega) (by omega) (by omega), fM_no (rsl_ob (kob_law (l := l) (by omega)) (j := 5) rfl)]
        · rw [G _ (by omega) (by omega) (by omega) (by omega) (by omega) (by omega) (by omega), fM_no (rsl_ob (kob_law (l := l) (by omega)) (j := 6) rfl)]
      · have hll : l < A.1 2 + 1 := hll
        obtain rfl : l = A.1 2 := by omega
        have e4 : MF (64 + 8 * A.1 2 + 4) = M37 (64 + 8 * A.1 2 + 4) := F _ (by omega) (by omega) (by omega)
        refine ⟨?_, ?_, ?_, Or.inl ?_⟩
        · unfold WayS; rw [e4]; exact y1
        · unfold WayE; rw [e4]; exact y2
        · unfold WayB; rw [e4]; exact y3
        · have := GL 0 (by omega)
          rw [Nat.add_zero] at this
          rw [this]
          exact (r35 5).trans g5
    · obtain ⟨s, s1, s2, s3⟩ := S37
      refine ⟨s, by omega, ?_, fun i hi => ?_⟩
      · rw [F 5 (by omega) (by omega) (by omega)]; exact s2
      · rw [F 23 (by omega) (by omega) (by omega)]; exact s3 i hi
    · have z8 : fM M 8 6 = M 8 6 ∧ fM M 8 7 = M 8 7 ∧ fM M 8 8 = M 8 8 ∧ fM M 8 9 = M 8 9 ∧ fM M 8 10 = M 8 10 := ⟨fM_no rfl, fM_no rfl, fM_no rfl, fM_no rfl, fM_no rfl⟩
      have z37 : fM M 37 = M 37 := fM_nob rfl
      have aF : AskOK (fM M) N A := by
        intro z
        rw [z8.2.2.2.2] at z
        obtain ⟨l, o', two, root, rs, ⟨a1, a2, a3, a4⟩, b8, b9, r1, r2, T⟩ := hAsk z
        refine ⟨l, o', two, root, rs, ⟨a1, a2, z8.1.trans a3, z8.2.1.trans a4⟩, z8.2.2.1.trans b8, z8.2.2.2.1.trans b9, r1, r2, fun k s v => ?_⟩
        obtain ⟨x1, x2, x3⟩ := T k s v
        exact ⟨x1, x2, by rw [z37]; exact x3⟩
      exact ask_ag ag (G 8 (by omega) (by omega) (by omega) (by omega) (by omega) (by omega) (by omega)) (G 37 (by omega) (by omega) (by omega) (by omega) (by omega) (by omega) (by omega)) gN.1 gN.2 aF
    · refine hRef.ag (Nat.le_succ _) ?_ ?_
      · rw [G 8 (by omega) (by omega) (by omega) (by omega) (by omega) (by omega) (by omega), fM_no rfl]
      · rw [G 8 (by omega) (by omega) (by omega) (by omega) (by omega) (by omega) (by omega), fM_no rfl]
    · have hj : A.1 2 + 1 ≤ j := hj
      rw [F11, if_neg (by omega)]
      exact h11 j (by omega)
    · rw [G 12 (by omega) (by omega) (by omega) (by omega) (by omega) (by omega) (by omega), fM_nob rfl]
      exact h12z j hj
  · have o35 : ∀ k, ¬ (64 + 8 * A.1 2 ≤ k ∧ k ≤ 64 + 8 * A.1 2 + 4) → M35 k = fM M k := fun k hk => by rw [t1 k (by omega) (by omega), m33 k (by omega), out k hk]
    have m22 : M35 2 2 = nI (2 ^ A.1 0) := by rw [o35 2 (by omega), fM_no rfl]; exact hR.cases
    have cl : clsOf M35 n o st un en cv uv := by
      refine ⟨by rw [o35 4 (by omega), fM_no rfl]; exact hc.1, fun j hj => ?_⟩
      rw [o35 19 (by omega), o35 20 (by omega), o35 21 (by omega), o35 22 (by omega), o35 18 (by omega), fM_nob rfl, fM_nob rfl, fM_nob rfl, fM_nob rfl, fM_nob rfl]
      exact hc.2 j hj
    have hh := hN_lt n cv uv c
    refine h60 _ _ (br_f (by rw [m22]; exact nI_ge hcc (by omega)) ⟨lw, s11_holds cl h12 (fun j hj => (hoe j hj).2) (by omega) ?_⟩)
    have j2 : jin P17 (64 + 8 * A.1 2 + 2) (nI c) := jin_of ia2 hcc (by omega)
    have j3 : jin P17 (64 + 8 * A.1 2 + 3) (nI c) := jin_of ia3 hcc (by omega)
    refine ⟨j2, lw, lw, j2, lw, ?_⟩
    rw [nI_clamp (show c < 2 ^ 31 by omega), up_at, if_pos rfl]
    have u0 : upM M35 (64 + 8 * A.1 2 + 2) c (nI (hN n cv uv c)) (64 + 8 * A.1 2) 0 = nI n := by
      rw [up_of _ _ _ _ (by omega), t1 _ (by omega) (by omega), m33 _ (by omega)]; exact g0
    have u1 : ∀ j, j < n → upM M35 (64 + 8 * A.1 2 + 2) c (nI (hN n cv uv c)) (64 + 8 * A.1 2 + 1) j = nI (o j) := fun j hj => by
      rw [up_of _ _ _ _ (by omega), t1 _ (by omega) (by omega)]; exact r33 j hj
    have go : ∀ v, v = outL n o cv uv c → jin P17 (64 + 8 * A.1 2 + 3) (nI c) ∧ ∀ M56 : jM, M56 = upM (upM M35 (64 + 8 * A.1 2 + 2) c (nI (hN n cv uv c))) (64 + 8 * A.1 2 + 3) c v → R60 (nI c + 1) M56 := by
      rintro v rfl
      refine ⟨j3, fun M56 e56 => ?_⟩
      rw [nI_1]
      refine ih M56 (fun k a b => by rw [e56, upM_ne _ _ _ b, upM_ne _ _ _ a]; exact t1 k a b) (fun d hd => ?_)
      rw [e56]
      by_cases z : d = c
      · subst z
        exact ⟨by rw [up_of _ _ _ _ (by omega), up_at, if_pos rfl], by rw [up_at, if_pos rfl]⟩
      · have := t2 d (by omega)
        exact ⟨by rw [up_of _ _ _ _ (by omega), up_at, if_neg z]; exact this.1, by rw [up_at, if_neg z, up_of _ _ _ _ (by omega)]; exact this.2⟩
    refine s11_outG lw ia1 u0 h12 hh (fun e => ?_) (fun e => ?_)
    · exact go _ (by unfold outL; rw [if_pos e])
    · exact go _ (by unfold outL; rw [if_neg e]; exact u1 _ (lowb_lt n h12 _ hh e))
