/-! asking out: the class's calls -/
theorem pdR_top : ∀ n a, a < 2 ^ n → pdR n a (2 ^ pcR n a - 1) = a
  | 0, a, ha => by
    rw [show a = 0 by omega]
    rfl
  | n + 1, a, ha => by
    have e : pcR (n + 1) a = pcR n (a / 2) + a % 2 := rfl
    have hp := Nat.two_pow_pos (pcR n (a / 2))
    have ih := pdR_top n (a / 2) (by rw [Nat.pow_succ] at ha; omega)
    unfold pdR
    by_cases h : a % 2 = 1
    · rw [if_pos h, e, h, Nat.pow_succ, show (2 ^ pcR n (a / 2) * 2 - 1) / 2 = 2 ^ pcR n (a / 2) - 1 by omega, ih]
      omega
    · rw [if_neg h, e, show a % 2 = 0 by omega, Nat.add_zero, ih]
      omega
theorem dcR_ok : ∀ m a k, a < 2 ^ m → k + 1 < 2 ^ pcR m a → (pdR m a (k + 1) - 1) &&& a = pdR m a k
  | 0, a, k, ha, hk => by
    have e : 2 ^ pcR 0 a = 1 := rfl
    omega
  | m + 1, a, k, ha, hk => by
    have e : pcR (m + 1) a = pcR m (a / 2) + a % 2 := rfl
    rw [Nat.pow_succ] at ha
    by_cases h : a % 2 = 1
    · rw [e, h, Nat.pow_succ] at hk
      have e1 : pdR (m + 1) a (k + 1) = 2 * pdR m (a / 2) ((k + 1) / 2) + (k + 1) % 2 := if_pos h
      have e0 : pdR (m + 1) a k = 2 * pdR m (a / 2) (k / 2) + k % 2 := if_pos h
      rw [e1, e0]
      rcases Nat.mod_two_eq_zero_or_one k with z | z
      · have hsub := pdR_sub m (a / 2) (k / 2)
        rw [show (k + 1) / 2 = k / 2 by omega, show (k + 1) % 2 = 1 by omega, z]
        generalize pdR m (a / 2) (k / 2) = x at hsub ⊢
        refine ext2 ?_ ?_
        · rw [half_and, show (2 * x + 1 - 1) / 2 = x by omega, hsub]; omega
        · rw [low_and, show (2 * x + 1 - 1) % 2 = 0 by omega, Nat.zero_mul]; omega
      · have ih := dcR_ok m (a / 2) (k / 2) (by omega) (by omega)
        have hm := pdR_mono m (a / 2) (k / 2) (k / 2 + 1) (Nat.lt_succ_self _) (by omega)
        rw [show (k + 1) / 2 = k / 2 + 1 by omega, show (k + 1) % 2 = 0 by omega, z]
        generalize pdR m (a / 2) (k / 2) = x at ih hm ⊢
        generalize pdR m (a / 2) (k / 2 + 1) = y at ih hm ⊢
        refine ext2 ?_ ?_
        · rw [half_and, show (2 * y + 0 - 1) / 2 = y - 1 by omega, ih]; omega
        · rw [low_and, h, show (2 * y + 0 - 1) % 2 = 1 by omega]; omega
    · have h0 : a % 2 = 0 := by omega
      rw [e, h0] at hk
      simp only [Nat.add_zero] at hk
      have e1 : pdR (m + 1) a (k + 1) = 2 * pdR m (a / 2) (k + 1) := if_neg h
      have e0 : pdR (m + 1) a k = 2 * pdR m (a / 2) k := if_neg h
      have ih := dcR_ok m (a / 2) k (by omega) hk
      have hm := pdR_mono m (a / 2) k (k + 1) (Nat.lt_succ_self _) hk
      rw [e1, e0]
      generalize pdR m (a / 2) k = x at ih hm ⊢
      generalize pdR m (a / 2) (k + 1) = y at ih hm ⊢
      refine ext2 ?_ ?_
      · rw [half_and, show (2 * y - 1) / 2 = y - 1 by omega, ih]; omega
      · rw [low_and, h0, Nat.mul_zero]; omega
theorem pd_down {a k : Nat} (ha : a < 512) (hk : k + 1 < 2 ^ popc a) : (nI (pd a (k + 1)) - 1) &&& nI a = nI (pd a k) := by
  have h1 := (pd_step a ha k (by omega)).2.2.2 hk
  have e : nI (pd a (k + 1)) - 1 = nI (pd a (k + 1) - 1) := pk_sub (a := pd a (k + 1)) (b := 1) (by omega)
  rw [e, nI_and]
  congr 1
  rw [popc_R a ha] at hk
  exact dcR_ok 32 a k (by omega) hk
theorem pd_top {a : Nat} (ha : a < 512) : pd a (2 ^ popc a - 1) = a := by
  rw [popc_R a ha]
  exact pdR_top 32 a (by omega)
def AskOK (M : jM) (N : jN) (A : aS) : Prop := M 8 10 = 0 → ∃ (l o : Nat) (two : Bool) (root rs : Nat), askH M A l o two ∧ M 8 8 = nI root ∧ M 8 9 = nI rs ∧ root < 2 ^ A.1 0 ∧ rs &&& root = rs ∧ ∀ k s, vld (A.1 0) root rs k s → T11 M N A l o two k s
theorem me_o {A : aS} {l o o' : Nat} : ∀ d kn so, meN A l o false d kn so = meN A l o' false d kn so ∧ woN A l o false d kn so = woN A l o' false d kn so
  | 0, _, _ => ⟨rfl, rfl⟩
  | d + 1, kn, so => by
    have ih := fun k s => me_o (A := A) (l := l) (o := o) (o' := o') d k s
    constructor
    · show (if isO A l o false kn so = true then 0 else mnB _ _ _ _) = if isO A l o' false kn so = true then 0 else mnB _ _ _ _
      rw [mnB_congr (h := fun f => mbyN (shR A kn so) (miA A f) (meN A l o' false d (kn ||| 2 ^ f) so) (meN A l o' false d (kn ||| 2 ^ f) (so ||| 2 ^ f))) _ (fun f _ _ => by show mbyN _ _ (meN A l o false d _ _) (meN A l o false d _ _) = _; rw [(ih _ _).1, (ih _ _).1])]
      rfl
    · show (if isO A l o false kn so = true then 0 else mnB _ _ _ _) = if isO A l o' false kn so = true then 0 else mnB _ _ _ _
      rw [mnB_congr (h := fun f => wbyN (miA A f) (woN A l o' false d (kn ||| 2 ^ f) so) (woN A l o' false d (kn ||| 2 ^ f) (so ||| 2 ^ f))) _ (fun f _ _ => by show wbyN _ (woN A l o false d _ _) (woN A l o false d _ _) = _; rw [(ih _ _).2, (ih _ _).2])]
      rfl
theorem T11.o {M : jM} {N : jN} {A : aS} {l o o' k s : Nat} (h : T11 M N A l o false k s) : T11 M N A l o' false k s := by
  obtain ⟨a, b, c⟩ := h
  obtain ⟨e1, e2⟩ := me_o (A := A) (l := l) (o := o) (o' := o') (A.1 0) k s
  refine ⟨a, b.trans ?_, c.trans ?_⟩
  · show mI (meN A l o false (A.1 0) k s) = mI (meN A l o' false (A.1 0) k s)
    rw [e1]
  · show wI (woN A l o false (A.1 0) k s) = wI (woN A l o' false (A.1 0) k s)
    rw [e2]
theorem s11_prepare {P : jP} {M : jM} {N : jN} {A : aS} (h : RelC P M A) (hW : ∀ l, l < A.1 2 → WayS M A l) (hA : AskOK M N A) {l o kn so : Nat} {two : Bool} (hl : l < A.1 2) (ho : two = true → o < A.1 2) {k2 : Nat} (hk2 : k2 = if two = true then 64 + 8 * o else 0) (hk : kn < 2 ^ A.1 0) (hs : so < 2 ^ A.1 0) (hsub : so &&& kn = so) {Q : jM → jN → Prop} (hq : ∀ M' N', (∀ k, k ≠ 8 → k ≠ 37 → M' k = M k) → AskOK M' N' A → askH M' A l o two → (∀ k s, vld (A.1 0) kn so k s → T11 M' N' A l o two k s) → Q M' N') : w_X0_prepare P (64 + 8 * l) k2 (nI kn) (nI so) M N Q := by
  have hC := h.C512
  have h9 := h.n9
  have h6 := h.num
  unfold wfNum at h6
  have k2lt : k2 < 2147483648 ∧ (two = true → k2 = 64 + 8 * o) ∧ (two = false → k2 = 0) := by
    cases two with
    | true =>
      rw [if_pos rfl] at hk2
      have := ho rfl
      exact ⟨by omega, fun _ => hk2, fun z => absurd z (by decide)⟩
    | false =>
      rw [if_neg (by decide)] at hk2
      exact ⟨by omega, fun z => absurd z (by decide), fun _ => hk2⟩
  have h87 : nI k2 = if two = true then nI (64 + 8 * o) else 0 := by
    rw [hk2]
    cases two <;> rfl
  unfold w_X0_prepare
  intro R34 h34
  have fresh : R34 := by
    refine h34 ⟨by omega, by omega, k2lt.1, ?_⟩
    rintro M4 rfl
    rintro y5 rfl
    generalize hM0 : upM (upM (upM (upM (upM M 8 6 (nI (64 + 8 * l))) 8 7 (nI k2)) 8 8 (nI kn)) 8 9 (nI so)) 8 10 0 = M0
    have g0 : ∀ q, q ≠ 8 → M0 q = M q := fun q hq2 => by
      rw [← hM0, upM_ne _ _ _ hq2, upM_ne _ _ _ hq2, upM_ne _ _ _ hq2, upM_ne _ _ _ hq2, upM_ne _ _ _ hq2]
    have m6 : M0 8 6 = nI (64 + 8 * l) := by rw [← hM0, up_at, if_neg (by omega), up_at, if_neg (by omega), up_at, if_neg (by omega), up_at, if_neg (by omega), up_at, if_pos rfl]
    have m7 : M0 8 7 = nI k2 := by rw [← hM0, up_at, if_neg (by omega), up_at, if_neg (by omega), up_at, if_neg (by omega), up_at, if_pos rfl]
    have m8 : M0 8 8 = nI kn := by rw [← hM0, up_at, if_neg (by omega), up_at, if_neg (by omega), up_at, if_pos rfl]
    have m9 : M0 8 9 = nI so := by rw [← hM0, up_at, if_neg (by omega), up_at, if_pos rfl]
    have h0 : RelC P M0 A := h.k37 (fun q a _ => g0 q a)
    have hh0 : askH M0 A l o two := ⟨hl, ho, m6, by rw [m7]; exact h87⟩
    have hle : andn (2 ^ A.1 0 - 1) kn ≤ 2 ^ A.1 0 - 1 := andn_le
    rw [g0 2 (by omega), h.full, nI_andn (show 2 ^ A.1 0 - 1 < 4096 by omega)]
    have hop : andn (2 ^ A.1 0 - 1) kn < 2 ^ A.1 0 := by have := Nat.two_pow_pos (A.1 0); omega
    have obit : ∀ i, i < 9 → (andn (2 ^ A.1 0 - 1) kn).testBit i = (decide (i < A.1 0) && !kn.testBit i) := fun i hi => by
      rw [andn_bit (by omega), Nat.testBit_two_pow_sub_one]
    have bigF : ∀ x i, x < 2 ^ A.1 0 → ¬ i < A.1 0 → x.testBit i = false := fun x i hx hi => Nat.testBit_lt_two_pow (Nat.lt_of_lt_of_le hx (Nat.pow_le_pow_right (by omega) (by omega)))
    have okn : ∀ i, ((andn (2 ^ A.1 0 - 1) kn).testBit i && kn.testBit i) = false := fun i => by
      by_cases hi : i < A.1 0
      · rw [obit i (by omega)]
        cases kn.testBit i <;> simp
      · rw [bigF _ _ hop hi, Bool.false_and]
    have oall : ∀ i, i < A.1 0 → ((andn (2 ^ A.1 0 - 1) kn).testBit i || kn.testBit i) = true := fun i hi => by
      rw [obit i (by omega), decide_eq_true hi]
      cases kn.testBit i <;> rfl
    generalize hopen : andn (2 ^ A.1 0 - 1) kn = opn at hop okn oall ⊢
    have h512 : opn < 512 := by omega
    have hpc := pow_popc (a := opn)
    have hpp := Nat.two_pow_pos (popc opn)
    -- a set of known facts that goes on from the root
    have split : ∀ k s, vld (A.1 0) kn so k s → k = kn ||| (k &&& opn) := fun k s hv => by
      apply Nat.eq_of_testBit_eq
      intro i
      rw [Nat.testBit_or, Nat.testBit_and]
      have a1 : (kn.testBit i && k.testBit i) = kn.testBit i := by rw [← Nat.testBit_and, hv.2.1]
      by_cases hi : i < A.1 0
      · have a2 := oall i hi
        revert a1 a2
        cases kn.testBit i <;> cases k.testBit i <;> cases opn.testBit i <;> decide
      · rw [bigF k i hv.1 hi, bigF kn i hk hi]; rfl
    have rank : ∀ k, k < 2 ^ A.1 0 → px opn (k &&& opn) < 2 ^ popc opn ∧ pd opn (px opn (k &&& opn)) = k &&& opn := fun k hk3 => px_ok opn h512 (k &&& opn) (Nat.lt_of_le_of_lt Nat.and_le_right (by omega)) (by rw [Nat.and_assoc, Nat.and_self])
    intro R80 h80
    have loop := lp_dn (R := fun j => j ≤ 2 ^ popc opn → ∀ M' N', (∀ q, q ≠ 37 → M' q = M0 q) → (∀ k s, vld (A.1 0) kn so k s → j ≤ px opn (k &&& opn) → T11 M' N' A l o two k s) → ∀ x : Int32, (1 ≤ j → x = nI (pd opn (j - 1))) → R80 x (nI (2 ^ popc opn - j)) M' N') ?_ ?_ (2 ^ popc opn) (Nat.le_refl _) M0 N (fun _ _ => rfl) (fun k s hv hj => absurd hj (by have := (rank k hv.1).1; omega)) (nI opn) (fun _ => by rw [pd_top h512])
    · rw [Nat.sub_self] at loop
      exact loop
    · intro _ M' N' g t x _
      refine h80 _ _ _ _ (s_bc ?_)
      rw [shl_popc (show opn < 4096 by omega), Nat.sub_zero]
      have gg : ∀ q, q ≠ 8 → q ≠ 37 → M' q = M q := fun q a b => (g q b).trans (g0 q a)
      have e8 : M' 8 = M0 8 := g 8 (by omega)
      have hh' : askH M' A l o two := by
        unfold askH
        rw [e8]; exact hh0
      have tt : ∀ k s, vld (A.1 0) kn so k s → T11 M' N' A l o two k s := fun k s hv => t k s hv (Nat.zero_le _)
      exact br_t (nI_le (Nat.le_refl _) (by omega)) (hq M' N' gg (fun _ => ⟨l, o, two, kn, so, hh', by rw [e8]; exact m8, by rw [e8]; exact m9, hk, hsub, tt⟩) hh' tt)
    · intro j ih hj M' N' g t x hx
      have hx := hx (by omega)
      rw [show j + 1 - 1 = j by omega] at hx
      obtain ⟨-, p2, p3, -⟩ := pd_step opn h512 j (by omega)
      have h' : RelC P M' A := h0.k37 (fun q _ b => g q b)
      have e8 : M' 8 = M0 8 := g 8 (by omega)
      have hh' : askH M' A l o two := by
        unfold askH
        rw [e8]; exact hh0
      have hW' : ∀ l, l < A.1 2 → WayS M' A l := fun q hq2 => by
        unfold WayS
        rw [g (64 + 8 * q + 4) (by omega), g0 (64 + 8 * q + 4) (by omega)]
        exact hW q hq2
      refine h80 _ _ _ _ (s_bc ?_)
      rw [shl_popc (show opn < 4096 by omega), hx]
      have pk : ∀ i, ((pd opn j).testBit i && kn.testBit i) = false := fun i => by
        have a1 : ((pd opn j).testBit i && opn.testBit i) = (pd opn j).testBit i := by rw [← Nat.testBit_and, p2]
        have a2 := okn i
        revert a1 a2
        cases (pd opn j).testBit i <;> cases kn.testBit i <;> cases opn.testBit i <;> decide
      have hdis : pd opn j &&& kn = 0 := by
        apply Nat.eq_of_testBit_eq
        intro i
        rw [Nat.testBit_and, Nat.zero_testBit]
        exact pk i
      have hand : (kn ||| pd opn j) &&& opn = pd opn j := by
        apply Nat.eq_of_testBit_eq
        intro i
        have a1 : ((pd opn j).testBit i && opn.testBit i) = (pd opn j).testBit i := by rw [← Nat.testBit_and, p2]
        have a2 := okn i
        rw [Nat.testBit_and, Nat.testBit_or]
        revert a1 a2
        cases (pd opn j).testBit i <;> cases kn.testBit i <;> cases opn.testBit i <;> decide
      have hkn : kn ||| pd opn j < 2 ^ A.1 0 := Nat.or_lt_two_pow hk (by omega)
      have pxj : px opn (pd opn j) = j := by
        obtain ⟨r1, r2⟩ := rank (kn ||| pd opn j) hkn
        rw [hand] at r1 r2
        rcases Nat.lt_trichotomy (px opn (pd opn j)) j with q | q | q
        · have := pd_mono h512 j q (by omega)
          omega
        · exact q
        · have := pd_mono h512 _ q r1
          omega
      refine br_f (nI_ge (show 2 ^ popc opn - (j + 1) < 2 ^ popc opn by omega) (by omega)) (s11_fillAll h' hW' hh' (by rw [e8]; exact m8) (by rw [e8]; exact m9) hk hsub (by omega) hdis (fun f hf hb s hv => ?_) (fun M2 N2 g2 t2 t3 => ?_))
      · refine t _ s hv ?_
        -- it knows more
        have hgt := or_gt hb
        obtain ⟨r1, r2⟩ := rank _ hv.1
        have hopf : opn.testBit f = true := by
          have a := oall f hf
          have b : kn.testBit f = false := Bool.eq_false_iff.mpr (fun z => hb (by rw [Nat.testBit_or, z]; rfl))
          rw [b, Bool.or_false] at a
          exact a
        have hand2 : ((kn ||| pd opn j) ||| 2 ^ f) &&& opn = pd opn j ||| 2 ^ f := by
          apply Nat.eq_of_testBit_eq
          intro i
          have a0 := congrArg (fun x => x.testBit i) hand
          simp only [Nat.testBit_and] at a0
          rw [Nat.testBit_and, ob, ob, Bool.and_or_distrib_right, a0]
          by_cases e : f = i
          · subst e; rw [hopf, Bool.and_true]
          · rw [decide_eq_false e, Bool.false_and]
        have hpf : ¬ (pd opn j).testBit f = true := fun z => hb (by rw [Nat.testBit_or, z, Bool.or_true])
        have hgt2 := or_gt hpf
        rw [hand2] at r1 r2 ⊢
        apply Classical.byContradiction
        intro hn
        have hn : px opn (pd opn j ||| 2 ^ f) ≤ j := by omega
        rcases Nat.lt_or_eq_of_le hn with q | q
        · have := pd_mono h512 j q (by omega)
          omega
        · rw [q] at r2; omega
      · rw [nI_1, show 2 ^ popc opn - (j + 1) + 1 = 2 ^ popc opn - j by omega]
        refine ih (by omega) M2 N2 (fun q hq2 => (g2 q hq2).trans (g q hq2)) (fun k s hv hjx => ?_) _ (fun hj1 => ?_)
        · by_cases e : k = kn ||| pd opn j
          · rw [e] at hv ⊢
            exact t3 s hv
          · refine t2 k s hv e (t k s hv ?_)
            apply Classical.byContradiction
            intro hn
            have e2 : px opn (k &&& opn) = j := by omega
            have r2 := (rank k hv.1).2
            rw [e2] at r2
            exact e (by rw [r2]; exact split k s hv)
        · have hd := pd_down (a := opn) (k := j - 1) h512 (by omega)
          rw [show j - 1 + 1 = j by omega] at hd
          exact hd
  refine br_c (fun _ => fresh) (fun z => ?_) |> fun x => ⟨fun z => x.1 z, fun z => x.2 (fun y => y z)⟩
  have z : M 8 10 = 0 := Classical.byContradiction z
  obtain ⟨l', o', two', root, rs, hh, r1, r2, r3, r4, ht⟩ := hA z
  obtain ⟨hl', ho', e6, e7⟩ := hh
  rw [e6, nI_clamp (show 64 + 8 * l' < 2 ^ 31 by omega)]
  refine ⟨by omega, ⟨Or.inr (h.lw hl), Or.inr (h.lw hl')⟩, fun _ => fresh, fun el => ?_⟩
  have el : l = l' := by omega
  have jp1 : jpl P k2 := by
    cases two with
    | true =>
      rw [k2lt.2.1 rfl]
      exact Or.inr (h.lw (ho rfl))
    | false => exact Or.inl (k2lt.2.2 rfl)
  have e7c : (M 8 7).toNatClampNeg = if two' = true then 64 + 8 * o' else 0 := by
    rw [e7]
    cases two' with
    | true =>
      have := ho' rfl
      rw [if_pos rfl, if_pos rfl, nI_clamp (by omega)]
    | false => rfl
  have jp2 : jpl P ((M 8 7).toNatClampNeg) := by
    rw [e7c]
    cases two' with
    | true => exact Or.inr (h.lw (ho' rfl))
    | false => exact Or.inl rfl
  refine ⟨⟨jp1, jp2⟩, fun _ => fresh, fun ek => ?_⟩
  have et : two = two' ∧ (two = true → o = o') := by
    rw [e7c] at ek
    cases two with
    | true =>
      rw [k2lt.2.1 rfl] at ek
      cases two' with
      | true => rw [if_pos rfl] at ek; exact ⟨rfl, fun _ => by omega⟩
      | false => rw [if_neg (by decide)] at ek; omega
    | false =>
      rw [k2lt.2.2 rfl] at ek
      cases two' with
      | true => rw [if_pos rfl] at ek; omega
      | false => exact ⟨rfl, fun y => absurd y (by decide)⟩
  have rsl : rs < 2 ^ 31 := by
    have : rs ≤ root := by rw [← r4]; exact Nat.and_le_right
    omega
  unfold w_X0_isFilled
  rw [r1, r2, sub_iff (show root < 4096 by omega), nI_and, nI_eq (Nat.lt_of_le_of_lt Nat.and_le_left (show so < 2 ^ 31 by omega)) rsl]
  refine bn_c (fun _ => ⟨fun _ => fresh, fun y => absurd rfl y⟩) (fun y1 => bn_c (fun _ => ⟨fun _ => fresh, fun y => absurd rfl y⟩) (fun y2 => ⟨fun y => absurd y (by decide), fun _ => ?_⟩))
  have hh' : askH M A l o two := by
    obtain ⟨et1, et2⟩ := et
    refine ⟨hl, ho, by rw [e6, el], ?_⟩
    rw [e7, ← et1]
    cases two with
    | true => rw [et2 rfl]
    | false => rfl
  refine hq M N (fun _ _ _ => rfl) hA hh' (fun k s hv => ?_)
  have hv2 : vld (A.1 0) root rs k s := by
    refine ⟨hv.1, ?_, hv.2.2.1, ?_⟩
    · rw [← y1, Nat.and_assoc, hv.2.1]
    · rw [← y1, Nat.and_comm root kn, ← Nat.and_assoc, hv.2.2.2]; exact y2
  have T := ht k s hv2
  rw [← el] at T
  obtain ⟨et1, et2⟩ := et
  rw [← et1] at T
  cases two with
  | true => rw [et2 rfl]; exact T
  | false => exact T.o
