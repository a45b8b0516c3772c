/-! FROM THE CLASS'S WORLD INTO THE RAW ONE AND BACK; copies; arrays of references written -/
def jsw (X : jX) (L' : jL) : jX := (X.1, X.2.1, X.2.2.1, X.2.2.2.1, L')
theorem jok.sw {X : jX} {l0 : Launch} {y : MethodName} {cc : ByteArray} {nL : Nat} {ret : Option FieldType} {rm : Room} {L0 : jL} (o : jok X l0 y cc nL ret rm L0) (L' : jL) : jok (jsw X L') l0 y cc nL ret rm L' := by
  obtain ⟨⟨p, l, e, R, s, m, args, below, meth, c⟩, D, tA, A, L⟩ := X
  obtain ⟨hx, hb, hml, hown, hts, hr, hK, hA, hlk, hnm, hR, hl0, hL0⟩ := o
  exact ⟨hx, hb, hml, hown, hts, hr, hK, hA, hlk, hnm, hR, hl0, rfl⟩
/-- the static keys are there -/
def presK (P : jP) : Prop := ∀ k, 1 ≤ k → k ≤ 44 → P.2.1 k = true
/-- the cells of the tables that turn a reference on -/
def rsl (k j : Nat) : Bool := match kob k with
  | some x => (match x.2[j]? with | some d => !(Nat.beq d 0 || Nat.beq d 1000 || Nat.beq d 1001) | none => false)
  | none => false
def fM (M : jM) : jM := fun k j => if rsl k j = true then 1 else M k j
theorem rfls_eq {P : jP} {f f' : Nat → Int32} {h : Nat → Int64} (ds : List Nat) : ∀ (i : Nat), (∀ j d, ds[j]? = some d → rfv P f h (i + j) d = rfv P f' h (i + j) d) → rfls P f h i ds = rfls P f' h i ds := by
  induction ds with
  | nil => intro i _; rfl
  | cons d ds ih =>
    intro i hd
    show rfv P f h i d :: rfls P f h (i + 1) ds = rfv P f' h i d :: rfls P f' h (i + 1) ds
    rw [show rfv P f h i d = rfv P f' h i d from hd 0 d rfl, ih (i + 1) (fun j d' hj => by
      have := hd (j + 1) d' hj
      rw [show i + 1 + j = i + (j + 1) by omega]
      exact this)]
theorem kob_lw {P : jP} {k : Nat} (h : cLw P k = true) : kob k = some (4, [0, k + 1, k + 2, k + 3, k + 4, 0, 0]) := by
  unfold cLw at h
  simp only [Bool.and_eq_true, Nat.ble_eq, Nat.blt_eq] at h
  unfold kob
  rw [if_pos (by rw [Nat.ble_eq]; omega), if_pos]
  simp only [Bool.and_eq_true, Nat.ble_eq, Nat.blt_eq]
  exact h.1
theorem kob_fm {P : jP} {k : Nat} (h : cFm P k = true) : kob k = some (2, [0, k + 1, k + 2, k + 3]) := by
  have h2 := (cFm_ia h).2.1
  unfold cFm at h
  simp only [Bool.and_eq_true, Nat.ble_eq, Nat.blt_eq] at h
  unfold kob
  rw [if_pos (by rw [Nat.ble_eq]; omega), if_neg, if_pos]
  · simp only [Bool.and_eq_true, Nat.ble_eq, Nat.blt_eq]
    exact h.1
  · simp only [Bool.and_eq_true, Nat.ble_eq, Nat.blt_eq]
    omega
theorem LC_absent {tA : Nat → ClassId} {P : jP} {k : Nat} {f : Nat → Int32} {h : Nat → Int64} (hk : 45 ≤ k) (hp : P.2.1 k = false) : LC tA P k f h = none := by
  rw [LC_dyn (Or.inl hk)]
  have h1 : cIA P k = none := by
    unfold cIA
    by_cases h64 : k < 64
    · rw [if_pos h64, if_neg]
      simp only [Bool.and_eq_true, Nat.ble_eq]
      omega
    · rw [if_neg h64]
      by_cases h112 : k < 112
      · rw [if_pos h112, hp]
        split <;> rfl
      · rw [if_neg h112, if_neg]
        rw [hp, Bool.and_false]
        decide
  have h2 : cLw P k = false := by
    unfold cLw
    rw [hp, Bool.and_false]
  have h3 : cFm P k = false := by
    unfold cFm
    rw [hp, Bool.and_false]
  unfold cdyn
  rw [h1]
  show (if cLw P k = true then _ else if cFm P k = true then _ else none) = none
  rw [if_neg (by rw [h2]; decide), if_neg (by rw [h3]; decide)]
theorem LK_fl {P : jP} (hp : presK P) {k : Nat} {f : Nat → Int32} (tA : Nat → ClassId) (h : Nat → Int64) : LR kob LC tA P k (fun j => if rsl k j = true then 1 else f j) h = LC tA P k f h := by
  by_cases hk : P.2.1 k = true
  · cases hob : kob k with
    | none =>
      have er : ∀ j, rsl k j = false := fun j => by unfold rsl; rw [hob]
      have ef : (fun j => if rsl k j = true then 1 else f j) = f := by
        funext j
        rw [if_neg (by rw [er j]; decide)]
      rw [ef]
      exact LR_ar hk hob tA f h
    | some x =>
      obtain ⟨ci, ds⟩ := x
      rw [LR_ob hk hob]
      by_cases h11 : 11 ≤ k
      · have hob' := hob
        unfold kob at hob'
        rw [if_pos (by rw [Nat.ble_eq]; exact h11)] at hob'
        by_cases hl : cLw P k = true
        · rw [kob_lw hl] at hob
          cases hob
          rw [LC_lw hl]
          have r : ∀ j, rsl k j = (match ([0, k + 1, k + 2, k + 3, k + 4, 0, 0] : List Nat)[j]? with | some d => !(Nat.beq d 0 || Nat.beq d 1000 || Nat.beq d 1001) | none => false) := fun j => by unfold rsl; rw [kob_lw hl]
          have hk2 : k < 112 := by
            unfold cLw at hl
            simp only [Bool.and_eq_true, Nat.ble_eq, Nat.blt_eq] at hl
            exact hl.1.1.2
          have nb : ∀ m, 1 ≤ m → m ≤ 4 → (!(Nat.beq (k + m) 0 || Nat.beq (k + m) 1000 || Nat.beq (k + m) 1001)) = true := fun m h1 h2 => by
            have b0 : Nat.beq (k + m) 0 = false := by cases e : Nat.beq (k + m) 0 with | true => exact absurd (Nat.eq_of_beq_eq_true e) (by omega) | false => rfl
            have b1 : Nat.beq (k + m) 1000 = false := by cases e : Nat.beq (k + m) 1000 with | true => exact absurd (Nat.eq_of_beq_eq_true e) (by omega) | false => rfl
            have b2 : Nat.beq (k + m) 1001 = false := by cases e : Nat.beq (k + m) 1001 with | true => exact absurd (Nat.eq_of_beq_eq_true e) (by omega) | false => rfl
            rw [b0, b1, b2]
            rfl
          have rv : ∀ j m, 1 ≤ m → m ≤ 4 → rsl k j = (!(Nat.beq (k + m) 0 || Nat.beq (k + m) 1000 || Nat.beq (k + m) 1001)) → rfv P (fun j => if rsl k j = true then 1 else f j) h j (k + m) = .ref (P.1 (k + m)) := fun j m h1 h2 he => rfv_r0 ⟨by omega, by omega, by omega⟩ (show ¬ (if rsl k j = true then (1 : Int32) else f j) = 0 by rw [if_pos (he.trans (nb m h1 h2))]; decide)
          have ri : ∀ j, rsl k j = false → rfv P (fun j => if rsl k j = true then 1 else f j) h j 0 = .int (f j) := fun j he => by
            show Value.int (if rsl k j = true then 1 else f j) = _
            rw [if_neg (by rw [he]; decide)]
          show some (Sum.inr (4, [rfv P _ h 0 0, rfv P _ h 1 (k + 1), rfv P _ h 2 (k + 2), rfv P _ h 3 (k + 3), rfv P _ h 4 (k + 4), rfv P _ h 5 0, rfv P _ h 6 0])) = _
          rw [ri 0 (r 0), rv 1 1 (by omega) (by omega) (r 1), rv 2 2 (by omega) (by omega) (r 2), rv 3 3 (by omega) (by omega) (r 3), rv 4 4 (by omega) (by omega) (r 4), ri 5 (r 5), ri 6 (r 6)]
        · by_cases hfm : cFm P k = true
          · rw [kob_fm hfm] at hob
            cases hob
            rw [LC_fm hfm]
            have r : ∀ j, rsl k j = (match ([0, k + 1, k + 2, k + 3] : List Nat)[j]? with | some d => !(Nat.beq d 0 || Nat.beq d 1000 || Nat.beq d 1001) | none => false) := fun j => by unfold rsl; rw [kob_fm hfm]
            have hk2 : k < 156 := by
              unfold cFm at hfm
              simp only [Bool.and_eq_true, Nat.ble_eq, Nat.blt_eq] at hfm
              exact hfm.1.1.2
            have nb : ∀ m, 1 ≤ m → m ≤ 4 → (!(Nat.beq (k + m) 0 || Nat.beq (k + m) 1000 || Nat.beq (k + m) 1001)) = true := fun m h1 h2 => by
              have b0 : Nat.beq (k + m) 0 = false := by cases e : Nat.beq (k + m) 0 with | true => exact absurd (Nat.eq_of_beq_eq_true e) (by omega) | false => rfl
              have b1 : Nat.beq (k + m) 1000 = false := by cases e : Nat.beq (k + m) 1000 with | true => exact absurd (Nat.eq_of_beq_eq_true e) (by omega) | false => rfl
              have b2 : Nat.beq (k + m) 1001 = false := by cases e : Nat.beq (k + m) 1001 with | true => exact absurd (Nat.eq_of_beq_eq_true e) (by omega) | false => rfl
              rw [b0, b1, b2]
              rfl
            have rv : ∀ j m, 1 ≤ m → m ≤ 4 → rsl k j = (!(Nat.beq (k + m) 0 || Nat.beq (k + m) 1000 || Nat.beq (k + m) 1001)) → rfv P (fun j => if rsl k j = true then 1 else f j) h j (k + m) = .ref (P.1 (k + m)) := fun j m h1 h2 he => rfv_r0 ⟨by omega, by omega, by omega⟩ (show ¬ (if rsl k j = true then (1 : Int32) else f j) = 0 by rw [if_pos (he.trans (nb m h1 h2))]; decide)
            have ri : ∀ j, rsl k j = false → rfv P (fun j => if rsl k j = true then 1 else f j) h j 0 = .int (f j) := fun j he => by
              show Value.int (if rsl k j = true then 1 else f j) = _
              rw [if_neg (by rw [he]; decide)]
            show some (Sum.inr (2, [rfv P _ h 0 0, rfv P _ h 1 (k + 1), rfv P _ h 2 (k + 2), rfv P _ h 3 (k + 3)])) = _
            rw [ri 0 (r 0), rv 1 1 (by omega) (by omega) (r 1), rv 2 2 (by omega) (by omega) (r 2), rv 3 3 (by omega) (by omega) (r 3)]
          · exfalso
            have nl : ¬ (Nat.ble 64 k && Nat.blt k 112 && Nat.beq (k % 8) 0) = true := fun y => hl (by unfold cLw; rw [y, hk]; rfl)
            have nf : ¬ (Nat.ble 128 k && Nat.blt k 156 && Nat.beq (k % 4) 0) = true := fun y => hfm (by unfold cFm; rw [y, hk]; rfl)
            rw [if_neg nl, if_neg nf] at hob'
            cases hob'
      · have hc : k = 0 ∨ k = 1 ∨ k = 2 ∨ k = 3 ∨ k = 4 ∨ k = 5 ∨ k = 6 ∨ k = 7 ∨ k = 8 ∨ k = 9 ∨ k = 10 := by omega
        rcases hc with rfl | rfl | rfl | rfl | rfl | rfl | rfl | rfl | rfl | rfl | rfl
        · cases hob
        all_goals
          cases hob
          rfl
  · have hk' : P.2.1 k = false := by
      cases e : P.2.1 k with
      | true => exact absurd e hk
      | false => rfl
    rw [LR_no hk']
    by_cases h45 : 45 ≤ k
    · rw [LC_absent h45 hk']
    · by_cases h0 : k = 0
      · subst h0; rfl
      · exact absurd (hp k (by omega) (by omega)) hk
theorem LK_LC {P : jP} (hp : presK P) {k : Nat} {f : Nat → Int32} (hf : P.2.1 k = true → ∀ j, rsl k j = true → f j ≠ 0) (tA : Nat → ClassId) (h : Nat → Int64) : LR kob LC tA P k f h = LC tA P k f h := by
  rw [← LK_fl hp tA h]
  by_cases hk : P.2.1 k = true
  · cases hob : kob k with
    | none =>
      have er : ∀ j, rsl k j = false := fun j => by unfold rsl; rw [hob]
      congr 1
      funext j
      rw [if_neg (by rw [er j]; decide)]
    | some x =>
      obtain ⟨ci, ds⟩ := x
      have hf := hf hk
      rw [LR_ob hk hob, LR_ob hk hob]
      have e2 : rfls P f h 0 ds = rfls P (fun j => if rsl k j = true then 1 else f j) h 0 ds := rfls_eq ds 0 (fun j d hj => by
        have er : rsl k j = !(Nat.beq d 0 || Nat.beq d 1000 || Nat.beq d 1001) := by
          unfold rsl
          rw [hob]
          show (match ds[j]? with | some d => _ | none => false) = _
          rw [hj]
        rw [Nat.zero_add]
        by_cases d0 : d = 0
        · subst d0
          have er : rsl k j = false := er
          show Value.int (f j) = Value.int (if rsl k j = true then 1 else f j)
          rw [if_neg (by rw [er]; decide)]
        · by_cases d1 : d = 1000
          · subst d1; rfl
          · by_cases d2 : d = 1001
            · subst d2
              have er : rsl k j = false := er
              show jrf P (f j).toNatClampNeg = jrf P (if rsl k j = true then 1 else f j).toNatClampNeg
              rw [if_neg (by rw [er]; decide)]
            · have er : rsl k j = true := by
                rw [er]
                have b0 : Nat.beq d 0 = false := by cases e : Nat.beq d 0 with | true => exact absurd (Nat.eq_of_beq_eq_true e) d0 | false => rfl
                have b1 : Nat.beq d 1000 = false := by cases e : Nat.beq d 1000 with | true => exact absurd (Nat.eq_of_beq_eq_true e) d1 | false => rfl
                have b2 : Nat.beq d 1001 = false := by cases e : Nat.beq d 1001 with | true => exact absurd (Nat.eq_of_beq_eq_true e) d2 | false => rfl
                rw [b0, b1, b2]
                rfl
              rw [rfv_r0 ⟨d0, d1, d2⟩ (hf j er), rfv_r0 ⟨d0, d1, d2⟩ (show ¬ (if rsl k j = true then (1 : Int32) else f j) = 0 by rw [if_pos er]; decide)])
      rw [e2]
  · have hk' : P.2.1 k = false := by
      cases e : P.2.1 k with
      | true => exact absurd e hk
      | false => rfl
    rw [LR_no hk', LR_no hk']
theorem jsy.toK {D : va_G} {tA : Nat → ClassId} {P : jP} {A : Nat → Prop} {M : jM} {N : jN} {H : Heap} (hp : presK P) (h : jsy LC D tA P A M N H) : jsy (LR kob LC) D tA P A (fM M) N H := by
  have e : ∀ k, LR kob LC tA P k (fM M k) (N k) = LC tA P k (M k) (N k) := fun k => LK_fl hp tA (N k)
  exact ⟨fun k x hx => h.1 k x (by rw [← e k]; exact hx), fun i j x y hx hy hij => h.2 i j x y (by rw [← e i]; exact hx) (by rw [← e j]; exact hy) hij⟩
theorem jsy.ofK {D : va_G} {tA : Nat → ClassId} {P : jP} {A : Nat → Prop} {M : jM} {N : jN} {H : Heap} (hp : presK P) (hf : ∀ k, P.2.1 k = true → ∀ j, rsl k j = true → M k j ≠ 0) (h : jsy (LR kob LC) D tA P A M N H) : jsy LC D tA P A M N H := by
  have e : ∀ k, LR kob LC tA P k (M k) (N k) = LC tA P k (M k) (N k) := fun k => LK_LC hp (hf k) tA (N k)
  exact ⟨fun k x hx => h.1 k x (by rw [e k]; exact hx), fun i j x y hx hy hij => h.2 i j x y (by rw [e i]; exact hx) (by rw [e j]; exact hy) hij⟩
section SW
variable {X : jX} {P : jP} {M : jM} {N : jN} {k n : Nat} {E : State → Prop} {lo : List (Nat × Value)} {st st0 : List Value} {l0 : Launch} {y : MethodName} {cc : ByteArray} {nL : Nat} {ret : Option FieldType} {rm : Room} {L0 : jL} {pc ix : Nat}
theorem j_inK (o : jok X l0 y cc nL ret rm LC) (hp : presK P) (kk : J (jsw X (LR kob LC)) P (fM M) N k n E nL pc lo st) : J X P M N k n E nL pc lo st := by
  obtain ⟨⟨p, l, e, R, s, m, args, below, meth, c⟩, D, tA, A, L⟩ := X
  obtain ⟨-, -, -, -, -, -, -, -, -, -, -, -, hL0⟩ := o
  subst hL0
  intro H locs ls h1 h2 h3
  exact kk H locs ls (h1.toK hp) h2 h3
theorem j_ofK (o : jok X l0 y cc nL ret rm LC) (hp : presK P) (hf : ∀ k, P.2.1 k = true → ∀ j, rsl k j = true → M k j ≠ 0) (kk : J X P M N k n E nL pc lo st) : J (jsw X (LR kob LC)) P M N k n E nL pc lo st := by
  obtain ⟨⟨p, l, e, R, s, m, args, below, meth, c⟩, D, tA, A, L⟩ := X
  obtain ⟨-, -, -, -, -, -, -, -, -, -, -, -, hL0⟩ := o
  subst hL0
  intro H locs ls h1 h2 h3
  exact kk H locs ls (h1.ofK hp hf) h2 h3
theorem j_widen {k' n' : Nat} (h1 : k ≤ k') (h2 : n ≤ n') (kk : J X P M N k' n' E nL pc lo st) : J X P M N k n E nL pc lo st := by
  obtain ⟨⟨p, l, e, R, s, m, args, below, meth, c⟩, D, tA, A, L⟩ := X
  intro H locs ls g1 g2 g3
  exact W.widen h1 h2 (kk H locs ls g1 g2 g3)
/-- an object's key into an array of references -/
theorem j_aast (o : jok X l0 y cc nL ret rm L0) {g gv ti nn ci Nf : Nat} {C : String} {T : u_T} {fs : List Value} {i : Int32} (htys : ∀ tA, (jtys tA)[ti]? = some (tA ti, .object C)) (hc : vwCl[ci]? = some (C, T, Nf)) (hL : ∀ tA f h, L0 tA P g f h = some (.inl (tA ti, nn, .inr (.inr (.inr (.inr (fun j => jro P (f j).toNatClampNeg))))))) (hLv : ∀ tA, L0 tA P gv (M gv) (N gv) = some (.inr (ci, fs))) (hgv : gv ≠ 0 ∧ gv < 2 ^ 31) (hi : vp_in i nn) (hd : decode cc pc = .ok (.aastore, 1)) (kk : J X P (upM M g i.toNatClampNeg (nI gv)) N k n E nL (pc + 1) lo st) : J X P M N k n E nL pc lo (.ref (P.1 gv) :: .int i :: .ref (P.1 g) :: st) := by
  obtain ⟨⟨p, l, e, R, s, m, args, below, meth, c⟩, D, tA, A, L⟩ := X
  obtain ⟨hx, hb, hml, hown, hts, hr, ⟨hK, hNw⟩, hA, hlk, hnm, hR, hl0, hL0⟩ := o
  subst hL0
  intro H locs ls h1 h2 h3
  have hlt : i.toNatClampNeg < nn := Nat.not_le.mp fun q => hi (Or.inr q)
  have h0 : ¬ i < 0 := fun q => hi (Or.inl q)
  obtain ⟨r', hr', cellV, g1, g2, g3, -⟩ := (h1.1 gv _ (hLv tA)).1
  have hcls := (hK.1 ci _ hc).2
  obtain ⟨kA, comp, k1, k2, k3, -⟩ := (hK.2 ti _ (htys tA)).2
  have hcomp : comp = D.1 ci := Option.some.inj (k3.symm.trans hcls.1)
  subst hcomp
  obtain ⟨kC, hkC, -⟩ := hcls.2
  refine W.aast hx hb (h1.one (hL tA (M g) (N g)) 0 _ rfl) (fun q h => by cases h) (fun h => by cases h) k1 k2 rfl hkC ⟨h0, by show _ < (arrV _ _ _).slots.size; rw [arrV_size]; exact hlt⟩ g1 (fun q h => by rw [g3] at h; cases h) (by rw [g2]; exact hkC) (by rw [g2]; exact va_assign hcls) rfl rfl hd fun H1 e z oq => ?_
  refine kk H1 _ ls (h1.set g (hL tA (M g) (N g)) (e1 := .inl (tA ti, nn, .inr (.inr (.inr (.inr (fun j => jro P (upd (M g) i.toNatClampNeg (nI gv) j).toNatClampNeg)))))) (by rw [upM_same]; exact hL tA _ _) (fun j hj => upM_ne M _ _ hj) (fun j hj => rfl) ?_ oq) (h2.put z oq (h1.1 g _ (hL tA (M g) (N g))).2) h3
  show H1[P.1 g]? = some (vp_cell _ _)
  rw [e, vp_cell_q, vp_cell_q, arrV_store]
  congr 2
  funext q
  unfold updV upd
  by_cases hq : q = i.toNatClampNeg
  · rw [if_pos hq, if_pos hq, nI_clamp hgv.2]
    unfold jro
    rw [if_neg hgv.1]
    rfl
  · rw [if_neg hq, if_neg hq]
/-- twelve ints copied from one row to another -/
theorem j_copy (o : jok X l0 y cc nL ret rm L0) {g1 g2 : Nat} (hne : g1 ≠ g2) (hL1 : ∀ tA f h, L0 tA P g1 f h = some (.inl (tA 0, 12, .inl f))) (hL2 : ∀ tA f h, L0 tA P g2 f h = some (.inl (tA 0, 12, .inl f))) (hw : ∀ w ∈ ([.methodLink y.cls ix arraycopyName, .native arraycopyName, .static arraycopyName, .initialized "java/lang/System"] : List Cond), w ∈ jw_tbl) (hrm : 1 ≤ rm.frames ∧ (st.map fun v => v.category).sum + (nativeFrameWords "java/lang/System" "arraycopy" 5 + 11) ≤ rm.locals) (hd : decode cc pc = .ok (.invokestatic ix, 3))
    (kk : J X P (fun q => if q = g2 then (fun j => if j < 12 then M g1 j else M g2 j) else M q) N k n E nL (pc + 3) lo st) : J X P M N k n E nL pc lo (.int 12 :: .int 0 :: .ref (P.1 g2) :: .int 0 :: .ref (P.1 g1) :: st) := by
  obtain ⟨⟨p, l, e, R, s, m, args, below, meth, c⟩, D, tA, A, L⟩ := X
  obtain ⟨hx, hb, hml, hown, hts, hr, ⟨hK, hNw⟩, hA, hlk, hnm, hR, hl0, hL0⟩ := o
  subst hL0 hR
  intro H locs ls h1 h2 h3
  have ok := fun w h => hts w (hw w h)
  have c0 : H[P.1 g1]? = some (vp_cell (tA 0) (12, .inl (M g1))) := (h1.1 g1 _ (hL1 tA (M g1) (N g1))).1
  have c1 : H[P.1 g2]? = some (vp_cell (tA 0) (12, .inl (M g2))) := (h1.1 g2 _ (hL2 tA (M g2) (N g2))).1
  have hAg := (h1.1 g2 _ (hL2 tA (M g2) (N g2))).2
  intro T hT X
  obtain ⟨-, k0, hk0, cm0, hkk0⟩ := (hK.2 0 _ rfl).1 12 (fun j => .int (M g1 j))
  obtain ⟨vm', X', step⟩ := X.arraycopy hx hown (ok (.methodLink y.cls ix arraycopyName) (by simp)) (ok (.native arraycopyName) (by simp)) (ok (.static arraycopyName) (by simp)) (ok (.initialized "java/lang/System") (by simp)) (src := P.1 g1) (dst := P.1 g2) (cs := vp_cell (tA 0) (12, .inl (M g1))) (cd := vp_cell (tA 0) (12, .inl (M g2))) (srcPos := 0) (destPos := 0) (n := 12) (by rw [hT]; exact c0) (by rw [hT]; exact c1)
    (fun _ h => by cases h) (fun _ h => by cases h) (fun h => by cases h) (fun h => by cases h) hk0 hk0 hkk0 hkk0 (by simp [refKind]) (by decide) (by decide) (by decide)
    (by show ¬ _ > ((arrV (tA 0) 12 (fun j => .int (M g1 j))).slots.size : Int); rw [arrV_size]; decide)
    (by show ¬ _ > ((arrV (tA 0) 12 (fun j => .int (M g2 j))).slots.size : Int); rw [arrV_size]; decide)
    (fun vm1 _ i hi => by
      have hi' : i < 12 := hi
      have e : (vp_cell (tA 0) (12, .inl (M g1))).slots.getD ((0 : Int32).toNatClampNeg + i) .null = .int (M g1 i) := by
        show (arrV (tA 0) 12 (fun j => .int (M g1 j))).slots.getD (0 + i) _ = _
        rw [Nat.zero_add, Array.getD_eq_getD_getElem?, arrV_read _ _ hi']
        rfl
      exact ⟨by rw [e]; rfl, by rw [e]; exact trivial⟩)
    (g := F0 m pc ls (.int 12 :: .int 0 :: .ref (P.1 g2) :: .int 0 :: .ref (P.1 g1) :: st)) rfl (by rw [hml]; exact h3.1) (rest := st) rfl (by rw [hb]; exact hd) hrm.1 (by show 2 * 0 + _ + _ ≤ _; have := hrm.2; omega)
  have e1 : copied (vp_cell (tA 0) (12, .inl (M g1))) (vp_cell (tA 0) (12, .inl (M g2))) 0 0 12 = vp_cell (tA 0) (12, .inl (va_cpy (M g1) (M g2) 0 0 12)) := va_copied (fun z => .int z) (tA 0) (tA 0) (M g1) (M g2) (sp := 0) (dp := 0) (n := 12) (n0 := 12) (n1 := 12) (by decide)
  rw [e1] at X' step
  have hl : P.1 g2 < H.size := (Array.getElem?_eq_some_iff.mp c1).1
  have hheap : ((T.setVm vm').setCell (P.1 g2) (vp_cell (tA 0) (12, .inl (va_cpy (M g1) (M g2) 0 0 12)))).heap = H.setIfInBounds (P.1 g2) (vp_cell (tA 0) (12, .inl (va_cpy (M g1) (M g2) 0 0 12))) := by rw [← hT]; rfl
  have oq : ∀ q : Nat, q ≠ P.1 g2 → (H.setIfInBounds (P.1 g2) (vp_cell (tA 0) (12, .inl (va_cpy (M g1) (M g2) 0 0 12))))[q]? = H[q]? := fun q hq => by simp [Array.getElem?_setIfInBounds, Ne.symm hq]
  have ecp : va_cpy (M g1) (M g2) 0 0 12 = fun j => if j < 12 then M g1 j else M g2 j := by
    funext j
    by_cases z : j < 12
    · rw [pk_cpy_in (Nat.zero_le _) (by omega), if_pos z]
      congr 1; omega
    · rw [pk_cpy_out (by omega), if_neg z]
  obtain ⟨t, a1, b1⟩ := kk _ _ ls (h1.set (M1 := fun q => if q = g2 then (fun j => if j < 12 then M g1 j else M g2 j) else M q) (N1 := N) g2 (hL2 tA (M g2) (N g2)) (e1 := .inl (tA 0, 12, .inl (fun j => if j < 12 then M g1 j else M g2 j))) (by rw [if_pos rfl]; exact hL2 tA _ _) (fun j hj => if_neg hj) (fun j hj => rfl) (by show (H.setIfInBounds (P.1 g2) _)[P.1 g2]? = some _; rw [← ecp]; simp [Array.getElem?_setIfInBounds, hl]) oq) ⟨by simp; exact h2.1, fun q q1 q2 => by
      rw [oq q (fun e => q2 (by rw [e]; exact hAg))]
      exact h2.2.1 q q1 q2, fun q hq => by
      rcases List.mem_append.mp hq with h | h
      · exact h2.2.2 q h
      · obtain ⟨z, -, hz⟩ := List.mem_map.mp h
        rw [← hz]
        exact hAg⟩ h3 _ hheap X'
  exact ⟨t, step t a1, b1⟩
end SW
