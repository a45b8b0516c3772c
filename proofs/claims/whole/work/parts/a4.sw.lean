/-! FROM THE CLASS'S WORLD INTO THE RAW ONE AND BACK; copies; arrays of references written -/
def jsw (X : jX) (L' : jL) : jX := (X.1, X.2.1, X.2.2.1, X.2.2.2.1, L')
theorem jok.sw {X : jX} {l0 : Launch} {y : MethodName} {cc : ByteArray} {nL : Nat} {ret : Option FieldType} {rm : Room} {L0 : jL} (o : jok X l0 y cc nL ret rm L0) (L' : jL) : jok (jsw X L') l0 y cc nL ret rm L' := by
  obtain ⟨⟨p, l, e, R, s, m, args, below, meth, c⟩, D, tA, A, L⟩ := X
  obtain ⟨hx, hb, hml, hown, hts, hr, hK, hA, hlk, hnm, hR, hl0, hL0⟩ := o
  exact ⟨hx, hb, hml, hown, hts, hr, hK, hA, hlk, hnm, hR, hl0, rfl⟩
/-- the static keys are there -/
def presK (P : jP) : Prop := ∀ k, 1 ≤ k → k ≤ 44 → P.2.1 k = true
/-- the cells of the tables that turn a reference on -/
def rsl (k j : Nat) : Bool := match kob k with
  | some x => (match x.2[j]? with | some d => !(Nat.beq d 0 || Nat.beq d 1000 || Nat.beq d 1001) | none => false)
  | none => false
def fM (M : jM) : jM := fun k j => if rsl k j = true then 1 else M k j
theorem rfls_eq {P : jP} {f f' : Nat → Int32} {h : Nat → Int64} (ds : List Nat) : ∀ (i : Nat), (∀ j d, ds[j]? = some d → rfv P f h (i + j) d = rfv P f' h (i + j) d) → rfls P f h i ds = rfls P f' h i ds := by
  induction ds with
  | nil => intro i _; rfl
  | cons d ds ih =>
    intro i hd
    show rfv P f h i d :: rfls P f h (i + 1) ds = rfv P f' h i d :: rfls P f' h (i + 1) ds
    rw [show rfv P f h i d = rfv P f' h i d from hd 0 d rfl, ih (i + 1) (fun j d' hj => by
      have := hd (j + 1) d' hj
      rw [show i + 1 + j = i + (j + 1) by omega]
      exact this)]
theorem kob_lw {P : jP} {k : Nat} (h : cLw P k = true) : kob k = some (4, [0, k + 1, k + 2, k + 3, k + 4, 0, 0]) := by
  unfold cLw at h
  simp only [Bool.and_eq_true, Nat.ble_eq, Nat.blt_eq] at h
  unfold kob
  rw [if_pos (by rw [Nat.ble_eq]; omega), if_pos]
  simp only [Bool.and_eq_true, Nat.ble_eq, Nat.blt_eq]
  exact h.1
theorem kob_fm {P : jP} {k : Nat} (h : cFm P k = true) : kob k = some (2, [0, k + 1, k + 2, k + 3]) := by
  have h2 := (cFm_ia h).2.1
  unfold cFm at h
  simp only [Bool.and_eq_true, Nat.ble_eq, Nat.blt_eq] at h
  unfold kob
  rw [if_pos (by rw [Nat.ble_eq]; omega), if_neg, if_pos]
  · simp only [Bool.and_eq_true, Nat.ble_eq, Nat.blt_eq]
    exact h.1
  · simp only [Bool.and_eq_true, Nat.ble_eq, Nat.blt_eq]
    omega
theorem LC_absent {tA : Nat → ClassId} {P : jP} {k : Nat} {f : Nat → Int32} {h : Nat → Int64} (hk : 45 ≤ k) (hp : P.2.1 k = false) : LC tA P k f h = none := by
  rw [LC_dyn (Or.inl hk)]
  have h1 : cIA P k = none := by
    unfold cIA
    by_cases h64 : k < 64
    · rw [if_pos h64, if_neg]
      simp only [Bool.and_eq_true, Nat.ble_eq]
      omega
    · rw [if_neg h64]
      by_cases h112 : k < 112
      · rw [if_pos h112, hp]
        split <;> rfl
      · rw [if_neg h112, if_neg]
        rw [hp, Bool.and_false]
        decide
  have h2 : cLw P k = false := by
    unfold cLw
    rw [hp, Bool.and_false]
  have h3 : cFm P k = false := by
    unfold cFm
    rw [hp, Bool.and_false]
  unfold cdyn
  rw [h1]
  show (if cLw P k = true then _ else if cFm P k = true then _ else none) = none
  rw [if_neg (by rw [h2]; decide), if_neg (by rw [h3]; decide)]
theorem LK_LC {P : jP} (hp : presK P) {k : Nat} {f : Nat → Int32} (hf : P.2.1 k = true → ∀ j, rsl k j = true → f j ≠ 0) (tA : Nat → ClassId) (h : Nat → Int64) : LR kob LC tA P k f h = LC tA P k f h := by
  by_cases hk : P.2.1 k = true
  · cases hob : kob k with
    | none => exact LR_ar hk hob tA f h
    | some x =>
      obtain ⟨ci, ds⟩ := x
      have hf := hf hk
      rw [LR_ob hk hob]
      have e2 : rfls P f h 0 ds = rfls P (fun j => if rsl k j = true then 1 else f j) h 0 ds := rfls_eq ds 0 (fun j d hj => by
        have er : rsl k j = !(Nat.beq d 0 || Nat.beq d 1000 || Nat.beq d 1001) := by
          unfold rsl
          rw [hob]
          show (match ds[j]? with | some d => _ | none => false) = _
          rw [hj]
        rw [Nat.zero_add]
        by_cases d0 : d = 0
        · subst d0
          have er : rsl k j = false := er
          show Value.int (f j) = Value.int (if rsl k j = true then 1 else f j)
          rw [if_neg (by rw [er]; decide)]
        · by_cases d1 : d = 1000
          · subst d1; rfl
          · by_cases d2 : d = 1001
            · subst d2
              have er : rsl k j = false := er
              show jrf P (f j).toNatClampNeg = jrf P (if rsl k j = true then 1 else f j).toNatClampNeg
              rw [if_neg (by rw [er]; decide)]
            · have er : rsl k j = true := by
                rw [er]
                have b0 : Nat.beq d 0 = false := by cases e : Nat.beq d 0 with | true => exact absurd (Nat.eq_of_beq_eq_true e) d0 | false => rfl
                have b1 : Nat.beq d 1000 = false := by cases e : Nat.beq d 1000 with | true => exact absurd (Nat.eq_of_beq_eq_true e) d1 | false => rfl
                have b2 : Nat.beq d 1001 = false := by cases e : Nat.beq d 1001 with | true => exact absurd (Nat.eq_of_beq_eq_true e) d2 | false => rfl
                rw [b0, b1, b2]
                rfl
              rw [rfv_r0 ⟨d0, d1, d2⟩ (hf j er), rfv_r0 ⟨d0, d1, d2⟩ (show ¬ (if rsl k j = true then (1 : Int32) else f j) = 0 by rw [if_pos er]; decide)])
      rw [e2]
      by_cases h11 : 11 ≤ k
      · have hob' := hob
        unfold kob at hob'
        rw [if_pos (by rw [Nat.ble_eq]; exact h11)] at hob'
        by_cases hl : cLw P k = true
        · rw [kob_lw hl] at hob
          cases hob
          rw [LC_lw hl]
          have r : ∀ j, rsl k j = (match ([0, k + 1, k + 2, k + 3, k + 4, 0, 0] : List Nat)[j]? with | some d => !(Nat.beq d 0 || Nat.beq d 1000 || Nat.beq d 1001) | none => false) := fun j => by unfold rsl; rw [kob_lw hl]
          have hk2 : k < 112 := by
            unfold cLw at hl
            simp only [Bool.and_eq_true, Nat.ble_eq, Nat.blt_eq] at hl
            exact hl.1.1.2
          have nb : ∀ m, 1 ≤ m → m ≤ 4 → (!(Nat.beq (k + m) 0 || Nat.beq (k + m) 1000 || Nat.beq (k + m) 1001)) = true := fun m h1 h2 => by
            have b0 : Nat.beq (k + m) 0 = false := by cases e : Nat.beq (k + m) 0 with | true => exact absurd (Nat.eq_of_beq_eq_true e) (by omega) | false => rfl
            have b1 : Nat.beq (k + m) 1000 = false := by cases e : Nat.beq (k + m) 1000 with | true => exact absurd (Nat.eq_of_beq_eq_true e) (by omega) | false => rfl
            have b2 : Nat.beq (k + m) 1001 = false := by cases e : Nat.beq (k + m) 1001 with | true => exact absurd (Nat.eq_of_beq_eq_true e) (by omega) | false => rfl
            rw [b0, b1, b2]
            rfl
          have rv : ∀ j m, 1 ≤ m → m ≤ 4 → rsl k j = (!(Nat.beq (k + m) 0 || Nat.beq (k + m) 1000 || Nat.beq (k + m) 1001)) → rfv P (fun j => if rsl k j = true then 1 else f j) h j (k + m) = .ref (P.1 (k + m)) := fun j m h1 h2 he => rfv_r0 ⟨by omega, by omega, by omega⟩ (show ¬ (if rsl k j = true then (1 : Int32) else f j) = 0 by rw [if_pos (he.trans (nb m h1 h2))]; decide)
          have ri : ∀ j, rsl k j = false → rfv P (fun j => if rsl k j = true then 1 else f j) h j 0 = .int (f j) := fun j he => by
            show Value.int (if rsl k j = true then 1 else f j) = _
            rw [if_neg (by rw [he]; decide)]
          show some (Sum.inr (4, [rfv P _ h 0 0, rfv P _ h 1 (k + 1), rfv P _ h 2 (k + 2), rfv P _ h 3 (k + 3), rfv P _ h 4 (k + 4), rfv P _ h 5 0, rfv P _ h 6 0])) = _
          rw [ri 0 (r 0), rv 1 1 (by omega) (by omega) (r 1), rv 2 2 (by omega) (by omega) (r 2), rv 3 3 (by omega) (by omega) (r 3), rv 4 4 (by omega) (by omega) (r 4), ri 5 (r 5), ri 6 (r 6)]
        · by_cases hfm : cFm P k = true
          · rw [kob_fm hfm] at hob
            cases hob
            rw [LC_fm hfm]
            have r : ∀ j, rsl k j = (match ([0, k + 1, k + 2, k + 3] : List Nat)[j]? with | some d => !(Nat.beq d 0 || Nat.beq d 1000 || Nat.beq d 1001) | none => false) := fun j => by unfold rsl; rw [kob_fm hfm]
            have hk2 : k < 156 := by
              unfold cFm at hfm
              simp only [Bool.and_eq_true, Nat.ble_eq, Nat.blt_eq] at hfm
              exact hfm.1.1.2
            have nb : ∀ m, 1 ≤ m → m ≤ 4 → (!(Nat.beq (k + m) 0 || Nat.beq (k + m) 1000 || Nat.beq (k + m) 1001)) = true := fun m h1 h2 => by
              have b0 : Nat.beq (k + m) 0 = false := by cases e : Nat.beq (k + m) 0 with | true => exact absurd (Nat.eq_of_beq_eq_true e) (by omega) | false => rfl
              have b1 : Nat.beq (k + m) 1000 = false := by cases e : Nat.beq (k + m) 1000 with | true => exact absurd (Nat.eq_of_beq_eq_true e) (by omega) | false => rfl
              have b2 : Nat.beq (k + m) 1001 = false := by cases e : Nat.beq (k + m) 1001 with | true => exact absurd (Nat.eq_of_beq_eq_true e) (by omega) | false => rfl
              rw [b0, b1, b2]
              rfl
            have rv : ∀ j m, 1 ≤ m → m ≤ 4 → rsl k j = (!(Nat.beq (k + m) 0 || Nat.beq (k + m) 1000 || Nat.beq (k + m) 1001)) → rfv P (fun j => if rsl k j = true then 1 else f j) h j (k + m) = .ref (P.1 (k + m)) := fun j m h1 h2 he => rfv_r0 ⟨by omega, by omega, by omega⟩ (show ¬ (if rsl k j = true then (1 : Int32) else f j) = 0 by rw [if_pos (he.trans (nb m h1 h2))]; decide)
            have ri : ∀ j, rsl k j = false → rfv P (fun j => if rsl k j = true then 1 else f j) h j 0 = .int (f j) := fun j he => by
              show Value.int (if rsl k j = true then 1 else f j) = _
              rw [if_neg (by rw [he]; decide)]
            show some (Sum.inr (2, [rfv P _ h 0 0, rfv P _ h 1 (k + 1), rfv P _ h 2 (k + 2), rfv P _ h 3 (k + 3)])) = _
            rw [ri 0 (r 0), rv 1 1 (by omega) (by omega) (r 1), rv 2 2 (by omega) (by omega) (r 2), rv 3 3 (by omega) (by omega) (r 3)]
          · exfalso
            have nl : ¬ (Nat.ble 64 k && Nat.blt k 112 && Nat.beq (k % 8) 0) = true := fun y => hl (by unfold cLw; rw [y, hk]; rfl)
            have nf : ¬ (Nat.ble 128 k && Nat.blt k 156 && Nat.beq (k % 4) 0) = true := fun y => hfm (by unfold cFm; rw [y, hk]; rfl)
            rw [if_neg nl, if_neg nf] at hob'
            cases hob'
      · have hc : k = 0 ∨ k = 1 ∨ k = 2 ∨ k = 3 ∨ k = 4 ∨ k = 5 ∨ k = 6 ∨ k = 7 ∨ k = 8 ∨ k = 9 ∨ k = 10 := by omega
        rcases hc with rfl | rfl | rfl | rfl | rfl | rfl | rfl | rfl | rfl | rfl | rfl
        · cases hob
        all_goals
          cases hob
          rfl
  · have hk' : P.2.1 k = false := by
      cases e : P.2.1 k with
      | true => exact absurd e hk
      | false => rfl
    rw [LR_no hk']
    by_cases h45 : 45 ≤ k
    · rw [LC_absent h45 hk']
    · by_cases h0 : k = 0
      · subst h0; rfl
      · exact absurd (hp k (by omega) (by omega)) hk
