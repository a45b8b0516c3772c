/-! orders: a number's digits, both sides -/
def ordD (n x k : Nat) : Nat := x / n ^ k % n
def ordM (n x : Nat) : Nat → Nat
  | 0 => 0
  | k + 1 => ordM n x k ||| 2 ^ ordD n x k
theorem ordD_lt {n x k : Nat} (h : 1 ≤ n) : ordD n x k < n := Nat.mod_lt _ (by omega)
theorem ordM_lt {n x : Nat} (h : 1 ≤ n) : ∀ k, ordM n x k < 2 ^ n
  | 0 => Nat.two_pow_pos n
  | k + 1 => Nat.or_lt_two_pow (ordM_lt h k) (Nat.pow_lt_pow_right (by omega) (ordD_lt h))
abbrev okOrd (A : aS) (a : Int32) : Prop := ¬ a < 0 ∧ a.toNatClampNeg / A.1 0 ^ A.1 0 = 0 ∧ ordM (A.1 0) a.toNatClampNeg (A.1 0) = 2 ^ A.1 0 - 1
theorem s12_isOrder {P : jP} {M : jM} {A : aS} (h : RelM M A) {a : Int32} {Q : Int32 → jM → Prop} (h0 : ¬ okOrd A a → ∀ M', RelM M' A → Q 0 M') (h1 : okOrd A a → ∀ M', RelM M' A → (∀ j, j < A.1 0 → M' 24 j = nI (ordD (A.1 0) a.toNatClampNeg (A.1 0 - 1 - j))) → Q 1 M') : w_X12_isOrder P a M Q := by
  have h6 := h.num
  unfold wfNum at h6
  have hC := h.C512
  have hp := Nat.two_pow_pos (A.1 0)
  unfold w_X12_isOrder
  refine br_c (fun z => ?_) (fun z => h0 (fun q => z (Int32.not_lt.mp q.1)) M h)
  obtain ⟨x, hx, ex⟩ : ∃ x : Nat, x < 2 ^ 31 ∧ a = nI x := by
    have e : 0 ≤ a.toInt := Int32.le_iff_toInt_le.mp z
    have hb := Int32.toInt_lt a
    refine ⟨a.toInt.toNat, by omega, ?_⟩
    rw [← Int32.toInt_inj, nI_toInt (by omega)]
    omega
  subst ex
  unfold okOrd at h0 h1
  rw [nI_clamp hx] at h0 h1
  have zn : ¬ nI x < 0 := nI_pos hx
  rw [h.facts, show nI (A.1 0) - 1 = nI (A.1 0 - 1) from pk_sub (a := A.1 0) (b := 1) (by omega)]
  intro R hR
  have main : ∀ k, k ≤ A.1 0 → ∀ M', RelM M' A → (∀ j, j < A.1 0 → A.1 0 - k ≤ j → M' 24 j = nI (ordD (A.1 0) x (A.1 0 - 1 - j))) → R (nI (x / A.1 0 ^ k)) (nI (ordM (A.1 0) x k)) (if k < A.1 0 then nI (A.1 0 - 1 - k) else -1) M' := by
    refine fun k hk => lp_up (R := fun k => ∀ M', RelM M' A → (∀ j, j < A.1 0 → A.1 0 - k ≤ j → M' 24 j = nI (ordD (A.1 0) x (A.1 0 - 1 - j))) → R (nI (x / A.1 0 ^ k)) (nI (ordM (A.1 0) x k)) (if k < A.1 0 then nI (A.1 0 - 1 - k) else -1) M') (A.1 0) ?_ ?_ k hk
    · intro M1 hr hj
      rw [if_neg (Nat.lt_irrefl _)]
      refine hR _ _ _ _ (br_t (by decide) ?_)
      have hm := ordM_lt (n := A.1 0) (x := x) (by omega) (A.1 0)
      have hd : x / A.1 0 ^ A.1 0 ≤ x := Nat.div_le_self _ _
      have e1 : nI (2 ^ A.1 0) - 1 = nI (2 ^ A.1 0 - 1) := pk_sub (a := 2 ^ A.1 0) (b := 1) hp
      have e0 : nI (x / A.1 0 ^ A.1 0) = 0 ↔ x / A.1 0 ^ A.1 0 = 0 := nI_eq (b := 0) (by omega) (by omega)
      rw [hr.cases, e1, e0, nI_eq (by omega) (by omega)]
      refine bn_c (fun q => h0 (fun y => q y.2.1) M1 hr) (fun q => bn_c (fun q2 => h0 (fun y => q2 y.2.2) M1 hr) (fun q2 => h1 ⟨zn, q, q2⟩ M1 hr (fun j hj2 => hj j hj2 (by omega))))
    · intro k hk ih M1 hr hj
      rw [if_pos hk]
      have hd : x / A.1 0 ^ k ≤ x := Nat.div_le_self _ _
      have hn0 : ¬ nI (A.1 0) = 0 := nI_ne0 (by omega) (by omega)
      refine hR _ _ _ _ (br_f (nI_pos (by omega)) ?_)
      rw [hr.facts]
      refine ⟨hn0, vin (by omega) (by omega), ?_⟩
      rintro M2 rfl
      rw [nI_clamp (show A.1 0 - 1 - k < 2 ^ 31 by omega), up_of _ _ _ _ (show (1 : Nat) ≠ 24 by omega), hr.facts, pk_rem (by omega) (by omega) (by omega), pk_div (by omega) (by omega) (by omega)]
      refine ⟨hn0, vin (by omega) (by omega), ?_⟩
      rintro y rfl
      have hlt := ordD_lt (n := A.1 0) (x := x) (k := k) (by omega)
      have e3 : x / A.1 0 ^ k % A.1 0 = ordD (A.1 0) x k := rfl
      rw [e3, up_at, if_pos rfl, shl1 (by omega), nI_or, Nat.div_div_eq_div_mul, ← Nat.pow_succ]
      have e4 : nI (A.1 0 - 1 - k) + -1 = if k + 1 < A.1 0 then nI (A.1 0 - 1 - (k + 1)) else -1 := by
        by_cases q : k + 1 < A.1 0
        · rw [if_pos q]
          have := pk_sub (a := A.1 0 - 1 - k) (b := 1) (by omega)
          rw [show A.1 0 - 1 - (k + 1) = A.1 0 - 1 - k - 1 by omega, ← this, Int32.sub_eq_add_neg]
          rfl
        · rw [if_neg q, show A.1 0 - 1 - k = 0 by omega]
          rfl
      rw [e4]
      refine ih _ (hr.up _ (by unfold pA; omega)) (fun j hj2 hj3 => ?_)
      rw [up_at]
      by_cases q : j = A.1 0 - 1 - k
      · rw [if_pos q, q, show A.1 0 - 1 - (A.1 0 - 1 - k) = k by omega]
      · rw [if_neg q]; exact hj j hj2 (by omega)
  have start := main 0 (Nat.zero_le _) M h (fun j hj hj2 => by omega)
  rw [if_pos (by omega), Nat.pow_zero, Nat.div_one] at start
  exact start
