/-! orders: the class's side -/
theorem RelC.k26 {P : jP} {M M' : jM} {A : aS} (h : RelC P M A) (hM : ∀ k, k ≠ 26 → M' k = M k) : RelC P M' A :=
  h.keep [26] (by simp) (by intro k hk j; simp only [List.mem_cons, List.mem_nil_iff, or_false] at hk; subst hk; exact fun z => z) (fun k hk => hM k (fun e => hk (by simp [e])))
theorem s11_keepOrder {P : jP} {M : jM} {A : aS} (h : RelC P M A) {a : Int32} {Q : Int32 → jM → Prop} (h0 : ¬ okOrd A a → ∀ M', (∀ k, k ≠ 26 → M' k = M k) → Q 0 M') (h1 : okOrd A a → ∀ M', (∀ k, k ≠ 26 → M' k = M k) → (∀ j, j < A.1 0 → M' 26 j = nI (ordD (A.1 0) a.toNatClampNeg (A.1 0 - 1 - j))) → Q 1 M') : w_X1_keepOrder P a M Q := by
  have h6 := h.num
  unfold wfNum at h6
  have hC := h.C512
  have hp := Nat.two_pow_pos (A.1 0)
  unfold w_X1_keepOrder
  rw [h.facts, show nI (A.1 0) - 1 = nI (A.1 0 - 1) from pk_sub (a := A.1 0) (b := 1) (by omega)]
  intro R hR
  by_cases z : a < 0
  · refine hR _ _ _ _ ?_
    intro R68 h68
    have hr : R68 := h68 (bn_c (fun _ => h0 (fun q => q.1 z) M (fun _ _ => rfl)) (fun e => absurd z (by rw [e]; decide)))
    exact br_f (nI_pos (by omega)) (br_t z hr)
  obtain ⟨x, hx, ex⟩ : ∃ x : Nat, x < 2 ^ 31 ∧ a = nI x := by
    have e : 0 ≤ a.toInt := Int32.le_iff_toInt_le.mp (Int32.not_lt.mp z)
    have hb := Int32.toInt_lt a
    refine ⟨a.toInt.toNat, by omega, ?_⟩
    rw [← Int32.toInt_inj, nI_toInt (by omega)]
    omega
  subst ex
  unfold okOrd at h0 h1
  rw [nI_clamp hx] at h0 h1
  have zn : ¬ nI x < 0 := nI_pos hx
  have main : ∀ k, k ≤ A.1 0 → ∀ M', (∀ q, q ≠ 26 → M' q = M q) → (∀ j, j < A.1 0 → A.1 0 - k ≤ j → M' 26 j = nI (ordD (A.1 0) x (A.1 0 - 1 - j))) → R (nI (x / A.1 0 ^ k)) (nI (ordM (A.1 0) x k)) (if k < A.1 0 then nI (A.1 0 - 1 - k) else -1) M' := by
    refine fun k hk => lp_up (R := fun k => ∀ M', (∀ q, q ≠ 26 → M' q = M q) → (∀ j, j < A.1 0 → A.1 0 - k ≤ j → M' 26 j = nI (ordD (A.1 0) x (A.1 0 - 1 - j))) → R (nI (x / A.1 0 ^ k)) (nI (ordM (A.1 0) x k)) (if k < A.1 0 then nI (A.1 0 - 1 - k) else -1) M') (A.1 0) ?_ ?_ k hk
    · intro M1 hM hj
      have hr := h.k26 hM
      rw [if_neg (Nat.lt_irrefl _)]
      refine hR _ _ _ _ ?_
      intro R68 h68
      have hm := ordM_lt (n := A.1 0) (x := x) (by omega) (A.1 0)
      have hd : x / A.1 0 ^ A.1 0 ≤ x := Nat.div_le_self _ _
      have e0 : nI (x / A.1 0 ^ A.1 0) = 0 ↔ x / A.1 0 ^ A.1 0 = 0 := nI_eq (b := 0) (by omega) (by omega)
      rw [hr.full, e0, nI_eq (by omega) (by omega)] at h68
      exact br_t (by decide) (h68 (bn_c (fun q => h0 (fun y => q y.2.1) M1 hM) (fun q => bn_c (fun q2 => h0 (fun y => q2 y.2.2) M1 hM) (fun q2 => h1 ⟨zn, q, q2⟩ M1 hM (fun j hj2 => hj j hj2 (by omega))))))
    · intro k hk ih M1 hM hj
      have hr := h.k26 hM
      rw [if_pos hk]
      have hd : x / A.1 0 ^ k ≤ x := Nat.div_le_self _ _
      have hn0 : ¬ nI (A.1 0) = 0 := nI_ne0 (by omega) (by omega)
      refine hR _ _ _ _ ?_
      intro R68 h68
      refine br_f (nI_pos (by omega)) (br_f (nI_pos (by omega)) ?_)
      rw [hr.facts, h.2.1.1]
      refine ⟨hn0, vin (by omega) (by omega), ?_⟩
      rintro M2 rfl
      rw [nI_clamp (show A.1 0 - 1 - k < 2 ^ 31 by omega), up_of _ _ _ _ (show (2 : Nat) ≠ 26 by omega), hr.facts, pk_rem (by omega) (by omega) (by omega), pk_div (by omega) (by omega) (by omega)]
      refine ⟨vin (by omega) (by omega), ?_⟩
      rintro y rfl
      have hlt := ordD_lt (n := A.1 0) (x := x) (k := k) (by omega)
      have e3 : x / A.1 0 ^ k % A.1 0 = ordD (A.1 0) x k := rfl
      rw [e3, up_at, if_pos rfl, shl1 (by omega), nI_or, Nat.div_div_eq_div_mul, ← Nat.pow_succ]
      have e4 : nI (A.1 0 - 1 - k) + -1 = if k + 1 < A.1 0 then nI (A.1 0 - 1 - (k + 1)) else -1 := by
        by_cases q : k + 1 < A.1 0
        · rw [if_pos q]
          have := pk_sub (a := A.1 0 - 1 - k) (b := 1) (by omega)
          rw [show A.1 0 - 1 - (k + 1) = A.1 0 - 1 - k - 1 by omega, ← this, Int32.sub_eq_add_neg]
          rfl
        · rw [if_neg q, show A.1 0 - 1 - k = 0 by omega]
          rfl
      rw [e4]
      refine ⟨hn0, ih _ (fun q hq => by rw [upM_ne _ _ _ hq, hM q hq]) (fun j hj2 hj3 => ?_)⟩
      rw [up_at]
      by_cases q : j = A.1 0 - 1 - k
      · rw [if_pos q, q, show A.1 0 - 1 - (A.1 0 - 1 - k) = k by omega]
      · rw [if_neg q]; exact hj j hj2 (by omega)
  have start := main 0 (Nat.zero_le _) M (fun _ _ => rfl) (fun j hj hj2 => by omega)
  rw [if_pos (by omega), Nat.pow_zero, Nat.div_one] at start
  exact start
