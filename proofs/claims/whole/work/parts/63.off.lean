/-! off: how much goes off the way; flows as numbers -/
def shrM (A : aS) (bar : Int32) (x : Nat) (fl : Nat) : Nat := if nI x = bar then 0 else fl / 10 * (A.2 16 x).toNatClampNeg
def fcN (A : aS) (f t : Nat) : Nat := (A.2 4 (12 * f + t)).toNatClampNeg
def oxF (A : aS) (f c t : Nat) : Nat := if c.testBit (fcN A f t) = true then (A.2 6 (12 * f + t)).toNatClampNeg else (A.2 5 (12 * f + t)).toNatClampNeg
def offN (A : aS) (f c : Nat) (o bar : Int32) : Nat → Nat → Nat → Nat
  | 0, _, _ => 0
  | d + 1, t, fl => if t < 12 then offN A f c o bar d (nxF A f c t) (fl - shrM A bar (fcN A f t) fl) + offN A f c o bar d (oxF A f c t) (shrM A bar (fcN A f t) fl) else if nI t - 100 = o then 0 else fl
theorem shrM_le {A : aS} {bar : Int32} {x : Nat} (hw : (A.2 16 x).toNatClampNeg ≤ 10) (fl : Nat) : shrM A bar x fl ≤ fl := by
  unfold shrM
  split
  · omega
  · have := Nat.mul_le_mul_left (fl / 10) hw
    omega
theorem shrM_add {A : aS} {bar : Int32} {x a b : Nat} (ha : 10 ∣ a) : shrM A bar x (a + b) = shrM A bar x a + shrM A bar x b := by
  unfold shrM
  split
  · rfl
  · obtain ⟨k, rfl⟩ := ha
    rw [show (10 * k + b) / 10 = 10 * k / 10 + b / 10 by omega, Nat.add_mul]
theorem shrM_dvd {A : aS} {bar : Int32} {x a k : Nat} (h : 10 ^ (k + 1) ∣ a) : 10 ^ k ∣ shrM A bar x a := by
  unfold shrM
  split
  · exact Nat.dvd_zero _
  · obtain ⟨m, rfl⟩ := h
    rw [show 10 ^ (k + 1) * m / 10 = 10 ^ k * m by rw [Nat.pow_succ, Nat.mul_assoc, Nat.mul_comm 10 m, ← Nat.mul_assoc]; omega]
    exact Nat.dvd_mul_right_of_dvd (Nat.dvd_mul_right _ _) _
theorem offN_0 {A : aS} {f c : Nat} {o bar : Int32} : ∀ d t, offN A f c o bar d t 0 = 0
  | 0, _ => rfl
  | d + 1, t => by
    have e : shrM A bar (fcN A f t) 0 = 0 := by
      unfold shrM
      split
      · rfl
      · rw [Nat.zero_div, Nat.zero_mul]
    unfold offN
    split
    · rw [e, offN_0 d, offN_0 d]
    · split <;> rfl
/-- flows that ten divides often enough add up -/
theorem offN_add {A : aS} {f c nm : Nat} {o bar : Int32} (h4 : ∀ t, t < nm → (A.2 16 (fcN A f t)).toNatClampNeg ≤ 10 ∧ ((t < nxF A f c t ∧ nxF A f c t < nm) ∨ 99 ≤ nxF A f c t) ∧ ((t < oxF A f c t ∧ oxF A f c t < nm) ∨ 99 ≤ oxF A f c t)) (hm : nm ≤ 12) : ∀ d t a b, (t < nm ∨ 99 ≤ t) → 10 ^ (12 - t) ∣ a → 10 ^ (12 - t) ∣ b → offN A f c o bar d t (a + b) = offN A f c o bar d t a + offN A f c o bar d t b := by
  intro d
  induction d with
  | zero => intro t a b _ _ _; rfl
  | succ d ih =>
    intro t a b ht ha hb
    unfold offN
    by_cases h : t < 12
    · rw [if_pos h, if_pos h, if_pos h]
      obtain ⟨hw, hy, hn⟩ := h4 t (by omega)
      have ek : 12 - t = (11 - t) + 1 := by omega
      rw [ek] at ha hb
      have d10 : ∀ {z}, 10 ^ (11 - t + 1) ∣ z → 10 ∣ z := fun q => Nat.dvd_trans ⟨10 ^ (11 - t), by rw [Nat.pow_succ, Nat.mul_comm]⟩ q
      have dk : ∀ {z}, 10 ^ (11 - t + 1) ∣ z → 10 ^ (11 - t) ∣ z := fun q => Nat.dvd_trans ⟨10, Nat.pow_succ _ _⟩ q
      have da := shrM_dvd (A := A) (bar := bar) (x := fcN A f t) ha
      have db := shrM_dvd (A := A) (bar := bar) (x := fcN A f t) hb
      have la := shrM_le (bar := bar) hw a
      have lb := shrM_le (bar := bar) hw b
      have sub : ∀ {u z}, (t < u ∧ u < nm) ∨ 99 ≤ u → 10 ^ (11 - t) ∣ z → 10 ^ (12 - u) ∣ z := fun {u z} hu q => Nat.dvd_trans (Nat.pow_dvd_pow 10 (by omega)) q
      rw [shrM_add (d10 ha), show a + b - (shrM A bar (fcN A f t) a + shrM A bar (fcN A f t) b) = (a - shrM A bar (fcN A f t) a) + (b - shrM A bar (fcN A f t) b) by omega]
      rw [ih _ _ _ (hy.imp And.right id) (sub hy (Nat.dvd_sub (dk ha) da)) (sub hy (Nat.dvd_sub (dk hb) db)), ih _ _ _ (hn.imp And.right id) (sub hn da) (sub hn db)]
      omega
    · rw [if_neg h, if_neg h, if_neg h]
      split <;> rfl
