/-! person: both sides -/
theorem upN_at (N : jN) (k j : Nat) (v : Int64) : upN N k j v k j = v := by
  rw [upN_same, pk_uLs]
theorem lu33 (s : Int64) : ∃ m : Nat, m < 2 ^ 31 ∧ jlushr s 33 = lN m := by
  refine ⟨s.toBitVec.toNat / 2 ^ 33, ?_, ?_⟩
  · have := s.toBitVec.isLt
    omega
  · apply Int64.toBitVec_inj.mp
    have e1 : (jlushr s 33).toBitVec = s.toBitVec >>> (33 : Nat) := rfl
    rw [e1]
    apply BitVec.eq_of_toNat_eq
    have e2 : (lN (s.toBitVec.toNat / 2 ^ 33)).toBitVec = BitVec.ofNat 64 (s.toBitVec.toNat / 2 ^ 33) := rfl
    rw [e2, BitVec.toNat_ushiftRight, BitVec.toNat_ofNat, Nat.shiftRight_eq_div_pow]
    have := s.toBitVec.isLt
    omega
def stp (s : Int64) : Int64 := (s * 6364136223846793005) + 1442695040888963407
def drI (s : Int64) (t : Int32) : Int32 := ((jlushr s 33) - (jlushr s 33) / t.toInt64 * t.toInt64).toInt32
def drN (s : Int64) (t : Nat) : Nat := (drI s (nI t)).toNatClampNeg
theorem dr_ok (s : Int64) {t : Nat} (h1 : 1 ≤ t) (h2 : t < 2 ^ 31) : drI s (nI t) = nI (drN s t) ∧ drN s t < t ∧ ¬ (nI t).toInt64 = 0 := by
  obtain ⟨m, m1, m2⟩ := lu33 s
  have e : drI s (nI t) = nI (m % t) := by
    unfold drI
    rw [nI_l h2, m2, pk_lRem (by omega) (by omega) (by omega), lN_i]
  have hm := Nat.mod_lt m (show t > 0 by omega)
  have e2 : drN s t = m % t := by
    unfold drN
    rw [e, nI_clamp (by omega)]
  refine ⟨by rw [e, e2], by omega, ?_⟩
  rw [nI_l h2]
  intro z
  have := (pk_lEQ (a := t) (b := 0) (by omega) (by omega)).mp z
  omega
def wtA (A : aS) (s : Nat) : Nat := (A.2 17 s).toNatClampNeg
theorem wt_ok {A : aS} (h : wfPeople A) {s : Nat} (hs : s < A.1 5) : A.2 17 s = nI (wtA A s) ∧ 1 ≤ wtA A s ∧ wtA A s ≤ 9 := by
  obtain ⟨⟨w, w1, w2, w3⟩, -⟩ := h s hs
  have e : wtA A s = w := by
    unfold wtA
    rw [w3, nI_clamp (by omega)]
  rw [e]
  exact ⟨w3, w1, w2⟩
theorem wts_le {A : aS} (h : wfPeople A) : ∀ n, n ≤ A.1 5 → n ≤ sumN (wtA A) n ∧ sumN (wtA A) n ≤ 9 * n
  | 0, _ => ⟨Nat.le_refl _, Nat.le_refl _⟩
  | n + 1, hn => by
    have ih := wts_le h n (by omega)
    obtain ⟨-, w1, w2⟩ := wt_ok h (s := n) (by omega)
    show n + 1 ≤ sumN (wtA A) n + wtA A n ∧ sumN (wtA A) n + wtA A n ≤ 9 * (n + 1)
    omega
/-- the sort that a number falls to -/
def pickF (A : aS) : Nat → Nat → Nat → Nat
  | 0, s, _ => s
  | k + 1, s, x => if x < wtA A s then s else pickF A k (s + 1) (x - wtA A s)
theorem sumN_split (f : Nat → Nat) (s : Nat) : ∀ k, sumN f (s + k) = sumN f s + sumN (fun i => f (s + i)) k
  | 0 => rfl
  | k + 1 => by
    show sumN f (s + k) + f (s + k) = sumN f s + (sumN _ k + f (s + k))
    rw [sumN_split f s k]
    omega
theorem sumN_mono (f : Nat → Nat) {a b : Nat} (h : a ≤ b) : sumN f a ≤ sumN f b := by
  obtain ⟨k, rfl⟩ := Nat.le.dest h
  rw [sumN_split]
  omega
/-- a walk over the sorts -/
theorem pick_walk {A : aS} {S : Nat} {R : Int32 → Int32 → Prop} {Z : Nat → Prop} (hstop : ∀ s x, s < S → x < wtA A s → Z s → R (nI x) (nI s)) (hgo : ∀ s x, s < S → wtA A s ≤ x → x < 2 ^ 20 → R (nI (x - wtA A s)) (nI (s + 1)) → R (nI x) (nI s)) : ∀ k s x, s + k = S → x < 2 ^ 20 → x + sumN (wtA A) s < sumN (wtA A) S → Z (pickF A k s x) → R (nI x) (nI s) := by
  intro k
  induction k with
  | zero =>
    intro s x e _ hx
    have : s = S := by omega
    subst this
    omega
  | succ k ih =>
    intro s x e hb hx hz
    unfold pickF at hz
    by_cases c : x < wtA A s
    · rw [if_pos c] at hz
      exact hstop s x (by omega) c hz
    · rw [if_neg c] at hz
      have step : sumN (wtA A) (s + 1) = sumN (wtA A) s + wtA A s := rfl
      exact hgo s x (by omega) (by omega) hb (ih (s + 1) _ (by omega) (by omega) (by omega) hz)
theorem pick_lt {A : aS} {S : Nat} : ∀ k s x, s + k = S → x + sumN (wtA A) s < sumN (wtA A) S → pickF A k s x < S := by
  intro k
  induction k with
  | zero =>
    intro s x e hx
    have : s = S := by omega
    subst this
    omega
  | succ k ih =>
    intro s x e hx
    unfold pickF
    by_cases c : x < wtA A s
    · rw [if_pos c]; omega
    · rw [if_neg c]
      have step : sumN (wtA A) (s + 1) = sumN (wtA A) s + wtA A s := rfl
      exact ih (s + 1) _ (by omega) (by omega)
theorem pick_lt0 {A : aS} {S x : Nat} (hx : x < sumN (wtA A) S) : pickF A S 0 x < S := by
  have e : sumN (wtA A) 0 = 0 := rfl
  exact pick_lt S 0 x (by omega) (by omega)
theorem pick_walk0 {A : aS} {S x : Nat} {R : Int32 → Int32 → Prop} {Z : Nat → Prop} (hstop : ∀ s x, s < S → x < wtA A s → Z s → R (nI x) (nI s)) (hgo : ∀ s x, s < S → wtA A s ≤ x → x < 2 ^ 20 → R (nI (x - wtA A s)) (nI (s + 1)) → R (nI x) (nI s)) (hb : x < 2 ^ 20) (hx : x < sumN (wtA A) S) (hz : Z (pickF A S 0 x)) : R (nI x) 0 := by
  have e : sumN (wtA A) 0 = 0 := rfl
  exact pick_walk hstop hgo S 0 x (by omega) hb (by omega) hz
abbrev totW (A : aS) : Nat := sumN (wtA A) (A.1 5)
def sedF (s : Int64) : Nat → Int64
  | 0 => stp s
  | f + 1 => stp (sedF s f)
def srtOf (A : aS) (s : Int64) : Nat := pickF A (A.1 5) 0 (drN (stp s) (totW A))
def traitB (A : aS) (s : Int64) (k f : Nat) : Bool := !decide (A.2 18 (9 * k + f) ≤ nI (drN (sedF s (f + 1)) 10))
def personS (A : aS) (s : Int64) (w : Int32) : Int32 := if ¬ A.1 5 = 0 ∧ ¬ w < 0 ∧ ¬ 1 < w then (if w = 0 then nI (bitsN (traitB A s (srtOf A s)) (A.1 0)) else nI (srtOf A s)) else -1
theorem srtOf_lt {A : aS} (h : wfPeople A) (h5 : A.1 5 ≤ 4) (s : Int64) (h0 : ¬ A.1 5 = 0) : srtOf A s < A.1 5 ∧ 1 ≤ totW A ∧ totW A ≤ 36 := by
  have hw := wts_le h (A.1 5) (Nat.le_refl _)
  have ht : 1 ≤ totW A ∧ totW A ≤ 36 := by
    show 1 ≤ sumN (wtA A) (A.1 5) ∧ sumN (wtA A) (A.1 5) ≤ 36
    omega
  have hd := (dr_ok (stp s) ht.1 (by omega)).2.1
  refine ⟨?_, ht⟩
  unfold srtOf
  generalize drN (stp s) (totW A) = x at hd ⊢
  exact pick_lt0 hd
