/-! WHAT A NEW STATE LEAVES AS IT WAS: caches of the class under states that agree -/
/-- on the laws that were there, what is said stays -/
def agl (A A' : aS) : Prop := A'.1 0 = A.1 0 ∧ A.1 2 ≤ A'.1 2 ∧ ∀ l, l < A.1 2 → ∀ c, c < 2 ^ A.1 0 → sdA A' l c = sdA A l c
/-- and what the askings hang on -/
def agA (A A' : aS) : Prop := agl A A' ∧ A'.1 5 = A.1 5 ∧ A'.2 12 = A.2 12 ∧ A'.2 15 = A.2 15 ∧ A'.2 17 = A.2 17 ∧ A'.2 18 = A.2 18
theorem agl.rfl' (A : aS) : agl A A := ⟨rfl, Nat.le_refl _, fun _ _ _ _ => rfl⟩
theorem agA.rfl' (A : aS) : agA A A := ⟨agl.rfl' A, rfl, rfl, rfl, rfl, rfl⟩
theorem sure_ag {A A' : aS} (h : agl A A') {l kn so : Nat} (hl : l < A.1 2) (hs : so < 2 ^ A.1 0) : sureV (sdA A' l) (2 ^ A'.1 0) kn so = sureV (sdA A l) (2 ^ A.1 0) kn so := by
  obtain ⟨h0, -, h8⟩ := h
  have e : (∀ c, c < 2 ^ A'.1 0 → c &&& kn = so → sdA A' l c = sdA A' l so) ↔ ∀ c, c < 2 ^ A.1 0 → c &&& kn = so → sdA A l c = sdA A l so := by
    rw [h0]
    constructor
    · intro z c c1 c2
      rw [← h8 l hl c c1, ← h8 l hl so hs]
      exact z c c1 c2
    · intro z c c1 c2
      rw [h8 l hl c c1, h8 l hl so hs]
      exact z c c1 c2
  unfold sureV
  by_cases z : ∀ c, c < 2 ^ A.1 0 → c &&& kn = so → sdA A l c = sdA A l so
  · rw [if_pos z, if_pos (e.mpr z), h8 l hl so hs]
  · rw [if_neg z, if_neg (fun y => z (e.mp y))]
theorem alk_ag {A A' : aS} (h : agl A A') {l a s t : Nat} (hl : l < A.1 2) (hs : s < 2 ^ A.1 0) (ht : t < 2 ^ A.1 0) : alk A' l a s t ↔ alk A l a s t := by
  obtain ⟨h0, -, h8⟩ := h
  unfold alk
  rw [h0]
  constructor
  · intro z r r1 r2
    rw [← h8 l hl _ (Nat.or_lt_two_pow hs r1), ← h8 l hl _ (Nat.or_lt_two_pow ht r1)]
    exact z r r1 r2
  · intro z r r1 r2
    rw [h8 l hl _ (Nat.or_lt_two_pow hs r1), h8 l hl _ (Nat.or_lt_two_pow ht r1)]
    exact z r r1 r2
theorem matY_ag {A A' : aS} (h : agl A A') {l kn so x : Nat} (hl : l < A.1 2) (hx : x < A.1 0) : matY A' l kn so x ↔ matY A l kn so x := by
  obtain ⟨h0, -, h8⟩ := h
  have hp : 2 ^ x < 2 ^ A.1 0 := Nat.pow_lt_pow_right (by omega) hx
  unfold matY
  rw [h0]
  constructor
  · rintro ⟨c, c1, c2, c3⟩
    refine ⟨c, c1, c2, ?_⟩
    rw [← h8 l hl c c1, ← h8 l hl _ (Nat.xor_lt_two_pow c1 hp)]
    exact c3
  · rintro ⟨c, c1, c2, c3⟩
    refine ⟨c, c1, c2, ?_⟩
    rw [h8 l hl c c1, h8 l hl _ (Nat.xor_lt_two_pow c1 hp)]
    exact c3
theorem bx_ag {A A' : aS} (h : agl A A') {l a f : Nat} (hl : l < A.1 2) (hf : f < A.1 0) : bxA A' l a f = bxA A l a f := by
  show cntB (bxB A' l a f) (2 ^ A'.1 0) = cntB (bxB A l a f) (2 ^ A.1 0)
  rw [h.1]
  refine cntB_congr (fun s hs => ?_)
  rw [Bool.eq_iff_iff, bxB_iff, bxB_iff, matY_ag h hl hf]
  have e : fstB A' l a s ↔ fstB A l a s := by
    unfold fstB
    constructor
    · intro z b b1 b2 b3
      exact z b b1 b2 ((alk_ag h hl hs (by omega)).mpr b3)
    · intro z b b1 b2 b3
      exact z b b1 b2 ((alk_ag h hl hs (by omega)).mp b3)
  rw [e]
theorem lfN_congr {bx bx' : Nat → Nat → Nat} {n : Nat} (h : ∀ a f, f < n → bx a f = bx' a f) : ∀ d a, lfN bx n d a = lfN bx' n d a
  | 0, _ => rfl
  | d + 1, a => by
    show (if a = 2 ^ n - 1 then 0 else mnL (fun f => bx a f + lfN bx n d (a ||| 2 ^ f)) (outB a) n) = if a = 2 ^ n - 1 then 0 else mnL (fun f => bx' a f + lfN bx' n d (a ||| 2 ^ f)) (outB a) n
    rw [mnL_congr (h := fun f => bx' a f + lfN bx' n d (a ||| 2 ^ f)) n (fun f hf _ => by show bx a f + lfN bx n d (a ||| 2 ^ f) = bx' a f + lfN bx' n d (a ||| 2 ^ f); rw [h a f hf, lfN_congr h d])]
theorem loN_congr : ∀ k (p q : Nat → Bool), (∀ i, i < k → p i = q i) → loN p k = loN q k
  | 0, _, _, _ => rfl
  | k + 1, p, q, h => by
    show (if p 0 = true then 0 else 1 + loN (fun i => p (i + 1)) k) = if q 0 = true then 0 else 1 + loN (fun i => q (i + 1)) k
    rw [h 0 (by omega), loN_congr k (fun i => p (i + 1)) (fun i => q (i + 1)) (fun i hi => h (i + 1) (by omega))]
theorem nxF_congr {bx bx' : Nat → Nat → Nat} {n : Nat} (h : ∀ a f, f < n → bx a f = bx' a f) (a : Nat) : nxF2 bx n a = nxF2 bx' n a := by
  refine loN_congr n _ _ (fun i hi => ?_)
  show (!a.testBit i && (bx a i + lfG bx n (a ||| 2 ^ i) == lfG bx n a)) = (!a.testBit i && (bx' a i + lfG bx' n (a ||| 2 ^ i) == lfG bx' n a))
  unfold lfG
  rw [h a i hi, lfN_congr h, lfN_congr h]
theorem laN_congr {bx bx' : Nat → Nat → Nat} {n : Nat} (h : ∀ a f, f < n → bx a f = bx' a f) : ∀ k, laN bx n k = laN bx' n k
  | 0 => rfl
  | k + 1 => by
    show laN bx n k ||| 2 ^ nxF2 bx n (laN bx n k) = laN bx' n k ||| 2 ^ nxF2 bx' n (laN bx' n k)
    rw [laN_congr h k, nxF_congr h]
theorem lnN_congr {bx bx' : Nat → Nat → Nat} {n : Nat} (h : ∀ a f, f < n → bx a f = bx' a f) : ∀ k, lnN bx n k = lnN bx' n k
  | 0 => rfl
  | k + 1 => by
    show n * lnN bx n k + nxF2 bx n (laN bx n k) = n * lnN bx' n k + nxF2 bx' n (laN bx' n k)
    rw [lnN_congr h k, laN_congr h, nxF_congr h]
/-- a law's caches, in the new state -/
theorem laws_ag {M M' : jM} {A A' : aS} (h : agl A A') {l : Nat} (hl : l < A.1 2) (e4 : M' (64 + 8 * l + 4) = M (64 + 8 * l + 4)) (e5 : M' (64 + 8 * l) 5 = M (64 + 8 * l) 5) (e6 : M' (64 + 8 * l) 6 = M (64 + 8 * l) 6) (g : WayS M A l ∧ WayE M A l ∧ WayB M A l ∧ LeastOK M A l) : WayS M' A' l ∧ WayE M' A' l ∧ WayB M' A' l ∧ LeastOK M' A' l := by
  obtain ⟨g1, g2, g3, g4⟩ := g
  refine ⟨fun kn so k1 s1 sb => ?_, fun kn s t k1 s1 t1 sb tb => ?_, fun kn so k1 s1 sb => ?_, ?_⟩
  · rw [h.1] at k1 s1
    rw [e4, sure_ag h hl s1]
    exact g1 kn so k1 s1 sb
  · rw [h.1] at k1 s1 t1
    rw [e4]
    exact (g2 kn s t k1 s1 t1 sb tb).trans (alk_ag h hl s1 t1).symm
  · rw [h.1] at k1 s1 ⊢
    rw [e4]
    exact g3 kn so k1 s1 sb
  · unfold LeastOK at g4 ⊢
    rw [e5, e6, h.1]
    have c : ∀ a f, f < A.1 0 → bxA A' l a f = bxA A l a f := fun a f hf => bx_ag h hl hf
    unfold lfG
    rw [lfN_congr c, lnN_congr c]
    exact g4
theorem shT_ag {A A' : aS} (h17 : A'.2 17 = A.2 17) (h18 : A'.2 18 = A.2 18) (s kn so : Nat) : ∀ f, shT A' s kn so f = shT A s kn so f
  | 0 => by
    show (A'.2 17 s).toNatClampNeg = (A.2 17 s).toNatClampNeg
    rw [h17]
  | f + 1 => by
    show shT A' s kn so f * fcT A' s kn so f = shT A s kn so f * fcT A s kn so f
    rw [shT_ag h17 h18 s kn so f]
    unfold fcT
    rw [h18]
theorem shN_ag {A A' : aS} (h0 : A'.1 0 = A.1 0) (h17 : A'.2 17 = A.2 17) (h18 : A'.2 18 = A.2 18) (kn so : Nat) : ∀ S, shN A' kn so S = shN A kn so S
  | 0 => rfl
  | S + 1 => by
    show shN A' kn so S + shT A' S kn so (A'.1 0) = shN A kn so S + shT A S kn so (A.1 0)
    rw [shN_ag h0 h17 h18 kn so S, h0, shT_ag h17 h18]
theorem isO_ag {A A' : aS} (h : agl A A') {l o kn so : Nat} {two : Bool} (hl : l < A.1 2) (ho : two = true → o < A.1 2) (hs : so < 2 ^ A.1 0) : isO A' l o two kn so = isO A l o two kn so := by
  unfold isO
  rw [sure_ag h hl hs]
  cases two with
  | false => rfl
  | true => rw [sure_ag h (ho rfl) hs]
theorem me_ag {A A' : aS} (h : agA A A') {l o : Nat} {two : Bool} (hl : l < A.1 2) (ho : two = true → o < A.1 2) : ∀ d kn so, kn < 2 ^ A.1 0 → so < 2 ^ A.1 0 → meN A' l o two d kn so = meN A l o two d kn so ∧ woN A' l o two d kn so = woN A l o two d kn so
  | 0, kn, so, k1, s1 => by
    constructor
    · show (if isO A' l o two kn so = true then 0 else 1000000000000000) = if isO A l o two kn so = true then 0 else 1000000000000000
      rw [isO_ag h.1 hl ho s1]
    · show (if isO A' l o two kn so = true then 0 else 1000000) = if isO A l o two kn so = true then 0 else 1000000
      rw [isO_ag h.1 hl ho s1]
  | d + 1, kn, so, k1, s1 => by
    obtain ⟨⟨h0, h2, h8⟩, h5, h12, h15, h17, h18⟩ := id h
    have op : opP A' kn = opP A kn := by
      funext f
      unfold opP
      rw [h15]
    have mi : ∀ f, miA A' f = miA A f := fun f => by
      show (A'.2 12 f).toNatClampNeg = (A.2 12 f).toNatClampNeg
      rw [h12]
    have sh : shR A' kn so = shR A kn so := by
      show shN A' kn so (A'.1 5) = shN A kn so (A.1 5)
      rw [h5, shN_ag h0 h17 h18]
    have st : ∀ f, f < A.1 0 → kn ||| 2 ^ f < 2 ^ A.1 0 ∧ so ||| 2 ^ f < 2 ^ A.1 0 := fun f hf => ⟨Nat.or_lt_two_pow k1 (Nat.pow_lt_pow_right (by omega) hf), Nat.or_lt_two_pow s1 (Nat.pow_lt_pow_right (by omega) hf)⟩
    constructor
    · show (if isO A' l o two kn so = true then 0 else mnB 1000000000000000 (fun f => mbyN (shR A' kn so) (miA A' f) (meN A' l o two d (kn ||| 2 ^ f) so) (meN A' l o two d (kn ||| 2 ^ f) (so ||| 2 ^ f))) (opP A' kn) (A'.1 0)) = if isO A l o two kn so = true then 0 else mnB 1000000000000000 (fun f => mbyN (shR A kn so) (miA A f) (meN A l o two d (kn ||| 2 ^ f) so) (meN A l o two d (kn ||| 2 ^ f) (so ||| 2 ^ f))) (opP A kn) (A.1 0)
      rw [isO_ag h.1 hl ho s1, op, h0, sh]
      rw [mnB_congr (h := fun f => mbyN (shR A kn so) (miA A f) (meN A l o two d (kn ||| 2 ^ f) so) (meN A l o two d (kn ||| 2 ^ f) (so ||| 2 ^ f))) (A.1 0) (fun f hf _ => by
        show mbyN _ _ _ _ = mbyN _ _ _ _
        rw [mi, (me_ag h hl ho d _ _ (st f hf).1 s1).1, (me_ag h hl ho d _ _ (st f hf).1 (st f hf).2).1])]
    · show (if isO A' l o two kn so = true then 0 else mnB 1000000 (fun f => wbyN (miA A' f) (woN A' l o two d (kn ||| 2 ^ f) so) (woN A' l o two d (kn ||| 2 ^ f) (so ||| 2 ^ f))) (opP A' kn) (A'.1 0)) = if isO A l o two kn so = true then 0 else mnB 1000000 (fun f => wbyN (miA A f) (woN A l o two d (kn ||| 2 ^ f) so) (woN A l o two d (kn ||| 2 ^ f) (so ||| 2 ^ f))) (opP A kn) (A.1 0)
      rw [isO_ag h.1 hl ho s1, op, h0]
      rw [mnB_congr (h := fun f => wbyN (miA A f) (woN A l o two d (kn ||| 2 ^ f) so) (woN A l o two d (kn ||| 2 ^ f) (so ||| 2 ^ f))) (A.1 0) (fun f hf _ => by
        show wbyN _ _ _ = wbyN _ _ _
        rw [mi, (me_ag h hl ho d _ _ (st f hf).1 s1).2, (me_ag h hl ho d _ _ (st f hf).1 (st f hf).2).2])]
theorem ask_ag {M M' : jM} {N N' : jN} {A A' : aS} (h : agA A A') (e8 : M' 8 = M 8) (e37 : M' 37 = M 37) (e35 : N' 35 = N 35) (e36 : N' 36 = N 36) (g : AskOK M N A) : AskOK M' N' A' := by
  intro z
  rw [e8] at z
  obtain ⟨l, o, two, root, rs, ⟨a1, a2, a3, a4⟩, b8, b9, r1, r2, T⟩ := g z
  obtain ⟨⟨h0, h2, h8⟩, h5, h12, h15, h17, h18⟩ := id h
  refine ⟨l, o, two, root, rs, ⟨by omega, fun t => Nat.lt_of_lt_of_le (a2 t) h2, by rw [e8]; exact a3, by rw [e8]; exact a4⟩, by rw [e8]; exact b8, by rw [e8]; exact b9, by rw [h0]; exact r1, r2, fun k s v => ?_⟩
  rw [h0] at v
  obtain ⟨t1, t2, t3⟩ := T k s v
  have hk := v.1
  have hs := v.lt
  obtain ⟨m1, m2⟩ := me_ag h a1 a2 (A.1 0) k s hk hs
  refine ⟨?_, ?_, ?_⟩
  · rw [e35, t1]
    show lN (shN A k s (A.1 5)) = lN (shN A' k s (A'.1 5))
    rw [h5, shN_ag h0 h17 h18]
  · rw [e36, t2]
    show mI (meN A l o two (A.1 0) k s) = mI (meN A' l o two (A'.1 0) k s)
    rw [h0, m1]
  · rw [e37, t3]
    show wI (woN A l o two (A.1 0) k s) = wI (woN A' l o two (A'.1 0) k s)
    rw [h0, m2]
theorem RefOK.ag {M M' : jM} {A A' : aS} (h : A.1 2 ≤ A'.1 2) (e6 : M' 8 6 = M 8 6) (e7 : M' 8 7 = M 8 7) (g : RefOK M A) : RefOK M' A' := by
  intro j hj
  have e : M' 8 j = M 8 j := by
    rcases hj with rfl | rfl
    · exact e6
    · exact e7
  rw [e]
  rcases g j hj with z | ⟨l, l1, l2⟩
  · exact Or.inl z
  · exact Or.inr ⟨l, by omega, l2⟩
theorem StampOK.same {P P' : jP} {M M' : jM} {B B' : Nat} (hP : P'.2.2 = P.2.2) (e5 : M' 5 6 = M 5 6) (e23 : M' 23 = M 23) (hB : B ≤ B') (g : StampOK P M B) : StampOK P' M' B' := by
  obtain ⟨s, s1, s2, s3⟩ := g
  refine ⟨s, by omega, by rw [e5]; exact s2, fun i hi => ?_⟩
  rw [hP] at hi
  rw [e23]
  exact s3 i hi
theorem MkOK.same {M M' : jM} {B B' : Nat} (e9 : M' 9 6 = M 9 6) (e40 : M' 40 = M 40) (hB : B ≤ B') (g : MkOK M B) : MkOK M' B' := by
  obtain ⟨m, m1, m2, m3⟩ := g
  refine ⟨m, by rw [e9]; exact m1, by omega, fun j hj => ?_⟩
  rw [e40]
  exact m3 j hj
/-- a call that leaves the caches alone -/
theorem GC.same {P : jP} {M M' : jM} {N N' : jN} {A : aS} {t t' : Nat} (h : GC P M N A t) (ht : t ≤ t') (hR : RelC P M' A) (hk : ∀ k, k = 5 ∨ k = 8 ∨ k = 9 ∨ k = 11 ∨ k = 12 ∨ k = 23 ∨ k = 37 ∨ k = 40 ∨ (64 ≤ k ∧ k < 112) → M' k = M k) (hN : N' 35 = N 35 ∧ N' 36 = N 36) : GC P M' N' A t' := by
  obtain ⟨-, h2, h3, h4, h5, h6, h7, h8, h9⟩ := h
  have hn := hR.num
  unfold wfNum at hn
  refine ⟨hR, h2, fun l hl => laws_ag (agl.rfl' A) hl (hk _ (by omega)) (by rw [hk _ (by omega)]) (by rw [hk _ (by omega)]) (h3 l hl), h4.same rfl (by rw [hk 5 (by omega)]) (hk 23 (by omega)) (by omega), h5.same (by rw [hk 9 (by omega)]) (hk 40 (by omega)) (by omega), ask_ag (agA.rfl' A) (hk 8 (by omega)) (hk 37 (by omega)) hN.1 hN.2 h6, h7.ag (Nat.le_refl _) (by rw [hk 8 (by omega)]) (by rw [hk 8 (by omega)]), fun j hj => by rw [hk 11 (by omega)]; exact h8 j hj, fun j hj => by rw [hk 12 (by omega)]; exact h9 j hj⟩
theorem GC.later {P : jP} {M : jM} {N : jN} {A : aS} {t : Nat} (h : GC P M N A t) : GC P M N A (t + 1) := h.same (by omega) h.1 (fun _ _ => rfl) ⟨rfl, rfl⟩
