/-! reading: the loops behind a first part, both sides -/
theorem jnA {R : Int32 → Prop} {b v : Bool} (h : R (bi ((b && v) = true))) : (bi (b = true) = 0 → R 0) ∧ (¬ bi (b = true) = 0 → ((bi (v = true) = 0 → R 0) ∧ (¬ bi (v = true) = 0 → R 1))) := by
  cases b <;> cases v
  · exact ⟨fun _ => h, fun z => absurd rfl z⟩
  · exact ⟨fun _ => h, fun z => absurd rfl z⟩
  · exact ⟨fun z => absurd z (by decide), fun _ => ⟨fun _ => h, fun z => absurd rfl z⟩⟩
  · exact ⟨fun z => absurd z (by decide), fun _ => ⟨fun z => absurd z (by decide), fun _ => h⟩⟩
theorem jnO {R : Int32 → Prop} {b v : Bool} (h : R (bi ((b || v) = true))) : (¬ bi (b = true) = 0 → R 1) ∧ (bi (b = true) = 0 → ((bi (v = true) = 0 → R 0) ∧ (¬ bi (v = true) = 0 → R 1))) := by
  cases b <;> cases v
  · exact ⟨fun z => absurd rfl z, fun _ => ⟨fun _ => h, fun z => absurd rfl z⟩⟩
  · exact ⟨fun z => absurd rfl z, fun _ => ⟨fun z => absurd z (by decide), fun _ => h⟩⟩
  · exact ⟨fun _ => h, fun z => absurd z (by decide)⟩
  · exact ⟨fun _ => h, fun z => absurd z (by decide)⟩
theorem jfA {R : Int32 → Prop} {x y : Int32} (h : ∀ v, b01 v → R v) : (x = 0 → R 0) ∧ (¬ x = 0 → ((y = 0 → R 0) ∧ (¬ y = 0 → R 1))) := ⟨fun _ => h 0 (Or.inl rfl), fun _ => ⟨fun _ => h 0 (Or.inl rfl), fun _ => h 1 (Or.inr rfl)⟩⟩
theorem jfO {R : Int32 → Prop} {x y : Int32} (h : ∀ v, b01 v → R v) : (¬ x = 0 → R 1) ∧ (x = 0 → ((y = 0 → R 0) ∧ (¬ y = 0 → R 1))) := ⟨fun _ => h 1 (Or.inr rfl), fun _ => ⟨fun _ => h 0 (Or.inl rfl), fun _ => h 1 (Or.inr rfl)⟩⟩
def jtl (op : Bool → Bool → Bool) (T12 : jT → jP → Int32 → jM → (Int32 → jM → Prop) → Prop) (T7 : jT → jP → Int32 → Int32 → jM → (Int32 → jM → Prop) → Prop) (E12 E7 : jT) (A : aS) (d i w : Nat) : Prop :=
  (∃ p, p ≤ A.1 1 ∧ (∀ (P : jP) (c : Nat) (M : jM) (v : Int32) (Q : Int32 → jM → Prop), c < 512 → S12 M A c i d → b01 v → (∀ v' M', b01 v' → f12 M M' → M' 1 6 = nI p → Q v' M') → T12 E12 P v M Q) ∧ ∀ (P : jP) (M : jM) (k x : Nat) (Q : Int32 → jM → Prop), S7 P M A i k → k ≤ i → x < i → (∀ M', f11 k M M' → M' 3 3 = nI p → Q 0 M') → T7 E7 P 1 (nI x) M Q) ∨
  ∃ i' L tv, i ≤ i' ∧ i' ≤ A.1 1 ∧ L.length ≤ i' - i ∧ tOK op L tv (w + 1) ∧ (∀ (P : jP) (c : Nat) (M : jM) (b : Bool) (Q : Int32 → jM → Prop), c < 512 → S12 M A c i d → (∀ M', f12 M M' → S12 M' A c i' d → Q (bi (op b (tv c) = true)) M') → T12 E12 P (bi (b = true)) M Q) ∧ ∀ (P : jP) (M : jM) (k x : Nat) (Q : Int32 → jM → Prop), S7 P M A i k → k ≤ i → x < i → (∀ M', f11 k M M' → M' 3 3 = M 3 3 → M' 3 2 = nI i' → M' 4 3 = nI (k + L.length) → (∀ j, j < L.length → M' 18 (k + j) = L.getD j 0) → Q 1 M') → T7 E7 P 1 (nI x) M Q
theorem tails_A {E12 E7 : jT} {A : aS} {d w : Nat} (hT : wfT A) (h160 : A.1 1 ≤ 160) (hw : 1 ≤ w) (hE : ∀ i, i ≤ A.1 1 → jo E12 E7 A d i w) : ∀ r i, i + r = A.1 1 → jtl and tl12A tl7A E12 E7 A d i w := by
  intro r
  induction r using Nat.strongRecOn with
  | ind r ih =>
    intro i hr
    have hi : i ≤ A.1 1 := by omega
    obtain ⟨k1, k2, k3⟩ := skN_le hi
    by_cases hsep : chN A (skN A i) = 38
    · have hq : skN A i < A.1 1 := ch_len hsep (by omega)
      have hR38 : hR A (skN A i) = 38 := (hR_eq (v := 38) hT (by omega) (by omega)).mpr hsep
      -- the reference comes to the element
      have ref : ∀ (P : jP) (c : Nat) (M : jM) (v : Int32) (Q : Int32 → jM → Prop) (R5 : Int32 → jM → Prop), c < 512 → S12 M A c i d → (∀ M', f12 M M' → S12 M' A c (skN A i + 1) d → E12 P M' (fun r13 M14 => ∀ R50 : Int32 → Prop, (∀ (x16 : Int32), R5 x16 M14 → R50 x16) → (v = 0 → R50 0) ∧ (¬ v = 0 → ((r13 = 0 → R50 0) ∧ (¬ r13 = 0 → R50 1))))) → ((¬ (M 1 6) = (-1) → (jb v ∧ Q v M)) ∧ ((M 1 6) = (-1) → (w_X12_look P M (fun r8 M9 => (¬ r8 = 38 → (jb v ∧ Q v M9)) ∧ (r8 = 38 → (E12 P (upM M9 1 5 ((M9 1 5) + 1)) (fun r13 M14 => ∀ R50 : Int32 → Prop, (∀ (x16 : Int32), R5 x16 M14 → R50 x16) → (v = 0 → R50 0) ∧ (¬ v = 0 → ((r13 = 0 → R50 0) ∧ (¬ r13 = 0 → R50 1)))))))))) := by
        rintro P c M v Q R5 hc ⟨r1, r2, r3, r4, r5⟩ hk
        refine ⟨fun z => absurd r3 z, fun _ => s12_look r1 hT r2 hi (fun M9 g1 g2 g3 => ⟨fun z => absurd hR38 z, fun _ => ?_⟩)⟩
        rw [g3, nI_1]
        refine hk _ (g1.trans (f12.up (by omega) _)) ⟨(r1.f12 g1).f12 (f12.up (by omega) _), by rw [up_at, if_pos rfl], ?_, ?_, ?_⟩
        · rw [up_at, if_neg (by omega), g2 6 (by omega)]; exact r3
        · rw [up_at, if_neg (by omega), g2 7 (by omega)]; exact r4
        · rw [up_at, if_neg (by omega), g2 8 (by omega)]; exact r5
      have sepC : ∀ (P : jP) (M : jM) (k : Nat) (Q : Int32 → jM → Prop), S7 P M A i k → (∀ M', f11 k M M' → M' 3 3 = M 3 3 → S7 P M' A (skN A i + 1) k → Q 1 M') → w_X10_passes P 38 M Q := by
        rintro P M k Q ⟨r1, r2, r3⟩ hk
        refine s11_passes (v := 38) r1 hT (by omega) r2 hi (fun _ M' g1 g2 g3 => ?_) (fun z => absurd hsep z)
        have g : f11 k M M' := f11_of3 g1 (fun j a _ => g2 j a)
        exact hk M' g (g2 3 (by omega)) ⟨r1.f11 g, g3, by rw [g1 4 (by omega)]; exact r3⟩
      rcases hE (skN A i + 1) (by omega) with ⟨p, p1, p2, p3⟩ | ⟨i1, L1, val, e1, e2, e3, e4, e5, e6⟩
      · refine Or.inl ⟨p, p1, fun P c M v Q hc hs hv hq => ?_, fun P M k x Q hs hk hx hq => ?_⟩
        · intro R5 h5
          refine h5 _ _ (ref P c M v Q R5 hc hs (fun M' g s' => p2 P c M' _ hc s' (fun v' M2 hv' g2 g3 => ?_)))
          intro R50 h50
          exact jfA (fun x hx => h50 x (h5 _ _ ⟨fun _ => ⟨hx.jb, hq x M2 hx (g.trans g2) g3⟩, fun z => absurd (g3.symm.trans z) (nI_ne1 (by omega))⟩))
        · intro R8 h8
          refine h8 _ _ _ (br_f (nI_ge (b := 160) (show x < 160 by omega) (by omega)) ⟨fun z => absurd z (by decide), fun _ => sepC P M k _ hs (fun M' g g3 s' => ⟨fun z => absurd z (by decide), fun _ => p3 P M' k _ s' (by omega) (fun M2 g2 e => ?_)⟩)⟩)
          intro R52 h52
          have fin : jb 0 ∧ Q 0 M2 := ⟨jb_0, hq M2 (g.trans g2 (Nat.le_refl k)) e⟩
          exact ⟨fun _ => h52 _ _ (h8 _ _ _ ⟨fun _ => fin, fun _ => ⟨fun _ => fin, fun z => absurd rfl z⟩⟩), fun z => absurd rfl z⟩
      · have emit : ∀ (P : jP) (M : jM) (k : Nat) (Q : Int32 → jM → Prop), k ≤ i → RelC P M A → M 3 2 = nI i1 → M 4 3 = nI (k + L1.length) → (∀ M', f11 (k + L1.length) M M' → M' 3 3 = M 3 3 → S7 P M' A i1 (k + L1.length + 1) → M' 18 (k + L1.length) = 2 → Q 1 M') → w_X7_emit P 2 M Q := by
          intro P M k Q hk r1 r2 r3 hQ
          refine s11_emit r3 (by omega) (fun M' g g3 g4 g5 => hQ M' g (g3 3) ⟨r1.f11 g, by rw [g3]; exact r2, g4⟩ g5)
        rcases ih (A.1 1 - i1) (by omega) i1 (by omega) with ⟨p, p1, p2, p3⟩ | ⟨i2, L2, tv, t1, t2, t3, t4, t5, t6⟩
        · refine Or.inl ⟨p, p1, fun P c M v Q hc hs hv hq => ?_, fun P M k x Q hs hk hx hq => ?_⟩
          · intro R5 h5
            refine h5 _ _ (ref P c M v Q R5 hc hs (fun M' g s' => e5 P c M' _ hc s' (fun M2 g2 s2 => ?_)))
            intro R50 h50
            exact jfA (fun y hy => h50 y (p2 P c M2 y Q hc s2 hy (fun v' M3 b1 b2 b3 => hq v' M3 b1 ((g.trans g2).trans b2) b3) R5 h5))
          · intro R8 h8
            refine h8 _ _ _ (br_f (nI_ge (b := 160) (show x < 160 by omega) (by omega)) ⟨fun z => absurd z (by decide), fun _ => sepC P M k _ hs (fun M' g g3 s' => ⟨fun z => absurd z (by decide), fun _ => e6 P M' k _ s' (by omega) (fun M2 g2 a1 a2 a3 a4 => ?_)⟩)⟩)
            intro R52 h52
            refine ⟨fun z => absurd z (by decide), fun _ => emit P M2 k _ hk (s'.1.f11 g2) a2 a3 (fun M3 g5 b1 b2 b3 => ⟨fun z => absurd z (by decide), fun _ => h52 _ _ ?_⟩)⟩
            rw [nI_1]
            exact p3 P M3 (k + L1.length + 1) (x + 1) Q b2 (by omega) (by omega) (fun M4 g6 e => hq M4 (((g.trans g2 (Nat.le_refl k)).trans g5 (by omega)).trans g6 (by omega)) e) R8 h8
        · refine Or.inr ⟨i2, L1 ++ 2 :: L2, fun c => val c && tv c, by omega, t2, ?_, tOK_and e4 t4 hw, fun P c M b Q hc hs hq => ?_, fun P M k x Q hs hk hx hq => ?_⟩
          · rw [List.length_append, List.length_cons]; omega
          · intro R5 h5
            refine h5 _ _ (ref P c M _ Q R5 hc hs (fun M' g s' => e5 P c M' _ hc s' (fun M2 g2 s2 => ?_)))
            intro R50 h50
            refine jnA (h50 _ (t5 P c M2 (b && val c) Q hc s2 (fun M3 g3 s3 => ?_) R5 h5))
            have := hq M3 ((g.trans g2).trans g3) s3
            rw [Bool.and_assoc]
            exact this
          · intro R8 h8
            refine h8 _ _ _ (br_f (nI_ge (b := 160) (show x < 160 by omega) (by omega)) ⟨fun z => absurd z (by decide), fun _ => sepC P M k _ hs (fun M' g g3 s' => ⟨fun z => absurd z (by decide), fun _ => e6 P M' k _ s' (by omega) (fun M2 g2 a1 a2 a3 a4 => ?_)⟩)⟩)
            intro R52 h52
            refine ⟨fun z => absurd z (by decide), fun _ => emit P M2 k _ hk (s'.1.f11 g2) a2 a3 (fun M3 g5 b1 b2 b3 => ⟨fun z => absurd z (by decide), fun _ => h52 _ _ ?_⟩)⟩
            rw [nI_1]
            refine t6 P M3 (k + L1.length + 1) (x + 1) Q b2 (by omega) (by omega) (fun M4 g6 c1 c2 c3 c4 => hq M4 (((g.trans g2 (Nat.le_refl k)).trans g5 (by omega)).trans g6 (by omega)) ?_ c2 ?_ (fun j hj => ?_)) R8 h8
            · rw [c1, b1, a1, g3]
            · rw [c3, List.length_append, List.length_cons]
              congr 1; omega
            · rw [getD_app]
              rw [List.length_append, List.length_cons] at hj
              by_cases z : j < L1.length
              · rw [if_pos z, g6.2.2.2 _ (by omega), g5.2.2.2 _ (by omega)]
                exact a4 j z
              · rw [if_neg z]
                by_cases z2 : j = L1.length
                · rw [z2, Nat.sub_self, g6.2.2.2 _ (by omega), b3]
                  rfl
                · have := c4 (j - L1.length - 1) (by omega)
                  rw [show k + L1.length + 1 + (j - L1.length - 1) = k + j by omega] at this
                  rw [this, show j - L1.length = (j - L1.length - 1) + 1 by omega]
                  rfl
    · refine Or.inr ⟨skN A i, [], fun _ => true, k1, k2, Nat.zero_le _, tOK_nil (fun b => Bool.and_true b), fun P c M b Q hc hs hq => ?_, fun P M k x Q hs hk hx hq => ?_⟩
      · obtain ⟨r1, r2, r3, r4, r5⟩ := hs
        intro R5 h5
        refine h5 _ _ ⟨fun z => absurd r3 z, fun _ => s12_look r1 hT r2 hi (fun M9 g1 g2 g3 => ⟨fun _ => ⟨bi_jb, ?_⟩, fun z => absurd ((hR_eq (v := 38) hT (by omega) (by omega)).mp z) hsep⟩)⟩
        have := hq M9 g1 ⟨r1.f12 g1, g3, by rw [g2 6 (by omega)]; exact r3, by rw [g2 7 (by omega)]; exact r4, by rw [g2 8 (by omega)]; exact r5⟩
        rw [Bool.and_true] at this
        exact this
      · obtain ⟨r1, r2, r3⟩ := hs
        intro R8 h8
        refine h8 _ _ _ (br_f (nI_ge (b := 160) (show x < 160 by omega) (by omega)) ⟨fun z => absurd z (by decide), fun _ => s11_passes (v := 38) r1 hT (by omega) r2 hi (fun z => absurd z hsep) (fun _ M' g1 g2 g3 => ⟨fun _ => ⟨jb_1, ?_⟩, fun z => absurd rfl z⟩)⟩)
        exact hq M' (f11_of3 g1 (fun j a _ => g2 j a)) (g2 3 (by omega)) g3 (by rw [g1 4 (by omega)]; exact r3) (fun j hj => absurd hj (Nat.not_lt_zero j))
theorem tails_O {E12 E7 : jT} {A : aS} {d w : Nat} (hT : wfT A) (h160 : A.1 1 ≤ 160) (hw : 1 ≤ w) (hE : ∀ i, i ≤ A.1 1 → jo E12 E7 A d i w) : ∀ r i, i + r = A.1 1 → jtl or tl12O tl7O E12 E7 A d i w := by
  intro r
  induction r using Nat.strongRecOn with
  | ind r ih =>
    intro i hr
    have hi : i ≤ A.1 1 := by omega
    obtain ⟨k1, k2, k3⟩ := skN_le hi
    by_cases hsep : chN A (skN A i) = 124
    · have hq : skN A i < A.1 1 := ch_len hsep (by omega)
      have hR38 : hR A (skN A i) = 124 := (hR_eq (v := 124) hT (by omega) (by omega)).mpr hsep
      -- the reference comes to the element
      have ref : ∀ (P : jP) (c : Nat) (M : jM) (v : Int32) (Q : Int32 → jM → Prop) (R5 : Int32 → jM → Prop), c < 512 → S12 M A c i d → (∀ M', f12 M M' → S12 M' A c (skN A i + 1) d → E12 P M' (fun r13 M14 => ∀ R50 : Int32 → Prop, (∀ (x16 : Int32), R5 x16 M14 → R50 x16) → (¬ v = 0 → R50 1) ∧ (v = 0 → ((r13 = 0 → R50 0) ∧ (¬ r13 = 0 → R50 1))))) → ((¬ (M 1 6) = (-1) → (jb v ∧ Q v M)) ∧ ((M 1 6) = (-1) → (w_X12_look P M (fun r8 M9 => (¬ r8 = 124 → (jb v ∧ Q v M9)) ∧ (r8 = 124 → (E12 P (upM M9 1 5 ((M9 1 5) + 1)) (fun r13 M14 => ∀ R50 : Int32 → Prop, (∀ (x16 : Int32), R5 x16 M14 → R50 x16) → (¬ v = 0 → R50 1) ∧ (v = 0 → ((r13 = 0 → R50 0) ∧ (¬ r13 = 0 → R50 1)))))))))) := by
        rintro P c M v Q R5 hc ⟨r1, r2, r3, r4, r5⟩ hk
        refine ⟨fun z => absurd r3 z, fun _ => s12_look r1 hT r2 hi (fun M9 g1 g2 g3 => ⟨fun z => absurd hR38 z, fun _ => ?_⟩)⟩
        rw [g3, nI_1]
        refine hk _ (g1.trans (f12.up (by omega) _)) ⟨(r1.f12 g1).f12 (f12.up (by omega) _), by rw [up_at, if_pos rfl], ?_, ?_, ?_⟩
        · rw [up_at, if_neg (by omega), g2 6 (by omega)]; exact r3
        · rw [up_at, if_neg (by omega), g2 7 (by omega)]; exact r4
        · rw [up_at, if_neg (by omega), g2 8 (by omega)]; exact r5
      have sepC : ∀ (P : jP) (M : jM) (k : Nat) (Q : Int32 → jM → Prop), S7 P M A i k → (∀ M', f11 k M M' → M' 3 3 = M 3 3 → S7 P M' A (skN A i + 1) k → Q 1 M') → w_X10_passes P 124 M Q := by
        rintro P M k Q ⟨r1, r2, r3⟩ hk
        refine s11_passes (v := 124) r1 hT (by omega) r2 hi (fun _ M' g1 g2 g3 => ?_) (fun z => absurd hsep z)
        have g : f11 k M M' := f11_of3 g1 (fun j a _ => g2 j a)
        exact hk M' g (g2 3 (by omega)) ⟨r1.f11 g, g3, by rw [g1 4 (by omega)]; exact r3⟩
      rcases hE (skN A i + 1) (by omega) with ⟨p, p1, p2, p3⟩ | ⟨i1, L1, val, e1, e2, e3, e4, e5, e6⟩
      · refine Or.inl ⟨p, p1, fun P c M v Q hc hs hv hq => ?_, fun P M k x Q hs hk hx hq => ?_⟩
        · intro R5 h5
          refine h5 _ _ (ref P c M v Q R5 hc hs (fun M' g s' => p2 P c M' _ hc s' (fun v' M2 hv' g2 g3 => ?_)))
          intro R50 h50
          exact jfO (fun x hx => h50 x (h5 _ _ ⟨fun _ => ⟨hx.jb, hq x M2 hx (g.trans g2) g3⟩, fun z => absurd (g3.symm.trans z) (nI_ne1 (by omega))⟩))
        · intro R8 h8
          refine h8 _ _ _ (br_f (nI_ge (b := 160) (show x < 160 by omega) (by omega)) ⟨fun z => absurd z (by decide), fun _ => sepC P M k _ hs (fun M' g g3 s' => ⟨fun z => absurd z (by decide), fun _ => p3 P M' k _ s' (by omega) (fun M2 g2 e => ?_)⟩)⟩)
          intro R52 h52
          have fin : jb 0 ∧ Q 0 M2 := ⟨jb_0, hq M2 (g.trans g2 (Nat.le_refl k)) e⟩
          exact ⟨fun _ => h52 _ _ (h8 _ _ _ ⟨fun _ => fin, fun _ => ⟨fun _ => fin, fun z => absurd rfl z⟩⟩), fun z => absurd rfl z⟩
      · have emit : ∀ (P : jP) (M : jM) (k : Nat) (Q : Int32 → jM → Prop), k ≤ i → RelC P M A → M 3 2 = nI i1 → M 4 3 = nI (k + L1.length) → (∀ M', f11 (k + L1.length) M M' → M' 3 3 = M 3 3 → S7 P M' A i1 (k + L1.length + 1) → M' 18 (k + L1.length) = 3 → Q 1 M') → w_X7_emit P 3 M Q := by
          intro P M k Q hk r1 r2 r3 hQ
          refine s11_emit r3 (by omega) (fun M' g g3 g4 g5 => hQ M' g (g3 3) ⟨r1.f11 g, by rw [g3]; exact r2, g4⟩ g5)
        rcases ih (A.1 1 - i1) (by omega) i1 (by omega) with ⟨p, p1, p2, p3⟩ | ⟨i2, L2, tv, t1, t2, t3, t4, t5, t6⟩
        · refine Or.inl ⟨p, p1, fun P c M v Q hc hs hv hq => ?_, fun P M k x Q hs hk hx hq => ?_⟩
          · intro R5 h5
            refine h5 _ _ (ref P c M v Q R5 hc hs (fun M' g s' => e5 P c M' _ hc s' (fun M2 g2 s2 => ?_)))
            intro R50 h50
            exact jfO (fun y hy => h50 y (p2 P c M2 y Q hc s2 hy (fun v' M3 b1 b2 b3 => hq v' M3 b1 ((g.trans g2).trans b2) b3) R5 h5))
          · intro R8 h8
            refine h8 _ _ _ (br_f (nI_ge (b := 160) (show x < 160 by omega) (by omega)) ⟨fun z => absurd z (by decide), fun _ => sepC P M k _ hs (fun M' g g3 s' => ⟨fun z => absurd z (by decide), fun _ => e6 P M' k _ s' (by omega) (fun M2 g2 a1 a2 a3 a4 => ?_)⟩)⟩)
            intro R52 h52
            refine ⟨fun z => absurd z (by decide), fun _ => emit P M2 k _ hk (s'.1.f11 g2) a2 a3 (fun M3 g5 b1 b2 b3 => ⟨fun z => absurd z (by decide), fun _ => h52 _ _ ?_⟩)⟩
            rw [nI_1]
            exact p3 P M3 (k + L1.length + 1) (x + 1) Q b2 (by omega) (by omega) (fun M4 g6 e => hq M4 (((g.trans g2 (Nat.le_refl k)).trans g5 (by omega)).trans g6 (by omega)) e) R8 h8
        · refine Or.inr ⟨i2, L1 ++ 3 :: L2, fun c => val c || tv c, by omega, t2, ?_, tOK_or e4 t4 hw, fun P c M b Q hc hs hq => ?_, fun P M k x Q hs hk hx hq => ?_⟩
          · rw [List.length_append, List.length_cons]; omega
          · intro R5 h5
            refine h5 _ _ (ref P c M _ Q R5 hc hs (fun M' g s' => e5 P c M' _ hc s' (fun M2 g2 s2 => ?_)))
            intro R50 h50
            refine jnO (h50 _ (t5 P c M2 (b || val c) Q hc s2 (fun M3 g3 s3 => ?_) R5 h5))
            have := hq M3 ((g.trans g2).trans g3) s3
            rw [Bool.or_assoc]
            exact this
          · intro R8 h8
            refine h8 _ _ _ (br_f (nI_ge (b := 160) (show x < 160 by omega) (by omega)) ⟨fun z => absurd z (by decide), fun _ => sepC P M k _ hs (fun M' g g3 s' => ⟨fun z => absurd z (by decide), fun _ => e6 P M' k _ s' (by omega) (fun M2 g2 a1 a2 a3 a4 => ?_)⟩)⟩)
            intro R52 h52
            refine ⟨fun z => absurd z (by decide), fun _ => emit P M2 k _ hk (s'.1.f11 g2) a2 a3 (fun M3 g5 b1 b2 b3 => ⟨fun z => absurd z (by decide), fun _ => h52 _ _ ?_⟩)⟩
            rw [nI_1]
            refine t6 P M3 (k + L1.length + 1) (x + 1) Q b2 (by omega) (by omega) (fun M4 g6 c1 c2 c3 c4 => hq M4 (((g.trans g2 (Nat.le_refl k)).trans g5 (by omega)).trans g6 (by omega)) ?_ c2 ?_ (fun j hj => ?_)) R8 h8
            · rw [c1, b1, a1, g3]
            · rw [c3, List.length_append, List.length_cons]
              congr 1; omega
            · rw [getD_app]
              rw [List.length_append, List.length_cons] at hj
              by_cases z : j < L1.length
              · rw [if_pos z, g6.2.2.2 _ (by omega), g5.2.2.2 _ (by omega)]
                exact a4 j z
              · rw [if_neg z]
                by_cases z2 : j = L1.length
                · rw [z2, Nat.sub_self, g6.2.2.2 _ (by omega), b3]
                  rfl
                · have := c4 (j - L1.length - 1) (by omega)
                  rw [show k + L1.length + 1 + (j - L1.length - 1) = k + j by omega] at this
                  rw [this, show j - L1.length = (j - L1.length - 1) + 1 by omega]
                  rfl
    · refine Or.inr ⟨skN A i, [], fun _ => false, k1, k2, Nat.zero_le _, tOK_nil (fun b => Bool.or_false b), fun P c M b Q hc hs hq => ?_, fun P M k x Q hs hk hx hq => ?_⟩
      · obtain ⟨r1, r2, r3, r4, r5⟩ := hs
        intro R5 h5
        refine h5 _ _ ⟨fun z => absurd r3 z, fun _ => s12_look r1 hT r2 hi (fun M9 g1 g2 g3 => ⟨fun _ => ⟨bi_jb, ?_⟩, fun z => absurd ((hR_eq (v := 124) hT (by omega) (by omega)).mp z) hsep⟩)⟩
        have := hq M9 g1 ⟨r1.f12 g1, g3, by rw [g2 6 (by omega)]; exact r3, by rw [g2 7 (by omega)]; exact r4, by rw [g2 8 (by omega)]; exact r5⟩
        rw [Bool.or_false] at this
        exact this
      · obtain ⟨r1, r2, r3⟩ := hs
        intro R8 h8
        refine h8 _ _ _ (br_f (nI_ge (b := 160) (show x < 160 by omega) (by omega)) ⟨fun z => absurd z (by decide), fun _ => s11_passes (v := 124) r1 hT (by omega) r2 hi (fun z => absurd z hsep) (fun _ M' g1 g2 g3 => ⟨fun _ => ⟨jb_1, ?_⟩, fun z => absurd rfl z⟩)⟩)
        exact hq M' (f11_of3 g1 (fun j a _ => g2 j a)) (g2 3 (by omega)) g3 (by rw [g1 4 (by omega)]; exact r3) (fun j hj => absurd hj (Nat.not_lt_zero j))
