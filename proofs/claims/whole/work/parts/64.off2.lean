/-! off: the reference's side -/
theorem cmp0 {n : Nat} (h : n < 2 ^ 63) : lg_cmp (lN n) 0 = 0 ↔ n = 0 := by
  unfold lg_cmp
  have e1 : lN n = 0 ↔ n = 0 := pk_lEQ (a := n) (b := 0) h (by omega)
  have e2 : (0 : Int64) < lN n ↔ 0 < n := pk_lLT (a := 0) (b := n) (by omega) h
  by_cases z : n = 0
  · rw [if_neg (fun q => by have := e2.mp q; omega), if_pos (e1.mpr z)]
    exact ⟨fun _ => z, fun _ => rfl⟩
  · rw [if_pos (e2.mpr (by omega))]
    exact ⟨fun q => absurd q (by decide), fun q => absurd q z⟩
theorem off_ok {A : aS} (h : wfA A) {f : Nat} (hf : f < A.1 4) {nm : Nat} (hnm : A.2 7 f = nI nm) (hm : nm ≤ 12) {t : Nat} (ht : t < nm) : fcN A f t < A.1 0 ∧ A.2 4 (12 * f + t) = nI (fcN A f t) ∧ (A.2 16 (fcN A f t) = nI (A.2 16 (fcN A f t)).toNatClampNeg) ∧ (A.2 16 (fcN A f t)).toNatClampNeg ≤ 10 ∧ A.2 5 (12 * f + t) = nI (A.2 5 (12 * f + t)).toNatClampNeg ∧ A.2 6 (12 * f + t) = nI (A.2 6 (12 * f + t)).toNatClampNeg ∧ ∀ c, ((t < nxF A f c t ∧ nxF A f c t < nm) ∨ (99 ≤ nxF A f c t ∧ nxF A f c t ≤ 105)) ∧ ((t < oxF A f c t ∧ oxF A f c t < nm) ∨ (99 ≤ oxF A f c t ∧ oxF A f c t ≤ 105)) := by
  have h6 := h.1
  unfold wfNum at h6
  obtain ⟨nm', h1, h2, h3, h4⟩ := form_ok h.2.2.2.1 hf
  have e : nm = nm' := (nI_eq (by omega) (by omega)).mp (hnm.symm.trans h3)
  subst e
  obtain ⟨⟨x, hx, ex⟩, -, e5, e6, -⟩ := h4 0 t ht
  have ef : fcN A f t = x := by
    unfold fcN
    rw [ex, nI_clamp (by omega)]
  obtain ⟨w, w1, w2⟩ := h.2.2.2.2.1.2.2.2.2 x hx
  have ew : (A.2 16 x).toNatClampNeg = w := by rw [w2, nI_clamp (by omega)]
  have hyes : (t < (A.2 5 (12 * f + t)).toNatClampNeg ∧ (A.2 5 (12 * f + t)).toNatClampNeg < nm) ∨ (99 ≤ (A.2 5 (12 * f + t)).toNatClampNeg ∧ (A.2 5 (12 * f + t)).toNatClampNeg ≤ 105) := by
    have := (h4 (2 ^ x) t ht).2.1
    unfold nxF at this
    rw [ex, nI_clamp (by omega), Nat.testBit_two_pow, decide_eq_true rfl, if_pos rfl] at this
    exact this
  have hno : (t < (A.2 6 (12 * f + t)).toNatClampNeg ∧ (A.2 6 (12 * f + t)).toNatClampNeg < nm) ∨ (99 ≤ (A.2 6 (12 * f + t)).toNatClampNeg ∧ (A.2 6 (12 * f + t)).toNatClampNeg ≤ 105) := by
    have := (h4 0 t ht).2.1
    unfold nxF at this
    rw [Nat.zero_testBit, if_neg (by decide)] at this
    exact this
  refine ⟨by omega, by rw [ef]; exact ex, by rw [ef, ew]; exact w2, by rw [ef, ew]; exact w1, e5, e6, fun c => ⟨?_, ?_⟩⟩
  · unfold nxF
    split
    · exact hyes
    · exact hno
  · unfold oxF
    split
    · exact hno
    · exact hyes
theorem s12_offFrom {P : jP} {M : jM} {A : aS} (h : RelM M A) {f nm c : Nat} (hf : f < A.1 4) (h2 : nm ≤ 12) (h3 : A.2 7 f = nI nm) (hc : c < 512) {o bar : Int32} : ∀ d t fl (Q : Int64 → Prop), (t < nm ∨ (99 ≤ t ∧ t ≤ 105)) → 13 ≤ t + d → 1 ≤ d → fl < 2 ^ 62 → Q (lN (offN A f c o bar d t fl)) → wr_X12_offFrom d P (nI f) (nI t) (nI c) o (lN fl) bar M Q := by
  have h6 := h.num
  unfold wfNum at h6
  intro d
  induction d with
  | zero => intro t fl Q _ _ hd; omega
  | succ d ih =>
    intro t fl Q ht hd _ hfl hq
    unfold wr_X12_offFrom wb_X12_offFrom
    rw [cmp0 (by omega)]
    refine bn_c (fun z0 => br_c (fun z => ?_) (fun z => ?_)) (fun z0 => ?_)
    · have htn : t < nm := by
        rcases ht with q | q
        · exact q
        · have := (nI_ltI (a := t) (b := 12) (by omega) (by omega)).mp z
          omega
      obtain ⟨hx, ex, ew, hw, e5, e6, hn⟩ := off_ok h.1 hf h3 h2 htn
      have ix := ix12 (l := f) (k := t) (N := 84) (by omega) (by omega)
      have step : offN A f c o bar (d + 1) t fl = offN A f c o bar d (nxF A f c t) (fl - shrM A bar (fcN A f t) fl) + offN A f c o bar d (oxF A f c t) (shrM A bar (fcN A f t) fl) := by
        show (if t < 12 then _ else _) = _
        rw [if_pos (by omega)]
      have lm := shrM_le (bar := bar) hw fl
      rw [step, ← lN_add] at hq
      unfold w_X12_factOf
      refine ⟨ix.1, ?_⟩
      rw [ix.2, h.node (by omega) (by omega), ex]
      intro R65 h65
      have go : R65 (lN (shrM A bar (fcN A f t) fl)) := by
        refine h65 _ ?_
        rw [lN_sub lm]
        have two : ∀ (T : Int64 → Prop), T (lN (offN A f c o bar d (nxF A f c t) (fl - shrM A bar (fcN A f t) fl))) → w_X12_has P (nI c) (nI (fcN A f t)) (fun r7 => w_X12_nextOf P (nI f) (nI t) r7 M (fun r10 => wr_X12_offFrom d P (nI f) r10 (nI c) o (lN (fl - shrM A bar (fcN A f t) fl)) bar M T)) := by
          intro T hT
          refine s12_has (by omega) (by omega) ?_
          unfold w_X12_nextOf
          rw [ix.2, h.node (k := 5) (by omega) (by omega), h.node (k := 6) (by omega) (by omega)]
          have hn1 := (hn c).1
          unfold nxF at hn1 hT
          have ef : (A.2 4 (12 * f + t)).toNatClampNeg = fcN A f t := rfl
          rw [ef] at hn1 hT
          refine br_i (fun b => ⟨ix.1, ?_⟩) (fun b => ⟨ix.1, ?_⟩)
          · rw [if_neg b] at hn1 hT
            rw [e6]
            exact ih _ _ _ (hn1.imp And.right id) (by omega) (by omega) (by omega) hT
          · rw [if_pos b] at hn1 hT
            rw [e5]
            exact ih _ _ _ (hn1.imp And.right id) (by omega) (by omega) (by omega) hT
        refine two _ (s12_has (by omega) (by omega) ?_)
        intro R113 h113
        have hn2 := (hn c).2
        unfold oxF at hn2 hq
        refine br_j (fun b => h113 _ _ ?_) (fun b => h113 _ _ ?_)
        · rw [if_pos b] at hn2 hq
          unfold w_X12_nextOf
          rw [ix.2, h.node (k := 6) (by omega) (by omega)]
          refine br_t rfl ⟨ix.1, ?_⟩
          rw [e6]
          exact ih _ _ _ (hn2.imp And.right id) (by omega) (by omega) (by omega) hq
        · rw [if_neg b] at hn2 hq
          unfold w_X12_nextOf
          rw [ix.2, h.node (k := 5) (by omega) (by omega)]
          refine br_f (by decide) ⟨ix.1, ?_⟩
          rw [e5]
          exact ih _ _ _ (hn2.imp And.right id) (by omega) (by omega) (by omega) hq
      refine bn_c (fun b => ⟨vin (by omega) (by omega), ?_⟩) (fun b => ?_)
      · rw [shrM, if_neg b] at go
        rw [nI_clamp (by omega), h.row (by omega), ew, nI_l (by omega), show (10 : Int64) = lN 10 from rfl, pk_lDiv (by omega) (by omega) (by omega), lN_mul]
        exact go
      · rw [shrM, if_pos b] at go
        exact go
    · have ht12 : ¬ t < 12 := fun q => z ((nI_ltI (a := t) (b := 12) (by omega) (by omega)).mpr q)
      have step : offN A f c o bar (d + 1) t fl = if nI t - 100 = o then 0 else fl := by
        show (if t < 12 then _ else _) = _
        rw [if_neg ht12]
      rw [step] at hq
      refine br_c (fun e => ?_) (fun e => ?_)
      · rw [if_pos e] at hq; exact hq
      · rw [if_neg e] at hq; exact hq
    · subst z0
      rw [offN_0] at hq
      exact hq
def offS (A : aS) (a b k : Int32) : Int64 := if okF A a ∧ okL A b ∧ okC A k then lN (offN A a.toNatClampNeg k.toNatClampNeg (sdA A b.toNatClampNeg k.toNatClampNeg) (-1) 20 0 1000000000000) else -1
theorem s12_off {P : jP} {M : jM} {A : aS} (h : RelM M A) {a b k : Int32} {Q : Int64 → jM → Prop} (hq : ∀ M', RelM M' A → Q (offS A a b k) M') : w_X12_off P a b k M Q := by
  unfold w_X12_off
  have h0 := h.thr 0
  generalize upM M 1 0 0 = M0 at h0 ⊢
  have hq := hq M0 h0
  refine s12_isForm h0 (br_i (fun hn => ?_) (fun hf => s12_isLaw h0 (br_i (fun hn => ?_) (fun hl => s12_isCase h0 (br_i (fun hn => ?_) (fun hk => ?_))))))
  · rw [offS, if_neg (fun z => hn z.1)] at hq; exact hq
  · rw [offS, if_neg (fun z => hn z.2.1)] at hq; exact hq
  · rw [offS, if_neg (fun z => hn z.2.2)] at hq; exact hq
  · rw [offS, if_pos ⟨hf, hl, hk⟩] at hq
    obtain ⟨f, hf1, hf2, rfl⟩ := okF_of h0 hf
    obtain ⟨l, hl1, hl2, rfl⟩ := okL_of h0 hl
    obtain ⟨c, hc1, hc2, rfl⟩ := okC_of h0 hk
    rw [nI_clamp (show f < 2 ^ 31 by omega), nI_clamp (show l < 2 ^ 31 by omega), nI_clamp (show c < 2 ^ 31 by omega)] at hq
    obtain ⟨nm, h1, h2, h3, h4⟩ := form_ok h0.1.2.2.2.1 hf1
    refine s12_saidOn h0 hl2 hc2 ?_
    exact s12_offFrom h0 hf1 h2 h3 hc2 20 0 1000000000000 _ (Or.inl (by omega)) (by omega) (by omega) (by omega) hq
