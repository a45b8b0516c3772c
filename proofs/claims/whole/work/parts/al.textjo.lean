/-! TEXT and FAULT on both sides -/
theorem text_fail12 {A : aS} {s p : Nat} (hs : s ≤ 2) (hp : p ≤ 160) (href : ∀ (P : jP) (M : jM) (Q : jM → Prop), RelM M A → (∀ M', RelM M' A → M' 1 6 = nI p → Q M') → w_X12_readAs P (nI s) M Q) {P : jP} {M : jM} {Q : Int32 → jM → Prop} (hR : RelM M A) (hq : ∀ M', RelM M' A → Q (-1) M') : w_X12_text P (nI s) M Q := by
  have h6 := hR.num
  unfold wfNum at h6
  by_cases hf : (s = 0 ∧ A.1 2 = 6) ∨ (s = 1 ∧ A.1 3 = 10) ∨ (s = 2 ∧ A.1 4 = 6)
  · exact s12_textFull hR hs hf hq
  · refine s12_textTop hR hs ⟨fun _ => by omega, fun _ => by omega, fun _ => by omega⟩ ?_
    unfold w_X12_fault
    refine s12_isIn ?_
    rw [bi_t ⟨nI_pos (by omega), Int32.not_lt.mpr (nI_le (b := 2) hs (by omega))⟩]
    refine bn_f (by decide) (href P _ _ ((hR.thr 0).thr 0) (fun M' r e => ?_))
    exact ⟨fun z => absurd (e.symm.trans z) (nI_ne1 (by omega)), fun _ => hq M' r⟩
theorem topL {P : jP} {M : jM} {Q : jM → Prop} (h : w_X12_readLaw P (nI 0) M Q) : w_X12_readAs P (nI 0) M Q := by
  unfold w_X12_readAs
  exact bn_t rfl h
theorem topQ {P : jP} {M : jM} {Q : jM → Prop} (h : w_X12_readQuestion P (nI 0) M (fun _ M' => Q M')) : w_X12_readAs P (nI 1) M Q := by
  unfold w_X12_readAs
  exact bn_f (by decide) (bn_f (by decide) h)
theorem topF {P : jP} {M : jM} {Q : jM → Prop} (h : w_X12_readForm P (nI 6) M Q) : w_X12_readAs P (nI 2) M Q := by
  unfold w_X12_readAs
  exact bn_f (by decide) (bn_t rfl h)
theorem wfX_law {A : aS} {n : Nat} {o : Nat → Nat} {cv uv : Nat → Nat → Bool} (h : wfX A) : wfX (lawA A n o cv uv) := ⟨fun j hj => absurd hj (Nat.not_lt_zero j), fun q a b => by
  have e : (lawA A n o cv uv).2 13 = A.2 13 := (show ∀ k, k ≠ 1 ∧ ¬ (8 ≤ k ∧ k ≤ 11) → (lawA A n o cv uv).2 k = A.2 k from fun k h => lawT_ne h) 13 (by omega)
  rw [e]; exact h.2 q a b⟩
theorem wfX_q {A : aS} {val : Nat → Bool} (h : wfX A) : wfX (qA A val) := ⟨fun j hj => absurd hj (Nat.not_lt_zero j), fun q a b => by
  have e : (qA A val).2 13 = A.2 13 := (show ∀ k, k ≠ 1 ∧ k ≠ 14 → (qA A val).2 k = A.2 k from fun k h => qT_ne h) 13 (by omega)
  have a : A.1 3 + 1 ≤ q := a
  rw [e]; exact h.2 q (by omega) b⟩
theorem wfX_form {A : aS} {n : Nat} {fc yt nt : Nat → Nat} (h : wfX A) : wfX (fA A n fc yt nt) := ⟨fun j hj => absurd hj (Nat.not_lt_zero j), fun q a b => by
  have e : (fA A n fc yt nt).2 13 = A.2 13 := (show ∀ k, k ≠ 1 ∧ ¬ (4 ≤ k ∧ k ≤ 7) → (fA A n fc yt nt).2 k = A.2 k from fun k h => fT_ne h) 13 (by omega)
  rw [e]; exact h.2 q a b⟩
abbrev glA (A : aS) : Nat := 64 + 8 * A.1 2
abbrev gfA (A : aS) : Nat := 128 + 4 * (A.1 4 + 1)
theorem text_jo {P : jP} {M : jM} {N : jN} {A : aS} {t : Nat} (hG : GC P M N A t) (hX : wfX A) (ht : t < 4000) (x : Int32) : ∃ (v : Int32) (A' : aS), wfX A' ∧ (∀ (sP : jP) (Mm : jM) (Q : Int32 → jM → Prop), RelM Mm A → (∀ M', RelM M' A' → Q v M') → w_X12_text sP x Mm Q) ∧
    ((A'.1 2 = A.1 2 ∧ ∀ Q : Int32 → jP → jM → jN → Prop, (∀ P' M' N', P'.2.2 = P.2.2 → GC P' M' N' A' (t + 1) → Q v P' M' N') → w_X11_textS P x (glA A) (gfA A) M N Q) ∨
     (A'.1 2 = A.1 2 + 1 ∧ ∀ Q : Int32 → jP → jM → jN → Prop, (∀ P' M' N', P'.2.2 = P.2.2 → GC P' M' N' A' (t + 1) → Q v P' M' N') → w_X11_text P x (glA A) (gfA A) M N Q)) := by
  have hR := hG.1
  have hn := hR.num
  unfold wfNum at hn
  have h160 : A.1 1 ≤ 160 := hn.2.1
  have p1 : P.2.1 1 = true := (hG.2.1 1 (by omega)).mpr (Or.inl ⟨by omega, by omega⟩)
  have gl200 : glA A < 200 := by show 64 + 8 * A.1 2 < 200; omega
  have gf200 : gfA A < 200 := by show 128 + 4 * (A.1 4 + 1) < 200; omega
  rcases sort3 x with h | ⟨s, hs, rfl⟩
  · refine ⟨-1, A, hX, fun sP Mm Q hM hq => s12_textOut hM h hq, Or.inl ⟨rfl, fun Q hq => ?_⟩⟩
    have q := hq P M N rfl hG.later
    unfold w_X11_textS
    refine ⟨p1, gl200, gf200, br_c (fun _ => q) (fun n0 => br_c (fun _ => q) (fun n2 => ?_))⟩
    rcases h with h | h
    · exact absurd h n0
    · exact absurd (Int32.not_lt.mp n2) h
  · have n0 : ¬ nI s < 0 := nI_pos (by omega)
    have n2 : ¬ 2 < nI s := Int32.not_lt.mpr (nI_le (b := 2) hs (by omega))
    have : s = 0 ∨ s = 1 ∨ s = 2 := by omega
    rcases this with rfl | rfl | rfl
    · rcases rdL_ok hX.1 h160 hR.n9 with ⟨p, q1, q2, q3⟩ | ⟨n, o, st, un, en, cv, uv, t1, t2, t3, t4, t5⟩
      · refine ⟨-1, A, hX, fun sP Mm Q hM hq => text_fail12 hs (by omega) (fun P M Q hR hq => topL (q2 P 0 M Q (by omega) hR.w (fun M' g e => hq M' (hR.g12 g) e))) hM hq, Or.inl ⟨rfl, fun Q hq => ?_⟩⟩
        unfold w_X11_textS
        refine ⟨p1, gl200, gf200, br_f n0 (br_f n2 (q3 P M _ hR (fun M' g => br_f (nI_ne1 (by omega)) (hq P M' N rfl (hG.rC (by omega) g)))))⟩
      · by_cases hl : A.1 2 < 6
        · refine ⟨nI (A.1 2), lawA A n o cv uv, wfX_law hX, fun sP Mm Q hM hq => s12_textL hM t4 hl t1 t2 (fun j hj => (t3 j hj).1) hq, Or.inr ⟨rfl, fun Q hq => ?_⟩⟩
          unfold w_X11_text
          refine ⟨p1, gl200, gf200, br_f n0 (br_f n2 (t5 P M _ hR (fun M' g cl => br_t rfl (bn_t rfl ?_))))⟩
          exact k_law (hG.rC (Nat.le_refl _) g) ht cl t1 t2 t3 hl (fun P' M2 N' z gg => br_f (nI_ne1 (by omega)) (hq P' _ N' z gg))
        · have e6 : A.1 2 = 6 := by omega
          refine ⟨-1, A, hX, fun sP Mm Q hM hq => s12_textFull hM hs (Or.inl ⟨rfl, e6⟩) hq, Or.inl ⟨rfl, fun Q hq => ?_⟩⟩
          unfold w_X11_textS
          refine ⟨p1, gl200, gf200, br_f n0 (br_f n2 (t5 P M _ hR (fun M' g cl => br_t rfl (bn_t rfl ?_))))⟩
          have hG' := hG.rC (t' := t + 1) (by omega) g
          unfold w_X11_keepLawS
          refine ⟨p1, gl200, br_f ?_ (br_t rfl (hq P M' N rfl hG'))⟩
          rw [hG'.1.lawn, e6]
          decide
    · rcases rdQ_ok hX.1 h160 hR.n9 with ⟨p, q1, q2, q3⟩ | ⟨n, val, t1, t4, t5⟩
      · refine ⟨-1, A, hX, fun sP Mm Q hM hq => text_fail12 hs (by omega) (fun P M Q hR hq => topQ (q2 P 0 M _ (by omega) hR.w (fun _ M' _ g e => hq M' (hR.g12 g) e))) hM hq, Or.inl ⟨rfl, fun Q hq => ?_⟩⟩
        unfold w_X11_textS
        refine ⟨p1, gl200, gf200, br_f n0 (br_f n2 (q3 P M _ hR (fun M' g => br_f (nI_ne1 (by omega)) (hq P M' N rfl (hG.rC (by omega) g)))))⟩
      · by_cases hl : A.1 3 < 10
        · refine ⟨nI (A.1 3), qA A val, wfX_q hX, fun sP Mm Q hM hq => s12_textQ hM t4 hl hq, Or.inl ⟨rfl, fun Q hq => ?_⟩⟩
          unfold w_X11_textS
          refine ⟨p1, gl200, gf200, br_f n0 (br_f n2 (t5 P M _ hR (fun M' g e3 sg => br_t rfl (bn_f (by decide) (bn_t rfl ?_)))))⟩
          exact k_q (hG.rC (Nat.le_refl _) g) hX.2 e3 t1 sg (fun _ M2 gg => br_f (nI_ne1 (by omega)) (hq P _ N rfl gg)) (fun z => absurd hl z)
        · have e6 : A.1 3 = 10 := by omega
          refine ⟨-1, A, hX, fun sP Mm Q hM hq => s12_textFull hM hs (Or.inr (Or.inl ⟨rfl, e6⟩)) hq, Or.inl ⟨rfl, fun Q hq => ?_⟩⟩
          unfold w_X11_textS
          refine ⟨p1, gl200, gf200, br_f n0 (br_f n2 (t5 P M _ hR (fun M' g e3 sg => br_t rfl (bn_f (by decide) (bn_t rfl ?_)))))⟩
          exact k_q (hG.rC (Nat.le_refl _) g) hX.2 e3 t1 sg (fun z => absurd z hl) (fun _ => br_t rfl (hq P M' N rfl (hG.rC (by omega) g)))
    · rcases rdF_ok hX.1 h160 hR.n9 hn.2.2.2.2.1 with ⟨p, q1, q2, q3⟩ | ⟨n, fc, yt, nt, t1, t2, t3, t4, t5⟩
      · refine ⟨-1, A, hX, fun sP Mm Q hM hq => text_fail12 hs (by omega) (fun P M Q hR hq => topF (q2 6 (by omega) P M Q hR.w (fun M' g e => hq M' (hR.v6 g) e))) hM hq, Or.inl ⟨rfl, fun Q hq => ?_⟩⟩
        unfold w_X11_textS
        refine ⟨p1, gl200, gf200, br_f n0 (br_f n2 (q3 P M _ hR (fun M' g => br_f (nI_ne1 (by omega)) (hq P M' N rfl (hG.rC (by omega) g)))))⟩
      · by_cases hl : A.1 4 < 6
        · refine ⟨nI (A.1 4), fA A n fc yt nt, wfX_form hX, fun sP Mm Q hM hq => s12_textF hM t4 hl t1 t2 t3 hq, Or.inl ⟨rfl, fun Q hq => ?_⟩⟩
          unfold w_X11_textS
          refine ⟨p1, gl200, gf200, br_f n0 (br_f n2 (t5 P M _ hR (fun M' g e4 rr => br_t rfl (bn_f (by decide) (bn_f (by decide) ?_)))))⟩
          exact k_form (hG.rC (Nat.le_refl _) g) e4 t1 t2 t3 rr hl (fun P' M2 N' z gg => br_f (nI_ne1 (by omega)) (hq P' _ N' z gg))
        · have e6 : A.1 4 = 6 := by omega
          refine ⟨-1, A, hX, fun sP Mm Q hM hq => s12_textFull hM hs (Or.inr (Or.inr ⟨rfl, e6⟩)) hq, Or.inl ⟨rfl, fun Q hq => ?_⟩⟩
          unfold w_X11_textS
          refine ⟨p1, gl200, gf200, br_f n0 (br_f n2 (t5 P M _ hR (fun M' g e4 rr => br_t rfl (bn_f (by decide) (bn_f (by decide) ?_)))))⟩
          have hG' := hG.rC (t' := t + 1) (by omega) g
          unfold w_X11_keepForm
          refine ⟨p1, gf200, br_f ?_ (br_t rfl (hq P M' N rfl hG'))⟩
          rw [hG'.1.formn, e6]
          decide
/-! says and leads -/
def saysS (A : aS) (a c : Int32) : Int32 := A.2 8 (512 * a.toNatClampNeg + c.toNatClampNeg)
theorem s11_says {P : jP} {M : jM} {A : aS} (h : RelC P M A) {a c : Int32} {Q : Int32 → Prop} {QX : Prop} (q1 : okL A a ∧ okC A c → Q (saysS A a c)) (q0 : ¬ (okL A a ∧ okC A c) → QX) : w_X11_says P a c M Q QX := by
  have h6 := h.num
  unfold wfNum at h6
  have C := h.C512
  unfold w_X11_says
  refine s11_lawAt h (fun hn => ⟨fun _ => q0 (fun z => hn z.1), fun z => absurd rfl z⟩) (fun l hl el => ⟨fun z => absurd z (by omega), fun _ => ?_⟩)
  refine s11_isCase h (br_j (fun hc => ?_) (fun hc => q0 (fun z => hc z.2)))
  have ol : okL A a := by rw [el]; exact (ok3 (by omega)).mpr ⟨l, hl, rfl⟩
  have q1 := q1 ⟨ol, hc⟩
  obtain ⟨d, hd, rfl⟩ := (ok3 (by omega)).mp hc
  unfold saysS at q1
  rw [el, nI_clamp (show l < 2 ^ 31 by omega), nI_clamp (show d < 2 ^ 31 by omega)] at q1
  refine ⟨h.lw hl, jin_of (h.ia hl).2.2.1 hd (by omega), ?_⟩
  rw [nI_clamp (show d < 2 ^ 31 by omega), h.said hl hd]
  exact q1
theorem s12_says {P : jP} {M : jM} {A : aS} (h : RelM M A) {a c : Int32} {Q : Int32 → jM → Prop} (q1 : okL A a ∧ okC A c → ∀ M', RelM M' A → M' 1 0 = 0 → Q (saysS A a c) M') (q0 : ¬ (okL A a ∧ okC A c) → ∀ v M', RelM M' A → M' 1 0 = 1 → Q v M') : w_X12_says P a c M Q := by
  unfold w_X12_says
  refine s12_isLaw h ?_
  intro R22 hR
  have one : ¬ (okL A a ∧ okC A c) → R22 1 := fun no => hR 1 (br_f (show ¬ (1 : Int32) ≤ 0 by decide) (q0 no 0 _ (h.thr 1) rfl))
  refine br_i (fun hn => one (fun z => hn z.1)) (fun hl => s12_isCase h (br_i (fun hn => one (fun z => hn z.2)) (fun hc => ?_)))
  have q1 := q1 ⟨hl, hc⟩ _ (h.thr 0) rfl
  obtain ⟨l, l1, l2, rfl⟩ := okL_of h hl
  obtain ⟨d, d1, d2, rfl⟩ := okC_of h hc
  unfold saysS at q1
  rw [nI_clamp (show l < 2 ^ 31 by omega), nI_clamp (show d < 2 ^ 31 by omega)] at q1
  exact hR 0 (br_t (show (0 : Int32) ≤ 0 by decide) (s12_saidOn (h.thr 0) l2 d2 q1))
theorem s11_leads {P : jP} {M : jM} {A : aS} (h : RelC P M A) {a c : Int32} {Q : Int32 → Prop} {QX : Prop} (q1 : okF A a ∧ okC A c → Q (leadV A a.toNatClampNeg c.toNatClampNeg)) (q0 : ¬ (okF A a ∧ okC A c) → QX) : w_X11_leads P a c M Q QX := by
  have h6 := h.num
  unfold wfNum at h6
  have C := h.C512
  unfold w_X11_leads
  refine s11_formAt h (fun hn => ⟨fun _ => q0 (fun z => hn z.1), fun z => absurd rfl z⟩) (fun l hl el => ⟨fun z => absurd z (by omega), fun _ => ?_⟩)
  refine s11_isCase h (br_j (fun hc => ?_) (fun hc => q0 (fun z => hc z.2)))
  have ol : okF A a := by rw [el]; exact (ok3 (by omega)).mpr ⟨l, hl, rfl⟩
  have q1 := q1 ⟨ol, hc⟩
  obtain ⟨d, hd, rfl⟩ := (ok3 (by omega)).mp hc
  rw [el, nI_clamp (show l < 2 ^ 31 by omega), nI_clamp (show d < 2 ^ 31 by omega)] at q1
  exact ⟨h.fm hl, s11_outcomeOn h hl (by omega) q1⟩
theorem s12_leads {P : jP} {M : jM} {A : aS} (h : RelM M A) {a c : Int32} {Q : Int32 → jM → Prop} (q1 : okF A a ∧ okC A c → ∀ M', RelM M' A → M' 1 0 = 0 → Q (leadV A a.toNatClampNeg c.toNatClampNeg) M') (q0 : ¬ (okF A a ∧ okC A c) → ∀ v M', RelM M' A → M' 1 0 = 1 → Q v M') : w_X12_leads P a c M Q := by
  unfold w_X12_leads
  refine s12_isForm h ?_
  intro R22 hR
  have one : ¬ (okF A a ∧ okC A c) → R22 1 := fun no => hR 1 (br_f (show ¬ (1 : Int32) ≤ 0 by decide) (q0 no 0 _ (h.thr 1) rfl))
  refine br_i (fun hn => one (fun z => hn z.1)) (fun hl => s12_isCase h (br_i (fun hn => one (fun z => hn z.2)) (fun hc => ?_)))
  have q1 := q1 ⟨hl, hc⟩ _ (h.thr 0) rfl
  obtain ⟨l, l1, l2, rfl⟩ := okF_of h hl
  obtain ⟨d, d1, d2, rfl⟩ := okC_of h hc
  rw [nI_clamp (show l < 2 ^ 31 by omega), nI_clamp (show d < 2 ^ 31 by omega)] at q1
  exact hR 0 (br_t (show (0 : Int32) ≤ 0 by decide) (s12_leadsOn (h.thr 0) l1 d2 q1))
