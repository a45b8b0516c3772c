/-! ONE WORLD INSIDE ANOTHER: calls into a part of what is there -/
/-- the keys k of L2's world lie at φ k in L's -/
def jSub (L : jL) (P : jP) (M : jM) (N : jN) (L2 : jL) (P2 : jP) (M2 : jM) (N2 : jN) (φ : Nat → Nat) : Prop :=
  (∀ tA k e, L2 tA P2 k (M2 k) (N2 k) = some e → L tA P (φ k) (M (φ k)) (N (φ k)) = some e ∧ P2.1 k = P.1 (φ k)) ∧ (∀ i j, φ i = φ j → i = j)
/-- what is there afterwards: of the part, as the callee leaves it; else as before -/
def jDec (L : jL) (P : jP) (M : jM) (N : jN) (L2 : jL) (P2 : jP) (M2 : jM) (N2 : jN) (φ : Nat → Nat) (Pb : jP) (Mb : jM) (Nb : jN) (P' : jP) (M' : jM) (N' : jN) : Prop :=
  ∀ tA j e, L tA P' j (M' j) (N' j) = some e → (∃ k, j = φ k ∧ L2 tA Pb k (Mb k) (Nb k) = some e ∧ P'.1 j = Pb.1 k) ∨ (L tA P j (M j) (N j) = some e ∧ P'.1 j = P.1 j ∧ ∀ k x, L2 tA P2 k (M2 k) (N2 k) = some x → φ k ≠ j)
theorem jSub.sy {L L2 : jL} {P P2 : jP} {M M2 : jM} {N N2 : jN} {φ : Nat → Nat} (hs : jSub L P M N L2 P2 M2 N2 φ) {D : va_G} {tA : Nat → ClassId} {A : Nat → Prop} {H : Heap} (h : jsy L D tA P A M N H) : jsy L2 D tA P2 A M2 N2 H := by
  refine ⟨fun k e he => ?_, fun i j x y hx hy hij => ?_⟩
  · obtain ⟨h1, h2⟩ := hs.1 tA k e he
    rw [h2]
    exact h.1 _ e h1
  · obtain ⟨h1, h2⟩ := hs.1 tA i x hx
    obtain ⟨h3, h4⟩ := hs.1 tA j y hy
    rw [h2, h4] at hij
    exact hs.2 _ _ (h.2 _ _ _ _ h1 h3 hij)
theorem jDec.sy {L L2 : jL} {P P2 Pb P' : jP} {M M2 Mb M' : jM} {N N2 Nb N' : jN} {φ : Nat → Nat} (hs : jSub L P M N L2 P2 M2 N2 φ) (hd : jDec L P M N L2 P2 M2 N2 φ Pb Mb Nb P' M' N') {D : va_G} {tA : Nat → ClassId} {A : Nat → Prop} {H H1 : Heap} (h : jsy L D tA P A M N H) (h2 : jsy L2 D tA Pb (jA L2 tA P2 M2 N2 H.size) Mb Nb H1) (hA : ∀ q, H.size ≤ q → A q) (hk : ∀ q : Nat, q < H.size → ¬ jA L2 tA P2 M2 N2 H.size q → H1[q]? = H[q]?) : jsy L D tA P' A M' N' H1 := by
  have hin : ∀ q, jA L2 tA P2 M2 N2 H.size q → A q := by
    intro q hq
    rcases hq with ⟨k, e, he, rfl⟩ | hq
    · obtain ⟨g1, g2⟩ := hs.1 tA k e he
      rw [g2]
      exact (h.1 _ e g1).2
    · exact hA q hq
  have out : ∀ j e, L tA P j (M j) (N j) = some e → (∀ k x, L2 tA P2 k (M2 k) (N2 k) = some x → φ k ≠ j) → ¬ jA L2 tA P2 M2 N2 H.size (P.1 j) := by
    intro j e he hn hq
    rcases hq with ⟨k, x, hx, hq⟩ | hq
    · obtain ⟨g1, g2⟩ := hs.1 tA k x hx
      rw [g2] at hq
      exact hn k x hx (h.2 _ _ _ _ he g1 hq).symm
    · exact absurd (h.1 j e he).1.lt (Nat.not_lt.mpr hq)
  refine ⟨fun j e he => ?_, fun i j x y hx hy hij => ?_⟩
  · rcases hd tA j e he with ⟨k, rfl, hk2, hp⟩ | ⟨ho, hp, hn⟩
    · rw [hp]; exact ⟨(h2.1 k e hk2).1, hin _ (h2.1 k e hk2).2⟩
    · rw [hp]; exact ⟨(h.1 j e ho).1.kept (hk _ (h.1 j e ho).1.lt (out j e ho hn)), (h.1 j e ho).2⟩
  · rcases hd tA i x hx with ⟨k, rfl, hk2, hp⟩ | ⟨ho, hp, hn⟩
    · rcases hd tA j y hy with ⟨k', rfl, hk3, hp'⟩ | ⟨ho', hp', hn'⟩
      · rw [hp, hp'] at hij
        rw [h2.2 _ _ _ _ hk2 hk3 hij]
      · rw [hp, hp'] at hij
        exact absurd (hij ▸ (h2.1 k x hk2).2) (out j y ho' hn')
    · rcases hd tA j y hy with ⟨k', rfl, hk3, hp'⟩ | ⟨ho', hp', hn'⟩
      · rw [hp, hp'] at hij
        exact absurd (hij ▸ (h2.1 k' y hk3).2) (out i x ho hn)
      · rw [hp, hp'] at hij
        exact h.2 _ _ _ _ ho ho' hij
section EMB
variable {X : jX} {P P2 : jP} {M M2 : jM} {N N2 : jN} {k n : Nat} {E : State → Prop} {lo : List (Nat × Value)} {st st0 : List Value} {l0 : Launch} {y : MethodName} {cc : ByteArray} {nL : Nat} {ret : Option FieldType} {rm : Room} {L0 L2 : jL} {pc : Nat} {φ : Nat → Nat}
variable {y2 : MethodName} {cc2 : ByteArray} {nL2 : Nat} {ret2 : Option FieldType} {rm2 : Room} {as : List Value} {QV : Option Value → jP → jM → jN → Prop} {QX : jP → jM → jN → Prop} {ix : Nat}
theorem j_runG {p : Program} {l : Launch} {e : Env} {R : Room} {s : State} {m : MethodId} {args : Array Value} {below : List Frame} {meth : Method} {c : Code} {D : va_G} {tA : Nat → ClassId} {A : Nat → Prop} {H : Heap} {locs : List Loc} {ls : Array Slot} {av : Array Value} (hA : ∀ q, s.heap.size ≤ q → A q) (h1 : jsy L0 D tA P A M N H) (h2 : va_S A s.heap H locs) (h3 : lv_has ls nL lo) (hs : jSub L0 P M N L2 P2 M2 N2 φ)
    (hr : va_Run p l e R s m args below meth c H locs k n rm2.cells rm2.slots (F0 m pc ls st0) st (jQc D tA (jA L2 tA P2 M2 N2 H.size) L2 QV av) (jA L2 tA P2 M2 N2 H.size))
    (kk : ∀ v Pb Mb Nb, QV v Pb Mb Nb → ∃ P' M' N', jDec L0 P M N L2 P2 M2 N2 φ Pb Mb Nb P' M' N' ∧ J ((p, l, e, R, s, m, args, below, meth, c), D, tA, A, L0) P' M' N' (k + rm2.cells) (n + rm2.slots) E nL (pc + 3) lo (v.toList ++ st)) : W p l e R s m args below meth c H locs k n E (F0 m pc ls st0) := by
  have hF := (hs.sy h1).free hA h2.1
  intro T hT X
  obtain ⟨v, st₀, t, T', L, h0, X', hL, e1, e2, ⟨⟨v', Pb, Mb, Nb, hv, hq, hsy⟩, hz, hk⟩, st⟩ := hr T hT X
  cases hv
  rw [h0] at hz hk
  obtain ⟨P', M', N', hd, hJ⟩ := kk v Pb Mb Nb hq
  have hs' : jsy L0 D tA P' A M' N' T'.heap := by rw [e1]; exact hd.sy hs h1 hsy (fun q hq => hA q (Nat.le_trans h2.1 hq)) hk
  have hS' : va_S A s.heap T'.heap (locs ++ L) := ⟨Nat.le_trans h2.1 (by rw [e1]; exact hz), fun q g1 g2 => by rw [e1, hk q (Nat.lt_of_lt_of_le g1 h2.1) (fun z => g2 (hF q z))]; exact h2.2.1 q g1 g2, fun q hq => by
    rcases List.mem_append.mp hq with h | h
    · exact h2.2.2 q h
    · exact hF _ (hL q h)⟩
  obtain ⟨t2, a1, b1⟩ := hJ T'.heap (locs ++ L) ls hs' hS' h3 T' rfl X'
  exact ⟨t2, st t2 a1, b1⟩
theorem j_callVG (o : jok X l0 y cc nL ret rm L0) {g ci Nf : Nat} {fs : List Value} {C : String} {T : u_T} (hs : jSub L0 P M N L2 P2 M2 N2 φ) (hM : jC l0 y2 cc2 nL2 ret2 rm2 L2 (.ref (P2.1 g) :: as) P2 M2 N2 QV) (hd : decode cc pc = .ok (.invokevirtual ix, 3)) (hw : ∀ w ∈ ([.methodLink y.cls ix y2, .instanceMethod y2, .selects C y2 y2, .initialized y2.cls, .code y2 cc2 nL2 ret2] : List Cond), w ∈ jw_tbl) (hn : jN2 y2 as) (hrm : jRm k n rm2 rm nL2) (hc : vwCl[ci]? = some (C, T, Nf)) (hL : ∀ tA, L2 tA P2 g (M2 g) (N2 g) = some (.inr (ci, fs))) (hcat : (st.map fun v => v.category).sum ≤ 8) (hst : st0 = as.reverse ++ .ref (P2.1 g) :: st)
    (kk : ∀ v Pb Mb Nb, QV v Pb Mb Nb → ∃ P' M' N', jDec L0 P M N L2 P2 M2 N2 φ Pb Mb Nb P' M' N' ∧ J X P' M' N' (k + rm2.cells) (n + rm2.slots) E nL (pc + 3) lo (v.toList ++ st)) : J X P M N k n E nL pc lo st0 := by
  obtain ⟨⟨p, l, e, R, s, m, args, below, meth, c⟩, D, tA, A, L⟩ := X
  obtain ⟨hx, hb, hml, hown, hts, hr, ⟨hK, hNw⟩, hA, hlk, hnm, hR, hl0, hL0⟩ := o
  subst hL0 hR hl0
  intro H locs ls h1 h2 h3
  have ok := fun w h => hts w (hw w h)
  have hG : GoodIn jw_tbl (Cond.code y2 cc2 nL2 ret2 :: jw_tbl) := jgood (fun w h => by
    rcases List.mem_cons.mp h with h | h
    · rw [h]; exact hw _ (by simp)
    · exact h)
  have cw : CallW R s args y.cls C ix y2 cc2 nL2 ret2 (Cond.code y2 cc2 nL2 ret2 :: jw_tbl) rm2 rm2.cells rm2.slots as.length :=
    ⟨callB_of as.length hts hG rfl rfl rfl (ok _ (by simp)) (ok _ (by simp)) hn hrm.1, ok _ (by simp), ok _ (by simp)⟩
  have h1' := hs.sy h1
  refine j_runG (av := (Value.ref (P2.1 g) :: as).toArray) hA h1 h2 h3 hs (va_runV (As := as) (rest := st) ⟨hx, hb, hml, hown, hts⟩ (hM D tA H.size) cw ⟨jblind, va_recv hK (h1'.one (hL tA)) (ci := ci) (q0 := 0) hc rfl, fun U hU hW => ⟨rfl, by rw [hU], by rw [hU]; exact h1'.any, jK.warm hW ⟨hK, hNw⟩⟩⟩ rfl rfl h3.1 hst (lv_room hcat) hd hrm.2) kk
theorem j_callIZG (o : jok X l0 y cc nL ret rm L0) {g : Nat} (z : jzs X) (hs : jSub L0 P M N L2 P2 M2 N2 φ) (hM : jCZ l0 y2 cc2 nL2 none rm2 L2 (.ref (P2.1 g) :: as) P2 M2 N2 QV) (hd : decode cc pc = .ok (.invokespecial ix, 3)) (hini : y2.name = "<init>") (hw : ∀ w ∈ ([.methodLink y.cls ix y2, .instanceMethod y2, .initialized y2.cls, .code y2 cc2 nL2 none] : List Cond), w ∈ jw_tbl) (hn : jN2 y2 as) (hrm : jRm k n rm2 rm nL2) (hcat : (st.map fun v => v.category).sum ≤ 8) (hst : st0 = as.reverse ++ .ref (P2.1 g) :: st)
    (kk : ∀ v Pb Mb Nb, QV v Pb Mb Nb → ∃ P' M' N', jDec L0 P M N L2 P2 M2 N2 φ Pb Mb Nb P' M' N' ∧ J X P' M' N' (k + rm2.cells) (n + rm2.slots) E nL (pc + 3) lo (v.toList ++ st)) : J X P M N k n E nL pc lo st0 := by
  obtain ⟨⟨p, l, e, R, s, m, args, below, meth, c⟩, D, tA, A, L⟩ := X
  obtain ⟨hx, hb, hml, hown, hts, hr, ⟨hK, hNw⟩, hA, hlk, hnm, hR, hl0, hL0⟩ := o
  subst hL0 hR hl0
  intro H locs ls h1 h2 h3
  have ok := fun w h => hts w (hw w h)
  have hG : GoodIn jw_tbl (Cond.code y2 cc2 nL2 none :: jw_tbl) := jgood (fun w h => by
    rcases List.mem_cons.mp h with h | h
    · rw [h]; exact hw _ (by simp)
    · exact h)
  have h1' := hs.sy h1
  exact j_runG (av := (Value.ref (P2.1 g) :: as).toArray) hA h1 h2 h3 hs (va_runI (As := as) (rest := st) ⟨hx, hb, hml, hown, hts⟩ (hM D tA H.size) ⟨callB_of as.length hts hG rfl rfl rfl (ok _ (by simp)) (ok _ (by simp)) hn hrm.1, hini, ok _ (by simp)⟩ ⟨jblindZ, fun U hU hW => ⟨rfl, by rw [hU], by rw [hU]; exact h1'.any, jK.warm hW ⟨hK, hNw⟩, jZ.moved hW.alike z⟩⟩ rfl rfl h3.1 hst (lv_room hcat) hd hrm.2) kk
end EMB
