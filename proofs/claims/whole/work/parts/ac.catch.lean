/-! CALLS THAT MAY THROW, caught by a table -/
def jUc (X : jX) (hh : List (Nat × Nat × Nat × Nat)) : Prop := match X with
  | ((_, _, _, _, s, _, _, _, _, c), _, _, A, _) => jUq A s s.heap ∧ c.exceptionTable.toList = tableOf hh
theorem jblindU {L0 : jL} {D : va_G} {tA : Nat → ClassId} {P : jP} {M : jM} {N : jN} {sz : Nat} {as : List Value} : FrameBlind (va_Pc as (fun U => U.heap.size = sz ∧ jsy L0 D tA P (fun _ => True) M N U.heap ∧ jK D tA U ∧ jUq (jA L0 tA P M N sz) U U.heap)) :=
  fun a U g mk q => by
    obtain ⟨q0, q1, qP, qK, qU⟩ := q
    exact ⟨q0, q1, qP, qK.calls, jUq.moved (u := U) (U := U.calling g mk a) (Vm.Alike.refl U.vm) qU⟩
section CTC
variable {X : jX} {P P2 : jP} {M M2 : jM} {N N2 : jN} {k n : Nat} {E : State → Prop} {lo : List (Nat × Value)} {st st0 : List Value} {l0 : Launch} {y : MethodName} {cc : ByteArray} {nL : Nat} {ret : Option FieldType} {rm : Room} {L0 L2 : jL} {pc : Nat} {φ : Nat → Nat}
variable {y2 : MethodName} {cc2 : ByteArray} {nL2 : Nat} {ret2 : Option FieldType} {rm2 : Room} {as : List Value} {QV : Option Value → jP → jM → jN → Prop} {QX : jP → jM → jN → Prop} {ix : Nat}
theorem j_callVT (o : jok X l0 y cc nL ret rm L0) {f0 t0 hp ct : Nat} (u : jUc X [(f0, t0, hp, ct)]) {g ci Nf : Nat} {fs : List Value} {C : String} {T : u_T} (hs : jSub L0 P M N L2 P2 M2 N2 φ) (hM : jTh l0 y2 cc2 nL2 ret2 rm2 L2 (.ref (P2.1 g) :: as) P2 M2 N2 QV QX) (hd : decode cc pc = .ok (.invokevirtual ix, 3)) (hw : ∀ w ∈ ([.methodLink y.cls ix y2, .instanceMethod y2, .selects C y2 y2, .initialized y2.cls, .code y2 cc2 nL2 ret2] : List Cond), w ∈ jw_tbl) (hn : jN2 y2 as) (hrm : jRm k n rm2 rm nL2) (hc : vwCl[ci]? = some (C, T, Nf)) (hL : ∀ tA, L2 tA P2 g (M2 g) (N2 g) = some (.inr (ci, fs))) (hcat : (st.map fun v => v.category).sum ≤ 8) (hst : st0 = as.reverse ++ .ref (P2.1 g) :: st)
    (hcov : covers ⟨f0, t0, hp, ct⟩ pc = true) (hct : ct ≠ 0) (hcw : Cond.classLink y.cls ct nse ∈ jw_tbl)
    (kx : ∀ Pb Mb Nb, QX Pb Mb Nb → ∃ P' M' N', jDec L0 P M N L2 P2 M2 N2 φ Pb Mb Nb P' M' N' ∧ ∀ a, J X P' M' N' (k + rm2.cells) (n + rm2.slots) E nL hp lo [.ref a])
    (kk : ∀ v Pb Mb Nb, QV v Pb Mb Nb → ∃ P' M' N', jDec L0 P M N L2 P2 M2 N2 φ Pb Mb Nb P' M' N' ∧ J X P' M' N' (k + rm2.cells) (n + rm2.slots) E nL (pc + 3) lo (v.toList ++ st)) : J X P M N k n E nL pc lo st0 := by
  obtain ⟨⟨p, l, e, R, s, m, args, below, meth, c⟩, D, tA, A, L⟩ := X
  obtain ⟨hx, hb, hml, hown, hts, hr, ⟨hK, hNw⟩, hA, hlk, hnm, hR, hl0, hL0⟩ := o
  obtain ⟨hU, htb⟩ := u
  subst hL0 hR hl0
  intro H locs ls h1 h2 h3
  have ok := fun w h => hts w (hw w h)
  have hG : GoodIn jw_tbl (Cond.code y2 cc2 nL2 ret2 :: jw_tbl) := jgood (fun w h => by
    rcases List.mem_cons.mp h with h | h
    · rw [h]; exact hw _ (by simp)
    · exact h)
  have cw : CallW R s args y.cls C ix y2 cc2 nL2 ret2 (Cond.code y2 cc2 nL2 ret2 :: jw_tbl) rm2 rm2.cells rm2.slots as.length :=
    ⟨callB_of as.length hts hG rfl rfl rfl (ok _ (by simp)) (ok _ (by simp)) hn hrm.1, ok _ (by simp), ok _ (by simp)⟩
  have h1' := hs.sy h1
  have hF := h1'.free hA h2.1
  have hUH : jUq A s H := hU.kept (fun a g1 g2 => h2.2.1 a g1 g2)
  have run := vx_runV (As := as) (rest := st) (g := F0 m pc ls st0) (cells := k) (slots := n) (locs := locs) (H := H) (p := p) (e := e) (below := below) (meth := meth) (c := c) ⟨hx, hb, hml, hown, hts⟩ (hM D tA H.size) cw ⟨jblindU, va_recv hK (h1'.one (hL tA)) (ci := ci) (q0 := 0) hc rfl, fun U hU9 hW => ⟨rfl, by rw [hU9], by rw [hU9]; exact h1'.any, jK.warm hW ⟨hK, hNw⟩, by rw [hU9]; exact (hUH.moved hW.alike).narrow hF⟩⟩ rfl rfl h3.1 hst (lv_room hcat) hd hrm.2
  intro T hT X
  rcases run T hT X with ⟨v, st₀, t, T', Lc, h0, X', hL', e1, e2, ⟨⟨v', Pb, Mb, Nb, hv, hq, hsy⟩, hz, hk⟩, st9⟩ | ⟨q, st₀, t, T', Lc, E9, ce, h0, X', hL', e1, e2, ⟨rfl, Pb, Mb, Nb, hq, hsy, hz, hk⟩, hce, hcv, hcl, st9⟩
  · cases hv
    rw [h0] at hz hk
    obtain ⟨P', M', N', hd9, hJ⟩ := kk v Pb Mb Nb hq
    have hs' : jsy L D tA P' A M' N' T'.heap := by rw [e1]; exact hd9.sy hs h1 hsy (fun q hq => hA q (Nat.le_trans h2.1 hq)) hk
    have hS' : va_S A s.heap T'.heap (locs ++ Lc) := ⟨Nat.le_trans h2.1 (by rw [e1]; exact hz), fun q g1 g2 => by rw [e1, hk q (Nat.lt_of_lt_of_le g1 h2.1) (fun z => g2 (hF q z))]; exact h2.2.1 q g1 g2, fun q hq => by
      rcases List.mem_append.mp hq with h | h
      · exact h2.2.2 q h
      · exact hF _ (hL' q h)⟩
    obtain ⟨t2, a1, b1⟩ := hJ T'.heap (locs ++ Lc) ls hs' hS' h3 T' rfl X'
    exact ⟨t2, st9 t2 a1, b1⟩
  · rw [h0] at hz hk
    obtain ⟨P', M', N', hd9, hJ⟩ := kx Pb Mb Nb hq
    have hs' : jsy L D tA P' A M' N' T'.heap := by rw [e1]; exact hd9.sy hs h1 hsy (fun q hq => hA q (Nat.le_trans h2.1 hq)) hk
    have hS' : va_S A s.heap T'.heap (locs ++ Lc) := ⟨Nat.le_trans h2.1 (by rw [e1]; exact hz), fun q g1 g2 => by rw [e1, hk q (Nat.lt_of_lt_of_le g1 h2.1) (fun z => g2 (hF q z))]; exact h2.2.1 q g1 g2, fun q hq => by
      rcases List.mem_append.mp hq with h | h
      · exact h2.2.2 q h
      · exact hF _ (hL' q h)⟩
    obtain ⟨t2, a1, b1⟩ := vx_catch (name := nse) hown [] ⟨f0, t0, hp, ct⟩ [] (by rw [htb]; rfl) (fun z hz => nomatch hz) hcov hct (hts _ hcw) (va_Nw.use (nse_face _ nse_cast).2 (hU.2.2 _ nse_cast)) (H := T'.heap) (by rw [e1]; exact hce) hcv hcl (hJ q T'.heap (locs ++ Lc) ls hs' hS' h3) T' rfl X'
    exact ⟨t2, st9.trans a1, b1⟩
end CTC
def jCW (l : Launch) (y : MethodName) (cc : ByteArray) (nL : Nat) (ret : Option FieldType) (hh : List (Nat × Nat × Nat × Nat)) (rm : Room) (L0 : jL) (as : List Value) (P : jP) (M : jM) (N : jN) (QV : Option Value → jP → jM → jN → Prop) : Prop :=
  ∀ (D : va_G) (tA : Nat → ClassId) (sz : Nat), Met l y (Cond.codeWith y cc nL ret hh :: jw_tbl) rm (va_Pc as (fun U => U.heap.size = sz ∧ jsy L0 D tA P (fun _ => True) M N U.heap ∧ jK D tA U ∧ jUq (jA L0 tA P M N sz) U U.heap))
    (jQc D tA (jA L0 tA P M N sz) L0 QV) rm.cells rm.slots (jA L0 tA P M N sz)
theorem Met_ofWH {l : Launch} {y : MethodName} {ws ws' : List Cond} {rm : Room} {Pc : Array Value → State → Prop} {Qc : Array Value → State → Outcome → State → Prop} {mc ms : Nat} {free : Addr → Prop} {cc : ByteArray} {maxL : Nat} {ret : Option FieldType} {hh : List (Nat × Nat × Nat × Nat)}
    (hy : plainName y.cls = true) (hw : ws = Cond.codeWith y cc maxL ret hh :: ws')
    (body : ∀ p e s m args below meth c s₁, BodyLoose p l y (headSpec ws rm) cc maxL ret e s m args below meth c s₁ → c.maxLocals = maxL → Pc args s →
      W p l e (headSpec ws rm).room s m args below meth c s.heap [] 0 0 (MQ below Qc args s mc ms free) (entryFrame m args maxL)) : Met l y ws rm Pc Qc mc ms free := by
  refine MetFree.of_bodyS (code := cc) (maxLocals := maxL) (ret := ret) hy ?_ ?_
  · intro args s m h hn
    obtain ⟨m9, meth, c, hn9, h1, h2, h3, h4, -, h5, h6, -⟩ := Cond.codeWith_spec (atoms_spec (ws := ws) h _ (by rw [hw]; exact List.mem_cons_self))
    cases hn.symm.trans hn9
    exact ⟨meth, c, h1, h2, h3, h4, h5, h6⟩
  · intro p e s m args below meth c s₁ B hml hP _
    have hh0 : s₁.heap = s.heap := by rw [B.state]; rfl
    obtain ⟨t, a1, o, b1, b2, b3⟩ := body p e s m args below meth c s₁ B hml hP s₁ hh0 (Stand.of_body B)
    exact ⟨t, o, a1, b1, b2, b3⟩
theorem jCW_of {l : Launch} {y : MethodName} {cc : ByteArray} {nL : Nat} {ret : Option FieldType} {hh : List (Nat × Nat × Nat × Nat)} {rm : Room} {L0 : jL} {as : List Value} {P : jP} {M : jM} {N : jN} {QV : Option Value → jP → jM → jN → Prop} (hy : plainName y.cls = true) (lo : List (Nat × Value)) (hlo : (lg_sl as).length ≤ nL) (hle : lv_args 0 as = lo)
    (body : ∀ X, jok X l y cc nL ret rm L0 → jUc X hh → J X P M N 0 0 (jE X rm QV) nL 0 lo []) : jCW l y cc nL ret hh rm L0 as P M N QV := by
  intro D tA sz
  refine Met_ofWH (cc := cc) (maxL := nL) (ret := ret) (hh := hh) hy rfl ?_
  intro p e s m args below meth c s₁ B hml hv
  obtain ⟨rfl, hsz, hP, hK, hU⟩ := hv
  have hts := atoms_spec (ws := Cond.codeWith y cc nL ret hh :: jw_tbl) B.pre
  have hown : s.vm.findClass y.cls = some m.cls := findClass_of_methodNamed B.named
  subst hsz
  have hl := lv_entry as (n := nL) hlo
  rw [lg_entry_eq]
  generalize (lg_sl as ++ List.replicate (nL - (lg_sl as).length) Slot.unset).toArray = ls at hl ⊢
  refine body ((p, l, e, rm, s, m, as.toArray, below, meth, c), D, tA, jA L0 tA P M N s.heap.size, L0) ⟨B.exec, B.bytes, hml, hown, fun w h => hts w (List.mem_cons_of_mem _ h), B.returns, hK, fun q h => Or.inr h, B.notSynchronized, (name_of_methodNamed B.named B.method).1, rfl, rfl, rfl⟩ ⟨hU, vx_table (x := y) B (hts _ List.mem_cons_self)⟩ s.heap [] ls hP.self va_S.rf (hle ▸ hl)
