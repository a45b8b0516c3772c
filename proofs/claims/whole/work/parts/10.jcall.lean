/-! CONTRACTS: a method's, of a world; calls, answers, and how a walk over J makes one -/
def jC (l : Launch) (y : MethodName) (cc : ByteArray) (nL : Nat) (ret : Option FieldType) (rm : Room) (L0 : jL) (as : List Value) (P : jP) (M : jM) (N : jN) (QV : Option Value → jP → jM → jN → Prop) : Prop :=
  ∀ (D : va_G) (tA : Nat → ClassId) (sz : Nat), Met l y (Cond.code y cc nL ret :: jw_tbl) rm (va_Pc as (fun U => U.heap.size = sz ∧ jsy L0 D tA P (fun _ => True) M N U.heap ∧ jK D tA U))
    (fun _ st oc t => (∃ v P' M' N', oc = .returned v ∧ QV v P' M' N' ∧ jsy L0 D tA P' (jA L0 tA P M N sz) M' N' t.heap) ∧ va_F (jA L0 tA P M N sz) st t) rm.cells rm.slots (jA L0 tA P M N sz)
def jQc (D : va_G) (tA : Nat → ClassId) (A : Nat → Prop) (L : jL) (QV : Option Value → jP → jM → jN → Prop) : Array Value → State → Outcome → State → Prop := fun _ st oc t => (∃ v P' M' N', oc = .returned v ∧ QV v P' M' N' ∧ jsy L D tA P' A M' N' t.heap) ∧ va_F A st t
/-- the end of a walk: the method has returned what QV says, in a world -/
def jE (X : jX) (rm : Room) (QV : Option Value → jP → jM → jN → Prop) : State → Prop := match X with
  | ((_, _, _, _, s, _, args, below, _, _), D, tA, A, L) => MQ below (jQc D tA A L QV) args s rm.cells rm.slots A
theorem jgood {ws : List Cond} (h : ∀ w ∈ ws, w ∈ jw_tbl) : GoodIn jw_tbl ws := fun w hw => ⟨h w hw, good_of_word (jw_good w (h w hw))⟩
theorem jblind {L0 : jL} {D : va_G} {tA : Nat → ClassId} {P : jP} {M : jM} {N : jN} {sz : Nat} {as : List Value} : FrameBlind (va_Pc as (fun U => U.heap.size = sz ∧ jsy L0 D tA P (fun _ => True) M N U.heap ∧ jK D tA U)) :=
  fun a U g mk q => by
    obtain ⟨q0, q1, qP, qK⟩ := q
    exact ⟨q0, q1, qP, qK.calls⟩
section JC
variable {X : jX} {P : jP} {M : jM} {N : jN} {k n : Nat} {E : State → Prop} {lo : List (Nat × Value)} {st st0 : List Value} {l0 : Launch} {y : MethodName} {cc : ByteArray} {nL : Nat} {ret : Option FieldType} {rm : Room} {L0 : jL} {pc : Nat}
variable {y2 : MethodName} {cc2 : ByteArray} {nL2 : Nat} {ret2 : Option FieldType} {rm2 : Room} {as : List Value} {QV : Option Value → jP → jM → jN → Prop} {ix : Nat}
/-- behind any call -/
theorem j_run {p : Program} {l : Launch} {e : Env} {R : Room} {s : State} {m : MethodId} {args : Array Value} {below : List Frame} {meth : Method} {c : Code} {D : va_G} {tA : Nat → ClassId} {A : Nat → Prop} {H : Heap} {locs : List Loc} {ls : Array Slot} {av : Array Value} (hA : ∀ q, s.heap.size ≤ q → A q) (h1 : jsy L0 D tA P A M N H) (h2 : va_S A s.heap H locs) (h3 : lv_has ls nL lo)
    (hr : va_Run p l e R s m args below meth c H locs k n rm2.cells rm2.slots (F0 m pc ls st0) st ((fun (_ : Array Value) st oc t => (∃ v P' M' N', oc = .returned v ∧ QV v P' M' N' ∧ jsy L0 D tA P' (jA L0 tA P M N H.size) M' N' t.heap) ∧ va_F (jA L0 tA P M N H.size) st t) av) (jA L0 tA P M N H.size))
    (kk : ∀ v P' M' N', QV v P' M' N' → J ((p, l, e, R, s, m, args, below, meth, c), D, tA, A, L0) P' M' N' (k + rm2.cells) (n + rm2.slots) E nL (pc + 3) lo (v.toList ++ st)) : W p l e R s m args below meth c H locs k n E (F0 m pc ls st0) := by
  have hF := h1.free hA h2.1
  intro T hT X
  obtain ⟨v, st₀, t, T', L, h0, X', hL, e1, e2, ⟨⟨v', P', M', N', hv, hq, hsy⟩, hz, hk⟩, st⟩ := hr T hT X
  cases hv
  rw [h0] at hz hk
  have hs' : jsy L0 D tA P' A M' N' T'.heap := by rw [e1]; exact hsy.weaken (fun q _ h => hF q h)
  have hS' : va_S A s.heap T'.heap (locs ++ L) := ⟨Nat.le_trans h2.1 (by rw [e1]; exact hz), fun q g1 g2 => by rw [e1, hk q (Nat.lt_of_lt_of_le g1 h2.1) (fun z => g2 (hF q z))]; exact h2.2.1 q g1 g2, fun q hq => by
    rcases List.mem_append.mp hq with h | h
    · exact h2.2.2 q h
    · exact hF _ (hL q h)⟩
  obtain ⟨t2, a1, b1⟩ := kk v P' M' N' hq T'.heap (locs ++ L) ls hs' hS' h3 T' rfl X'
  exact ⟨t2, st t2 a1, b1⟩
abbrev jRm (k n : Nat) (rm2 rm : Room) (nL2 : Nat) : Prop := (rm2.frames + 1 ≤ rm.frames ∧ 8 + (nL2 + 11) + rm2.locals ≤ rm.locals) ∧ k + rm2.cells ≤ rm.cells ∧ n + rm2.slots ≤ rm.slots
abbrev jN2 (y2 : MethodName) (as : List Value) : Prop := y2.cls ≠ "java/lang/invoke/MethodHandle" ∧ y2.cls ≠ "java/lang/invoke/VarHandle" ∧ (parseMethodDescriptor y2.desc).map (fun d => d.parameters.length) = some as.length
theorem j_callV (o : jok X l0 y cc nL ret rm L0) {g ci Nf : Nat} {fs : List Value} {C : String} {T : u_T} (hM : jC l0 y2 cc2 nL2 ret2 rm2 L0 (.ref (P.1 g) :: as) P M N QV) (hd : decode cc pc = .ok (.invokevirtual ix, 3)) (hw : ∀ w ∈ ([.methodLink y.cls ix y2, .instanceMethod y2, .selects C y2 y2, .initialized y2.cls, .code y2 cc2 nL2 ret2] : List Cond), w ∈ jw_tbl) (hn : jN2 y2 as) (hrm : jRm k n rm2 rm nL2) (hc : vwCl[ci]? = some (C, T, Nf)) (hL : ∀ tA, L0 tA P g (M g) (N g) = some (.inr (ci, fs))) (hcat : (st.map fun v => v.category).sum ≤ 8) (hst : st0 = as.reverse ++ .ref (P.1 g) :: st)
    (kk : ∀ v P' M' N', QV v P' M' N' → J X P' M' N' (k + rm2.cells) (n + rm2.slots) E nL (pc + 3) lo (v.toList ++ st)) : J X P M N k n E nL pc lo st0 := by
  obtain ⟨⟨p, l, e, R, s, m, args, below, meth, c⟩, D, tA, A, L⟩ := X
  obtain ⟨hx, hb, hml, hown, hts, hr, ⟨hK, hNw⟩, hA, hlk, hnm, hR, hl0, hL0⟩ := o
  subst hL0 hR hl0
  intro H locs ls h1 h2 h3
  have ok := fun w h => hts w (hw w h)
  have hG : GoodIn jw_tbl (Cond.code y2 cc2 nL2 ret2 :: jw_tbl) := jgood (fun w h => by
    rcases List.mem_cons.mp h with h | h
    · rw [h]; exact hw _ (by simp)
    · exact h)
  have cw : CallW R s args y.cls C ix y2 cc2 nL2 ret2 (Cond.code y2 cc2 nL2 ret2 :: jw_tbl) rm2 rm2.cells rm2.slots as.length :=
    ⟨callB_of as.length hts hG rfl rfl rfl (ok _ (by simp)) (ok _ (by simp)) hn hrm.1, ok _ (by simp), ok _ (by simp)⟩
  refine j_run (av := (Value.ref (P.1 g) :: as).toArray) hA h1 h2 h3 (va_runV (As := as) (rest := st) ⟨hx, hb, hml, hown, hts⟩ (hM D tA H.size) cw ⟨jblind, va_recv hK (h1.one (hL tA)) (ci := ci) (q0 := 0) hc rfl, fun U hU hW => ⟨rfl, by rw [hU], by rw [hU]; exact h1.any, jK.warm hW ⟨hK, hNw⟩⟩⟩ rfl rfl h3.1 hst (lv_room hcat) hd hrm.2) kk
theorem j_callS (o : jok X l0 y cc nL ret rm L0) (hM : jC l0 y2 cc2 nL2 ret2 rm2 L0 as P M N QV) (hd : decode cc pc = .ok (.invokestatic ix, 3)) (hw : ∀ w ∈ ([.methodLink y.cls ix y2, .static y2, .initialized y2.cls, .code y2 cc2 nL2 ret2] : List Cond), w ∈ jw_tbl) (hn : jN2 y2 as) (hrm : jRm k n rm2 rm nL2) (hcat : (st.map fun v => v.category).sum ≤ 8) (hst : st0 = as.reverse ++ st)
    (kk : ∀ v P' M' N', QV v P' M' N' → J X P' M' N' (k + rm2.cells) (n + rm2.slots) E nL (pc + 3) lo (v.toList ++ st)) : J X P M N k n E nL pc lo st0 := by
  obtain ⟨⟨p, l, e, R, s, m, args, below, meth, c⟩, D, tA, A, L⟩ := X
  obtain ⟨hx, hb, hml, hown, hts, hr, ⟨hK, hNw⟩, hA, hlk, hnm, hR, hl0, hL0⟩ := o
  subst hL0 hR hl0
  intro H locs ls h1 h2 h3
  have ok := fun w h => hts w (hw w h)
  have hG : GoodIn jw_tbl (Cond.code y2 cc2 nL2 ret2 :: jw_tbl) := jgood (fun w h => by
    rcases List.mem_cons.mp h with h | h
    · rw [h]; exact hw _ (by simp)
    · exact h)
  exact j_run (av := as.toArray) hA h1 h2 h3 (va_runS (As := as) (rest := st) ⟨hx, hb, hml, hown, hts⟩ (hM D tA H.size) ⟨callB_of as.length hts hG rfl rfl rfl (ok _ (by simp)) (ok _ (by simp)) hn hrm.1, ok _ (by simp)⟩ ⟨jblind, fun U hU hW => ⟨rfl, by rw [hU], by rw [hU]; exact h1.any, jK.warm hW ⟨hK, hNw⟩⟩⟩ rfl rfl h3.1 hst (lv_room hcat) hd hrm.2) kk
/-- a private static method of a nest mate -/
theorem j_callSN (o : jok X l0 y cc nL ret rm L0) (hM : jC l0 y2 cc2 nL2 ret2 rm2 L0 as P M N QV) (hd : decode cc pc = .ok (.invokestatic ix, 3)) (hw : ∀ w ∈ ([.static y2, .initialized y2.cls, .code y2 cc2 nL2 ret2] : List Cond), w ∈ jw_tbl) (hnest : (y.cls, ix, y2) ∈ jnest) (hn : jN2 y2 as) (hrm : jRm k n rm2 rm nL2) (hcat : (st.map fun v => v.category).sum ≤ 8) (hst : st0 = as.reverse ++ st)
    (kk : ∀ v P' M' N', QV v P' M' N' → J X P' M' N' (k + rm2.cells) (n + rm2.slots) E nL (pc + 3) lo (v.toList ++ st)) : J X P M N k n E nL pc lo st0 := by
  obtain ⟨⟨p, l, e, R, s, m, args, below, meth, c⟩, D, tA, A, L⟩ := X
  obtain ⟨hx, hb, hml, hown, hts, hr, ⟨hK, hNw⟩, hA, hlk, hnm, hR, hl0, hL0⟩ := o
  subst hL0 hR hl0
  intro H locs ls h1 h2 h3
  have ok := fun w h => hts w (hw w h)
  have hG : GoodIn jw_tbl (Cond.code y2 cc2 nL2 ret2 :: jw_tbl) := jgood (fun w h => by
    rcases List.mem_cons.mp h with h | h
    · rw [h]; exact hw _ (by simp)
    · exact h)
  exact j_run (av := as.toArray) hA h1 h2 h3 (va_runSN (As := as) (rest := st) ⟨hx, hb, hml, hown, hts⟩ (hM D tA H.size) ⟨va_cnB as.length hts hG rfl rfl rfl (hNw _ hnest) (ok _ (by simp)) hn hrm.1, ok _ (by simp), trivial⟩ ⟨jblind, fun U hU hW => ⟨rfl, by rw [hU], by rw [hU]; exact h1.any, jK.warm hW ⟨hK, hNw⟩⟩⟩ rfl rfl h3.1 hst (lv_room hcat) hd hrm.2) kk
/-- answers -/
theorem j_iret (o : jok X l0 y cc nL (some .int) rm L0) {v : Int32} (hd : decode cc pc = .ok (.ireturn, 1)) (h : QV (some (.int v)) P M N) : J X P M N rm.cells rm.slots (jE X rm QV) nL pc lo [.int v] := by
  obtain ⟨⟨p, l, e, R, s, m, args, below, meth, c⟩, D, tA, A, L⟩ := X
  obtain ⟨hx, hb, hml, hown, hts, hr, ⟨hK, hNw⟩, hA, hlk, hnm, hR, hl0, hL0⟩ := o
  subst hL0
  intro H locs ls h1 h2 h3
  exact W.iret (Qc := jQc D tA A L QV) (free := A) hx hb hr (fun t ht hW => ⟨⟨_, P, M, N, rfl, h, by rw [ht]; exact h1⟩, h2.F ht⟩) h2.2.2 hd hlk
theorem j_zret (o : jok X l0 y cc nL (some .boolean) rm L0) {v : Int32} (hn : narrow .boolean (.int v) = .int v) (hd : decode cc pc = .ok (.ireturn, 1)) (h : QV (some (.int v)) P M N) : J X P M N rm.cells rm.slots (jE X rm QV) nL pc lo [.int v] := by
  obtain ⟨⟨p, l, e, R, s, m, args, below, meth, c⟩, D, tA, A, L⟩ := X
  obtain ⟨hx, hb, hml, hown, hts, hr, ⟨hK, hNw⟩, hA, hlk, hnm, hR, hl0, hL0⟩ := o
  subst hL0
  intro H locs ls h1 h2 h3
  exact W.zret (Qc := jQc D tA A L QV) (free := A) hx hb hr hn (fun t ht hW => ⟨⟨_, P, M, N, rfl, h, by rw [ht]; exact h1⟩, h2.F ht⟩) h2.2.2 hd hlk
theorem j_lret (o : jok X l0 y cc nL (some .long) rm L0) {v : Int64} (hd : decode cc pc = .ok (.lreturn, 1)) (h : QV (some (.long v)) P M N) : J X P M N rm.cells rm.slots (jE X rm QV) nL pc lo [.long v] := by
  obtain ⟨⟨p, l, e, R, s, m, args, below, meth, c⟩, D, tA, A, L⟩ := X
  obtain ⟨hx, hb, hml, hown, hts, hr, ⟨hK, hNw⟩, hA, hlk, hnm, hR, hl0, hL0⟩ := o
  subst hL0
  intro H locs ls h1 h2 h3
  exact W.lret (Qc := jQc D tA A L QV) (free := A) hx hb hr (fun t ht hW => ⟨⟨_, P, M, N, rfl, h, by rw [ht]; exact h1⟩, h2.F ht⟩) h2.2.2 hd hlk
theorem j_vret (o : jok X l0 y cc nL none rm L0) (hd : decode cc pc = .ok (.return_, 1)) (h : QV none P M N) : J X P M N rm.cells rm.slots (jE X rm QV) nL pc lo [] := by
  obtain ⟨⟨p, l, e, R, s, m, args, below, meth, c⟩, D, tA, A, L⟩ := X
  obtain ⟨hx, hb, hml, hown, hts, hr, ⟨hK, hNw⟩, hA, hlk, hnm, hR, hl0, hL0⟩ := o
  subst hL0
  intro H locs ls h1 h2 h3
  exact W.vret (Qc := jQc D tA A L QV) (free := A) hx hb hr (fun t ht hW => ⟨⟨_, P, M, N, rfl, h, by rw [ht]; exact h1⟩, h2.F ht⟩) h2.2.2 hd hlk
theorem j_aret (o : jok X l0 y cc nL ret rm L0) {v : Value} {C : String} (hrt : ret = some (.object C)) (hv : v = .null ∨ ∃ a, v = .ref a) (hd : decode cc pc = .ok (.areturn, 1)) (h : QV (some v) P M N) : J X P M N rm.cells rm.slots (jE X rm QV) nL pc lo [v] := by
  obtain ⟨⟨p, l, e, R, s, m, args, below, meth, c⟩, D, tA, A, L⟩ := X
  obtain ⟨hx, hb, hml, hown, hts, hr, ⟨hK, hNw⟩, hA, hlk, hnm, hR, hl0, hL0⟩ := o
  subst hL0
  subst hrt
  intro H locs ls h1 h2 h3
  exact W.aret (Qc := jQc D tA A L QV) (free := A) hx hb hr (Or.inl ⟨C, rfl⟩) hv (fun t ht hW => ⟨⟨_, P, M, N, rfl, h, by rw [ht]; exact h1⟩, h2.F ht⟩) h2.2.2 hd hlk
end JC
theorem jrf_ref (P : jP) (g : Nat) : jrf P g = .null ∨ ∃ a, jrf P g = .ref a := by
  unfold jrf
  by_cases h : g = 0
  · rw [if_pos h]; exact Or.inl rfl
  · rw [if_neg h]; exact Or.inr ⟨_, rfl⟩
/-- a contract out of a walk -/
theorem jC_of {l : Launch} {y : MethodName} {cc : ByteArray} {nL : Nat} {ret : Option FieldType} {rm : Room} {L0 : jL} {as : List Value} {P : jP} {M : jM} {N : jN} {QV : Option Value → jP → jM → jN → Prop} (hy : plainName y.cls = true) (lo : List (Nat × Value)) (hlo : (lg_sl as).length ≤ nL) (hle : lv_args 0 as = lo)
    (body : ∀ X, jok X l y cc nL ret rm L0 → J X P M N 0 0 (jE X rm QV) nL 0 lo []) : jC l y cc nL ret rm L0 as P M N QV := by
  intro D tA sz
  refine Met.ofW (cc := cc) (maxL := nL) (ret := ret) hy rfl ?_
  intro p e s m args below meth c s₁ B hml hv
  obtain ⟨rfl, hsz, hP, hK⟩ := hv
  have hts := atoms_spec (ws := Cond.code y cc nL ret :: jw_tbl) B.pre
  have hown : s.vm.findClass y.cls = some m.cls := findClass_of_methodNamed B.named
  subst hsz
  have hl := lv_entry as (n := nL) hlo
  rw [lg_entry_eq]
  generalize (lg_sl as ++ List.replicate (nL - (lg_sl as).length) Slot.unset).toArray = ls at hl ⊢
  refine body ((p, l, e, rm, s, m, as.toArray, below, meth, c), D, tA, jA L0 tA P M N s.heap.size, L0) ⟨B.exec, B.bytes, hml, hown, fun w h => hts w (List.mem_cons_of_mem _ h), B.returns, hK, fun q h => Or.inr h, B.notSynchronized, (name_of_methodNamed B.named B.method).1, rfl, rfl, rfl⟩ s.heap [] ls hP.self va_S.rf (hle ▸ hl)
