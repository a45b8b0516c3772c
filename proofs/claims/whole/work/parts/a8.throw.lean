/-! THROWS: contracts of methods that return or throw -/
abbrev nse : String := "java/util/NoSuchElementException"
abbrev nseUp : List String := ["java/lang/RuntimeException", "java/lang/Exception"]
def nseBad : List Cond := (vx_at0 RX11 200 nse nseUp).filter (fun w => !goodWord w)
set_option maxRecDepth 20000 in
theorem nse_face : ∀ w ∈ nseBad, w.faceAtom = true ∧ w.onTables = true := by decide +kernel
set_option maxRecDepth 20000 in
theorem nse_cast : Cond.castable nse nse ∈ nseBad := by decide +kernel
set_option maxRecDepth 20000 in
theorem nse_good : ∀ w ∈ (vx_at0 RX11 200 nse nseUp).filter goodWord, w ∈ lw_tbl := by decide +kernel
set_option maxRecDepth 20000 in
theorem nse_ot : ∀ w ∈ Cond.classLink RX11 198 nse :: Cond.initialized nse :: vx_at0 RX11 200 nse nseUp, vx_ot w = true := by decide +kernel
set_option maxRecDepth 20000 in
theorem nse_cl : (Cond.classLink RX11 198 nse) ∈ jw_tbl ∧ (Cond.initialized nse) ∈ jw_tbl ∧ (Cond.classLink RL 13 nse) ∈ jw_tbl := by
  refine ⟨List.mem_filter.mpr ⟨?_, rfl⟩, List.mem_filter.mpr ⟨?_, rfl⟩, List.mem_filter.mpr ⟨?_, rfl⟩⟩ <;> decide +kernel
/-- what a throw needs of the state besides the words: two static fields, and some words that are not for carrying -/
def jUq (A : Nat → Prop) (U : State) (H : Heap) : Prop := vx_Zq Bundle.tN "UNASSIGNED_STACK" Bundle.steD A U H ∧ vx_Zq Bundle.tN "SUPPRESSED_SENTINEL" Bundle.listD A U H ∧ ∀ w ∈ nseBad, va_Nw w U
theorem jUq.moved {A : Nat → Prop} {u U : State} {H : Heap} (hvm : u.vm.Alike U.vm) (h : jUq A u H) : jUq A U H :=
  ⟨h.1.moved hvm, h.2.1.moved hvm, fun w hw => va_tabs (nse_face w hw).2 (u := u.setVm U.vm) rfl (Cond.faceAtom_setVm hvm w (nse_face w hw).1 (va_Nw.use (nse_face w hw).2 (A := #[]) (h.2.2 w hw)))⟩
theorem jUq.kept {A : Nat → Prop} {U : State} {H H1 : Heap} (h : jUq A U H) (hq : ∀ a : Nat, a < H.size → ¬ A a → H1[a]? = H[a]?) : jUq A U H1 := ⟨h.1.kept hq, h.2.1.kept hq, h.2.2⟩
theorem jUq.narrow {A B : Nat → Prop} {U : State} {H : Heap} (h : jUq A U H) (hAB : ∀ q, B q → A q) : jUq B U H := ⟨h.1.narrow hAB, h.2.1.narrow hAB, h.2.2⟩
/-- how a method leaves with the exception -/
def jXC (D : va_G) (tA : Nat → ClassId) (A : Nat → Prop) (L : jL) (QX : jP → jM → jN → Prop) : String → State → State → Prop := fun E st t => E = nse ∧ ∃ P' M' N', QX P' M' N' ∧ jsy L D tA P' A M' N' t.heap ∧ va_F A st t
def jTh (l : Launch) (y : MethodName) (cc : ByteArray) (nL : Nat) (ret : Option FieldType) (rm : Room) (L0 : jL) (as : List Value) (P : jP) (M : jM) (N : jN) (QV : Option Value → jP → jM → jN → Prop) (QX : jP → jM → jN → Prop) : Prop :=
  ∀ (D : va_G) (tA : Nat → ClassId) (sz : Nat), vx_Met l y (Cond.code y cc nL ret :: jw_tbl) rm (va_Pc as (fun U => U.heap.size = sz ∧ jsy L0 D tA P (fun _ => True) M N U.heap ∧ jK D tA U ∧ jUq (jA L0 tA P M N sz) U U.heap))
    (jQc D tA (jA L0 tA P M N sz) L0 QV) (jXC D tA (jA L0 tA P M N sz) L0 QX) rm.cells rm.slots (jA L0 tA P M N sz)
def jVE (X : jX) (rm : Room) (QV : Option Value → jP → jM → jN → Prop) (QX : jP → jM → jN → Prop) : State → Prop := match X with
  | ((_, _, _, _, s, _, args, below, _, _), D, tA, A, L) => vx_MQ below (jQc D tA A L QV) (jXC D tA A L QX) args s rm.cells rm.slots A
def jUx (X : jX) : Prop := match X with
  | ((_, _, _, _, s, _, _, _, _, c), _, _, A, _) => jUq A s s.heap ∧ ∀ x ∈ c.exceptionTable.toList, False
section JT
variable {X : jX} {P : jP} {M : jM} {N : jN} {k n : Nat} {lo : List (Nat × Value)} {st : List Value} {l0 : Launch} {y : MethodName} {cc : ByteArray} {nL : Nat} {ret : Option FieldType} {rm : Room} {L0 : jL} {pc : Nat} {QV : Option Value → jP → jM → jN → Prop} {QX : jP → jM → jN → Prop}
theorem J.vx (h : J X P M N k n (jE X rm QV) nL pc lo st) : J X P M N k n (jVE X rm QV QX) nL pc lo st := by
  obtain ⟨⟨p, l, e, R, s, m, args, below, meth, c⟩, D, tA, A, L⟩ := X
  intro H locs ls h1 h2 h3
  exact vx_ret (h H locs ls h1 h2 h3)
theorem j_throw (o : jok X l0 y cc nL ret rm L0) (u : jUx X) (hfl : l0.stackTraces = false) (hy : y.cls = RX11) (d0 : decode cc pc = .ok (.new 198, 3)) (d3 : decode cc (pc + 3) = .ok (.dup, 1)) (d4 : decode cc (pc + 4) = .ok (.invokespecial 200, 3)) (d7 : decode cc (pc + 7) = .ok (.athrow, 1))
    (hst : (st.map fun v => v.category).sum ≤ 8) (hr1 : Nat.ble 6 rm.frames = true) (hr2 : Nat.ble 89 rm.locals = true) (hc : k + 1 ≤ rm.cells) (hn : n + 6 ≤ rm.slots) (q : QX P M N) : J X P M N k n (jVE X rm QV QX) nL pc lo st := by
  obtain ⟨⟨p, l, e, R, s, m, args, below, meth, c⟩, D, tA, A, L⟩ := X
  obtain ⟨hx, hb, hml, hown, hts, hr, hK, hA, hlk, hnm, hR, hl0, hL0⟩ := o
  obtain ⟨⟨hU, hN, hB⟩, ht⟩ := u
  subst hL0 hR hl0
  intro H locs ls h1 h2 h3
  have hR1 : 6 ≤ R.frames := Nat.le_of_ble_eq_true hr1
  have hR2 : 89 ≤ R.locals := Nat.le_of_ble_eq_true hr2
  refine vx_throw0 (cls := nse) (names := nseUp) (ik := 198) (ic := 200) (own := RX11) (A := A) hx hb hfl (by rw [← hy]; exact hown) (by decide) (by decide) (hts _ nse_cl.1) (hts _ nse_cl.2.1)
    (vx_hat (B := nseBad) (fun w hw => hts w (List.mem_filter.mpr ⟨nse_good w hw, (List.mem_filter.mp hw).2⟩)) (fun w hw => hw) (fun w hw => va_Nw.use (nse_face w hw).2 (hB w hw)))
    nse_ot hU hN h2 (h3.1.trans hml.symm) d0 d3 d4 d7 (fun x hx => (ht x hx).elim) (show 2 + 3 < R.frames by omega) (show _ + (13 * (2 + 1) + 42) ≤ R.locals by omega) hc hn hlk ?_ h2.2.2 hc hn
  intro t _ hz hk
  exact ⟨rfl, P, M, N, q, h1.kept (fun q _ hq => hk q hq), Nat.le_trans h2.1 hz, fun q g1 g2 => by rw [hk q (Nat.lt_of_lt_of_le g1 h2.1)]; exact h2.2.1 q g1 g2⟩
end JT
theorem jTh_of {l : Launch} {y : MethodName} {cc : ByteArray} {nL : Nat} {ret : Option FieldType} {rm : Room} {L0 : jL} {as : List Value} {P : jP} {M : jM} {N : jN} {QV : Option Value → jP → jM → jN → Prop} {QX : jP → jM → jN → Prop} (hy : plainName y.cls = true) (lo : List (Nat × Value)) (hlo : (lg_sl as).length ≤ nL) (hle : lv_args 0 as = lo)
    (body : ∀ X, jok X l y cc nL ret rm L0 → jUx X → J X P M N 0 0 (jVE X rm QV QX) nL 0 lo []) : jTh l y cc nL ret rm L0 as P M N QV QX := by
  intro D tA sz
  refine vx_ofW (cc := cc) (maxL := nL) (ret := ret) hy rfl ?_
  intro p e s m args below meth c s₁ B hml ht hv
  obtain ⟨rfl, hsz, hP, hK, hU⟩ := hv
  have hts := atoms_spec (ws := Cond.code y cc nL ret :: jw_tbl) B.pre
  have hown : s.vm.findClass y.cls = some m.cls := findClass_of_methodNamed B.named
  subst hsz
  have hl := lv_entry as (n := nL) hlo
  rw [lg_entry_eq]
  generalize (lg_sl as ++ List.replicate (nL - (lg_sl as).length) Slot.unset).toArray = ls at hl ⊢
  refine body ((p, l, e, rm, s, m, as.toArray, below, meth, c), D, tA, jA L0 tA P M N s.heap.size, L0) ⟨B.exec, B.bytes, hml, hown, fun w h => hts w (List.mem_cons_of_mem _ h), B.returns, hK, fun q h => Or.inr h, B.notSynchronized, (name_of_methodNamed B.named B.method).1, rfl, rfl, rfl⟩ ⟨hU, ht⟩ s.heap [] ls hP.self va_S.rf (hle ▸ hl)
