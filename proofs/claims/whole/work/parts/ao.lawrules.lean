/-! THE LAW'S RULES: the script, calls to the class and to the reference out of one world -/
abbrev LW : jL := LWg LC LM
def LE : jL := fun _ _ _ _ _ => none
def jSc (X : jX) (b L : Nat) (xs : Nat → Int32) : Prop := match X with
  | ((_, _, _, _, s, _, _, _, _, _), _, _, A, _) => va_X b L xs s s.heap ∧ b < s.heap.size ∧ ¬ A b
def jUa (X : jX) : Prop := match X with
  | ((_, _, _, _, s, _, _, _, _, _), _, _, A, _) => jUq A s s.heap
theorem LE_sy {D : va_G} {tA : Nat → ClassId} {P : jP} {A : Nat → Prop} {M : jM} {N : jN} {H : Heap} : jsy LE D tA P A M N H := ⟨fun k e (he : none = some e) => (by cases he), fun i j x y (hx : none = some x) _ _ => (by cases hx)⟩
theorem lgc_self (a : Int64) : lg_cmp a a = 0 := by
  unfold lg_cmp
  rw [if_neg (show ¬ a > a from Int64.lt_irrefl), if_pos rfl]
/-- a method that reads the script, of no world -/
def jCS (l : Launch) (y : MethodName) (cc : ByteArray) (nL : Nat) (ret : Option FieldType) (rm : Room) (b Ls : Nat) (xs : Nat → Int32) (as : List Value) (P : jP) (M : jM) (N : jN) (QV : Option Value → jP → jM → jN → Prop) : Prop :=
  ∀ (D : va_G) (tA : Nat → ClassId) (sz : Nat), Met l y (Cond.code y cc nL ret :: jw_tbl) rm (va_Pc as (fun U => U.heap.size = sz ∧ jsy LE D tA P (fun _ => True) M N U.heap ∧ jK D tA U ∧ va_X b Ls xs U U.heap ∧ b < U.heap.size))
    (jQc D tA (jA LE tA P M N sz) LE QV) rm.cells rm.slots (jA LE tA P M N sz)
theorem jblindS {D : va_G} {tA : Nat → ClassId} {P : jP} {M : jM} {N : jN} {sz b Ls : Nat} {xs : Nat → Int32} {as : List Value} : FrameBlind (va_Pc as (fun U => U.heap.size = sz ∧ jsy LE D tA P (fun _ => True) M N U.heap ∧ jK D tA U ∧ va_X b Ls xs U U.heap ∧ b < U.heap.size)) :=
  fun a U g mk q => by
    obtain ⟨q0, q1, qP, qK, qX, qb⟩ := q
    exact ⟨q0, q1, qP, qK.calls, va_X.moved (u := U) (U := U.calling g mk a) (Vm.Alike.refl U.vm) qX, qb⟩
theorem jCS_of {l : Launch} {y : MethodName} {cc : ByteArray} {nL : Nat} {ret : Option FieldType} {rm : Room} {b Ls : Nat} {xs : Nat → Int32} {as : List Value} {P : jP} {M : jM} {N : jN} {QV : Option Value → jP → jM → jN → Prop} (hy : plainName y.cls = true) (lo : List (Nat × Value)) (hlo : (lg_sl as).length ≤ nL) (hle : lv_args 0 as = lo)
    (body : ∀ X, jok X l y cc nL ret rm LE → jSc X b Ls xs → J X P M N 0 0 (jE X rm QV) nL 0 lo []) : jCS l y cc nL ret rm b Ls xs as P M N QV := by
  intro D tA sz
  refine Met.ofW (cc := cc) (maxL := nL) (ret := ret) hy rfl ?_
  intro p e s m args below meth c s₁ B hml hv
  obtain ⟨rfl, hsz, hP, hK, hX, hbs⟩ := hv
  have hts := atoms_spec (ws := Cond.code y cc nL ret :: jw_tbl) B.pre
  have hown : s.vm.findClass y.cls = some m.cls := findClass_of_methodNamed B.named
  subst hsz
  have hl := lv_entry as (n := nL) hlo
  rw [lg_entry_eq]
  generalize (lg_sl as ++ List.replicate (nL - (lg_sl as).length) Slot.unset).toArray = ls at hl ⊢
  refine body ((p, l, e, rm, s, m, as.toArray, below, meth, c), D, tA, jA LE tA P M N s.heap.size, LE) ⟨B.exec, B.bytes, hml, hown, fun w h => hts w (List.mem_cons_of_mem _ h), B.returns, hK, fun q h => Or.inr h, B.notSynchronized, (name_of_methodNamed B.named B.method).1, rfl, rfl, rfl⟩ ⟨hX, hbs, fun z => ?_⟩ s.heap [] ls hP.self va_S.rf (hle ▸ hl)
  rcases z with ⟨k, e, he, _⟩ | z
  · cases he
  · omega
section LRU
variable {X : jX} {P P2 : jP} {M M2 : jM} {N N2 : jN} {k n : Nat} {E : State → Prop} {lo : List (Nat × Value)} {st st0 : List Value} {l0 : Launch} {y : MethodName} {cc : ByteArray} {nL : Nat} {ret : Option FieldType} {rm : Room} {L0 : jL} {pc : Nat} {b Ls : Nat} {xs : Nat → Int32}
variable {y2 : MethodName} {cc2 : ByteArray} {nL2 : Nat} {ret2 : Option FieldType} {rm2 : Room} {as : List Value} {QV : Option Value → jP → jM → jN → Prop} {ix : Nat}
theorem j_sld (o : jok X l0 y cc nL ret rm L0) (S : jSc X b Ls xs) {i : Int32} (hi : vp_in i Ls) (hd : decode cc pc = .ok (.iaload, 1)) (kk : J X P M N k n E nL (pc + 1) lo (.int (xs i.toNatClampNeg) :: st)) : J X P M N k n E nL pc lo (.int i :: .ref b :: st) := by
  obtain ⟨⟨p, l, e, R, s, m, args, below, meth, c⟩, D, tA, A, L⟩ := X
  obtain ⟨hx, hb, hml, hown, hts, hr, ⟨hK, hNw⟩, hA, hlk, hnm, hR, hl0, hL0⟩ := o
  intro H locs ls h1 h2 h3
  exact va_sld hx hb S.1 S.2.1 S.2.2 h2 hi hd (kk H locs ls h1 h2 h3)
theorem j_slen (o : jok X l0 y cc nL ret rm L0) (S : jSc X b Ls xs) (hd : decode cc pc = .ok (.arraylength, 1)) (kk : J X P M N k n E nL (pc + 1) lo (.int (Int32.ofNat Ls) :: st)) : J X P M N k n E nL pc lo (.ref b :: st) := by
  obtain ⟨⟨p, l, e, R, s, m, args, below, meth, c⟩, D, tA, A, L⟩ := X
  obtain ⟨hx, hb, hml, hown, hts, hr, ⟨hK, hNw⟩, hA, hlk, hnm, hR, hl0, hL0⟩ := o
  intro H locs ls h1 h2 h3
  exact va_slen hx hb S.1 S.2.1 S.2.2 h2 hd (kk H locs ls h1 h2 h3)
/-- an argument of a call: the script's place i + c -/
theorem j_arg (o : jok X l0 y cc nL ret rm L0) (S : jSc X b Ls xs) {i : Nat} (c : Nat) (h0 : jlk lo 0 = some (.ref b)) (h4 : jlk lo 4 = some (.int (nI i))) (hi : i + c < Ls) (hL : Ls ≤ 3073) (d0 : decode cc pc = .ok (.aload_n 0, 1)) (d1 : decode cc (pc + 1) = .ok (.iload 4, 2)) (d3 : decode cc (pc + 3) = .ok (.iconst (c : Int), 1)) (d4 : decode cc (pc + 4) = .ok (.iadd, 1)) (d5 : decode cc (pc + 5) = .ok (.iaload, 1))
    (kk : J X P M N k n E nL (pc + 6) lo (.int (xs (i + c)) :: st)) : J X P M N k n E nL pc lo st := by
  refine j_aload_n o d0 h0 ?_
  refine j_iload o d1 h4 ?_
  refine j_iconst o (v := nI c) d3 rfl ?_
  refine j_iadd o d4 ?_
  rw [nI_add]
  refine j_sld o S (vin hi (by omega)) d5 ?_
  rw [nI_clamp (show i + c < 2 ^ 31 by omega)]
  exact kk
theorem j_callSC (o : jok X l0 y cc nL ret rm L0) (S : jSc X b Ls xs) (hM : jCS l0 y2 cc2 nL2 ret2 rm2 b Ls xs as P M N QV) (hd : decode cc pc = .ok (.invokestatic ix, 3)) (hw : ∀ w ∈ ([.methodLink y.cls ix y2, .static y2, .initialized y2.cls, .code y2 cc2 nL2 ret2] : List Cond), w ∈ jw_tbl) (hn : jN2 y2 as) (hrm : jRm k n rm2 rm nL2) (hcat : (st.map fun v => v.category).sum ≤ 8) (hst : st0 = as.reverse ++ st)
    (kk : ∀ v Pb Mb Nb, QV v Pb Mb Nb → J X P M N (k + rm2.cells) (n + rm2.slots) E nL (pc + 3) lo (v.toList ++ st)) : J X P M N k n E nL pc lo st0 := by
  obtain ⟨⟨p, l, e, R, s, m, args, below, meth, c⟩, D, tA, A, L⟩ := X
  obtain ⟨hx, hb, hml, hown, hts, hr, ⟨hK, hNw⟩, hA, hlk, hnm, hR, hl0, hL0⟩ := o
  subst hL0 hR hl0
  intro H locs ls h1 h2 h3
  have ok := fun w h => hts w (hw w h)
  have hG : GoodIn jw_tbl (Cond.code y2 cc2 nL2 ret2 :: jw_tbl) := jgood (fun w h => by
    rcases List.mem_cons.mp h with h | h
    · rw [h]; exact hw _ (by simp)
    · exact h)
  have hs : jSub L P M N LE P M N (fun q => q) := ⟨fun tA k e he => (by cases he), fun i j h => h⟩
  have hSX : va_X b Ls xs s H := S.1.kept (h2.2.1 b S.2.1 S.2.2)
  exact j_runG (av := as.toArray) hA h1 h2 h3 hs (va_runS (As := as) (rest := st) ⟨hx, hb, hml, hown, hts⟩ (hM D tA H.size) ⟨callB_of as.length hts hG rfl rfl rfl (ok _ (by simp)) (ok _ (by simp)) hn hrm.1, ok _ (by simp)⟩ ⟨jblindS, fun U hU hW => ⟨rfl, by rw [hU], LE_sy, jK.warm hW ⟨hK, hNw⟩, by rw [hU]; exact hSX.moved hW.alike, by rw [hU]; exact Nat.lt_of_lt_of_le S.2.1 h2.1⟩⟩ rfl rfl h3.1 hst (lv_room hcat) hd hrm.2)
    (fun v Pb Mb Nb hq => ⟨P, M, N, fun tA j e he => Or.inr ⟨he, rfl, fun k x hx => (by cases hx)⟩, kk v Pb Mb Nb hq⟩)
/-- a static method with a table -/
theorem j_callSW (o : jok X l0 y cc nL ret rm L0) (u : jUa X) {hh : List (Nat × Nat × Nat × Nat)} (hM : jCW l0 y2 cc2 nL2 ret2 hh rm2 L0 as P M N QV) (hd : decode cc pc = .ok (.invokestatic ix, 3)) (hw : ∀ w ∈ ([.methodLink y.cls ix y2, .static y2, .initialized y2.cls, .codeWith y2 cc2 nL2 ret2 hh] : List Cond), w ∈ jw_tbl) (hn : jN2 y2 as) (hrm : jRm k n rm2 rm nL2) (hcat : (st.map fun v => v.category).sum ≤ 8) (hst : st0 = as.reverse ++ st)
    (kk : ∀ v P' M' N', QV v P' M' N' → J X P' M' N' (k + rm2.cells) (n + rm2.slots) E nL (pc + 3) lo (v.toList ++ st)) : J X P M N k n E nL pc lo st0 := by
  obtain ⟨⟨p, l, e, R, s, m, args, below, meth, c⟩, D, tA, A, L⟩ := X
  obtain ⟨hx, hb, hml, hown, hts, hr, ⟨hK, hNw⟩, hA, hlk, hnm, hR, hl0, hL0⟩ := o
  subst hL0 hR hl0
  intro H locs ls h1 h2 h3
  have hG : GoodIn jw_tbl (va_wsS y.cls ix y2 (Cond.codeWith y2 cc2 nL2 ret2 hh :: jw_tbl)) := jgood (fun w h => by
    unfold va_wsS at h
    rcases List.mem_append.mp h with h | h
    · exact hw w (by
        simp only [List.mem_cons, List.not_mem_nil, or_false] at h ⊢
        rcases h with h | h | h
        · exact Or.inl h
        · exact Or.inr (Or.inl h)
        · exact Or.inr (Or.inr (Or.inl h)))
    · rcases List.mem_cons.mp h with h | h
      · rw [h]; exact hw _ (by simp)
      · exact h)
  have hUH : jUq A s H := jUq.kept u (fun a g1 g2 => h2.2.1 a g1 g2)
  exact j_run (av := as.toArray) hA h1 h2 h3 (vx_runSW (As := as) (rest := st) ⟨hx, hb, hml, hown, hts⟩ (hM D tA H.size) (vx_cwSW as.length hts hG rfl rfl rfl hn hrm.1) ⟨jblindU, fun U hU hW => ⟨rfl, by rw [hU], by rw [hU]; exact h1.any, jK.warm hW ⟨hK, hNw⟩, by rw [hU]; exact (hUH.moved hW.alike).narrow (h1.free hA h2.1)⟩⟩ rfl rfl h3.1 hst (lv_room hcat) hd hrm.2) kk
end LRU
theorem jC.toZ {l : Launch} {y : MethodName} {cc : ByteArray} {nL : Nat} {ret : Option FieldType} {rm : Room} {L0 : jL} {as : List Value} {P : jP} {M : jM} {N : jN} {QV : Option Value → jP → jM → jN → Prop} (h : jC l y cc nL ret rm L0 as P M N QV) : jCZ l y cc nL ret rm L0 as P M N QV := by
  intro D tA sz
  refine MetFree.mono (h D tA sz) (fun a s z => ?_) (fun _ _ _ _ _ z => z) (fun a s o s' _ hh => hh)
  exact ⟨z.1, z.2.1, z.2.2.1, z.2.2.2.1⟩
