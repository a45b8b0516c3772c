/-! MAKING CELLS. A raw layout: a key's object may still be in the making: a reference field is null till its cell of the tables is set -/
def rfv (P : jP) (f : Nat → Int32) (h : Nat → Int64) (j d : Nat) : Value := if d = 0 then .int (f j) else if d = 1000 then .long (h j) else if d = 1001 then jrf P (f j).toNatClampNeg else if f j = 0 then .null else .ref (P.1 d)
def rfls (P : jP) (f : Nat → Int32) (h : Nat → Int64) : Nat → List Nat → List Value
  | _, [] => []
  | j, d :: ds => rfv P f h j d :: rfls P f h (j + 1) ds
def LR (ob : Nat → Option (Nat × List Nat)) (L : jL) : jL := fun tA P k f h => if P.2.1 k = true then (match ob k with | some x => some (.inr (x.1, rfls P f h 0 x.2)) | none => L tA P k f h) else none
theorem rfls_get (P : jP) (f : Nat → Int32) (h : Nat → Int64) : ∀ (ds : List Nat) (i j : Nat), (rfls P f h i ds)[j]? = ds[j]?.map (fun d => rfv P f h (i + j) d)
  | [], i, j => by simp [rfls]
  | d :: ds, i, 0 => by simp [rfls]
  | d :: ds, i, j + 1 => by
    show (rfls P f h (i + 1) ds)[j]? = _
    rw [rfls_get P f h ds (i + 1) j]
    simp [show i + 1 + j = i + (j + 1) by omega]
theorem rfls_len (P : jP) (f : Nat → Int32) (h : Nat → Int64) : ∀ (ds : List Nat) (i : Nat), (rfls P f h i ds).length = ds.length
  | [], i => rfl
  | d :: ds, i => by
    show (rfls P f h (i + 1) ds).length + 1 = ds.length + 1
    rw [rfls_len P f h ds (i + 1)]
theorem rfls_set (P : jP) {f f' : Nat → Int32} {h h' : Nat → Int64} : ∀ (ds : List Nat) (i j d : Nat), ds[j]? = some d → (∀ t, t ≠ i + j → f' t = f t ∧ h' t = h t) → (rfls P f h i ds).set j (rfv P f' h' (i + j) d) = rfls P f' h' i ds := by
  intro ds i j d hd he
  apply List.ext_getElem?
  intro t
  rw [List.getElem?_set, rfls_get, rfls_get, rfls_len]
  by_cases z : j = t
  · subst z
    have hl : j < ds.length := (List.getElem?_eq_some_iff.mp hd).1
    rw [if_pos rfl, if_pos hl, hd]
    rfl
  · rw [if_neg z]
    congr 1
    funext d'
    unfold rfv
    rw [(he (i + t) (by omega)).1, (he (i + t) (by omega)).2]
theorem LR_ob {ob : Nat → Option (Nat × List Nat)} {L : jL} {P : jP} {g ci : Nat} {ds : List Nat} (hp : P.2.1 g = true) (ho : ob g = some (ci, ds)) : ∀ (tA : Nat → ClassId) (f : Nat → Int32) (h : Nat → Int64), LR ob L tA P g f h = some (.inr (ci, rfls P f h 0 ds)) := by
  intro tA f h
  unfold LR
  rw [if_pos hp, ho]
theorem LR_ar {ob : Nat → Option (Nat × List Nat)} {L : jL} {P : jP} {g : Nat} (hp : P.2.1 g = true) (ho : ob g = none) : ∀ (tA : Nat → ClassId) (f : Nat → Int32) (h : Nat → Int64), LR ob L tA P g f h = L tA P g f h := by
  intro tA f h
  unfold LR
  rw [if_pos hp, ho]
theorem LR_no {ob : Nat → Option (Nat × List Nat)} {L : jL} {P : jP} {g : Nat} (hp : P.2.1 g = false) : ∀ (tA : Nat → ClassId) (f : Nat → Int32) (h : Nat → Int64), LR ob L tA P g f h = none := by
  intro tA f h
  unfold LR
  rw [if_neg (by rw [hp]; decide)]
def pnew (P : jP) (g a : Nat) : jP := (fun k => if k = g then a else P.1 k, fun k => if k = g then true else P.2.1 k, P.2.2)
def zM (M : jM) (g : Nat) : jM := fun k => if k = g then (fun _ => 0) else M k
def zN (N : jN) (g : Nat) : jN := fun k => if k = g then (fun _ => 0) else N k
theorem jsy.new {L : jL} {D : va_G} {tA : Nat → ClassId} {P P' : jP} {A : Nat → Prop} {M M' : jM} {N N' : jN} {H H1 : Heap} (h : jsy L D tA P A M N H) (g : Nat) (hold : ∀ k e, k ≠ g → L tA P' k (M' k) (N' k) = some e → L tA P k (M k) (N k) = some e ∧ P'.1 k = P.1 k) (hnew : ∀ e, L tA P' g (M' g) (N' g) = some e → va_at D vwCl (H.size, e) H1) (hg : P'.1 g = H.size) (o1 : ∀ q, q < H.size → H1[q]? = H[q]?) (hAg : A H.size) : jsy L D tA P' A M' N' H1 := by
  refine ⟨fun k e he => ?_, fun i j x y hx hy hij => ?_⟩
  · by_cases hk : k = g
    · subst hk
      rw [hg]
      exact ⟨hnew e he, hAg⟩
    · obtain ⟨h1, h2⟩ := hold k e hk he
      rw [h2]
      exact ⟨(h.1 k e h1).1.kept (o1 _ (h.1 k e h1).1.lt), (h.1 k e h1).2⟩
  · by_cases hi : i = g
    · by_cases hj : j = g
      · rw [hi, hj]
      · obtain ⟨h1, h2⟩ := hold j y hj hy
        have := (h.1 j y h1).1.lt
        rw [hi, hg, h2] at hij
        dsimp only at this
        omega
    · obtain ⟨h1, h2⟩ := hold i x hi hx
      by_cases hj : j = g
      · have := (h.1 i x h1).1.lt
        rw [hj, hg, h2] at hij
        dsimp only at this
        omega
      · obtain ⟨h3, h4⟩ := hold j y hj hy
        rw [h2, h4] at hij
        exact h.2 i j x y h1 h3 hij
/-- what the makers of arrays of references need of the machine, beside the words -/
def jO (U : State) : Prop := ∃ (comp c : ClassId) (k : Class), U.vm.findClass (FieldType.array .int).toString = some comp ∧ U.vm.classes[c]? = some k ∧ k.kind = .array comp (.array .int) ∧ U.vm.findClass ("[" ++ (FieldType.array .int).toString) = some c
def jZ (U : State) : Prop := va_AO "CoalForm$Law" U ∧ va_AO "CoalForm$Form" U ∧ jO U
theorem jZ.moved {u U : State} (hvm : u.vm.Alike U.vm) (h : jZ u) : jZ U := by
  obtain ⟨h1, h2, comp, c, k, g1, g2, g3, g4⟩ := h
  obtain ⟨k', hk', he⟩ := hvm.2.2 _ _ g2
  exact ⟨h1.moved hvm, h2.moved hvm, comp, c, k', by rw [hvm.findClass]; exact g1, hk', by rw [he]; exact g3, by rw [hvm.findClass]; exact g4⟩
def jzs (X : jX) : Prop := match X with
  | ((_, _, _, _, s, _, _, _, _, _), _, _, _, _) => jZ s
def jCZ (l : Launch) (y : MethodName) (cc : ByteArray) (nL : Nat) (ret : Option FieldType) (rm : Room) (L0 : jL) (as : List Value) (P : jP) (M : jM) (N : jN) (QV : Option Value → jP → jM → jN → Prop) : Prop :=
  ∀ (D : va_G) (tA : Nat → ClassId) (sz : Nat), Met l y (Cond.code y cc nL ret :: jw_tbl) rm (va_Pc as (fun U => U.heap.size = sz ∧ jsy L0 D tA P (fun _ => True) M N U.heap ∧ jK D tA U ∧ jZ U))
    (fun _ st oc t => (∃ v P' M' N', oc = .returned v ∧ QV v P' M' N' ∧ jsy L0 D tA P' (jA L0 tA P M N sz) M' N' t.heap) ∧ va_F (jA L0 tA P M N sz) st t) rm.cells rm.slots (jA L0 tA P M N sz)
theorem jblindZ {L0 : jL} {D : va_G} {tA : Nat → ClassId} {P : jP} {M : jM} {N : jN} {sz : Nat} {as : List Value} : FrameBlind (va_Pc as (fun U => U.heap.size = sz ∧ jsy L0 D tA P (fun _ => True) M N U.heap ∧ jK D tA U ∧ jZ U)) :=
  fun a U g mk q => by
    obtain ⟨q0, q1, qP, qK, qZ⟩ := q
    exact ⟨q0, q1, qP, qK.calls, jZ.moved (u := U) (U := U.calling g mk a) (Vm.Alike.refl U.vm) qZ⟩
theorem jC_ofZ {l : Launch} {y : MethodName} {cc : ByteArray} {nL : Nat} {ret : Option FieldType} {rm : Room} {L0 : jL} {as : List Value} {P : jP} {M : jM} {N : jN} {QV : Option Value → jP → jM → jN → Prop} (hy : plainName y.cls = true) (lo : List (Nat × Value)) (hlo : (lg_sl as).length ≤ nL) (hle : lv_args 0 as = lo)
    (body : ∀ X, jok X l y cc nL ret rm L0 → jzs X → J X P M N 0 0 (jE X rm QV) nL 0 lo []) : jCZ l y cc nL ret rm L0 as P M N QV := by
  intro D tA sz
  refine Met.ofW (cc := cc) (maxL := nL) (ret := ret) hy rfl ?_
  intro p e s m args below meth c s₁ B hml hv
  obtain ⟨rfl, hsz, hP, hK, hZ⟩ := hv
  have hts := atoms_spec (ws := Cond.code y cc nL ret :: jw_tbl) B.pre
  have hown : s.vm.findClass y.cls = some m.cls := findClass_of_methodNamed B.named
  subst hsz
  have hl := lv_entry as (n := nL) hlo
  rw [lg_entry_eq]
  generalize (lg_sl as ++ List.replicate (nL - (lg_sl as).length) Slot.unset).toArray = ls at hl ⊢
  refine body ((p, l, e, rm, s, m, as.toArray, below, meth, c), D, tA, jA L0 tA P M N s.heap.size, L0) ⟨B.exec, B.bytes, hml, hown, fun w h => hts w (List.mem_cons_of_mem _ h), B.returns, hK, fun q h => Or.inr h, B.notSynchronized, (name_of_methodNamed B.named B.method).1, rfl, rfl, rfl⟩ hZ s.heap [] ls hP.self va_S.rf (hle ▸ hl)
section RAW
variable {X : jX} {P : jP} {M M1 : jM} {N N1 : jN} {k n : Nat} {E : State → Prop} {lo : List (Nat × Value)} {st st0 : List Value} {l0 : Launch} {y : MethodName} {cc : ByteArray} {nL : Nat} {ret : Option FieldType} {rm : Room} {L0 : jL} {pc ix : Nat}
theorem r_new (o : jok X l0 y cc nL ret rm L0) {g ci Nf : Nat} {C : String} {T : u_T} {ty : Nat → FieldType} {fs : List Value} (hc : vwCl[ci]? = some (C, T, Nf)) (hin : ∀ w ∈ u_ws C T Nf, w ∈ jw_tbl) (hty : ∀ k, k < Nf → parseFieldDescriptor (T k).2.2.1 = some (ty k)) (hw : ∀ w ∈ ([.classLink y.cls ix C, .instantiable C Nf, .initialized C] : List Cond), w ∈ jw_tbl) (hfs : ∀ j, j < Nf → defaultValue (ty j) = vp_V fs j)
    (hold : ∀ a tA k e, k ≠ g → L0 tA (pnew P g a) k (zM M g k) (zN N g k) = some e → L0 tA P k (M k) (N k) = some e) (hnew : ∀ a tA e, L0 tA (pnew P g a) g (fun _ => 0) (fun _ => 0) = some e → e = .inr (ci, fs)) (hk : k + 1 ≤ rm.cells ∧ n + Nf ≤ rm.slots) (hd : decode cc pc = .ok (.new ix, 3))
    (kk : ∀ a, J X (pnew P g a) (zM M g) (zN N g) (k + 1) (n + Nf) E nL (pc + 3) lo (.ref a :: st)) : J X P M N k n E nL pc lo st := by
  obtain ⟨⟨p, l, e, R, s, m, args, below, meth, c⟩, D, tA, A, L⟩ := X
  obtain ⟨hx, hb, hml, hown, hts, hr, ⟨hK, hNw⟩, hA, hlk, hnm, hR, hl0, hL0⟩ := o
  subst hL0 hR
  intro H locs ls h1 h2 h3
  have ok := fun w h => hts w (hw w h)
  have hKn := hK.1 ci _ hc
  refine W.newcK hx hb hown (ok _ (by simp)) (ok _ (by simp)) (ok _ (by simp)) rfl hd hk.1 hk.2 hKn.2.1 rfl fun H1 kC hkC e1 z1 o1 => ?_
  refine kk H.size H1 locs ls (h1.new g (fun q e hq he => ⟨hold _ _ q e hq he, by show (if q = g then _ else P.1 q) = _; rw [if_neg hq]⟩) (fun e he => ?_) (by show (if g = g then _ else _) = _; rw [if_pos rfl]) o1 (hA _ h2.1)) ⟨Nat.le_trans h2.1 (by omega), fun x q1 q2 => (o1 x (Nat.lt_of_lt_of_le q1 h2.1)).trans (h2.2.1 x q1 q2), h2.2.2⟩ h3
  have ez : zM M g g = fun _ => 0 := if_pos rfl
  have en : zN N g g = fun _ => 0 := if_pos rfl
  rw [ez, en] at he
  rw [hnew _ _ e he]
  exact ⟨_, hc, (u_born ty hts hin hKn hkC e1 hty).to hfs⟩
theorem r_newarr (o : jok X l0 y cc nL ret rm L0) {g ti nn B : Nat} {atype : ArrayType} {x : Int32} {ty : FieldType} (hty : newarray.typeOf atype = ty) (htys : ∀ tA, (jtys tA)[ti]? = some (tA ti, ty)) (hra : ∀ (U : State) (cA : ClassId), va_RA U cA ty → U.vm.findClass ("[" ++ ty.toString) = some cA) {a0 : vp_A} (ha : ∀ cA : ClassId, vp_cell cA a0 = arrV cA nn (fun _ => defaultValue ty)) (hw : Cond.arrayClass ty ∈ jw_tbl) (hx0 : x = nI nn) (hnn : nn ≤ B) (hB : B ≤ 1000000) (hcb : componentBytes ty ≤ 8)
    (hold : ∀ a tA k e, k ≠ g → L0 tA (pnew P g a) k (zM M g k) (zN N g k) = some e → L0 tA P k (M k) (N k) = some e) (hnew : ∀ a tA e, L0 tA (pnew P g a) g (fun _ => 0) (fun _ => 0) = some e → e = .inl (tA ti, a0)) (hk : k + 1 ≤ rm.cells ∧ n + B ≤ rm.slots) (hd : decode cc pc = .ok (.newarray atype, 2))
    (kk : ∀ a, J X (pnew P g a) (zM M g) (zN N g) (k + 1) (n + B) E nL (pc + 2) lo (.ref a :: st)) : J X P M N k n E nL pc lo (.int x :: st) := by
  obtain ⟨⟨p, l, e, R, s, m, args, below, meth, c⟩, D, tA, A, L⟩ := X
  obtain ⟨hx, hb, hml, hown, hts, hr, ⟨hK, hNw⟩, hA, hlk, hnm, hR, hl0, hL0⟩ := o
  subst hL0 hR
  intro H locs ls h1 h2 h3
  subst hty hx0
  have hbb : nn * componentBytes (newarray.typeOf atype) ≤ 536870912 := Nat.le_trans (Nat.mul_le_mul hnn hcb) (by omega)
  refine va_newaK hx hb (hts _ hw) rfl hd rfl (nI_pos (by omega)) (nI_clamp (by omega)) hbb hk.1 (by omega) rfl fun H1 cA e1 z1 o1 hAr hNm => ?_
  refine W.widen (k := k + 1) (n := n + B) (Nat.le_refl _) (by omega) ?_
  have hcA : cA = tA ti := by
    have h4 := hra _ _ (hK.2 ti _ (htys tA)).2
    have h5 := hNm.symm.trans h4
    exact Option.some.inj h5
  refine kk H.size H1 locs ls (h1.new g (fun q e hq he => ⟨hold _ _ q e hq he, by show (if q = g then _ else P.1 q) = _; rw [if_neg hq]⟩) (fun e he => ?_) (by show (if g = g then _ else _) = _; rw [if_pos rfl]) o1 (hA _ h2.1)) ⟨Nat.le_trans h2.1 (by omega), fun x q1 q2 => (o1 x (Nat.lt_of_lt_of_le q1 h2.1)).trans (h2.2.1 x q1 q2), h2.2.2⟩ h3
  have ez : zM M g g = fun _ => 0 := if_pos rfl
  have en : zN N g g = fun _ => 0 := if_pos rfl
  rw [ez, en] at he
  rw [hnew _ _ e he]
  show H1[H.size]? = some (vp_cell _ _)
  rw [ha, ← hcA]
  exact e1
theorem r_anew (o : jok X l0 y cc nL ret rm L0) (z : jzs X) {g ti nn : Nat} {C : String} {x : Int32} (htys : ∀ tA, (jtys tA)[ti]? = some (tA ti, .object C)) (hw : Cond.classLink y.cls ix C ∈ jw_tbl) (hov : ∀ U, jZ U → va_AO C U) (hx0 : x = nI nn) (hnn : nn ≤ 1000)
    (hold : ∀ a tA k e, k ≠ g → L0 tA (pnew P g a) k (zM M g k) (zN N g k) = some e → L0 tA P k (M k) (N k) = some e) (hnew : ∀ a tA e, L0 tA (pnew P g a) g (fun _ => 0) (fun _ => 0) = some e → e = .inl (tA ti, nn, .inr (.inr (.inr (.inr (fun _ => none)))))) (hk : k + 1 ≤ rm.cells ∧ n + nn ≤ rm.slots) (hd : decode cc pc = .ok (.anewarray ix, 3))
    (kk : ∀ a, J X (pnew P g a) (zM M g) (zN N g) (k + 1) (n + nn) E nL (pc + 3) lo (.ref a :: st)) : J X P M N k n E nL pc lo (.int x :: st) := by
  obtain ⟨⟨p, l, e, R, s, m, args, below, meth, c⟩, D, tA, A, L⟩ := X
  obtain ⟨hx, hb, hml, hown, hts, hr, ⟨hK, hNw⟩, hA, hlk, hnm, hR, hl0, hL0⟩ := o
  subst hL0 hR
  intro H locs ls h1 h2 h3
  subst hx0
  have hcl : (nI nn).toNatClampNeg = nn := nI_clamp (by omega)
  refine W.anew hx hb hown (hts _ hw) (va_AO.use (hov _ z)) rfl hd rfl (nI_pos (by omega)) (by rw [hcl]; omega) hk.1 (by rw [hcl]; exact hk.2) fun cA kA comp f1 f2 f3 f4 => ?_
  rw [hcl]
  generalize hH1 : H.push ({ cls := cA, slots := Array.replicate nn .null, vm := .none } : Cell) = H1
  have z1 : H1.size = H.size + 1 := by rw [← hH1, Array.size_push]
  have e1 : H1[H.size]? = some (arrV cA nn (fun _ => .null)) := by rw [← hH1, Array.getElem?_push_size, ← arrV_new]
  have o1 : ∀ q : Nat, q < H.size → H1[q]? = H[q]? := fun q hq => by rw [← hH1, Array.getElem?_push, if_neg (Nat.ne_of_lt hq)]
  have hcA : cA = tA ti := by
    obtain ⟨_, _, _, _, _, h4⟩ := (hK.2 ti _ (htys tA)).2
    exact Option.some.inj (f1.symm.trans h4)
  refine kk H.size H1 locs ls (h1.new g (fun q e hq he => ⟨hold _ _ q e hq he, by show (if q = g then _ else P.1 q) = _; rw [if_neg hq]⟩) (fun e he => ?_) (by show (if g = g then _ else _) = _; rw [if_pos rfl]) o1 (hA _ h2.1)) ⟨Nat.le_trans h2.1 (by omega), fun x q1 q2 => (o1 x (Nat.lt_of_lt_of_le q1 h2.1)).trans (h2.2.1 x q1 q2), h2.2.2⟩ h3
  have ez : zM M g g = fun _ => 0 := if_pos rfl
  have en : zN N g g = fun _ => 0 := if_pos rfl
  rw [ez, en] at he
  rw [hnew _ _ e he]
  show H1[H.size]? = some (vp_cell _ _)
  rw [← hcA]
  exact e1
/-- a final field, in its class's own constructor -/
theorem j_putF (o : jok X l0 y cc nL ret rm L0) {g slot ci Nf : Nat} {fs : List Value} {v : Value} {C : String} {T : u_T} {ty0 : Nat → FieldType} {ty : FieldType} (hc : vwCl[ci]? = some (C, T, Nf)) (hin : ∀ w ∈ u_ws C T Nf, w ∈ jw_tbl) (hty : ∀ k, k < Nf → parseFieldDescriptor (T k).2.2.1 = some (ty0 k)) (hnm : ∀ a, a < Nf → ∀ b, b < Nf → a ≠ b → (T a).2.1 ≠ (T b).2.1) (hk : slot < Nf) (hT : (T slot).1 = C) (hfin : (T slot).2.2.2 = true) (hini : y.name = "<init>") (hown2 : C = y.cls) (hw : Cond.fieldLink y.cls ix C (T slot).2.1 (T slot).2.2.1 ∈ jw_tbl) (hdt : parseFieldDescriptor (T slot).2.2.1 = some ty) (hn : narrow ty v = v) (hfit : fits ty v = true) (hl : slot < fs.length)
    (hL : ∀ tA, L0 tA P g (M g) (N g) = some (.inr (ci, fs))) (hL1 : ∀ tA, L0 tA P g (M1 g) (N1 g) = some (.inr (ci, fs.set slot v))) (hM : ∀ j, j ≠ g → M1 j = M j) (hN : ∀ j, j ≠ g → N1 j = N j) (hd : decode cc pc = .ok (.putfield ix, 3))
    (kk : J X P M1 N1 k n E nL (pc + 3) lo st) : J X P M N k n E nL pc lo (v :: .ref (P.1 g) :: st) := by
  obtain ⟨⟨p, l, e, R, s, m, args, below, meth, c⟩, D, tA, A, L⟩ := X
  obtain ⟨hx, hb, hml, hown, hts, hr, ⟨hK, hNw⟩, hA, hlk, hmn, hR, hl0, hL0⟩ := o
  subst hL0
  intro H locs ls h1 h2 h3
  have hap := va_apart (own := y.cls) hts hin ty0 hty hnm hK hc
  obtain ⟨⟨r, hrc, cell, q1, q2, q3, q4⟩, hAg⟩ := h1.1 g _ (hL tA)
  have hr' : r = (C, T, Nf) := Option.some.inj (hrc.symm.trans hc)
  subst hr'
  obtain ⟨hS, hfc, kC, hkC, hkind⟩ := hK.1 ci _ hc
  obtain ⟨cf, kf, fi, f, hi, hsl⟩ := hS slot hk
  have hlay := hts _ (hin _ (u_in_lay hk))
  unfold u_lay at hlay
  rw [if_pos hfin] at hlay
  have hst := (u_facts hfc hkC (u_lays hts hin hk) hi).1
  have hcf : m.cls = cf := by
    obtain ⟨_, _, c', _, _, _, -, -, hf', -, -, -, hown3, -⟩ := Cond.laysFinal_spec hlay
    have e1 : c' = cf := by have := hi.symm.trans hf'; simp at this; exact this.1.symm
    rw [hT, hown2] at hown3
    rw [← e1]; exact Option.some.inj (hown.symm.trans hown3)
  have h6 := u_fits hfc hkC hkind (Or.inr hlay) hi hdt hn hfit
  refine W.putFinK hx hb hown (hts _ hw) (by rw [hT] at hi; exact hi) hst hcf (by rw [hmn]; exact hini) (by rw [q2]; exact h6) q1 q3 (by rw [hsl]; exact k2_hasslot (q4 slot hk)) rfl rfl hd fun H' e1 e2 e3 => ?_
  rw [hsl] at e1 ⊢
  have hat : va_at D vwCl (P.1 g, .inr (ci, fs.set slot v)) H' := ⟨_, hc, t_OB.to (V := updV (vp_V fs) slot v) ⟨_, e1, q2, q3, t_set q4 hap hk v⟩ (fun j _ => vp_updV_set hl v j)⟩
  exact kk H' _ ls (h1.set g (hL tA) (hL1 tA) hM hN hat e3) (h2.put e2 e3 hAg) h3
theorem j_objInit (o : jok X l0 y cc nL ret rm L0) {a : Nat} (hw : ∀ w ∈ ([.methodLink y.cls ix Lib.objectInit, .instanceMethod Lib.objectInit, .code Lib.objectInit ⟨#[0xb1]⟩ 1 none] : List Cond), w ∈ jw_tbl) (hr2 : 1 ≤ rm.frames ∧ (st.map fun v => v.category).sum + 12 ≤ rm.locals) (hd : decode cc pc = .ok (.invokespecial ix, 3)) (kk : J X P M N k n E nL (pc + 3) lo st) : J X P M N k n E nL pc lo (.ref a :: st) := by
  obtain ⟨⟨p, l, e, R, s, m, args, below, meth, c⟩, D, tA, A, L⟩ := X
  obtain ⟨hx, hb, hml, hown, hts, hr, ⟨hK, hNw⟩, hA, hlk, hnm, hR, hl0, hL0⟩ := o
  subst hL0 hR
  intro H locs ls h1 h2 h3
  have ok := fun w h => hts w (hw w h)
  exact W.objInit hx hb hown (ok _ (by simp)) (ok _ (by simp)) (ok _ (by simp)) rfl (by rw [hml]; exact h3.1) rfl hd hr2.1 (by show 2 * 0 + _ + 12 ≤ _; omega) (kk H locs ls h1 h2 h3)
theorem j_callI (o : jok X l0 y cc nL ret rm L0) {g : Nat} {y2 : MethodName} {cc2 : ByteArray} {nL2 : Nat} {rm2 : Room} {as : List Value} {QV : Option Value → jP → jM → jN → Prop} (hM : jC l0 y2 cc2 nL2 none rm2 L0 (.ref (P.1 g) :: as) P M N QV) (hd : decode cc pc = .ok (.invokespecial ix, 3)) (hini : y2.name = "<init>") (hw : ∀ w ∈ ([.methodLink y.cls ix y2, .instanceMethod y2, .initialized y2.cls, .code y2 cc2 nL2 none] : List Cond), w ∈ jw_tbl) (hn : jN2 y2 as) (hrm : jRm k n rm2 rm nL2) (hcat : (st.map fun v => v.category).sum ≤ 8) (hst : st0 = as.reverse ++ .ref (P.1 g) :: st)
    (kk : ∀ v P' M' N', QV v P' M' N' → J X P' M' N' (k + rm2.cells) (n + rm2.slots) E nL (pc + 3) lo (v.toList ++ st)) : J X P M N k n E nL pc lo st0 := by
  obtain ⟨⟨p, l, e, R, s, m, args, below, meth, c⟩, D, tA, A, L⟩ := X
  obtain ⟨hx, hb, hml, hown, hts, hr, ⟨hK, hNw⟩, hA, hlk, hnm, hR, hl0, hL0⟩ := o
  subst hL0 hR hl0
  intro H locs ls h1 h2 h3
  have ok := fun w h => hts w (hw w h)
  have hG : GoodIn jw_tbl (Cond.code y2 cc2 nL2 none :: jw_tbl) := jgood (fun w h => by
    rcases List.mem_cons.mp h with h | h
    · rw [h]; exact hw _ (by simp)
    · exact h)
  exact j_run (av := (Value.ref (P.1 g) :: as).toArray) hA h1 h2 h3 (va_runI (As := as) (rest := st) ⟨hx, hb, hml, hown, hts⟩ (hM D tA H.size) ⟨callB_of as.length hts hG rfl rfl rfl (ok _ (by simp)) (ok _ (by simp)) hn hrm.1, hini, ok _ (by simp)⟩ ⟨jblind, fun U hU hW => ⟨rfl, by rw [hU], by rw [hU]; exact h1.any, jK.warm hW ⟨hK, hNw⟩⟩⟩ rfl rfl h3.1 hst (lv_room hcat) hd hrm.2) kk
theorem j_callIZ (o : jok X l0 y cc nL ret rm L0) {g : Nat} {y2 : MethodName} {cc2 : ByteArray} {nL2 : Nat} {rm2 : Room} {as : List Value} {QV : Option Value → jP → jM → jN → Prop} (z : jzs X) (hM : jCZ l0 y2 cc2 nL2 none rm2 L0 (.ref (P.1 g) :: as) P M N QV) (hd : decode cc pc = .ok (.invokespecial ix, 3)) (hini : y2.name = "<init>") (hw : ∀ w ∈ ([.methodLink y.cls ix y2, .instanceMethod y2, .initialized y2.cls, .code y2 cc2 nL2 none] : List Cond), w ∈ jw_tbl) (hn : jN2 y2 as) (hrm : jRm k n rm2 rm nL2) (hcat : (st.map fun v => v.category).sum ≤ 8) (hst : st0 = as.reverse ++ .ref (P.1 g) :: st)
    (kk : ∀ v P' M' N', QV v P' M' N' → J X P' M' N' (k + rm2.cells) (n + rm2.slots) E nL (pc + 3) lo (v.toList ++ st)) : J X P M N k n E nL pc lo st0 := by
  obtain ⟨⟨p, l, e, R, s, m, args, below, meth, c⟩, D, tA, A, L⟩ := X
  obtain ⟨hx, hb, hml, hown, hts, hr, ⟨hK, hNw⟩, hA, hlk, hnm, hR, hl0, hL0⟩ := o
  subst hL0 hR hl0
  intro H locs ls h1 h2 h3
  have ok := fun w h => hts w (hw w h)
  have hG : GoodIn jw_tbl (Cond.code y2 cc2 nL2 none :: jw_tbl) := jgood (fun w h => by
    rcases List.mem_cons.mp h with h | h
    · rw [h]; exact hw _ (by simp)
    · exact h)
  exact j_run (av := (Value.ref (P.1 g) :: as).toArray) hA h1 h2 h3 (va_runI (As := as) (rest := st) ⟨hx, hb, hml, hown, hts⟩ (hM D tA H.size) ⟨callB_of as.length hts hG rfl rfl rfl (ok _ (by simp)) (ok _ (by simp)) hn hrm.1, hini, ok _ (by simp)⟩ ⟨jblindZ, fun U hU hW => ⟨rfl, by rw [hU], by rw [hU]; exact h1.any, jK.warm hW ⟨hK, hNw⟩, jZ.moved hW.alike z⟩⟩ rfl rfl h3.1 hst (lv_room hcat) hd hrm.2) kk
theorem j_callIN (o : jok X l0 y cc nL ret rm L0) {g : Nat} {y2 : MethodName} {cc2 : ByteArray} {nL2 : Nat} {rm2 : Room} {as : List Value} {QV : Option Value → jP → jM → jN → Prop} (hM : jC l0 y2 cc2 nL2 none rm2 L0 (.ref (P.1 g) :: as) P M N QV) (hd : decode cc pc = .ok (.invokespecial ix, 3)) (hini : y2.name = "<init>") (hw : ∀ w ∈ ([.instanceMethod y2, .initialized y2.cls, .code y2 cc2 nL2 none] : List Cond), w ∈ jw_tbl) (hnest : (y.cls, ix, y2) ∈ jnest) (hn : jN2 y2 as) (hrm : jRm k n rm2 rm nL2) (hcat : (st.map fun v => v.category).sum ≤ 8) (hst : st0 = as.reverse ++ .ref (P.1 g) :: st)
    (kk : ∀ v P' M' N', QV v P' M' N' → J X P' M' N' (k + rm2.cells) (n + rm2.slots) E nL (pc + 3) lo (v.toList ++ st)) : J X P M N k n E nL pc lo st0 := by
  obtain ⟨⟨p, l, e, R, s, m, args, below, meth, c⟩, D, tA, A, L⟩ := X
  obtain ⟨hx, hb, hml, hown, hts, hr, ⟨hK, hNw⟩, hA, hlk, hnm, hR, hl0, hL0⟩ := o
  subst hL0 hR hl0
  intro H locs ls h1 h2 h3
  have ok := fun w h => hts w (hw w h)
  have hG : GoodIn jw_tbl (Cond.code y2 cc2 nL2 none :: jw_tbl) := jgood (fun w h => by
    rcases List.mem_cons.mp h with h | h
    · rw [h]; exact hw _ (by simp)
    · exact h)
  exact j_run (av := (Value.ref (P.1 g) :: as).toArray) hA h1 h2 h3 (va_runIN (As := as) (rest := st) ⟨hx, hb, hml, hown, hts⟩ (hM D tA H.size) ⟨va_cnB as.length hts hG rfl rfl rfl (hNw _ hnest) (ok _ (by simp)) hn hrm.1, hini, ok _ (by simp)⟩ ⟨jblind, fun U hU hW => ⟨rfl, by rw [hU], by rw [hU]; exact h1.any, jK.warm hW ⟨hK, hNw⟩⟩⟩ rfl rfl h3.1 hst (lv_room hcat) hd hrm.2) kk
end RAW
