/-- the words that a call can take with it -/
def jw_tbl : List Cond := lw_tbl.filter goodWord
theorem jw_good : ∀ w ∈ jw_tbl, goodWord w = true := fun _ h => (List.mem_filter.mp h).2
theorem jw_lw {w : Cond} (h : w ∈ jw_tbl) : w ∈ lw_tbl := (List.mem_filter.mp h).1
theorem jw_in {w : Cond} (i : Nat) (h : lw_tbl[i]? = some w) (g : goodWord w = true) : w ∈ jw_tbl := List.mem_filter.mpr ⟨List.mem_of_getElem? h, g⟩
/-! WORLDS AS TABLES. A key names a cell; M holds what is an int in it, by place; N what is a long; P: the addresses, which keys are there, the lengths. -/
abbrev jM : Type := Nat → Nat → Int32
abbrev jN : Type := Nat → Nat → Int64
abbrev jP : Type := (Nat → Nat) × (Nat → Bool) × (Nat → Nat)
/-- what a key's cell holds, by its own rows of the tables -/
abbrev jL : Type := (Nat → ClassId) → jP → Nat → (Nat → Int32) → (Nat → Int64) → Option va_E
def jrf (P : jP) (g : Nat) : Value := if g = 0 then .null else .ref (P.1 g)
def upM (M : jM) (k j : Nat) (v : Int32) : jM := fun a => if a = k then upd (M k) j v else M a
def upN (N : jN) (k j : Nat) (v : Int64) : jN := fun a => if a = k then vp_updL (N k) j v else N a
theorem upM_same (M : jM) (k j : Nat) (v : Int32) : upM M k j v k = upd (M k) j v := if_pos rfl
theorem upM_ne (M : jM) {k a : Nat} (j : Nat) (v : Int32) (h : a ≠ k) : upM M k j v a = M a := if_neg h
theorem upN_same (N : jN) (k j : Nat) (v : Int64) : upN N k j v k = vp_updL (N k) j v := if_pos rfl
theorem upN_ne (N : jN) {k a : Nat} (j : Nat) (v : Int64) (h : a ≠ k) : upN N k j v a = N a := if_neg h
abbrev jtys (tA : Nat → ClassId) : List (ClassId × FieldType) := [(tA 0, .int), (tA 1, .long), (tA 2, .boolean), (tA 3, .byte), (tA 4, .object "CoalForm$Law"), (tA 5, .object "CoalForm$Form"), (tA 6, .array .int)]
/-- the private methods that a nest mate calls -/
def jnest : List (String × Nat × MethodName) := [(RX4, 34, yX11_lowest), (RX1, 79, yX11_lowest), (RX0, 95, yX11_lowest), (RX6, 35, yX11_isAhead), (RX11, 29, yX10_init), (RX7, 29, yX2_init), (RX11, 88, yX8_init)]
def jNw (U : State) : Prop := ∀ q ∈ jnest, va_Nw (.methodLinkNest q.1 q.2.1 q.2.2 "CoalForm") U
def jK (D : va_G) (tA : Nat → ClassId) (U : State) : Prop := va_K D vwCl (jtys tA) U ∧ jNw U
theorem jK.warm {D : va_G} {tA : Nat → ClassId} {s U : State} (hW : s.WarmedH U.vm) (h : jK D tA s) : jK D tA U := ⟨va_K.moved hW.alike h.1, fun q hq => va_Nw.warmM hW (h.2 q hq)⟩
theorem jK.calls {D : va_G} {tA : Nat → ClassId} {U : State} {g : JFrame} {mk : MethodId} {a : Array Value} (h : jK D tA U) : jK D tA (U.calling g mk a) := ⟨va_K.moved (u := U) (U := U.calling g mk a) (Vm.Alike.refl U.vm) h.1, fun q hq => va_Nw.same (u := U) rfl rfl (h.2 q hq)⟩
/-- the heap holds the world, its cells apart, all in A -/
def jsy (L : jL) (D : va_G) (tA : Nat → ClassId) (P : jP) (A : Nat → Prop) (M : jM) (N : jN) (H : Heap) : Prop :=
  (∀ (k : Nat) (e : va_E), L tA P k (M k) (N k) = some e → va_at D vwCl (P.1 k, e) H ∧ A (P.1 k)) ∧
  (∀ (i j : Nat) (x y : va_E), L tA P i (M i) (N i) = some x → L tA P j (M j) (N j) = some y → P.1 i = P.1 j → i = j)
def jA (L : jL) (tA : Nat → ClassId) (P : jP) (M : jM) (N : jN) (sz : Nat) : Nat → Prop := fun q => (∃ (k : Nat) (e : va_E), L tA P k (M k) (N k) = some e ∧ q = P.1 k) ∨ sz ≤ q
theorem jsy.weaken {L : jL} {D : va_G} {tA : Nat → ClassId} {P : jP} {A B : Nat → Prop} {M : jM} {N : jN} {H : Heap} (h : jsy L D tA P A M N H) (hAB : ∀ q, q < H.size → A q → B q) : jsy L D tA P B M N H :=
  ⟨fun k e he => ⟨(h.1 k e he).1, hAB _ (h.1 k e he).1.lt (h.1 k e he).2⟩, h.2⟩
theorem jsy.any {L : jL} {D : va_G} {tA : Nat → ClassId} {P : jP} {A : Nat → Prop} {M : jM} {N : jN} {H : Heap} (h : jsy L D tA P A M N H) : jsy L D tA P (fun _ => True) M N H := h.weaken (fun _ _ _ => trivial)
theorem jsy.self {L : jL} {D : va_G} {tA : Nat → ClassId} {P : jP} {A : Nat → Prop} {M : jM} {N : jN} {H : Heap} {sz : Nat} (h : jsy L D tA P A M N H) : jsy L D tA P (jA L tA P M N sz) M N H :=
  ⟨fun k e he => ⟨(h.1 k e he).1, Or.inl ⟨k, e, he, rfl⟩⟩, h.2⟩
theorem jsy.free {L : jL} {D : va_G} {tA : Nat → ClassId} {P : jP} {A : Nat → Prop} {M : jM} {N : jN} {H : Heap} {sz : Nat} (h : jsy L D tA P A M N H) (hA : ∀ q, sz ≤ q → A q) (hs : sz ≤ H.size) : ∀ q, jA L tA P M N H.size q → A q := by
  intro q hq
  rcases hq with ⟨k, e, he, rfl⟩ | hq
  · exact (h.1 k e he).2
  · exact hA q (Nat.le_trans hs hq)
theorem jsy.kept {L : jL} {D : va_G} {tA : Nat → ClassId} {P : jP} {A : Nat → Prop} {M : jM} {N : jN} {H H1 : Heap} (h : jsy L D tA P A M N H) (hq : ∀ q, A q → q < H.size → H1[q]? = H[q]?) : jsy L D tA P A M N H1 :=
  ⟨fun k e he => ⟨(h.1 k e he).1.kept (hq _ (h.1 k e he).2 (h.1 k e he).1.lt), (h.1 k e he).2⟩, h.2⟩
/-- one cell is written: its key's rows of the tables change, no other -/
theorem jsy.set {L : jL} {D : va_G} {tA : Nat → ClassId} {P : jP} {A : Nat → Prop} {M M1 : jM} {N N1 : jN} {H H1 : Heap} (h : jsy L D tA P A M N H) (k : Nat) {e e1 : va_E} (he : L tA P k (M k) (N k) = some e) (he1 : L tA P k (M1 k) (N1 k) = some e1) (hM : ∀ j, j ≠ k → M1 j = M j) (hN : ∀ j, j ≠ k → N1 j = N j) (hat : va_at D vwCl (P.1 k, e1) H1) (oq : ∀ q, q ≠ P.1 k → H1[q]? = H[q]?) : jsy L D tA P A M1 N1 H1 := by
  have back : ∀ (j : Nat) (x : va_E), L tA P j (M1 j) (N1 j) = some x → ∃ y, L tA P j (M j) (N j) = some y := by
    intro j x hx
    by_cases hj : j = k
    · subst hj; exact ⟨e, he⟩
    · rw [hM j hj, hN j hj] at hx; exact ⟨x, hx⟩
  refine ⟨fun j x hx => ?_, fun i j x y hx hy hij => ?_⟩
  · by_cases hj : j = k
    · subst hj
      rw [he1] at hx
      cases hx
      exact ⟨hat, (h.1 _ _ he).2⟩
    · rw [hM j hj, hN j hj] at hx
      obtain ⟨h1, h2⟩ := h.1 j x hx
      refine ⟨h1.kept (oq _ (fun z => hj (h.2 j k x e hx he z))), h2⟩
  · obtain ⟨x', hx'⟩ := back i x hx
    obtain ⟨y', hy'⟩ := back j y hy
    exact h.2 i j x' y' hx' hy' hij
/-- a method's context: the machine, the length of its locals, the classes' numbers, the arrays' classes, its own cells, the layout -/
abbrev jX : Type := (Program × Launch × Env × Room × State × MethodId × Array Value × List Frame × Method × Code) × va_G × (Nat → ClassId) × (Nat → Prop) × jL
def J (X : jX) (P : jP) (M : jM) (N : jN) (k n : Nat) (E : State → Prop) (nL pc : Nat) (lo : List (Nat × Value)) (st : List Value) : Prop := match X with
  | ((p, l, e, R, s, m, args, below, meth, c), D, tA, A, L) => ∀ (H : Heap) (locs : List Loc) (ls : Array Slot), jsy L D tA P A M N H → va_S A s.heap H locs → lv_has ls nL lo → W p l e R s m args below meth c H locs k n E (F0 m pc ls st)
def jok (X : jX) (l0 : Launch) (y : MethodName) (cc : ByteArray) (nL : Nat) (ret : Option FieldType) (rm : Room) (L0 : jL) : Prop := match X with
  | ((p, l, _, R, s, m, args, _, meth, c), D, tA, A, L) => p.tables.exec = Jvm.exec ∧ c.code = cc ∧ c.maxLocals = nL ∧ s.vm.findClass y.cls = some m.cls ∧ (∀ w ∈ jw_tbl, w.before args s = true) ∧ meth.sig.returnType = ret ∧ jK D tA s ∧ (∀ q, s.heap.size ≤ q → A q) ∧ meth.locks = false ∧ meth.name = y.name ∧ R = rm ∧ l = l0 ∧ L = L0
def jlk (lo : List (Nat × Value)) (i : Nat) : Option Value := (lo.find? (fun q => q.1 == i)).map (fun q => q.2)
theorem jlk_at {ls : Array Slot} {nL : Nat} {lo : List (Nat × Value)} (h : lv_has ls nL lo) {i : Nat} {v : Value} (hk : jlk lo i = some v) : ls[i]? = some (.val v) := by
  unfold jlk at hk
  obtain ⟨q, h1, h2⟩ := Option.map_eq_some_iff.mp hk
  have h3 := List.find?_some h1
  have h4 := List.mem_of_find?_eq_some h1
  have h5 := h.2.2 q h4
  rw [beq_iff_eq.mp h3] at h5
  rw [← h2]
  exact h5
abbrev jst1 (lo : List (Nat × Value)) (i : Nat) (v : Value) : List (Nat × Value) := (i, v) :: lo.filter (fun q => !(q.1 == i) && !(q.1 + 1 == i && q.2.category == 2))
abbrev jst2 (lo : List (Nat × Value)) (i : Nat) (v : Value) : List (Nat × Value) := (i, v) :: lo.filter (fun q => !(q.1 == i) && (!(q.1 == i + 1) && !(q.1 + 1 == i && q.2.category == 2)))
theorem jlk_mem {lo : List (Nat × Value)} {i : Nat} {v : Value} (h : jlk lo i = some v) : (i, v) ∈ lo := by
  unfold jlk at h
  obtain ⟨q, h1, h2⟩ := Option.map_eq_some_iff.mp h
  have h3 := List.find?_some h1
  have h4 := List.mem_of_find?_eq_some h1
  rw [← beq_iff_eq.mp h3, ← h2]
  exact h4
section JR
variable {X : jX} {P : jP} {M : jM} {N : jN} {k n : Nat} {E : State → Prop} {lo : List (Nat × Value)} {st : List Value} {l0 : Launch} {y : MethodName} {cc : ByteArray} {nL : Nat} {ret : Option FieldType} {rm : Room} {L0 : jL} {pc : Nat}
/-- fewer locals are enough -/
theorem j_sub (lo' : List (Nat × Value)) (h : lo'.all (fun q => true) = true) (hm : ∀ q ∈ lo', q ∈ lo) (kk : J X P M N k n E nL pc lo' st) : J X P M N k n E nL pc lo st := by
  obtain ⟨⟨p, l, e, R, s, m, args, below, meth, c⟩, D, tA, A, L⟩ := X
  intro H locs ls h1 h2 h3
  exact kk H locs ls h1 h2 ⟨h3.1, h3.2.1, fun q hq => h3.2.2 q (hm q hq)⟩
end JR
