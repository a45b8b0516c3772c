/-! four rows of ints in one making -/
def mOu (c : ClassId) (h0 i : Nat) : Cell := arrV c 4 (fun j => if j < i then .ref (h0 + 1 + j) else .null)
def mIn (c : ClassId) (len : Nat) : Cell := arrV c len (fun _ => .int 0)
def m4 (S : State) (c comp : ClassId) (len : Nat) : Nat → State
  | 0 => S.pushCell (mOu c S.heap.size 0)
  | i + 1 => ((m4 S c comp len i).pushCell (mIn comp len)).setCell S.heap.size (mOu c S.heap.size (i + 1))
theorem mOu_set (c : ClassId) (h0 i : Nat) : (mOu c h0 i).setSlot i (.ref (h0 + 1 + i)) = mOu c h0 (i + 1) := by
  unfold mOu
  rw [arrV_store]
  congr 1
  funext j
  unfold updV
  by_cases h : j = i
  · rw [if_pos h, if_pos (by omega), h]
  · rw [if_neg h]
    show (if j < i then Value.ref (h0 + 1 + j) else Value.null) = _
    by_cases h2 : j < i
    · rw [if_pos h2, if_pos (by omega)]
    · rw [if_neg h2, if_neg (by omega)]
theorem m4_ok (S : State) (c comp : ClassId) (len : Nat) : ∀ i, (m4 S c comp len i).heap.size = S.heap.size + 1 + i ∧ (m4 S c comp len i).heap[S.heap.size]? = some (mOu c S.heap.size i) ∧ (m4 S c comp len i).vm = S.vm ∧ (m4 S c comp len i).slotsUsed = S.slotsUsed + 4 + i * len ∧ (∀ a, a < S.heap.size → (m4 S c comp len i).heap[a]? = S.heap[a]?) ∧ ∀ j, j < i → (m4 S c comp len i).heap[S.heap.size + 1 + j]? = some (mIn comp len)
  | 0 => ⟨by simp [m4], by simp [m4], rfl, by simp [m4, mOu, arrV], fun a ha => State.heap_pushCell_of_lt _ _ ha, fun j h => absurd h (Nat.not_lt_zero j)⟩
  | i + 1 => by
    obtain ⟨h1, h2, h3, h4, h5, h6⟩ := m4_ok S c comp len i
    have hlt : S.heap.size < (m4 S c comp len i).heap.size := by omega
    have hb : ((m4 S c comp len i).pushCell (mIn comp len)).heap[S.heap.size]? = some (mOu c S.heap.size i) := by rw [State.heap_pushCell_of_lt (h := hlt)]; exact h2
    refine ⟨?_, State.heap_setCell_self hb, by simp [m4, h3], ?_, fun a ha => ?_, fun j hj => ?_⟩
    · simp [m4, State.setCell, h1]; omega
    · simp [m4, h4, mIn, arrV, Nat.succ_mul]; omega
    · have ha2 : a < (m4 S c comp len i).heap.size := by omega
      show (((m4 S c comp len i).pushCell (mIn comp len)).setCell S.heap.size _).heap[a]? = _
      rw [State.heap_setCell_other (show S.heap.size ≠ a by omega), State.heap_pushCell_of_lt (h := ha2)]
      exact h5 a ha
    · show (((m4 S c comp len i).pushCell (mIn comp len)).setCell S.heap.size _).heap[S.heap.size + 1 + j]? = _
      rw [State.heap_setCell_other (show S.heap.size ≠ S.heap.size + 1 + j by omega)]
      by_cases z : j < i
      · have hj2 : S.heap.size + 1 + j < (m4 S c comp len i).heap.size := by omega
        rw [State.heap_pushCell_of_lt (h := hj2)]
        exact h6 j z
      · have e : S.heap.size + 1 + j = (m4 S c comp len i).heap.size := by omega
        rw [e]
        exact State.heap_pushCell_size _ _
theorem m4_top (S : State) (f : JFrame) (c comp : ClassId) (len : Nat) : ∀ i, m4 (S.setTop f) c comp len i = (m4 S c comp len i).setTop f
  | 0 => rfl
  | i + 1 => by simp only [m4, m4_top S f c comp len i, State.heap_setTop, State.pushCell_setTop, State.setCell_setTop]
theorem m4_stand {p : Program} {l : Launch} {e : Env} {R : Room} {s : State} {m : MethodId} {args : Array Value} {below : List Frame} {meth : Method} {c : Code} {T : State} {locs : List Loc} {cells slots : Nat} (X : Stand p l e R s m args below meth c T locs cells slots) (cA comp : ClassId) (len : Nat) : ∀ i, ∃ L : List Loc, (∀ q ∈ L, q.base = T.heap.size) ∧ Stand p l e R s m args below meth c (m4 T cA comp len i) (locs ++ L) (cells + 1 + i) (slots + 4 + i * len)
  | 0 => by
    have h := X.pushed (mOu cA T.heap.size 0)
    have e4 : (mOu cA T.heap.size 0).slots.size = 4 := arrV_size _ _ _
    rw [e4] at h
    exact ⟨[], fun q h => absurd h List.not_mem_nil, by simpa [m4] using h⟩
  | i + 1 => by
    obtain ⟨L, hL, Xi⟩ := m4_stand X cA comp len i
    obtain ⟨h1, h2, -⟩ := m4_ok T cA comp len i
    have hlt : T.heap.size < (m4 T cA comp len i).heap.size := by omega
    have hb : ((m4 T cA comp len i).pushCell (mIn comp len)).heap[T.heap.size]? = some (mOu cA T.heap.size i) := by rw [State.heap_pushCell_of_lt (h := hlt)]; exact h2
    have h := (Xi.pushed (mIn comp len)).stored hb i (.ref (T.heap.size + 1 + i))
    have e1 : (mIn comp len).slots.size = len := arrV_size _ _ _
    rw [e1, mOu_set] at h
    refine ⟨L ++ [⟨T.heap.size, i⟩], fun q hq => ?_, ?_⟩
    · rcases List.mem_append.mp hq with hq | hq
      · exact hL q hq
      · rw [List.mem_singleton.mp hq]
    · rw [← List.append_assoc, show slots + 4 + (i + 1) * len = slots + 4 + i * len + len by rw [Nat.succ_mul]; omega]
      exact h
section MK
variable {E : CtlPost} {e : Env} {d : Bool} {acts : List Action} {s : State}
theorem wpm_new {c comp : ClassId} {k : Class} {type : FieldType} {len : Nat} {init : Value} (hk : s.vm.classes[c]? = some k) (hkind : k.kind = .array comp type) (hlim : len ≤ 1000000) (hb : componentBytes type ≤ 8) (hp : e.platform.arrayLengthLimit = 2147483645 ∧ e.platform.maxHeapBytes = 536870912) (hfit : fits type init = true) (hdef : init.isDefault = true) {Q : Addr → Pre} (h1 : s.heap.size < e.platform.maxCells) (h2 : s.slotsUsed + len ≤ e.platform.maxSlots) (hq : ∀ acts', Q s.heap.size d acts' (s.pushCell (arrV c len (fun _ => init)))) : wp (Jvm.newArray c len init) Q E e d acts s := by
  have hfits : ∀ i v, (Array.replicate len init)[i]? = some v → s.fitsSlot c .none i v = true := by
    intro i v hv
    rw [Array.getElem?_replicate] at hv
    by_cases z : i < len
    · rw [if_pos z] at hv
      cases hv
      simp [State.fitsSlot, State.slotType?, hk, hkind, hfit]
    · rw [if_neg z] at hv
      cases hv
  have hl1 : ¬ len > e.platform.arrayLengthLimit := by rw [hp.1]; omega
  have hl2 : ¬ len * componentBytes type > e.platform.maxHeapBytes := by
    have := Nat.mul_le_mul hlim hb
    rw [hp.2]; omega
  simp only [Jvm.newArray, Jvm.arrayFits, wp_bind', Jvm.W.ask, Jvm.W.ite, hl1, if_false, wp_pure', Jvm.W.theClass, hk, hkind, hl2, Jvm.W.alloc, Jvm.W.stop, Option.some.injEq, exists_eq_left', Array.size_replicate]
  rw [if_neg (by omega), arrV_new]
  exact ⟨h1, h2, hfits, hq _⟩
theorem wpm_row {comp cc : ClassId} {kc : Class} {x : Int32} {len : Nat} (hx : x = nI len) (hlen : len ≤ 1000) (hkc : s.vm.classes[comp]? = some kc) (hkind : kc.kind = .array cc .int) (hp : e.platform.arrayLengthLimit = 2147483645 ∧ e.platform.maxHeapBytes = 536870912) {Q : Addr → Pre} (h1 : s.heap.size < e.platform.maxCells) (h2 : s.slotsUsed + len ≤ e.platform.maxSlots) (hq : ∀ acts', Q s.heap.size d acts' (s.pushCell (mIn comp len))) : wp (Op.multianewarray.make comp [x]) Q E e d acts s := by
  subst hx
  have hn : ¬ nI len < 0 := nI_pos (by omega)
  have ec : (nI len).toNatClampNeg = len := nI_clamp (by omega)
  rw [Op.multianewarray.make]
  simp only [wp_bind', Jvm.W.ite, hn, if_false, wp_pure', Jvm.W.theClass, hkc, hkind, Option.some.injEq, exists_eq_left']
  rw [ec]
  exact wpm_new hkc hkind (by omega) (Nat.le_of_ble_eq_true rfl) hp rfl rfl h1 h2 hq
theorem wpm_four {c comp cc : ClassId} {k kc : Class} {x : Int32} {len : Nat} (hx : x = nI len) (hlen : len ≤ 1000) (hk : s.vm.classes[c]? = some k) (hkA : k.kind = .array comp (.array .int)) (hkc : s.vm.classes[comp]? = some kc) (hkC : kc.kind = .array cc .int) (hp : e.platform.arrayLengthLimit = 2147483645 ∧ e.platform.maxHeapBytes = 536870912) {Q : Addr → Pre} (h1 : s.heap.size + 5 ≤ e.platform.maxCells) (h2 : s.slotsUsed + 4 + 4 * len ≤ e.platform.maxSlots) (hq : ∀ d' acts', Q s.heap.size d' acts' (m4 s c comp len 4)) : wp (Op.multianewarray.make c [4, x]) Q E e d acts s := by
  have hn : ¬ (4 : Int32) < 0 := by decide
  have e4 : (4 : Int32).toNatClampNeg = 4 := by decide
  have hfind : ([x].find? (· < 0)) = none := by
    subst hx
    simp [nI_pos (show len < 2 ^ 31 by omega)]
  rw [Op.multianewarray.make]
  simp only [wp_bind', Jvm.W.ite, hn, if_false, wp_pure', Jvm.W.theClass, hk, hkA, Option.some.injEq, exists_eq_left']
  rw [e4]
  refine wpm_new hk hkA (Nat.le_of_ble_eq_true rfl) (Nat.le_of_ble_eq_true rfl) hp rfl rfl (by omega) (by omega) (fun acts1 => ?_)
  simp only [hfind]
  rw [ite_self, wp_bind', Std.Legacy.Range.forIn_eq_forIn_range']
  have hsz : ([:4] : Std.Legacy.Range).size = 4 := by simp [Std.Legacy.Range.size]
  rw [hsz]
  show wp (forIn (List.range' 0 4 1) PUnit.unit _) _ E e d acts1 _
  refine wp_forIn_inv (fun rest s' => ∃ i, i ≤ 4 ∧ rest = List.range' i (4 - i) ∧ s' = m4 s c comp len i) _ _ ⟨0, by omega, rfl, by simp only [m4, mOu]; rfl⟩ ?_ ?_
  · rintro y rest s' d' acts' Q' ⟨i, hi, hl, rfl⟩ hnext
    have hlt : i < 4 := by
      rcases Nat.lt_or_ge i 4 with h | h
      · exact h
      · rw [show 4 - i = 0 by omega] at hl
        cases hl
    obtain ⟨rfl, hrest⟩ : y = i ∧ rest = List.range' (i + 1) (4 - (i + 1)) := by
      rw [show 4 - i = (4 - (i + 1)) + 1 by omega, List.range'_succ] at hl
      exact ⟨(List.cons.inj hl).1, (List.cons.inj hl).2⟩
    obtain ⟨f1, f2, f3, f4, -, -⟩ := m4_ok s c comp len y
    have hm : y * len + len ≤ 4 * len := by
      have := Nat.mul_le_mul_right len (show y + 1 ≤ 4 by omega)
      rw [Nat.succ_mul] at this; exact this
    simp only [wp_bind']
    refine wpm_row hx hlen (by rw [f3]; exact hkc) hkC hp (by rw [f1]; omega) (by rw [f4]; omega) (fun acts2 => ?_)
    have hlt0 : s.heap.size < (m4 s c comp len y).heap.size := by rw [f1]; omega
    simp only [wp_bind', Jvm.W.writeLoc, wp_pure']
    refine ⟨mOu c s.heap.size y, by rw [State.heap_pushCell_of_lt (h := hlt0)]; exact f2, (fun z => nomatch (show VmData.none = VmData.unknown from z)), by rw [show (mOu c s.heap.size y).slots.size = 4 from arrV_size _ _ _]; exact hlt, ?_, hnext _ _ _ ⟨y + 1, hlt, hrest, ?_⟩⟩
    · simp [State.fitsSlot, State.slotType?, f3, hk, hkA, mOu, arrV]
      rfl
    · rw [f1, mOu_set]
      rfl
  · rintro s' d' acts' ⟨i, hi, hl, rfl⟩
    have hi4 : i = 4 := by
      rcases Nat.lt_or_ge i 4 with h | h
      · rw [show 4 - i = (4 - (i + 1)) + 1 by omega, List.range'_succ] at hl; cases hl
      · omega
    subst hi4
    simp only [wp_pure']
    exact hq _ _
end MK
theorem over_int {args : Array Value} {s : State} (h : (Cond.arrayOver (.array .int)).before args s = true) : jO s := by
  simp only [Cond.before, Cond.holds, Cond.value, beq_iff_eq] at h
  cases hc : s.vm.findClass (FieldType.array .int).toString with
  | none => simp [hc] at h
  | some comp =>
    simp only [hc, Option.bind_some, Option.bind_eq_some_iff, Option.map_eq_some_iff] at h
    obtain ⟨c, hi, k, hk, hb⟩ := h
    obtain ⟨hlt, hp, -⟩ := Array.findIdx?_eq_some_iff_getElem.mp hi
    have hkk : s.vm.classes[c] = k := (Array.getElem?_eq_some_iff.mp hk).2
    rw [hkk] at hp
    cases hkind : k.kind with
    | array component ty =>
      rw [hkind] at hb hp
      simp at hb hp
      exact ⟨comp, c, k, hc, hk, by rw [hkind, hp, hb.1], hb.2⟩
    | _ => rw [hkind] at hb; simp at hb
theorem jsy.newS {L : jL} {D : va_G} {tA : Nat → ClassId} {P P' : jP} {A : Nat → Prop} {M M' : jM} {N N' : jN} {H H1 : Heap} (h : jsy L D tA P A M N H) (S : Nat → Prop) (hold : ∀ k e, ¬ S k → L tA P' k (M' k) (N' k) = some e → L tA P k (M k) (N k) = some e ∧ P'.1 k = P.1 k) (hnew : ∀ k e, S k → L tA P' k (M' k) (N' k) = some e → va_at D vwCl (P'.1 k, e) H1 ∧ A (P'.1 k)) (hge : ∀ k, S k → H.size ≤ P'.1 k) (hinj : ∀ i j, S i → S j → P'.1 i = P'.1 j → i = j) (o1 : ∀ q, q < H.size → H1[q]? = H[q]?) : jsy L D tA P' A M' N' H1 := by
  refine ⟨fun k e he => ?_, fun i j x y hx hy hij => ?_⟩
  · rcases Classical.em (S k) with hk | hk
    · exact hnew k e hk he
    · obtain ⟨h1, h2⟩ := hold k e hk he
      rw [h2]
      exact ⟨(h.1 k e h1).1.kept (o1 _ (h.1 k e h1).1.lt), (h.1 k e h1).2⟩
  · rcases Classical.em (S i) with hi | hi
    · rcases Classical.em (S j) with hj | hj
      · exact hinj i j hi hj hij
      · obtain ⟨h1, h2⟩ := hold j y hj hy
        have := (h.1 j y h1).1.lt
        have g := hge i hi
        rw [hij, h2] at g
        dsimp only at this
        omega
    · obtain ⟨h1, h2⟩ := hold i x hi hx
      rcases Classical.em (S j) with hj | hj
      · have := (h.1 i x h1).1.lt
        have g := hge j hj
        rw [← hij, h2] at g
        dsimp only at this
        omega
      · obtain ⟨h3, h4⟩ := hold j y hj hy
        rw [h2, h4] at hij
        exact h.2 i j x y h1 h3 hij
def mulK (k : Nat) : Prop := 30 ≤ k ∧ k ≤ 34
def pmul (P : jP) (a : Nat) : jP := (fun k => if Nat.ble 30 k && Nat.ble k 34 then a + (k - 30) else P.1 k, fun k => if Nat.ble 30 k && Nat.ble k 34 then true else P.2.1 k, P.2.2)
def zM5 (M : jM) : jM := fun k => if Nat.ble 30 k && Nat.ble k 34 then (fun _ => 0) else M k
def zN5 (N : jN) : jN := fun k => if Nat.ble 30 k && Nat.ble k 34 then (fun _ => 0) else N k
theorem mulK_b {k : Nat} : (Nat.ble 30 k && Nat.ble k 34) = true ↔ mulK k := by
  unfold mulK
  rw [Bool.and_eq_true, Nat.ble_eq, Nat.ble_eq]
theorem r_multi {X : jX} {P : jP} {M : jM} {N : jN} {k n : Nat} {E : State → Prop} {lo : List (Nat × Value)} {st : List Value} {l0 : Launch} {y : MethodName} {cc : ByteArray} {nL : Nat} {ret : Option FieldType} {rm : Room} {pc ix : Nat} (o : jok X l0 y cc nL ret rm (LR kob LC)) {nn : Nat} {x : Int32} (hx0 : x = nI nn) (hnn : nn ≤ 9) (hs : P.2.2 0 = nn) (z : jzs X) (hw : ∀ w ∈ ([.classLink y.cls ix "[[I", .arrayClass .int] : List Cond), w ∈ jw_tbl)
    (hold : ∀ a tA q e, ¬ mulK q → LR kob LC tA (pmul P a) q (zM5 M q) (zN5 N q) = some e → LR kob LC tA P q (M q) (N q) = some e) (hk : k + 5 ≤ rm.cells ∧ n + 40 ≤ rm.slots) (hd : decode cc pc = .ok (.multianewarray ix 2, 4))
    (kk : ∀ a, J X (pmul P a) (zM5 M) (zN5 N) (k + 5) (n + 40) E nL (pc + 4) lo (.ref a :: st)) : J X P M N k n E nL pc lo (.int x :: .int 4 :: st) := by
  obtain ⟨⟨p, l, e, R, s, m, args, below, meth, c⟩, D, tA, A, L⟩ := X
  obtain ⟨hx, hb, hml, hown, hts, hr, ⟨hK, hNw⟩, hA, hlk, hnm, hR, hl0, hL0⟩ := o
  subst hL0 hR
  intro H locs ls h1 h2 h3
  have ok := fun w h => hts w (hw w h)
  have z : jZ s := z
  intro T hT X
  have hpl : e.platform.magicAccessors = ({} : Platform).magicAccessors := by rw [X.admits.platform]
  have hp : e.platform.arrayLengthLimit = 2147483645 ∧ e.platform.maxHeapBytes = 536870912 := ⟨Launch.admits_arrayLengthLimit X.admits, Launch.admits_maxHeapBytes X.admits⟩
  obtain ⟨comp, cA, kA, hcomp, hkA, hkindA, hnameA⟩ := z.2.2
  obtain ⟨comp', kC, ccl, hcomp', hkC, hkindC⟩ := Cond.arrayClass_spec (ok (.arrayClass .int) (by simp))
  have ecomp : comp' = comp := Option.some.inj (hcomp'.symm.trans hcomp)
  subst ecomp
  obtain ⟨c0, hfc0, hcl⟩ := Cond.classLink_spec hown (ok (.classLink y.cls ix "[[I") (by simp)) e.platform hpl
  have ec0 : c0 = cA := Option.some.inj (hfc0.symm.trans hnameA)
  subst ec0
  have e6 : c0 = tA 6 := Option.some.inj (hnameA.symm.trans (hK.2 6 _ rfl).2)
  have e0 : comp' = tA 0 := Option.some.inj (hcomp.symm.trans (hK.2 0 _ rfl).2)
  obtain ⟨hg1, hwm, hrd⟩ := State.classEntry (e := e) X.warmed hcl
  generalize T.vm.noted m.cls ix (.cls c0) = vm1 at hg1 hwm hrd
  have hal : s.vm.Alike vm1 := hwm.alike
  obtain ⟨kA1, hkA1, heA⟩ := hal.2.2 _ _ hkA
  obtain ⟨kC1, hkC1, heC⟩ := hal.2.2 _ _ hkC
  have X1 := X.noted hwm
  obtain ⟨hr1, hr2⟩ := X.roomAbove hk.1 hk.2
  obtain ⟨LL, hLL, XF⟩ := m4_stand X1 c0 comp' nn 4
  obtain ⟨f1, f2, f3, f4, f5, f6⟩ := m4_ok (T.setVm vm1) c0 comp' nn 4
  have hsz : (T.setVm vm1).heap.size = H.size := by rw [← hT]; rfl
  have hTe : (T.setVm vm1).heap = H := hT
  rw [hTe] at f1 f2 f5 f6
  have hAll : ∀ q, H.size ≤ q → A q := fun q hq => hA q (Nat.le_trans h2.1 hq)
  have hin : ∀ q, mulK q → (Nat.ble 30 q && Nat.ble q 34) = true := fun q hq => mulK_b.mpr hq
  have ep : ∀ q, mulK q → (pmul P H.size).1 q = H.size + (q - 30) := fun q hq => if_pos (hin q hq)
  have epn : ∀ q, ¬ mulK q → (pmul P H.size).1 q = P.1 q := fun q hq => if_neg (fun z => hq (mulK_b.mp z))
  have epp : ∀ q, mulK q → (pmul P H.size).2.1 q = true := fun q hq => if_pos (hin q hq)
  have ez : ∀ q, mulK q → zM5 M q = fun _ => 0 := fun q hq => if_pos (hin q hq)
  have en : ∀ q, mulK q → zN5 N q = fun _ => 0 := fun q hq => if_pos (hin q hq)
  have hnew : ∀ (q : Nat) (x : va_E), mulK q → LR kob LC tA (pmul P H.size) q (zM5 M q) (zN5 N q) = some x → va_at D vwCl ((pmul P H.size).1 q, x) (m4 (T.setVm vm1) c0 comp' nn 4).heap ∧ A ((pmul P H.size).1 q) := by
    intro q x hq hx'
    rw [ez q hq, en q hq] at hx'
    have hq' := hq
    unfold mulK at hq'
    refine ⟨?_, by rw [ep q hq]; exact hAll _ (by omega)⟩
    rw [ep q hq]
    by_cases z30 : q = 30
    · subst z30
      rw [LR_ar (epp 30 hq) rfl] at hx'
      have hx2 : x = .inl (tA 6, 4, .inr (.inr (.inr (.inr (fun j => if j < 4 then jro (pmul P H.size) (31 + j) else none))))) := (Option.some.inj hx').symm
      subst hx2
      show (m4 (T.setVm vm1) c0 comp' nn 4).heap[H.size + 0]? = some (vp_cell _ _)
      rw [Nat.add_zero, f2, vp_cell_q, ← e6]
      rfl
    · have hkb : kob q = none := by
        have : q = 31 ∨ q = 32 ∨ q = 33 ∨ q = 34 := by omega
        rcases this with rfl | rfl | rfl | rfl <;> rfl
      rw [LR_ar (epp q hq) hkb] at hx'
      have hcia : cIA (pmul P H.size) q = some nn := by
        unfold cIA
        rw [if_pos (by omega), if_pos (by rw [Bool.and_eq_true, Nat.ble_eq, Nat.ble_eq]; omega)]
        exact congrArg some hs
      rw [LC_ia hcia] at hx'
      have hx2 : x = .inl (tA 0, nn, .inl (fun _ => 0)) := (Option.some.inj hx').symm
      subst hx2
      show (m4 (T.setVm vm1) c0 comp' nn 4).heap[H.size + (q - 30)]? = some (vp_cell _ _)
      rw [show H.size + (q - 30) = H.size + 1 + (q - 31) by omega, f6 (q - 31) (by omega), ← e0]
      rfl
  have hJ := h1.newS (P' := pmul P H.size) (M' := zM5 M) (N' := zN5 N) (H1 := (m4 (T.setVm vm1) c0 comp' nn 4).heap) mulK (fun q x hq hx' => ⟨hold _ _ q x hq hx', epn q hq⟩) hnew (fun q hq => by rw [ep q hq]; omega) (fun i j hi hj hij => by
    rw [ep i hi, ep j hj] at hij
    unfold mulK at hi hj
    omega) f5
  have hS : va_S A s.heap (m4 (T.setVm vm1) c0 comp' nn 4).heap (locs ++ LL) := ⟨by rw [f1]; have := h2.1; omega, fun q q1 q2 => by rw [f5 q (Nat.lt_of_lt_of_le q1 h2.1)]; exact h2.2.1 q q1 q2, fun q hq => by
    rcases List.mem_append.mp hq with hq | hq
    · exact h2.2.2 q hq
    · rw [hLL q hq, hTe]; exact hAll _ (Nat.le_refl _)⟩
  have hkk := W.widen (cells := k + 1 + 4) (slots := n + 4 + 4 * nn) (k := k + 5) (n := n + 40) (by omega) (by omega) (kk H.size _ (locs ++ LL) ls hJ hS h3)
  obtain ⟨t, a1, b1⟩ := hkk _ rfl XF
  refine ⟨t, ?_, b1⟩
  have hgs : (F0 m pc ls (.int x :: .int 4 :: st)).stack = .int x :: .int 4 :: st := rfl
  jvm_step X.here [hx, hb, hd]
  simp only [Op.multianewarray.sem, wp_bind', Jvm.W.resolveClassAt_links (State.method?_setTop (F0 m pc ls (.int x :: .int 4 :: st)) X.here.top) hg1]
  rw [Jvm.W.popN, if_neg (by decide)]
  refine ⟨F0 m pc ls (.int x :: .int 4 :: st), State.topJava?_setTop' (s := T.setVm vm1) _ X.here.top, [.int 4, .int x], st, rfl, rfl, ?_⟩
  simp only [List.mapM_cons, List.mapM_nil, wp_bind', wp_pure']
  refine wpm_four hx0 (by omega) hkA1 (by rw [heA]; exact hkindA) hkC1 (by rw [heC]; exact hkindC) hp (by show T.heap.size + 5 ≤ _; omega) (by show T.slotsUsed + 4 + 4 * nn ≤ _; omega) (fun d' acts' => ?_)
  have eS : ((T.setTop (F0 m pc ls (.int x :: .int 4 :: st))).setVm vm1).setTop { F0 m pc ls (.int x :: .int 4 :: st) with stack := st } = (T.setVm vm1).setTop { F0 m pc ls (.int x :: .int 4 :: st) with stack := st } := by
    show ((T.setVm vm1).setTop _).setTop _ = _
    rw [State.setTop_setTop]
  rw [eS, m4_top]
  simp only [wp_bind', Jvm.W.mark, Jvm.W.pushRef, State.topJava?_setTop' _ XF.here.top, Option.some.injEq, exists_eq_left', State.setTop_setTop, State.heap_setTop]
  intro acts
  simp [jvm, XF.here.top]
  rw [hT]
  exact a1
def mfree (P : jP) (M : jM) : Prop := (∀ q, mulK q → P.2.1 q = false) ∧ ∀ a tA q f h, ¬ mulK q → P.2.1 q = true → f = M q → LR kob LC tA (pmul P a) q f h = LR kob LC tA P q f h
theorem mfree.hold {P : jP} {M : jM} {N : jN} (h : mfree P M) : ∀ a tA q e, ¬ mulK q → LR kob LC tA (pmul P a) q (zM5 M q) (zN5 N q) = some e → LR kob LC tA P q (M q) (N q) = some e := by
  intro a tA q e hq he
  have hb : ¬ (Nat.ble 30 q && Nat.ble q 34) = true := fun z => hq (mulK_b.mp z)
  have ez : zM5 M q = M q := if_neg hb
  have en : zN5 N q = N q := if_neg hb
  rw [ez, en] at he
  by_cases hp : P.2.1 q = true
  · rw [← h.2 a tA q (M q) (N q) hq hp rfl]; exact he
  · have hp2 : (pmul P a).2.1 q = false := by
      show (if _ then true else P.2.1 q) = false
      rw [if_neg hb]
      cases e : P.2.1 q with
      | true => exact absurd e hp
      | false => rfl
    rw [LR_no hp2] at he
    cases he
theorem mfree.ext {P : jP} {M : jM} {a : Nat} (h : mfree P M) : Pext P (pmul P a) := by
  refine ⟨fun q hq => ?_, rfl⟩
  have hb : ¬ (Nat.ble 30 q && Nat.ble q 34) = true := fun z => by
    rw [h.1 q (mulK_b.mp z)] at hq
    exact absurd hq (by decide)
  exact ⟨by show (if _ then true else P.2.1 q) = true; rw [if_neg hb]; exact hq, by show (if _ then _ else P.1 q) = _; rw [if_neg hb]⟩
/-- an index within the ints of a key, in the making -/
def jinK (P : jP) (k : Nat) (i : Int32) : Prop := ∃ nn : Nat, (∀ (tA : Nat → ClassId) (f : Nat → Int32) (h : Nat → Int64), LR kob LC tA P k f h = some (.inl (tA 0, nn, .inl f))) ∧ vp_in i nn
