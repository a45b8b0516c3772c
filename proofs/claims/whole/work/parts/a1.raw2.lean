/-! RAW LAYOUTS of the class and of the reference, rules over them -/
def kob (k : Nat) : Option (Nat × List Nat) := if Nat.ble 11 k then (if Nat.ble 64 k && Nat.blt k 112 && Nat.beq (k % 8) 0 then some (4, [0, k + 1, k + 2, k + 3, k + 4, 0, 0]) else if Nat.ble 128 k && Nat.blt k 156 && Nat.beq (k % 4) 0 then some (2, [0, k + 1, k + 2, k + 3]) else none) else match k with
  | 1 => some (11, [2, 3, 4, 5, 6, 7, 8, 9, 10, 11, 0, 12, 0, 13, 14])
  | 2 => some (3, [0, 0, 0, 0, 15, 16])
  | 3 => some (10, [17, 0, 0, 0])
  | 4 => some (7, [3, 0, 18, 0, 0, 19, 20, 21, 22, 1001, 0])
  | 5 => some (1, [2, 0, 23, 24, 25, 26, 0, 0])
  | 6 => some (9, [0, 27, 28, 0])
  | 7 => some (5, [0, 0, 29, 30])
  | 8 => some (0, [2, 6, 7, 35, 36, 37, 1001, 1001, 0, 0, 0])
  | 9 => some (6, [0, 38, 39, 40, 41, 42, 0])
  | 10 => some (8, [0, 43, 44])
  | _ => none
def mob (k : Nat) : Option (Nat × List Nat) := if k = 1 then some (12, [0, 0, 0, 2, 0, 0, 0, 0, 0, 3, 0, 0, 4, 5, 6, 7, 0, 8, 9, 10, 11, 12, 13, 14, 15, 0, 0, 0, 16, 17, 18, 0, 19, 20, 21, 22, 23, 1000, 24, 25, 26, 27, 28, 29, 0]) else none
def LK : jL := LR kob LC
def LMK : jL := LR mob LM
theorem rfv_i {P : jP} {M : jM} {h : Nat → Int64} {g j : Nat} {x : Int32} : rfv P (upM M g j x g) h j 0 = .int x := by
  show Value.int (upM M g j x g j) = _
  rw [up_at, if_pos rfl]
theorem rfv_r {P : jP} {M : jM} {h : Nat → Int64} {g j d : Nat} (hd : d ≠ 0 ∧ d ≠ 1000 ∧ d ≠ 1001) : rfv P (upM M g j 1 g) h j d = .ref (P.1 d) := by
  unfold rfv
  rw [if_neg hd.1, if_neg hd.2.1, if_neg hd.2.2, if_neg]
  rw [up_at, if_pos rfl]
  decide
theorem rfv_d {P : jP} {M : jM} {h : Nat → Int64} {g j q : Nat} (hq : q ≠ 0) (hq2 : q < 2 ^ 31) : rfv P (upM M g j (nI q) g) h j 1001 = .ref (P.1 q) := by
  show jrf P (upM M g j (nI q) g j).toNatClampNeg = _
  rw [up_at, if_pos rfl, nI_clamp hq2, jrf_n P hq]
section RW2
variable {X : jX} {P : jP} {M : jM} {N : jN} {k n : Nat} {E : State → Prop} {lo lo' : List (Nat × Value)} {st st' : List Value} {l0 : Launch} {y : MethodName} {cc : ByteArray} {nL : Nat} {ret : Option FieldType} {rm : Room} {L : jL} {pc ix : Nat} {ob : Nat → Option (Nat × List Nat)}
/-- an int or a reference into an object in the making -/
theorem r_put (o : jok X l0 y cc nL ret rm (LR ob L)) {g slot ci Nf d : Nat} {ds : List Nat} {v : Value} {x : Int32} {C : String} {T : u_T} {ty0 : Nat → FieldType} {ty : FieldType} (hp : P.2.1 g = true) (hob : ob g = some (ci, ds)) (hds : ds[slot]? = some d) (hv : rfv P (upM M g slot x g) (N g) slot d = v) (hc : vwCl[ci]? = some (C, T, Nf)) (hin : ∀ w ∈ u_ws C T Nf, w ∈ jw_tbl) (hty : ∀ k, k < Nf → parseFieldDescriptor (T k).2.2.1 = some (ty0 k)) (hnm : ∀ a, a < Nf → ∀ b, b < Nf → a ≠ b → (T a).2.1 ≠ (T b).2.1) (hk : slot < Nf) (hT : (T slot).1 = C) (hfin : (T slot).2.2.2 = false) (hw : Cond.fieldLink y.cls ix C (T slot).2.1 (T slot).2.2.1 ∈ jw_tbl) (hdt : parseFieldDescriptor (T slot).2.2.1 = some ty) (hn : narrow ty v = v) (hfit : fits ty v = true) (hd : decode cc pc = .ok (.putfield ix, 3))
    (kk : J X P (upM M g slot x) N k n E nL (pc + 3) lo st) : J X P M N k n E nL pc lo (v :: .ref (P.1 g) :: st) := by
  have hl : slot < ds.length := (List.getElem?_eq_some_iff.mp hds).1
  refine j_putf o (M1 := upM M g slot x) (N1 := N) hc hin hty hnm hk hT hfin hw hdt hn hfit (by rw [rfls_len]; exact hl) (fun tA => LR_ob hp hob tA _ _) (fun tA => ?_) (fun j hj => upM_ne M _ _ hj) (fun j hj => rfl) hd kk
  rw [LR_ob hp hob tA _ _, ← hv]
  congr 3
  have := rfls_set P (f := M g) (f' := upM M g slot x g) (h := N g) (h' := N g) ds 0 slot d hds (fun t ht => ⟨by rw [up_at, if_neg (by omega)], rfl⟩)
  rw [Nat.zero_add] at this
  exact this.symm
theorem r_putF (o : jok X l0 y cc nL ret rm (LR ob L)) {g slot ci Nf d : Nat} {ds : List Nat} {v : Value} {x : Int32} {C : String} {T : u_T} {ty0 : Nat → FieldType} {ty : FieldType} (hp : P.2.1 g = true) (hob : ob g = some (ci, ds)) (hds : ds[slot]? = some d) (hv : rfv P (upM M g slot x g) (N g) slot d = v) (hc : vwCl[ci]? = some (C, T, Nf)) (hin : ∀ w ∈ u_ws C T Nf, w ∈ jw_tbl) (hty : ∀ k, k < Nf → parseFieldDescriptor (T k).2.2.1 = some (ty0 k)) (hnm : ∀ a, a < Nf → ∀ b, b < Nf → a ≠ b → (T a).2.1 ≠ (T b).2.1) (hk : slot < Nf) (hT : (T slot).1 = C) (hfin : (T slot).2.2.2 = true) (hini : y.name = "<init>") (hown2 : C = y.cls) (hw : Cond.fieldLink y.cls ix C (T slot).2.1 (T slot).2.2.1 ∈ jw_tbl) (hdt : parseFieldDescriptor (T slot).2.2.1 = some ty) (hn : narrow ty v = v) (hfit : fits ty v = true) (hd : decode cc pc = .ok (.putfield ix, 3))
    (kk : J X P (upM M g slot x) N k n E nL (pc + 3) lo st) : J X P M N k n E nL pc lo (v :: .ref (P.1 g) :: st) := by
  have hl : slot < ds.length := (List.getElem?_eq_some_iff.mp hds).1
  refine j_putF o (M1 := upM M g slot x) (N1 := N) hc hin hty hnm hk hT hfin hini hown2 hw hdt hn hfit (by rw [rfls_len]; exact hl) (fun tA => LR_ob hp hob tA _ _) (fun tA => ?_) (fun j hj => upM_ne M _ _ hj) (fun j hj => rfl) hd kk
  rw [LR_ob hp hob tA _ _, ← hv]
  congr 3
  have := rfls_set P (f := M g) (f' := upM M g slot x g) (h := N g) (h' := N g) ds 0 slot d hds (fun t ht => ⟨by rw [up_at, if_neg (by omega)], rfl⟩)
  rw [Nat.zero_add] at this
  exact this.symm
theorem r_get (o : jok X l0 y cc nL ret rm (LR ob L)) {g slot ci Nf d : Nat} {ds : List Nat} {v : Value} {C : String} {T : u_T} (hp : P.2.1 g = true) (hob : ob g = some (ci, ds)) (hds : ds[slot]? = some d) (hv : rfv P (M g) (N g) slot d = v) (hc : vwCl[ci]? = some (C, T, Nf)) (hin : ∀ w ∈ u_ws C T Nf, w ∈ jw_tbl) (hk : slot < Nf) (hT : (T slot).1 = C) (hw : Cond.fieldLink y.cls ix C (T slot).2.1 (T slot).2.2.1 ∈ jw_tbl) (hd : decode cc pc = .ok (.getfield ix, 3))
    (kk : J X P M N k n E nL (pc + 3) lo (v :: st)) : J X P M N k n E nL pc lo (.ref (P.1 g) :: st) := by
  refine j_getf o hc hin hk hT hw (fun tA => LR_ob hp hob tA _ _) ?_ hd kk
  rw [rfls_get, hds, ← hv, Nat.zero_add]
  rfl
theorem rfv_r0 {P : jP} {f : Nat → Int32} {h : Nat → Int64} {j d : Nat} (hd : d ≠ 0 ∧ d ≠ 1000 ∧ d ≠ 1001) (hf : ¬ f j = 0) : rfv P f h j d = .ref (P.1 d) := by
  unfold rfv
  rw [if_neg hd.1, if_neg hd.2.1, if_neg hd.2.2, if_neg hf]
/-- the same values, told anew -/
theorem j_conv (hlo : lo = lo') (hst : st = st') (kk : J X P M N k n E nL pc lo' st') : J X P M N k n E nL pc lo st := by
  rw [hlo, hst]; exact kk
end RW2
/-- what is there stays where it is -/
def Pext (P P' : jP) : Prop := (∀ k, P.2.1 k = true → P'.2.1 k = true ∧ P'.1 k = P.1 k) ∧ P'.2.2 = P.2.2
theorem Pext.refl (P : jP) : Pext P P := ⟨fun _ h => ⟨h, rfl⟩, rfl⟩
theorem Pext.trans {P P' P2 : jP} (h : Pext P P') (h' : Pext P' P2) : Pext P P2 := ⟨fun k hk => ⟨(h'.1 k (h.1 k hk).1).1, (h'.1 k (h.1 k hk).1).2.trans (h.1 k hk).2⟩, h'.2.trans h.2⟩
theorem Pext.new {P : jP} {g a : Nat} (h : P.2.1 g = false) : Pext P (pnew P g a) := by
  refine ⟨fun k hk => ?_, rfl⟩
  have hne : k ≠ g := fun z => by rw [z, h] at hk; exact absurd hk (by decide)
  exact ⟨by show (if k = g then true else P.2.1 k) = true; rw [if_neg hne]; exact hk, by show (if k = g then a else P.1 k) = _; rw [if_neg hne]⟩
theorem pnew_at (P : jP) (g a : Nat) : (pnew P g a).2.1 g = true ∧ (pnew P g a).1 g = a := ⟨if_pos rfl, if_pos rfl⟩
/-- nothing that is there speaks of the key -/
def rfree (ob : Nat → Option (Nat × List Nat)) (L : jL) (P : jP) (M : jM) (g : Nat) : Prop := P.2.1 g = false ∧ ∀ a tA k f h, k ≠ g → P.2.1 k = true → f = M k → LR ob L tA (pnew P g a) k f h = LR ob L tA P k f h
theorem rfree.hold {ob : Nat → Option (Nat × List Nat)} {L : jL} {P : jP} {M : jM} {N : jN} {g : Nat} (h : rfree ob L P M g) : ∀ a tA k e, k ≠ g → LR ob L tA (pnew P g a) k (zM M g k) (zN N g k) = some e → LR ob L tA P k (M k) (N k) = some e := by
  intro a tA k e hk he
  have ez : zM M g k = M k := if_neg hk
  have en : zN N g k = N k := if_neg hk
  rw [ez, en] at he
  by_cases hp : P.2.1 k = true
  · rw [← h.2 a tA k (M k) (N k) hk hp rfl]; exact he
  · have hp2 : (pnew P g a).2.1 k = false := by
      show (if k = g then true else P.2.1 k) = false
      rw [if_neg hk]
      cases e : P.2.1 k with
      | true => exact absurd e hp
      | false => rfl
    rw [LR_no hp2] at he
    cases he
theorem rnew_ar {ob : Nat → Option (Nat × List Nat)} {L : jL} {P : jP} {g a : Nat} {tA : Nat → ClassId} {x e : va_E} (ho : ob g = none) (hx : L tA (pnew P g a) g (fun _ => 0) (fun _ => 0) = some x) (he : LR ob L tA (pnew P g a) g (fun _ => 0) (fun _ => 0) = some e) : e = x := by
  rw [LR_ar (pnew_at _ _ _).1 ho, hx] at he
  exact (Option.some.inj he).symm
theorem rnew_ob {ob : Nat → Option (Nat × List Nat)} {L : jL} {P : jP} {g a ci : Nat} {ds : List Nat} {tA : Nat → ClassId} {e : va_E} {fs : List Value} (ho : ob g = some (ci, ds)) (hf : rfls (pnew P g a) (fun _ => 0) (fun _ => 0) 0 ds = fs) (he : LR ob L tA (pnew P g a) g (fun _ => 0) (fun _ => 0) = some e) : e = .inr (ci, fs) := by
  rw [LR_ob (pnew_at _ _ _).1 ho, hf] at he
  exact (Option.some.inj he).symm

