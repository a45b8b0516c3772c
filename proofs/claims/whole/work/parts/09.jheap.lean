/-! ROWS OVER J that read and write cells, call and return -/
theorem jsy.one {L : jL} {D : va_G} {tA : Nat → ClassId} {P : jP} {A : Nat → Prop} {M : jM} {N : jN} {H : Heap} (h : jsy L D tA P A M N H) {g : Nat} {e : va_E} (he : L tA P g (M g) (N g) = some e) : va_P D vwCl [(P.1 g, e)] H := by
  intro k q hq
  match k, hq with
  | 0, hq => cases hq; exact (h.1 g e he).1
  | k + 1, hq => simp at hq
def jro (P : jP) (g : Nat) : Option Nat := if g = 0 then none else some (P.1 g)
theorem jrf_rf (P : jP) (g : Nat) : jrf P g = va_rf (jro P g) := by
  unfold jrf jro
  by_cases h : g = 0
  · simp [h, va_rf]
  · simp [h, va_rf]
theorem jrf_0 (P : jP) : jrf P 0 = .null := if_pos rfl
theorem jrf_n (P : jP) {g : Nat} (h : g ≠ 0) : jrf P g = .ref (P.1 g) := if_neg h
theorem jrf_cat (P : jP) (g : Nat) : (jrf P g).category = 1 := by
  unfold jrf
  by_cases h : g = 0
  · simp [h, Value.category]
  · simp [h, Value.category]
section JH
variable {X : jX} {P : jP} {M M1 : jM} {N N1 : jN} {k n : Nat} {E : State → Prop} {lo : List (Nat × Value)} {st : List Value} {l0 : Launch} {y : MethodName} {cc : ByteArray} {nL : Nat} {ret : Option FieldType} {rm : Room} {L0 : jL} {pc : Nat}
theorem j_getf (o : jok X l0 y cc nL ret rm L0) {g slot ci ix Nf : Nat} {fs : List Value} {v : Value} {C : String} {T : u_T} (hc : vwCl[ci]? = some (C, T, Nf)) (hin : ∀ w ∈ u_ws C T Nf, w ∈ jw_tbl) (hk : slot < Nf) (hT : (T slot).1 = C) (hw : Cond.fieldLink y.cls ix C (T slot).2.1 (T slot).2.2.1 ∈ jw_tbl) (hL : ∀ tA, L0 tA P g (M g) (N g) = some (.inr (ci, fs))) (hv : fs[slot]? = some v) (hd : decode cc pc = .ok (.getfield ix, 3))
    (kk : J X P M N k n E nL (pc + 3) lo (v :: st)) : J X P M N k n E nL pc lo (.ref (P.1 g) :: st) := by
  obtain ⟨⟨p, l, e, R, s, m, args, below, meth, c⟩, D, tA, A, L⟩ := X
  obtain ⟨hx, hb, hml, hown, hts, hr, ⟨hK, hNw⟩, hA, hlk, hnm, hR, hl0, hL0⟩ := o
  subst hL0
  intro H locs ls h1 h2 h3
  exact va_get hx hb hts hin hown hK (h1.one (hL tA)) 0 rfl hc slot hk (hts _ hw) (fun x hx => by rw [hT] at hx; exact hx) hv hd (kk H locs ls h1 h2 h3)
theorem j_putf (o : jok X l0 y cc nL ret rm L0) {g slot ci ix Nf : Nat} {fs : List Value} {v : Value} {C : String} {T : u_T} {ty0 : Nat → FieldType} {ty : FieldType} (hc : vwCl[ci]? = some (C, T, Nf)) (hin : ∀ w ∈ u_ws C T Nf, w ∈ jw_tbl) (hty : ∀ k, k < Nf → parseFieldDescriptor (T k).2.2.1 = some (ty0 k)) (hnm : ∀ a, a < Nf → ∀ b, b < Nf → a ≠ b → (T a).2.1 ≠ (T b).2.1) (hk : slot < Nf) (hT : (T slot).1 = C) (hfin : (T slot).2.2.2 = false) (hw : Cond.fieldLink y.cls ix C (T slot).2.1 (T slot).2.2.1 ∈ jw_tbl) (hdt : parseFieldDescriptor (T slot).2.2.1 = some ty) (hn : narrow ty v = v) (hfit : fits ty v = true) (hl : slot < fs.length)
    (hL : ∀ tA, L0 tA P g (M g) (N g) = some (.inr (ci, fs))) (hL1 : ∀ tA, L0 tA P g (M1 g) (N1 g) = some (.inr (ci, fs.set slot v))) (hM : ∀ j, j ≠ g → M1 j = M j) (hN : ∀ j, j ≠ g → N1 j = N j) (hd : decode cc pc = .ok (.putfield ix, 3))
    (kk : J X P M1 N1 k n E nL (pc + 3) lo st) : J X P M N k n E nL pc lo (v :: .ref (P.1 g) :: st) := by
  obtain ⟨⟨p, l, e, R, s, m, args, below, meth, c⟩, D, tA, A, L⟩ := X
  obtain ⟨hx, hb, hml, hown, hts, hr, ⟨hK, hNw⟩, hA, hlk, hmn, hR, hl0, hL0⟩ := o
  subst hL0
  intro H locs ls h1 h2 h3
  have hap := va_apart (own := y.cls) hts hin ty0 hty hnm hK hc
  obtain ⟨⟨r, hrc, cell, q1, q2, q3, q4⟩, hAg⟩ := h1.1 g _ (hL tA)
  have hr' : r = (C, T, Nf) := Option.some.inj (hrc.symm.trans hc)
  subst hr'
  obtain ⟨hS, hfc, kC, hkC, hkind⟩ := hK.1 ci _ hc
  obtain ⟨cf, kf, fi, f, hi, hsl⟩ := hS slot hk
  have hlay := hts _ (hin _ (u_in_lay hk))
  unfold u_lay at hlay
  rw [if_neg (by rw [hfin]; decide)] at hlay
  have hst := (u_facts hfc hkC (u_lays hts hin hk) hi).1
  have h6 := u_store hfc hkC hkind hlay hi hdt hn hfit
  refine W.putK hx hb (f := f) ⟨hown, hts _ hw, ⟨_, _, _, by rw [hT] at hi; exact hi⟩, hst⟩ (by rw [q2]; exact h6) q1 q3 (by rw [hsl]; exact k2_hasslot (q4 slot hk)) rfl rfl hd fun H' e1 e2 e3 => ?_
  rw [hsl] at e1 ⊢
  have hat : va_at D vwCl (P.1 g, .inr (ci, fs.set slot v)) H' := ⟨_, hc, t_OB.to (V := updV (vp_V fs) slot v) ⟨_, e1, q2, q3, t_set q4 hap hk v⟩ (fun j _ => vp_updV_set hl v j)⟩
  exact kk H' _ ls (h1.set g (hL tA) (hL1 tA) hM hN hat e3) (h2.put e2 e3 hAg) h3
theorem j_iald (o : jok X l0 y cc nL ret rm L0) {g nn : Nat} {i : Int32} (hL : ∀ tA, L0 tA P g (M g) (N g) = some (.inl (tA 0, nn, .inl (M g)))) (hi : vp_in i nn) (hd : decode cc pc = .ok (.iaload, 1)) (kk : J X P M N k n E nL (pc + 1) lo (.int (M g i.toNatClampNeg) :: st)) : J X P M N k n E nL pc lo (.int i :: .ref (P.1 g) :: st) := by
  obtain ⟨⟨p, l, e, R, s, m, args, below, meth, c⟩, D, tA, A, L⟩ := X
  obtain ⟨hx, hb, hml, hown, hts, hr, ⟨hK, hNw⟩, hA, hlk, hnm, hR, hl0, hL0⟩ := o
  subst hL0
  intro H locs ls h1 h2 h3
  exact va_iald hx hb hK (h1.one (hL tA)) 0 0 rfl rfl hi hd (kk H locs ls h1 h2 h3)
theorem j_lald (o : jok X l0 y cc nL ret rm L0) {g nn : Nat} {i : Int32} (hL : ∀ tA, L0 tA P g (M g) (N g) = some (.inl (tA 1, nn, .inr (.inl (N g))))) (hi : vp_in i nn) (hd : decode cc pc = .ok (.laload, 1)) (kk : J X P M N k n E nL (pc + 1) lo (.long (N g i.toNatClampNeg) :: st)) : J X P M N k n E nL pc lo (.int i :: .ref (P.1 g) :: st) := by
  obtain ⟨⟨p, l, e, R, s, m, args, below, meth, c⟩, D, tA, A, L⟩ := X
  obtain ⟨hx, hb, hml, hown, hts, hr, ⟨hK, hNw⟩, hA, hlk, hnm, hR, hl0, hL0⟩ := o
  subst hL0
  intro H locs ls h1 h2 h3
  exact va_lald hx hb hK (h1.one (hL tA)) 0 1 rfl rfl hi hd (kk H locs ls h1 h2 h3)
theorem j_zald (o : jok X l0 y cc nL ret rm L0) {g nn : Nat} {i : Int32} (hL : ∀ tA, L0 tA P g (M g) (N g) = some (.inl (tA 2, nn, .inl (M g)))) (hi : vp_in i nn) (hd : decode cc pc = .ok (.baload, 1)) (kk : J X P M N k n E nL (pc + 1) lo (.int (M g i.toNatClampNeg) :: st)) : J X P M N k n E nL pc lo (.int i :: .ref (P.1 g) :: st) := by
  obtain ⟨⟨p, l, e, R, s, m, args, below, meth, c⟩, D, tA, A, L⟩ := X
  obtain ⟨hx, hb, hml, hown, hts, hr, ⟨hK, hNw⟩, hA, hlk, hnm, hR, hl0, hL0⟩ := o
  subst hL0
  intro H locs ls h1 h2 h3
  exact va_zald hx hb hK (h1.one (hL tA)) 0 2 rfl rfl hi hd (kk H locs ls h1 h2 h3)
theorem j_bald (o : jok X l0 y cc nL ret rm L0) {g nn : Nat} {i : Int32} (hL : ∀ tA, L0 tA P g (M g) (N g) = some (.inl (tA 3, nn, .inl (M g)))) (hi : vp_in i nn) (hd : decode cc pc = .ok (.baload, 1)) (kk : J X P M N k n E nL (pc + 1) lo (.int (M g i.toNatClampNeg) :: st)) : J X P M N k n E nL pc lo (.int i :: .ref (P.1 g) :: st) := by
  obtain ⟨⟨p, l, e, R, s, m, args, below, meth, c⟩, D, tA, A, L⟩ := X
  obtain ⟨hx, hb, hml, hown, hts, hr, ⟨hK, hNw⟩, hA, hlk, hnm, hR, hl0, hL0⟩ := o
  subst hL0
  intro H locs ls h1 h2 h3
  exact va_bald hx hb hK (h1.one (hL tA)) 0 3 rfl rfl hi hd (kk H locs ls h1 h2 h3)
/-- an array of references holds keys -/
theorem j_aaldLaw (o : jok X l0 y cc nL ret rm L0) {g nn : Nat} {i : Int32} (hL : ∀ tA, L0 tA P g (M g) (N g) = some (.inl (tA 4, nn, .inr (.inr (.inr (.inr (fun j => jro P (M g j).toNatClampNeg))))))) (hi : vp_in i nn) (hd : decode cc pc = .ok (.aaload, 1)) (kk : J X P M N k n E nL (pc + 1) lo (jrf P (M g i.toNatClampNeg).toNatClampNeg :: st)) : J X P M N k n E nL pc lo (.int i :: .ref (P.1 g) :: st) := by
  obtain ⟨⟨p, l, e, R, s, m, args, below, meth, c⟩, D, tA, A, L⟩ := X
  obtain ⟨hx, hb, hml, hown, hts, hr, ⟨hK, hNw⟩, hA, hlk, hnm, hR, hl0, hL0⟩ := o
  subst hL0
  intro H locs ls h1 h2 h3
  refine va_aldq hx hb hK (h1.one (hL tA)) 0 4 rfl rfl hi hd ?_
  rw [← jrf_rf]
  exact kk H locs ls h1 h2 h3
theorem j_aaldForm (o : jok X l0 y cc nL ret rm L0) {g nn : Nat} {i : Int32} (hL : ∀ tA, L0 tA P g (M g) (N g) = some (.inl (tA 5, nn, .inr (.inr (.inr (.inr (fun j => jro P (M g j).toNatClampNeg))))))) (hi : vp_in i nn) (hd : decode cc pc = .ok (.aaload, 1)) (kk : J X P M N k n E nL (pc + 1) lo (jrf P (M g i.toNatClampNeg).toNatClampNeg :: st)) : J X P M N k n E nL pc lo (.int i :: .ref (P.1 g) :: st) := by
  obtain ⟨⟨p, l, e, R, s, m, args, below, meth, c⟩, D, tA, A, L⟩ := X
  obtain ⟨hx, hb, hml, hown, hts, hr, ⟨hK, hNw⟩, hA, hlk, hnm, hR, hl0, hL0⟩ := o
  subst hL0
  intro H locs ls h1 h2 h3
  refine va_aldq hx hb hK (h1.one (hL tA)) 0 5 rfl rfl hi hd ?_
  rw [← jrf_rf]
  exact kk H locs ls h1 h2 h3
theorem j_aaldInts (o : jok X l0 y cc nL ret rm L0) {g nn : Nat} {i : Int32} (hL : ∀ tA, L0 tA P g (M g) (N g) = some (.inl (tA 6, nn, .inr (.inr (.inr (.inr (fun j => jro P (M g j).toNatClampNeg))))))) (hi : vp_in i nn) (hd : decode cc pc = .ok (.aaload, 1)) (kk : J X P M N k n E nL (pc + 1) lo (jrf P (M g i.toNatClampNeg).toNatClampNeg :: st)) : J X P M N k n E nL pc lo (.int i :: .ref (P.1 g) :: st) := by
  obtain ⟨⟨p, l, e, R, s, m, args, below, meth, c⟩, D, tA, A, L⟩ := X
  obtain ⟨hx, hb, hml, hown, hts, hr, ⟨hK, hNw⟩, hA, hlk, hnm, hR, hl0, hL0⟩ := o
  subst hL0
  intro H locs ls h1 h2 h3
  have hlt : i.toNatClampNeg < nn := Nat.not_le.mp fun q => hi (Or.inr q)
  refine W.aald (v := va_rf (jro P (M g i.toNatClampNeg).toNatClampNeg)) (ty := .array .int) hx hb (h1.one (hL tA) 0 _ rfl) ((hK.2 6 _ rfl).1 nn (fun j => va_rf (jro P (M g j).toNatClampNeg))) rfl (fun q => by cases q) (by show ¬ (i < 0 ∨ (arrV _ _ _).slots.size ≤ _); rw [arrV_size]; exact hi) (by show (arrV _ _ _).slots[_]? = _; rw [arrV_read _ _ hlt]) rfl rfl hd ?_
  rw [← jrf_rf]
  exact kk H locs ls h1 h2 h3
theorem j_alen (o : jok X l0 y cc nL ret rm L0) {g t0 : Nat} {a : vp_A} {ty : FieldType} (hL : ∀ tA, L0 tA P g (M g) (N g) = some (.inl (tA t0, a))) (ht : ∀ tA, (jtys tA)[t0]? = some (tA t0, ty)) (hd : decode cc pc = .ok (.arraylength, 1)) (kk : J X P M N k n E nL (pc + 1) lo (.int (Int32.ofNat a.1) :: st)) : J X P M N k n E nL pc lo (.ref (P.1 g) :: st) := by
  obtain ⟨⟨p, l, e, R, s, m, args, below, meth, c⟩, D, tA, A, L⟩ := X
  obtain ⟨hx, hb, hml, hown, hts, hr, ⟨hK, hNw⟩, hA, hlk, hnm, hR, hl0, hL0⟩ := o
  subst hL0
  intro H locs ls h1 h2 h3
  exact va_alen hx hb hK (h1.one (hL tA)) 0 t0 rfl (ht tA) rfl hd (kk H locs ls h1 h2 h3)
theorem jcell_upd {c : ClassId} {n : Nat} {f : Nat → Int32} {i : Nat} {v : Int32} {w : Value} (hw : w = .int v) : (vp_cell c (n, .inl f)).setSlot i w = vp_cell c (n, .inl (upd f i v)) := by
  subst hw
  rw [vp_cell_i, vp_cell_i, arrV_store]
  congr 1
  funext q
  by_cases hq : q = i
  · subst hq; simp [updV, upd]
  · simp [updV, upd, hq]
theorem jcell_updL {c : ClassId} {n : Nat} {f : Nat → Int64} {i : Nat} {v : Int64} : (vp_cell c (n, .inr (.inl f))).setSlot i (.long v) = vp_cell c (n, .inr (.inl (vp_updL f i v))) := by
  rw [vp_cell_l, vp_cell_l, arrV_store]
  congr 1
  funext q
  by_cases hq : q = i
  · subst hq; simp [updV, vp_updL]
  · simp [updV, vp_updL, hq]
theorem j_iast (o : jok X l0 y cc nL ret rm L0) {g nn : Nat} {i v : Int32} (hL : ∀ tA f h, L0 tA P g f h = some (.inl (tA 0, nn, .inl f))) (hi : vp_in i nn) (hd : decode cc pc = .ok (.iastore, 1)) (kk : J X P (upM M g i.toNatClampNeg v) N k n E nL (pc + 1) lo st) : J X P M N k n E nL pc lo (.int v :: .int i :: .ref (P.1 g) :: st) := by
  obtain ⟨⟨p, l, e, R, s, m, args, below, meth, c⟩, D, tA, A, L⟩ := X
  obtain ⟨hx, hb, hml, hown, hts, hr, ⟨hK, hNw⟩, hA, hlk, hnm, hR, hl0, hL0⟩ := o
  subst hL0
  intro H locs ls h1 h2 h3
  refine W.iast hx hb (h1.one (hL tA (M g) (N g)) 0 _ rfl) ((hK.2 0 _ rfl).1 nn (fun j => .int (M g j))) (fun q => by cases q) (by show ¬ (i < 0 ∨ (arrV _ _ _).slots.size ≤ _); rw [arrV_size]; exact hi) rfl rfl hd fun H1 e z oq => ?_
  refine kk H1 _ ls (h1.set g (hL tA (M g) (N g)) (e1 := .inl (tA 0, nn, .inl (upd (M g) i.toNatClampNeg v))) (by rw [upM_same]; exact hL tA _ _) (fun j hj => upM_ne M _ _ hj) (fun j hj => rfl) ?_ oq) (h2.put z oq (h1.1 g _ (hL tA (M g) (N g))).2) h3
  show H1[P.1 g]? = some (vp_cell _ _)
  rw [e, jcell_upd rfl]
theorem j_zast (o : jok X l0 y cc nL ret rm L0) {g nn : Nat} {i v : Int32} (hL : ∀ tA f h, L0 tA P g f h = some (.inl (tA 2, nn, .inl f))) (hi : vp_in i nn) (hv : narrow .boolean (.int v) = .int v) (hd : decode cc pc = .ok (.bastore, 1)) (kk : J X P (upM M g i.toNatClampNeg v) N k n E nL (pc + 1) lo st) : J X P M N k n E nL pc lo (.int v :: .int i :: .ref (P.1 g) :: st) := by
  obtain ⟨⟨p, l, e, R, s, m, args, below, meth, c⟩, D, tA, A, L⟩ := X
  obtain ⟨hx, hb, hml, hown, hts, hr, ⟨hK, hNw⟩, hA, hlk, hnm, hR, hl0, hL0⟩ := o
  subst hL0
  intro H locs ls h1 h2 h3
  refine W.zast hx hb (h1.one (hL tA (M g) (N g)) 0 _ rfl) ((hK.2 2 _ rfl).1 nn (fun j => .int (M g j))) (fun q => by cases q) (by show ¬ (i < 0 ∨ (arrV _ _ _).slots.size ≤ _); rw [arrV_size]; exact hi) rfl rfl hd fun H1 e z oq => ?_
  refine kk H1 _ ls (h1.set g (hL tA (M g) (N g)) (e1 := .inl (tA 2, nn, .inl (upd (M g) i.toNatClampNeg v))) (by rw [upM_same]; exact hL tA _ _) (fun j hj => upM_ne M _ _ hj) (fun j hj => rfl) ?_ oq) (h2.put z oq (h1.1 g _ (hL tA (M g) (N g))).2) h3
  show H1[P.1 g]? = some (vp_cell _ _)
  rw [e, jcell_upd hv]
theorem j_bast (o : jok X l0 y cc nL ret rm L0) {g nn : Nat} {i v : Int32} (hL : ∀ tA f h, L0 tA P g f h = some (.inl (tA 3, nn, .inl f))) (hi : vp_in i nn) (hd : decode cc pc = .ok (.bastore, 1)) (kk : J X P (upM M g i.toNatClampNeg v.toInt8.toInt32) N k n E nL (pc + 1) lo st) : J X P M N k n E nL pc lo (.int v :: .int i :: .ref (P.1 g) :: st) := by
  obtain ⟨⟨p, l, e, R, s, m, args, below, meth, c⟩, D, tA, A, L⟩ := X
  obtain ⟨hx, hb, hml, hown, hts, hr, ⟨hK, hNw⟩, hA, hlk, hnm, hR, hl0, hL0⟩ := o
  subst hL0
  intro H locs ls h1 h2 h3
  refine W.bast hx hb (h1.one (hL tA (M g) (N g)) 0 _ rfl) ((hK.2 3 _ rfl).1 nn (fun j => .int (M g j))) (fun q => by cases q) (by show ¬ (i < 0 ∨ (arrV _ _ _).slots.size ≤ _); rw [arrV_size]; exact hi) rfl rfl hd fun H1 e z oq => ?_
  refine kk H1 _ ls (h1.set g (hL tA (M g) (N g)) (e1 := .inl (tA 3, nn, .inl (upd (M g) i.toNatClampNeg v.toInt8.toInt32))) (by rw [upM_same]; exact hL tA _ _) (fun j hj => upM_ne M _ _ hj) (fun j hj => rfl) ?_ oq) (h2.put z oq (h1.1 g _ (hL tA (M g) (N g))).2) h3
  show H1[P.1 g]? = some (vp_cell _ _)
  rw [e, jcell_upd (v := v.toInt8.toInt32) (show narrow .byte (.int v) = .int v.toInt8.toInt32 from rfl)]
theorem j_last (o : jok X l0 y cc nL ret rm L0) {g nn : Nat} {i : Int32} {v : Int64} (hL : ∀ tA f h, L0 tA P g f h = some (.inl (tA 1, nn, .inr (.inl h)))) (hi : vp_in i nn) (hd : decode cc pc = .ok (.lastore, 1)) (kk : J X P M (upN N g i.toNatClampNeg v) k n E nL (pc + 1) lo st) : J X P M N k n E nL pc lo (.long v :: .int i :: .ref (P.1 g) :: st) := by
  obtain ⟨⟨p, l, e, R, s, m, args, below, meth, c⟩, D, tA, A, L⟩ := X
  obtain ⟨hx, hb, hml, hown, hts, hr, ⟨hK, hNw⟩, hA, hlk, hnm, hR, hl0, hL0⟩ := o
  subst hL0
  intro H locs ls h1 h2 h3
  refine W.last hx hb (h1.one (hL tA (M g) (N g)) 0 _ rfl) ((hK.2 1 _ rfl).1 nn (fun j => .long (N g j))) (fun q => by cases q) (by show ¬ (i < 0 ∨ (arrV _ _ _).slots.size ≤ _); rw [arrV_size]; exact hi) rfl rfl hd fun H1 e z oq => ?_
  refine kk H1 _ ls (h1.set g (hL tA (M g) (N g)) (e1 := .inl (tA 1, nn, .inr (.inl (vp_updL (N g) i.toNatClampNeg v)))) (by rw [upN_same]; exact hL tA _ _) (fun j hj => rfl) (fun j hj => upN_ne N _ _ hj) ?_ oq) (h2.put z oq (h1.1 g _ (hL tA (M g) (N g))).2) h3
  show H1[P.1 g]? = some (vp_cell _ _)
  rw [e, jcell_updL]
end JH
