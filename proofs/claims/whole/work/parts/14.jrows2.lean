/-! MORE ROWS: fewer locals, names, switches, references compared, truth values -/
def jb (x : Int32) : Prop := narrow .boolean (.int x) = .int x ∧ fits .boolean (.int x) = true
theorem jb_0 : jb 0 := ⟨rfl, rfl⟩
theorem jb_1 : jb 1 := ⟨rfl, rfl⟩
theorem jrf_nar (P : jP) (g : Nat) (C : String) : narrow (.object C) (jrf P g) = jrf P g := by
  rcases jrf_ref P g with h | ⟨a, h⟩ <;> rw [h] <;> rfl
theorem jrf_fit (P : jP) (g : Nat) (C : String) : fits (.object C) (jrf P g) = true := by
  rcases jrf_ref P g with h | ⟨a, h⟩ <;> rw [h] <;> rfl
theorem jrf_k1 {P : jP} {g : Nat} (hk : g < 2147483648) (hn : g ≠ 0) : jrf P (nI g).toNatClampNeg = .ref (P.1 g) := by
  rw [nI_clamp hk, jrf_n P hn]
theorem jrf_k2 {P : jP} {g : Nat} (hk : g < 2147483648) : jrf P (nI g).toNatClampNeg = jrf P g := by
  rw [nI_clamp hk]
def jpl (P : jP) (g : Nat) : Prop := g = 0 ∨ cLw P g = true
theorem sw_nat {a : Int32} {z : Int} (h : ¬ a = Int32.ofInt z) (_hz : -2147483648 ≤ z ∧ z < 2147483648) : a.toInt ≠ z := by
  intro e
  apply h
  rw [← e]
  exact (Int32.ofInt_toInt a).symm
theorem sw_out_0_7 {a : Int32} (h0 : ¬ a = 0) (h1 : ¬ a = 1) (h2 : ¬ a = 2) (h3 : ¬ a = 3) (h4 : ¬ a = 4) (h5 : ¬ a = 5) (h6 : ¬ a = 6) : a.toInt < 0 ∨ 6 < a.toInt := by
  have g0 := sw_nat (z := 0) h0 (by omega)
  have g1 := sw_nat (z := 1) h1 (by omega)
  have g2 := sw_nat (z := 2) h2 (by omega)
  have g3 := sw_nat (z := 3) h3 (by omega)
  have g4 := sw_nat (z := 4) h4 (by omega)
  have g5 := sw_nat (z := 5) h5 (by omega)
  have g6 := sw_nat (z := 6) h6 (by omega)
  omega
theorem sw_out_1_3 {a : Int32} (h1 : ¬ a = 1) (h2 : ¬ a = 2) (h3 : ¬ a = 3) : a.toInt < 1 ∨ 3 < a.toInt := by
  have g1 := sw_nat (z := 1) h1 (by omega)
  have g2 := sw_nat (z := 2) h2 (by omega)
  have g3 := sw_nat (z := 3) h3 (by omega)
  omega
theorem jRmb_mk {rm2 rm : Room} {nL2 : Nat} (hc : rm2.cells = 0) (hs : rm2.slots = 0) (h1 : rm2.frames + 1 ≤ rm.frames) (h2 : 8 + (nL2 + 11) + rm2.locals ≤ rm.locals) : jRmb 0 0 rm2 rm nL2 = true := by
  unfold jRmb
  rw [hc, hs]
  simp only [Bool.and_eq_true, Nat.ble_eq]
  exact ⟨⟨⟨⟨⟨h1, h2⟩, Nat.zero_le _⟩, Nat.zero_le _⟩, rfl⟩, rfl⟩
/-- rows of ints of the reference that are handed on -/
def mIA (k : Nat) : Option Nat := if k = 19 then some 262144 else if k = 20 then some 262144 else none
def jinM (k : Nat) (i : Int32) : Prop := ∃ nn : Nat, mIA k = some nn ∧ vp_in i nn
theorem LM_ia {P : jP} {k nn : Nat} (h : mIA k = some nn) : ∀ (tA : Nat → ClassId) (f : Nat → Int32) (g : Nat → Int64), LM tA P k f g = some (.inl (tA 0, nn, .inl f)) := by
  intro tA f g
  unfold mIA at h
  by_cases h1 : k = 19
  · subst h1
    rw [if_pos rfl] at h
    cases h
    rfl
  · rw [if_neg h1] at h
    by_cases h2 : k = 20
    · subst h2
      rw [if_pos rfl] at h
      cases h
      rfl
    · rw [if_neg h2] at h
      cases h
section JV
variable {X : jX} {P : jP} {M : jM} {N : jN} {k n : Nat} {E : State → Prop} {lo : List (Nat × Value)} {st : List Value} {l0 : Launch} {y : MethodName} {cc : ByteArray} {nL : Nat} {ret : Option FieldType} {rm : Room} {L0 : jL} {pc : Nat}
theorem j_pick {lo' : List (Nat × Value)} (ks : List Nat) (h : ks.filterMap (fun i => lo[i]?) = lo') (kk : J X P M N k n E nL pc lo' st) : J X P M N k n E nL pc lo st := by
  obtain ⟨⟨p, l, e, R, s, m, args, below, meth, c⟩, D, tA, A, L⟩ := X
  intro H locs ls h1 h2 h3
  refine kk H locs ls h1 h2 ⟨h3.1, h3.2.1, fun q hq => ?_⟩
  rw [← h] at hq
  obtain ⟨i, -, hi⟩ := List.mem_filterMap.mp hq
  exact h3.2.2 q (List.mem_of_getElem? hi)
theorem j_topi {x : Int32} (kk : ∀ z : Int32, z = x → J X P M N k n E nL pc lo (.int z :: st)) : J X P M N k n E nL pc lo (.int x :: st) := kk x rfl
theorem j_topl {x : Int64} (kk : ∀ z : Int64, z = x → J X P M N k n E nL pc lo (.long z :: st)) : J X P M N k n E nL pc lo (.long x :: st) := kk x rfl
theorem j_nameM (kk : ∀ M' : jM, M' = M → J X P M' N k n E nL pc lo st) : J X P M N k n E nL pc lo st := kk M rfl
theorem j_nameN (kk : ∀ N' : jN, N' = N → J X P M N' k n E nL pc lo st) : J X P M N k n E nL pc lo st := kk N rfl
theorem j_ldc_w (o : jok X l0 y cc nL ret rm L0) {ix : Nat} {v : Int32} (hc : Cond.constant y.cls ix v ∈ jw_tbl) (hd : decode cc pc = .ok (.ldc_w ix, 3)) (kk : J X P M N k n E nL (pc + 3) lo (.int v :: st)) : J X P M N k n E nL pc lo st := by
  obtain ⟨⟨p, l, e, R, s, m, args, below, meth, c⟩, D, tA, A, L⟩ := X
  obtain ⟨hx, hb, hml, hown, hts, hr, hK, hA, hlk, hnm, hR, hl0, hL0⟩ := o
  intro H locs ls h1 h2 h3
  exact lv_ldcw hx hb hown (hts _ hc) hd (kk H locs ls h1 h2 h3)
theorem j_case (o : jok X l0 y cc nL ret rm L0) {a : Int32} (v : Int32) {tgt : Nat} {dflt lo0 hi off : Int} {offs : Array Int} {len : Nat} (hd : decode cc pc = .ok (.tableswitch dflt lo0 hi offs, len)) (hv : (decide (v.toInt < lo0) || decide (hi < v.toInt) || !(offs[(v.toInt - lo0).toNat]? == some off)) = false) (ht : (pc : Int) + off = (tgt : Int)) (kt : a = v → J X P M N k n E nL tgt lo st) (kf : ¬ a = v → J X P M N k n E nL pc lo (.int a :: st)) : J X P M N k n E nL pc lo (.int a :: st) := by
  by_cases h : a = v
  · have kt2 := kt h
    subst h
    simp only [Bool.or_eq_false_iff, decide_eq_false_iff_not, Bool.not_eq_false', beq_iff_eq] at hv
    obtain ⟨⟨p, l, e, R, s, m, args, below, meth, c⟩, D, tA, A, L⟩ := X
    obtain ⟨hx, hb, -⟩ := o
    intro H locs ls h1 h2 h3
    exact lv_tableIn hx hb hd hv.1.1 hv.1.2 hv.2 ht (kt2 H locs ls h1 h2 h3)
  · exact kf h
theorem j_caseD (o : jok X l0 y cc nL ret rm L0) {a : Int32} {tgt : Nat} {dflt lo0 hi : Int} {offs : Array Int} {len : Nat} (hd : decode cc pc = .ok (.tableswitch dflt lo0 hi offs, len)) (h : a.toInt < lo0 ∨ hi < a.toInt) (ht : (pc : Int) + dflt = (tgt : Int)) (kk : J X P M N k n E nL tgt lo st) : J X P M N k n E nL pc lo (.int a :: st) := by
  obtain ⟨⟨p, l, e, R, s, m, args, below, meth, c⟩, D, tA, A, L⟩ := X
  obtain ⟨hx, hb, -⟩ := o
  intro H locs ls h1 h2 h3
  exact lv_tableOut hx hb hd h ht (kk H locs ls h1 h2 h3)
theorem jpl_inj {D : va_G} {tA : Nat → ClassId} {A : Nat → Prop} {H : Heap} (h : jsy LC D tA P A M N H) {g1 g2 : Nat} (ha : jpl P g1 ∧ jpl P g2) : jro P g1 = jro P g2 ↔ g1 = g2 := by
  refine ⟨fun e => ?_, fun e => by rw [e]⟩
  obtain ⟨h1, h2⟩ := ha
  have z : cLw P 0 = false := rfl
  have nz : ∀ {g : Nat}, cLw P g = true → g ≠ 0 := fun hg h0 => by rw [h0, z] at hg; cases hg
  rcases h1 with h1 | h1 <;> rcases h2 with h2 | h2
  · rw [h1, h2]
  · unfold jro at e
    rw [if_pos h1, if_neg (nz h2)] at e
    cases e
  · unfold jro at e
    rw [if_neg (nz h1), if_pos h2] at e
    cases e
  · unfold jro at e
    rw [if_neg (nz h1), if_neg (nz h2)] at e
    exact h.2 g1 g2 _ _ (LC_lw h1 tA _ _) (LC_lw h2 tA _ _) (Option.some.inj e)
theorem j_acmp_eq (o : jok X l0 y cc nL ret rm LC) {g1 g2 : Nat} {v1 v2 : Value} {off : Int} {tgt : Nat} (ha : jpl P g1 ∧ jpl P g2) (hv1 : v1 = jrf P g1) (hv2 : v2 = jrf P g2) (hd : decode cc pc = .ok (.if_acmp .eq off, 3)) (ht : (pc : Int) + off = (tgt : Int)) (kt : g1 = g2 → J X P M N k n E nL tgt lo st) (kf : ¬ g1 = g2 → J X P M N k n E nL (pc + 3) lo st) : J X P M N k n E nL pc lo (v2 :: v1 :: st) := by
  subst hv1 hv2
  obtain ⟨⟨p, l, e, R, s, m, args, below, meth, c⟩, D, tA, A, L⟩ := X
  obtain ⟨hx, hb, hml, hown, hts, hr, ⟨hK, hNw⟩, hA, hlk, hnm, hR, hl0, hL0⟩ := o
  subst hL0
  intro H locs ls h1 h2 h3
  rw [jrf_rf, jrf_rf]
  exact lv_acmp_eq hx hb hd ht (fun e => kt ((jpl_inj h1 ha).mp e) H locs ls h1 h2 h3) (fun e => kf (fun z => e ((jpl_inj h1 ha).mpr z)) H locs ls h1 h2 h3)
theorem j_acmp_ne (o : jok X l0 y cc nL ret rm LC) {g1 g2 : Nat} {v1 v2 : Value} {off : Int} {tgt : Nat} (ha : jpl P g1 ∧ jpl P g2) (hv1 : v1 = jrf P g1) (hv2 : v2 = jrf P g2) (hd : decode cc pc = .ok (.if_acmp .ne off, 3)) (ht : (pc : Int) + off = (tgt : Int)) (kt : ¬ g1 = g2 → J X P M N k n E nL tgt lo st) (kf : g1 = g2 → J X P M N k n E nL (pc + 3) lo st) : J X P M N k n E nL pc lo (v2 :: v1 :: st) := by
  subst hv1 hv2
  obtain ⟨⟨p, l, e, R, s, m, args, below, meth, c⟩, D, tA, A, L⟩ := X
  obtain ⟨hx, hb, hml, hown, hts, hr, ⟨hK, hNw⟩, hA, hlk, hnm, hR, hl0, hL0⟩ := o
  subst hL0
  intro H locs ls h1 h2 h3
  rw [jrf_rf, jrf_rf]
  exact lv_acmp_ne hx hb hd ht (fun e => kt (fun z => e ((jpl_inj h1 ha).mpr z)) H locs ls h1 h2 h3) (fun e => kf ((jpl_inj h1 ha).mp e) H locs ls h1 h2 h3)
theorem j_mminL (o : jok X l0 y cc nL ret rm L0) {ix : Nat} {a b : Int64} (hd : decode cc pc = .ok (.invokestatic ix, 3)) (hw : ∀ w ∈ ([.methodLink y.cls ix Lib.MathLoose.min_long.x, .static Lib.MathLoose.min_long.x, .initialized "java/lang/Math", .code Lib.MathLoose.min_long.x Lib.MathLoose.min_long.code 4 (some .long)] : List Cond), w ∈ jw_tbl) (hrm : (Nat.ble 1 rm.frames && Nat.ble ((st.map fun v => v.category).sum + 15) rm.locals && Nat.ble k rm.cells && Nat.ble n rm.slots) = true) (kk : J X P M N k n E nL (pc + 3) lo (.long (if b < a then b else a) :: st)) : J X P M N k n E nL pc lo (.long b :: .long a :: st) := by
  obtain ⟨⟨p, l, e, R, s, m, args, below, meth, c⟩, D, tA, A, L⟩ := X
  obtain ⟨hx, hb, hml, hown, hts, hr, hK, hA, hlk, hnm, hR, hl0, hL0⟩ := o
  subst hL0 hR hl0
  intro H locs ls h1 h2 h3
  simp only [Bool.and_eq_true, Nat.ble_eq] at hrm
  exact va_mmin_long hx hb (hml.trans h3.1.symm) hown (hts _ (hw _ (by simp))) (hts _ (hw _ (by simp))) (hts _ (hw _ (by simp))) (hts _ (hw _ (by simp))) hrm.1.1.1 hrm.1.1.2 hrm.1.2 hrm.2 hd (kk H locs ls h1 h2 h3)
theorem j_aaldInts2 (o : jok X l0 y cc nL ret rm L0) {g : Nat} {i : Int32} (hL : ∀ tA, L0 tA P g (M g) (N g) = some (.inl (tA 6, 4, .inr (.inr (.inr (.inr (fun j => if j < 4 then jro P (31 + j) else none))))))) (hi : vp_in i 4) (hd : decode cc pc = .ok (.aaload, 1)) (kk : J X P M N k n E nL (pc + 1) lo (.ref (P.1 (31 + i.toNatClampNeg)) :: st)) : J X P M N k n E nL pc lo (.int i :: .ref (P.1 g) :: st) := by
  obtain ⟨⟨p, l, e, R, s, m, args, below, meth, c⟩, D, tA, A, L⟩ := X
  obtain ⟨hx, hb, hml, hown, hts, hr, ⟨hK, hNw⟩, hA, hlk, hnm, hR, hl0, hL0⟩ := o
  subst hL0
  intro H locs ls h1 h2 h3
  have hlt : i.toNatClampNeg < 4 := Nat.not_le.mp fun q => hi (Or.inr q)
  refine W.aald (v := va_rf (jro P (31 + i.toNatClampNeg))) (ty := .array .int) hx hb (h1.one (hL tA) 0 _ rfl) ((hK.2 6 _ rfl).1 4 (fun j => va_rf (if j < 4 then jro P (31 + j) else none))) rfl (fun q => by cases q) (by show ¬ (i < 0 ∨ (arrV _ _ _).slots.size ≤ _); rw [arrV_size]; exact hi) (by show (arrV _ _ _).slots[_]? = _; rw [arrV_read _ _ hlt]; show some (va_rf (if i.toNatClampNeg < 4 then jro P (31 + i.toNatClampNeg) else none)) = _; rw [if_pos hlt]) rfl rfl hd ?_
  rw [← jrf_rf, jrf_n P (by omega)]
  exact kk H locs ls h1 h2 h3
end JV
