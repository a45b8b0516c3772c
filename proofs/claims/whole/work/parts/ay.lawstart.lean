/-! THE LAW, from its entry to its end -/
theorem jw_at {w : Cond} (i : Nat) (h : lw_tbl[i]? = some w) : w ∈ lw_tbl := List.mem_of_getElem? h
theorem law_classes {args : Array Value} {s : State} (hts : ∀ w ∈ lw_tbl, w.before args s = true) : ∃ (dC : Nat → ClassId) (dI : Nat → Nat → Nat), ∀ (k : Nat) (q : vw_C), vwCl[k]? = some q → u_Kn s q.1 q.2.1 q.2.2 (dC k) (dI k) := by
  have htj : ∀ w ∈ jw_tbl, w.before args s = true := fun w h => hts w (jw_lw h)
  obtain ⟨c0, i0, h0⟩ := u_known (C := RX0) (T := TX0) (N := 11) (n := 11) htj jin_X0 (hts (.instantiable RX0 11) (jw_at 348 (by decide +kernel)))
  obtain ⟨c1, i1, h1⟩ := u_known (C := RX1) (T := TX1) (N := 8) (n := 8) htj jin_X1 (hts (.instantiable RX1 8) (jw_at 271 (by decide +kernel)))
  obtain ⟨c2, i2, h2⟩ := u_known (C := RX2) (T := TX2) (N := 4) (n := 4) htj jin_X2 (hts (.instantiable RX2 4) (jw_at 208 (by decide +kernel)))
  obtain ⟨c3, i3, h3⟩ := u_known (C := RX3) (T := TX3) (N := 6) (n := 6) htj jin_X3 (hts (.instantiable RX3 6) (jw_at 141 (by decide +kernel)))
  obtain ⟨c4, i4, h4⟩ := u_known (C := RX4) (T := TX4) (N := 7) (n := 7) htj jin_X4 (hts (.instantiable RX4 7) (jw_at 603 (by decide +kernel)))
  obtain ⟨c5, i5, h5⟩ := u_known (C := RX5) (T := TX5) (N := 4) (n := 4) htj jin_X5 (hts (.instantiable RX5 4) (jw_at 326 (by decide +kernel)))
  obtain ⟨c6, i6, h6⟩ := u_known (C := RX6) (T := TX6) (N := 7) (n := 7) htj jin_X6 (hts (.instantiable RX6 7) (jw_at 392 (by decide +kernel)))
  obtain ⟨c7, i7, h7⟩ := u_known (C := RX7) (T := TX7) (N := 11) (n := 11) htj jin_X7 (hts (.instantiable RX7 11) (jw_at 202 (by decide +kernel)))
  obtain ⟨c8, i8, h8⟩ := u_known (C := RX8) (T := TX8) (N := 3) (n := 3) htj jin_X8 (hts (.instantiable RX8 3) (jw_at 422 (by decide +kernel)))
  obtain ⟨c9, i9, h9⟩ := u_known (C := RX9) (T := TX9) (N := 4) (n := 4) htj jin_X9 (hts (.instantiable RX9 4) (jw_at 303 (by decide +kernel)))
  obtain ⟨c10, i10, h10⟩ := u_known (C := RX10) (T := TX10) (N := 4) (n := 4) htj jin_X10 (hts (.instantiable RX10 4) (jw_at 179 (by decide +kernel)))
  obtain ⟨c11, i11, h11⟩ := u_known (C := RX11) (T := TX11) (N := 15) (n := 15) htj jin_X11 (hts (.instantiable RX11 15) (jw_at 127 (by decide +kernel)))
  obtain ⟨c12, i12, h12⟩ := u_known (C := RX12) (T := TX12) (N := 45) (n := 45) htj jin_X12 (hts (.instantiable RX12 45) (jw_at 1195 (by decide +kernel)))
  refine ⟨fun k => match k with | 0 => c0 | 1 => c1 | 2 => c2 | 3 => c3 | 4 => c4 | 5 => c5 | 6 => c6 | 7 => c7 | 8 => c8 | 9 => c9 | 10 => c10 | 11 => c11 | _ => c12, fun k => match k with | 0 => i0 | 1 => i1 | 2 => i2 | 3 => i3 | 4 => i4 | 5 => i5 | 6 => i6 | 7 => i7 | 8 => i8 | 9 => i9 | 10 => i10 | 11 => i11 | _ => i12, fun k q hq => ?_⟩
  match k, hq with
  | 0, hq => cases hq; exact h0
  | 1, hq => cases hq; exact h1
  | 2, hq => cases hq; exact h2
  | 3, hq => cases hq; exact h3
  | 4, hq => cases hq; exact h4
  | 5, hq => cases hq; exact h5
  | 6, hq => cases hq; exact h6
  | 7, hq => cases hq; exact h7
  | 8, hq => cases hq; exact h8
  | 9, hq => cases hq; exact h9
  | 10, hq => cases hq; exact h10
  | 11, hq => cases hq; exact h11
  | 12, hq => cases hq; exact h12
  | k + 13, hq => cases hq
theorem arrOfT_at {U : State} {cA comp : ClassId} {kA : Class} {ty : FieldType} (h1 : U.vm.classes[cA]? = some kA) (h2 : kA.kind = .array comp ty) : ArrOfT U cA ty := fun n z => ⟨fun k h => (by cases h), kA, h1, comp, h2⟩
theorem law_arrays {args : Array Value} {s : State} (hts : ∀ w ∈ lw_tbl, w.before args s = true) : ∃ tA : Nat → ClassId, ∀ (k : Nat) (q : ClassId × FieldType), (jtys tA)[k]? = some q → ArrOfT s q.1 q.2 ∧ va_RA s q.1 q.2 := by
  obtain ⟨c0, k0, p0, a0, b0, d0⟩ := Cond.arrayClass_spec (hts (.arrayClass .int) (jw_lw (iz_int _ List.mem_cons_self)))
  obtain ⟨c1, k1, p1, a1, b1, d1⟩ := Cond.arrayClass_spec (hts (.arrayClass .long) (jw_lw (iz_long _ List.mem_cons_self)))
  obtain ⟨c2, k2, p2, a2, b2, d2⟩ := Cond.arrayClass_spec (hts (.arrayClass .boolean) (jw_lw (iz_boolean _ List.mem_cons_self)))
  obtain ⟨c3, k3, p3, a3, b3, d3⟩ := Cond.arrayClass_spec (hts (.arrayClass .byte) (jw_lw (iz_byte _ List.mem_cons_self)))
  obtain ⟨p4, c4, k4, e4, f4, b4, d4, a4⟩ := Cond.arrayOver_spec (hts (.arrayOver (.object "CoalForm$Law")) (jw_at 439 (by decide +kernel)))
  obtain ⟨p5, c5, k5, e5, f5, b5, d5, a5⟩ := Cond.arrayOver_spec (hts (.arrayOver (.object "CoalForm$Form")) (jw_at 441 (by decide +kernel)))
  obtain ⟨p6, c6, k6, e6, b6, d6, a6⟩ := over_int (hts (.arrayOver (.array .int)) (jw_at 332 (by decide +kernel)))
  refine ⟨fun k => match k with | 0 => c0 | 1 => c1 | 2 => c2 | 3 => c3 | 4 => c4 | 5 => c5 | _ => c6, fun k q hq => ?_⟩
  match k, hq with
  | 0, hq => cases hq; exact ⟨arrOfT_at b0 d0, a0⟩
  | 1, hq => cases hq; exact ⟨arrOfT_at b1 d1, a1⟩
  | 2, hq => cases hq; exact ⟨arrOfT_at b2 d2, a2⟩
  | 3, hq => cases hq; exact ⟨arrOfT_at b3 d3, a3⟩
  | 4, hq => cases hq; exact ⟨arrOfT_at b4 d4, k4, p4, b4, d4, e4, a4⟩
  | 5, hq => cases hq; exact ⟨arrOfT_at b5 d5, k5, p5, b5, d5, e5, a5⟩
  | 6, hq => cases hq; exact ⟨arrOfT_at b6 d6, a6⟩
  | k + 7, hq => cases hq
theorem law_nest {args : Array Value} {s : State} (hts : ∀ w ∈ lw_tbl, w.before args s = true) : jNw s := by
  intro q hq
  simp only [jnest, List.mem_cons, List.not_mem_nil, or_false] at hq
  rcases hq with rfl | rfl | rfl | rfl | rfl | rfl | rfl
  · exact va_Nw.of rfl (hts _ (jw_at 663 (by decide +kernel)))
  · exact va_Nw.of rfl (hts _ (jw_at 680 (by decide +kernel)))
  · exact va_Nw.of rfl (hts _ (jw_at 905 (by decide +kernel)))
  · exact va_Nw.of rfl (hts _ (jw_at 965 (by decide +kernel)))
  · exact va_Nw.of rfl (hts _ (jw_at 180 (by decide +kernel)))
  · exact va_Nw.of rfl (hts _ (jw_at 209 (by decide +kernel)))
  · exact va_Nw.of rfl (hts _ (jw_at 423 (by decide +kernel)))
theorem law_Z {args : Array Value} {s : State} (hts : ∀ w ∈ lw_tbl, w.before args s = true) : jZ s :=
  ⟨va_AO.of (hts (.arrayOver (.object "CoalForm$Law")) (jw_at 439 (by decide +kernel))), va_AO.of (hts (.arrayOver (.object "CoalForm$Form")) (jw_at 441 (by decide +kernel))), over_int (hts (.arrayOver (.array .int)) (jw_at 332 (by decide +kernel)))⟩
set_option maxRecDepth 20000 in
theorem nseBad_in : ∀ w ∈ nseBad, w ∈ lw_tbl := by decide +kernel
theorem law_U {b : Nat} {s : State} (hts : ∀ w ∈ lw_tbl, w.before #[Value.ref b] s = true) (hgv : (Jvm.Cond.and given_1 narrow_1).before #[Value.ref b] s = true) : jUq (fun q => s.heap.size ≤ q) s s.heap := by
  have hs := flat_of_before _ hgv
  have hini := hts (.initialized Bundle.tN) (jw_at 122 (by decide +kernel))
  exact ⟨vx_Zqof (hts (.laysStatic Bundle.tN "UNASSIGNED_STACK" Bundle.steD) (jw_at 1153 (by decide +kernel))) hini (hs _ (by decide +kernel)) (fun a h => Nat.not_le.mpr h), vx_Zqof (hts (.laysStatic Bundle.tN "SUPPRESSED_SENTINEL" Bundle.listD) (jw_at 1155 (by decide +kernel))) hini (hs _ (by decide +kernel)) (fun a h => Nat.not_le.mpr h), fun w hw => va_Nw.of (nse_face w hw).2 (hts w (nseBad_in w hw))⟩
theorem law_traces {l : Launch} (h : l.flags = flags0) : l.stackTraces = false := by
  unfold Launch.stackTraces
  rw [h]
  decide
theorem jsy.same {L L' : jL} {D : va_G} {tA : Nat → ClassId} {P : jP} {A : Nat → Prop} {M : jM} {N : jN} {H : Heap} (e : ∀ k, L tA P k (M k) (N k) = L' tA P k (M k) (N k)) (h : jsy L D tA P A M N H) : jsy L' D tA P A M N H :=
  ⟨fun k x hx => h.1 k x ((e k).trans hx), fun i j x y hx hy hij => h.2 i j x y ((e i).trans hx) ((e j).trans hy) hij⟩
/-- YOUR PART: from the entry, for every script of at most 3073 ints, the law comes to its end with true ('hflags': the launch's flags, for a law that throws: no stack traces) -/
theorem whole_start {p : Program} {e : Env} {s : State} {m : MethodId} {below : List Frame} {meth : Method} {c : Code} (l : Launch) (hflags : l.flags = flags0) {b L : Nat} {xs : Nat → Int32} (hL : L ≤ 3073) (C0 : lw_At p s m meth c b L xs) : W p l e room_1 s m #[Value.ref b] below meth c s.heap [] 0 0 (lw_Z below #[Value.ref b] s) (entryFrame m ([Value.ref b] : List Value).toArray 7) := by
  obtain ⟨hx, hb, hr, hml, hown, hts, hX, hbl, hlocks, hgv⟩ := C0
  obtain ⟨dC, dI, hKc⟩ := law_classes hts
  obtain ⟨tA, hKa⟩ := law_arrays hts
  have hK : jK (dC, dI) tA s := ⟨⟨hKc, hKa⟩, law_nest hts⟩
  have hZ := law_Z hts
  have hU := law_U hts hgv
  have hfl := law_traces hflags
  obtain ⟨n, n1, n9, ha⟩ := clamp19 (cellV L xs)
  have ok : ∀ L0 : jL, jok ((p, l, e, room_1, s, m, #[Value.ref b], below, meth, c), (dC, dI), tA, (fun q => s.heap.size ≤ q), L0) l (yLn meth.name) cL_law 7 (some .boolean) room_1 L0 := fun L0 => ⟨hx, hb, hml, hown, fun w h => hts w (jw_lw h), hr, hK, fun q h => h, hlocks, rfl, rfl, rfl, rfl⟩
  have S : ∀ L0 : jL, jSc ((p, l, e, room_1, s, m, #[Value.ref b], below, meth, c), (dC, dI), tA, (fun q => s.heap.size ≤ q), L0) b L xs := fun L0 => ⟨hX, hbl, Nat.not_le.mpr hbl⟩
  have EN : ∀ (P : jP) (M : jM) (N : jN) (k n : Nat) (lo : List (Nat × Value)), k ≤ 601024 → n ≤ 7293000 → J ((p, l, e, room_1, s, m, #[Value.ref b], below, meth, c), (dC, dI), tA, (fun q => s.heap.size ≤ q), LW) P M N k n (lw_Z below #[Value.ref b] s) 7 2076 lo [] := by
    intro P M N k n lo hk hn
    refine j_iconst (ok LW) (v := 1) dL_law_2076 rfl ?_
    intro H locs ls g1 g2 g3
    exact va_forget (fun q hq => g2.2.2 q hq) (W.widen hk hn (lw_ret hx hb hr hlocks dL_law_2077))
  have K := law_head (E := lw_Z below #[Value.ref b] s) (ok (LWg (LR kob LC) (LR mob LM))) hZ (S _) hL n1 n9 ha (fun P Mc Mm Nc Nm h hP hC hs bC bM => by
    have lp := law_loop (ok LW) hU hfl (S LW) hL EN L 0 P Mc Mm Nc Nm h (A0 n Mm) (by omega) (by omega) hP (A0_GC n1 n9 bM hC (by rw [hs]; rfl) (by rw [hs]; rfl) (by rw [hs]; rfl) (by rw [hs]; rfl) bC) (A0_wfX bM) (A0_rel n1 n9 bM)
    intro H locs ls g1 g2 g3
    exact lp H locs ls (g1.same (fun k => LWK_LW hP hC bC bM tA k)) g2 g3)
  have hl := lv_entry ([.ref b]) (n := 7) (Nat.le_of_ble_eq_true rfl)
  rw [lg_entry_eq]
  generalize (lg_sl ([.ref b]) ++ List.replicate (7 - (lg_sl ([.ref b])).length) Slot.unset).toArray = ls at hl ⊢
  have h0 : jsy (LWg (LR kob LC) (LR mob LM)) (dC, dI) tA (Pz n) (fun q => s.heap.size ≤ q) (cmb Mz Mz) (cmbN Nz Nz hz) s.heap := by
    refine ⟨fun k x hx => ?_, fun i j x y hx => ?_⟩
    · rw [LWK_absent (P := Pz n) rfl] at hx; cases hx
    · rw [LWK_absent (P := Pz n) rfl] at hx; cases hx
  exact K s.heap [] ls h0 va_S.rf hl
