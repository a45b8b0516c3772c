/-! THE LAW'S CALLS -/
/-- the reference's cells and the row 'out' are there -/
def PM (P : jP) : Prop := (∀ k, 1001 ≤ k → k ≤ 1029 → P.2.1 k = true) ∧ P.2.1 2000 = true
theorem PM.ext {P P' : jP} (h : PM P) (e : Pext P P') : PM P' := ⟨fun k a b => (e.1 k (h.1 k a b)).1, (e.1 _ h.2).1⟩
theorem LM_sh {tA : Nat → ClassId} {P P' : jP} (h : PM P) (e : Pext P P') {k : Nat} {f : Nat → Int32} {g : Nat → Int64} : LM tA (shP P') k f g = LM tA (shP P) k f g := by
  by_cases hk : k = 1
  · subst hk
    have w : ∀ d, 1 ≤ d → d ≤ 29 → (shP P').1 d = (shP P).1 d := fun d a b => (e.1 (d + 1000) (h.1 _ (by omega) (by omega))).2
    have a2 := w 2 (by decide) (by decide)
    have a3 := w 3 (by decide) (by decide)
    have a4 := w 4 (by decide) (by decide)
    have a5 := w 5 (by decide) (by decide)
    have a6 := w 6 (by decide) (by decide)
    have a7 := w 7 (by decide) (by decide)
    have a8 := w 8 (by decide) (by decide)
    have a9 := w 9 (by decide) (by decide)
    have a10 := w 10 (by decide) (by decide)
    have a11 := w 11 (by decide) (by decide)
    have a12 := w 12 (by decide) (by decide)
    have a13 := w 13 (by decide) (by decide)
    have a14 := w 14 (by decide) (by decide)
    have a15 := w 15 (by decide) (by decide)
    have a16 := w 16 (by decide) (by decide)
    have a17 := w 17 (by decide) (by decide)
    have a18 := w 18 (by decide) (by decide)
    have a19 := w 19 (by decide) (by decide)
    have a20 := w 20 (by decide) (by decide)
    have a21 := w 21 (by decide) (by decide)
    have a22 := w 22 (by decide) (by decide)
    have a23 := w 23 (by decide) (by decide)
    have a24 := w 24 (by decide) (by decide)
    have a25 := w 25 (by decide) (by decide)
    have a26 := w 26 (by decide) (by decide)
    have a27 := w 27 (by decide) (by decide)
    have a28 := w 28 (by decide) (by decide)
    have a29 := w 29 (by decide) (by decide)
    simp only [LM, a2, a3, a4, a5, a6, a7, a8, a9, a10, a11, a12, a13, a14, a15, a16, a17, a18, a19, a20, a21, a22, a23, a24, a25, a26, a27, a28, a29]
  · exact LM_any hk
theorem LM_in {tA : Nat → ClassId} {P : jP} {k : Nat} {f : Nat → Int32} {g : Nat → Int64} {x : va_E} (h : LM tA P k f g = some x) : 1 ≤ k ∧ k ≤ 29 := by
  refine ⟨?_, ?_⟩
  · rcases Nat.eq_zero_or_pos k with z | z
    · subst z
      cases h
    · exact z
  · rcases Nat.lt_or_ge k 30 with z | z
    · omega
    · obtain ⟨j, rfl⟩ : ∃ j, k = j + 30 := ⟨k - 30, by omega⟩
      cases h
/-- text makes cells: the class's keys grow, the rest lies where it lay -/
theorem dec_t {P P' : jP} {Mc Mm Mb : jM} {Nc Nm Nb : jN} {h : Nat → Int64} (hP : PM P) (e : Pext P P') : jDec (LWg LC LM) P (cmb Mc Mm) (cmbN Nc Nm h) LC P Mc Nc (fun k => k) P' Mb Nb P' (cmb Mb Mm) (cmbN Nb Nm h) := by
  intro tA j x he
  by_cases hj : j < 1000
  · refine Or.inl ⟨j, rfl, ?_, rfl⟩
    rw [LWg_c hj, cmb_c hj, cmbN_c hj] at he
    exact he
  · have far : ∀ k y, LC tA P k (Mc k) (Nc k) = some y → k ≠ j := fun k y hy => by have := jlt LC_far hy; omega
    by_cases h2 : j < 2000
    · obtain ⟨k, rfl⟩ : ∃ k, j = k + 1000 := ⟨j - 1000, by omega⟩
      have hk : k < 1000 := by omega
      rw [LWg_m hk, cmb_m hk, cmbN_m hk, LM_sh hP e] at he
      have hin := LM_in he
      refine Or.inr ⟨?_, (e.1 _ (hP.1 _ (by omega) (by omega))).2, far⟩
      rw [LWg_m hk, cmb_m hk, cmbN_m hk]
      exact he
    · by_cases h3 : j = 2000
      · subst h3
        refine Or.inr ⟨?_, (e.1 _ hP.2).2, far⟩
        rw [LWg_o (e.1 _ hP.2).1] at he
        rw [LWg_o hP.2]
        exact he
      · rw [LWg_far (by omega)] at he
        cases he
def jRz (rm2 : Room) (nL2 : Nat) : Bool := Nat.ble (rm2.frames + 1) 2048 && Nat.ble (8 + (nL2 + 11) + rm2.locals) 84000 && Nat.beq rm2.cells 0 && Nat.beq rm2.slots 0
theorem jRz_ok {rm2 : Room} {nL2 k n : Nat} (h : jRz rm2 nL2 = true) (hk : k ≤ 601024) (hn : n ≤ 7293000) : jRm k n rm2 room_1 nL2 ∧ rm2.cells = 0 ∧ rm2.slots = 0 := by
  unfold jRz at h
  simp only [Bool.and_eq_true, Nat.ble_eq, Nat.beq_eq] at h
  obtain ⟨⟨⟨h1, h2⟩, h3⟩, h4⟩ := h
  exact ⟨⟨⟨h1, h2⟩, by rw [h3]; exact hk, by rw [h4]; exact hn⟩, h3, h4⟩
abbrev yLn (nm : String) : MethodName := ⟨RL, nm, "([I)Z"⟩
abbrev jokL (X : jX) (l0 : Launch) (nm : String) : Prop := jok X l0 (yLn nm) cL_law 7 (some .boolean) room_1 LW
section LCA
variable {nm : String} {X : jX} {P : jP} {Mc Mm : jM} {Nc Nm : jN} {h : Nat → Int64} {k n : Nat} {E : State → Prop} {lo : List (Nat × Value)} {st st0 : List Value} {l0 : Launch} {pc : Nat}
variable {y2 : MethodName} {cc2 : ByteArray} {nL2 : Nat} {ret2 : Option FieldType} {rm2 : Room} {as : List Value} {ix : Nat} {v0 : Value} {G : jM → jN → Prop} {an : Nat}
theorem j_cc (o : jokL X l0 nm) (hM : jC l0 y2 cc2 nL2 ret2 rm2 LC (.ref (P.1 1) :: as) P Mc Nc (fun r P' M' N' => r = some v0 ∧ P' = P ∧ G M' N')) (hd : decode cL_law pc = .ok (.invokevirtual ix, 3)) (hw : ∀ w ∈ ([.methodLink RL ix y2, .instanceMethod y2, .selects RX11 y2 y2, .initialized y2.cls, .code y2 cc2 nL2 ret2] : List Cond), w ∈ jw_tbl) (hn : jNm y2 an) (hlen : as.length = an) (hr : jRz rm2 nL2 = true) (hk : k ≤ 601024) (hnn : n ≤ 7293000) (hcat : Nat.ble (st.map fun v => v.category).sum 8 = true) (hst : st0 = as.reverse ++ .ref (P.1 1) :: st)
    (kk : ∀ Mb Nb, G Mb Nb → J X P (cmb Mb Mm) (cmbN Nb Nm h) k n E 7 (pc + 3) lo (v0 :: st)) : J X P (cmb Mc Mm) (cmbN Nc Nm h) k n E 7 pc lo st0 := by
  obtain ⟨r1, r2, r3⟩ := jRz_ok hr hk hnn
  refine j_callVG (φ := fun q => q) (g := 1) (ci := 11) o (sub_c LC_far) hM hd hw (jNm_2 hn hlen) r1 rfl (fun _ => rfl) (Nat.le_of_ble_eq_true hcat) hst (fun v Pb Mb Nb q => ?_)
  obtain ⟨rfl, rfl, g⟩ := q
  refine ⟨_, _, _, dec_c LC_far, ?_⟩
  rw [r2, r3]
  exact kk Mb Nb g
theorem j_mc (o : jokL X l0 nm) (hM : jC l0 y2 cc2 nL2 ret2 rm2 LM (.ref ((shP P).1 1) :: as) (shP P) Mm Nm (fun r P' M' N' => r = some v0 ∧ P' = shP P ∧ G M' N')) (hd : decode cL_law pc = .ok (.invokevirtual ix, 3)) (hw : ∀ w ∈ ([.methodLink RL ix y2, .instanceMethod y2, .selects RX12 y2 y2, .initialized y2.cls, .code y2 cc2 nL2 ret2] : List Cond), w ∈ jw_tbl) (hn : jNm y2 an) (hlen : as.length = an) (hr : jRz rm2 nL2 = true) (hk : k ≤ 601024) (hnn : n ≤ 7293000) (hcat : Nat.ble (st.map fun v => v.category).sum 8 = true) (hst : st0 = as.reverse ++ .ref (P.1 1001) :: st)
    (kk : ∀ Mb Nb, G Mb Nb → J X P (cmb Mc Mb) (cmbN Nc Nb h) k n E 7 (pc + 3) lo (v0 :: st)) : J X P (cmb Mc Mm) (cmbN Nc Nm h) k n E 7 pc lo st0 := by
  obtain ⟨r1, r2, r3⟩ := jRz_ok hr hk hnn
  refine j_callVG (φ := fun q => q + 1000) (g := 1) (ci := 12) o (sub_m LM_far) hM hd hw (jNm_2 hn hlen) r1 rfl (fun _ => rfl) (Nat.le_of_ble_eq_true hcat) hst (fun v Pb Mb Nb q => ?_)
  obtain ⟨rfl, rfl, g⟩ := q
  refine ⟨_, _, _, dec_m LM_far, ?_⟩
  rw [r2, r3]
  exact kk Mb Nb g
theorem j_ct (o : jokL X l0 nm) (hP : PM P) {v : Int32} {G : jP → jM → jN → Prop} (hM : jC l0 y2 cc2 nL2 ret2 rm2 LC (.ref (P.1 1) :: as) P Mc Nc (jqiP P (fun r P' M' N' => r = v ∧ G P' M' N'))) (hd : decode cL_law pc = .ok (.invokevirtual ix, 3)) (hw : ∀ w ∈ ([.methodLink RL ix y2, .instanceMethod y2, .selects RX11 y2 y2, .initialized y2.cls, .code y2 cc2 nL2 ret2] : List Cond), w ∈ jw_tbl) (hn : jNm y2 an) (hlen : as.length = an) (r1 : jRm k n rm2 room_1 nL2) (hcat : Nat.ble (st.map fun v => v.category).sum 8 = true) (hst : st0 = as.reverse ++ .ref (P.1 1) :: st)
    (kk : ∀ Pb Mb Nb, Pext P Pb → G Pb Mb Nb → J X Pb (cmb Mb Mm) (cmbN Nb Nm h) (k + rm2.cells) (n + rm2.slots) E 7 (pc + 3) lo (.int v :: st)) : J X P (cmb Mc Mm) (cmbN Nc Nm h) k n E 7 pc lo st0 := by
  refine j_callVG (φ := fun q => q) (g := 1) (ci := 11) o (sub_c LC_far) hM hd hw (jNm_2 hn hlen) r1 rfl (fun _ => rfl) (Nat.le_of_ble_eq_true hcat) hst (fun v Pb Mb Nb q => ?_)
  obtain ⟨r, rfl, e, rfl, g⟩ := q
  exact ⟨_, _, _, dec_t hP e, kk Pb Mb Nb e g⟩
end LCA
/-! the law's own methods -/
def cellV (Ls : Nat) (xs : Nat → Int32) : Int32 := if Ls = 0 then 0 else xs 0
abbrev rm_L_cell : Room := { frames := 1, cells := 0, slots := 0, locals := 13 }
theorem c_L_cell (l : Launch) (b Ls : Nat) (xs : Nat → Int32) (hL : Ls ≤ 3073) (P : jP) (M : jM) (N : jN) : jCS l yL_cell cL_cell 2 (some .int) rm_L_cell b Ls xs [.ref b, .int 0] P M N (fun v _ _ _ => v = some (.int (cellV Ls xs))) := by
  refine jCS_of (by decide +kernel) [(0, .ref b), (1, .int 0)] (Nat.le_of_ble_eq_true rfl) rfl (fun X o S => ?_)
  refine j_iload_n o dL_cell_0 rfl ?_
  refine j_aload_n o dL_cell_1 rfl ?_
  refine j_slen o S dL_cell_2 ?_
  refine j_icmp_ge o (tgt := 12) dL_cell_3 (by decide) (fun c => ?_) (fun c => ?_)
  · have z : Ls = 0 := by
      by_cases h0 : Ls = 0
      · exact h0
      · have h1 : (0 : Int32) < nI Ls := Int32.not_le.mp (fun w => nI_ne0 (Nat.pos_of_ne_zero h0) (by omega) (Int32.le_antisymm w (nI_pos' (by omega))))
        exact absurd (show nI Ls ≤ 0 from c) (Int32.not_le.mpr h1)
    refine j_iconst o (v := 0) dL_cell_12 rfl ?_
    exact j_iret o dL_cell_13 (by show _ = some (Value.int (cellV Ls xs)); unfold cellV; rw [if_pos z])
  · have z : ¬ Ls = 0 := fun h0 => c (by rw [h0]; decide)
    refine j_aload_n o dL_cell_6 rfl ?_
    refine j_iload_n o dL_cell_7 rfl ?_
    refine j_sld o S (vin (n := 0) (by omega) (by omega)) dL_cell_8 ?_
    refine j_goto o (tgt := 13) dL_cell_9 (by decide) ?_
    exact j_iret o dL_cell_13 (by show _ = some (Value.int (cellV Ls xs)); unfold cellV; rw [if_neg z]; rfl)
