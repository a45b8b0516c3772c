/-! CALLS BY THEIR ANSWERS' KINDS -/
abbrev jqi (P : jP) (Q : Int32 → jM → jN → Prop) : Option Value → jP → jM → jN → Prop := fun v P' M' N' => ∃ r : Int32, v = some (.int r) ∧ P' = P ∧ Q r M' N'
abbrev jql (P : jP) (Q : Int64 → jM → jN → Prop) : Option Value → jP → jM → jN → Prop := fun v P' M' N' => ∃ r : Int64, v = some (.long r) ∧ P' = P ∧ Q r M' N'
abbrev jqr (P : jP) (Q : Nat → jM → jN → Prop) : Option Value → jP → jM → jN → Prop := fun v P' M' N' => ∃ r : Nat, v = some (jrf P r) ∧ P' = P ∧ Q r M' N'
abbrev jqv (P : jP) (Q : jM → jN → Prop) : Option Value → jP → jM → jN → Prop := fun v P' M' N' => v = none ∧ P' = P ∧ Q M' N'
def jRmb (k n : Nat) (rm2 rm : Room) (nL2 : Nat) : Bool := Nat.ble (rm2.frames + 1) rm.frames && Nat.ble (8 + (nL2 + 11) + rm2.locals) rm.locals && Nat.ble (k + rm2.cells) rm.cells && Nat.ble (n + rm2.slots) rm.slots && Nat.beq rm2.cells 0 && Nat.beq rm2.slots 0
theorem jRmb_ok {k n nL2 : Nat} {rm2 rm : Room} (h : jRmb k n rm2 rm nL2 = true) : jRm k n rm2 rm nL2 ∧ rm2.cells = 0 ∧ rm2.slots = 0 := by
  unfold jRmb at h
  simp only [Bool.and_eq_true, Nat.ble_eq, Nat.beq_eq_true_eq] at h
  obtain ⟨⟨⟨⟨⟨h1, h2⟩, h3⟩, h4⟩, h5⟩, h6⟩ := h
  exact ⟨⟨⟨h1, h2⟩, h3, h4⟩, Nat.eq_of_beq_eq_true h5, Nat.eq_of_beq_eq_true h6⟩
abbrev jNm (y2 : MethodName) (n : Nat) : Prop := y2.cls ≠ "java/lang/invoke/MethodHandle" ∧ y2.cls ≠ "java/lang/invoke/VarHandle" ∧ (parseMethodDescriptor y2.desc).map (fun d => d.parameters.length) = some n
section JK
variable {X : jX} {P : jP} {M : jM} {N : jN} {k n : Nat} {E : State → Prop} {lo : List (Nat × Value)} {st st0 : List Value} {l0 : Launch} {y : MethodName} {cc : ByteArray} {nL : Nat} {ret : Option FieldType} {rm : Room} {L0 : jL} {pc : Nat}
variable {y2 : MethodName} {cc2 : ByteArray} {nL2 : Nat} {ret2 : Option FieldType} {rm2 : Room} {as : List Value} {ix an : Nat}
theorem j_callVi (o : jok X l0 y cc nL ret rm L0) {g ci Nf : Nat} {fs : List Value} {C : String} {T : u_T} {Q : Int32 → jM → jN → Prop} (hM : jC l0 y2 cc2 nL2 ret2 rm2 L0 (.ref (P.1 g) :: as) P M N (jqi P Q)) (hd : decode cc pc = .ok (.invokevirtual ix, 3)) (hw : ∀ w ∈ ([.methodLink y.cls ix y2, .instanceMethod y2, .selects C y2 y2, .initialized y2.cls, .code y2 cc2 nL2 ret2] : List Cond), w ∈ jw_tbl) (hn : jNm y2 an) (hlen : as.length = an) (hrm : jRmb k n rm2 rm nL2 = true) (hc : vwCl[ci]? = some (C, T, Nf)) (hL : ∀ tA, L0 tA P g (M g) (N g) = some (.inr (ci, fs))) (hcat : Nat.ble (st.map fun v => v.category).sum 8 = true) (hst : st0 = as.reverse ++ .ref (P.1 g) :: st) (kk : ∀ r M' N', Q r M' N' → J X P M' N' k n E nL (pc + 3) lo (.int r :: st)) : J X P M N k n E nL pc lo st0 := by
  have hr0 := jRmb_ok hrm
  subst hlen
  exact j_callV o hM hd hw hn hr0.1 hc hL (Nat.le_of_ble_eq_true hcat) hst (fun v P' M' N' hq => by
    obtain ⟨r, rfl, rfl, hq⟩ := hq
    rw [hr0.2.1, hr0.2.2]
    exact kk r M' N' hq)
theorem j_callSi (o : jok X l0 y cc nL ret rm L0) {Q : Int32 → jM → jN → Prop} (hM : jC l0 y2 cc2 nL2 ret2 rm2 L0 as P M N (jqi P Q)) (hd : decode cc pc = .ok (.invokestatic ix, 3)) (hw : ∀ w ∈ ([.methodLink y.cls ix y2, .static y2, .initialized y2.cls, .code y2 cc2 nL2 ret2] : List Cond), w ∈ jw_tbl) (hn : jNm y2 an) (hlen : as.length = an) (hrm : jRmb k n rm2 rm nL2 = true) (hcat : Nat.ble (st.map fun v => v.category).sum 8 = true) (hst : st0 = as.reverse ++ st) (kk : ∀ r M' N', Q r M' N' → J X P M' N' k n E nL (pc + 3) lo (.int r :: st)) : J X P M N k n E nL pc lo st0 := by
  have hr0 := jRmb_ok hrm
  subst hlen
  exact j_callS o hM hd hw hn hr0.1 (Nat.le_of_ble_eq_true hcat) hst (fun v P' M' N' hq => by
    obtain ⟨r, rfl, rfl, hq⟩ := hq
    rw [hr0.2.1, hr0.2.2]
    exact kk r M' N' hq)
theorem j_callSNi (o : jok X l0 y cc nL ret rm L0) {Q : Int32 → jM → jN → Prop} (hM : jC l0 y2 cc2 nL2 ret2 rm2 L0 as P M N (jqi P Q)) (hd : decode cc pc = .ok (.invokestatic ix, 3)) (hw : ∀ w ∈ ([.static y2, .initialized y2.cls, .code y2 cc2 nL2 ret2] : List Cond), w ∈ jw_tbl) (hnest : (y.cls, ix, y2) ∈ jnest) (hn : jNm y2 an) (hlen : as.length = an) (hrm : jRmb k n rm2 rm nL2 = true) (hcat : Nat.ble (st.map fun v => v.category).sum 8 = true) (hst : st0 = as.reverse ++ st) (kk : ∀ r M' N', Q r M' N' → J X P M' N' k n E nL (pc + 3) lo (.int r :: st)) : J X P M N k n E nL pc lo st0 := by
  have hr0 := jRmb_ok hrm
  subst hlen
  exact j_callSN o hM hd hw hnest hn hr0.1 (Nat.le_of_ble_eq_true hcat) hst (fun v P' M' N' hq => by
    obtain ⟨r, rfl, rfl, hq⟩ := hq
    rw [hr0.2.1, hr0.2.2]
    exact kk r M' N' hq)
theorem j_callVl (o : jok X l0 y cc nL ret rm L0) {g ci Nf : Nat} {fs : List Value} {C : String} {T : u_T} {Q : Int64 → jM → jN → Prop} (hM : jC l0 y2 cc2 nL2 ret2 rm2 L0 (.ref (P.1 g) :: as) P M N (jql P Q)) (hd : decode cc pc = .ok (.invokevirtual ix, 3)) (hw : ∀ w ∈ ([.methodLink y.cls ix y2, .instanceMethod y2, .selects C y2 y2, .initialized y2.cls, .code y2 cc2 nL2 ret2] : List Cond), w ∈ jw_tbl) (hn : jNm y2 an) (hlen : as.length = an) (hrm : jRmb k n rm2 rm nL2 = true) (hc : vwCl[ci]? = some (C, T, Nf)) (hL : ∀ tA, L0 tA P g (M g) (N g) = some (.inr (ci, fs))) (hcat : Nat.ble (st.map fun v => v.category).sum 8 = true) (hst : st0 = as.reverse ++ .ref (P.1 g) :: st) (kk : ∀ r M' N', Q r M' N' → J X P M' N' k n E nL (pc + 3) lo (.long r :: st)) : J X P M N k n E nL pc lo st0 := by
  have hr0 := jRmb_ok hrm
  subst hlen
  exact j_callV o hM hd hw hn hr0.1 hc hL (Nat.le_of_ble_eq_true hcat) hst (fun v P' M' N' hq => by
    obtain ⟨r, rfl, rfl, hq⟩ := hq
    rw [hr0.2.1, hr0.2.2]
    exact kk r M' N' hq)
theorem j_callSl (o : jok X l0 y cc nL ret rm L0) {Q : Int64 → jM → jN → Prop} (hM : jC l0 y2 cc2 nL2 ret2 rm2 L0 as P M N (jql P Q)) (hd : decode cc pc = .ok (.invokestatic ix, 3)) (hw : ∀ w ∈ ([.methodLink y.cls ix y2, .static y2, .initialized y2.cls, .code y2 cc2 nL2 ret2] : List Cond), w ∈ jw_tbl) (hn : jNm y2 an) (hlen : as.length = an) (hrm : jRmb k n rm2 rm nL2 = true) (hcat : Nat.ble (st.map fun v => v.category).sum 8 = true) (hst : st0 = as.reverse ++ st) (kk : ∀ r M' N', Q r M' N' → J X P M' N' k n E nL (pc + 3) lo (.long r :: st)) : J X P M N k n E nL pc lo st0 := by
  have hr0 := jRmb_ok hrm
  subst hlen
  exact j_callS o hM hd hw hn hr0.1 (Nat.le_of_ble_eq_true hcat) hst (fun v P' M' N' hq => by
    obtain ⟨r, rfl, rfl, hq⟩ := hq
    rw [hr0.2.1, hr0.2.2]
    exact kk r M' N' hq)
theorem j_callSNl (o : jok X l0 y cc nL ret rm L0) {Q : Int64 → jM → jN → Prop} (hM : jC l0 y2 cc2 nL2 ret2 rm2 L0 as P M N (jql P Q)) (hd : decode cc pc = .ok (.invokestatic ix, 3)) (hw : ∀ w ∈ ([.static y2, .initialized y2.cls, .code y2 cc2 nL2 ret2] : List Cond), w ∈ jw_tbl) (hnest : (y.cls, ix, y2) ∈ jnest) (hn : jNm y2 an) (hlen : as.length = an) (hrm : jRmb k n rm2 rm nL2 = true) (hcat : Nat.ble (st.map fun v => v.category).sum 8 = true) (hst : st0 = as.reverse ++ st) (kk : ∀ r M' N', Q r M' N' → J X P M' N' k n E nL (pc + 3) lo (.long r :: st)) : J X P M N k n E nL pc lo st0 := by
  have hr0 := jRmb_ok hrm
  subst hlen
  exact j_callSN o hM hd hw hnest hn hr0.1 (Nat.le_of_ble_eq_true hcat) hst (fun v P' M' N' hq => by
    obtain ⟨r, rfl, rfl, hq⟩ := hq
    rw [hr0.2.1, hr0.2.2]
    exact kk r M' N' hq)
theorem j_callVr (o : jok X l0 y cc nL ret rm L0) {g ci Nf : Nat} {fs : List Value} {C : String} {T : u_T} {Q : Nat → jM → jN → Prop} (hM : jC l0 y2 cc2 nL2 ret2 rm2 L0 (.ref (P.1 g) :: as) P M N (jqr P Q)) (hd : decode cc pc = .ok (.invokevirtual ix, 3)) (hw : ∀ w ∈ ([.methodLink y.cls ix y2, .instanceMethod y2, .selects C y2 y2, .initialized y2.cls, .code y2 cc2 nL2 ret2] : List Cond), w ∈ jw_tbl) (hn : jNm y2 an) (hlen : as.length = an) (hrm : jRmb k n rm2 rm nL2 = true) (hc : vwCl[ci]? = some (C, T, Nf)) (hL : ∀ tA, L0 tA P g (M g) (N g) = some (.inr (ci, fs))) (hcat : Nat.ble (st.map fun v => v.category).sum 8 = true) (hst : st0 = as.reverse ++ .ref (P.1 g) :: st) (kk : ∀ r M' N', Q r M' N' → J X P M' N' k n E nL (pc + 3) lo (jrf P r :: st)) : J X P M N k n E nL pc lo st0 := by
  have hr0 := jRmb_ok hrm
  subst hlen
  exact j_callV o hM hd hw hn hr0.1 hc hL (Nat.le_of_ble_eq_true hcat) hst (fun v P' M' N' hq => by
    obtain ⟨r, rfl, rfl, hq⟩ := hq
    rw [hr0.2.1, hr0.2.2]
    exact kk r M' N' hq)
theorem j_callSr (o : jok X l0 y cc nL ret rm L0) {Q : Nat → jM → jN → Prop} (hM : jC l0 y2 cc2 nL2 ret2 rm2 L0 as P M N (jqr P Q)) (hd : decode cc pc = .ok (.invokestatic ix, 3)) (hw : ∀ w ∈ ([.methodLink y.cls ix y2, .static y2, .initialized y2.cls, .code y2 cc2 nL2 ret2] : List Cond), w ∈ jw_tbl) (hn : jNm y2 an) (hlen : as.length = an) (hrm : jRmb k n rm2 rm nL2 = true) (hcat : Nat.ble (st.map fun v => v.category).sum 8 = true) (hst : st0 = as.reverse ++ st) (kk : ∀ r M' N', Q r M' N' → J X P M' N' k n E nL (pc + 3) lo (jrf P r :: st)) : J X P M N k n E nL pc lo st0 := by
  have hr0 := jRmb_ok hrm
  subst hlen
  exact j_callS o hM hd hw hn hr0.1 (Nat.le_of_ble_eq_true hcat) hst (fun v P' M' N' hq => by
    obtain ⟨r, rfl, rfl, hq⟩ := hq
    rw [hr0.2.1, hr0.2.2]
    exact kk r M' N' hq)
theorem j_callSNr (o : jok X l0 y cc nL ret rm L0) {Q : Nat → jM → jN → Prop} (hM : jC l0 y2 cc2 nL2 ret2 rm2 L0 as P M N (jqr P Q)) (hd : decode cc pc = .ok (.invokestatic ix, 3)) (hw : ∀ w ∈ ([.static y2, .initialized y2.cls, .code y2 cc2 nL2 ret2] : List Cond), w ∈ jw_tbl) (hnest : (y.cls, ix, y2) ∈ jnest) (hn : jNm y2 an) (hlen : as.length = an) (hrm : jRmb k n rm2 rm nL2 = true) (hcat : Nat.ble (st.map fun v => v.category).sum 8 = true) (hst : st0 = as.reverse ++ st) (kk : ∀ r M' N', Q r M' N' → J X P M' N' k n E nL (pc + 3) lo (jrf P r :: st)) : J X P M N k n E nL pc lo st0 := by
  have hr0 := jRmb_ok hrm
  subst hlen
  exact j_callSN o hM hd hw hnest hn hr0.1 (Nat.le_of_ble_eq_true hcat) hst (fun v P' M' N' hq => by
    obtain ⟨r, rfl, rfl, hq⟩ := hq
    rw [hr0.2.1, hr0.2.2]
    exact kk r M' N' hq)
theorem j_callVv (o : jok X l0 y cc nL ret rm L0) {g ci Nf : Nat} {fs : List Value} {C : String} {T : u_T} {Q : jM → jN → Prop} (hM : jC l0 y2 cc2 nL2 ret2 rm2 L0 (.ref (P.1 g) :: as) P M N (jqv P Q)) (hd : decode cc pc = .ok (.invokevirtual ix, 3)) (hw : ∀ w ∈ ([.methodLink y.cls ix y2, .instanceMethod y2, .selects C y2 y2, .initialized y2.cls, .code y2 cc2 nL2 ret2] : List Cond), w ∈ jw_tbl) (hn : jNm y2 an) (hlen : as.length = an) (hrm : jRmb k n rm2 rm nL2 = true) (hc : vwCl[ci]? = some (C, T, Nf)) (hL : ∀ tA, L0 tA P g (M g) (N g) = some (.inr (ci, fs))) (hcat : Nat.ble (st.map fun v => v.category).sum 8 = true) (hst : st0 = as.reverse ++ .ref (P.1 g) :: st) (kk : ∀ M' N', Q M' N' → J X P M' N' k n E nL (pc + 3) lo st) : J X P M N k n E nL pc lo st0 := by
  have hr0 := jRmb_ok hrm
  subst hlen
  exact j_callV o hM hd hw hn hr0.1 hc hL (Nat.le_of_ble_eq_true hcat) hst (fun v P' M' N' hq => by
    obtain ⟨rfl, rfl, hq⟩ := hq
    rw [hr0.2.1, hr0.2.2]
    exact kk M' N' hq)
theorem j_callSv (o : jok X l0 y cc nL ret rm L0) {Q : jM → jN → Prop} (hM : jC l0 y2 cc2 nL2 ret2 rm2 L0 as P M N (jqv P Q)) (hd : decode cc pc = .ok (.invokestatic ix, 3)) (hw : ∀ w ∈ ([.methodLink y.cls ix y2, .static y2, .initialized y2.cls, .code y2 cc2 nL2 ret2] : List Cond), w ∈ jw_tbl) (hn : jNm y2 an) (hlen : as.length = an) (hrm : jRmb k n rm2 rm nL2 = true) (hcat : Nat.ble (st.map fun v => v.category).sum 8 = true) (hst : st0 = as.reverse ++ st) (kk : ∀ M' N', Q M' N' → J X P M' N' k n E nL (pc + 3) lo st) : J X P M N k n E nL pc lo st0 := by
  have hr0 := jRmb_ok hrm
  subst hlen
  exact j_callS o hM hd hw hn hr0.1 (Nat.le_of_ble_eq_true hcat) hst (fun v P' M' N' hq => by
    obtain ⟨rfl, rfl, hq⟩ := hq
    rw [hr0.2.1, hr0.2.2]
    exact kk M' N' hq)
theorem j_callSNv (o : jok X l0 y cc nL ret rm L0) {Q : jM → jN → Prop} (hM : jC l0 y2 cc2 nL2 ret2 rm2 L0 as P M N (jqv P Q)) (hd : decode cc pc = .ok (.invokestatic ix, 3)) (hw : ∀ w ∈ ([.static y2, .initialized y2.cls, .code y2 cc2 nL2 ret2] : List Cond), w ∈ jw_tbl) (hnest : (y.cls, ix, y2) ∈ jnest) (hn : jNm y2 an) (hlen : as.length = an) (hrm : jRmb k n rm2 rm nL2 = true) (hcat : Nat.ble (st.map fun v => v.category).sum 8 = true) (hst : st0 = as.reverse ++ st) (kk : ∀ M' N', Q M' N' → J X P M' N' k n E nL (pc + 3) lo st) : J X P M N k n E nL pc lo st0 := by
  have hr0 := jRmb_ok hrm
  subst hlen
  exact j_callSN o hM hd hw hnest hn hr0.1 (Nat.le_of_ble_eq_true hcat) hst (fun v P' M' N' hq => by
    obtain ⟨rfl, rfl, hq⟩ := hq
    rw [hr0.2.1, hr0.2.2]
    exact kk M' N' hq)
/-- a reference that may be null -/
theorem j_null2 (o : jok X l0 y cc nL ret rm L0) {g : Nat} {off : Int} {tgt : Nat} (hd : decode cc pc = .ok (.ifnull off, 3)) (ht : (pc : Int) + off = (tgt : Int)) (kt : g = 0 → J X P M N k n E nL tgt lo st) (kf : g ≠ 0 → J X P M N k n E nL (pc + 3) lo st) : J X P M N k n E nL pc lo (jrf P g :: st) := by
  by_cases h : g = 0
  · rw [show jrf P g = .null by rw [h]; exact jrf_0 P]
    exact j_ifnullN o hd ht (kt h)
  · rw [jrf_n P h]
    exact j_ifnull o hd (kf h)
theorem j_nonnull2 (o : jok X l0 y cc nL ret rm L0) {g : Nat} {off : Int} {tgt : Nat} (hd : decode cc pc = .ok (.ifnonnull off, 3)) (ht : (pc : Int) + off = (tgt : Int)) (kt : g ≠ 0 → J X P M N k n E nL tgt lo st) (kf : g = 0 → J X P M N k n E nL (pc + 3) lo st) : J X P M N k n E nL pc lo (jrf P g :: st) := by
  by_cases h : g = 0
  · rw [show jrf P g = .null by rw [h]; exact jrf_0 P]
    exact j_ifnonnullN o hd (kf h)
  · rw [jrf_n P h]
    exact j_ifnonnull o hd ht (kt h)
theorem j_qload (o : jok X l0 y cc nL ret rm L0) {g i : Nat} (hl : jlk lo i = some (jrf P g)) (hd : decode cc pc = .ok (.aload i, 2)) (kk : J X P M N k n E nL (pc + 2) lo (jrf P g :: st)) : J X P M N k n E nL pc lo st := by
  by_cases h : g = 0
  · have hz : jrf P g = .null := by rw [h]; exact jrf_0 P
    rw [hz] at hl kk
    exact j_aloadN o hd hl kk
  · rw [jrf_n P h] at hl kk
    exact j_aload o hd hl kk
theorem j_qload_n (o : jok X l0 y cc nL ret rm L0) {g : Nat} {i : Fin 4} (hl : jlk lo (i : Nat) = some (jrf P g)) (hd : decode cc pc = .ok (.aload_n i, 1)) (kk : J X P M N k n E nL (pc + 1) lo (jrf P g :: st)) : J X P M N k n E nL pc lo st := by
  by_cases h : g = 0
  · have hz : jrf P g = .null := by rw [h]; exact jrf_0 P
    rw [hz] at hl kk
    exact j_aload_nN o hd hl kk
  · rw [jrf_n P h] at hl kk
    exact j_aload_n o hd hl kk
theorem j_qstore (o : jok X l0 y cc nL ret rm L0) {g i : Nat} (lo' : List (Nat × Value)) (hd : decode cc pc = .ok (.astore i, 2)) (hn : i < nL) (hl : jst1 lo i (jrf P g) = lo') (kk : J X P M N k n E nL (pc + 2) lo' st) : J X P M N k n E nL pc lo (jrf P g :: st) := by
  by_cases h : g = 0
  · have hz : jrf P g = .null := by rw [h]; exact jrf_0 P
    rw [hz] at hl ⊢
    exact j_astoreN o lo' hd hn hl kk
  · rw [jrf_n P h] at hl ⊢
    exact j_astore o lo' hd hn hl kk
theorem j_qstore_n (o : jok X l0 y cc nL ret rm L0) {g : Nat} {i : Fin 4} (lo' : List (Nat × Value)) (hd : decode cc pc = .ok (.astore_n i, 1)) (hn : (i : Nat) < nL) (hl : jst1 lo (i : Nat) (jrf P g) = lo') (kk : J X P M N k n E nL (pc + 1) lo' st) : J X P M N k n E nL pc lo (jrf P g :: st) := by
  by_cases h : g = 0
  · have hz : jrf P g = .null := by rw [h]; exact jrf_0 P
    rw [hz] at hl ⊢
    exact j_astore_nN o lo' hd hn hl kk
  · rw [jrf_n P h] at hl ⊢
    exact j_astore_n o lo' hd hn hl kk
theorem j_mmax (o : jok X l0 y cc nL ret rm L0) {a b : Int32} (hd : decode cc pc = .ok (.invokestatic ix, 3)) (hw : ∀ w ∈ ([.methodLink y.cls ix Lib.Math.max.name, .static Lib.Math.max.name, .initialized "java/lang/Math", .code Lib.Math.max.name Lib.Math.max.code 2 (some .int)] : List Cond), w ∈ jw_tbl) (hrm : (Nat.ble 1 rm.frames && Nat.ble ((st.map fun v => v.category).sum + 13) rm.locals && Nat.ble k rm.cells && Nat.ble n rm.slots) = true) (kk : J X P M N k n E nL (pc + 3) lo (.int (if a < b then b else a) :: st)) : J X P M N k n E nL pc lo (.int b :: .int a :: st) := by
  obtain ⟨⟨p, l, e, R, s, m, args, below, meth, c⟩, D, tA, A, L⟩ := X
  obtain ⟨hx, hb, hml, hown, hts, hr, hK, hA, hlk, hnm, hR, hl0, hL0⟩ := o
  subst hL0 hR hl0
  intro H locs ls h1 h2 h3
  simp only [Bool.and_eq_true, Nat.ble_eq] at hrm
  exact va_mmax hx hb (hml.trans h3.1.symm) hown (hts _ (hw _ (by simp))) (hts _ (hw _ (by simp))) (hts _ (hw _ (by simp))) (hts _ (hw _ (by simp))) hrm.1.1.1 hrm.1.1.2 hrm.1.2 hrm.2 hd (kk H locs ls h1 h2 h3)
theorem j_mmin (o : jok X l0 y cc nL ret rm L0) {a b : Int32} (hd : decode cc pc = .ok (.invokestatic ix, 3)) (hw : ∀ w ∈ ([.methodLink y.cls ix Lib.Math.min.name, .static Lib.Math.min.name, .initialized "java/lang/Math", .code Lib.Math.min.name Lib.Math.min.code 2 (some .int)] : List Cond), w ∈ jw_tbl) (hrm : (Nat.ble 1 rm.frames && Nat.ble ((st.map fun v => v.category).sum + 13) rm.locals && Nat.ble k rm.cells && Nat.ble n rm.slots) = true) (kk : J X P M N k n E nL (pc + 3) lo (.int (if b < a then b else a) :: st)) : J X P M N k n E nL pc lo (.int b :: .int a :: st) := by
  obtain ⟨⟨p, l, e, R, s, m, args, below, meth, c⟩, D, tA, A, L⟩ := X
  obtain ⟨hx, hb, hml, hown, hts, hr, hK, hA, hlk, hnm, hR, hl0, hL0⟩ := o
  subst hL0 hR hl0
  intro H locs ls h1 h2 h3
  simp only [Bool.and_eq_true, Nat.ble_eq] at hrm
  exact va_mmin hx hb (hml.trans h3.1.symm) hown (hts _ (hw _ (by simp))) (hts _ (hw _ (by simp))) (hts _ (hw _ (by simp))) (hts _ (hw _ (by simp))) hrm.1.1.1 hrm.1.1.2 hrm.1.2 hrm.2 hd (kk H locs ls h1 h2 h3)
end JK
