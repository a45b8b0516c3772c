/-! THE LAW'S HEAD: the two objects and the row 'out' -/
theorem il_8 : ∀ w ∈ ([.classLink RL 8 RX11, .instantiable RX11 15, .initialized RX11] : List Cond), w ∈ jw_tbl := jw_ws [126, 127, 106] (by decide +kernel) (by decide +kernel)
theorem il_27 : ∀ w ∈ ([.classLink RL 27 RX12, .instantiable RX12 45, .initialized RX12] : List Cond), w ∈ jw_tbl := jw_ws [1194, 1195, 118] (by decide +kernel) (by decide +kernel)
theorem ic_L_24 : ∀ w ∈ ([.methodLink RL 24 yX11_init, .instanceMethod yX11_init, .initialized yX11_init.cls, .code yX11_init cX11_init 3 none] : List Cond), w ∈ jw_tbl := jw_ws [128, 129, 106, 130] (by decide +kernel) (by decide +kernel)
theorem ic_L_29 : ∀ w ∈ ([.methodLink RL 29 yX12_init, .instanceMethod yX12_init, .initialized yX12_init.cls, .code yX12_init cX12_init 3 none] : List Cond), w ∈ jw_tbl := jw_ws [1196, 1197, 118, 1198] (by decide +kernel) (by decide +kernel)
theorem ij_X11_init : jNm yX11_init 1 := by decide +kernel
theorem ij_X12_init : jNm yX12_init 1 := by decide +kernel
def szs (n : Nat) : Nat → Nat := fun i => if i = 0 then n else if i = 1 then 2 ^ n else if i = 2 then 3 ^ n else sideN n * sideN n
def Pz (n : Nat) : jP := (fun _ => 0, fun _ => false, szs n)
def Mz : jM := fun _ _ => 0
def Nz : jN := fun _ _ => 0
def hz : Nat → Int64 := fun _ => 0
theorem zM_id {M : jM} {g : Nat} (h : M g = fun _ => 0) : zM M g = M := by
  funext k
  by_cases hk : k = g
  · subst hk
    rw [zM_at, h]
  · exact zM_ne hk
theorem zN_id {N : jN} {g : Nat} (h : N g = fun _ => 0) : zN N g = N := by
  funext k
  by_cases hk : k = g
  · subst hk
    exact (if_pos rfl).trans h.symm
  · exact if_neg hk
theorem pnew_1 {P : jP} {g a k : Nat} (hk : k ≠ g) : (pnew P g a).1 k = P.1 k := if_neg hk
theorem WR_none {P : jP} {M : jM} (h : ∀ k, k < 1000 → P.2.1 k = false) : WR P M :=
  ⟨fun k j hk hp => by rw [h k hk] at hp; exact absurd hp (by decide), fun h3 i a b => by rw [h 30 (by omega)] at h3; exact absurd h3 (by decide)⟩
theorem WR.far {P : jP} {M : jM} {g a : Nat} (h : WR P M) (hg : 1000 ≤ g) : WR (pnew P g a) M := by
  refine ⟨fun k j hk hp => ?_, fun h3 i a b => pnew_mono _ (h.2 (by rw [pnew_pres (by omega)] at h3; exact h3) i a b)⟩
  rw [pnew_pres (by omega)] at hp
  exact (h.1 k j hk hp).mono pnew_mono
theorem clamp19 (a : Int32) : ∃ n : Nat, 1 ≤ n ∧ n ≤ 9 ∧ (if 1 < (if a < 9 then a else 9) then (if a < 9 then a else 9) else 1) = nI n := by
  rcases arg3 a (n := 10) (by omega) with q | ⟨-, q⟩ | ⟨j, q1, q2, -⟩
  · refine ⟨1, by omega, by omega, ?_⟩
    have e : a < 9 := Int32.lt_trans q (by decide)
    rw [if_pos e, if_neg (fun z => Int32.lt_irrefl (Int32.lt_trans q (Int32.lt_trans (by decide) z)))]
    rfl
  · refine ⟨9, by omega, by omega, ?_⟩
    have e : ¬ a < 9 := fun z => by
      have z1 := Int32.lt_iff_toInt_lt.mp z
      have z2 := Int32.le_iff_toInt_le.mp q
      rw [show (nI 10).toInt = 10 from by decide] at z2
      rw [show (9 : Int32).toInt = 9 from by decide] at z1
      omega
    rw [if_neg e, if_pos (by decide)]
    rfl
  · subst q2
    have : j = 0 ∨ j = 1 ∨ j = 2 ∨ j = 3 ∨ j = 4 ∨ j = 5 ∨ j = 6 ∨ j = 7 ∨ j = 8 ∨ j = 9 := by omega
    rcases this with rfl | rfl | rfl | rfl | rfl | rfl | rfl | rfl | rfl | rfl
    · exact ⟨1, by decide⟩
    · exact ⟨1, by decide⟩
    · exact ⟨2, by decide⟩
    · exact ⟨3, by decide⟩
    · exact ⟨4, by decide⟩
    · exact ⟨5, by decide⟩
    · exact ⟨6, by decide⟩
    · exact ⟨7, by decide⟩
    · exact ⟨8, by decide⟩
    · exact ⟨9, by decide⟩
set_option maxRecDepth 20000 in
theorem law_head {nm : String} {X : jX} {E : State → Prop} {l0 : Launch} {b Ls n : Nat} {xs : Nat → Int32} (o : jok X l0 (yLn nm) cL_law 7 (some .boolean) room_1 (LWg (LR kob LC) (LR mob LM))) (z : jzs X) (S : jSc X b Ls xs) (hL : Ls ≤ 3073) (h1 : 1 ≤ n) (h9 : n ≤ 9) (ha : (if 1 < (if cellV Ls xs < 9 then cellV Ls xs else 9) then (if cellV Ls xs < 9 then cellV Ls xs else 9) else 1) = nI n)
    (K : ∀ (P : jP) (Mc Mm : jM) (Nc Nm : jN) (h : Nat → Int64), PM P → PR P keysC → P.2.2 = szs n → bornC n Mc → bornM n Mm → J X P (cmb Mc Mm) (cmbN Nc Nm h) 100 1170000 E 7 33 (loL P b 1) []) : J X (Pz n) (cmb Mz Mz) (cmbN Nz Nz hz) 0 0 E 7 0 [(0, .ref b)] [] := by
  refine r_new (g := 1) (ci := 11) (fs := [.null, .null, .null, .null, .null, .null, .null, .null, .null, .null, .int 0, .null, .int 0, .null, .null]) o rfl jin_X11 tyX11_ok il_8 (fun j hj => by rcases (show j = 0 ∨ j = 1 ∨ j = 2 ∨ j = 3 ∨ j = 4 ∨ j = 5 ∨ j = 6 ∨ j = 7 ∨ j = 8 ∨ j = 9 ∨ j = 10 ∨ j = 11 ∨ j = 12 ∨ j = 13 ∨ j = 14 by omega) with rfl | rfl | rfl | rfl | rfl | rfl | rfl | rfl | rfl | rfl | rfl | rfl | rfl | rfl | rfl <;> rfl) (fun a tA k e hk he => new_hold (P := Pz n) rfl (by omega) (WR_none (fun k _ => rfl)) hk he) (fun a tA e he => rnew_ob (g := 1) (a := a) (P := Pz n) (ob := kob) (L := LC) (tA := tA) rfl rfl ((LWg_c (by omega)).symm.trans he)) ⟨Nat.le_of_ble_eq_true rfl, Nat.le_of_ble_eq_true rfl⟩ dL_law_0 (fun a => ?_)
  obtain ⟨P1, hP1⟩ : ∃ P9, P9 = pnew (Pz n) 1 a := ⟨_, rfl⟩
  rw [← hP1, zM_id (show cmb Mz Mz 1 = fun _ => 0 from rfl), zN_id (show cmbN Nz Nz hz 1 = fun _ => 0 from rfl)]
  have a1 : P1.1 1 = a := by rw [hP1]; exact (pnew_at _ _ _).2
  have f1 : P1.2.1 1 = true := by rw [hP1]; exact (pnew_at _ _ _).1
  have f1n : ∀ k, k ≠ 1 → P1.2.1 k = false := fun k hk => by rw [hP1]; exact if_neg hk
  have s1 : P1.2.2 = szs n := by rw [hP1]; rfl
  have r1 : PR P1 [1] := fun k _ => by
    rw [List.mem_singleton]
    by_cases hk : k = 1
    · subst hk; exact ⟨fun _ => rfl, fun _ => f1⟩
    · rw [f1n k hk]; exact ⟨fun q => absurd q (by decide), fun q => absurd q hk⟩
  clear hP1
  refine j_dup o dL_law_3 rfl ?_
  refine j_aload_n o dL_law_4 rfl ?_
  refine j_iconst o (v := 0) dL_law_5 rfl ?_
  refine j_callSC o S (c_L_cell l0 b Ls xs hL P1 (cmb Mz Mz) (cmbN Nz Nz hz)) dL_law_6 jc_L_18 (jNm_2 jnL_cell rfl) ⟨⟨Nat.le_of_ble_eq_true rfl, Nat.le_of_ble_eq_true rfl⟩, Nat.le_of_ble_eq_true rfl, Nat.le_of_ble_eq_true rfl⟩ (Nat.le_of_ble_eq_true rfl) rfl (fun v Pb Mb Nb q => ?_)
  rw [q]
  clear q Pb Mb Nb v
  refine j_conv (lo' := [(0, .ref b)]) (st' := [.int (cellV Ls xs), .ref (P1.1 1), .ref a]) rfl (by rw [a1] <;> rfl) ?_
  refine j_callIZG (φ := fun q => q) (g := 1) o z (sub_c LKf) (c_X11_init l0 P1 (cellV Ls xs) Mz Nz (fun P' M' _ => PR P' keysC ∧ P'.2.2 = P1.2.2 ∧ WR P' M' ∧ bornC n M') (i_X11 r1 (fun k _ => rfl) (by rw [s1]; rfl) (by rw [s1]; rfl) (by rw [s1]; rfl) (by rw [s1]; rfl) h1 h9 ha (fun P' M' N' a b c d => ⟨a, b, c, d⟩))) dL_law_9 rfl ic_L_24 (jNm_2 ij_X11_init rfl) ⟨⟨Nat.le_of_ble_eq_true rfl, Nat.le_of_ble_eq_true rfl⟩, Nat.le_of_ble_eq_true rfl, Nat.le_of_ble_eq_true rfl⟩ (Nat.le_of_ble_eq_true rfl) rfl (fun v Pb Mb Nb q => ?_)
  obtain ⟨ev, hE, rb, sb, wb, bC⟩ := q
  refine ⟨_, _, _, dec_kc (fun k hk => f1n k (by omega)) wb, ?_⟩
  rw [ev]
  clear ev v
  have a2 : (mixC P1 Pb).1 1 = a := (hE.1 1 f1).2.trans a1
  have f2n : ∀ k, 1000 ≤ k → (mixC P1 Pb).2.1 k = false := fun k hk => (if_neg (by omega)).trans (f1n k (by omega))
  have s2 : (mixC P1 Pb).2.2 = szs n := sb.trans s1
  have r2 : PR (mixC P1 Pb) keysC := mixC_PR rb
  have w2 : WR (mixC P1 Pb) Mb := mixC_WR rb wb bC
  generalize mixC P1 Pb = P2 at a2 f2n s2 r2 w2 ⊢
  clear hE rb sb wb Pb a1 f1 f1n s1 r1 P1
  refine j_astore_n o [(1, .ref a), (0, .ref b)] dL_law_12 (by decide) rfl ?_
  refine r_new (g := 1001) (ci := 12) (fs := [.int 0, .int 0, .int 0, .null, .int 0, .int 0, .int 0, .int 0, .int 0, .null, .int 0, .int 0, .null, .null, .null, .null, .int 0, .null, .null, .null, .null, .null, .null, .null, .null, .int 0, .int 0, .int 0, .null, .null, .null, .int 0, .null, .null, .null, .null, .null, .long 0, .null, .null, .null, .null, .null, .null, .int 0]) o rfl jin_X12 tyX12_ok il_27 (fun j hj => by rcases (show j = 0 ∨ j = 1 ∨ j = 2 ∨ j = 3 ∨ j = 4 ∨ j = 5 ∨ j = 6 ∨ j = 7 ∨ j = 8 ∨ j = 9 ∨ j = 10 ∨ j = 11 ∨ j = 12 ∨ j = 13 ∨ j = 14 ∨ j = 15 ∨ j = 16 ∨ j = 17 ∨ j = 18 ∨ j = 19 ∨ j = 20 ∨ j = 21 ∨ j = 22 ∨ j = 23 ∨ j = 24 ∨ j = 25 ∨ j = 26 ∨ j = 27 ∨ j = 28 ∨ j = 29 ∨ j = 30 ∨ j = 31 ∨ j = 32 ∨ j = 33 ∨ j = 34 ∨ j = 35 ∨ j = 36 ∨ j = 37 ∨ j = 38 ∨ j = 39 ∨ j = 40 ∨ j = 41 ∨ j = 42 ∨ j = 43 ∨ j = 44 by omega) with rfl | rfl | rfl | rfl | rfl | rfl | rfl | rfl | rfl | rfl | rfl | rfl | rfl | rfl | rfl | rfl | rfl | rfl | rfl | rfl | rfl | rfl | rfl | rfl | rfl | rfl | rfl | rfl | rfl | rfl | rfl | rfl | rfl | rfl | rfl | rfl | rfl | rfl | rfl | rfl | rfl | rfl | rfl | rfl | rfl <;> rfl) (fun a tA k e hk he => new_hold (f2n 1001 (by omega)) (by omega) w2 hk he) (fun a tA e he => ?_) ⟨Nat.le_of_ble_eq_true rfl, Nat.le_of_ble_eq_true rfl⟩ dL_law_13 (fun c => ?_)
  · have he2 := (LWg_m (L1 := LR kob LC) (L2 := LR mob LM) (tA := tA) (P := pnew P2 1001 a) (k := 1) (f := fun _ => 0) (h := fun _ => 0) (by omega)).symm.trans he
    rw [LR_ob (P := shP (pnew P2 1001 a)) (g := 1) (show (pnew P2 1001 a).2.1 1001 = true from (pnew_at _ _ _).1) mob_1] at he2
    exact (Option.some.inj he2).symm
  obtain ⟨P3, hP3⟩ : ∃ P9, P9 = pnew P2 1001 c := ⟨_, rfl⟩
  rw [← hP3, zM_id (show cmb Mb Mz 1001 = fun _ => 0 from rfl), zN_id (show cmbN Nb Nz hz 1001 = fun _ => 0 from rfl)]
  have a3 : P3.1 1 = a := by rw [hP3]; exact (pnew_1 (by decide)).trans a2
  have a3m : P3.1 1001 = c := by rw [hP3]; exact (pnew_at _ _ _).2
  have f3 : P3.2.1 1001 = true := by rw [hP3]; exact (pnew_at _ _ _).1
  have f3n : ∀ k, 1000 ≤ k → k ≠ 1001 → P3.2.1 k = false := fun k hk hn => by rw [hP3, pnew_pres hn]; exact f2n k hk
  have s3 : P3.2.2 = szs n := by rw [hP3]; exact s2
  have r3 : PR P3 keysC := fun k hk => by rw [hP3, pnew_pres (by omega)]; exact r2 k hk
  have w3 : WR P3 Mb := by rw [hP3]; exact w2.far (by omega)
  clear hP3 a2 f2n s2 r2 w2 P2
  have r3m : PR (shP P3) [1] := fun k _ => by
    rw [List.mem_singleton, shP_2]
    by_cases hk : k = 1
    · subst hk; exact ⟨fun _ => rfl, fun _ => f3⟩
    · rw [f3n (k + 1000) (by omega) (by omega)]; exact ⟨fun q => absurd q (by decide), fun q => absurd q hk⟩
  refine j_dup o dL_law_16 rfl ?_
  refine j_aload_n o dL_law_17 rfl ?_
  refine j_iconst o (v := 0) dL_law_18 rfl ?_
  refine j_callSC o S (c_L_cell l0 b Ls xs hL P3 (cmb Mb Mz) (cmbN Nb Nz hz)) dL_law_19 jc_L_18 (jNm_2 jnL_cell rfl) ⟨⟨Nat.le_of_ble_eq_true rfl, Nat.le_of_ble_eq_true rfl⟩, Nat.le_of_ble_eq_true rfl, Nat.le_of_ble_eq_true rfl⟩ (Nat.le_of_ble_eq_true rfl) rfl (fun v Pb M9 N9 q => ?_)
  rw [q]
  clear q Pb M9 N9 v
  refine j_conv (lo' := [(1, .ref a), (0, .ref b)]) (st' := [.int (cellV Ls xs), .ref ((shP P3).1 1), .ref c]) rfl (by rw [shP_1, show 1 + 1000 = 1001 from rfl, a3m] <;> rfl) ?_
  refine j_callIZG (φ := fun q => q + 1000) (g := 1) o z (sub_m LMKf) ((c_X12_init l0 (shP P3) (cellV Ls xs) Mz Nz (fun P' M' _ => PR P' keysM ∧ bornM n M') (i_X12 r3m (fun k _ => rfl) h1 h9 ha (fun P' M' N' a b c => ⟨a, c⟩))).toZ) dL_law_22 rfl ic_L_29 (jNm_2 ij_X12_init rfl) ⟨⟨Nat.le_of_ble_eq_true rfl, Nat.le_of_ble_eq_true rfl⟩, Nat.le_of_ble_eq_true rfl, Nat.le_of_ble_eq_true rfl⟩ (Nat.le_of_ble_eq_true rfl) rfl (fun v Pb Mn Nn q => ?_)
  obtain ⟨ev, hE, rb, bM⟩ := q
  refine ⟨_, _, _, dec_km w3 hE, ?_⟩
  rw [ev]
  clear ev v
  have a4 : (mixM P3 Pb).1 1 = a := (mixM_c (Or.inl (by omega))).1.trans a3
  have a4m : (mixM P3 Pb).1 1001 = c := (mixM_old hE f3).trans a3m
  have f4 : ∀ k, 1001 ≤ k → k ≤ 1029 → (mixM P3 Pb).2.1 k = true := fun k h1 h2 => by
    obtain ⟨j, rfl⟩ : ∃ j, k = j + 1000 := ⟨k - 1000, by omega⟩
    rw [(mixM_m (by omega)).2]
    refine rb.yes j (by omega) ?_
    simp only [keysM, List.mem_cons, List.not_mem_nil, or_false]
    omega
  have f4n : (mixM P3 Pb).2.1 2000 = false := (mixM_c (Or.inr (by omega))).2.trans (f3n 2000 (by omega) (by omega))
  have s4 : (mixM P3 Pb).2.2 = szs n := s3
  have r4 : PR (mixM P3 Pb) keysC := fun k hk => by rw [(mixM_c (Or.inl hk)).2]; exact r3 k hk
  have w4 : WR (mixM P3 Pb) Mb := mixM_WR w3 hE
  generalize mixM P3 Pb = P4 at a4 a4m f4 f4n s4 r4 w4 ⊢
  clear hE rb Pb a3 a3m f3 f3n s3 r3 w3 r3m P3
  refine j_astore_n o [(2, .ref c), (1, .ref a), (0, .ref b)] dL_law_25 (by decide) rfl ?_
  refine j_iconst o (v := 1) dL_law_26 rfl ?_
  refine r_newarr (g := 2000) (ti := 1) (nn := 1) (B := 1) (atype := .long) (ty := .long) (a0 := (1, .inr (.inl (fun _ => 0)))) o rfl (fun _ => rfl) (fun _ _ h => h) (fun _ => rfl) (iz_long _ List.mem_cons_self) rfl (Nat.le_refl _) (Nat.le_of_ble_eq_true rfl) (Nat.le_of_ble_eq_true rfl) (fun a tA k e hk he => new_hold f4n (by omega) w4 hk he) (fun a tA e he => ?_) ⟨Nat.le_of_ble_eq_true rfl, Nat.le_of_ble_eq_true rfl⟩ dL_law_27 (fun d => ?_)
  · rw [LWg_o (pnew_at _ _ _).1] at he
    exact (Option.some.inj he).symm
  obtain ⟨P5, hP5⟩ : ∃ P9, P9 = pnew P4 2000 d := ⟨_, rfl⟩
  rw [← hP5, zM_id (show cmb Mb Mn 2000 = fun _ => 0 from rfl), zN_id (show cmbN Nb Nn hz 2000 = fun _ => 0 from rfl)]
  have a5 : P5.1 1 = a := by rw [hP5]; exact (pnew_1 (by decide)).trans a4
  have a5m : P5.1 1001 = c := by rw [hP5]; exact (pnew_1 (by decide)).trans a4m
  have a5o : P5.1 2000 = d := by rw [hP5]; exact (pnew_at _ _ _).2
  have pm : PM P5 := ⟨fun k h1 h2 => by rw [hP5]; exact pnew_mono _ (f4 k h1 h2), by rw [hP5]; exact (pnew_at _ _ _).1⟩
  have s5 : P5.2.2 = szs n := by rw [hP5]; exact s4
  have r5 : PR P5 keysC := fun k hk => by rw [hP5, pnew_pres (by omega)]; exact r4 k hk
  clear hP5 a4 a4m f4 f4n s4 r4 w4 P4
  refine j_astore_n o [(3, .ref d), (2, .ref c), (1, .ref a), (0, .ref b)] dL_law_29 (by decide) rfl ?_
  refine j_iconst o (v := 1) dL_law_30 rfl ?_
  refine j_istore o [(4, .int 1), (3, .ref d), (2, .ref c), (1, .ref a), (0, .ref b)] dL_law_31 (by decide) rfl ?_
  refine j_widen (k' := 100) (n' := 1170000) (Nat.le_of_ble_eq_true rfl) (Nat.le_of_ble_eq_true rfl) ?_
  refine j_conv (lo' := [(4, .int (nI 1)), (3, .ref (P5.1 2000)), (2, .ref (P5.1 1001)), (1, .ref (P5.1 1)), (0, .ref b)]) (st' := []) (by rw [a5, a5m, a5o] <;> rfl) rfl ?_
  refine j_sub (loL P5 b 1) rfl (fun q hq => ?_) (K P5 Mb Mn Nb Nn hz pm r5 s5 bC bM)
  simp only [List.mem_cons, List.not_mem_nil, or_false] at hq ⊢
  rcases hq with rfl | rfl | rfl | rfl | rfl
  · exact Or.inl rfl
  · exact Or.inr (Or.inr (Or.inr (Or.inr rfl)))
  · exact Or.inr (Or.inr (Or.inr (Or.inl rfl)))
  · exact Or.inr (Or.inr (Or.inl rfl))
  · exact Or.inr (Or.inl rfl)
