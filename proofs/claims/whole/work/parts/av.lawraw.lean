/-! THE LAW'S WORLD WHILE THE OBJECTS ARE BEING MADE -/
abbrev LWK : jL := LWg (LR kob LC) (LR mob LM)
theorem LKf : jFar (LR kob LC) := LR_far kob_far LC_far
theorem LMKf : jFar (LR mob LM) := LR_far mob_far LM_far
theorem LWK_absent {P : jP} {k : Nat} (hp : P.2.1 k = false) {tA : Nat → ClassId} {f : Nat → Int32} {h : Nat → Int64} : LWg (LR kob LC) (LR mob LM) tA P k f h = none := by
  by_cases h1 : k < 1000
  · rw [LWg_c h1]; exact LR_no hp tA f h
  · by_cases h2 : k < 2000
    · obtain ⟨j, rfl⟩ : ∃ j, k = j + 1000 := ⟨k - 1000, by omega⟩
      rw [LWg_m (by omega)]
      exact LR_no (P := shP P) hp tA f h
    · by_cases h3 : k = 2000
      · subst h3
        unfold LWg
        rw [if_neg (by decide), if_neg (by decide), if_neg (fun z => by rw [hp] at z; exact absurd z.2 (by decide))]
      · exact LWg_far (by omega)
theorem refD_dyn {k j : Nat} (h : refD k j = 1001) (hk : k < 1000) : k = 11 ∨ k = 12 ∨ (k = 4 ∧ j = 9) ∨ (k = 8 ∧ (j = 6 ∨ j = 7)) := by
  by_cases k11 : k = 11
  · exact Or.inl k11
  · by_cases k12 : k = 12
    · exact Or.inr (Or.inl k12)
    · unfold refD at h
      rw [if_neg k11, if_neg k12] at h
      cases e : kob k with
      | none =>
        rw [e] at h
        exact absurd (show (0 : Nat) = 1001 from h) (by decide)
      | some x =>
        rw [e] at h
        have h : (x.2[j]?).getD 0 = 1001 := h
        cases ej : x.2[j]? with
        | none =>
          rw [ej] at h
          exact absurd (show (0 : Nat) = 1001 from h) (by decide)
        | some d =>
          rw [ej] at h
          have hd : d = 1001 := h
          subst hd
          by_cases k0 : 11 ≤ k
          · unfold kob at e
            rw [if_pos (by rw [Nat.ble_eq]; exact k0)] at e
            split at e
            · rename_i hc
              simp only [Bool.and_eq_true, Nat.ble_eq, Nat.blt_eq] at hc
              cases e
              have := List.mem_of_getElem? ej
              simp only [List.mem_cons, List.not_mem_nil, or_false] at this
              omega
            · split at e
              · rename_i hc
                simp only [Bool.and_eq_true, Nat.ble_eq, Nat.blt_eq] at hc
                cases e
                have := List.mem_of_getElem? ej
                simp only [List.mem_cons, List.not_mem_nil, or_false] at this
                omega
              · cases e
          · have small : ∀ k, k < 11 → ∀ x, kob k = some x → ∀ j, j < x.2.length → x.2[j]? = some 1001 → (k = 4 ∧ j = 9) ∨ (k = 8 ∧ (j = 6 ∨ j = 7)) := by
              intro k hk x hx
              have : k = 0 ∨ k = 1 ∨ k = 2 ∨ k = 3 ∨ k = 4 ∨ k = 5 ∨ k = 6 ∨ k = 7 ∨ k = 8 ∨ k = 9 ∨ k = 10 := by omega
              rcases this with rfl | rfl | rfl | rfl | rfl | rfl | rfl | rfl | rfl | rfl | rfl
              all_goals (cases hx)
              all_goals (dsimp only; decide +kernel)
            exact Or.inr (Or.inr (small k (by omega) x e j (List.getElem?_eq_some_iff.mp ej).1 ej))
theorem mobL_in : ∀ d ∈ mobL, d = 0 ∨ d = 1000 ∨ (2 ≤ d ∧ d ≤ 29) := by decide +kernel
section LRW
variable {P Pb : jP} {Mc Mm : jM} {Nc Nm : jN} {h : Nat → Int64}
/-- another key comes: what is there reads as before -/
theorem new_hold {g a : Nat} (hg : P.2.1 g = false) (hg2 : ∀ d, 2 ≤ d → d ≤ 29 → d + 1000 ≠ g) (hW : WR P Mc) {tA : Nat → ClassId} {k : Nat} {e : va_E} (hk : k ≠ g) (he : LWg (LR kob LC) (LR mob LM) tA (pnew P g a) k (zM (cmb Mc Mm) g k) (zN (cmbN Nc Nm h) g k) = some e) : LWg (LR kob LC) (LR mob LM) tA P k (cmb Mc Mm k) (cmbN Nc Nm h k) = some e := by
  have zn : zN (cmbN Nc Nm h) g k = cmbN Nc Nm h k := if_neg hk
  rw [zM_ne hk, zn] at he
  have ef : (pnew P g a).2.1 k = P.2.1 k := if_neg hk
  by_cases hp : P.2.1 k = true
  · by_cases h1 : k < 1000
    · rw [LWg_c h1, cmb_c h1] at he ⊢
      rw [← hW.same (P' := pnew P g a) hp ef rfl (fun d hd => if_neg (fun z => by rw [z, hg] at hd; exact absurd hd (by decide)))]
      exact he
    · by_cases h2 : k < 2000
      · obtain ⟨j, rfl⟩ : ∃ j, k = j + 1000 := ⟨k - 1000, by omega⟩
        rw [LWg_m (by omega)] at he ⊢
        rw [← LMK_same (P := shP P) (P' := shP (pnew P g a)) ef (fun _ i d hd d0 d1 _ => if_neg (by
          rcases mobL_in d (List.mem_of_getElem? hd) with q | q | ⟨q1, q2⟩
          · exact absurd q d0
          · exact absurd q d1
          · exact hg2 d q1 q2))]
        exact he
      · by_cases h3 : k = 2000
        · subst h3
          rw [LWg_o (ef.trans hp)] at he
          rw [LWg_o hp]
          exact he
        · rw [LWg_far (by omega)] at he
          cases he
  · have hp' : P.2.1 k = false := by
      cases x : P.2.1 k with
      | true => exact absurd x hp
      | false => rfl
    rw [LWK_absent (ef.trans hp')] at he
    cases he
/-- the class's keys as its maker leaves them -/
def mixC (P Pb : jP) : jP := (Pb.1, fun k => if k < 1000 then Pb.2.1 k else P.2.1 k, Pb.2.2)
theorem mixC_WR {n : Nat} {M : jM} (hP : PR Pb keysC) (hW : WR Pb M) (hC : bornC n M) : WR (mixC P Pb) M := by
  have fl : ∀ k, k < 1000 → (mixC P Pb).2.1 k = Pb.2.1 k := fun k hk => if_pos hk
  refine ⟨fun k j hk hp => ?_, fun h30 i a b => by rw [fl i (by omega)]; exact hW.2 (by rw [← fl 30 (by omega)]; exact h30) i a b⟩
  rw [fl k hk] at hp
  rcases hW.1 k j hk hp with q | q | q | ⟨q, q2⟩ | ⟨q, q2⟩
  · exact Or.inl q
  · exact Or.inr (Or.inl q)
  · exact Or.inr (Or.inr (Or.inl q))
  · obtain ⟨-, -, -, -, ⟨-, c49⟩, -, -, -, ⟨c86, c87, -⟩, -, -, ⟨c11, c12⟩, -⟩ := hC
    rcases refD_dyn q hk with rfl | rfl | ⟨rfl, rfl⟩ | ⟨rfl, rfl | rfl⟩
    · exact Or.inr (Or.inr (Or.inl (by rw [c11])))
    · exact Or.inr (Or.inr (Or.inl (by rw [c12])))
    · refine Or.inr (Or.inr (Or.inr (Or.inl ⟨q, ?_⟩)))
      rw [c49, nI_clamp (by omega)] at q2 ⊢
      rw [fl 128 (by omega)]
      exact q2
    · exact Or.inr (Or.inr (Or.inl c86))
    · exact Or.inr (Or.inr (Or.inl c87))
  · refine Or.inr (Or.inr (Or.inr (Or.inr ⟨q, ?_⟩)))
    rcases Nat.lt_or_ge (refD k j) 1000 with z | z
    · rw [fl _ z]; exact q2
    · exfalso
      have hlt : ∀ k j, k < 1000 → refD k j ≠ 1001 → refD k j < 1000 := by
        intro k j hk hn
        unfold refD at hn ⊢
        by_cases k11 : k = 11
        · rw [if_pos k11] at hn; exact absurd rfl hn
        · rw [if_neg k11] at hn ⊢
          by_cases k12 : k = 12
          · rw [if_pos k12] at hn; exact absurd rfl hn
          · rw [if_neg k12] at hn ⊢
            cases e : kob k with
            | none => show (0 : Nat) < 1000; omega
            | some x =>
              rw [e] at hn
              have hn : (x.2[j]?).getD 0 ≠ 1001 := hn
              show (x.2[j]?).getD 0 < 1000
              cases ej : x.2[j]? with
              | none => show (0 : Nat) < 1000; omega
              | some d =>
                rw [ej] at hn
                have hn : d ≠ 1001 := hn
                show d < 1000
                by_cases k0 : 11 ≤ k
                · unfold kob at e
                  rw [if_pos (by rw [Nat.ble_eq]; exact k0)] at e
                  split at e
                  · rename_i hc
                    simp only [Bool.and_eq_true, Nat.ble_eq, Nat.blt_eq] at hc
                    cases e
                    have := List.mem_of_getElem? ej
                    simp only [List.mem_cons, List.not_mem_nil, or_false] at this
                    omega
                  · split at e
                    · rename_i hc
                      simp only [Bool.and_eq_true, Nat.ble_eq, Nat.blt_eq] at hc
                      cases e
                      have := List.mem_of_getElem? ej
                      simp only [List.mem_cons, List.not_mem_nil, or_false] at this
                      omega
                    · cases e
                · have small : ∀ k, k < 11 → ∀ x, kob k = some x → ∀ d ∈ x.2, d ≠ 1001 → d < 1000 := by
                    intro k hk x hx
                    have : k = 0 ∨ k = 1 ∨ k = 2 ∨ k = 3 ∨ k = 4 ∨ k = 5 ∨ k = 6 ∨ k = 7 ∨ k = 8 ∨ k = 9 ∨ k = 10 := by omega
                    rcases this with rfl | rfl | rfl | rfl | rfl | rfl | rfl | rfl | rfl | rfl | rfl
                    all_goals (cases hx)
                    all_goals (dsimp only; decide +kernel)
                  exact small k (by omega) x e d (List.mem_of_getElem? ej) hn
      exact absurd (hlt k j hk q) (by omega)
theorem mixC_PR (hP : PR Pb keysC) : PR (mixC P Pb) keysC := fun k hk => by
  have e : (mixC P Pb).2.1 k = Pb.2.1 k := if_pos hk
  rw [e]; exact hP k hk
theorem dec_kc {Mb : jM} {Nb : jN} (hP : ∀ k, 1000 ≤ k → P.2.1 k = false) (hW : WR Pb Mb) : jDec (LWg (LR kob LC) (LR mob LM)) P (cmb Mc Mm) (cmbN Nc Nm h) (LR kob LC) P Mc Nc (fun k => k) Pb Mb Nb (mixC P Pb) (cmb Mb Mm) (cmbN Nb Nm h) := by
  intro tA j e he
  by_cases hj : j < 1000
  · refine Or.inl ⟨j, rfl, ?_, rfl⟩
    have ef : (mixC P Pb).2.1 j = Pb.2.1 j := if_pos hj
    by_cases hp : Pb.2.1 j = true
    · rw [LWg_c hj, cmb_c hj, cmbN_c hj, hW.same (P' := mixC P Pb) hp ef rfl (fun d _ => rfl)] at he
      exact he
    · rw [LWK_absent (ef.trans (by
        cases x : Pb.2.1 j with
        | true => exact absurd x hp
        | false => rfl))] at he
      cases he
  · have ef : (mixC P Pb).2.1 j = P.2.1 j := if_neg hj
    rw [LWK_absent (ef.trans (hP j (by omega)))] at he
    cases he
/-- the reference's keys as its maker leaves them -/
def mixM (P Pb : jP) : jP := (fun k => if 1000 ≤ k ∧ k < 2000 then Pb.1 (k - 1000) else P.1 k, fun k => if 1000 ≤ k ∧ k < 2000 then Pb.2.1 (k - 1000) else P.2.1 k, P.2.2)
theorem mixM_c {k : Nat} (hk : k < 1000 ∨ 2000 ≤ k) : (mixM P Pb).1 k = P.1 k ∧ (mixM P Pb).2.1 k = P.2.1 k := ⟨if_neg (by omega), if_neg (by omega)⟩
theorem mixM_1 (k : Nat) : (mixM P Pb).1 k = if 1000 ≤ k ∧ k < 2000 then Pb.1 (k - 1000) else P.1 k := rfl
theorem mixM_2 (k : Nat) : (mixM P Pb).2.1 k = if 1000 ≤ k ∧ k < 2000 then Pb.2.1 (k - 1000) else P.2.1 k := rfl
theorem shP_1 (P : jP) (k : Nat) : (shP P).1 k = P.1 (k + 1000) := rfl
theorem shP_2 (P : jP) (k : Nat) : (shP P).2.1 k = P.2.1 (k + 1000) := rfl
theorem mixM_m {k : Nat} (hk : k < 1000) : (mixM P Pb).1 (k + 1000) = Pb.1 k ∧ (mixM P Pb).2.1 (k + 1000) = Pb.2.1 k := by
  have e : 1000 ≤ k + 1000 ∧ k + 1000 < 2000 := by omega
  have e2 : k + 1000 - 1000 = k := Nat.add_sub_cancel k 1000
  rw [mixM_1, mixM_2, if_pos e, if_pos e, e2]
  exact ⟨rfl, rfl⟩
theorem mixM_sh {k : Nat} (hk : k < 1000) : (shP (mixM P Pb)).1 k = Pb.1 k ∧ (shP (mixM P Pb)).2.1 k = Pb.2.1 k := by
  rw [shP_1, shP_2]
  exact mixM_m hk
theorem mixM_old (hE : Pext (shP P) Pb) {d : Nat} (hd : P.2.1 d = true) : (mixM P Pb).1 d = P.1 d := by
  by_cases z : 1000 ≤ d ∧ d < 2000
  · obtain ⟨j, rfl⟩ : ∃ j, d = j + 1000 := ⟨d - 1000, by omega⟩
    rw [(mixM_m (by omega)).1]
    exact (hE.1 j hd).2
  · exact (mixM_c (by omega)).1
theorem mixM_WR (hW : WR P Mc) (hE : Pext (shP P) Pb) : WR (mixM P Pb) Mc := by
  have up : ∀ d, P.2.1 d = true → (mixM P Pb).2.1 d = true := by
    intro d hd
    by_cases z : 1000 ≤ d ∧ d < 2000
    · obtain ⟨j, rfl⟩ : ∃ j, d = j + 1000 := ⟨d - 1000, by omega⟩
      rw [(mixM_m (by omega)).2]
      exact (hE.1 j hd).1
    · rw [(mixM_c (by omega)).2]; exact hd
  refine ⟨fun k j hk hp => ?_, fun h30 i a b => up i (hW.2 (by rw [← (mixM_c (P := P) (Pb := Pb) (Or.inl (show 30 < 1000 by omega))).2]; exact h30) i a b)⟩
  rw [(mixM_c (Or.inl hk)).2] at hp
  rcases hW.1 k j hk hp with q | q | q | ⟨q, q2⟩ | ⟨q, q2⟩
  · exact Or.inl q
  · exact Or.inr (Or.inl q)
  · exact Or.inr (Or.inr (Or.inl q))
  · exact Or.inr (Or.inr (Or.inr (Or.inl ⟨q, up _ q2⟩)))
  · exact Or.inr (Or.inr (Or.inr (Or.inr ⟨q, up _ q2⟩)))
theorem dec_km {Mb : jM} {Nb : jN} (hW : WR P Mc) (hE : Pext (shP P) Pb) : jDec (LWg (LR kob LC) (LR mob LM)) P (cmb Mc Mm) (cmbN Nc Nm h) (LR mob LM) (shP P) Mm Nm (fun k => k + 1000) Pb Mb Nb (mixM P Pb) (cmb Mc Mb) (cmbN Nc Nb h) := by
  intro tA j e he
  by_cases hj : 1000 ≤ j ∧ j < 2000
  · obtain ⟨k, rfl⟩ : ∃ k, j = k + 1000 := ⟨j - 1000, by omega⟩
    have hk : k < 1000 := by omega
    refine Or.inl ⟨k, rfl, ?_, (mixM_m hk).1⟩
    rw [LWg_m hk, cmb_m hk, cmbN_m hk] at he
    rw [← LMK_same (P := Pb) (P' := shP (mixM P Pb)) (mixM_sh hk).2 (fun _ i d hd d0 d1 _ => (mixM_sh (k := d) (by
      rcases mobL_in d (List.mem_of_getElem? hd) with q | q | ⟨q1, q2⟩
      · exact absurd q d0
      · exact absurd q d1
      · omega)).1)]
    exact he
  · have ef := (mixM_c (P := P) (Pb := Pb) (show j < 1000 ∨ 2000 ≤ j by omega))
    refine Or.inr ⟨?_, ef.1, fun k' x hx => ?_⟩
    · by_cases hp : P.2.1 j = true
      · by_cases h1 : j < 1000
        · rw [LWg_c h1, cmb_c h1, cmbN_c h1, hW.same (P' := mixM P Pb) hp ef.2 rfl (fun d hd => mixM_old hE hd)] at he
          rw [LWg_c h1, cmb_c h1, cmbN_c h1]
          exact he
        · by_cases h3 : j = 2000
          · subst h3
            rw [LWg_o (ef.2.trans hp)] at he
            rw [LWg_o hp]
            exact he
          · rw [LWg_far (by omega)] at he
            cases he
      · rw [LWK_absent (ef.2.trans (by
          cases x : P.2.1 j with
          | true => exact absurd x hp
          | false => rfl))] at he
        cases he
    · have := jlt LMKf hx
      show k' + 1000 ≠ j
      omega
/-- all is made: the raw world reads as the finished one -/
theorem LWK_LW {n : Nat} (hP : PM P) (hC : PR P keysC) (bC : bornC n Mc) (bM : bornM n Mm) (tA : Nat → ClassId) (k : Nat) : LWg (LR kob LC) (LR mob LM) tA P k (cmb Mc Mm k) (cmbN Nc Nm h k) = LWg LC LM tA P k (cmb Mc Mm k) (cmbN Nc Nm h k) := by
  by_cases h1 : k < 1000
  · rw [LWg_c h1, LWg_c h1, cmb_c h1]
    refine LK_LC (fun q a b => hC.yes q (by omega) ?_) (fun hp j hr z => ?_) tA _
    · simp only [keysC, List.mem_cons, List.not_mem_nil, or_false]
      omega
    · rw [bC.1 k j ((hC k h1).mp hp) hr] at z
      exact absurd z (by decide)
  · by_cases h2 : k < 2000
    · obtain ⟨j, rfl⟩ : ∃ j, k = j + 1000 := ⟨k - 1000, by omega⟩
      rw [LWg_m (by omega), LWg_m (by omega), cmb_m (by omega)]
      exact LMK_LM (fun q a b => hP.1 (q + 1000) (by omega) (by omega)) (fun hj i d hd d0 d1 z => by
        rw [hj, bM.1 i d hd d0 d1] at z
        exact absurd z (by decide)) tA
    · by_cases h3 : k = 2000
      · subst h3
        rw [LWg_o hP.2, LWg_o hP.2]
      · rw [LWg_far (by omega), LWg_far (by omega)]
end LRW
