/-! WHAT SPEAKS OF WHAT: references in the class's tables are to keys that are there -/
/-- the key that a cell of the tables turns on; 1001: the key that it names -/
def refD (k j : Nat) : Nat := if k = 11 then 1001 else if k = 12 then 1001 else match kob k with
  | some x => (x.2[j]?).getD 0
  | none => 0
def wok (P : jP) (d : Nat) (v : Int32) : Prop := d = 0 ∨ d = 1000 ∨ v = 0 ∨ (d = 1001 ∧ P.2.1 v.toNatClampNeg = true) ∨ (d ≠ 1001 ∧ P.2.1 d = true)
def WR (P : jP) (M : jM) : Prop := (∀ k j, k < 1000 → P.2.1 k = true → wok P (refD k j) (M k j)) ∧ (P.2.1 30 = true → ∀ i, 31 ≤ i → i ≤ 34 → P.2.1 i = true)
theorem rfls_eqP {P P' : jP} {f : Nat → Int32} {h : Nat → Int64} (ds : List Nat) (i : Nat) (hd : ∀ j d, ds[j]? = some d → rfv P f h (i + j) d = rfv P' f h (i + j) d) : rfls P f h i ds = rfls P' f h i ds := by
  apply List.ext_getElem?
  intro j
  rw [rfls_get, rfls_get]
  cases e : ds[j]? with
  | none => rfl
  | some d =>
    show some (rfv P f h (i + j) d) = some (rfv P' f h (i + j) d)
    rw [hd j d e]
theorem kob_lt {k : Nat} {x : Nat × List Nat} (h : kob k = some x) : k < 1000 := by
  rcases Nat.lt_or_ge k 1000 with z | z
  · exact z
  · rw [kob_far k z] at h; cases h
theorem refD_ob {k j d : Nat} {x : Nat × List Nat} (h : kob k = some x) (hj : x.2[j]? = some d) : refD k j = d := by
  have h11 : k ≠ 11 := fun z => by rw [z] at h; cases h
  have h12 : k ≠ 12 := fun z => by rw [z] at h; cases h
  unfold refD
  rw [if_neg h11, if_neg h12, h]
  show (x.2[j]?).getD 0 = d
  rw [hj]
  rfl
theorem clamp_0 : (0 : Int32).toNatClampNeg = 0 := by decide
/-- a cell reads the same in two worlds that agree on what is there -/
theorem WR.same {P P' : jP} {M : jM} (h : WR P M) {k : Nat} (hpk : P.2.1 k = true) (e1 : P'.2.1 k = P.2.1 k) (e2 : P'.2.2 = P.2.2) (e3 : ∀ d, P.2.1 d = true → P'.1 d = P.1 d) (tA : Nat → ClassId) (hh : Nat → Int64) : LR kob LC tA P' k (M k) hh = LR kob LC tA P k (M k) hh := by
  have hpk' : P'.2.1 k = true := e1.trans hpk
  have dyn : ∀ v : Int32, (v = 0 ∨ P.2.1 v.toNatClampNeg = true) → jrf P' v.toNatClampNeg = jrf P v.toNatClampNeg := by
    intro v hv
    rcases hv with hv | hv
    · rw [hv, clamp_0, jrf_0, jrf_0]
    · unfold jrf
      rw [e3 _ hv]
  have dyo : ∀ v : Int32, (v = 0 ∨ P.2.1 v.toNatClampNeg = true) → jro P' v.toNatClampNeg = jro P v.toNatClampNeg := by
    intro v hv
    unfold jro
    rcases hv with hv | hv
    · rw [hv, clamp_0, if_pos rfl, if_pos rfl]
    · rw [e3 _ hv]
  have row : ∀ j, refD k j = 1001 → k < 1000 → (M k j = 0 ∨ P.2.1 (M k j).toNatClampNeg = true) := by
    intro j hd hk
    have := h.1 k j hk hpk
    rw [hd] at this
    rcases this with z | z | z | z | z
    · exact absurd z (by decide)
    · exact absurd z (by decide)
    · exact Or.inl z
    · exact Or.inr z.2
    · exact absurd rfl z.1
  cases hob : kob k with
  | some x =>
    obtain ⟨ci, ds⟩ := x
    rw [LR_ob hpk' hob, LR_ob hpk hob]
    congr 3
    refine (rfls_eqP ds 0 (fun j d hj => ?_)).symm
    rw [Nat.zero_add]
    have hr := refD_ob hob hj
    have hw := h.1 k j (kob_lt hob) hpk
    rw [hr] at hw
    by_cases d0 : d = 0
    · subst d0; rfl
    · by_cases d1 : d = 1000
      · subst d1; rfl
      · by_cases d2 : d = 1001
        · subst d2
          exact (dyn _ (row j hr (kob_lt hob))).symm
        · unfold rfv
          rw [if_neg d0, if_neg d1, if_neg d2, if_neg d0, if_neg d1, if_neg d2]
          rcases hw with z | z | z | z | z
          · exact absurd z d0
          · exact absurd z d1
          · rw [if_pos z, if_pos z]
          · exact absurd z.1 d2
          · rw [e3 _ z.2]
  | none =>
    rw [LR_ar hpk' hob, LR_ar hpk hob]
    rcases Nat.lt_or_ge k 1000 with hk | hk
    · by_cases hc : 45 ≤ k ∨ (31 ≤ k ∧ k ≤ 34)
      · rw [LC_dyn hc, LC_dyn hc]
        have n1 : ∀ P2 : jP, cLw P2 k = false := fun P2 => by
          cases e : cLw P2 k with
          | false => rfl
          | true => rw [kob_lw e] at hob; cases hob
        have n2 : ∀ P2 : jP, cFm P2 k = false := fun P2 => by
          cases e : cFm P2 k with
          | false => rfl
          | true => rw [kob_fm e] at hob; cases hob
        have ec : cIA P' k = cIA P k := by
          unfold cIA
          rw [e1, e2]
        unfold cdyn
        rw [ec, n1 P', n1 P, n2 P', n2 P]
        cases cIA P k with
        | some nn => rfl
        | none => rfl
      · have hs : k = 0 ∨ k = 1 ∨ k = 2 ∨ k = 3 ∨ k = 4 ∨ k = 5 ∨ k = 6 ∨ k = 7 ∨ k = 8 ∨ k = 9 ∨ k = 10 ∨ k = 11 ∨ k = 12 ∨ k = 30 ∨ (13 ≤ k ∧ k ≤ 29) ∨ (35 ≤ k ∧ k ≤ 44) := by omega
        rcases hs with z | z | z | z | z | z | z | z | z | z | z | z | z | z | z | z
        · subst z; rfl
        · subst z; cases hob
        · subst z; cases hob
        · subst z; cases hob
        · subst z; cases hob
        · subst z; cases hob
        · subst z; cases hob
        · subst z; cases hob
        · subst z; cases hob
        · subst z; cases hob
        · subst z; cases hob
        · subst z
          show some (Sum.inl (tA 4, 6, Sum.inr (Sum.inr (Sum.inr (Sum.inr (fun j => jro P' (M 11 j).toNatClampNeg)))))) = some (Sum.inl (tA 4, 6, Sum.inr (Sum.inr (Sum.inr (Sum.inr (fun j => jro P (M 11 j).toNatClampNeg))))))
          have : (fun j => jro P' (M 11 j).toNatClampNeg) = fun j => jro P (M 11 j).toNatClampNeg := funext fun j => dyo _ (row j rfl hk)
          rw [this]
        · subst z
          show some (Sum.inl (tA 5, 6, Sum.inr (Sum.inr (Sum.inr (Sum.inr (fun j => jro P' (M 12 j).toNatClampNeg)))))) = some (Sum.inl (tA 5, 6, Sum.inr (Sum.inr (Sum.inr (Sum.inr (fun j => jro P (M 12 j).toNatClampNeg))))))
          have : (fun j => jro P' (M 12 j).toNatClampNeg) = fun j => jro P (M 12 j).toNatClampNeg := funext fun j => dyo _ (row j rfl hk)
          rw [this]
        · subst z
          show some (Sum.inl (tA 6, 4, Sum.inr (Sum.inr (Sum.inr (Sum.inr (fun j => if j < 4 then jro P' (31 + j) else none)))))) = some (Sum.inl (tA 6, 4, Sum.inr (Sum.inr (Sum.inr (Sum.inr (fun j => if j < 4 then jro P (31 + j) else none))))))
          have : (fun j => if j < 4 then jro P' (31 + j) else none) = fun j => if j < 4 then jro P (31 + j) else none := by
            funext j
            by_cases hj : j < 4
            · rw [if_pos hj, if_pos hj]
              unfold jro
              rw [e3 _ (h.2 hpk (31 + j) (by omega) (by omega))]
            · rw [if_neg hj, if_neg hj]
          rw [this]
        · obtain ⟨z1, z2⟩ := z
          have hs : k = 13 ∨ k = 14 ∨ k = 15 ∨ k = 16 ∨ k = 17 ∨ k = 18 ∨ k = 19 ∨ k = 20 ∨ k = 21 ∨ k = 22 ∨ k = 23 ∨ k = 24 ∨ k = 25 ∨ k = 26 ∨ k = 27 ∨ k = 28 ∨ k = 29 := by omega
          rcases hs with z | z | z | z | z | z | z | z | z | z | z | z | z | z | z | z | z
          all_goals
            subst z
            exact (show LC tA P' _ (M _) hh = LC tA (P.1, P.2.1, P'.2.2) _ (M _) hh from rfl).trans (by rw [e2])
        · obtain ⟨z1, z2⟩ := z
          have hs : k = 35 ∨ k = 36 ∨ k = 37 ∨ k = 38 ∨ k = 39 ∨ k = 40 ∨ k = 41 ∨ k = 42 ∨ k = 43 ∨ k = 44 := by omega
          rcases hs with z | z | z | z | z | z | z | z | z | z
          all_goals
            subst z
            exact (show LC tA P' _ (M _) hh = LC tA (P.1, P.2.1, P'.2.2) _ (M _) hh from rfl).trans (by rw [e2])
    · rw [LC_far tA P' k _ _ hk, LC_far tA P k _ _ hk]
theorem pnew_ne {P : jP} {g a : Nat} (hp : P.2.1 g = false) : ∀ d, P.2.1 d = true → (pnew P g a).1 d = P.1 d := fun d hd => if_neg (fun z => by rw [z, hp] at hd; exact absurd hd (by decide))
theorem pnew_pres {P : jP} {g a k : Nat} (hk : k ≠ g) : (pnew P g a).2.1 k = P.2.1 k := if_neg hk
theorem WR.free {P : jP} {M : jM} {g : Nat} (h : WR P M) (hp : P.2.1 g = false) : rfree kob LC P M g := by
  refine ⟨hp, fun a tA k f hh hk hpk hf => ?_⟩
  subst hf
  exact h.same hpk (pnew_pres hk) rfl (pnew_ne hp) tA hh
theorem wok.mono {P P' : jP} {d : Nat} {v : Int32} (hP : ∀ k, P.2.1 k = true → P'.2.1 k = true) (h : wok P d v) : wok P' d v := by
  rcases h with z | z | z | z | z
  · exact Or.inl z
  · exact Or.inr (Or.inl z)
  · exact Or.inr (Or.inr (Or.inl z))
  · exact Or.inr (Or.inr (Or.inr (Or.inl ⟨z.1, hP _ z.2⟩)))
  · exact Or.inr (Or.inr (Or.inr (Or.inr ⟨z.1, hP _ z.2⟩)))
theorem pnew_mono {P : jP} {g a : Nat} : ∀ k, P.2.1 k = true → (pnew P g a).2.1 k = true := by
  intro k hk
  show (if k = g then true else P.2.1 k) = true
  by_cases z : k = g
  · rw [if_pos z]
  · rw [if_neg z]; exact hk
theorem WR.new {P : jP} {M : jM} {g a : Nat} (h : WR P M) (hg : g ≠ 30) : WR (pnew P g a) (zM M g) := by
  refine ⟨fun k j hk hpk => ?_, fun h30 i h1 h2 => ?_⟩
  · by_cases z : k = g
    · subst z
      refine Or.inr (Or.inr (Or.inl ?_))
      show (if k = k then (fun _ => 0) else M k) j = 0
      rw [if_pos rfl]
    · rw [pnew_pres z] at hpk
      have e : zM M g k = M k := if_neg z
      rw [e]
      exact (h.1 k j hk hpk).mono pnew_mono
  · rw [pnew_pres (Ne.symm hg)] at h30
    exact pnew_mono i (h.2 h30 i h1 h2)
theorem WR.up {P : jP} {M : jM} {k j : Nat} {v : Int32} (h : WR P M) (hc : wok P (refD k j) v) : WR P (upM M k j v) := by
  refine ⟨fun a b ha hpa => ?_, h.2⟩
  rw [up2]
  by_cases z : a = k ∧ b = j
  · rw [if_pos z, z.1, z.2]; exact hc
  · rw [if_neg z]; exact h.1 a b ha hpa
theorem WR.upi {P : jP} {M : jM} {k j : Nat} {v : Int32} (h : WR P M) (hd : refD k j = 0) : WR P (upM M k j v) := h.up (Or.inl hd)
theorem WR.upr {P : jP} {M : jM} {k j d : Nat} {v : Int32} (h : WR P M) (hd : refD k j = d) (h1 : d ≠ 1001) (hp : P.2.1 d = true) : WR P (upM M k j v) := h.up (Or.inr (Or.inr (Or.inr (Or.inr ⟨by rw [hd]; exact h1, by rw [hd]; exact hp⟩))))
theorem WR.upk {P : jP} {M : jM} {k j : Nat} {v : Int32} (h : WR P M) (hd : refD k j = 1001) (hp : P.2.1 v.toNatClampNeg = true) : WR P (upM M k j v) := h.up (Or.inr (Or.inr (Or.inr (Or.inl ⟨hd, hp⟩))))
theorem pmul_in {P : jP} {a q : Nat} (h : mulK q) : (pmul P a).2.1 q = true := if_pos (mulK_b.mpr h)
theorem pmul_out {P : jP} {a q : Nat} (h : ¬ mulK q) : (pmul P a).2.1 q = P.2.1 q := if_neg (fun z => h (mulK_b.mp z))
theorem pmul_mono {P : jP} {a : Nat} : ∀ k, P.2.1 k = true → (pmul P a).2.1 k = true := by
  intro k hk
  by_cases z : mulK k
  · exact pmul_in z
  · rw [pmul_out z]; exact hk
theorem WR.mfr {P : jP} {M : jM} (h : WR P M) (hp : ∀ q, mulK q → P.2.1 q = false) : mfree P M := by
  refine ⟨hp, fun a tA q f hh hq hpq hf => ?_⟩
  subst hf
  refine h.same hpq (pmul_out hq) rfl (fun d hd => ?_) tA hh
  refine if_neg (fun z => ?_)
  rw [hp d (mulK_b.mp z)] at hd
  exact absurd hd (by decide)
theorem WR.mul {P : jP} {M : jM} {a : Nat} (h : WR P M) : WR (pmul P a) (zM5 M) := by
  refine ⟨fun k j hk hpk => ?_, fun _ i h1 h2 => pmul_in ⟨by omega, h2⟩⟩
  by_cases z : mulK k
  · refine Or.inr (Or.inr (Or.inl ?_))
    have e : zM5 M k = fun _ => 0 := if_pos (mulK_b.mpr z)
    rw [e]
  · rw [pmul_out z] at hpk
    have e : zM5 M k = M k := if_neg (fun y => z (mulK_b.mp y))
    rw [e]
    exact (h.1 k j hk hpk).mono pmul_mono
/-- just these keys are there, of the first thousand -/
def PR (P : jP) (S : List Nat) : Prop := ∀ k, k < 1000 → (P.2.1 k = true ↔ k ∈ S)
theorem PR.new {P : jP} {S : List Nat} (h : PR P S) (g a : Nat) : PR (pnew P g a) (g :: S) := by
  intro k hk
  show (if k = g then true else P.2.1 k) = true ↔ _
  rw [List.mem_cons]
  by_cases z : k = g
  · rw [if_pos z]; exact ⟨fun _ => Or.inl z, fun _ => rfl⟩
  · rw [if_neg z]; exact ⟨fun y => Or.inr ((h k hk).mp y), fun y => (h k hk).mpr (y.resolve_left z)⟩
theorem PR.no {P : jP} {S : List Nat} (h : PR P S) (k : Nat) (hk : k < 1000) (hn : k ∉ S) : P.2.1 k = false := by
  cases e : P.2.1 k with
  | false => rfl
  | true => exact absurd ((h k hk).mp e) hn
theorem PR.yes {P : jP} {S : List Nat} (h : PR P S) (k : Nat) (hk : k < 1000) (hn : k ∈ S) : P.2.1 k = true := (h k hk).mpr hn
theorem PR.mul {P : jP} {S : List Nat} (h : PR P S) (a : Nat) : PR (pmul P a) (30 :: 31 :: 32 :: 33 :: 34 :: S) := by
  intro k hk
  simp only [List.mem_cons]
  by_cases z : mulK k
  · refine ⟨fun _ => ?_, fun _ => pmul_in z⟩
    unfold mulK at z
    omega
  · rw [pmul_out z]
    have z' := z
    unfold mulK at z'
    exact ⟨fun y => Or.inr (Or.inr (Or.inr (Or.inr (Or.inr ((h k hk).mp y))))), fun y => (h k hk).mpr (by
      rcases y with y | y | y | y | y | y
      · omega
      · omega
      · omega
      · omega
      · omega
      · exact y)⟩
theorem zM_ne {M : jM} {g k : Nat} (h : k ≠ g) : zM M g k = M k := if_neg h
theorem zM_at {M : jM} {g : Nat} : zM M g g = fun _ => 0 := if_pos rfl
