/-! LAYOUTS: which cell a key names. The class: keys 1 .. 44 are there from the start; law i has its cells at 64 + 8 i .., form i at 128 + 4 i ... P.2.2 0: facts, 1: cases, 2: states, 3: the chart's square. -/
def cIA (P : jP) (k : Nat) : Option Nat := if k < 64 then (if Nat.ble 31 k && Nat.ble k 34 then some (P.2.2 0) else none) else if k < 112 then (match k % 8 with
    | 1 => if P.2.1 k = true then some 12 else none
    | 2 => if P.2.1 k = true then some (P.2.2 1) else none
    | 3 => if P.2.1 k = true then some (P.2.2 1) else none
    | 4 => if P.2.1 k = true then some (P.2.2 2) else none
    | _ => none) else if Nat.ble 128 k && Nat.blt k 156 && !(Nat.beq (k % 4) 0) && P.2.1 k then some 12 else none
def cLw (P : jP) (k : Nat) : Bool := Nat.ble 64 k && Nat.blt k 112 && Nat.beq (k % 8) 0 && P.2.1 k
def cFm (P : jP) (k : Nat) : Bool := Nat.ble 128 k && Nat.blt k 156 && Nat.beq (k % 4) 0 && P.2.1 k
def cdyn (tA : Nat → ClassId) (P : jP) (k : Nat) (f : Nat → Int32) : Option va_E := match cIA P k with
  | some nn => some (.inl (tA 0, nn, .inl f))
  | none => if cLw P k = true then some (.inr (4, [.int (f 0), .ref (P.1 (k + 1)), .ref (P.1 (k + 2)), .ref (P.1 (k + 3)), .ref (P.1 (k + 4)), .int (f 5), .int (f 6)])) else if cFm P k = true then some (.inr (2, [.int (f 0), .ref (P.1 (k + 1)), .ref (P.1 (k + 2)), .ref (P.1 (k + 3))])) else none
def cstat (tA : Nat → ClassId) (P : jP) (k : Nat) (f : Nat → Int32) (h : Nat → Int64) : Option va_E := match k with
  | 1 => some (.inr (11, [.ref (P.1 2), .ref (P.1 3), .ref (P.1 4), .ref (P.1 5), .ref (P.1 6), .ref (P.1 7), .ref (P.1 8), .ref (P.1 9), .ref (P.1 10), .ref (P.1 11), .int (f 10), .ref (P.1 12), .int (f 12), .ref (P.1 13), .ref (P.1 14)]))
  | 2 => some (.inr (3, [.int (f 0), .int (f 1), .int (f 2), .int (f 3), .ref (P.1 15), .ref (P.1 16)]))
  | 3 => some (.inr (10, [.ref (P.1 17), .int (f 1), .int (f 2), .int (f 3)]))
  | 4 => some (.inr (7, [.ref (P.1 3), .int (f 1), .ref (P.1 18), .int (f 3), .int (f 4), .ref (P.1 19), .ref (P.1 20), .ref (P.1 21), .ref (P.1 22), jrf P (f 9).toNatClampNeg, .int (f 10)]))
  | 5 => some (.inr (1, [.ref (P.1 2), .int (f 1), .ref (P.1 23), .ref (P.1 24), .ref (P.1 25), .ref (P.1 26), .int (f 6), .int (f 7)]))
  | 6 => some (.inr (9, [.int (f 0), .ref (P.1 27), .ref (P.1 28), .int (f 3)]))
  | 7 => some (.inr (5, [.int (f 0), .int (f 1), .ref (P.1 29), .ref (P.1 30)]))
  | 8 => some (.inr (0, [.ref (P.1 2), .ref (P.1 6), .ref (P.1 7), .ref (P.1 35), .ref (P.1 36), .ref (P.1 37), jrf P (f 6).toNatClampNeg, jrf P (f 7).toNatClampNeg, .int (f 8), .int (f 9), .int (f 10)]))
  | 9 => some (.inr (6, [.int (f 0), .ref (P.1 38), .ref (P.1 39), .ref (P.1 40), .ref (P.1 41), .ref (P.1 42), .int (f 6)]))
  | 10 => some (.inr (8, [.int (f 0), .ref (P.1 43), .ref (P.1 44)]))
  | 11 => some (.inl (tA 4, 6, .inr (.inr (.inr (.inr (fun j => jro P (f j).toNatClampNeg))))))
  | 12 => some (.inl (tA 5, 6, .inr (.inr (.inr (.inr (fun j => jro P (f j).toNatClampNeg))))))
  | 13 => some (.inl (tA 0, P.2.2 1, .inl f))
  | 14 => some (.inl (tA 1, 12, .inr (.inl h)))
  | 15 => some (.inl (tA 0, P.2.2 0, .inl f))
  | 16 => some (.inl (tA 0, P.2.2 1, .inl f))
  | 17 => some (.inl (tA 0, 160, .inl f))
  | 18 => some (.inl (tA 0, 160, .inl f))
  | 19 => some (.inl (tA 0, 12, .inl f))
  | 20 => some (.inl (tA 0, 12, .inl f))
  | 21 => some (.inl (tA 0, 12, .inl f))
  | 22 => some (.inl (tA 0, 12, .inl f))
  | 23 => some (.inl (tA 0, P.2.2 3, .inl f))
  | 24 => some (.inl (tA 0, P.2.2 3, .inl f))
  | 25 => some (.inl (tA 0, P.2.2 1, .inl f))
  | 26 => some (.inl (tA 0, P.2.2 0, .inl f))
  | 27 => some (.inl (tA 0, P.2.2 0, .inl f))
  | 28 => some (.inl (tA 0, P.2.2 0, .inl f))
  | 29 => some (.inl (tA 0, 4, .inl f))
  | 30 => some (.inl (tA 6, 4, .inr (.inr (.inr (.inr (fun j => if j < 4 then jro P (31 + j) else none))))))
  | 35 => some (.inl (tA 1, P.2.2 2, .inr (.inl h)))
  | 36 => some (.inl (tA 1, P.2.2 2, .inr (.inl h)))
  | 37 => some (.inl (tA 0, P.2.2 2, .inl f))
  | 38 => some (.inl (tA 0, 10, .inl f))
  | 39 => some (.inl (tA 0, P.2.2 1, .inl f))
  | 40 => some (.inl (tA 0, 1024, .inl f))
  | 41 => some (.inl (tA 0, 7, .inl f))
  | 42 => some (.inl (tA 0, 7, .inl f))
  | 43 => some (.inl (tA 0, 20, .inl f))
  | 44 => some (.inl (tA 0, 20, .inl f))
  | _ => none
def LC : jL := fun tA P k f h => match (Nat.ble 45 k || (Nat.ble 31 k && Nat.ble k 34)) with
  | true => cdyn tA P k f
  | false => cstat tA P k f h
def LM : jL := fun tA P k f h => match k with
  | 1 => some (.inr (12, [.int (f 0), .int (f 1), .int (f 2), .ref (P.1 2), .int (f 4), .int (f 5), .int (f 6), .int (f 7), .int (f 8), .ref (P.1 3), .int (f 10), .int (f 11), .ref (P.1 4), .ref (P.1 5), .ref (P.1 6), .ref (P.1 7), .int (f 16), .ref (P.1 8), .ref (P.1 9), .ref (P.1 10), .ref (P.1 11), .ref (P.1 12), .ref (P.1 13), .ref (P.1 14), .ref (P.1 15), .int (f 25), .int (f 26), .int (f 27), .ref (P.1 16), .ref (P.1 17), .ref (P.1 18), .int (f 31), .ref (P.1 19), .ref (P.1 20), .ref (P.1 21), .ref (P.1 22), .ref (P.1 23), .long (h 37), .ref (P.1 24), .ref (P.1 25), .ref (P.1 26), .ref (P.1 27), .ref (P.1 28), .ref (P.1 29), .int (f 44)]))
  | 2 => some (.inl (tA 3, 160, .inl f))
  | 3 => some (.inl (tA 0, 12, .inl f))
  | 4 => some (.inl (tA 0, 84, .inl f))
  | 5 => some (.inl (tA 0, 84, .inl f))
  | 6 => some (.inl (tA 0, 84, .inl f))
  | 7 => some (.inl (tA 0, 7, .inl f))
  | 8 => some (.inl (tA 0, 3072, .inl f))
  | 9 => some (.inl (tA 0, 3072, .inl f))
  | 10 => some (.inl (tA 0, 6, .inl f))
  | 11 => some (.inl (tA 0, 72, .inl f))
  | 12 => some (.inl (tA 0, 9, .inl f))
  | 13 => some (.inl (tA 0, 10, .inl f))
  | 14 => some (.inl (tA 2, 5120, .inl f))
  | 15 => some (.inl (tA 2, 9, .inl f))
  | 16 => some (.inl (tA 0, 9, .inl f))
  | 17 => some (.inl (tA 0, 4, .inl f))
  | 18 => some (.inl (tA 0, 36, .inl f))
  | 19 => some (.inl (tA 0, 262144, .inl f))
  | 20 => some (.inl (tA 0, 262144, .inl f))
  | 21 => some (.inl (tA 0, 262144, .inl f))
  | 22 => some (.inl (tA 1, 262144, .inr (.inl h)))
  | 23 => some (.inl (tA 0, 1024, .inl f))
  | 24 => some (.inl (tA 0, 9, .inl f))
  | 25 => some (.inl (tA 0, 4608, .inl f))
  | 26 => some (.inl (tA 0, 512, .inl f))
  | 27 => some (.inl (tA 2, 512, .inl f))
  | 28 => some (.inl (tA 0, 20, .inl f))
  | 29 => some (.inl (tA 0, 20, .inl f))
  | _ => none
theorem LC_dyn {tA : Nat → ClassId} {P : jP} {k : Nat} {f : Nat → Int32} {h : Nat → Int64} (hk : 45 ≤ k ∨ (31 ≤ k ∧ k ≤ 34)) : LC tA P k f h = cdyn tA P k f := by
  have e : (Nat.ble 45 k || (Nat.ble 31 k && Nat.ble k 34)) = true := by
    simp only [Bool.or_eq_true, Bool.and_eq_true, Nat.ble_eq]
    exact hk
  unfold LC
  rw [e]
theorem cIA_ge {P : jP} {k nn : Nat} (h : cIA P k = some nn) : 45 ≤ k ∨ (31 ≤ k ∧ k ≤ 34) := by
  unfold cIA at h
  by_cases h1 : k < 64
  · rw [if_pos h1] at h
    by_cases h2 : (Nat.ble 31 k && Nat.ble k 34) = true
    · simp only [Bool.and_eq_true, Nat.ble_eq] at h2
      omega
    · rw [if_neg h2] at h; cases h
  · omega
theorem LC_ia {P : jP} {k nn : Nat} (h : cIA P k = some nn) : ∀ (tA : Nat → ClassId) (f : Nat → Int32) (g : Nat → Int64), LC tA P k f g = some (.inl (tA 0, nn, .inl f)) := by
  intro tA f g
  rw [LC_dyn (cIA_ge h)]
  unfold cdyn
  rw [h]
theorem cLw_ia {P : jP} {k : Nat} (h : cLw P k = true) : cIA P k = none ∧ 45 ≤ k := by
  unfold cLw at h
  simp only [Bool.and_eq_true, Nat.ble_eq, Nat.blt_eq] at h
  obtain ⟨⟨⟨h1, h2⟩, h3⟩, h4⟩ := h
  have h3 := Nat.eq_of_beq_eq_true h3
  refine ⟨?_, by omega⟩
  unfold cIA
  rw [if_neg (by omega), if_pos h2, h3]
  rfl
theorem cFm_ia {P : jP} {k : Nat} (h : cFm P k = true) : cIA P k = none ∧ cLw P k = false ∧ 45 ≤ k := by
  unfold cFm at h
  simp only [Bool.and_eq_true, Nat.ble_eq, Nat.blt_eq] at h
  obtain ⟨⟨⟨h1, h2⟩, h3⟩, h4⟩ := h
  have h3 := Nat.eq_of_beq_eq_true h3
  refine ⟨?_, ?_, by omega⟩
  · unfold cIA
    rw [if_neg (by omega), if_neg (by omega), h3]
    simp
  · unfold cLw
    simp only [Bool.and_eq_false_iff]
    refine Or.inl (Or.inl (Or.inr ?_))
    rw [Bool.eq_false_iff]
    intro hh
    rw [Nat.blt_eq] at hh
    omega
theorem LC_lw {P : jP} {k : Nat} (hk : cLw P k = true) : ∀ (tA : Nat → ClassId) (f : Nat → Int32) (h : Nat → Int64), LC tA P k f h = some (.inr (4, [.int (f 0), .ref (P.1 (k + 1)), .ref (P.1 (k + 2)), .ref (P.1 (k + 3)), .ref (P.1 (k + 4)), .int (f 5), .int (f 6)])) := by
  intro tA f h
  rw [LC_dyn (Or.inl (cLw_ia hk).2)]
  unfold cdyn
  rw [(cLw_ia hk).1]
  exact if_pos hk
theorem LC_fm {P : jP} {k : Nat} (hk : cFm P k = true) : ∀ (tA : Nat → ClassId) (f : Nat → Int32) (h : Nat → Int64), LC tA P k f h = some (.inr (2, [.int (f 0), .ref (P.1 (k + 1)), .ref (P.1 (k + 2)), .ref (P.1 (k + 3))])) := by
  intro tA f h
  rw [LC_dyn (Or.inl (cFm_ia hk).2.2)]
  unfold cdyn
  rw [(cFm_ia hk).1]
  exact (if_neg (by rw [(cFm_ia hk).2.1]; decide)).trans (if_pos hk)
/-- an index within the ints of a key -/
def jin (P : jP) (k : Nat) (i : Int32) : Prop := ∃ nn : Nat, cIA P k = some nn ∧ vp_in i nn
