/-! BOTH SIDES: one answer, one new state -/
theorem jC.mono {l : Launch} {y : MethodName} {cc : ByteArray} {nL : Nat} {ret : Option FieldType} {rm : Room} {L0 : jL} {as : List Value} {P : jP} {M : jM} {N : jN} {QV QV' : Option Value → jP → jM → jN → Prop} (h : jC l y cc nL ret rm L0 as P M N QV) (hq : ∀ v P' M' N', QV v P' M' N' → QV' v P' M' N') : jC l y cc nL ret rm L0 as P M N QV' := by
  intro D tA sz
  refine MetFree.mono (h D tA sz) (fun _ _ z => z) (fun _ _ _ _ _ z => z) (fun a s o s' _ hh => ?_)
  obtain ⟨⟨⟨v, P', M', N', h1, h2, h3⟩, h4⟩, h5⟩ := hh
  exact ⟨⟨⟨v, P', M', N', h1, hq _ _ _ _ h2, h3⟩, h4⟩, h5⟩
section CONV
variable {l : Launch} {y : MethodName} {cc : ByteArray} {nL : Nat} {ret : Option FieldType} {rm : Room} {as : List Value} {P : jP} {M : jM} {N : jN} {A' : aS} {t' : Nat}
theorem cv1 {v : Int32} (h : jC l y cc nL ret rm LC as P M N (jqi P (fun r M' N' => M = M' ∧ N = N' ∧ r = v))) (g : GC P M N A' t') : jC l y cc nL ret rm LC as P M N (fun r P' M' N' => r = some (.int v) ∧ P' = P ∧ GC P M' N' A' t') :=
  h.mono (fun x P' M' N' z => by
    obtain ⟨r, e, eP, eM, eN, er⟩ := z
    exact ⟨by rw [e, er], eP, by rw [← eM, ← eN]; exact g⟩)
theorem cv2 {v : Int32} (h : jC l y cc nL ret rm LC as P M N (jqi P (fun r M' N' => N = N' ∧ r = v ∧ GC P M' N A' t'))) : jC l y cc nL ret rm LC as P M N (fun r P' M' N' => r = some (.int v) ∧ P' = P ∧ GC P M' N' A' t') :=
  h.mono (fun x P' M' N' z => by
    obtain ⟨r, e, eP, eN, er, g⟩ := z
    exact ⟨by rw [e, er], eP, by rw [← eN]; exact g⟩)
theorem cv3 {v : Int32} (h : jC l y cc nL ret rm LC as P M N (jqi P (fun r M' N' => M = M' ∧ r = v ∧ GC P M N' A' t'))) : jC l y cc nL ret rm LC as P M N (fun r P' M' N' => r = some (.int v) ∧ P' = P ∧ GC P M' N' A' t') :=
  h.mono (fun x P' M' N' z => by
    obtain ⟨r, e, eP, eM, er, g⟩ := z
    exact ⟨by rw [e, er], eP, by rw [← eM]; exact g⟩)
theorem cv4 {v : Int32} (h : jC l y cc nL ret rm LC as P M N (jqi P (fun r M' N' => r = v ∧ GC P M' N' A' t'))) : jC l y cc nL ret rm LC as P M N (fun r P' M' N' => r = some (.int v) ∧ P' = P ∧ GC P M' N' A' t') :=
  h.mono (fun x P' M' N' z => by
    obtain ⟨r, e, eP, er, g⟩ := z
    exact ⟨by rw [e, er], eP, g⟩)
theorem cm2 {v : Int32} (h : jC l y cc nL ret rm LM as P M N (jqi P (fun r M' N' => N = N' ∧ r = v ∧ RelM M' A'))) : jC l y cc nL ret rm LM as P M N (fun r P' M' N' => r = some (.int v) ∧ P' = P ∧ RelM M' A') :=
  h.mono (fun x P' M' N' z => by
    obtain ⟨r, e, eP, eN, er, g⟩ := z
    exact ⟨by rw [e, er], eP, g⟩)
theorem cm4 {v : Int32} (h : jC l y cc nL ret rm LM as P M N (jqi P (fun r M' N' => r = v ∧ RelM M' A'))) : jC l y cc nL ret rm LM as P M N (fun r P' M' N' => r = some (.int v) ∧ P' = P ∧ RelM M' A') :=
  h.mono (fun x P' M' N' z => by
    obtain ⟨r, e, eP, er, g⟩ := z
    exact ⟨by rw [e, er], eP, g⟩)
theorem cv1l {v : Int64} (h : jC l y cc nL ret rm LC as P M N (jql P (fun r M' N' => M = M' ∧ N = N' ∧ r = v))) (g : GC P M N A' t') : jC l y cc nL ret rm LC as P M N (fun r P' M' N' => r = some (.long v) ∧ P' = P ∧ GC P M' N' A' t') :=
  h.mono (fun x P' M' N' z => by
    obtain ⟨r, e, eP, eM, eN, er⟩ := z
    exact ⟨by rw [e, er], eP, by rw [← eM, ← eN]; exact g⟩)
theorem cv2l {v : Int64} (h : jC l y cc nL ret rm LC as P M N (jql P (fun r M' N' => N = N' ∧ r = v ∧ GC P M' N A' t'))) : jC l y cc nL ret rm LC as P M N (fun r P' M' N' => r = some (.long v) ∧ P' = P ∧ GC P M' N' A' t') :=
  h.mono (fun x P' M' N' z => by
    obtain ⟨r, e, eP, eN, er, g⟩ := z
    exact ⟨by rw [e, er], eP, by rw [← eN]; exact g⟩)
theorem cv3l {v : Int64} (h : jC l y cc nL ret rm LC as P M N (jql P (fun r M' N' => M = M' ∧ r = v ∧ GC P M N' A' t'))) : jC l y cc nL ret rm LC as P M N (fun r P' M' N' => r = some (.long v) ∧ P' = P ∧ GC P M' N' A' t') :=
  h.mono (fun x P' M' N' z => by
    obtain ⟨r, e, eP, eM, er, g⟩ := z
    exact ⟨by rw [e, er], eP, by rw [← eM]; exact g⟩)
theorem cv4l {v : Int64} (h : jC l y cc nL ret rm LC as P M N (jql P (fun r M' N' => r = v ∧ GC P M' N' A' t'))) : jC l y cc nL ret rm LC as P M N (fun r P' M' N' => r = some (.long v) ∧ P' = P ∧ GC P M' N' A' t') :=
  h.mono (fun x P' M' N' z => by
    obtain ⟨r, e, eP, er, g⟩ := z
    exact ⟨by rw [e, er], eP, g⟩)
theorem cm2l {v : Int64} (h : jC l y cc nL ret rm LM as P M N (jql P (fun r M' N' => N = N' ∧ r = v ∧ RelM M' A'))) : jC l y cc nL ret rm LM as P M N (fun r P' M' N' => r = some (.long v) ∧ P' = P ∧ RelM M' A') :=
  h.mono (fun x P' M' N' z => by
    obtain ⟨r, e, eP, eN, er, g⟩ := z
    exact ⟨by rw [e, er], eP, g⟩)
theorem cm4l {v : Int64} (h : jC l y cc nL ret rm LM as P M N (jql P (fun r M' N' => r = v ∧ RelM M' A'))) : jC l y cc nL ret rm LM as P M N (fun r P' M' N' => r = some (.long v) ∧ P' = P ∧ RelM M' A') :=
  h.mono (fun x P' M' N' z => by
    obtain ⟨r, e, eP, er, g⟩ := z
    exact ⟨by rw [e, er], eP, g⟩)
end CONV
def BoI (l : Launch) (P sP : jP) (Mc Mm : jM) (Nc Nm : jN) (A : aS) (t : Nat) (y1 : MethodName) (c1 : ByteArray) (n1 : Nat) (ret : Option FieldType) (r1 : Room) (y2 : MethodName) (c2 : ByteArray) (n2 : Nat) (r2 : Room) (as : List Value) : Prop := ∃ (v : Int32) (A' : aS), A'.1 2 = A.1 2 ∧ wfX A' ∧ jC l y1 c1 n1 ret r1 LC (.ref (P.1 1) :: as) P Mc Nc (fun r P' M' N' => r = some (.int v) ∧ P' = P ∧ GC P M' N' A' (t + 1)) ∧ jC l y2 c2 n2 ret r2 LM (.ref (sP.1 1) :: as) sP Mm Nm (fun r P' M' N' => r = some (.int v) ∧ P' = sP ∧ RelM M' A')
def BoL (l : Launch) (P sP : jP) (Mc Mm : jM) (Nc Nm : jN) (A : aS) (t : Nat) (y1 : MethodName) (c1 : ByteArray) (n1 : Nat) (ret : Option FieldType) (r1 : Room) (y2 : MethodName) (c2 : ByteArray) (n2 : Nat) (r2 : Room) (as : List Value) : Prop := ∃ (v : Int64) (A' : aS), A'.1 2 = A.1 2 ∧ wfX A' ∧ jC l y1 c1 n1 ret r1 LC (.ref (P.1 1) :: as) P Mc Nc (fun r P' M' N' => r = some (.long v) ∧ P' = P ∧ GC P M' N' A' (t + 1)) ∧ jC l y2 c2 n2 ret r2 LM (.ref (sP.1 1) :: as) sP Mm Nm (fun r P' M' N' => r = some (.long v) ∧ P' = sP ∧ RelM M' A')
section BOTH
variable (l : Launch) {P sP : jP} {Mc Mm : jM} {Nc Nm : jN} {A : aS} {t : Nat}
theorem b_feed (hG : GC P Mc Nc A t) (hX : wfX A) (ht : t < 4000) (hM : RelM Mm A) (a1 : Int32) (a2 : Int32) (a3 : Int32) (a4 : Int32) (a5 : Int32) : BoI l P sP Mc Mm Nc Nm A t yX11_feed cX11_feed 7 (some .int) rm_X11_feed yX12_feed cX12_feed 6 rm_X12_feed [.int a1, .int a2, .int a3, .int a4, .int a5] := by
  exact ⟨(feedS A a1 a2 a3 a4 a5), (feedA A a1 a2 a3 a4 a5), (nxA.feed A a1 a2 a3 a4 a5).2.1, ((nxA.feed A a1 a2 a3 a4 a5).2.2.2 hX),
    cv2 (c_X11_feed l P a1 a2 a3 a4 a5 Mc Nc (fun r M' => r = (feedS A a1 a2 a3 a4 a5) ∧ GC P M' Nc (feedA A a1 a2 a3 a4 a5) (t + 1)) (g11_feed hG (fun M' h => ⟨rfl, h⟩))),
    cm2 (c_X12_feed l sP a1 a2 a3 a4 a5 Mm Nm (fun r M' => r = (feedS A a1 a2 a3 a4 a5) ∧ RelM M' (feedA A a1 a2 a3 a4 a5)) (s12_feed hM (fun M' h => ⟨rfl, h⟩)))⟩
theorem b_end (hG : GC P Mc Nc A t) (hX : wfX A) (ht : t < 4000) (hM : RelM Mm A) (a1 : Int32) : BoI l P sP Mc Mm Nc Nm A t yX11_end cX11_end 2 (some .boolean) rm_X11_end yX12_end cX12_end 2 rm_X12_end [.int a1] := by
  exact ⟨(endS A a1), (endA A a1), (nxA.end hG.1.1 a1).2.1, ((nxA.end hG.1.1 a1).2.2.2 hX),
    cv2 (c_X11_end l P a1 Mc Nc (fun r M' => r = (endS A a1) ∧ GC P M' Nc (endA A a1) (t + 1)) (g11_end hG (fun M' h => ⟨rfl, h⟩))),
    cm2 (c_X12_end l sP a1 Mm Nm (fun r M' => r = (endS A a1) ∧ RelM M' (endA A a1)) (s12_end hM (fun M' h => ⟨rfl, h⟩)))⟩
theorem b_fault (hG : GC P Mc Nc A t) (hX : wfX A) (ht : t < 4000) (hM : RelM Mm A) (a1 : Int32) : BoI l P sP Mc Mm Nc Nm A t yX11_fault cX11_fault 2 (some .int) rm_X11_fault yX12_fault cX12_fault 2 rm_X12_fault [.int a1] := by
  obtain ⟨v, f1, f2⟩ := fault_jo hX.1 hG.1.1.1 a1
  exact ⟨v, A, rfl, hX,
    cv2 (c_X11_fault l P a1 Mc Nc (fun r M' => r = v ∧ GC P M' Nc A (t + 1)) (f2 P Mc _ hG.1 (fun M' g => ⟨rfl, hG.rC (by omega) g⟩))),
    cm2 (c_X12_fault l sP a1 Mm Nm (fun r M' => r = v ∧ RelM M' A) (f1 sP Mm _ hM (fun M' h => ⟨rfl, h⟩)))⟩
theorem b_clauses (hG : GC P Mc Nc A t) (hX : wfX A) (ht : t < 4000) (hM : RelM Mm A) (a1 : Int32) (a2 : Int32) : BoI l P sP Mc Mm Nc Nm A t yX11_clauses cX11_clauses 4 (some .int) rm_X11_clauses yX12_clauses cX12_clauses 3 rm_X12_clauses [.int a1, .int a2] := by
  exact ⟨(clausesS A a1 a2), A, rfl, hX,
    cv1 (c_X11_clauses l P a1 a2 Mc Nc (fun r => r = (clausesS A a1 a2)) (s11_clauses hG.1 rfl)) hG.later,
    cm2 (c_X12_clauses l sP a1 a2 Mm Nm (fun r M' => r = (clausesS A a1 a2) ∧ RelM M' A) (s12_clauses hM (fun M' h => ⟨rfl, h⟩)))⟩
theorem b_gap (hG : GC P Mc Nc A t) (hX : wfX A) (ht : t < 4000) (hM : RelM Mm A) (a1 : Int32) (a2 : Int32) (a3 : Int32) : BoI l P sP Mc Mm Nc Nm A t yX11_gap cX11_gap 7 (some .int) rm_X11_gap yX12_gap cX12_gap 6 rm_X12_gap [.int a1, .int a2, .int a3] := by
  exact ⟨(gapS A a1 a2 a3), A, rfl, hX,
    cv2 (c_X11_gap l P a1 a2 a3 Mc Nc (fun r M' => r = (gapS A a1 a2 a3) ∧ GC P M' Nc A (t + 1)) (g11_gap hG (fun M' h => ⟨rfl, h⟩))),
    cm2 (c_X12_gap l sP a1 a2 a3 Mm Nm (fun r M' => r = (gapS A a1 a2 a3) ∧ RelM M' A) (s12_gap hM (fun M' h => ⟨rfl, h⟩)))⟩
theorem b_sure (hG : GC P Mc Nc A t) (hX : wfX A) (ht : t < 4000) (hM : RelM Mm A) (a1 : Int32) (a2 : Int32) (a3 : Int32) : BoI l P sP Mc Mm Nc Nm A t yX11_sure cX11_sure 5 (some .int) rm_X11_sure yX12_sure cX12_sure 4 rm_X12_sure [.int a1, .int a2, .int a3] := by
  exact ⟨(sureS A a1 a2 a3), A, rfl, hX,
    cv1 (c_X11_sure l P a1 a2 a3 Mc Nc (fun r => r = (sureS A a1 a2 a3)) (s11_sure hG.1 (fun q hq => (hG.2.2.1 q hq).1) rfl)) hG.later,
    cm2 (c_X12_sure l sP a1 a2 a3 Mm Nm (fun r M' => r = (sureS A a1 a2 a3) ∧ RelM M' A) (s12_sure hM (fun M' h => ⟨rfl, h⟩)))⟩
theorem b_matters (hG : GC P Mc Nc A t) (hX : wfX A) (ht : t < 4000) (hM : RelM Mm A) (a1 : Int32) (a2 : Int32) : BoI l P sP Mc Mm Nc Nm A t yX11_matters cX11_matters 8 (some .int) rm_X11_matters yX12_matters cX12_matters 7 rm_X12_matters [.int a1, .int a2] := by
  exact ⟨(mattersS A a1 a2), A, rfl, hX,
    cv1 (c_X11_matters l P a1 a2 Mc Nc (fun r => r = (mattersS A a1 a2)) (s11_matters hG.1 rfl)) hG.later,
    cm2 (c_X12_matters l sP a1 a2 Mm Nm (fun r M' => r = (mattersS A a1 a2) ∧ RelM M' A) (s12_matters hM (fun M' h => ⟨rfl, h⟩)))⟩
theorem b_proof (hG : GC P Mc Nc A t) (hX : wfX A) (ht : t < 4000) (hM : RelM Mm A) (a1 : Int32) (a2 : Int32) : BoI l P sP Mc Mm Nc Nm A t yX11_proof cX11_proof 6 (some .int) rm_X11_proof yX12_proof cX12_proof 5 rm_X12_proof [.int a1, .int a2] := by
  exact ⟨(proofS A a1 a2), A, rfl, hX,
    cv1 (c_X11_proof l P a1 a2 Mc Nc (fun r => r = (proofS A a1 a2)) (s11_proof hG.1 (fun q hq => (hG.2.2.1 q hq).1) rfl)) hG.later,
    cm2 (c_X12_proof l sP a1 a2 Mm Nm (fun r M' => r = (proofS A a1 a2) ∧ RelM M' A) (s12_proof hM (fun M' h => ⟨rfl, h⟩)))⟩
theorem b_parts (hG : GC P Mc Nc A t) (hX : wfX A) (ht : t < 4000) (hM : RelM Mm A) (a1 : Int32) (a2 : Int32) (a3 : Int32) : BoI l P sP Mc Mm Nc Nm A t yX11_parts cX11_parts 6 (some .int) rm_X11_parts yX12_parts cX12_parts 6 rm_X12_parts [.int a1, .int a2, .int a3] := by
  exact ⟨(partsS A a1 a2 a3), A, rfl, hX,
    cv2 (c_X11_parts l P a1 a2 a3 Mc Nc (fun r M' => r = (partsS A a1 a2 a3) ∧ GC P M' Nc A (t + 1)) (g11_parts hG (fun M' h => ⟨rfl, h⟩))),
    cm2 (c_X12_parts l sP a1 a2 a3 Mm Nm (fun r M' => r = (partsS A a1 a2 a3) ∧ RelM M' A) (s12_parts hM (fun M' h => ⟨rfl, h⟩)))⟩
theorem b_apart (hG : GC P Mc Nc A t) (hX : wfX A) (ht : t < 4000) (hM : RelM Mm A) (a1 : Int32) (a2 : Int32) (a3 : Int32) : BoI l P sP Mc Mm Nc Nm A t yX11_apart cX11_apart 8 (some .int) rm_X11_apart yX12_apart cX12_apart 6 rm_X12_apart [.int a1, .int a2, .int a3] := by
  exact ⟨(apartS A a1 a2 a3), A, rfl, hX,
    cv2 (c_X11_apart l P a1 a2 a3 Mc Nc (fun r M' => r = (apartS A a1 a2 a3) ∧ GC P M' Nc A (t + 1)) (g11_apart hG (fun M' h => ⟨rfl, h⟩))),
    cm2 (c_X12_apart l sP a1 a2 a3 Mm Nm (fun r M' => r = (apartS A a1 a2 a3) ∧ RelM M' A) (s12_apart hM (fun M' h => ⟨rfl, h⟩)))⟩
theorem b_unlike (hG : GC P Mc Nc A t) (hX : wfX A) (ht : t < 4000) (hM : RelM Mm A) (a1 : Int32) (a2 : Int32) : BoI l P sP Mc Mm Nc Nm A t yX11_unlike cX11_unlike 6 (some .int) rm_X11_unlike yX12_unlike cX12_unlike 4 rm_X12_unlike [.int a1, .int a2] := by
  exact ⟨(unlikeS A a1 a2), A, rfl, hX,
    cv1 (c_X11_unlike l P a1 a2 Mc Nc (fun r => r = (unlikeS A a1 a2)) (s11_unlike hG.1 rfl)) hG.later,
    cm2 (c_X12_unlike l sP a1 a2 Mm Nm (fun r M' => r = (unlikeS A a1 a2) ∧ RelM M' A) (s12_unlike hM (fun M' h => ⟨rfl, h⟩)))⟩
theorem b_spoiled (hG : GC P Mc Nc A t) (hX : wfX A) (ht : t < 4000) (hM : RelM Mm A) (a1 : Int32) (a2 : Int32) : BoI l P sP Mc Mm Nc Nm A t yX11_spoiled cX11_spoiled 7 (some .int) rm_X11_spoiled yX12_spoiled cX12_spoiled 6 rm_X12_spoiled [.int a1, .int a2] := by
  exact ⟨(spoiledS A a1 a2), A, rfl, hX,
    cv1 (c_X11_spoiled l P a1 a2 Mc Nc (fun r => r = (spoiledS A a1 a2)) (s11_spoiled hG.1 rfl)) hG.later,
    cm2 (c_X12_spoiled l sP a1 a2 Mm Nm (fun r M' => r = (spoiledS A a1 a2) ∧ RelM M' A) (s12_spoiled hM (fun M' h => ⟨rfl, h⟩)))⟩
theorem b_unused (hG : GC P Mc Nc A t) (hX : wfX A) (ht : t < 4000) (hM : RelM Mm A) (a1 : Int32) : BoI l P sP Mc Mm Nc Nm A t yX11_unused cX11_unused 5 (some .int) rm_X11_unused yX12_unused cX12_unused 4 rm_X12_unused [.int a1] := by
  exact ⟨(unusedS A a1), A, rfl, hX,
    cv1 (c_X11_unused l P a1 Mc Nc (fun r => r = (unusedS A a1)) (s11_unused hG.1 rfl)) hG.later,
    cm2 (c_X12_unused l sP a1 Mm Nm (fun r M' => r = (unusedS A a1) ∧ RelM M' A) (s12_unused hM (fun M' h => ⟨rfl, h⟩)))⟩
theorem b_set (hG : GC P Mc Nc A t) (hX : wfX A) (ht : t < 4000) (hM : RelM Mm A) (a1 : Int32) (a2 : Int32) (a3 : Int32) : BoI l P sP Mc Mm Nc Nm A t yX11_set cX11_set 4 (some .boolean) rm_X11_set yX12_set cX12_set 4 rm_X12_set [.int a1, .int a2, .int a3] := by
  exact ⟨(setS A a1 a2 a3), (setA A a1 a2 a3), (nxS.set hG.1.1 a1 a2 a3).2.1, ((nxS.set hG.1.1 a1 a2 a3).2.2.2 hX),
    cv2 (c_X11_set l P a1 a2 a3 Mc Nc (fun r M' => r = (setS A a1 a2 a3) ∧ GC P M' Nc (setA A a1 a2 a3) (t + 1)) (g11_set hG (fun M' h => ⟨rfl, h⟩))),
    cm2 (c_X12_set l sP a1 a2 a3 Mm Nm (fun r M' => r = (setS A a1 a2 a3) ∧ RelM M' (setA A a1 a2 a3)) (s12_set hM (fun M' h => ⟨rfl, h⟩)))⟩
theorem b_sort (hG : GC P Mc Nc A t) (hX : wfX A) (ht : t < 4000) (hM : RelM Mm A) (a1 : Int32) : BoI l P sP Mc Mm Nc Nm A t yX11_sort cX11_sort 2 (some .int) rm_X11_sort yX12_sort cX12_sort 3 rm_X12_sort [.int a1] := by
  exact ⟨(sortS A a1), (sortN A a1), (nxS.sort A a1).2.1, ((nxS.sort A a1).2.2.2 hX),
    cv2 (c_X11_sort l P a1 Mc Nc (fun r M' => r = (sortS A a1) ∧ GC P M' Nc (sortN A a1) (t + 1)) (g11_sort hG (fun M' h => ⟨rfl, h⟩))),
    cm2 (c_X12_sort l sP a1 Mm Nm (fun r M' => r = (sortS A a1) ∧ RelM M' (sortN A a1)) (s12_sort hM (fun M' h => ⟨rfl, h⟩)))⟩
theorem b_chance (hG : GC P Mc Nc A t) (hX : wfX A) (ht : t < 4000) (hM : RelM Mm A) (a1 : Int32) (a2 : Int32) (a3 : Int32) : BoI l P sP Mc Mm Nc Nm A t yX11_chance cX11_chance 4 (some .boolean) rm_X11_chance yX12_chance cX12_chance 4 rm_X12_chance [.int a1, .int a2, .int a3] := by
  exact ⟨(chanceS A a1 a2 a3), (chanceN A a1 a2 a3), (nxS.chance A a1 a2 a3).2.1, ((nxS.chance A a1 a2 a3).2.2.2 hX),
    cv2 (c_X11_chance l P a1 a2 a3 Mc Nc (fun r M' => r = (chanceS A a1 a2 a3) ∧ GC P M' Nc (chanceN A a1 a2 a3) (t + 1)) (g11_chance hG (fun M' h => ⟨rfl, h⟩))),
    cm2 (c_X12_chance l sP a1 a2 a3 Mm Nm (fun r M' => r = (chanceS A a1 a2 a3) ∧ RelM M' (chanceN A a1 a2 a3)) (s12_chance hM (fun M' h => ⟨rfl, h⟩)))⟩
theorem b_share (hG : GC P Mc Nc A t) (hX : wfX A) (ht : t < 4000) (hM : RelM Mm A) (a1 : Int32) (a2 : Int32) : BoL l P sP Mc Mm Nc Nm A t yX11_share cX11_share 3 (some .long) rm_X11_share yX12_share cX12_share 3 rm_X12_share [.int a1, .int a2] := by
  exact ⟨(shareS A a1 a2), A, rfl, hX,
    cv1l (c_X11_share l P a1 a2 Mc Nc (fun r => r = (shareS A a1 a2)) (s11_share hG.1 rfl)) hG.later,
    cm2l (c_X12_share l sP a1 a2 Mm Nm (fun r M' => r = (shareS A a1 a2) ∧ RelM M' A) (s12_share hM (fun M' h => ⟨rfl, h⟩)))⟩
theorem b_mean (hG : GC P Mc Nc A t) (hX : wfX A) (ht : t < 4000) (hM : RelM Mm A) (a1 : Int32) (a2 : Int32) (a3 : Int32) (a4 : Int32) : BoL l P sP Mc Mm Nc Nm A t yX11_mean cX11_mean 5 (some .long) rm_X11_mean yX12_mean cX12_mean 7 rm_X12_mean [.int a1, .int a2, .int a3, .int a4] := by
  exact ⟨(meanS A a1 a2 a3 a4), A, rfl, hX,
    cv4l (c_X11_mean l P a1 a2 a3 a4 Mc Nc (fun r M' N' => r = (meanS A a1 a2 a3 a4) ∧ GC P M' N' A (t + 1)) (g11_mean hG (fun M' N' h => ⟨rfl, h⟩))),
    cm4l (c_X12_mean l sP a1 a2 a3 a4 Mm Nm (fun r M' N' => r = (meanS A a1 a2 a3 a4) ∧ RelM M' A) (s12_mean hM (fun M' N' h => ⟨rfl, h⟩)))⟩
theorem b_worst (hG : GC P Mc Nc A t) (hX : wfX A) (ht : t < 4000) (hM : RelM Mm A) (a1 : Int32) (a2 : Int32) (a3 : Int32) (a4 : Int32) : BoI l P sP Mc Mm Nc Nm A t yX11_worst cX11_worst 5 (some .int) rm_X11_worst yX12_worst cX12_worst 6 rm_X12_worst [.int a1, .int a2, .int a3, .int a4] := by
  exact ⟨(worstS A a1 a2 a3 a4), A, rfl, hX,
    cv4 (c_X11_worst l P a1 a2 a3 a4 Mc Nc (fun r M' N' => r = (worstS A a1 a2 a3 a4) ∧ GC P M' N' A (t + 1)) (g11_worst hG (fun M' N' h => ⟨rfl, h⟩))),
    cm4 (c_X12_worst l sP a1 a2 a3 a4 Mm Nm (fun r M' N' => r = (worstS A a1 a2 a3 a4) ∧ RelM M' A) (s12_worst hM (fun M' N' h => ⟨rfl, h⟩)))⟩
theorem b_best (hG : GC P Mc Nc A t) (hX : wfX A) (ht : t < 4000) (hM : RelM Mm A) (a1 : Int32) (a2 : Int32) (a3 : Int32) (a4 : Int32) (a5 : Int32) : BoI l P sP Mc Mm Nc Nm A t yX11_best cX11_best 6 (some .int) rm_X11_best yX12_best cX12_best 8 rm_X12_best [.int a1, .int a2, .int a3, .int a4, .int a5] := by
  exact ⟨(bestS A a1 a2 a3 a4 a5), A, rfl, hX,
    cv4 (c_X11_best l P a1 a2 a3 a4 a5 Mc Nc (fun r M' N' => r = (bestS A a1 a2 a3 a4 a5) ∧ GC P M' N' A (t + 1)) (g11_best hG (fun M' N' h => ⟨rfl, h⟩))),
    cm4 (c_X12_best l sP a1 a2 a3 a4 a5 Mm Nm (fun r M' N' => r = (bestS A a1 a2 a3 a4 a5) ∧ RelM M' A) (s12_best hM (fun M' N' h => ⟨rfl, h⟩)))⟩
theorem b_cost (hG : GC P Mc Nc A t) (hX : wfX A) (ht : t < 4000) (hM : RelM Mm A) (a1 : Int32) : BoL l P sP Mc Mm Nc Nm A t yX11_cost cX11_cost 6 (some .long) rm_X11_cost yX12_cost cX12_cost 2 rm_X12_cost [.int a1] := by
  exact ⟨(costS A a1), A, rfl, hX,
    cv1l (c_X11_cost l P a1 Mc Nc (fun r => r = (costS A a1)) (s11_cost hG.1 rfl)) hG.later,
    cm2l (c_X12_cost l sP a1 Mm Nm (fun r M' => r = (costS A a1) ∧ RelM M' A) (s12_cost hM (fun M' h => ⟨rfl, h⟩)))⟩
theorem b_longest (hG : GC P Mc Nc A t) (hX : wfX A) (ht : t < 4000) (hM : RelM Mm A) (a1 : Int32) : BoI l P sP Mc Mm Nc Nm A t yX11_longest cX11_longest 5 (some .int) rm_X11_longest yX12_longest cX12_longest 6 rm_X12_longest [.int a1] := by
  exact ⟨(longestS A a1), A, rfl, hX,
    cv1 (c_X11_longest l P a1 Mc Nc (fun r => r = (longestS A a1)) (s11_longest hG.1 rfl)) hG.later,
    cm2 (c_X12_longest l sP a1 Mm Nm (fun r M' => r = (longestS A a1) ∧ RelM M' A) (s12_longest hM (fun M' h => ⟨rfl, h⟩)))⟩
theorem b_page (hG : GC P Mc Nc A t) (hX : wfX A) (ht : t < 4000) (hM : RelM Mm A) (a1 : Int32) : BoI l P sP Mc Mm Nc Nm A t yX11_page cX11_page 3 (some .int) rm_X11_page yX12_page cX12_page 5 rm_X12_page [.int a1] := by
  exact ⟨(pageS A a1), A, rfl, hX,
    cv2 (c_X11_page l P a1 Mc Nc (fun r M' => r = (pageS A a1) ∧ GC P M' Nc A (t + 1)) (g11_page hG ht (fun M' h => ⟨rfl, h⟩))),
    cm2 (c_X12_page l sP a1 Mm Nm (fun r M' => r = (pageS A a1) ∧ RelM M' A) (s12_page hM (fun M' h => ⟨rfl, h⟩)))⟩
theorem b_tells (hG : GC P Mc Nc A t) (hX : wfX A) (ht : t < 4000) (hM : RelM Mm A) (a1 : Int32) (a2 : Int32) : BoI l P sP Mc Mm Nc Nm A t yX11_tells cX11_tells 4 (some .int) rm_X11_tells yX12_tells cX12_tells 6 rm_X12_tells [.int a1, .int a2] := by
  exact ⟨(tellsS A a1 a2), A, rfl, hX,
    cv2 (c_X11_tells l P a1 a2 Mc Nc (fun r M' => r = (tellsS A a1 a2) ∧ GC P M' Nc A (t + 1)) (g11_tells hG (fun M' h => ⟨rfl, h⟩))),
    cm2 (c_X12_tells l sP a1 a2 Mm Nm (fun r M' => r = (tellsS A a1 a2) ∧ RelM M' A) (s12_tells hM (fun M' h => ⟨rfl, h⟩)))⟩
theorem b_off (hG : GC P Mc Nc A t) (hX : wfX A) (ht : t < 4000) (hM : RelM Mm A) (a1 : Int32) (a2 : Int32) (a3 : Int32) : BoL l P sP Mc Mm Nc Nm A t yX11_off cX11_off 6 (some .long) rm_X11_off yX12_off cX12_off 4 rm_X12_off [.int a1, .int a2, .int a3] := by
  exact ⟨(offS A a1 a2 a3), A, rfl, hX,
    cv3l (c_X11_off l P a1 a2 a3 Mc Nc (fun r N' => r = (offS A a1 a2 a3) ∧ GC P Mc N' A (t + 1)) (g11_off hG (fun N' h => ⟨rfl, h⟩))),
    cm2l (c_X12_off l sP a1 a2 a3 Mm Nm (fun r M' => r = (offS A a1 a2 a3) ∧ RelM M' A) (s12_off hM (fun M' h => ⟨rfl, h⟩)))⟩
theorem b_weak (hG : GC P Mc Nc A t) (hX : wfX A) (ht : t < 4000) (hM : RelM Mm A) (a1 : Int32) (a2 : Int32) : BoI l P sP Mc Mm Nc Nm A t yX11_weak cX11_weak 12 (some .int) rm_X11_weak yX12_weak cX12_weak 10 rm_X12_weak [.int a1, .int a2] := by
  exact ⟨(weakS A a1 a2), A, rfl, hX,
    cv3 (c_X11_weak l P a1 a2 Mc Nc (fun r N' => r = (weakS A a1 a2) ∧ GC P Mc N' A (t + 1)) (g11_weak hG (fun N' h => ⟨rfl, h⟩))),
    cm2 (c_X12_weak l sP a1 a2 Mm Nm (fun r M' => r = (weakS A a1 a2) ∧ RelM M' A) (s12_weak hM (fun M' h => ⟨rfl, h⟩)))⟩
theorem b_person (hG : GC P Mc Nc A t) (hX : wfX A) (ht : t < 4000) (hM : RelM Mm A) (a1 : Int64) (a2 : Int32) : BoI l P sP Mc Mm Nc Nm A t yX11_person cX11_person 4 (some .int) rm_X11_person yX12_person cX12_person 9 rm_X12_person [.long a1, .int a2] := by
  exact ⟨(personS A a1 a2), A, rfl, hX,
    cv1 (c_X11_person l P a1 a2 Mc Nc (fun r => r = (personS A a1 a2)) (s11_person hG.1 rfl)) hG.later,
    cm4 (c_X12_person l sP a1 a2 Mm Nm (fun r M' N' => r = (personS A a1 a2) ∧ RelM M' A) (s12_person hM (fun M' N' h _ => ⟨rfl, h⟩)))⟩
theorem b_mend (hG : GC P Mc Nc A t) (hX : wfX A) (ht : t < 4000) (hM : RelM Mm A) (a1 : Int32) (a2 : Int32) : BoI l P sP Mc Mm Nc Nm A t yX11_mend cX11_mend 7 (some .int) rm_X11_mend yX12_mend cX12_mend 5 rm_X12_mend [.int a1, .int a2] := by
  exact ⟨(mendS A a1 a2), A, rfl, hX,
    cv1 (c_X11_mend l P a1 a2 Mc Nc (fun r => r = (mendS A a1 a2)) (s11_mend hG.1 rfl)) hG.later,
    cm2 (c_X12_mend l sP a1 a2 Mm Nm (fun r M' => r = (mendS A a1 a2) ∧ RelM M' A) (s12_mend hM (fun M' h => ⟨rfl, h⟩)))⟩
theorem b_swap (hG : GC P Mc Nc A t) (hX : wfX A) (ht : t < 4000) (hM : RelM Mm A) (a1 : Int32) (a2 : Int32) : BoI l P sP Mc Mm Nc Nm A t yX11_swap cX11_swap 5 (some .int) rm_X11_swap yX12_swap cX12_swap 4 rm_X12_swap [.int a1, .int a2] := by
  exact ⟨(swapS A a1 a2), A, rfl, hX,
    cv1 (c_X11_swap l P a1 a2 Mc Nc (fun r => r = (swapS A a1 a2)) (s11_swap hG.1 rfl)) hG.later,
    cm2 (c_X12_swap l sP a1 a2 Mm Nm (fun r M' => r = (swapS A a1 a2) ∧ RelM M' A) (s12_swap hM (fun M' h => ⟨rfl, h⟩)))⟩
theorem b_chart (hG : GC P Mc Nc A t) (hX : wfX A) (ht : t < 4000) (hM : RelM Mm A) (a1 : Int32) (a2 : Int32) (a3 : Int32) : BoI l P sP Mc Mm Nc Nm A t yX11_chart cX11_chart 5 (some .int) rm_X11_chart yX12_chart cX12_chart 8 rm_X12_chart [.int a1, .int a2, .int a3] := by
  exact ⟨(chartS A a1 a2 a3), A, rfl, hX,
    cv2 (c_X11_chart l P a1 a2 a3 Mc Nc (fun r M' => r = (chartS A a1 a2 a3) ∧ GC P M' Nc A (t + 1)) (g11_chart hG ht (fun M' h => ⟨rfl, h⟩))),
    cm2 (c_X12_chart l sP a1 a2 a3 Mm Nm (fun r M' => r = (chartS A a1 a2 a3) ∧ RelM M' A) (s12_chart hM (fun M' h => ⟨rfl, h⟩)))⟩
theorem b_least (hG : GC P Mc Nc A t) (hX : wfX A) (ht : t < 4000) (hM : RelM Mm A) (a1 : Int32) (a2 : Int32) : BoI l P sP Mc Mm Nc Nm A t yX11_least cX11_least 4 (some .int) rm_X11_least yX12_least cX12_least 7 rm_X12_least [.int a1, .int a2] := by
  exact ⟨(leastS A a1 a2), A, rfl, hX,
    cv2 (c_X11_least l P a1 a2 Mc Nc (fun r M' => r = (leastS A a1 a2) ∧ GC P M' Nc A (t + 1)) (g11_least hG ht (fun M' h => ⟨rfl, h⟩))),
    cm2 (c_X12_least l sP a1 a2 Mm Nm (fun r M' => r = (leastS A a1 a2) ∧ RelM M' A) (s12_least hM (fun M' h => ⟨rfl, h⟩)))⟩
theorem b_ruling (hG : GC P Mc Nc A t) (hX : wfX A) (ht : t < 4000) (hM : RelM Mm A) (a1 : Int32) (a2 : Int32) : BoI l P sP Mc Mm Nc Nm A t yX11_ruling cX11_ruling 3 (some .int) rm_X11_ruling yX12_ruling cX12_ruling 3 rm_X12_ruling [.int a1, .int a2] := by
  exact ⟨(rulingS A a1 a2), (rulingN A a1 a2), (nxA.ruling A a1 a2).2.1, ((nxA.ruling A a1 a2).2.2.2 hX),
    cv2 (c_X11_ruling l P a1 a2 Mc Nc (fun r M' => r = (rulingS A a1 a2) ∧ GC P M' Nc (rulingN A a1 a2) (t + 1)) (g11_ruling hG (fun M' h => ⟨rfl, h⟩))),
    cm2 (c_X12_ruling l sP a1 a2 Mm Nm (fun r M' => r = (rulingS A a1 a2) ∧ RelM M' (rulingN A a1 a2)) (s12_ruling hM (fun M' h => ⟨rfl, h⟩)))⟩
theorem b_against (hG : GC P Mc Nc A t) (hX : wfX A) (ht : t < 4000) (hM : RelM Mm A) (a1 : Int32) : BoI l P sP Mc Mm Nc Nm A t yX11_against cX11_against 3 (some .int) rm_X11_against yX12_against cX12_against 2 rm_X12_against [.int a1] := by
  exact ⟨(againstS A a1), A, rfl, hX,
    cv1 (c_X11_against l P a1 Mc Nc (fun r => r = (againstS A a1)) (s11_against hG.1 rfl)) hG.later,
    cm2 (c_X12_against l sP a1 Mm Nm (fun r M' => r = (againstS A a1) ∧ RelM M' A) (s12_against hM (fun M' h => ⟨rfl, h⟩)))⟩
theorem b_cure (hG : GC P Mc Nc A t) (hX : wfX A) (ht : t < 4000) (hM : RelM Mm A) (a1 : Int32) : BoI l P sP Mc Mm Nc Nm A t yX11_cure cX11_cure 5 (some .int) rm_X11_cure yX12_cure cX12_cure 4 rm_X12_cure [.int a1] := by
  exact ⟨(cureS A a1), A, rfl, hX,
    cv1 (c_X11_cure l P a1 Mc Nc (fun r => r = (cureS A a1)) (s11_cure hG.1 rfl)) hG.later,
    cm2 (c_X12_cure l sP a1 Mm Nm (fun r M' => r = (cureS A a1) ∧ RelM M' A) (s12_cure hM (fun M' h => ⟨rfl, h⟩)))⟩
theorem b_burden (hG : GC P Mc Nc A t) (hX : wfX A) (ht : t < 4000) (hM : RelM Mm A) (a1 : Int32) (a2 : Int32) : BoI l P sP Mc Mm Nc Nm A t yX11_burden cX11_burden 6 (some .int) rm_X11_burden yX12_burden cX12_burden 5 rm_X12_burden [.int a1, .int a2] := by
  exact ⟨(burdenS A a1 a2), A, rfl, hX,
    cv1 (c_X11_burden l P a1 a2 Mc Nc (fun r => r = (burdenS A a1 a2)) (s11_burden hG.1 rfl)) hG.later,
    cm2 (c_X12_burden l sP a1 a2 Mm Nm (fun r M' => r = (burdenS A a1 a2) ∧ RelM M' A) (s12_burden hM (fun M' h => ⟨rfl, h⟩)))⟩
theorem b_given (hG : GC P Mc Nc A t) (hX : wfX A) (ht : t < 4000) (hM : RelM Mm A) (a1 : Int32) (a2 : Int32) (a3 : Int32) (a4 : Int32) : BoI l P sP Mc Mm Nc Nm A t yX11_given cX11_given 7 (some .int) rm_X11_given yX12_given cX12_given 6 rm_X12_given [.int a1, .int a2, .int a3, .int a4] := by
  exact ⟨(givenS A a1 a2 a3 a4), A, rfl, hX,
    cv1 (c_X11_given l P a1 a2 a3 a4 Mc Nc (fun r => r = (givenS A a1 a2 a3 a4)) (s11_given hG.1 rfl)) hG.later,
    cm2 (c_X12_given l sP a1 a2 a3 a4 Mm Nm (fun r M' => r = (givenS A a1 a2 a3 a4) ∧ RelM M' A) (s12_given hM (fun M' h => ⟨rfl, h⟩)))⟩
theorem b_office (hG : GC P Mc Nc A t) (hX : wfX A) (ht : t < 4000) (hM : RelM Mm A) (a1 : Int32) (a2 : Int32) (a3 : Int32) : BoI l P sP Mc Mm Nc Nm A t yX11_office cX11_office 9 (some .int) rm_X11_office yX12_office cX12_office 6 rm_X12_office [.int a1, .int a2, .int a3] := by
  exact ⟨(officeS A a1 a2 a3), A, rfl, hX,
    cv1 (c_X11_office l P a1 a2 a3 Mc Nc (fun r => r = (officeS A a1 a2 a3)) (s11_office hG.1 rfl)) hG.later,
    cm2 (c_X12_office l sP a1 a2 a3 Mm Nm (fun r M' => r = (officeS A a1 a2 a3) ∧ RelM M' A) (s12_office hM (fun M' h => ⟨rfl, h⟩)))⟩
theorem b_likely (hG : GC P Mc Nc A t) (hX : wfX A) (ht : t < 4000) (hM : RelM Mm A) (a1 : Int32) (a2 : Int32) (a3 : Int32) : BoL l P sP Mc Mm Nc Nm A t yX11_likely cX11_likely 8 (some .long) rm_X11_likely yX12_likely cX12_likely 7 rm_X12_likely [.int a1, .int a2, .int a3] := by
  exact ⟨(likelyS A a1 a2 a3), A, rfl, hX,
    cv1l (c_X11_likely l P a1 a2 a3 Mc Nc (fun r => r = (likelyS A a1 a2 a3)) (s11_likely hG.1 rfl)) hG.later,
    cm2l (c_X12_likely l sP a1 a2 a3 Mm Nm (fun r M' => r = (likelyS A a1 a2 a3) ∧ RelM M' A) (s12_likely hM (fun M' h => ⟨rfl, h⟩)))⟩
theorem b_straight (hG : GC P Mc Nc A t) (hX : wfX A) (ht : t < 4000) (hM : RelM Mm A) (a1 : Int32) (a2 : Int32) (a3 : Int32) : BoI l P sP Mc Mm Nc Nm A t yX11_straight cX11_straight 7 (some .int) rm_X11_straight yX12_straight cX12_straight 9 rm_X12_straight [.int a1, .int a2, .int a3] := by
  exact ⟨(straightS A a1 a2 a3), A, rfl, hX,
    cv2 (c_X11_straight l P a1 a2 a3 Mc Nc (fun r M' => r = (straightS A a1 a2 a3) ∧ GC P M' Nc A (t + 1)) (g11_straight hG (fun M' h => ⟨rfl, h⟩))),
    cm2 (c_X12_straight l sP a1 a2 a3 Mm Nm (fun r M' => r = (straightS A a1 a2 a3) ∧ RelM M' A) (s12_straight hM (fun M' h => ⟨rfl, h⟩)))⟩
theorem b_count (hG : GC P Mc Nc A t) (hX : wfX A) (ht : t < 4000) (hM : RelM Mm A) (a1 : Int32) : BoI l P sP Mc Mm Nc Nm A t yX11_count cX11_count 2 (some .int) rm_X11_count yX12_count cX12_count 2 rm_X12_count [.int a1] := by
  exact ⟨(countS A a1), A, rfl, hX,
    cv1 (c_X11_count l P a1 Mc Nc (fun r => r = (countS A a1)) (s11_count hG.1 rfl)) hG.later,
    cm2 (c_X12_count l sP a1 Mm Nm (fun r M' => r = (countS A a1) ∧ RelM M' A) (s12_count hM (fun M' h => ⟨rfl, h⟩)))⟩
end BOTH
