section KPuts
variable {l : Launch} {g : mG} {d : Nat}
theorem c_K_whyNoPut (N : nN) (o : nOk N) (h : mMem) (e : isC h 0 N) : mCon l g n_K_whyNoPut (d + 11) [.inr (8, 0)] h (fun v h' => v = some (.inl (spWhy N)) ∧ farF h h') := by
  have hn := o.1
  have hC := o.2.1
  have hpw := pw_le (nC N) hC.2 (nP N)
  refine e_K_whyNoPut (fun hv hm => ?_)
  refine mGo_wp h_K_whyNoPut 80 [] ?_
  refine ⟨fun z => ?_, fun z => ?_⟩
  · rw [e.1] at z
    refine mCall_is (show mCon l g n_K_power (d + 10) [.inl (h 4 0 1), .inl (h 4 0 0)] h (mIs (some (.inl (pw (nC N) (nP N) : Nat))) h) by rw [e.1, e.2.1]; exact c_K_power _ _ hC.2 (by omega) h) ?_
    refine ⟨fun z2 => ?_, fun z2 => ?_⟩
    · have why : spWhy N = (if qB (nBare N = 0 ∧ nClear N) = true then 0 else vNO) := by
        unfold spWhy
        rw [if_neg (by omega), if_neg (by omega)]
      refine mCall_is (mCon_lift (by omega) (c_Net_bareCount (d := d) 0 N h o e)) ?_
      refine ⟨fun z3 => ?_, fun z3 => ?_⟩
      · rw [why, if_neg (qB_no (fun w => by have := w.1; omega))]
        exact ⟨rfl, farF.rf⟩
      · refine mCall_on2 (c_Finder_hasAny 0 N o h e) ?_
        rintro r h1 ⟨rfl, f1⟩
        refine ⟨fun z4 => ?_, fun z4 => ?_⟩
        · rw [why, if_pos (qB_t ⟨by omega, Classical.not_not.mp (mBc_eq0.mp z4)⟩)]
          exact ⟨rfl, f1⟩
        · rw [why, if_neg (qB_no (fun w => mBc_ne0.mp z4 w.2))]
          exact ⟨rfl, f1⟩
    · have : spWhy N = vLARGE := by
        unfold spWhy
        rw [if_neg (by omega), if_pos (by omega)]
      rw [this]
      exact ⟨rfl, farF.rf⟩
  · rw [e.1] at z
    have : spWhy N = vFULL := by
      unfold spWhy
      rw [if_pos (by omega)]
    rw [this]
    exact ⟨rfl, farF.rf⟩
theorem c_beginPut (N : nN) (o : nOk N) (hw : spWhy N = 0) (h : mMem) (e : isC h 0 N) : mCon l g n_Filling_beginPut (d + 12) [.inr (0, 0), .inr (4, 0)] h (fun v h' => v = none ∧ itR h' (bP N) (opM (bP N)) (oN (bP N)) (lvN (bP N)) ∧ (lvN (bP N)).length ≤ 60000 ∧ scrC h h') := by
  obtain ⟨y1, y2, y3, y4⟩ := why_0 o hw
  have ob := nOk_bP o y1
  refine e_Filling_beginPut (fun hv hm => ?_)
  refine mGo_wp h_Filling_beginPut 40 [] ?_
  refine mCall_is (mCon_lift (by omega) (c_Net_become (d := d) 1 0 h)) ?_
  have e1 : isC (mBec h 1 0) 1 N := isC_bec e
  have w1 : mWr (mBec h 1 0 4 1 0 + 1) = ((nP N + 1 : Nat) : Int) := by rw [e1.1, mWr_of ⟨by omega, by omega⟩]; omega
  have e2 : isC (mSet (mBec h 1 0) 4 1 0 (mWr (mBec h 1 0 4 1 0 + 1))) 1 (bP N) := by
    refine ⟨by rw [mSet_at, w1], (mSet_no (by simp)).trans e1.2.1, fun k hk => (mSet_no (by simp)).trans (e1.2.2.1 k hk), fun k hk => (mSet_no (by simp)).trans (e1.2.2.2.1 k hk), fun k hk => (mSet_no (by simp)).trans (e1.2.2.2.2.1 k hk), fun c hc q hq => (mSet_no (by simp)).trans (e1.2.2.2.2.2 c hc q hq)⟩
  have f2 : farB1 (mBec h 1 0) (mSet (mBec h 1 0) 4 1 0 (mWr (mBec h 1 0 4 1 0 + 1))) := fun t a q z => mSet_no (fun y => z ⟨Or.inl y.1, y.2.1⟩)
  refine mCall_on2 (c_beginOnBoard (bP N) ob _ e2) ?_
  rintro v h3 ⟨rfl, a1, a2, a3, a4, a5, f3⟩
  have hbb : nC (bP N) ^ opM (bP N) ≤ 60000 := by
    rw [(lvN_bP o y1 y3 y4).2]
    exact y2
  obtain ⟨q1, q2⟩ := begin_it ob a1 a2 a3 a4 a5 hbb
  exact ⟨rfl, q1, q2, bec_far.scr.tr (f2.scr.tr f3.scr)⟩
theorem s_K_puts (h : mMem) (S : sS) (o : sOk S) (e : RC h S) : mCon l g n_K_puts (d + 16) [.inr (8, 0)] h (ansC h S (spPuts S.1)) := by
  refine e_K_puts (fun hv hm => ?_)
  refine mGo_wp h_K_puts 40 [] ?_
  refine mCall_on2 (mCon_lift (by omega) (c_K_whyNoPut (d := d) S.1 o.1 h e.1)) ?_
  rintro r h1 ⟨rfl, f1⟩
  have R1 := RC_scr e (scrC.ofF f1)
  unfold spPuts
  refine ⟨fun z => ?_, fun z => ?_⟩
  · have z : spWhy S.1 = 0 := z
    rw [if_pos z]
    refine mCall_on2 (mCon_lift (by omega) (c_beginPut (d := d) S.1 o.1 z h1 R1.1)) ?_
    rintro r h2 ⟨rfl, i2, l2, f2⟩
    refine mCall_on2 (c_countAll (bP S.1) _ _ _ l2 h2 i2) ?_
    rintro r h3 ⟨rfl, f3⟩
    have fs := (scrC.ofF f1).tr (f2.tr f3.scr)
    exact ⟨rfl, RC_scr e fs, fs.only⟩
  · have z : spWhy S.1 ≠ 0 := z
    rw [if_neg z]
    exact ⟨rfl, R1, (scrC.ofF f1).only⟩
noncomputable def spPutK (S : sS) (k : Int) : Int × sS := if spWhy S.1 = 0 then (if k < 0 then (vBAD, S) else (match (lvN (bP S.1))[k.toNat]? with
  | none => (vNONE, sTo S S.1)
  | some T => ((nP S.1 + 1 : Nat), sTo S (nSetT (bP S.1) T)))) else (spWhy S.1, S)
theorem s_K_put (k : Int) (h : mMem) (S : sS) (o : sOk S) (e : RC h S) : mCon l g n_K_put (d + 16) [.inr (8, 0), .inl k] h (fun r h' => r = some (.inl (spPutK S k).1) ∧ RC h' (spPutK S k).2 ∧ onlyC h h') := by
  refine e_K_put (fun hv hm => ?_)
  refine mGo_wp h_K_put 80 [] ?_
  refine mCall_on2 (mCon_lift (by omega) (c_K_whyNoPut (d := d) S.1 o.1 h e.1)) ?_
  rintro r h1 ⟨rfl, f1⟩
  have R1 := RC_scr e (scrC.ofF f1)
  unfold spPutK
  refine ⟨fun z => ⟨fun z2 => ?_, fun z2 => ?_⟩, fun z => ?_⟩
  · have z : spWhy S.1 = 0 := z
    rw [if_pos z, if_neg (by omega)]
    refine mCall_on2 (mCon_lift (by omega) (c_beginPut (d := d) S.1 o.1 z h1 R1.1)) ?_
    rintro r h2 ⟨rfl, i2, l2, f2⟩
    refine mCall_on2 (c_reach (bP S.1) _ _ _ l2 k z2 h2 i2) ?_
    rintro r h3 ⟨rfl, a3, f3⟩
    have fs := (scrC.ofF f1).tr (f2.tr f3.scr)
    have R3 := RC_scr e fs
    cases hx : (lvN (bP S.1))[k.toNat]? with
    | none =>
      have hlt : ¬ (k < ((lvN (bP S.1)).length : Int)) := fun w => by
        rw [List.getElem?_eq_getElem (show k.toNat < (lvN (bP S.1)).length by omega)] at hx
        cases hx
      rw [mBc_f hlt]
      refine ⟨fun _ => ?_, fun w => absurd rfl w⟩
      refine mCall_on2 (mCon_lift (by omega) (s_changeTo (d := d) 0 (Or.inl rfl) S.1 h3 S o R3 R3.1)) ?_
      rintro r h4 ⟨rfl, e4, q4, -⟩
      exact ⟨fun _ => ⟨rfl, e4, fs.only.tr q4⟩, fun w => absurd rfl w⟩
    | some T =>
      have hlt : k < ((lvN (bP S.1)).length : Int) := by
        have := (List.getElem?_eq_some_iff.mp hx).1
        omega
      rw [mBc_t hlt]
      obtain ⟨eT, oT⟩ := a3 T hx
      refine ⟨fun w => absurd w (by decide), fun _ => ?_⟩
      refine mCall_on2 (mCon_lift (by omega) (s_changeTo (d := d) 1 (Or.inr rfl) (nSetT (bP S.1) T) h3 S o R3 eT)) ?_
      rintro r h4 ⟨rfl, e4, q4, e5⟩
      have e50 : h4 4 0 0 = ((nP S.1 + 1 : Nat) : Int) := e5.1
      refine ⟨fun w => absurd w (by decide), fun _ => ?_⟩
      exact ⟨by rw [e50], e4, fs.only.tr q4⟩
  · have z : spWhy S.1 = 0 := z
    rw [if_pos z, if_pos z2]
    exact ⟨rfl, R1, (scrC.ofF f1).only⟩
  · have z : spWhy S.1 ≠ 0 := z
    rw [if_neg z]
    exact ⟨rfl, R1, (scrC.ofF f1).only⟩
end KPuts
