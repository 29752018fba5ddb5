/-! fill on the class's side -/
section KFill
variable {l : Launch} {g : mG} {d : Nat}
theorem c_Filling_begin (N : nN) (o : nOk N) (h : mMem) (e : isC h 0 N) : mCon l g n_Filling_begin (d + 12) [.inr (0, 0), .inr (4, 0)] h (fun v h' => v = none ∧ fB h' (opM N) (oN N) ∧ h' 0 0 6 = 0 ∧ h' 0 0 1 = 0 ∧ h' 0 0 7 = mBc (¬ nClear N) ∧ isC h' 1 N ∧ scrC h h') := by
  refine e_Filling_begin (fun hv hm => ?_)
  refine mGo_wp h_Filling_begin 40 [] ?_
  refine mCall_is (mCon_lift (by omega) (c_Net_become (d := d) 1 0 h)) ?_
  refine mCall_on2 (c_beginOnBoard N o _ (isC_bec e)) ?_
  rintro v h3 ⟨rfl, a1, a2, a3, a4, a5, f3⟩
  exact ⟨rfl, a1, a2, a3, a4, a5, bec_far.scr.tr f3.scr⟩
theorem c_goFill (N : nN) (o : nOk N) (most : Nat) (hmost : most ≤ 1000000) (h : mMem) (e1 : fB h (opM N) (oN N)) (e2 : h 0 0 6 = 0) (e3 : h 0 0 1 = 0) (e4 : h 0 0 7 = mBc (¬ nClear N)) (e5 : isC h 1 N) : mCon l g n_Filling_goOn (d + 14) [.inr (0, 0), .inl most] h (fun v h' => v = some (.inl (fR N most).1) ∧ h' 0 0 1 = ((fR N most).2.1 : Nat) ∧ (∀ T, (fR N most).2.2 = some T → isC h' 1 (nSetT N T)) ∧ farG h h') := by
  by_cases hc : nClear N
  · rw [mBc_f (fun z => z hc)] at e4
    have hfr : fR N most = frs N (opM N) (oN N) most (opM N) 0 (nT N) 0 := if_pos (qB_t hc)
    rw [hfr]
    by_cases hm : opM N = 0
    · have hfr2 : frs N (opM N) (oN N) most (opM N) 0 (nT N) 0 = (1, 0, some (nT N)) := if_pos hm
      rw [hfr2]
      refine e_Filling_goOn (fun hv hmm => ?_)
      refine mGo_wp h_Filling_goOn 120 [25] ?_
      refine ⟨fun _ => ⟨fun z => absurd (show h 0 0 5 = 0 by rw [e1.1, hm]; rfl) z, fun _ => ?_⟩, fun z => absurd e4 z⟩
      refine ⟨Or.inr rfl, rfl, (mSet_no (by simp)).trans e3, (fun T z => ?_), fun t a q z => mSet_no (fun y => z (by omega))⟩
      cases z
      exact isC_eq e5 (fun t q ht => mSet_no (fun y => by omega))
    · have hm0 : 0 < opM N := by omega
      have ho := opO_of o
      have cu := cuB_of o hm0
      have h0 := (oN_mem (N := N) (i := 0) hm0).2
      have hfr2 : frs N (opM N) (oN N) most (opM N) 0 (nT N) 0 = gres N (opM N) (oN N) most 0 (kds (nC N) (oN N) (Dg N (opM N) (oN N)) (opM N) 0 (nT N)) := if_neg hm
      rw [hfr2]
      refine mCon_mono (c_goOn N (opM N) (oN N) ho hm0 most hmost 0 (nT N) 0 h cu e1 e5 e2 e3 e4 (Nat.zero_le _)) ?_
      rintro v h' ⟨rfl, p1, -, p3, f⟩
      rw [rem_start h0 hm0] at p1 p3 ⊢
      refine ⟨rfl, p1, (fun T hT => ?_), f⟩
      unfold gres at hT
      obtain ⟨y, hy, rfl⟩ := Option.map_eq_some_iff.mp hT
      exact (p3 y.1 y.2 hy).2.2.1
  · rw [mBc_t hc] at e4
    have hfr : fR N most = (0, 0, none) := if_neg (qB_no hc)
    rw [hfr]
    refine e_Filling_goOn (fun hv hm => ?_)
    refine mGo_wp h_Filling_goOn 120 [25] ?_
    refine ⟨fun z => by rw [e4] at z; omega, fun _ => ⟨rfl, e3, (fun T z => by cases z), farG.rf⟩⟩
theorem RC_tries {h : mMem} {S : sS} (e : RC h S) (t : Int) : RC (mSet h 8 0 7 t) (S.1, S.2.1, t, S.2.2.2) := by
  obtain ⟨a, b, c, d1, d2⟩ := e
  refine ⟨isC_set (by decide) a, hisC_eq b (mSet_no (by simp)) (mSet_no (by simp)) (fun t i k _ _ ht => mSet_no (fun z => by omega)), mSet_at _ _ _ _ _, (mSet_no (by simp)).trans d1, fun i hi => ?_⟩
  rw [mSet_no (by simp), mSet_no (by simp), mSet_no (by simp)]
  exact d2 i hi
theorem s_K_fill (n : Int) (h : mMem) (S : sS) (o : sOk S) (e : RC h S) : mCon l g n_K_fill (d + 16) [.inr (8, 0), .inl n] h (fun r h' => r = some (.inl (spFill S n).1) ∧ RC h' (spFill S n).2 ∧ onlyC h h') := by
  refine e_K_fill (fun hv hm => ?_)
  refine mGo_wp h_K_fill 80 [15] ?_
  unfold spFill
  refine ⟨fun z => ?_, fun z => ⟨fun z2 => ?_, fun z2 => ?_⟩⟩
  · rw [if_neg (by omega)]
    exact ⟨rfl, e, onlyC.rf⟩
  · rw [if_pos ⟨by omega, by omega⟩]
    obtain ⟨most, rfl⟩ := Int.eq_ofNat_of_zero_le (show 0 ≤ n by omega)
    rw [Int.toNat_natCast]
    refine mGo_wp h_K_fill 80 [] ?_
    refine mCall_on2 (mCon_lift (by omega) (c_Filling_begin (d := d) S.1 o.1 h e.1)) ?_
    rintro r h1 ⟨rfl, a1, a2, a3, a4, a5, f1⟩
    refine mCall_on2 (mCon_lift (by omega) (c_goFill (d := d) S.1 o.1 most (by omega) h1 a1 a2 a3 a4 a5)) ?_
    rintro r h2 ⟨rfl, p1, p2, f2⟩
    have f12 := f1.tr f2.scr
    have R2 := RC_scr e f12
    have bd := fR_bd S.1 most
    refine ⟨fun z3 => ?_, fun z3 => ?_⟩
    · have z3 : (fR S.1 most).1 ≠ -1 := z3
      have R3 := RC_tries R2 (h2 0 0 1)
      have q3 : onlyC h2 (mSet h2 8 0 7 (h2 0 0 1)) := fun t i k ht => mSet_no (fun y => by omega)
      refine ⟨fun z4 => ?_, fun z4 => ?_⟩
      · have z4 : (fR S.1 most).1 ≠ 0 := z4
        have h1' : (fR S.1 most).1 = 1 := by omega
        obtain ⟨T, hT⟩ : ∃ T, (fR S.1 most).2.2 = some T := by
          have := bd.2.2.mp h1'
          cases hx : (fR S.1 most).2.2 with
          | none => exact absurd hx this
          | some T => exact ⟨T, rfl⟩
        rw [hT]
        have eT := p2 T hT
        have o3 : sOk (S.1, S.2.1, h2 0 0 1, S.2.2.2) := o
        rw [← p1]
        have eT3 : isC (mSet h2 8 0 7 (h2 0 0 1)) 1 (nSetT S.1 T) := isC_eq eT (fun t q ht => mSet_no (fun y => by omega))
        refine mCall_on2 (mCon_lift (by omega) (s_changeTo (d := d) 1 (Or.inr rfl) (nSetT S.1 T) _ _ o3 R3 eT3)) ?_
        rintro r h4 ⟨rfl, e4, q4, -⟩
        exact ⟨rfl, e4, f12.only.tr (q3.tr q4)⟩
      · have z4 : (fR S.1 most).1 = 0 := z4
        have hT : (fR S.1 most).2.2 = none := by
          cases hx : (fR S.1 most).2.2 with
          | none => rfl
          | some T =>
            have := bd.2.2.mpr (by rw [hx]; simp)
            omega
        rw [hT]
        dsimp only
        rw [if_neg z3]
        rw [← p1]
        exact ⟨rfl, R3, f12.only.tr q3⟩
    · have z3 : (fR S.1 most).1 = -1 := z3
      have hT : (fR S.1 most).2.2 = none := by
        cases hx : (fR S.1 most).2.2 with
        | none => rfl
        | some T =>
          have := bd.2.2.mpr (by rw [hx]; simp)
          omega
      rw [hT]
      dsimp only
      rw [if_pos z3]
      exact ⟨rfl, R2, f12.only⟩
  · rw [if_neg (by omega)]
    exact ⟨rfl, e, onlyC.rf⟩
end KFill
