/-! turned, turns -/
noncomputable def spTurned (S : sS) (t : Int) : Int × sS := if 0 ≤ t ∧ t < pw (nC S.1) (nP S.1 / 2) then ((nClash (turnN S.1 t.toNat) : Nat), sTo S (turnN S.1 t.toNat)) else (vBAD, S)
noncomputable def tuF (N : nN) : Nat → Nat × Int × Int
  | 0 => (0, vNONE, vNONE)
  | t + 1 => if qB (nClear (turnN N t)) = true then ((tuF N t).1 + 1, (if (tuF N t).1 = 0 then (t : Int) else (tuF N t).2.1), (t : Int)) else tuF N t
noncomputable def tuW (N : nN) (w : Int) : Int := if w = 0 then ((tuF N (pw (nC N) (nP N / 2))).1 : Nat) else if w = 1 then (tuF N (pw (nC N) (nP N / 2))).2.1 else (tuF N (pw (nC N) (nP N / 2))).2.2
noncomputable def spTurns (N : nN) (w : Int) : Int := if 0 ≤ w ∧ w ≤ 2 then tuW N w else vBAD
theorem tuF_yes {N : nN} {t : Nat} (h : nClear (turnN N t)) : tuF N (t + 1) = ((tuF N t).1 + 1, (if (tuF N t).1 = 0 then (t : Int) else (tuF N t).2.1), (t : Int)) := if_pos (qB_t h)
theorem tuF_no {N : nN} {t : Nat} (h : ¬ nClear (turnN N t)) : tuF N (t + 1) = tuF N t := if_neg (qB_no h)
theorem tuF_inv (N : nN) : ∀ t, (tuF N t).1 ≤ t ∧ (((tuF N t).1 = 0 ∧ (tuF N t).2.1 = vNONE) ∨ ((tuF N t).1 ≠ 0 ∧ 0 ≤ (tuF N t).2.1))
  | 0 => ⟨Nat.le_refl _, Or.inl ⟨rfl, rfl⟩⟩
  | t + 1 => by
    have ih := tuF_inv N t
    by_cases h : nClear (turnN N t)
    · rw [tuF_yes h]
      refine ⟨by show (tuF N t).1 + 1 ≤ t + 1; omega, Or.inr ⟨by show (tuF N t).1 + 1 ≠ 0; omega, ?_⟩⟩
      show 0 ≤ (if (tuF N t).1 = 0 then (t : Int) else (tuF N t).2.1)
      split
      · omega
      · rcases ih.2 with z | z
        · omega
        · exact z.2
    · rw [tuF_no h]
      exact ⟨by omega, ih.2⟩
section Turns
variable {l : Launch} {g : mG} {d : Nat}
theorem c_Net_turnCount (i : Fin 8) (N : nN) (o : nOk N) (h : mMem) (e : isC h i N) : mCon l g n_Net_turnCount (d + 1) [.inr (4, i)] h (mIs (some (.inl (pw (nC N) (nP N / 2) : Nat))) h) := by
  refine e_Net_turnCount (fun hv hm => ?_)
  refine mGo_wp h_Net_turnCount 40 [] ?_
  have hn := o.1.2
  have hC := o.2.1
  have w : mDiv (h 4 i 0) 2 = ((nP N / 2 : Nat) : Int) := by rw [e.1, mDiv_of ⟨by omega, by omega⟩ ⟨by decide, by decide⟩ (by omega) (by decide)]; omega
  refine ⟨by decide, ?_⟩
  refine mCall_is (show mCon l g n_K_power d [.inl (h 4 i 1), .inl (mDiv (h 4 i 0) 2)] h (mIs (some (.inl (pw (nC N) (nP N / 2) : Nat))) h) by rw [e.2.1, w]; exact c_K_power _ _ (by omega) (by omega) h) ?_
  exact ⟨rfl, rfl⟩
theorem c_M_turnPower (N : nN) (o : nOk N) (h : mMem) (e : isM h N) : mCon l g n_M_power d [.inl (h 9 0 1), .inl (mDiv (h 9 0 0) 2)] h (mIs (some (.inl (pw (nC N) (nP N / 2) : Nat))) h) := by
  have hn := o.1.2
  have hC := o.2.1
  have w : mDiv (h 9 0 0) 2 = ((nP N / 2 : Nat) : Int) := by rw [e.1, mDiv_of ⟨by omega, by omega⟩ ⟨by decide, by decide⟩ (by omega) (by decide)]; omega
  rw [e.2.1, w]
  exact c_M_power _ _ (by omega) (by omega) h
theorem sameBut_chg {h h' : mMem} (f : sameBut 0 h h') : chgC h h' := fun t i k z => f t i k (fun y => z (Or.inr (Or.inr (Or.inr (Or.inr (Or.inr (Or.inr ⟨Or.inr (by omega), Or.inl y.2⟩)))))))
theorem sameBut_scr {h h' : mMem} (f : sameBut 1 h h') : scrC h h' := fun t i k z => f t i k (fun y => z (Or.inr (Or.inr (Or.inr (Or.inr (Or.inr (Or.inr ⟨Or.inr (by omega), y.2⟩)))))))
theorem s_K_turned (t : Int) (h : mMem) (S : sS) (o : sOk S) (e : RC h S) : mCon l g n_K_turned (d + 11) [.inr (8, 0), .inl t] h (fun r h' => r = some (.inl (spTurned S t).1) ∧ RC h' (spTurned S t).2 ∧ onlyC h h') := by
  refine e_K_turned (fun hv hm => ?_)
  refine mGo_wp h_K_turned 60 [] ?_
  have hw := pw_le (nC S.1) o.1.2.1.2 (nP S.1 / 2)
  refine ⟨fun z => ?_, fun z => ?_⟩
  · rw [spTurned, if_neg (fun w => by omega)]
    exact ⟨rfl, e, onlyC.rf⟩
  · refine mCall_is (c_Net_turnCount 0 S.1 o.1 h e.1) ?_
    refine ⟨fun z2 => ?_, fun z2 => ?_⟩
    · obtain ⟨t', rfl⟩ := Int.eq_ofNat_of_zero_le z
      rw [spTurned, if_pos ⟨z, z2⟩, Int.toNat_natCast]
      refine mCall_on2 (mCon_lift (by omega) (s_remember (d := d) h S o e)) ?_
      rintro r1 h1 ⟨rfl, e1, q1⟩
      refine mCall_on2 (mCon_lift (by omega) (c_Net_turn (d := d) 0 S.1 o.1 t' (by omega) h1 e1.1)) ?_
      rintro r2 h2 ⟨rfl, e2, q2⟩
      refine mCall_on2 (c_Finder_clashes 0 (turnN S.1 t') (nOk_turn o.1 t') h2 e2) ?_
      rintro r3 h3 ⟨rfl, q3⟩
      have c2 := sameBut_chg q2
      have c3 := chgC.ofS (scrC.ofF q3)
      exact ⟨rfl, RC_new e1 (c2.tr c3) (isC_farF e2 q3), q1.tr (c2.tr c3).only⟩
    · rw [spTurned, if_neg (fun w => by omega)]
      exact ⟨rfl, e, onlyC.rf⟩
theorem isM_seg {h : mMem} {N : nN} {T : Nat → Int} (e : isM h N) (f : Nat → Int) (hf : ∀ k, k < 66 → mSeg h 42 0 0 (js (nP N)) f 42 0 k = T k) : isM (mSeg h 42 0 0 (js (nP N)) f) (nSetT N T) :=
  ⟨(mSeg_ne (by decide)).trans e.1, (mSeg_ne (by decide)).trans e.2.1, fun k hk => (mSeg_ne (by decide)).trans (e.2.2.1 k hk), fun k hk => (mSeg_ne (by decide)).trans (e.2.2.2.1 k hk), hf⟩
theorem turn_seg {h : mMem} {N : nN} (e : isM h N) (t : Nat) : isM (mSeg h 42 0 0 (js (nP N)) (tuV (nP N) (nC N) t)) (turnN N t) := by
  refine isM_seg e _ (fun k hk => ?_)
  show (if _ then _ else _) = (if k < js (nP N) then _ else _)
  by_cases hq : k < js (nP N)
  · rw [if_pos ⟨rfl, rfl, by omega, by omega⟩, if_pos hq, Nat.sub_zero]
  · rw [if_neg (fun z => by omega), if_neg hq]
    exact e.2.2.2.2 k hk
theorem seg_chg {h : mMem} {n : Nat} {f : Nat → Int} {t : Nat} (ht : t = 42 ∨ t = 49) : chgM h (mSeg h t 0 0 n f) := fun t' i k z => mSeg_ne (by omega)
theorem s_M_turned (t : Int) (h : mMem) (S : sS) (o : sOk S) (e : RM h S) : mCon l g n_M_turned (d + 14) [.inr (9, 0), .inl t] h (fun r h' => r = some (.inl (spTurned S t).1) ∧ RM h' (spTurned S t).2 ∧ onlyM h h') := by
  refine e_M_turned (fun hv hm => ?_)
  refine mGo_wp h_M_turned 60 [] ?_
  have hw := pw_le (nC S.1) o.1.2.1.2 (nP S.1 / 2)
  have hC := o.1.2.1
  refine ⟨by decide, ?_⟩
  refine mCall_is (c_M_turnPower S.1 o.1 h e.1) ?_
  refine mCall_is (c_M_isIn _ _ _ h) ?_
  have w : mWr (((pw (nC S.1) (nP S.1 / 2) : Nat) : Int) - 1) = ((pw (nC S.1) (nP S.1 / 2) : Nat) : Int) - 1 := mWr_of ⟨by omega, by omega⟩
  rw [w]
  refine ⟨fun z => ?_, fun z => ?_⟩
  · have z := mB_ne0.mp z
    obtain ⟨t', rfl⟩ := Int.eq_ofNat_of_zero_le z.1
    rw [spTurned, if_pos ⟨z.1, by omega⟩, Int.toNat_natCast]
    refine mCall_on2 (mCon_lift (by omega) (s_keep (d := d) h S o e)) ?_
    rintro r1 h1 ⟨rfl, e1, q1, -⟩
    refine mCall_is (mCon_lift (by omega) (c_M_layTurned (d := d) (nP S.1) (nC S.1) t' o.1.1.2 hC (by omega) h1 e1.1.1 e1.1.2.1)) ?_
    have e2 := turn_seg e1.1 t'
    have c2 : chgM h1 (mSeg h1 42 0 0 (js (nP S.1)) (tuV (nP S.1) (nC S.1) t')) := seg_chg (Or.inl rfl)
    refine mCall_on2 (c_M_clashes (turnN S.1 t') (nOk_turn o.1 t') _ e2) ?_
    rintro r3 h3 ⟨rfl, q3⟩
    have c3 := chgM.ofS (scrM.ofX q3)
    exact ⟨rfl, RM_new e1 (c2.tr c3) (isM_farX e2 q3), q1.tr (c2.tr c3).only⟩
  · have z := mB_eq0.mp z
    rw [spTurned, if_neg (fun w => z ⟨w.1, by omega⟩)]
    exact ⟨rfl, e, onlyM.rf⟩
theorem s_K_turns (w : Int) (h : mMem) (S : sS) (o : sOk S) (e : RC h S) : mCon l g n_K_turns (d + 11) [.inr (8, 0), .inl w] h (ansC h S (spTurns S.1 w)) := by
  have hC := o.1.2.1
  have hpw := pw_le (nC S.1) hC.2 (nP S.1 / 2)
  have loop : (0 ≤ w ∧ w ≤ 2) → ∀ (m t : Nat) (T' : Nat → Int) (h1 : mMem), t + m = pw (nC S.1) (nP S.1 / 2) → scrC h h1 → isC h1 1 (nSetT S.1 T') → nOk (nSetT S.1 T') → (∀ s, tuT (nP S.1) (nC S.1) s T' = tuT (nP S.1) (nC S.1) s (nT S.1)) →
      mGo l g (mMt n_K_turns) (d + 11) 41 [some (.inr (8, 0)), some (.inl w), some (.inr (4, 1)), some (.inl ((tuF S.1 t).1 : Nat)), some (.inl (tuF S.1 t).2.1), some (.inl (tuF S.1 t).2.2), some (.inl t)] [] h1 (ansC h S (spTurns S.1 w)) := by
    intro hw m
    induction m with
    | zero =>
      intro t T' h1 ht f b1 b2 b3
      refine mGo_wp h_K_turns 120 [41] ?_
      refine mCall_is (mCon_lift (by omega) (c_Net_turnCount (d := d) 0 S.1 o.1 h1 (isC_scr e.1 (by decide) f))) ?_
      have ht' : t = pw (nC S.1) (nP S.1 / 2) := by omega
      have R : RC h1 S ∧ onlyC h h1 := ⟨RC_scr e f, f.only⟩
      refine ⟨fun _ => ?_, fun z => by omega⟩
      unfold spTurns tuW
      rw [if_pos hw, ← ht']
      refine ⟨fun z => ⟨fun z2 => ⟨?_, R⟩, fun z2 => ⟨?_, R⟩⟩, fun z => ⟨?_, R⟩⟩
      · rw [if_neg z, if_neg z2]
      · rw [if_neg z, if_pos z2]
      · rw [if_pos z]
    | succ m ih =>
      intro t T' h1 ht f b1 b2 b3
      refine mGo_wp h_K_turns 120 [41] ?_
      refine mCall_is (mCon_lift (by omega) (c_Net_turnCount (d := d) 0 S.1 o.1 h1 (isC_scr e.1 (by decide) f))) ?_
      refine ⟨fun z => by omega, fun _ => ?_⟩
      refine mCall_on2 (mCon_lift (by omega) (c_Net_turn (d := d) 1 (nSetT S.1 T') b2 t (by omega) h1 b1)) ?_
      rintro r2 h2 ⟨rfl, e2, q2⟩
      have e2 : isC h2 1 (nSetT S.1 (tuT (nP S.1) (nC S.1) t T')) := e2
      rw [b3 t] at e2
      refine mCall_on2 (c_Finder_hasAny 1 (turnN S.1 t) (nOk_turn o.1 t) h2 e2) ?_
      rintro r3 h3 ⟨rfl, q3⟩
      have f3 := f.tr ((sameBut_scr q2).tr (scrC.ofF q3))
      have e3 := isC_farF e2 q3
      have nx := ih (t + 1) _ h3 (by omega) f3 e3 (nOk_turn o.1 t) (fun s => tuT_again _ _ s t _)
      have iv := tuF_inv S.1 t
      refine ⟨fun z => ?_, fun z => ?_⟩
      · rw [tuF_no (mBc_ne0.mp z)] at nx
        show mGo l g _ _ 41 [_, _, _, _, _, _, some (.inl (mWr ((t : Int) + 1)))] [] _ _
        rw [mWr_of ⟨by omega, by omega⟩]
        exact nx
      · rw [tuF_yes (Classical.not_not.mp (mBc_eq0.mp z))] at nx
        have w3 : mWr (((tuF S.1 t).1 : Int) + 1) = (((tuF S.1 t).1 + 1 : Nat) : Int) := by rw [mWr_of ⟨by omega, by omega⟩]; omega
        refine ⟨fun z2 => ?_, fun z2 => ?_⟩
        · rw [w3] at z2
          dsimp only at nx
          rw [if_neg (by omega)] at nx
          show mGo l g _ _ 41 [_, _, _, some (.inl (mWr (((tuF S.1 t).1 : Int) + 1))), _, _, some (.inl (mWr ((t : Int) + 1)))] [] _ _
          rw [w3, mWr_of ⟨by omega, by omega⟩]
          exact nx
        · rw [w3] at z2
          dsimp only at nx
          rw [if_pos (by omega)] at nx
          show mGo l g _ _ 41 [_, _, _, some (.inl (mWr (((tuF S.1 t).1 : Int) + 1))), _, _, some (.inl (mWr ((t : Int) + 1)))] [] _ _
          rw [w3, mWr_of ⟨by omega, by omega⟩]
          exact nx
  refine e_K_turns (fun hv hm => ?_)
  refine mGo_wp h_K_turns 120 [41] ?_
  have bad : ¬ (0 ≤ w ∧ w ≤ 2) → ansC h S (spTurns S.1 w) (some (.inl vBAD)) h := fun z => ⟨by rw [spTurns, if_neg z], e, onlyC.rf⟩
  refine ⟨fun z => bad (by omega), fun z => ⟨fun z2 => ?_, fun z2 => bad (by omega)⟩⟩
  refine mCall_is (mCon_lift (by omega) (c_Net_become (d := d) 1 0 h)) ?_
  refine loop ⟨z, z2⟩ (pw (nC S.1) (nP S.1 / 2)) 0 (nT S.1) _ (Nat.zero_add _) (fun t i k y => if_neg (fun x => y ?_)) (isC_bec e.1) o.1 (fun s => rfl)
  exact Or.inr (Or.inr (Or.inr (Or.inr (Or.inr (Or.inr ⟨by omega, x.1⟩)))))
theorem s_M_turns (w : Int) (h : mMem) (S : sS) (o : sOk S) (e : RM h S) : mCon l g n_M_turns (d + 14) [.inr (9, 0), .inl w] h (ansM h S (spTurns S.1 w)) := by
  have hC := o.1.2.1
  have hpw := pw_le (nC S.1) hC.2 (nP S.1 / 2)
  have loop : (0 ≤ w ∧ w ≤ 2) → ∀ (m t : Nat) (T' : Nat → Int) (h1 : mMem), t + m = pw (nC S.1) (nP S.1 / 2) → chgM h h1 → (∀ k, k < 66 → h1 49 0 k = nT S.1 k) → isM h1 (nSetT S.1 T') → nOk (nSetT S.1 T') → (∀ s, tuT (nP S.1) (nC S.1) s T' = tuT (nP S.1) (nC S.1) s (nT S.1)) →
      mGo l g (mMt n_M_turns) (d + 14) 28 [some (.inr (9, 0)), some (.inl w), some (.inl ((tuF S.1 t).1 : Nat)), some (.inl (tuF S.1 t).2.1), some (.inl (tuF S.1 t).2.2), some (.inl t)] [] h1 (ansM h S (spTurns S.1 w)) := by
    intro hw m
    induction m with
    | zero =>
      intro t T' h1 ht f a1 b1 b2 b3
      refine mGo_wp h_M_turns 120 [28] ?_
      refine ⟨by decide, ?_⟩
      refine mCall_is (c_M_turnPower (nSetT S.1 T') b2 h1 b1) ?_
      have ht' : t = pw (nC S.1) (nP S.1 / 2) := by omega
      refine ⟨fun _ => ?_, fun z => absurd z (by show ¬ ((t : Int) < ((pw (nC S.1) (nP S.1 / 2) : Nat) : Int)); omega)⟩
      refine mCall_is (c_M_bring h1) ?_
      have e2 : isM (mSeg h1 42 0 0 66 (h1 49 0)) S.1 := ⟨(mSeg_ne (by decide)).trans b1.1, (mSeg_ne (by decide)).trans b1.2.1, fun k hk => (mSeg_ne (by decide)).trans (b1.2.2.1 k hk), fun k hk => (mSeg_ne (by decide)).trans (b1.2.2.2.1 k hk), fun k hk => (mSeg_in0 hk).trans (a1 k hk)⟩
      have f2 : chgM h (mSeg h1 42 0 0 66 (h1 49 0)) := f.tr (seg_chg (Or.inl rfl))
      have R : RM (mSeg h1 42 0 0 66 (h1 49 0)) S ∧ onlyM h (mSeg h1 42 0 0 66 (h1 49 0)) := ⟨RM_new e f2 e2, f2.only⟩
      unfold spTurns tuW
      rw [if_pos hw, ← ht']
      refine ⟨fun z => ⟨fun z2 => ⟨?_, R⟩, fun z2 => ⟨?_, R⟩⟩, fun z => ⟨?_, R⟩⟩
      · rw [if_neg z, if_neg z2]
      · rw [if_neg z, if_pos z2]
      · rw [if_pos z]
    | succ m ih =>
      intro t T' h1 ht f a1 b1 b2 b3
      refine mGo_wp h_M_turns 120 [28] ?_
      refine ⟨by decide, ?_⟩
      refine mCall_is (c_M_turnPower (nSetT S.1 T') b2 h1 b1) ?_
      refine ⟨fun z => absurd z (by show ¬ (((pw (nC S.1) (nP S.1 / 2) : Nat) : Int) ≤ (t : Int)); omega), fun _ => ?_⟩
      refine mCall_is (mCon_lift (by omega) (c_M_layTurned (d := d) (nP S.1) (nC S.1) t o.1.1.2 hC (by omega) h1 b1.1 b1.2.1)) ?_
      have e2 : isM (mSeg h1 42 0 0 (js (nP S.1)) (tuV (nP S.1) (nC S.1) t)) (nSetT S.1 (tuT (nP S.1) (nC S.1) t T')) := turn_seg b1 t
      rw [b3 t] at e2
      refine mCall_on2 (c_M_isClear (turnN S.1 t) (nOk_turn o.1 t) _ e2) ?_
      rintro r3 h3 ⟨rfl, q3⟩
      have f3 : chgM h h3 := f.tr ((seg_chg (Or.inl rfl)).tr (chgM.ofS (scrM.ofX q3)))
      have e3 := isM_farX e2 q3
      have nx := ih (t + 1) _ h3 (by omega) f3 (fun k hk => (q3 _ _ _ (by omega)).trans ((mSeg_ne (by decide)).trans (a1 k hk))) e3 (nOk_turn o.1 t) (fun s => tuT_again _ _ s t _)
      have iv := tuF_inv S.1 t
      refine ⟨fun z => ?_, fun z => ?_⟩
      · rw [tuF_no (mBc_eq0.mp z)] at nx
        show mGo l g _ _ 28 [_, _, _, _, _, some (.inl (mWr ((t : Int) + 1)))] [] _ _
        rw [mWr_of ⟨by omega, by omega⟩]
        exact nx
      · rw [tuF_yes (mBc_ne0.mp z)] at nx
        have w3 : mWr (((tuF S.1 t).1 : Int) + 1) = (((tuF S.1 t).1 + 1 : Nat) : Int) := by rw [mWr_of ⟨by omega, by omega⟩]; omega
        dsimp only at nx
        refine ⟨fun z2 => ?_, fun z2 => ?_⟩
        · have z2 : (tuF S.1 t).2.1 ≠ vNONE := z2
          rw [if_neg (fun y => by rcases iv.2 with x | x <;> omega)] at nx
          show mGo l g _ _ 28 [_, _, some (.inl (mWr (((tuF S.1 t).1 : Int) + 1))), _, _, some (.inl (mWr ((t : Int) + 1)))] [] _ _
          rw [w3, mWr_of ⟨by omega, by omega⟩]
          exact nx
        · have z2 : (tuF S.1 t).2.1 = vNONE := z2
          rw [if_pos (by rcases iv.2 with x | x <;> omega)] at nx
          show mGo l g _ _ 28 [_, _, some (.inl (mWr (((tuF S.1 t).1 : Int) + 1))), _, _, some (.inl (mWr ((t : Int) + 1)))] [] _ _
          rw [w3, mWr_of ⟨by omega, by omega⟩]
          exact nx
  refine e_M_turns (fun hv hm => ?_)
  refine mGo_wp h_M_turns 120 [28] ?_
  refine mCall_is (c_M_isIn w 0 2 h) ?_
  refine ⟨fun z => ?_, fun z => ⟨by rw [spTurns, if_neg (mB_eq0.mp z)], e, onlyM.rf⟩⟩
  have z := mB_ne0.mp z
  refine mCall_is (c_M_layAside h) ?_
  refine loop z (pw (nC S.1) (nP S.1 / 2)) 0 (nT S.1) _ (Nat.zero_add _) (seg_chg (Or.inr rfl)) (fun k hk => (mSeg_in0 hk).trans (e.1.2.2.2.2 k hk)) ⟨(mSeg_ne (by decide)).trans e.1.1, (mSeg_ne (by decide)).trans e.1.2.1, fun k hk => (mSeg_ne (by decide)).trans (e.1.2.2.1 k hk), fun k hk => (mSeg_ne (by decide)).trans (e.1.2.2.2.1 k hk), fun k hk => (mSeg_ne (by decide)).trans (e.1.2.2.2.2 k hk)⟩ o.1 (fun s => rfl)
theorem sOk_turned {S : sS} (o : sOk S) (t : Int) : sOk (spTurned S t).2 := by
  unfold spTurned
  split
  · exact sOk_to o (nOk_turn o.1 _)
  · exact o
end Turns
