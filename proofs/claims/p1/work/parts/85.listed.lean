/-! listed of both sides -/
theorem pow_15 {C m : Nat} (hC : 2 ≤ C) (h : C ^ m ≤ 60000) : m ≤ 15 := by
  by_cases z : m ≤ 15
  · exact z
  · have h1 : 2 ^ 16 ≤ C ^ 16 := Nat.pow_le_pow_left hC 16
    have h2 : C ^ 16 ≤ C ^ m := Nat.pow_le_pow_right (by omega) (by omega)
    have h3 : 2 ^ 16 = 65536 := by decide
    omega
theorem lvN_len {N : nN} (hb : nC N ^ opM N ≤ 60000) : (lvN N).length ≤ 60000 := by
  unfold lvN
  split
  · exact Nat.le_trans (lv_len _ _ _ _ _) hb
  · exact Nat.zero_le _
/-- colours that there are not have no target -/
def nOk2 (N : nN) : Prop := nC N = 2 → nK N 2 = 0 ∧ nS N 2 = 0
def sOk2 (S : sS) : Prop := nOk2 S.1 ∧ ∀ M ∈ S.2.1, nOk2 M
theorem lay_bL {N : nN} (o : nOk N) (o2 : nOk2 N) (p : Nat) : nLay N p (nC N) = bL N p := by
  unfold nLay
  by_cases z : nC N = 2
  · rw [if_pos z, if_pos z, tSet_self (o2 z).1, tSet_self (o2 z).2]
  · rw [if_neg z, if_neg z]
theorem sOk2_to {S : sS} {N : nN} (o : sOk2 S) (hN : nOk2 N) : sOk2 (sTo S N) := by
  refine ⟨hN, fun M hM => ?_⟩
  rcases hpush_mem hM with z | z
  · exact o.2 M z
  · rw [z]; exact o.1
section Listed
variable {l : Launch} {g : mG} {d : Nat}
theorem c_M_isLong (p : Nat) (hp : p < 13) (C : Nat) (hC : C ≤ 3) (h : mMem) (e : h 9 0 1 = C) : mCon l g n_M_isLong (d + 1) [.inr (9, 0), .inl p] h (mIs (some (.inl (mB (60000 < pw C (js p))))) h) := by
  have h66 := js_le p hp
  have hw := pw_le C hC (js p)
  refine e_M_isLong (fun hv hm => ?_)
  refine mGo_wp h_M_isLong 40 [] ?_
  refine mCall_is (c_M_joinsOf p hp h) ?_
  refine mCall_is (show mCon l g n_M_power d [.inl (h 9 0 1), .inl (js p : Nat)] h (mIs (some (.inl (pw C (js p) : Nat))) h) by rw [e]; exact c_M_power C (js p) hC (by omega) h) ?_
  refine ⟨fun z => ⟨Or.inl rfl, by rw [mB_f (by omega)], rfl⟩, fun z => ⟨Or.inr rfl, by rw [mB_t (by omega)], rfl⟩⟩
theorem c_K_isListLarge (p : Nat) (hp : p < 13) (C : Nat) (hC : C ≤ 3) (h : mMem) (e : h 4 0 1 = C) : mCon l g n_K_isListLarge (d + 1) [.inr (8, 0), .inl p] h (mIs (some (.inl (mB (60000 < pw C (js p))))) h) := by
  have h66 := js_le p hp
  have hw := pw_le C hC (js p)
  refine e_K_isListLarge (fun hv hm => ?_)
  refine mGo_wp h_K_isListLarge 40 [] ?_
  refine ⟨by decide, ?_⟩
  refine mCall_is (show mCon l g n_K_power d [.inl (h 4 0 1), .inl (mDiv (mWr ((p : Int) * mWr ((p : Int) - 1))) 2)] h (mIs (some (.inl (pw C (js p) : Nat))) h) by rw [e, js_calc p hp]; exact c_K_power C (js p) hC (by omega) h) ?_
  refine ⟨fun z => ⟨Or.inl rfl, by rw [mB_f (by omega)], rfl⟩, fun z => ⟨Or.inr rfl, by rw [mB_t (by omega)], rfl⟩⟩
theorem s_M_listed (n k : Int) (h : mMem) (S : sS) (o : sOk S) (e : RM h S) : mCon l g n_M_listed (d + 61) [.inr (9, 0), .inl n, .inl k] h (fun r h' => r = some (.inl (spListed S n k).1) ∧ RM h' (spListed S n k).2 ∧ onlyM h h') := by
  have hC := o.1.2.1
  refine e_M_listed (fun hv hm => ?_)
  refine mGo_wp h_M_listed 80 [17] ?_
  unfold spListed
  refine mCall_is (c_M_isIn n 1 12 h) ?_
  refine ⟨fun z => ?_, fun z => ⟨fun z2 => ?_, fun z2 => ?_⟩⟩
  · rw [if_neg (fun w => mB_eq0.mp z w.1)]
    exact ⟨rfl, e, onlyM.rf⟩
  · have z := mB_ne0.mp z
    rw [if_pos ⟨z, z2⟩]
    obtain ⟨p, rfl⟩ := Int.eq_ofNat_of_zero_le (show 0 ≤ n by omega)
    rw [Int.toNat_natCast]
    have hp : 1 ≤ p ∧ p ≤ 12 := by omega
    refine mGo_wp h_M_listed 80 [60] ?_
    refine mCall_is (mCon_lift (by omega) (c_M_isLong (d := d) p (by omega) (nC S.1) hC.2 h e.1.2.1)) ?_
    refine ⟨fun y => ?_, fun y => ?_⟩
    · have y := mB_eq0.mp y
      rw [if_neg y]
      have hpw := pw_eq (js p) (show pw (nC S.1) (js p) ≤ 60000 by omega) (by omega)
      have hb : nC S.1 ^ js p ≤ 60000 := by omega
      refine mCall_on2 (c_M_goThrough0 S.1 o.1 p hp hb (by have := pow_15 hC.1 hb; omega) k h e.1) ?_
      rintro r h1 ⟨rfl, e1, c1, -, l2, l3⟩
      have hw : wntd (lvN (bL S.1 p)) k = (lvN (bL S.1 p))[k.toNat]? := if_pos z2
      rw [hw] at l2 l3
      have R1 : RM h1 S := RM_new e c1 e1
      cases hx : (lvN (bL S.1 p))[k.toNat]? with
      | none =>
        rw [hx, mBc_f (fun z => z rfl)] at l2
        exact ⟨fun w => absurd l2 w, fun _ => ⟨rfl, R1, c1.only⟩⟩
      | some T =>
        rw [hx, mBc_t (by simp)] at l2
        have l3 := l3 T hx
        have oT := lvN_ok (nOk_bL o.1 hp) T (List.mem_of_getElem? hx)
        refine ⟨fun _ => ?_, fun w => absurd (w.symm.trans l2) (by decide)⟩
        refine mCall_on2 (mCon_lift (by omega) (s_keep (d := d) h1 S o R1)) ?_
        rintro r h2 ⟨rfl, e2, q2, f2⟩
        refine mCall_is (mCon_lift (by omega) (c_M_bareAll (d := d) _)) ?_
        have h66 := js_le p (by omega)
        have e50 : ∀ i, i < js p → mSeg (mSet h2 9 0 0 (p : Int)) 42 0 0 66 (fun _ => -1) 50 0 i = T i := fun i hi => by
          rw [mSeg_ne (by decide), mSet_no (by simp), f2 50 0 i (by decide) (Or.inl (by decide))]
          exact l3 i hi
        have loop : ∀ (m i : Nat), i + m = js p → mGo l g (mMt n_M_listed) (d + 61) 60 [some (.inr (9, 0)), some (.inl (p : Int)), some (.inl k), some (.inl i)] [] (mSeg (mSeg (mSet h2 9 0 0 (p : Int)) 42 0 0 66 (fun _ => -1)) 42 0 0 i T) (fun r h' => r = some (.inl ((js p : Nat) : Int)) ∧ RM h' (sTo S (nSetT (bL S.1 p) T)) ∧ onlyM h h') := by
          intro m
          induction m with
          | zero =>
            intro i hi
            refine mGo_wp h_M_listed 80 [] ?_
            have r0 : mSeg (mSeg (mSet h2 9 0 0 (p : Int)) 42 0 0 66 (fun _ => -1)) 42 0 0 i T 9 0 0 = (p : Int) := by rw [mSeg_ne (by decide), mSeg_ne (by decide), mSet_at]
            refine mCall_is (show mCon l g n_M_joinsOf (d + 60) [.inl (mSeg (mSeg (mSet h2 9 0 0 (p : Int)) 42 0 0 66 (fun _ => -1)) 42 0 0 i T 9 0 0)] _ _ from r0 ▸ c_M_joinsOf p (by omega) _) ?_
            refine ⟨fun _ => ?_, fun z => by omega⟩
            refine mCall_is (show mCon l g n_M_joinsOf (d + 60) [.inl (mSeg (mSeg (mSet h2 9 0 0 (p : Int)) 42 0 0 66 (fun _ => -1)) 42 0 0 i T 9 0 0)] _ _ from r0 ▸ c_M_joinsOf p (by omega) _) ?_
            have hii : i = js p := by omega
            subst hii
            have c3 : chgM h2 (mSeg (mSeg (mSet h2 9 0 0 (p : Int)) 42 0 0 66 (fun _ => -1)) 42 0 0 (js p) T) := fun t i k z => by
              rw [mSeg_ne (by omega), mSeg_ne (by omega), mSet_no (fun y => z (by omega))]
            refine ⟨rfl, RM_new (N := nSetT (bL S.1 p) T) e2 c3 ⟨r0, ?_, fun q hq => ?_, fun q hq => ?_, fun q hq => ?_⟩, c1.only.tr (q2.tr c3.only)⟩
            · rw [mSeg_ne (by decide), mSeg_ne (by decide), mSet_no (by simp)]; exact e2.1.2.1
            · rw [mSeg_ne (by decide), mSeg_ne (by decide), mSet_no (by simp)]; exact e2.1.2.2.1 q hq
            · rw [mSeg_ne (by decide), mSeg_ne (by decide), mSet_no (by simp)]; exact e2.1.2.2.2.1 q hq
            · by_cases hq2 : q < js p
              · rw [mSeg_in0 hq2]
              · rw [mSeg_out (by omega), mSeg_in0 hq]
                exact (oT.2.2.2.2 q (show js p ≤ q by omega) hq).symm
          | succ m ih =>
            intro i hi
            refine mGo_wp h_M_listed 80 [60] ?_
            have r0 : mSeg (mSeg (mSet h2 9 0 0 (p : Int)) 42 0 0 66 (fun _ => -1)) 42 0 0 i T 9 0 0 = (p : Int) := by rw [mSeg_ne (by decide), mSeg_ne (by decide), mSet_at]
            refine mCall_is (show mCon l g n_M_joinsOf (d + 60) [.inl (mSeg (mSeg (mSet h2 9 0 0 (p : Int)) 42 0 0 66 (fun _ => -1)) 42 0 0 i T 9 0 0)] _ _ from r0 ▸ c_M_joinsOf p (by omega) _) ?_
            refine ⟨fun z => by omega, fun _ => ⟨⟨by omega, by omega⟩, ⟨by omega, by omega⟩, ?_⟩⟩
            have q := ih (i + 1) (by omega)
            rw [← mSeg_succ, Nat.zero_add] at q
            have r1 : mSeg (mSeg (mSet h2 9 0 0 (p : Int)) 42 0 0 66 (fun _ => -1)) 42 0 0 i T 50 0 (Int.toNat (i : Int)) = T i := by
              rw [mSeg_ne (by decide), Int.toNat_natCast]
              exact e50 i (by omega)
            show mGo l g _ _ 60 [_, _, _, some (.inl (mWr ((i : Int) + 1)))] [] (mSet (mSeg (mSeg (mSet h2 9 0 0 (p : Int)) 42 0 0 66 (fun _ => -1)) 42 0 0 i T) 42 0 (Int.toNat (i : Int)) (mSeg (mSeg (mSet h2 9 0 0 (p : Int)) 42 0 0 66 (fun _ => -1)) 42 0 0 i T 50 0 (Int.toNat (i : Int)))) _
            rw [r1, Int.toNat_natCast, mWr_of ⟨by omega, by omega⟩]
            exact q
        have q := loop (js p) 0 (by omega)
        rw [mSeg_zero] at q
        exact q
    · have y := mB_ne0.mp y
      rw [if_pos y]
      exact ⟨rfl, e, onlyM.rf⟩
  · rw [if_neg (by omega)]
    exact ⟨rfl, e, onlyM.rf⟩
/-- remember, and what it leaves alone -/
theorem s_remember2 (h : mMem) (S : sS) (o : sOk S) (e : RC h S) : mCon l g n_K_remember (d + 3) [.inr (8, 0)] h (fun r h' => r = none ∧ RC h' (S.1, hpush S.2.1 S.1, S.2.2.1, 0, S.2.2.2.2) ∧ onlyC h h' ∧ (∀ t i k, t ≠ 3 → t ≠ 6 → (i = 0 ∨ i = 1) → h' t i k = h t i k)) := by
  obtain ⟨a, ⟨nx, b1, b2, b3, b4, b5⟩, c, d1, d2⟩ := e
  refine mCon_mono (c_K_remember h nx S.2.1.length b1 b4 b2 b3) ?_
  rintro v h' ⟨rfl, rfl⟩
  have hn := mNi_01 nx b1
  refine ⟨rfl, ⟨?_, ?_, ?_, ?_, fun i hi => ?_⟩, fun t i k ht => ?_, fun t i k t3 t6 hi => ?_⟩
  · refine isC_set (by decide) (isC_eq a (fun t k ht => mHk_far (by omega) (Or.inr (fun z => hn.1 z.symm))))
  · refine hisC_eq (hisC_keep b1 b4 b5 a) ?_ ?_ (fun t i k _ _ ht => ?_)
    · unfold mRem2; rw [mSet_no (by simp)]
    · unfold mRem2; rw [mSet_no (by simp)]
    · unfold mRem2; rw [mSet_no (fun z => by omega)]
  · unfold mRem2
    rw [mSet_no (by simp), mHk_far (by decide) (Or.inl (by decide))]
    exact c
  · unfold mRem2
    rw [mSet_at]
    rfl
  · unfold mRem2
    rw [mSet_no (by simp), mSet_no (by simp), mSet_no (by simp), mHk_far (by decide) (Or.inl (by decide)), mHk_far (by decide) (Or.inl (by decide)), mHk_far (by decide) (Or.inl (by decide))]
    exact d2 i hi
  · unfold mRem2
    rw [mSet_no (fun z => by omega), mHk_far (by omega) (Or.inl (by omega))]
  · unfold mRem2
    rw [mSet_no (fun z => t6 z.1), mHk_far t3 (Or.inr (fun z => by
      rcases hi with rfl | rfl
      · exact hn.1 z.symm
      · exact hn.2 z.symm))]
def farB1 (h h' : mMem) : Prop := ∀ (t : Nat) (a : Fin 8) (q : Nat), ¬ ((t = 4 ∨ (20 ≤ t ∧ t ≤ 23)) ∧ a = 1) → h' t a q = h t a q
theorem farB1.scr {h h1 : mMem} (a : farB1 h h1) : scrC h h1 := fun t i k z => a t i k (fun y => z (Or.inr (Or.inr (Or.inr (Or.inr (Or.inr (Or.inr y)))))))
theorem farI.scr {h h1 : mMem} (a : farI h h1) : scrC h h1 := fun t i k z => a t i k (fun y => z (by omega))
theorem farG.scr {h h1 : mMem} (a : farG h h1) : scrC h h1 := fun t i k z => a t i k (fun y => z (by
  rcases y with y | y | y | y
  · omega
  · omega
  · omega
  · exact Or.inr (Or.inr (Or.inr (Or.inr (Or.inr (Or.inr ⟨Or.inr (by omega), y.2⟩)))))))
theorem bec_far {h : mMem} : farB1 h (mBec h 1 0) := fun t a q z => if_neg (fun y => z ⟨by omega, y.1⟩)
theorem c_beginList (N : nN) (o : nOk N) (o2 : nOk2 N) (p : Nat) (hp : 1 ≤ p ∧ p ≤ 12) (hb : nC N ^ js p ≤ 60000) (h : mMem) (e : isC h 0 N) : mCon l g n_Filling_beginList (d + 12) [.inr (0, 0), .inr (4, 0), .inl p] h (fun v h' => v = none ∧ itR h' (bL N p) (opM (bL N p)) (oN (bL N p)) (lvN (bL N p)) ∧ (lvN (bL N p)).length ≤ 60000 ∧ scrC h h') := by
  have hC := o.2.1
  have ob := nOk_bL o hp
  refine e_Filling_beginList (fun hv hm => ?_)
  refine mGo_wp h_Filling_beginList 40 [] ?_
  refine mCall_is (mCon_lift (by omega) (c_Net_become (d := d) 1 0 h)) ?_
  have r1 : mBec h 1 0 4 0 1 = (nC N : Nat) := by
    rw [bec_far _ _ _ (fun z => absurd z.2 (by decide))]
    exact e.2.1
  refine mCall_is (show mCon l g n_Net_layOut (d + 11) [.inr (4, 1), .inl (p : Int), .inl (mBec h 1 0 4 0 1)] (mBec h 1 0) _ by rw [r1]; exact mCon_lift (by omega) (c_Net_layOut (d := d) 1 (p : Int) (nC N : Nat) (by omega) _)) ?_
  have e2 : isC (mLay (mBec h 1 0) 1 (p : Int) ((nC N : Nat) : Int)) 1 (bL N p) := by
    rw [← lay_bL o o2 p]
    exact isC_lay (by omega) (isC_bec e)
  have f2 : farB1 (mBec h 1 0) (mLay (mBec h 1 0) 1 (p : Int) ((nC N : Nat) : Int)) := fun t a q z => mLay_far (by
    by_cases y : a = 1
    · exact Or.inl (by
        have : ¬ (t = 4 ∨ (20 ≤ t ∧ t ≤ 23)) := fun w => z ⟨w, y⟩
        omega)
    · exact Or.inr y)
  refine mCall_on2 (c_beginOnBoard (bL N p) ob _ e2) ?_
  rintro v h3 ⟨rfl, a1, a2, a3, a4, a5, f3⟩
  have hbb : nC (bL N p) ^ opM (bL N p) ≤ 60000 := by
    rw [(lvN_bL o hp).2]
    exact hb
  obtain ⟨q1, q2⟩ := begin_it ob a1 a2 a3 a4 a5 hbb
  exact ⟨rfl, q1, q2, bec_far.scr.tr (f2.scr.tr f3.scr)⟩
theorem bec_chg {h : mMem} : chgC h (mBec h 0 1) := fun t a q z => if_neg (fun y => z (Or.inr (Or.inr (Or.inr (Or.inr (Or.inr (Or.inr ⟨by omega, Or.inl y.1⟩)))))))
/-- the class: a call that answers NONE is kept as a change to what stands already -/
noncomputable def spListedK (S : sS) (n k : Int) : Int × sS := if (1 ≤ n ∧ n ≤ 12) ∧ 0 ≤ k then (if 60000 < pw (nC S.1) (js n.toNat) then (vLARGE, S) else (match (lvN (bL S.1 n.toNat))[k.toNat]? with
  | none => (vNONE, sTo S S.1)
  | some T => ((js n.toNat : Nat), sTo S (nSetT (bL S.1 n.toNat) T)))) else (vBAD, S)
theorem bec_chg0 {h : mMem} : chgC h (mBec h 0 0) := fun t a q z => if_neg (fun y => z (Or.inr (Or.inr (Or.inr (Or.inr (Or.inr (Or.inr ⟨by omega, Or.inl y.1⟩)))))))
/-- changeTo: remember, then become -/
theorem s_changeTo (i : Fin 8) (hi : i = 0 ∨ i = 1) (N : nN) (h : mMem) (S : sS) (o : sOk S) (e : RC h S) (eN : isC h i N) : mCon l g n_K_changeTo (d + 4) [.inr (8, 0), .inr (4, i)] h (fun r h' => r = none ∧ RC h' (sTo S N) ∧ onlyC h h' ∧ isC h' 0 N) := by
  refine e_K_changeTo (fun hv hm => ?_)
  refine mGo_wp h_K_changeTo 20 [] ?_
  refine mCall_on2 (mCon_lift (by omega) (s_remember2 (d := d) h S o e)) ?_
  rintro r h3 ⟨rfl, e3, q3, f3⟩
  have eN3 : isC h3 i N := isC_eq eN (fun t q ht => f3 t i q (by omega) (by omega) hi)
  refine mCall_is (mCon_lift (by omega) (c_Net_become (d := d) 0 i h3)) ?_
  have e4 : isC (mBec h3 0 i) 0 N := isC_bec eN3
  have c4 : chgC h3 (mBec h3 0 i) := fun t a q z => if_neg (fun y => z (Or.inr (Or.inr (Or.inr (Or.inr (Or.inr (Or.inr ⟨by omega, Or.inl y.1⟩)))))))
  exact ⟨rfl, RC_new e3 c4 e4, q3.tr c4.only, e4⟩
theorem s_K_listed (n k : Int) (h : mMem) (S : sS) (o : sOk S) (o2 : sOk2 S) (e : RC h S) : mCon l g n_K_listed (d + 16) [.inr (8, 0), .inl n, .inl k] h (fun r h' => r = some (.inl (spListedK S n k).1) ∧ RC h' (spListedK S n k).2 ∧ onlyC h h') := by
  have hC := o.1.2.1
  refine e_K_listed (fun hv hm => ?_)
  refine mGo_wp h_K_listed 80 [18] ?_
  unfold spListedK
  have main : (1 ≤ n ∧ n ≤ 12) → 0 ≤ k → mGo l g (mMt n_K_listed) (d + 16) 18 [some (.inr (8, 0)), some (.inl n), some (.inl k), none] [] h (fun r h' => r = some (.inl (if 60000 < pw (nC S.1) (js n.toNat) then (vLARGE, S) else (match (lvN (bL S.1 n.toNat))[k.toNat]? with
      | none => (vNONE, sTo S S.1)
      | some T => ((js n.toNat : Nat), sTo S (nSetT (bL S.1 n.toNat) T))) : Int × sS).1) ∧ RC h' (if 60000 < pw (nC S.1) (js n.toNat) then (vLARGE, S) else (match (lvN (bL S.1 n.toNat))[k.toNat]? with
      | none => (vNONE, sTo S S.1)
      | some T => ((js n.toNat : Nat), sTo S (nSetT (bL S.1 n.toNat) T))) : Int × sS).2 ∧ onlyC h h') := by
    intro z z2
    obtain ⟨p, rfl⟩ := Int.eq_ofNat_of_zero_le (show 0 ≤ n by omega)
    rw [Int.toNat_natCast]
    have hp : 1 ≤ p ∧ p ≤ 12 := by omega
    refine mGo_wp h_K_listed 80 [] ?_
    refine mCall_is (mCon_lift (by omega) (c_K_isListLarge (d := d) p (by omega) (nC S.1) hC.2 h e.1.2.1)) ?_
    refine ⟨fun y => ?_, fun y => ?_⟩
    · have y := mB_eq0.mp y
      rw [if_neg y]
      have hpw := pw_eq (js p) (show pw (nC S.1) (js p) ≤ 60000 by omega) (by omega)
      have hb : nC S.1 ^ js p ≤ 60000 := by omega
      refine mCall_on2 (mCon_lift (by omega) (c_beginList (d := d) S.1 o.1 o2.1 p hp hb h e.1)) ?_
      rintro r h1 ⟨rfl, i1, i2, f1⟩
      refine mCall_on2 (c_reach (bL S.1 p) _ _ _ i2 k z2 h1 i1) ?_
      rintro r h2 ⟨rfl, a2, f2⟩
      have f12 := f1.tr f2.scr
      have R2 := RC_scr e f12
      cases hx : (lvN (bL S.1 p))[k.toNat]? with
      | none =>
        have hlt : ¬ (k < ((lvN (bL S.1 p)).length : Int)) := fun w => by
          rw [List.getElem?_eq_getElem (show k.toNat < (lvN (bL S.1 p)).length by omega)] at hx
          cases hx
        rw [mBc_f hlt]
        refine ⟨fun _ => ?_, fun w => absurd rfl w⟩
        refine mCall_on2 (mCon_lift (by omega) (s_changeTo (d := d) 0 (Or.inl rfl) S.1 h2 S o R2 R2.1)) ?_
        rintro r h3 ⟨rfl, e3, q3, -⟩
        exact ⟨fun _ => ⟨rfl, e3, f12.only.tr q3⟩, fun w => absurd rfl w⟩
      | some T =>
        have hlt : k < ((lvN (bL S.1 p)).length : Int) := by
          have := (List.getElem?_eq_some_iff.mp hx).1
          omega
        rw [mBc_t hlt]
        obtain ⟨eT, oT⟩ := a2 T hx
        refine ⟨fun w => absurd w (by decide), fun _ => ?_⟩
        refine mCall_on2 (mCon_lift (by omega) (s_changeTo (d := d) 1 (Or.inr rfl) (nSetT (bL S.1 p) T) h2 S o R2 eT)) ?_
        rintro r h3 ⟨rfl, e3, q3, e4⟩
        refine ⟨fun w => absurd w (by decide), fun _ => ?_⟩
        refine mCall_is (mCon_lift (by omega) (c_Net_joinCount (d := d) 0 p (by omega) _ e4.1)) ?_
        exact ⟨rfl, e3, f12.only.tr q3⟩
    · rw [if_pos (mB_ne0.mp y)]
      exact ⟨rfl, e, onlyC.rf⟩
  refine ⟨fun z => ?_, fun z => ⟨fun z2 => ?_, fun z2 => ⟨fun z3 => ?_, fun z3 => ?_⟩⟩⟩
  · rw [if_neg (by omega)]
    exact ⟨rfl, e, onlyC.rf⟩
  · rw [if_neg (by omega)]
    exact ⟨rfl, e, onlyC.rf⟩
  · rw [if_pos ⟨⟨by omega, by omega⟩, z3⟩]
    exact main ⟨by omega, by omega⟩ z3
  · rw [if_neg (by omega)]
    exact ⟨rfl, e, onlyC.rf⟩
end Listed
