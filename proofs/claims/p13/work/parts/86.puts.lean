/-! puts, put of both sides -/
noncomputable def spWhy (N : nN) : Int := if nP N = 12 then vFULL else if 60000 < pw (nC N) (nP N) then vLARGE else if qB (nBare N = 0 ∧ nClear N) = true then 0 else vNO
noncomputable def spPuts (N : nN) : Int := if spWhy N = 0 then ((lvN (bP N)).length : Nat) else spWhy N
noncomputable def spPut (S : sS) (k : Int) : Int × sS := if spWhy S.1 = 0 then (if k < 0 then (vBAD, S) else (match (lvN (bP S.1))[k.toNat]? with
  | none => (vNONE, S)
  | some T => ((nP S.1 + 1 : Nat), sTo S (nSetT (bP S.1) T)))) else (spWhy S.1, S)
theorem why_0 {N : nN} (o : nOk N) (h : spWhy N = 0) : nP N < 12 ∧ nC N ^ nP N ≤ 60000 ∧ nBare N = 0 ∧ nClear N := by
  unfold spWhy at h
  have hp := o.1.2
  have hC := o.2.1
  split at h
  · exact absurd h (by decide)
  · next h1 =>
    split at h
    · exact absurd h (by decide)
    · next h2 =>
      split at h
      · next h3 =>
        have := pw_eq (nP N) (show pw (nC N) (nP N) ≤ 60000 by omega) (by omega)
        exact ⟨by omega, by omega, qB_iff.mp h3⟩
      · exact absurd h (by decide)
theorem why_neg (N : nN) : spWhy N = 0 ∨ spWhy N < 0 := by
  unfold spWhy
  split
  · exact Or.inr (by decide)
  · split
    · exact Or.inr (by decide)
    · split
      · exact Or.inl rfl
      · exact Or.inr (by decide)
theorem lv_off (N : nN) (o : Nat → Nat) : ∀ (j i : Nat) (T T' : bT), T' ∈ lv N o j i T → ∀ k, (∀ a, i ≤ a → a < i + j → k ≠ o a) → T' k = T k
  | 0, i, T, T', hT, k, _ => by rw [List.mem_singleton.mp hT]
  | j + 1, i, T, T', hT, k, hk => by
    obtain ⟨c, hc, h1⟩ := List.mem_flatMap.mp hT
    split at h1
    · rw [lv_off N o j (i + 1) _ T' h1 k (fun a h1 h2 => hk a (by omega) (by omega))]
      exact if_neg (hk i (Nat.le_refl _) (by omega))
    · cases h1
theorem sOk_put {S : sS} (o : sOk S) (k : Int) : sOk (spPut S k).2 := by
  unfold spPut
  split
  · next h =>
    split
    · exact o
    · cases hx : (lvN (bP S.1))[k.toNat]? with
      | none => exact o
      | some T => exact sOk_to o (lvN_ok (nOk_bP o.1 (why_0 o.1 h).1) T (List.mem_of_getElem? hx))
  · exact o
section Puts
variable {l : Launch} {g : mG} {d : Nat}
def putI (p1 : Nat) (w : Int) (a : aL) (h : mMem) : Prop := h 9 0 34 = mWr a.1 ∧ h 9 0 35 = w ∧ h 9 0 36 = mBc (a.2 ≠ none) ∧ ∀ T, a.2 = some T → ∀ i, i < p1 → h 54 0 i = T (js p1 + i)
theorem leaf_put (N : nN) (p1 : Nat) (hp1 : p1 < 12) (w : Int) (a : aL) (h : mMem) (T : bT) (x2 x3 : Option mRV) (e : isM h (nSetT N T)) (I : putI p1 w a h) : mGo l g (mMt n_M_goPut) (d + 13) 10 [some (.inr (9, 0)), some (.inl (p1 : Nat)), x2, x3] [] h (fun v h' => v = none ∧ putI p1 w (stL w a T) h' ∧ isM h' (nSetT N T) ∧ farY h h') := by
  have h66 := js_last p1 hp1
  obtain ⟨i1, i2, i3, i5⟩ := I
  have tail : ∀ (x2 : Option mRV) (h1 : mMem) (r : Option bT), h1 9 0 34 = mWr a.1 → h1 9 0 35 = w → h1 9 0 36 = mBc (r ≠ none) → (∀ T, r = some T → ∀ i, i < p1 → h1 54 0 i = T (js p1 + i)) → isM h1 (nSetT N T) → farY h h1 → (stL w a T).2 = r → mGo l g (mMt n_M_goPut) (d + 13) 55 [some (.inr (9, 0)), some (.inl (p1 : Nat)), x2, x3] [] h1 (fun v h' => v = none ∧ putI p1 w (stL w a T) h' ∧ isM h' (nSetT N T) ∧ farY h h') := by
    intro x2 h1 r a1 a2 a3 a5 e1 f1 hr
    refine mGo_wp h_M_goPut 80 [] ?_
    refine ⟨rfl, ⟨?_, ?_, ?_, fun T' hT i hi => ?_⟩, ?_, f1.tr (fun t b q z => mSet_no (fun y => z (by omega)))⟩
    · rw [mSet_at, a1, mWr_add]
      rfl
    · rw [mSet_no (by simp)]; exact a2
    · rw [mSet_no (by simp), hr]; exact a3
    · rw [mSet_no (by simp)]
      rw [hr] at hT
      exact a5 T' hT i hi
    · exact ⟨(mSet_no (by simp)).trans e1.1, (mSet_no (by simp)).trans e1.2.1, fun k hk => (mSet_no (by simp)).trans (e1.2.2.1 k hk), fun k hk => (mSet_no (by simp)).trans (e1.2.2.2.1 k hk), fun k hk => (mSet_no (by simp)).trans (e1.2.2.2.2 k hk)⟩
  refine mGo_wp h_M_goPut 80 [28, 55] ?_
  refine ⟨fun z => ?_, fun z => ⟨Or.inr rfl, ?_⟩⟩
  · rw [i1, i2] at z
    exact tail x2 h a.2 i1 i2 i3 i5 e farY.rf (if_neg (qB_no z))
  · rw [i1, i2] at z
    have loop : ∀ (m k : Nat), k + m = p1 → mGo l g (mMt n_M_goPut) (d + 13) 28 [some (.inr (9, 0)), some (.inl (p1 : Nat)), some (.inl k), x3] [] (mSeg (mSet h 9 0 36 1) 54 0 0 k (fun i => T (js p1 + i))) (fun v h' => v = none ∧ putI p1 w (stL w a T) h' ∧ isM h' (nSetT N T) ∧ farY h h') := by
      intro m
      induction m with
      | zero =>
        intro k hk
        refine mGo_wp h_M_goPut 80 [55] ?_
        refine ⟨fun _ => ?_, fun z => by omega⟩
        have hkk : k = p1 := by omega
        subst hkk
        refine tail _ _ (some T) ?_ ?_ ?_ (fun T' hT i hi => ?_) ?_ (fun t b q z => ?_) (if_pos (qB_t z))
        · rw [mSeg_ne (by decide), mSet_no (by simp)]; exact i1
        · rw [mSeg_ne (by decide), mSet_no (by simp)]; exact i2
        · rw [mSeg_ne (by decide), mSet_at, mBc_t (by simp)]
        · cases hT
          exact mSeg_in0 hi
        · exact ⟨((mSeg_ne (by decide)).trans (mSet_no (by simp))).trans e.1, ((mSeg_ne (by decide)).trans (mSet_no (by simp))).trans e.2.1, fun k hk => ((mSeg_ne (by decide)).trans (mSet_no (by simp))).trans (e.2.2.1 k hk), fun k hk => ((mSeg_ne (by decide)).trans (mSet_no (by simp))).trans (e.2.2.2.1 k hk), fun k hk => ((mSeg_ne (by decide)).trans (mSet_no (by simp))).trans (e.2.2.2.2 k hk)⟩
        · rw [mSeg_ne (by omega), mSet_no (fun y => z (by omega))]
      | succ m ih =>
        intro k hk
        refine mGo_wp h_M_goPut 80 [28] ?_
        refine ⟨fun z => by omega, fun _ => ?_⟩
        have hjn : jn k p1 = js p1 + k := jn_last p1 hp1 k (by omega)
        refine mCall_is (mCon_lift (by omega) (c_M_join (d := d) k p1 (by omega) (by omega) _)) ?_
        rw [hjn]
        refine ⟨⟨by omega, by omega⟩, ⟨by omega, by omega⟩, ?_⟩
        have q := ih (k + 1) (by omega)
        rw [← mSeg_succ, Nat.zero_add] at q
        have r1 : mSeg (mSet h 9 0 36 1) 54 0 0 k (fun i => T (js p1 + i)) 42 0 (Int.toNat ((js p1 + k : Nat) : Int)) = T (js p1 + k) := by
          rw [mSeg_ne (by decide), mSet_no (by simp), Int.toNat_natCast]
          exact e.2.2.2.2 (js p1 + k) (by omega)
        show mGo l g _ _ 28 [_, _, some (.inl (mWr ((k : Int) + 1))), _] [] (mSet (mSeg (mSet h 9 0 36 1) 54 0 0 k (fun i => T (js p1 + i))) 54 0 (Int.toNat (k : Int)) (mSeg (mSet h 9 0 36 1) 54 0 0 k (fun i => T (js p1 + i)) 42 0 (Int.toNat ((js p1 + k : Nat) : Int)))) _
        rw [r1, Int.toNat_natCast, mWr_of ⟨by omega, by omega⟩]
        exact q
    have q := loop p1 0 (by omega)
    rw [mSeg_zero] at q
    exact q
theorem c_M_findPuts (N : nN) (o : nOk N) (w : Int) (h : mMem) (e : isM h N) : mCon l g n_M_findPuts (d + 60) [.inr (9, 0), .inl w] h (fun v h' => v = some (.inl (spWhy N)) ∧ isM h' N ∧ chgM h h' ∧ (spWhy N = 0 → h' 9 0 34 = ((lvN (bP N)).length : Nat) ∧ h' 9 0 36 = mBc (wntd (lvN (bP N)) w ≠ none) ∧ ∀ T, wntd (lvN (bP N)) w = some T → ∀ i, i < nP N → h' 54 0 i = T (js (nP N) + i))) := by
  have hn := o.1
  have hC := o.2.1
  have hpw := pw_le (nC N) hC.2 (nP N)
  refine e_M_findPuts (fun hv hm => ?_)
  refine mGo_wp h_M_findPuts 120 [48] ?_
  refine ⟨fun z => ?_, fun z => ?_⟩
  · rw [e.1] at z
    have hp : nP N < 12 := by omega
    refine mCall_is (show mCon l g n_M_power (d + 59) [.inl (h 9 0 1), .inl (h 9 0 0)] h (mIs (some (.inl (pw (nC N) (nP N) : Nat))) h) by rw [e.1, e.2.1]; exact c_M_power _ _ hC.2 (by omega) h) ?_
    refine ⟨fun z2 => ?_, fun z2 => ?_⟩
    · have big : ¬ 60000 < pw (nC N) (nP N) := by omega
      have why : spWhy N = (if qB (nBare N = 0 ∧ nClear N) = true then 0 else vNO) := by
        unfold spWhy
        rw [if_neg (by omega), if_neg big]
      refine mCall_is (mCon_lift (by omega) (c_M_bare (d := d) N h o e)) ?_
      refine ⟨fun z3 => ?_, fun z3 => ?_⟩
      · have hno : spWhy N = vNO := by rw [why, if_neg (qB_no (fun w => by have := w.1; omega))]
        rw [hno]
        exact ⟨rfl, e, chgM.rf, fun w => absurd w (by decide)⟩
      · refine mCall_on2 (mCon_lift (by omega) (c_M_isClear (d := d) N o h e)) ?_
        rintro r h1 ⟨rfl, f1⟩
        have e1 := isM_farX e f1
        have c1 : chgM h h1 := chgM.ofS (scrM.ofX f1)
        refine ⟨fun z4 => ?_, fun z4 => ?_⟩
        · have hcl := mBc_ne0.mp z4
          have hw0 : spWhy N = 0 := by rw [why, if_pos (qB_t ⟨by omega, hcl⟩)]
          obtain ⟨y1, y2, y3, y4⟩ := why_0 o hw0
          rw [hw0]
          have hlv := (lvN_bP o hp y3 y4).1
          have hlen : (lvN (bP N)).length ≤ 60000 := by
            rw [hlv]
            exact Nat.le_trans (lv_len _ _ _ _ _) y2
          have ob := nOk_bP o hp
          have h66 := js_last (nP N) (by omega)
          refine mGo_wp h_M_findPuts 120 [75] ?_
          refine ⟨Or.inl rfl, ?_⟩
          have after : ∀ (h2 : mMem), isM h2 (bP N) → chgM h h2 → putI (nP N) w (0, none) h2 → ∀ x2, mGo l g (mMt n_M_findPuts) (d + 60) 107 [some (.inr (9, 0)), some (.inl w), x2] [] h2 (fun v h' => v = some (.inl 0) ∧ isM h' N ∧ chgM h h' ∧ ((0 : Int) = 0 → h' 9 0 34 = ((lvN (bP N)).length : Nat) ∧ h' 9 0 36 = mBc (wntd (lvN (bP N)) w ≠ none) ∧ ∀ T, wntd (lvN (bP N)) w = some T → ∀ i, i < nP N → h' 54 0 i = T (js (nP N) + i))) := by
            intro h2 e2 c2 I2 x2
            refine mGo_wp h_M_findPuts 120 [] ?_
            have q := s_goPut (l := l) (g := g) (bP N) (nP N) rfl (show nP N + 1 ≤ 12 by omega) hC.2 13 (Nat.le_refl _) (putI (nP N) w) (stL w) h2
              (fun a h h' f I => ⟨(f _ _ _ (by decide)).trans I.1, (f _ _ _ (by decide)).trans I.2.1, (f _ _ _ (by decide)).trans I.2.2.1, fun T hT i hi => (f _ _ _ (by omega)).trans (I.2.2.2 T hT i hi)⟩)
              (fun a h k v I => ⟨(mSet_no (by simp)).trans I.1, (mSet_no (by simp)).trans I.2.1, (mSet_no (by simp)).trans I.2.2.1, fun T hT i hi => (mSet_no (by simp)).trans (I.2.2.2 T hT i hi)⟩)
              (fun a h T x2 x3 e o f I => leaf_put (d := 0) (bP N) (nP N) hp w a h T x2 x3 e I) (nP N) 0 (nT N) (0, none) h2 (by omega) ob (fun q _ hq => o.2.2.2.2 _ (by omega) (by omega)) e2 farY.rf I2
            refine mCall_on2 (mCon_lift (by omega) q) ?_
            rintro v h3 ⟨rfl, I3, e3, f3⟩
            rw [← hlv, fold_0 _ w hlen] at I3
            have e30 : h3 9 0 0 = ((nP N + 1 : Nat) : Int) := e3.1
            have w3 : mWr (h3 9 0 0 - 1) = ((nP N : Nat) : Int) := by rw [e30, mWr_of ⟨by omega, by omega⟩]; omega
            have c4 : chgM h3 (mSet h3 9 0 0 (mWr (h3 9 0 0 - 1))) := fun t i k z => mSet_no (fun y => z (by omega))
            refine ⟨rfl, ⟨?_, ?_, fun k hk => ?_, fun k hk => ?_, fun k hk => ?_⟩, c2.tr (f3.chg.tr c4), fun _ => ⟨?_, ?_, fun T hT i hi => ?_⟩⟩
            · rw [mSet_at, w3]
            · rw [mSet_no (by simp)]; exact e3.2.1
            · rw [mSet_no (by simp)]; exact e3.2.2.1 k hk
            · rw [mSet_no (by simp)]; exact e3.2.2.2.1 k hk
            · rw [mSet_no (by simp)]; exact e3.2.2.2.2 k hk
            · rw [mSet_no (by simp), I3.1, mWr_of ⟨by omega, by omega⟩]
            · rw [mSet_no (by simp)]; exact I3.2.2.1
            · rw [mSet_no (by simp)]; exact I3.2.2.2 T hT i hi
          have loop : ∀ (m i : Nat) (h2 : mMem), i + m = nP N → isM h2 (bP N) → chgM h h2 → putI (nP N) w (0, none) h2 → mGo l g (mMt n_M_findPuts) (d + 60) 75 [some (.inr (9, 0)), some (.inl w), some (.inl i)] [] h2 (fun v h' => v = some (.inl 0) ∧ isM h' N ∧ chgM h h' ∧ ((0 : Int) = 0 → h' 9 0 34 = ((lvN (bP N)).length : Nat) ∧ h' 9 0 36 = mBc (wntd (lvN (bP N)) w ≠ none) ∧ ∀ T, wntd (lvN (bP N)) w = some T → ∀ i, i < nP N → h' 54 0 i = T (js (nP N) + i))) := by
            intro m
            induction m with
            | zero =>
              intro i h2 hi e2 c2 I2
              refine mGo_wp h_M_findPuts 120 [107] ?_
              have e20 : h2 9 0 0 = ((nP N + 1 : Nat) : Int) := e2.1
              have w3 : mWr (h2 9 0 0 - 1) = ((nP N : Nat) : Int) := by rw [e20, mWr_of ⟨by omega, by omega⟩]; omega
              refine ⟨fun _ => after h2 e2 c2 I2 _, fun z => by rw [w3] at z; omega⟩
            | succ m ih =>
              intro i h2 hi e2 c2 I2
              refine mGo_wp h_M_findPuts 120 [75] ?_
              have e20 : h2 9 0 0 = ((nP N + 1 : Nat) : Int) := e2.1
              have w3 : mWr (h2 9 0 0 - 1) = ((nP N : Nat) : Int) := by rw [e20, mWr_of ⟨by omega, by omega⟩]; omega
              have hjn : jn i (nP N) = js (nP N) + i := jn_last (nP N) (by omega) i (by omega)
              refine ⟨fun z => by rw [w3] at z; omega, fun _ => ?_⟩
              refine mCall_is (show mCon l g n_M_join (d + 59) [.inl (i : Int), .inl (mWr (h2 9 0 0 - 1))] h2 (mIs (some (.inl (js (nP N) + i : Nat))) h2) by rw [w3, ← hjn]; exact c_M_join i (nP N) (by omega) (by omega) h2) ?_
              refine ⟨⟨by omega, by omega⟩, ?_⟩
              have hT : nT N (js (nP N) + i) = -1 := o.2.2.2.2 _ (by omega) (by omega)
              have e3 : isM (mSet h2 42 0 (js (nP N) + i) (-1)) (bP N) := by
                have q : isM (mSet h2 42 0 (js (nP N) + i) (-1)) (nSetT (bP N) (tSet (nT N) (js (nP N) + i) (-1))) := isM_tone e2 _ _
                rw [tSet_self hT] at q
                exact q
              show mGo l g _ _ 75 [_, _, some (.inl (mWr ((i : Int) + 1)))] [] (mSet h2 42 0 (Int.toNat ((js (nP N) + i : Nat) : Int)) (-1)) _
              rw [Int.toNat_natCast, mWr_of ⟨by omega, by omega⟩]
              refine ih (i + 1) _ (by omega) e3 (c2.tr (fun t i k z => mSet_no (fun y => z (by omega)))) ⟨(mSet_no (by simp)).trans I2.1, (mSet_no (by simp)).trans I2.2.1, (mSet_no (by simp)).trans I2.2.2.1, fun T hT => by cases hT⟩
          have w0 : mWr (mSet (mSet (mSet h1 9 0 34 0) 9 0 35 w) 9 0 36 0 9 0 0 + 1) = ((nP N + 1 : Nat) : Int) := by
            rw [mSet_no (by simp), mSet_no (by simp), mSet_no (by simp), e1.1, mWr_of ⟨by omega, by omega⟩]
            omega
          refine loop (nP N) 0 _ (by omega) ⟨?_, ?_, fun k hk => ?_, fun k hk => ?_, fun k hk => ?_⟩ (c1.tr (fun t i k z => ?_)) ⟨?_, ?_, ?_, fun T hT => by cases hT⟩
          · rw [mSet_at, w0]
          · rw [mSet_no (by simp), mSet_no (by simp), mSet_no (by simp), mSet_no (by simp)]; exact e1.2.1
          · rw [mSet_no (by simp), mSet_no (by simp), mSet_no (by simp), mSet_no (by simp)]; exact e1.2.2.1 k hk
          · rw [mSet_no (by simp), mSet_no (by simp), mSet_no (by simp), mSet_no (by simp)]; exact e1.2.2.2.1 k hk
          · rw [mSet_no (by simp), mSet_no (by simp), mSet_no (by simp), mSet_no (by simp)]; exact e1.2.2.2.2 k hk
          · rw [mSet_no (fun y => z (by omega)), mSet_no (fun y => z (by omega)), mSet_no (fun y => z (by omega)), mSet_no (fun y => z (by omega))]
          · rw [mSet_no (by simp), mSet_no (by simp), mSet_no (by simp), mSet_at]
            exact (mWr_of ⟨by decide, by decide⟩).symm
          · rw [mSet_no (by simp), mSet_no (by simp), mSet_at]
          · rw [mSet_no (by simp), mSet_at, mBc_f (fun z => z rfl)]
        · have hcl := mBc_eq0.mp z4
          have hno : spWhy N = vNO := by rw [why, if_neg (qB_no (fun w => hcl w.2))]
          rw [hno]
          exact ⟨rfl, e1, c1, fun w => absurd w (by decide)⟩
    · have hl : spWhy N = vLARGE := by
        unfold spWhy
        rw [if_neg (by omega), if_pos (by omega)]
      rw [hl]
      exact ⟨rfl, e, chgM.rf, fun w => absurd w (by decide)⟩
  · rw [e.1] at z
    have hf : spWhy N = vFULL := by
      unfold spWhy
      rw [if_pos (by omega)]
    rw [hf]
    exact ⟨rfl, e, chgM.rf, fun w => absurd w (by decide)⟩
theorem s_M_puts (h : mMem) (S : sS) (o : sOk S) (e : RM h S) : mCon l g n_M_puts (d + 61) [.inr (9, 0)] h (ansM h S (spPuts S.1)) := by
  refine e_M_puts (fun hv hm => ?_)
  refine mGo_wp h_M_puts 40 [] ?_
  refine mCall_on2 (c_M_findPuts S.1 o.1 (-1) h e.1) ?_
  rintro r h1 ⟨rfl, e1, c1, a1⟩
  have R1 : RM h1 S := RM_new e c1 e1
  unfold spPuts
  rcases why_neg S.1 with w | w
  · obtain ⟨b1, -, -⟩ := a1 w
    rw [w, if_pos rfl]
    refine ⟨fun _ => ⟨?_, R1, c1.only⟩, fun z => absurd z (by decide)⟩
    rw [b1]
  · rw [if_neg (by omega)]
    exact ⟨fun z => by omega, fun _ => ⟨rfl, R1, c1.only⟩⟩
theorem s_M_put (k : Int) (h : mMem) (S : sS) (o : sOk S) (e : RM h S) : mCon l g n_M_put (d + 61) [.inr (9, 0), .inl k] h (fun r h' => r = some (.inl (spPut S k).1) ∧ RM h' (spPut S k).2 ∧ onlyM h h') := by
  refine e_M_put (fun hv hm => ?_)
  refine mGo_wp h_M_put 80 [12] ?_
  refine mCall_on2 (c_M_findPuts S.1 o.1 k h e.1) ?_
  rintro r h1 ⟨rfl, e1, c1, a1⟩
  have R1 : RM h1 S := RM_new e c1 e1
  unfold spPut
  rcases why_neg S.1 with w | w
  · obtain ⟨-, b2, b3⟩ := a1 w
    obtain ⟨y1, y2, y3, y4⟩ := why_0 o.1 w
    have h66 := js_last (nP S.1) (by omega)
    rw [w, if_pos rfl]
    refine ⟨fun _ => ?_, fun z => absurd z (by decide)⟩
    refine mGo_wp h_M_put 80 [45] ?_
    refine ⟨fun z => ?_, fun z => ?_⟩
    · rw [if_neg (by omega)]
      have hw : wntd (lvN (bP S.1)) k = (lvN (bP S.1))[k.toNat]? := if_pos z
      rw [hw] at b2 b3
      cases hx : (lvN (bP S.1))[k.toNat]? with
      | none =>
        rw [hx, mBc_f (fun z => z rfl)] at b2
        exact ⟨fun y => absurd b2 y, fun _ => ⟨rfl, R1, c1.only⟩⟩
      | some T =>
        rw [hx, mBc_t (by simp)] at b2
        have b3 := b3 T hx
        have hmem := List.mem_of_getElem? hx
        have oT := lvN_ok (nOk_bP o.1 y1) T hmem
        have hoff : ∀ q, ¬ (js (nP S.1) ≤ q ∧ q < js (nP S.1) + nP S.1) → T q = nT S.1 q := fun q hq => by
          rw [(lvN_bP o.1 y1 y3 y4).1] at hmem
          exact lv_off _ _ _ _ _ _ hmem q (fun a _ ha => by omega)
        refine ⟨fun _ => ?_, fun y => absurd (y.symm.trans b2) (by decide)⟩
        refine mCall_on2 (mCon_lift (by omega) (s_keep (d := d) h1 S o R1)) ?_
        rintro r h2 ⟨rfl, e2, q2, f2⟩
        have w2 : mWr (h2 9 0 0 + 1) = ((nP S.1 + 1 : Nat) : Int) := by
          have e20 : h2 9 0 0 = ((nP S.1 : Nat) : Int) := e2.1.1
          rw [e20, mWr_of ⟨by omega, by omega⟩]
          omega
        have loop : ∀ (m i : Nat), i + m = nP S.1 → mGo l g (mMt n_M_put) (d + 61) 45 [some (.inr (9, 0)), some (.inl k), some (.inl 0), some (.inl i)] [] (mSeg (mSet h2 9 0 0 ((nP S.1 + 1 : Nat) : Int)) 42 0 (js (nP S.1)) i (fun q => T (js (nP S.1) + q))) (fun r h' => r = some (.inl ((nP S.1 + 1 : Nat) : Int)) ∧ RM h' (sTo S (nSetT (bP S.1) T)) ∧ onlyM h h') := by
          intro m
          induction m with
          | zero =>
            intro i hi
            refine mGo_wp h_M_put 80 [] ?_
            have r0 : mSeg (mSet h2 9 0 0 ((nP S.1 + 1 : Nat) : Int)) 42 0 (js (nP S.1)) i (fun q => T (js (nP S.1) + q)) 9 0 0 = ((nP S.1 + 1 : Nat) : Int) := by rw [mSeg_ne (by decide), mSet_at]
            have w3 : mWr (mSeg (mSet h2 9 0 0 ((nP S.1 + 1 : Nat) : Int)) 42 0 (js (nP S.1)) i (fun q => T (js (nP S.1) + q)) 9 0 0 - 1) = ((nP S.1 : Nat) : Int) := by rw [r0, mWr_of ⟨by omega, by omega⟩]; omega
            refine ⟨fun _ => ?_, fun y => by rw [w3] at y; omega⟩
            have hii : i = nP S.1 := by omega
            subst hii
            have c3 : chgM h2 (mSeg (mSet h2 9 0 0 ((nP S.1 + 1 : Nat) : Int)) 42 0 (js (nP S.1)) (nP S.1) (fun q => T (js (nP S.1) + q))) := fun t i k y => by
              rw [mSeg_ne (by omega), mSet_no (fun x => y (by omega))]
            refine ⟨by rw [r0], RM_new (N := nSetT (bP S.1) T) e2 c3 ⟨r0, ?_, fun q hq => ?_, fun q hq => ?_, fun q hq => ?_⟩, c1.only.tr (q2.tr c3.only)⟩
            · rw [mSeg_ne (by decide), mSet_no (by simp)]; exact e2.1.2.1
            · rw [mSeg_ne (by decide), mSet_no (by simp)]; exact e2.1.2.2.1 q hq
            · rw [mSeg_ne (by decide), mSet_no (by simp)]; exact e2.1.2.2.2.1 q hq
            · by_cases hq2 : js (nP S.1) ≤ q ∧ q < js (nP S.1) + nP S.1
              · have := mSeg_in (h := mSet h2 9 0 0 ((nP S.1 + 1 : Nat) : Int)) (t := 42) (i := 0) (lo := js (nP S.1)) (n := nP S.1) (f := fun q => T (js (nP S.1) + q)) (q := q - js (nP S.1)) (by omega)
                rw [show js (nP S.1) + (q - js (nP S.1)) = q by omega] at this
                exact this
              · rw [mSeg_out hq2, mSet_no (by simp)]
                exact (e2.1.2.2.2.2 q hq).trans (hoff q hq2).symm
          | succ m ih =>
            intro i hi
            refine mGo_wp h_M_put 80 [45] ?_
            have r0 : mSeg (mSet h2 9 0 0 ((nP S.1 + 1 : Nat) : Int)) 42 0 (js (nP S.1)) i (fun q => T (js (nP S.1) + q)) 9 0 0 = ((nP S.1 + 1 : Nat) : Int) := by rw [mSeg_ne (by decide), mSet_at]
            have w3 : mWr (mSeg (mSet h2 9 0 0 ((nP S.1 + 1 : Nat) : Int)) 42 0 (js (nP S.1)) i (fun q => T (js (nP S.1) + q)) 9 0 0 - 1) = ((nP S.1 : Nat) : Int) := by rw [r0, mWr_of ⟨by omega, by omega⟩]; omega
            have hjn : jn i (nP S.1) = js (nP S.1) + i := jn_last (nP S.1) (by omega) i (by omega)
            refine ⟨fun y => by rw [w3] at y; omega, fun _ => ?_⟩
            refine mCall_is (show mCon l g n_M_join (d + 60) [.inl (i : Int), .inl (mWr (mSeg (mSet h2 9 0 0 ((nP S.1 + 1 : Nat) : Int)) 42 0 (js (nP S.1)) i (fun q => T (js (nP S.1) + q)) 9 0 0 - 1))] _ (mIs (some (.inl (js (nP S.1) + i : Nat))) _) by rw [w3, ← hjn]; exact c_M_join i (nP S.1) (by omega) (by omega) _) ?_
            refine ⟨⟨by omega, by omega⟩, ⟨by omega, by omega⟩, ?_⟩
            have q := ih (i + 1) (by omega)
            rw [← mSeg_succ] at q
            have r1 : mSeg (mSet h2 9 0 0 ((nP S.1 + 1 : Nat) : Int)) 42 0 (js (nP S.1)) i (fun q => T (js (nP S.1) + q)) 54 0 (Int.toNat (i : Int)) = T (js (nP S.1) + i) := by
              rw [mSeg_ne (by decide), mSet_no (by simp), Int.toNat_natCast, f2 54 0 i (by decide) (Or.inl (by decide))]
              exact b3 i (by omega)
            show mGo l g _ _ 45 [_, _, _, some (.inl (mWr ((i : Int) + 1)))] [] (mSet (mSeg (mSet h2 9 0 0 ((nP S.1 + 1 : Nat) : Int)) 42 0 (js (nP S.1)) i (fun q => T (js (nP S.1) + q))) 42 0 (Int.toNat ((js (nP S.1) + i : Nat) : Int)) (mSeg (mSet h2 9 0 0 ((nP S.1 + 1 : Nat) : Int)) 42 0 (js (nP S.1)) i (fun q => T (js (nP S.1) + q)) 54 0 (Int.toNat (i : Int)))) _
            rw [r1, Int.toNat_natCast, mWr_of ⟨by omega, by omega⟩]
            exact q
        have q := loop (nP S.1) 0 (by omega)
        rw [mSeg_zero] at q
        show mGo l g _ _ 45 [_, _, _, some (.inl 0)] [] (mSet h2 9 0 0 (mWr (h2 9 0 0 + 1))) _
        rw [w2]
        exact q
    · rw [if_pos (by omega)]
      exact ⟨rfl, R1, c1.only⟩
  · rw [if_neg (by omega)]
    exact ⟨fun z => by omega, fun _ => ⟨rfl, R1, c1.only⟩⟩
end Puts
