/-! the model's listed, puts, put -/
noncomputable def spListed (S : sS) (n k : Int) : Int × sS := if (1 ≤ n ∧ n ≤ 12) ∧ 0 ≤ k then (if 60000 < pw (nC S.1) (js n.toNat) then (vLARGE, S) else (match (lvN (bL S.1 n.toNat))[k.toNat]? with
  | none => (vNONE, S)
  | some T => ((js n.toNat : Nat), sTo S (nSetT (bL S.1 n.toNat) T)))) else (vBAD, S)
theorem lv_ok (N : nN) (o : Nat → Nat) (m : Nat) (ho : ∀ i, i < m → o i < js (nP N)) : ∀ (j i : Nat) (T : bT), i + j = m → nOk (nSetT N T) → ∀ T' ∈ lv N o j i T, nOk (nSetT N T')
  | 0, i, T, _, h, T', hT => by
    rw [List.mem_singleton.mp hT]
    exact h
  | j + 1, i, T, hm, h, T', hT => by
    obtain ⟨c, hc, h1⟩ := List.mem_flatMap.mp hT
    have hc2 : c < nC N := by
      have := List.mem_range'_1.mp hc
      omega
    split at h1
    · exact lv_ok N o m ho j (i + 1) _ (by omega) (nOk_tone h (k := o i) (ho i (by omega)) ⟨by omega, by show (c : Int) < nC N; omega⟩) T' h1
    · cases h1
theorem lvN_ok {N : nN} (o : nOk N) : ∀ T ∈ lvN N, nOk (nSetT N T) := by
  intro T hT
  unfold lvN at hT
  split at hT
  · exact lv_ok N (oN N) (opM N) (fun i hi => (oN_mem hi).1) (opM N) 0 (nT N) (by omega) o T hT
  · cases hT
theorem sOk_listed {S : sS} (o : sOk S) (n k : Int) : sOk (spListed S n k).2 := by
  unfold spListed
  split
  · next h =>
    split
    · exact o
    · cases hx : (lvN (bL S.1 n.toNat))[k.toNat]? with
      | none => exact o
      | some T => exact sOk_to o (lvN_ok (nOk_bL o.1 (p := n.toNat) (by omega)) T (List.mem_of_getElem? hx))
  · exact o
section MListed
variable {l : Launch} {g : mG} {d : Nat}
def lisI (J : Nat) (w : Int) (a : aL) (h : mMem) : Prop := h 9 0 23 = mWr a.1 ∧ h 9 0 24 = w ∧ h 9 0 25 = mBc (a.2 ≠ none) ∧ h 9 0 27 = 0 ∧ ∀ T, a.2 = some T → ∀ i, i < J → h 50 0 i = T i
theorem leaf_list (N : nN) (hP : nP N ≤ 12) (w : Int) (a : aL) (h : mMem) (T : bT) (x2 : Option mRV) (e : isM h (nSetT N T)) (I : lisI (js (nP N)) w a h) : mGo l g (mMt n_M_listGo) (d + 13) 11 [some (.inr (9, 0)), some (.inl (js (nP N) : Nat)), x2] [] h (fun v h' => v = none ∧ lisI (js (nP N)) w (stL w a T) h' ∧ isM h' (nSetT N T) ∧ farY h h') := by
  have h66 := js_le (nP N) (by omega)
  obtain ⟨i1, i2, i3, i4, i5⟩ := I
  have tail : ∀ (x2 : Option mRV) (h1 : mMem) (r : Option bT), h1 9 0 23 = mWr a.1 → h1 9 0 24 = w → h1 9 0 25 = mBc (r ≠ none) → h1 9 0 27 = 0 → (∀ T, r = some T → ∀ i, i < js (nP N) → h1 50 0 i = T i) → isM h1 (nSetT N T) → farY h h1 → (stL w a T).2 = r → mGo l g (mMt n_M_listGo) (d + 13) 52 [some (.inr (9, 0)), some (.inl (js (nP N) : Nat)), x2] [] h1 (fun v h' => v = none ∧ lisI (js (nP N)) w (stL w a T) h' ∧ isM h' (nSetT N T) ∧ farY h h') := by
    intro x2 h1 r a1 a2 a3 a4 a5 e1 f1 hr
    refine mGo_wp h_M_listGo 80 [] ?_
    refine ⟨fun _ => ⟨rfl, ⟨?_, ?_, ?_, ?_, fun T' hT i hi => ?_⟩, ?_, f1.tr (fun t b q z => mSet_no (fun y => z (by omega)))⟩, fun z => absurd a4 z⟩
    · rw [mSet_at, a1, mWr_add]
      rfl
    · rw [mSet_no (by simp)]; exact a2
    · rw [mSet_no (by simp), hr]; exact a3
    · rw [mSet_no (by simp)]; exact a4
    · rw [mSet_no (by simp)]
      rw [hr] at hT
      exact a5 T' hT i hi
    · exact ⟨(mSet_no (by simp)).trans e1.1, (mSet_no (by simp)).trans e1.2.1, fun k hk => (mSet_no (by simp)).trans (e1.2.2.1 k hk), fun k hk => (mSet_no (by simp)).trans (e1.2.2.2.1 k hk), fun k hk => (mSet_no (by simp)).trans (e1.2.2.2.2 k hk)⟩
  refine mGo_wp h_M_listGo 80 [29, 52] ?_
  refine ⟨fun z => ?_, fun z => ⟨Or.inr rfl, ?_⟩⟩
  · rw [i1, i2] at z
    exact tail x2 h a.2 i1 i2 i3 i4 i5 e farY.rf (if_neg (qB_no z))
  · rw [i1, i2] at z
    have loop : ∀ (m k : Nat), k + m = js (nP N) → mGo l g (mMt n_M_listGo) (d + 13) 29 [some (.inr (9, 0)), some (.inl (js (nP N) : Nat)), some (.inl k)] [] (mSeg (mSet h 9 0 25 1) 50 0 0 k T) (fun v h' => v = none ∧ lisI (js (nP N)) w (stL w a T) h' ∧ isM h' (nSetT N T) ∧ farY h h') := by
      intro m
      induction m with
      | zero =>
        intro k hk
        refine mGo_wp h_M_listGo 80 [52] ?_
        refine ⟨fun _ => ?_, fun z => by omega⟩
        have hkk : k = js (nP N) := by omega
        subst hkk
        refine tail _ _ (some T) ?_ ?_ ?_ ?_ (fun T' hT i hi => ?_) ?_ (fun t b q z => ?_) (if_pos (qB_t z))
        · rw [mSeg_ne (by decide), mSet_no (by simp)]; exact i1
        · rw [mSeg_ne (by decide), mSet_no (by simp)]; exact i2
        · rw [mSeg_ne (by decide), mSet_at, mBc_t (by simp)]
        · rw [mSeg_ne (by decide), mSet_no (by simp)]; exact i4
        · cases hT
          exact mSeg_in0 hi
        · exact ⟨((mSeg_ne (by decide)).trans (mSet_no (by simp))).trans e.1, ((mSeg_ne (by decide)).trans (mSet_no (by simp))).trans e.2.1, fun k hk => ((mSeg_ne (by decide)).trans (mSet_no (by simp))).trans (e.2.2.1 k hk), fun k hk => ((mSeg_ne (by decide)).trans (mSet_no (by simp))).trans (e.2.2.2.1 k hk), fun k hk => ((mSeg_ne (by decide)).trans (mSet_no (by simp))).trans (e.2.2.2.2 k hk)⟩
        · rw [mSeg_ne (by omega), mSet_no (fun y => z (by omega))]
      | succ m ih =>
        intro k hk
        refine mGo_wp h_M_listGo 80 [29] ?_
        refine ⟨fun z => by omega, fun _ => ⟨⟨by omega, by omega⟩, ⟨by omega, by omega⟩, ?_⟩⟩
        have q := ih (k + 1) (by omega)
        rw [← mSeg_succ, Nat.zero_add] at q
        have r1 : mSeg (mSet h 9 0 25 1) 50 0 0 k T 42 0 (Int.toNat (k : Int)) = T k := by
          rw [mSeg_ne (by decide), mSet_no (by simp), Int.toNat_natCast]
          exact e.2.2.2.2 k (by omega)
        show mGo l g _ _ 29 [_, _, some (.inl (mWr ((k : Int) + 1)))] [] (mSet (mSeg (mSet h 9 0 25 1) 50 0 0 k T) 50 0 (Int.toNat (k : Int)) (mSeg (mSet h 9 0 25 1) 50 0 0 k T 42 0 (Int.toNat (k : Int)))) _
        rw [r1, Int.toNat_natCast, mWr_of ⟨by omega, by omega⟩]
        exact q
    have q := loop (js (nP N)) 0 (by omega)
    rw [mSeg_zero] at q
    exact q
noncomputable def wntd (L : List bT) (w : Int) : Option bT := if 0 ≤ w then L[w.toNat]? else none
theorem fold_0 (L : List bT) (w : Int) (h : L.length ≤ 60000) : L.foldl (stL w) (0, none) = (L.length, wntd L w) := by
  rw [fold_L w L (0, none) (by show 0 + L.length ≤ 60000; omega)]
  show (0 + L.length, if ((0 : Nat) : Int) ≤ w ∧ w < ((0 + L.length : Nat) : Int) then L[(w - ((0 : Nat) : Int)).toNat]? else none) = _
  unfold wntd
  rw [Nat.zero_add]
  by_cases z : 0 ≤ w
  · rw [if_pos z, show w - ((0 : Nat) : Int) = w by omega]
    by_cases y : w < (L.length : Int)
    · rw [if_pos ⟨z, y⟩]
    · rw [if_neg (fun x => y x.2), List.getElem?_eq_none (by omega)]
  · rw [if_neg z, if_neg (fun x => z x.1)]
theorem c_M_goThrough0 (N : nN) (o : nOk N) (p : Nat) (hp : 1 ≤ p ∧ p ≤ 12) (hb : nC N ^ js p ≤ 60000) (hj : js p ≤ 40) (w : Int) (h : mMem) (e : isM h N) :
    mCon l g n_M_goThrough (d + 60) [.inr (9, 0), .inl p, .inl w, .inl 0] h (fun v h' => v = none ∧ isM h' N ∧ chgM h h' ∧ h' 9 0 23 = ((lvN (bL N p)).length : Nat) ∧ h' 9 0 25 = mBc (wntd (lvN (bL N p)) w ≠ none) ∧ ∀ T, wntd (lvN (bL N p)) w = some T → ∀ i, i < js p → h' 50 0 i = T i) := by
  have hlv := (lvN_bL o hp).1
  have hlen : (lvN (bL N p)).length ≤ 60000 := by
    rw [hlv]
    exact Nat.le_trans (lv_len _ _ _ _ _) hb
  have ob := nOk_bL o hp
  refine e_M_goThrough (fun hv hm => ?_)
  refine mGo_wp h_M_goThrough 120 [72] ?_
  refine mCall_is (mCon_lift (by omega) (c_M_layAside (d := d) h)) ?_
  refine mCall_is (mCon_lift (by omega) (c_M_bareAll (d := d) _)) ?_
  refine ⟨Or.inl rfl, Or.inl rfl, ⟨fun z => absurd z (by decide), fun _ => ⟨fun _ => ?_, fun z => absurd rfl z⟩⟩⟩
  -- the memory ahead of list(0)
  have hmem : ∀ (h1 : mMem), (∀ k, k < 66 → h1 49 0 k = nT N k) → isM h1 (bL N p) → chgM h h1 → lisI (js p) w (0, none) h1 → ∀ x5, mGo l g (mMt n_M_goThrough) (d + 60) 72 [some (.inr (9, 0)), some (.inl (p : Int)), some (.inl w), some (.inl 0), some (.inl (nP N : Nat)), x5] [] h1 (fun v h' => v = none ∧ isM h' N ∧ chgM h h' ∧ h' 9 0 23 = ((lvN (bL N p)).length : Nat) ∧ h' 9 0 25 = mBc (wntd (lvN (bL N p)) w ≠ none) ∧ ∀ T, wntd (lvN (bL N p)) w = some T → ∀ i, i < js p → h' 50 0 i = T i) := by
    intro h1 a49 eb c1 I1 x5
    refine mGo_wp h_M_goThrough 120 [] ?_
    have q := s_listGo (l := l) (g := g) (bL N p) (fun T t1 t2 => ⟨hp, ob.2.1, ob.2.2.1, t1, t2⟩) hp.2 o.2.1.2 13 (Nat.le_refl _) (lisI (js p) w) (stL w) h1
      (fun a h h' f I => ⟨(f _ _ _ (by decide)).trans I.1, (f _ _ _ (by decide)).trans I.2.1, (f _ _ _ (by decide)).trans I.2.2.1, (f _ _ _ (by decide)).trans I.2.2.2.1, fun T hT i hi => (f _ _ _ (by omega)).trans (I.2.2.2.2 T hT i hi)⟩)
      (fun a h k v I => ⟨(mSet_no (by simp)).trans I.1, (mSet_no (by simp)).trans I.2.1, (mSet_no (by simp)).trans I.2.2.1, (mSet_no (by simp)).trans I.2.2.2.1, fun T hT i hi => (mSet_no (by simp)).trans (I.2.2.2.2 T hT i hi)⟩)
      (fun a h T x2 e o f I => leaf_list (d := 0) (bL N p) hp.2 w a h T x2 e I) (js p) 0 (fun _ => -1) (0, none) h1 (by show 0 + js p = js p; omega) ob (fun _ _ _ => rfl) eb farY.rf I1
    refine mCall_on2 (mCon_lift (by omega) q) ?_
    rintro v h2 ⟨rfl, I2, e2, f2⟩
    rw [← hlv, fold_0 _ w hlen] at I2
    have e49 : ∀ k, k < 66 → h2 49 0 k = nT N k := fun k hk => (f2 _ _ _ (by omega)).trans (a49 k hk)
    refine mCall_is (mCon_lift (by omega) (c_M_bring (d := d) _)) ?_
    have c3 : chgM h2 (mSet h2 9 0 0 (nP N : Nat)) := fun t i k z => mSet_no (fun y => z (by omega))
    have c4 : chgM (mSet h2 9 0 0 (nP N : Nat)) (mSeg (mSet h2 9 0 0 (nP N : Nat)) 42 0 0 66 (mSet h2 9 0 0 ((nP N : Nat) : Int) 49 0)) := seg_chg (Or.inl rfl)
    refine ⟨rfl, ⟨?_, ?_, fun k hk => ?_, fun k hk => ?_, fun k hk => ?_⟩, c1.tr (f2.chg.tr (c3.tr c4)), ?_, ?_, fun T hT i hi => ?_⟩
    · rw [mSeg_ne (by decide), mSet_at]
    · rw [mSeg_ne (by decide), mSet_no (by simp)]; exact e2.2.1
    · rw [mSeg_ne (by decide), mSet_no (by simp)]; exact e2.2.2.1 k hk
    · rw [mSeg_ne (by decide), mSet_no (by simp)]; exact e2.2.2.2.1 k hk
    · rw [mSeg_in0 hk, mSet_no (by simp)]; exact e49 k hk
    · rw [mSeg_ne (by decide), mSet_no (by simp), I2.1, mWr_of ⟨by omega, by omega⟩]
    · rw [mSeg_ne (by decide), mSet_no (by simp)]; exact I2.2.2.1
    · rw [mSeg_ne (by decide), mSet_no (by simp)]; exact I2.2.2.2.2 T hT i hi
  have q := hmem (mSet (mSet (mSet (mSet (mSet (mSeg (mSet (mSeg h 49 0 0 66 (h 42 0)) 9 0 0 (p : Int)) 42 0 0 66 (fun _ => -1)) 9 0 23 0) 9 0 24 w) 9 0 25 0) 9 0 27 0) 9 0 29 0) (fun k hk => by
      rw [mSet_no (by simp), mSet_no (by simp), mSet_no (by simp), mSet_no (by simp), mSet_no (by simp), mSeg_ne (by decide), mSet_no (by simp), mSeg_in0 hk]
      exact e.2.2.2.2 k hk) ⟨by
      rw [mSet_no (by simp), mSet_no (by simp), mSet_no (by simp), mSet_no (by simp), mSet_no (by simp), mSeg_ne (by decide), mSet_at], by
      rw [mSet_no (by simp), mSet_no (by simp), mSet_no (by simp), mSet_no (by simp), mSet_no (by simp), mSeg_ne (by decide), mSet_no (by simp), mSeg_ne (by decide)]
      exact e.2.1, fun k hk => by
      rw [mSet_no (by simp), mSet_no (by simp), mSet_no (by simp), mSet_no (by simp), mSet_no (by simp), mSeg_ne (by decide), mSet_no (by simp), mSeg_ne (by decide)]
      exact e.2.2.1 k hk, fun k hk => by
      rw [mSet_no (by simp), mSet_no (by simp), mSet_no (by simp), mSet_no (by simp), mSet_no (by simp), mSeg_ne (by decide), mSet_no (by simp), mSeg_ne (by decide)]
      exact e.2.2.2.1 k hk, fun k hk => by
      rw [mSet_no (by simp), mSet_no (by simp), mSet_no (by simp), mSet_no (by simp), mSet_no (by simp), mSeg_in0 hk]⟩ (fun t i k z => by
      rw [mSet_no (fun y => z (by omega)), mSet_no (fun y => z (by omega)), mSet_no (fun y => z (by omega)), mSet_no (fun y => z (by omega)), mSet_no (fun y => z (by omega)), mSeg_ne (by omega), mSet_no (fun y => z (by omega)), mSeg_ne (by omega)]) ⟨by
      rw [mSet_no (by simp), mSet_no (by simp), mSet_no (by simp), mSet_no (by simp), mSet_at]
      exact (mWr_of ⟨by decide, by decide⟩).symm, by
      rw [mSet_no (by simp), mSet_no (by simp), mSet_no (by simp), mSet_at], by
      rw [mSet_no (by simp), mSet_no (by simp), mSet_at, mBc_f (fun z => z rfl)], by
      rw [mSet_no (by simp), mSet_at], fun T hT => by cases hT⟩ (some (.inl 0))
  have e0 : h 9 0 0 = ((nP N : Nat) : Int) := e.1
  rw [← e0] at q
  exact q
end MListed
