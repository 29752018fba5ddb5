/-! list -/
noncomputable def spList (S : sS) (n w : Int) : Int := if (1 ≤ n ∧ n ≤ 12) ∧ (0 ≤ w ∧ w ≤ 1) then (if 60000 < pw (nC S.1) (js n.toNat) then vLARGE else if w = 0 then ((lvN (bL S.1 n.toNat)).length : Nat) else ((nFst S.1 n.toNat : Nat) : Int)) else vBAD
theorem js_6 : ∀ p, p < 13 → js p ≤ 15 → p ≤ 6 := by decide +kernel
section MList
variable {l : Launch} {g : mG} {d : Nat}
def mkI (a : aM) (h : mMem) : Prop := h 51 0 = a.1 ∧ h 9 0 29 = mWr a.2 ∧ h 9 0 27 = 1
theorem leaf_pre (J : Nat) (hJ : J ≤ 66) (h : mMem) (x2 : Option mRV) (K : Option mRV → mMem → Prop) (nx : ∀ (y2 : Option mRV) (h1 : mMem), (∀ (t : Nat) (i : Fin 8) (k : Nat), ¬ (t = 50 ∨ (t = 9 ∧ k = 25)) → h1 t i k = h t i k) → mGo l g (mMt n_M_listGo) (d + 13) 52 [some (.inr (9, 0)), some (.inl (J : Nat)), y2] [] h1 K) :
    mGo l g (mMt n_M_listGo) (d + 13) 11 [some (.inr (9, 0)), some (.inl (J : Nat)), x2] [] h K := by
  refine mGo_wp h_M_listGo 80 [29, 52] ?_
  refine ⟨fun _ => nx x2 h (fun _ _ _ _ => rfl), fun _ => ⟨Or.inr rfl, ?_⟩⟩
  have loop : ∀ (m k : Nat) (h1 : mMem), k + m = J → (∀ (t : Nat) (i : Fin 8) (k : Nat), ¬ (t = 50 ∨ (t = 9 ∧ k = 25)) → h1 t i k = h t i k) → mGo l g (mMt n_M_listGo) (d + 13) 29 [some (.inr (9, 0)), some (.inl (J : Nat)), some (.inl k)] [] h1 K := by
    intro m
    induction m with
    | zero =>
      intro k h1 hk f
      refine mGo_wp h_M_listGo 80 [52] ?_
      exact ⟨fun _ => nx _ h1 f, fun z => by omega⟩
    | succ m ih =>
      intro k h1 hk f
      refine mGo_wp h_M_listGo 80 [29] ?_
      refine ⟨fun z => by omega, fun _ => ⟨⟨by omega, by omega⟩, ⟨by omega, by omega⟩, ?_⟩⟩
      show mGo l g _ _ 29 [_, _, some (.inl (mWr ((k : Int) + 1)))] [] _ _
      rw [mWr_of ⟨by omega, by omega⟩]
      exact ih (k + 1) _ (by omega) (fun t i q z => (mSet_no (fun y => z (by omega))).trans (f t i q z))
  exact loop J 0 _ (by omega) (fun t i q z => mSet_no (fun y => z (by omega)))
theorem leaf_mark (N : nN) (hP : 1 ≤ nP N ∧ nP N ≤ 6) (hC : 2 ≤ nC N ∧ nC N ≤ 3) (hb : nC N ^ js (nP N) ≤ 60000) (a : aM) (h : mMem) (T : bT) (x2 : Option mRV) (e : isM h (nSetT N T)) (tt : totT (nC N) (nP N) T) (I : mkI a h) : mGo l g (mMt n_M_listGo) (d + 13) 11 [some (.inr (9, 0)), some (.inl (js (nP N) : Nat)), x2] [] h (fun v h' => v = none ∧ mkI (stM (nC N) (nP N) a T) h' ∧ isM h' (nSetT N T) ∧ farY h h') := by
  refine leaf_pre (js (nP N)) (js_le _ (by omega)) h x2 _ (fun y2 h1 f => ?_)
  have i1 : h1 51 0 = a.1 := (funext (fun k => f 51 0 k (by omega))).trans I.1
  have i2 : h1 9 0 29 = mWr a.2 := (f _ _ _ (by omega)).trans I.2.1
  have i3 : h1 9 0 27 = 1 := (f _ _ _ (by omega)).trans I.2.2
  have e1 : isM h1 (nSetT N T) := ⟨(f _ _ _ (by omega)).trans e.1, (f _ _ _ (by omega)).trans e.2.1, fun k hk => (f _ _ _ (by omega)).trans (e.2.2.1 k hk), fun k hk => (f _ _ _ (by omega)).trans (e.2.2.2.1 k hk), fun k hk => (f _ _ _ (by omega)).trans (e.2.2.2.2 k hk)⟩
  have f1 : farY h h1 := fun t i k z => f t i k (fun y => z (by omega))
  refine mGo_wp h_M_listGo 80 [] ?_
  refine ⟨fun z => by rw [i3] at z; exact absurd z (by decide), fun _ => ?_⟩
  refine mCall_on2 (mCon_lift (by omega) (c_M_mark (d := d) T (nC N) (nP N) hC ⟨hP.1, by omega⟩ hb tt h1 e1.1 e1.2.1 e1.2.2.2.2 a ⟨i1, i2⟩)) ?_
  rintro v h2 ⟨rfl, R, f2⟩
  have f12 : ∀ v, farY h (mSet h2 9 0 23 v) := fun v => f1.tr (fun t i k z => (mSet_no (fun y => z (by omega))).trans (f2 t i k (fun y => z (by omega))))
  refine ⟨rfl, ⟨?_, ?_, ?_⟩, ?_, f12 _⟩
  · exact (funext (fun k => mSet_no (by simp))).trans R.1
  · rw [mSet_no (by simp)]; exact R.2
  · rw [mSet_no (by simp), f2 9 0 27 (by omega)]; exact i3
  · have g2 : ∀ (t : Nat) (k : Nat) (v : Int), (t = 9 ∧ k < 2) ∨ t = 40 ∨ t = 41 ∨ t = 42 → mSet h2 9 0 23 v t 0 k = h1 t 0 k := fun t k v z => by
      rw [mSet_no (by omega), f2 t 0 k (by omega)]
    exact ⟨(g2 _ _ _ (by omega)).trans e1.1, (g2 _ _ _ (by omega)).trans e1.2.1, fun k hk => (g2 _ _ _ (by omega)).trans (e1.2.2.1 k hk), fun k hk => (g2 _ _ _ (by omega)).trans (e1.2.2.2.1 k hk), fun k hk => (g2 _ _ _ (by omega)).trans (e1.2.2.2.2 k hk)⟩
theorem c_M_goThrough1 (N : nN) (o : nOk N) (p : Nat) (hp : 1 ≤ p ∧ p ≤ 6) (hb : nC N ^ js p ≤ 60000) (w : Int) (h : mMem) (e : isM h N) :
    mCon l g n_M_goThrough (d + 60) [.inr (9, 0), .inl p, .inl w, .inl 1] h (fun v h' => v = none ∧ isM h' N ∧ chgM h h' ∧ h' 9 0 29 = mWr (nFst N p)) := by
  have hp12 : 1 ≤ p ∧ p ≤ 12 := by omega
  have hlv := (lvN_bL o hp12).1
  have ob := nOk_bL o hp12
  have hj40 : js p ≤ 40 := by
    have : js p ≤ js 6 := js_mono hp.2
    have h6 : js 6 = 15 := by decide
    omega
  -- behind the clearing
  have hmem : ∀ (h1 : mMem), (∀ k, k < 66 → h1 49 0 k = nT N k) → isM h1 (bL N p) → chgM h h1 → h1 9 0 29 = 0 → h1 9 0 27 = 1 → (∀ x, x < 60000 → h1 51 0 x = 0) → ∀ x5, mGo l g (mMt n_M_goThrough) (d + 60) 72 [some (.inr (9, 0)), some (.inl (p : Int)), some (.inl w), some (.inl 1), some (.inl (nP N : Nat)), x5] [] h1 (fun v h' => v = none ∧ isM h' N ∧ chgM h h' ∧ h' 9 0 29 = mWr (nFst N p)) := by
    intro h1 a49 eb c1 a29 a27 a51 x5
    refine mGo_wp h_M_goThrough 120 [] ?_
    have q := s_listGo2 (l := l) (g := g) (bL N p) (fun T t1 t2 => ⟨hp12, ob.2.1, ob.2.2.1, t1, t2⟩) hp12.2 o.2.1.2 13 (Nat.le_refl _) mkI (stM (nC N) p) h1
      (fun a h h' f I => ⟨(funext (fun k => f 51 0 k (by omega))).trans I.1, (f _ _ _ (by decide)).trans I.2.1, (f _ _ _ (by decide)).trans I.2.2⟩)
      (fun a h k v I => ⟨(funext (fun q => mSet_no (by simp))).trans I.1, (mSet_no (by simp)).trans I.2.1, (mSet_no (by simp)).trans I.2.2⟩)
      (fun a h T x2 e o tt f I => leaf_mark (d := 0) (bL N p) hp ob.2.1 hb a h T x2 e tt I) (js p) 0 (fun _ => -1) (h1 51 0, 0) h1 (by show 0 + js p = js p; omega) ob (fun _ _ _ => rfl) (fun q hq => by omega) eb farY.rf ⟨rfl, by rw [a29]; exact (mWr_of ⟨by decide, by decide⟩).symm, a27⟩
    refine mCall_on2 (mCon_lift (by omega) q) ?_
    rintro v h2 ⟨rfl, I2, e2, f2⟩
    have q2 := nFst_fold o hp12 hb a51
    rw [hlv] at q2
    have I29 : h2 9 0 29 = mWr (nFst N p) := by rw [← q2]; exact I2.2.1
    have e49 : ∀ k, k < 66 → h2 49 0 k = nT N k := fun k hk => (f2 _ _ _ (by omega)).trans (a49 k hk)
    refine mCall_is (mCon_lift (by omega) (c_M_bring (d := d) _)) ?_
    have c3 : chgM h2 (mSet h2 9 0 0 (nP N : Nat)) := fun t i k z => mSet_no (fun y => z (by omega))
    have c4 : chgM (mSet h2 9 0 0 (nP N : Nat)) (mSeg (mSet h2 9 0 0 (nP N : Nat)) 42 0 0 66 (mSet h2 9 0 0 ((nP N : Nat) : Int) 49 0)) := seg_chg (Or.inl rfl)
    refine ⟨rfl, ⟨?_, ?_, fun k hk => ?_, fun k hk => ?_, fun k hk => ?_⟩, c1.tr (f2.chg.tr (c3.tr c4)), ?_⟩
    · rw [mSeg_ne (by decide), mSet_at]
    · rw [mSeg_ne (by decide), mSet_no (by simp)]; exact e2.2.1
    · rw [mSeg_ne (by decide), mSet_no (by simp)]; exact e2.2.2.1 k hk
    · rw [mSeg_ne (by decide), mSet_no (by simp)]; exact e2.2.2.2.1 k hk
    · rw [mSeg_in0 hk, mSet_no (by simp)]; exact e49 k hk
    · rw [mSeg_ne (by decide), mSet_no (by simp)]; exact I29
  -- the clearing
  have clr : ∀ (H : mMem), (∀ k, k < 66 → H 49 0 k = nT N k) → isM H (bL N p) → chgM h H → H 9 0 29 = 0 → H 9 0 27 = 1 → ∀ (m k : Nat), k + m = 60000 → mGo l g (mMt n_M_goThrough) (d + 60) 47 [some (.inr (9, 0)), some (.inl (p : Int)), some (.inl w), some (.inl 1), some (.inl (nP N : Nat)), some (.inl (k : Nat))] [] (mSeg H 51 0 0 k (fun _ => 0)) (fun v h' => v = none ∧ isM h' N ∧ chgM h h' ∧ h' 9 0 29 = mWr (nFst N p)) := by
    intro H a49 eb c1 a29 a27 m
    induction m with
    | zero =>
      intro k hk
      refine mGo_wp h_M_goThrough 120 [72] ?_
      refine ⟨fun _ => ?_, fun z => by omega⟩
      refine hmem _ (fun q hq => (mSeg_ne (by decide)).trans (a49 q hq)) ⟨(mSeg_ne (by decide)).trans eb.1, (mSeg_ne (by decide)).trans eb.2.1, fun q hq => (mSeg_ne (by decide)).trans (eb.2.2.1 q hq), fun q hq => (mSeg_ne (by decide)).trans (eb.2.2.2.1 q hq), fun q hq => (mSeg_ne (by decide)).trans (eb.2.2.2.2 q hq)⟩ (fun t i q z => (mSeg_ne (fun y => z (by omega))).trans (c1 t i q z)) ((mSeg_ne (by decide)).trans a29) ((mSeg_ne (by decide)).trans a27) (fun x hx => mSeg_in0 (by omega)) _
    | succ m ih =>
      intro k hk
      refine mGo_wp h_M_goThrough 120 [47] ?_
      refine ⟨fun z => by omega, fun _ => ⟨fun z => absurd z (by decide), fun _ => ⟨⟨by omega, by omega⟩, Or.inl rfl, ?_⟩⟩⟩
      have q := ih (k + 1) (by omega)
      rw [← mSeg_succ, Nat.zero_add] at q
      show mGo l g _ _ 47 [_, _, _, _, _, some (.inl (mWr ((k : Int) + 1)))] [] (mSet (mSeg H 51 0 0 k (fun _ => 0)) 51 0 (Int.toNat (k : Int)) 0) _
      rw [Int.toNat_natCast, mWr_of ⟨by omega, by omega⟩]
      exact q
  refine e_M_goThrough (fun hv hm => ?_)
  refine mGo_wp h_M_goThrough 120 [47] ?_
  refine mCall_is (mCon_lift (by omega) (c_M_layAside (d := d) h)) ?_
  refine mCall_is (mCon_lift (by omega) (c_M_bareAll (d := d) _)) ?_
  refine ⟨Or.inl rfl, Or.inr rfl, ?_⟩
  have q := clr (mSet (mSet (mSet (mSet (mSet (mSeg (mSet (mSeg h 49 0 0 66 (h 42 0)) 9 0 0 (p : Int)) 42 0 0 66 (fun _ => -1)) 9 0 23 0) 9 0 24 w) 9 0 25 0) 9 0 27 1) 9 0 29 0) (fun k hk => by
      rw [mSet_no (by simp), mSet_no (by simp), mSet_no (by simp), mSet_no (by simp), mSet_no (by simp), mSeg_ne (by decide), mSet_no (by simp), mSeg_in0 hk]
      exact e.2.2.2.2 k hk) ⟨by
      rw [mSet_no (by simp), mSet_no (by simp), mSet_no (by simp), mSet_no (by simp), mSet_no (by simp), mSeg_ne (by decide), mSet_at], by
      rw [mSet_no (by simp), mSet_no (by simp), mSet_no (by simp), mSet_no (by simp), mSet_no (by simp), mSeg_ne (by decide), mSet_no (by simp), mSeg_ne (by decide)]
      exact e.2.1, fun k hk => by
      rw [mSet_no (by simp), mSet_no (by simp), mSet_no (by simp), mSet_no (by simp), mSet_no (by simp), mSeg_ne (by decide), mSet_no (by simp), mSeg_ne (by decide)]
      exact e.2.2.1 k hk, fun k hk => by
      rw [mSet_no (by simp), mSet_no (by simp), mSet_no (by simp), mSet_no (by simp), mSet_no (by simp), mSeg_ne (by decide), mSet_no (by simp), mSeg_ne (by decide)]
      exact e.2.2.2.1 k hk, fun k hk => by
      rw [mSet_no (by simp), mSet_no (by simp), mSet_no (by simp), mSet_no (by simp), mSet_no (by simp), mSeg_in0 hk]⟩ (fun t i k z => by
      rw [mSet_no (fun y => z (by omega)), mSet_no (fun y => z (by omega)), mSet_no (fun y => z (by omega)), mSet_no (fun y => z (by omega)), mSet_no (fun y => z (by omega)), mSeg_ne (by omega), mSet_no (fun y => z (by omega)), mSeg_ne (by omega)]) (mSet_at _ _ _ _ _) (by
      rw [mSet_no (by simp), mSet_at]) 60000 0 rfl
  rw [mSeg_zero] at q
  have e0 : h 9 0 0 = ((nP N : Nat) : Int) := e.1
  rw [← e0] at q
  exact q
theorem nFst_le {N : nN} (o : nOk N) {p : Nat} (hp : 1 ≤ p ∧ p ≤ 12) (hb : nC N ^ js p ≤ 60000) : (lvN (bL N p)).length ≤ 60000 ∧ nFst N p ≤ 60000 := by
  have h1 : (lvN (bL N p)).length ≤ 60000 := by
    rw [(lvN_bL o hp).1]
    exact Nat.le_trans (lv_len _ _ _ _ _) hb
  exact ⟨h1, Nat.le_trans (List.length_filter_le _ _) h1⟩
theorem s_M_list (n w : Int) (h : mMem) (S : sS) (o : sOk S) (e : RM h S) : mCon l g n_M_list (d + 61) [.inr (9, 0), .inl n, .inl w] h (ansM h S (spList S n w)) := by
  have hC := o.1.2.1
  refine e_M_list (fun hv hm => ?_)
  refine mGo_wp h_M_list 80 [22] ?_
  unfold spList
  refine mCall_is (c_M_isIn n 1 12 h) ?_
  refine ⟨fun z => ?_, fun z => ?_⟩
  · rw [if_neg (fun y => mB_eq0.mp z y.1)]
    exact ⟨rfl, e, onlyM.rf⟩
  · have z := mB_ne0.mp z
    refine mCall_is (c_M_isIn w 0 1 h) ?_
    refine ⟨fun z2 => ?_, fun z2 => ?_⟩
    · have z2 := mB_ne0.mp z2
      rw [if_pos ⟨z, z2⟩]
      obtain ⟨p, rfl⟩ := Int.eq_ofNat_of_zero_le (show 0 ≤ n by omega)
      rw [Int.toNat_natCast]
      have hp : 1 ≤ p ∧ p ≤ 12 := by omega
      refine mGo_wp h_M_list 80 [] ?_
      refine mCall_is (mCon_lift (by omega) (c_M_isLong (d := d) p (by omega) (nC S.1) hC.2 h e.1.2.1)) ?_
      refine ⟨fun y => ?_, fun y => ?_⟩
      · have y := mB_eq0.mp y
        rw [if_neg y]
        have hpw := pw_eq (js p) (show pw (nC S.1) (js p) ≤ 60000 by omega) (by omega)
        have hb : nC S.1 ^ js p ≤ 60000 := by omega
        have h15 := pow_15 hC.1 hb
        obtain ⟨le1, le2⟩ := nFst_le o.1 hp hb
        refine ⟨fun w1 => ?_, fun w1 => ?_⟩
        · have hw0 : w = 0 := by omega
          subst hw0
          refine mCall_on2 (c_M_goThrough0 S.1 o.1 p hp hb (by omega) (-1) h e.1) ?_
          rintro r h1 ⟨rfl, e1, c1, l1, -, -⟩
          refine ⟨fun x => absurd rfl x, fun _ => ⟨?_, RM_new e c1 e1, c1.only⟩⟩
          rw [l1, if_pos rfl]
        · have hw1 : w = 1 := w1
          subst hw1
          refine mCall_on2 (c_M_goThrough1 S.1 o.1 p ⟨hp.1, js_6 p (by omega) h15⟩ hb (-1) h e.1) ?_
          rintro r h1 ⟨rfl, e1, c1, l1⟩
          refine ⟨fun _ => ⟨?_, RM_new e c1 e1, c1.only⟩, fun x => absurd x (by decide)⟩
          rw [l1, if_neg (by decide), mWr_of ⟨by omega, by omega⟩]
      · rw [if_pos (mB_ne0.mp y)]
        exact ⟨rfl, e, onlyM.rf⟩
    · rw [if_neg (fun y => mB_eq0.mp z2 y.2)]
      exact ⟨rfl, e, onlyM.rf⟩
end MList
