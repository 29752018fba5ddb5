/-! the class's list -/
theorem itR_far {h h' : mMem} {N : nN} {m : Nat} {o : Nat → Nat} {L : List bT} (f : farP h h') (e : itR h N m o L) : itR h' N m o L := by
  have ic : ∀ {M : nN}, isC h 1 M → isC h' 1 M := fun e => isC_eq e (fun t k ht => f t 1 k (by omega))
  rcases e with ⟨e7, rfl⟩ | ⟨e7, e5, T, rfl, eC, oT⟩ | ⟨e7, hm, ho, eB, i, T, D0, cu, eC, e6, e1, rfl, hD⟩
  · exact Or.inl ⟨(f _ _ _ (by omega)).trans e7, rfl⟩
  · exact Or.inr (Or.inl ⟨(f _ _ _ (by omega)).trans e7, (f _ _ _ (by omega)).trans e5, T, rfl, ic eC, oT⟩)
  · exact Or.inr (Or.inr ⟨(f _ _ _ (by omega)).trans e7, hm, ho, ⟨(f _ _ _ (by omega)).trans eB.1, fun i hi => (f _ _ _ (by omega)).trans (eB.2 i hi)⟩, i, T, D0, cu, ic eC, (f _ _ _ (by omega)).trans e6, (f _ _ _ (by omega)).trans e1, rfl, hD⟩)
section KList
variable {l : Launch} {g : mG} {d : Nat}
theorem c_countFirst (N : nN) (hn : nP N ≤ 7) (m : Nat) (o : Nat → Nat) (L : List bT) (hL : L.length ≤ 60000) (h : mMem) (e : itR h N m o L) : mCon l g n_Forms_countFirst (d + 15) [.inr (2, 0), .inr (0, 0)] h (fun v h' => v = some (.inl ((L.filter (fun T => qB (¬ lsF (nP N) T))).length : Nat)) ∧ scrC h h') := by
  have loop : ∀ (L1 : List bT) (i s : Nat) (h1 : mMem), i + L1.length ≤ 60000 → s ≤ i → s + (L1.filter (fun T => qB (¬ lsF (nP N) T))).length = (L.filter (fun T => qB (¬ lsF (nP N) T))).length → itR h1 N m o L1 → scrC h h1 → mGo l g (mMt n_Forms_countFirst) (d + 15) 4 [some (.inr (2, 0)), some (.inr (0, 0)), some (.inl (s : Nat)), some (.inl (i : Nat))] [] h1 (fun v h' => v = some (.inl ((L.filter (fun T => qB (¬ lsF (nP N) T))).length : Nat)) ∧ scrC h h') := by
    intro L1
    induction L1 with
    | nil =>
      intro i s h1 hi hsi hs e1 f1
      have hs : s = (L.filter (fun T => qB (¬ lsF (nP N) T))).length := hs
      refine mGo_wp h_Forms_countFirst 60 [4] ?_
      refine ⟨fun _ => ⟨by rw [hs], f1⟩, fun _ => ?_⟩
      refine mCall_on2 (c_it N m o [] h1 e1) ?_
      rintro v h2 ⟨rfl, -, -, f2⟩
      rw [mBc_f (fun z => z rfl)]
      exact ⟨fun z => absurd z (by decide), fun _ => ⟨by rw [hs], f1.tr f2.scr⟩⟩
    | cons T L1 ih =>
      intro i s h1 hi hsi hs e1 f1
      have hi : i + (L1.length + 1) ≤ 60000 := hi
      refine mGo_wp h_Forms_countFirst 60 [4] ?_
      refine ⟨fun z => by omega, fun _ => ?_⟩
      refine mCall_on2 (c_it N m o (T :: L1) h1 e1) ?_
      rintro v h2 ⟨rfl, -, a, f2⟩
      rw [mBc_t (by simp)]
      obtain ⟨a1, a2, a3⟩ := a T L1 rfl
      refine ⟨fun _ => ?_, fun z => absurd rfl z⟩
      refine mCall_on2 (mCon_lift (by omega) (c_Forms_begin1 (d := d) 1 (nSetT N T) a3 hn h2 a2)) ?_
      rintro v h3 ⟨rfl, R, f3⟩
      have R : h3 2 0 7 = mBc (lsF (nP N) T) := R
      have f13 := f1.tr (f2.scr.tr f3.scr)
      have i3 := itR_far f3 a1
      refine ⟨fun z => ?_, fun z => ?_⟩
      · rw [R] at z
        have hls := mBc_eq0.mp z
        rw [List.filter_cons_of_pos (p := fun T => qB (¬ lsF (nP N) T)) (qB_t hls), List.length_cons] at hs
        show mGo l g _ _ 4 [_, _, some (.inl (mWr ((s : Int) + 1))), some (.inl (mWr ((i : Int) + 1)))] [] h3 _
        rw [mWr_of ⟨by omega, by omega⟩, mWr_of ⟨by omega, by omega⟩]
        exact ih (i + 1) (s + 1) h3 (by omega) (by omega) (by omega) i3 f13
      · rw [R] at z
        have hls := mBc_ne0.mp z
        rw [List.filter_cons_of_neg (p := fun T => qB (¬ lsF (nP N) T)) (fun y => (qB_iff.mp y) hls)] at hs
        show mGo l g _ _ 4 [_, _, some (.inl (mWr ((s : Int) + 0))), some (.inl (mWr ((i : Int) + 1)))] [] h3 _
        rw [mWr_of ⟨by omega, by omega⟩, mWr_of ⟨by omega, by omega⟩, Int.add_zero]
        exact ih (i + 1) s h3 (by omega) (by omega) hs i3 f13
  refine e_Forms_countFirst (fun hv hm => ?_)
  refine mGo_wp h_Forms_countFirst 60 [4] ?_
  exact loop L 0 0 h (by omega) (Nat.le_refl _) (by omega) e scrC.rf
theorem s_K_list (n w : Int) (h : mMem) (S : sS) (o : sOk S) (o2 : sOk2 S) (e : RC h S) : mCon l g n_K_list (d + 16) [.inr (8, 0), .inl n, .inl w] h (ansC h S (spList S n w)) := by
  have hC := o.1.2.1
  refine e_K_list (fun hv hm => ?_)
  refine mGo_wp h_K_list 80 [20, 23] ?_
  unfold spList
  have bad : ¬ ((1 ≤ n ∧ n ≤ 12) ∧ (0 ≤ w ∧ w ≤ 1)) → mGo l g (mMt n_K_list) (d + 16) 20 [some (.inr (8, 0)), some (.inl n), some (.inl w)] [] h (ansC h S (if (1 ≤ n ∧ n ≤ 12) ∧ (0 ≤ w ∧ w ≤ 1) then (if 60000 < pw (nC S.1) (js n.toNat) then vLARGE else if w = 0 then ((lvN (bL S.1 n.toNat)).length : Nat) else ((nFst S.1 n.toNat : Nat) : Int)) else vBAD)) := by
    intro z
    rw [if_neg z]
    refine mGo_wp h_K_list 80 [] ?_
    exact ⟨rfl, e, onlyC.rf⟩
  have main : (1 ≤ n ∧ n ≤ 12) ∧ (0 ≤ w ∧ w ≤ 1) → mGo l g (mMt n_K_list) (d + 16) 23 [some (.inr (8, 0)), some (.inl n), some (.inl w)] [] h (ansC h S (if (1 ≤ n ∧ n ≤ 12) ∧ (0 ≤ w ∧ w ≤ 1) then (if 60000 < pw (nC S.1) (js n.toNat) then vLARGE else if w = 0 then ((lvN (bL S.1 n.toNat)).length : Nat) else ((nFst S.1 n.toNat : Nat) : Int)) else vBAD)) := by
    rintro ⟨z, z2⟩
    rw [if_pos ⟨z, z2⟩]
    obtain ⟨p, rfl⟩ := Int.eq_ofNat_of_zero_le (show 0 ≤ n by omega)
    rw [Int.toNat_natCast]
    have hp : 1 ≤ p ∧ p ≤ 12 := by omega
    refine mGo_wp h_K_list 80 [] ?_
    refine mCall_is (mCon_lift (by omega) (c_K_isListLarge (d := d) p (by omega) (nC S.1) hC.2 h e.1.2.1)) ?_
    refine ⟨fun y => ?_, fun y => ?_⟩
    · have y := mB_eq0.mp y
      rw [if_neg y]
      have hpw := pw_eq (js p) (show pw (nC S.1) (js p) ≤ 60000 by omega) (by omega)
      have hb : nC S.1 ^ js p ≤ 60000 := by omega
      have h6 := js_6 p (by omega) (pow_15 hC.1 hb)
      refine mCall_on2 (mCon_lift (by omega) (c_beginList (d := d) S.1 o.1 o2.1 p hp hb h e.1)) ?_
      rintro r h1 ⟨rfl, i1, i2, f1⟩
      refine ⟨fun y2 => ?_, fun y2 => ?_⟩
      · rw [if_neg y2]
        refine mCall_on2 (c_countFirst (bL S.1 p) (show p ≤ 7 by omega) _ _ _ i2 h1 i1) ?_
        rintro r h2 ⟨rfl, f2⟩
        exact ⟨rfl, RC_scr e (f1.tr f2), (f1.tr f2).only⟩
      · rw [if_pos y2]
        refine mCall_on2 (c_countAll (bL S.1 p) _ _ _ i2 h1 i1) ?_
        rintro r h2 ⟨rfl, f2⟩
        exact ⟨rfl, RC_scr e (f1.tr f2.scr), (f1.tr f2.scr).only⟩
    · rw [if_pos (mB_ne0.mp y)]
      exact ⟨rfl, e, onlyC.rf⟩
  refine ⟨fun z1 => bad (by omega), fun z1 => ⟨fun z2 => bad (by omega), fun z2 => ⟨fun z3 => bad (by omega), fun z3 => ⟨fun z4 => main ⟨⟨by omega, by omega⟩, by omega, by omega⟩, fun z4 => bad (by omega)⟩⟩⟩⟩
end KList
