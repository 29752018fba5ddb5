/-! Outward.isCopyOfJust -/
theorem mkT_nr {T : bT} {U p : Nat} (c : Nat) (hp : p < 12) (hU : U.testBit p = true) : nr (mkT T U) c p = nr T c p &&& U := by
  refine Nat.eq_of_testBit_eq (fun q => ?_)
  rw [Nat.testBit_and, nr_bit, nr_bit]
  refine Bool.eq_iff_iff.mpr ?_
  rw [Bool.and_eq_true, decide_eq_true_iff, decide_eq_true_iff]
  refine ⟨fun ⟨h1, h2, h3⟩ => ?_, fun ⟨⟨h1, h2, h3⟩, h4⟩ => ⟨h1, h2, mkT_iff.mpr ⟨?_, h3⟩⟩⟩
  · obtain ⟨m, h5⟩ := mkT_iff.mp h3
    obtain ⟨j1, j2⟩ := jn_inj p hp q h1 (fun z => h2 z.symm)
    rw [j1, j2] at m
    refine ⟨⟨h1, h2, h5⟩, ?_⟩
    by_cases z : p ≤ q
    · rw [Nat.max_eq_right z] at m; exact m.2
    · rw [Nat.min_eq_right (by omega)] at m; exact m.1
  · obtain ⟨j1, j2⟩ := jn_inj p hp q h1 (fun z => h2 z.symm)
    rw [j1, j2]
    by_cases z : p ≤ q
    · rw [Nat.max_eq_right z, Nat.min_eq_left z]; exact ⟨hU, h4⟩
    · rw [Nat.max_eq_left (by omega), Nat.min_eq_right (by omega)]; exact ⟨h4, hU⟩
theorem mkT_oB {N : nN} (hn : nP N ≤ 12) (c U : Nat) : oB (mkT (nT N) U) c (nP N) (fun p => p < nP N ∧ U.testBit p = true) := by
  refine ⟨fun p hp => hp.1, fun p q hp hq hne had => ⟨hq, ?_⟩⟩
  have had : mkT (nT N) U (jn p q) = (c : Nat) := had
  obtain ⟨m, -⟩ := mkT_iff.mp had
  obtain ⟨j1, j2⟩ := jn_inj p (by omega) q (by omega) (fun z => hne z.symm)
  rw [j1, j2] at m
  by_cases z : p ≤ q
  · rw [Nat.max_eq_right z] at m; exact m.2
  · rw [Nat.min_eq_right (by omega)] at m; exact m.1
theorem mkT_far {T : bT} {n : Nat} (h : farB T n) (U : Nat) : farB (mkT T U) n := fun k h1 h2 => by
  unfold mkT
  split
  · exact h k h1 h2
  · rfl
section Just
variable {l : Launch} {g : mG} {d : Nat}
theorem c_isCopyOfJust (i : Fin 8) (N : nN) (o : nOk N) (e c U : Nat) (he : e < js (nP N)) (hc : c < 3) (hTc : nT N e = c) (hU : U < 4096) (h : mMem) (eC : isC h i N) :
    mCon l g n_Outward_isCopyOfJust (d + 13) [.inr (5, 0), .inr (4, i), .inl e, .inl U] h (fun v h' => v = some (.inl (mBc (justP N c e U))) ∧ farO h h') := by
  obtain ⟨j1, j2, j3, j4⟩ := jhi_lt o.1.2 he
  have hn := o.1.2
  obtain ⟨t1, t2, -⟩ := jlo_tab e j3
  have te : ((e : Int)).toNat = e := Int.toNat_natCast e
  have rt : h 22 i ((e : Int)).toNat = (c : Int) := by rw [te, eC.2.2.2.2.1 e j3, hTc]
  have hlu : (mTab 103).getD ((e : Int)).toNat 0 = (jlo e : Int) := by rw [te, t1]
  have hhv : (mTab 104).getD ((e : Int)).toNat 0 = (jhi e : Int) := by rw [te, t2]
  obtain ⟨w1, w2, w3⟩ := two_bits (u := jlo e) (v := jhi e) (by omega) (by omega)
  have hsz := o.2.2.1 c hc
  refine e_Outward_isCopyOfJust (fun hv' hm => ?_)
  refine mGo_wp h_Outward_isCopyOfJust 120 [25] ?_
  refine ⟨⟨by omega, by omega⟩, ⟨by omega, by omega⟩, ⟨by omega, by omega⟩, ?_⟩
  show mGo l g (mMt n_Outward_isCopyOfJust) (d + 13) 25 [some (.inr (5, 0)), some (.inr (4, i)), some (.inl (e : Int)), some (.inl (U : Int)), some (.inl (h 22 i ((e : Int)).toNat)), some (.inl (mOr (mShl 1 ((mTab 103).getD ((e : Int)).toNat 0)) (mShl 1 ((mTab 104).getD ((e : Int)).toNat 0)))), none] [] h _
  rw [hlu, hhv, rt, w1]
  have loop : bc U = nln N c → (U.testBit (jlo e) = true ∧ U.testBit (jhi e) = true) → ∀ (m k : Nat) (h1 : mMem), k + m = 12 → h1 5 0 0 = nP N → (∀ q, q < 12 → h1 26 0 q = ((if q < k then nr (nT N) c q &&& U else nr (nT N) c q : Nat) : Int)) → farO h h1 →
      mGo l g (mMt n_Outward_isCopyOfJust) (d + 13) 64 [some (.inr (5, 0)), some (.inr (4, i)), some (.inl (e : Int)), some (.inl (U : Int)), some (.inl (c : Int)), some (.inl ((2 ^ jlo e ||| 2 ^ jhi e : Nat) : Int)), some (.inl (k : Int))] [] h1 (fun v h' => v = some (.inl (mBc (justP N c e U))) ∧ farO h h') := by
    intro hbc hends m
    induction m with
    | zero =>
      intro k h1 hk a1 a2 f1
      refine mGo_wp h_Outward_isCopyOfJust 120 [64] ?_
      refine ⟨fun _ => ?_, fun z => by omega⟩
      have hT2 : mkT (nT N) U e = (c : Nat) := mkT_iff.mpr ⟨hends, hTc⟩
      refine mCall_is (c_Outward_countFrom i N o e c he hc hTc (mkT (nT N) U) hT2 (mkT_far o.2.2.2.2 U) (fun p => p < nP N ∧ U.testBit p = true) (mkT_oB hn c U) ⟨by omega, hends.1⟩ ⟨j2, hends.2⟩ h1 (isC_farO eC f1) ⟨a1, fun p hp => ?_⟩) ?_
      · have := a2 p (by omega)
        rw [if_pos (by omega)] at this
        rw [this, mkT_nr c (by omega) hp.2]
      · have key := just_thr o (e := e) hc hU hbc
        refine ⟨fun z => ⟨Or.inl rfl, ?_, f1⟩, fun z => ⟨Or.inr rfl, ?_, f1⟩⟩
        · rw [mBc_f (fun w => by have := key.mpr w; omega)]
        · rw [mBc_t (key.mp (by omega))]
    | succ m ih =>
      intro k h1 hk a1 a2 f1
      refine mGo_wp h_Outward_isCopyOfJust 120 [64] ?_
      refine ⟨fun z => by omega, fun _ => ⟨⟨by omega, by omega⟩, ⟨by omega, by omega⟩, ?_⟩⟩
      have a2k := a2 k (by omega)
      rw [if_neg (by omega)] at a2k
      have nlt := nr_lt (nT N) c k
      show mGo l g _ _ 64 [_, _, _, _, _, _, some (.inl (mWr ((k : Int) + 1)))] [] (mSet h1 26 0 (Int.toNat (k : Int)) (mAnd (h1 26 0 (Int.toNat (k : Int))) (U : Int))) _
      rw [Int.toNat_natCast, a2k, mAnd_nat (by omega) (by omega), mWr_of ⟨by omega, by omega⟩]
      refine ih (k + 1) _ (by omega) ((mSet_no (by simp)).trans a1) (fun q hq => ?_) (f1.tr (fun t a q z => mSet_no (fun y => z (by omega))))
      by_cases hqk : q = k
      · subst hqk
        rw [mSet_at, if_pos (by omega)]
      · rw [mSet_no (fun y => hqk y.2.2), a2 q hq]
        by_cases z : q < k
        · rw [if_pos z, if_pos (by omega)]
        · rw [if_neg z, if_neg (by omega)]
  refine mGo_wp h_Outward_isCopyOfJust 120 [64] ?_
  have hand : mAnd (U : Int) ((2 ^ jlo e ||| 2 ^ jhi e : Nat) : Int) = ((U &&& (2 ^ jlo e ||| 2 ^ jhi e) : Nat) : Int) := mAnd_nat (by omega) (by omega)
  have hiff : (U &&& (2 ^ jlo e ||| 2 ^ jhi e)) = (2 ^ jlo e ||| 2 ^ jhi e) ↔ (U.testBit (jlo e) = true ∧ U.testBit (jhi e) = true) := by
    refine ⟨fun z => ?_, fun z => Nat.eq_of_testBit_eq (fun q => ?_)⟩
    · have b : ∀ q, q ∈ [jlo e, jhi e] → U.testBit q = true := fun q hq => by
        have h1 := (w3 q).mpr hq
        rw [← z, Nat.testBit_and, Bool.and_eq_true] at h1
        exact h1.1
      exact ⟨b _ (by simp), b _ (by simp)⟩
    · rw [Nat.testBit_and]
      refine Bool.eq_iff_iff.mpr ?_
      rw [Bool.and_eq_true, w3]
      refine ⟨fun y => y.2, fun y => ⟨?_, y⟩⟩
      rcases List.mem_cons.mp y with rfl | y
      · exact z.1
      · rw [List.mem_singleton.mp y]; exact z.2
  refine ⟨fun z => by omega, fun _ => ⟨fun z => ?_, fun z => ?_⟩⟩
  · rw [hand] at z
    refine ⟨Or.inl rfl, ?_, farO.rf⟩
    rw [mBc_f (fun w => z (by rw [hiff.mpr ⟨(just_ends o hc w).1, (just_ends o hc w).2.1⟩]))]
  · rw [hand] at z
    have hends := hiff.mp (by omega)
    refine mCall_is (mCon_lift (by omega) (c_Int_bitCount (d := d) U hU h)) ?_
    refine mCall_is (mCon_lift (by omega) (c_Net_copyLength (d := d) i c hc N hsz h eC)) ?_
    refine ⟨fun z2 => ?_, fun z2 => ⟨Or.inl rfl, ?_, farO.rf⟩⟩
    · have hbc : bc U = nln N c := by
        show bc U = (lenOf (nK N c) (nS N c)).toNat
        omega
      refine mCall_on2 (mCon_lift (by omega) (c_Outward_lookAt (d := d) i N e c j3 hc hTc h eC)) ?_
      rintro v h1 ⟨rfl, e1, e2, f⟩
      exact loop hbc hends 12 0 h1 (by omega) e1 (fun q hq => by rw [if_neg (by omega)]; exact e2 q hq) f
    · have hj : ¬ justP N c e U := fun w => by
        have w3 := (just_ends o hc w).2.2
        obtain ⟨x, hx, -⟩ := w
        have hk : nK N c ≠ 0 := fun y => by
          unfold cpL at hx
          rw [if_pos y] at hx
          cases hx
        have k3 := (kOk_of hsz hk).2.2.1
        have w3 : bc U = (lenOf (nK N c) (nS N c)).toNat := w3
        omega
      rw [mBc_f hj]
end Just
