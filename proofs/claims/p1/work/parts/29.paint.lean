abbrev nSetT (N : nN) (T : Nat → Int) : nN := (N.1, N.2.1, N.2.2.1, N.2.2.2.1, T)
/-- a change: the net becomes another one, the old one is kept, the proof is none -/
abbrev sTo (S : sS) (N : nN) : sS := (N, hpush S.2.1 S.1, S.2.2.1, 0, S.2.2.2.2)
noncomputable def spPaint (S : sS) (a b v : Int) : Int × sS := if ((0 ≤ a ∧ a < nP S.1) ∧ (0 ≤ b ∧ b < nP S.1) ∧ a ≠ b) ∧ (v = -1 ∨ (0 ≤ v ∧ v < nC S.1)) then (nT S.1 (jn a.toNat b.toNat), sTo S (nSetT S.1 (tSet (nT S.1) (jn a.toNat b.toNat) v))) else (vBAD, S)
section Paint
variable {l : Launch} {g : mG} {d : Nat}
theorem s_K_paint (h : mMem) (S : sS) (o : sOk S) (e : RC h S) (a b v : Int) : mCon l g n_K_paint (d + 4) [.inr (8, 0), .inl a, .inl b, .inl v] h (fun r h' => r = some (.inl (spPaint S a b v).1) ∧ RC h' (spPaint S a b v).2 ∧ onlyC h h') := by
  refine e_K_paint (fun hv hm => ?_)
  refine mGo_wp h_K_paint 60 [] ?_
  have hp := o.1.1.2
  have hc := o.1.2.1.2
  refine mCall_is (c_Net_hasJoin 0 a b h) ?_
  refine ⟨fun c => ?_, fun c => ?_⟩
  · rw [mB_eq0, e.1.1] at c
    rw [spPaint, if_neg (fun z => c z.1)]
    exact ⟨rfl, e, onlyC.rf⟩
  have c := mB_ne0.mp c
  rw [e.1.1] at c
  refine mCall_is (c_Net_hasColourOrBare 0 v h) ?_
  refine ⟨fun c2 => ?_, fun c2 => ?_⟩
  · have c2 := mB_ne0.mp c2
    rw [e.1.2.1] at c2
    refine mCall_on2 (s_remember h S o e) ?_
    rintro r1 h1 ⟨rfl, e1, q1⟩
    obtain ⟨⟨a0, a1⟩, ⟨b0, b1⟩, ab⟩ := id c
    obtain ⟨a', rfl⟩ := Int.eq_ofNat_of_zero_le a0
    obtain ⟨b', rfl⟩ := Int.eq_ofNat_of_zero_le b0
    have hj := jn_lt a' (by omega) b' (by omega) (by omega)
    rw [spPaint, if_pos ⟨c, c2⟩, Int.toNat_natCast, Int.toNat_natCast]
    refine mCall_is (c_K_numberOf a' b' (by omega) (by omega) h1) ?_
    refine ⟨⟨by omega, by omega⟩, ?_⟩
    have ht := o.1.2.2.2.1 _ hj
    obtain ⟨n1, n2, n3, n4, n5, n6⟩ := id e1.1
    refine mCall_on2 (c_Net_give 0 (jn a' b') v (nT S.1) hj (by omega) h1 (n5 _ hj) (by omega) n6) ?_
    rintro r2 h2 ⟨rfl, g1, g2, g3⟩
    refine ⟨?_, ⟨⟨?_, ?_, fun k hk => ?_, fun k hk => ?_, fun k hk => ?_, g3⟩, hisC_eq e1.2.1 (g1 _ _ _ (by simp)) (g1 _ _ _ (by simp)) (fun t i k i0 _ _ => g1 t i k (fun z => i0 z.2)), (g1 _ _ _ (by simp)).trans e1.2.2.1, (g1 _ _ _ (by simp)).trans e1.2.2.2.1, fun i hi => ?_⟩, fun t i k ht => (g1 t i k (fun z => by omega)).trans (q1 t i k ht)⟩
    · rw [Int.toNat_natCast, n5 _ hj]
    · rw [g1 _ _ _ (by simp)]; exact n1
    · rw [g1 _ _ _ (by simp)]; exact n2
    · rw [g1 _ _ _ (by simp)]; exact n3 k hk
    · rw [g1 _ _ _ (by simp)]; exact n4 k hk
    · rw [g2, n5 k hk]; rfl
    · rw [g1 _ _ _ (by simp), g1 _ _ _ (by simp), g1 _ _ _ (by simp)]
      exact e1.2.2.2.2 i hi
  · rw [mB_eq0, e.1.2.1] at c2
    rw [spPaint, if_neg (fun z => c2 z.2)]
    exact ⟨rfl, e, onlyC.rf⟩
theorem s_M_paint (h : mMem) (S : sS) (o : sOk S) (e : RM h S) (a b v : Int) : mCon l g n_M_paint (d + 3) [.inr (9, 0), .inl a, .inl b, .inl v] h (fun r h' => r = some (.inl (spPaint S a b v).1) ∧ RM h' (spPaint S a b v).2 ∧ onlyM h h') := by
  refine e_M_paint (fun hv hm => ?_)
  refine mGo_wp h_M_paint 60 [] ?_
  have hp := o.1.1.2
  have hc := o.1.2.1.2
  refine mCall_is (c_M_areTwo a b (nP S.1) (by omega) h e.1.1) ?_
  refine ⟨fun c => ?_, fun c => ?_⟩
  · rw [mB_eq0] at c
    rw [spPaint, if_neg (fun z => c z.1)]
    exact ⟨rfl, e, onlyM.rf⟩
  have c := mB_ne0.mp c
  refine mCall_is (c_M_isIn v (-1) _ h) ?_
  rw [e.1.2.1, mWr_of (x := (nC S.1 : Int) - 1) ⟨by omega, by omega⟩]
  refine ⟨fun c2 => ?_, fun c2 => ?_⟩
  · have c2 := mB_ne0.mp c2
    refine mCall_on2 (s_keep h S o e) ?_
    rintro r1 h1 ⟨rfl, e1, q1, -⟩
    obtain ⟨⟨a0, a1⟩, ⟨b0, b1⟩, ab⟩ := id c
    obtain ⟨a', rfl⟩ := Int.eq_ofNat_of_zero_le a0
    obtain ⟨b', rfl⟩ := Int.eq_ofNat_of_zero_le b0
    have hj := jn_lt a' (by omega) b' (by omega) (by omega)
    rw [spPaint, if_pos ⟨c, by omega⟩, Int.toNat_natCast, Int.toNat_natCast]
    refine mCall_is (c_M_join a' b' (by omega) (by omega) h1) ?_
    refine ⟨⟨by omega, by omega⟩, ?_⟩
    refine mCall_is (c_M_join a' b' (by omega) (by omega) h1) ?_
    refine ⟨⟨by omega, by omega⟩, ?_⟩
    obtain ⟨n1, n2, n3, n4, n5⟩ := id e1.1
    refine ⟨?_, ⟨⟨?_, ?_, fun k hk => ?_, fun k hk => ?_, fun k hk => ?_⟩, ⟨?_, e1.2.1.2.1, fun q M hM => isB_out (fun x _ _ => ?_) (e1.2.1.2.2 q M hM)⟩, ?_, ?_, fun i hi => ?_⟩, fun t i k ht => ?_⟩
    · rw [Int.toNat_natCast, n5 _ hj]
    · rw [mSet_no (by simp)]; exact n1
    · rw [mSet_no (by simp)]; exact n2
    · rw [mSet_no (by simp)]; exact n3 k hk
    · rw [mSet_no (by simp)]; exact n4 k hk
    · rw [Int.toNat_natCast]
      show (if 42 = 42 ∧ (0 : Fin 8) = 0 ∧ k = jn a' b' then v else h1 42 0 k) = (if k = jn a' b' then v else nT S.1 k)
      by_cases hq : k = jn a' b'
      · rw [if_pos ⟨rfl, rfl, hq⟩, if_pos hq]
      · rw [if_neg (fun z => hq z.2.2), if_neg hq]
        exact n5 k hk
    · rw [mSet_no (by simp)]; exact e1.2.1.1
    · rw [mSet_no (by simp)]
    · rw [mSet_no (by simp)]; exact e1.2.2.1
    · rw [mSet_no (by simp)]; exact e1.2.2.2.1
    · rw [mSet_no (by simp), mSet_no (by simp), mSet_no (by simp)]
      exact e1.2.2.2.2 i hi
    · rw [mSet_no (fun z => by omega)]
      exact q1 t i k ht
  · rw [mB_eq0] at c2
    rw [spPaint, if_neg (fun z => c2 (by omega))]
    exact ⟨rfl, e, onlyM.rf⟩
end Paint
