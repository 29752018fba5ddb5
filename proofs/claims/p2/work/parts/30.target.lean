theorem sz_tab : ∀ k : Nat, k < 6 → ∀ s : Int, ((mTab 100).getD k 0 ≤ s ∧ s ≤ (mTab 101).getD k 0) ↔ szOk k s := by
  intro k hk s
  rcases (show k = 0 ∨ k = 1 ∨ k = 2 ∨ k = 3 ∨ k = 4 ∨ k = 5 by omega) with rfl | rfl | rfl | rfl | rfl | rfl
  · show (0 ≤ s ∧ s ≤ 0) ↔ _
    unfold szOk
    omega
  · show (2 ≤ s ∧ s ≤ 6) ↔ _
    unfold szOk
    omega
  · show (3 ≤ s ∧ s ≤ 5) ↔ _
    unfold szOk
    omega
  · show (1 ≤ s ∧ s ≤ 6) ↔ _
    unfold szOk
    omega
  · show (1 ≤ s ∧ s ≤ 4) ↔ _
    unfold szOk
    omega
  · show (2 ≤ s ∧ s ≤ 5) ↔ _
    unfold szOk
    omega
noncomputable def spTarget (S : sS) (q k s : Int) : Int × sS := if (0 ≤ q ∧ q < nC S.1) ∧ (0 ≤ k ∧ k ≤ 5) ∧ szOk k s then (0, sTo S (nP S.1, nC S.1, tSet (nK S.1) q.toNat k, tSet (nS S.1) q.toNat s, nT S.1)) else (vBAD, S)
section Target
variable {l : Launch} {g : mG} {d : Nat}
theorem c_M_isSize (k s : Int) (hk : 0 ≤ k ∧ k ≤ 5) (h : mMem) : mCon l g n_M_isSize (d + 1) [.inl k, .inl s] h (mIs (some (.inl (mB (szOk k s)))) h) := by
  refine e_M_isSize (fun hv hm => ?_)
  refine mGo_wp h_M_isSize 60 [] ?_
  have fin : ∀ lo hi : Int, ((lo ≤ s ∧ s ≤ hi) ↔ szOk k s) → (some (Sum.inl (mB (lo ≤ s ∧ s ≤ hi))) : Option mRV) = some (.inl (mB (szOk k s))) := fun lo hi z => by rw [mB_congr z]
  refine ⟨⟨fun c => ⟨fun c2 => ⟨Or.inl rfl, ?_, rfl⟩, fun c2 => ⟨Or.inr rfl, ?_, rfl⟩⟩, fun c => ?_, fun c => ?_, fun c => ?_, fun c => ?_, trivial⟩, fun c => ?_⟩
  · rw [mB_f]
    unfold szOk
    omega
  · rw [mB_t]
    unfold szOk
    omega
  · refine mCall_is (c_M_isIn s 2 6 h) ⟨mB_01 _, fin 2 6 ?_, rfl⟩
    unfold szOk
    omega
  · refine mCall_is (c_M_isIn s 3 5 h) ⟨mB_01 _, fin 3 5 ?_, rfl⟩
    unfold szOk
    omega
  · refine mCall_is (c_M_isIn s 1 6 h) ⟨mB_01 _, fin 1 6 ?_, rfl⟩
    unfold szOk
    omega
  · refine mCall_is (c_M_isIn s 1 4 h) ⟨mB_01 _, fin 1 4 ?_, rfl⟩
    unfold szOk
    omega
  · refine mCall_is (c_M_isIn s 2 5 h) ⟨mB_01 _, fin 2 5 ?_, rfl⟩
    have c : k < 0 ∨ 0 + ((5 : Nat) : Int) ≤ k := c
    unfold szOk
    omega
theorem s_K_target (h : mMem) (S : sS) (o : sOk S) (e : RC h S) (q k s : Int) : mCon l g n_K_target (d + 4) [.inr (8, 0), .inl q, .inl k, .inl s] h (fun r h' => r = some (.inl (spTarget S q k s).1) ∧ RC h' (spTarget S q k s).2 ∧ onlyC h h') := by
  refine e_K_target (fun hv hm => ?_)
  refine mGo_wp h_K_target 60 [] ?_
  have hc := o.1.2.1.2
  have bad : ¬ ((0 ≤ q ∧ q < nC S.1) ∧ (0 ≤ k ∧ k ≤ 5) ∧ szOk k s) → ((some (Sum.inl vBAD) : Option mRV) = some (.inl (spTarget S q k s).1) ∧ RC h (spTarget S q k s).2 ∧ onlyC h h) := fun z => by
    rw [spTarget, if_neg z]
    exact ⟨rfl, e, onlyC.rf⟩
  refine mCall_is (c_Net_hasColour 0 q h) ?_
  refine ⟨fun c => ?_, fun c => ⟨fun c2 => bad (fun z => by omega), fun c2 => ⟨fun c3 => ?_, fun c3 => bad (fun z => by omega)⟩⟩⟩
  · rw [mB_eq0, e.1.2.1] at c
    exact bad (fun z => c z.1)
  · have c := mB_ne0.mp c
    rw [e.1.2.1] at c
    obtain ⟨k', rfl⟩ := Int.eq_ofNat_of_zero_le c2
    have sz := sz_tab k' (by omega) s
    refine ⟨⟨by omega, by omega⟩, ⟨fun c4 => bad (fun z => ?_), fun c4 => ⟨⟨by omega, by omega⟩, ⟨fun c5 => ?_, fun c5 => bad (fun z => ?_)⟩⟩⟩⟩
    · rw [Int.toNat_natCast] at c4
      have := sz.mpr z.2.2
      omega
    · rw [Int.toNat_natCast] at c4 c5
      refine mCall_on2 (s_remember h S o e) ?_
      rintro r1 h1 ⟨rfl, e1, q1⟩
      refine ⟨⟨by omega, by omega⟩, ⟨by omega, by omega⟩, ?_⟩
      rw [spTarget, if_pos ⟨c, ⟨c2, c3⟩, sz.mp ⟨c4, c5⟩⟩]
      obtain ⟨n1, n2, n3, n4, n5, n6⟩ := id e1.1
      refine ⟨rfl, ⟨⟨?_, ?_, fun x hx => ?_, fun x hx => ?_, fun x hx => ?_, fun y hy x hx => ?_⟩, hisC_eq e1.2.1 ?_ ?_ (fun t i x i0 _ _ => ?_), ?_, ?_, fun i hi => ?_⟩, fun t i x ht => ?_⟩
      · rw [mSet_no (by simp), mSet_no (by simp)]; exact n1
      · rw [mSet_no (by simp), mSet_no (by simp)]; exact n2
      · rw [mSet_no (by simp)]
        show (if 20 = 20 ∧ (0 : Fin 8) = 0 ∧ x = q.toNat then (k' : Int) else h1 20 0 x) = (if x = q.toNat then (k' : Int) else nK S.1 x)
        by_cases hq : x = q.toNat
        · rw [if_pos ⟨rfl, rfl, hq⟩, if_pos hq]
        · rw [if_neg (fun z => hq z.2.2), if_neg hq]
          exact n3 x hx
      · show (if 21 = 21 ∧ (0 : Fin 8) = 0 ∧ x = q.toNat then s else mSet h1 20 0 q.toNat k' 21 0 x) = (if x = q.toNat then s else nS S.1 x)
        by_cases hq : x = q.toNat
        · rw [if_pos ⟨rfl, rfl, hq⟩, if_pos hq]
        · rw [if_neg (fun z => hq z.2.2), if_neg hq, mSet_no (by simp)]
          exact n4 x hx
      · rw [mSet_no (by simp), mSet_no (by simp)]; exact n5 x hx
      · rw [mSet_no (by simp), mSet_no (by simp)]; exact n6 y hy x hx
      · rw [mSet_no (by simp), mSet_no (by simp)]
      · rw [mSet_no (by simp), mSet_no (by simp)]
      · rw [mSet_no (fun z => i0 z.2.1), mSet_no (fun z => i0 z.2.1)]
      · rw [mSet_no (by simp), mSet_no (by simp)]; exact e1.2.2.1
      · rw [mSet_no (by simp), mSet_no (by simp)]; exact e1.2.2.2.1
      · rw [mSet_no (by simp), mSet_no (by simp), mSet_no (by simp), mSet_no (by simp), mSet_no (by simp), mSet_no (by simp)]
        exact e1.2.2.2.2 i hi
      · rw [mSet_no (fun z => by omega), mSet_no (fun z => by omega)]
        exact q1 t i x ht
    · rw [Int.toNat_natCast] at c5
      have := sz.mpr z.2.2
      omega
theorem s_M_target (h : mMem) (S : sS) (o : sOk S) (e : RM h S) (q k s : Int) : mCon l g n_M_target (d + 3) [.inr (9, 0), .inl q, .inl k, .inl s] h (fun r h' => r = some (.inl (spTarget S q k s).1) ∧ RM h' (spTarget S q k s).2 ∧ onlyM h h') := by
  refine e_M_target (fun hv hm => ?_)
  refine mGo_wp h_M_target 60 [] ?_
  have hc := o.1.2.1.2
  have bad : ¬ ((0 ≤ q ∧ q < nC S.1) ∧ (0 ≤ k ∧ k ≤ 5) ∧ szOk k s) → ((some (Sum.inl vBAD) : Option mRV) = some (.inl (spTarget S q k s).1) ∧ RM h (spTarget S q k s).2 ∧ onlyM h h) := fun z => by
    rw [spTarget, if_neg z]
    exact ⟨rfl, e, onlyM.rf⟩
  refine mCall_is (c_M_isColour q (nC S.1) (by omega) h e.1.2.1) ?_
  refine ⟨fun c => bad (fun z => mB_eq0.mp c z.1), fun c => ?_⟩
  have c := mB_ne0.mp c
  refine mCall_is (c_M_isIn k 0 5 h) ?_
  refine ⟨fun c2 => bad (fun z => mB_eq0.mp c2 z.2.1), fun c2 => ?_⟩
  have c2 := mB_ne0.mp c2
  refine mCall_is (c_M_isSize k s c2 h) ?_
  refine ⟨fun c3 => ?_, fun c3 => bad (fun z => mB_eq0.mp c3 z.2.2)⟩
  have c3 := mB_ne0.mp c3
  refine mCall_on2 (s_keep h S o e) ?_
  rintro r1 h1 ⟨rfl, e1, q1, -⟩
  refine ⟨⟨by omega, by omega⟩, ⟨by omega, by omega⟩, ?_⟩
  rw [spTarget, if_pos ⟨c, c2, c3⟩]
  obtain ⟨n1, n2, n3, n4, n5⟩ := id e1.1
  refine ⟨rfl, ⟨⟨?_, ?_, fun x hx => ?_, fun x hx => ?_, fun x hx => ?_⟩, ⟨?_, e1.2.1.2.1, fun y M hM => isB_out (fun x _ _ => ?_) (e1.2.1.2.2 y M hM)⟩, ?_, ?_, fun i hi => ?_⟩, fun t i x ht => ?_⟩
  · rw [mSet_no (by simp), mSet_no (by simp)]; exact n1
  · rw [mSet_no (by simp), mSet_no (by simp)]; exact n2
  · rw [mSet_no (by simp)]
    show (if 40 = 40 ∧ (0 : Fin 8) = 0 ∧ x = q.toNat then k else h1 40 0 x) = (if x = q.toNat then k else nK S.1 x)
    by_cases hq : x = q.toNat
    · rw [if_pos ⟨rfl, rfl, hq⟩, if_pos hq]
    · rw [if_neg (fun z => hq z.2.2), if_neg hq]
      exact n3 x hx
  · show (if 41 = 41 ∧ (0 : Fin 8) = 0 ∧ x = q.toNat then s else mSet h1 40 0 q.toNat k 41 0 x) = (if x = q.toNat then s else nS S.1 x)
    by_cases hq : x = q.toNat
    · rw [if_pos ⟨rfl, rfl, hq⟩, if_pos hq]
    · rw [if_neg (fun z => hq z.2.2), if_neg hq, mSet_no (by simp)]
      exact n4 x hx
  · rw [mSet_no (by simp), mSet_no (by simp)]; exact n5 x hx
  · rw [mSet_no (by simp), mSet_no (by simp)]; exact e1.2.1.1
  · rw [mSet_no (by simp), mSet_no (by simp)]
  · rw [mSet_no (by simp), mSet_no (by simp)]; exact e1.2.2.1
  · rw [mSet_no (by simp), mSet_no (by simp)]; exact e1.2.2.2.1
  · rw [mSet_no (by simp), mSet_no (by simp), mSet_no (by simp), mSet_no (by simp), mSet_no (by simp), mSet_no (by simp)]
    exact e1.2.2.2.2 i hi
  · rw [mSet_no (fun z => by omega), mSet_no (fun z => by omega)]
    exact q1 t i x ht
end Target
