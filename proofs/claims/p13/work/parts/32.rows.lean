abbrev pN (S : sS) : Nat := S.2.2.2.1
abbrev pJ (S : sS) : Nat → Int := S.2.2.2.2.1
abbrev pC (S : sS) : Nat → Int := S.2.2.2.2.2.1
abbrev pB (S : sS) : Nat → Int := S.2.2.2.2.2.2
noncomputable def spRow (S : sS) (i w : Int) : Int := if pN S = 0 then vNO else if (0 ≤ i ∧ i < pN S) ∧ (0 ≤ w ∧ w ≤ 2) then (if w = 0 then pJ S i.toNat else if w = 1 then pC S i.toNat else pB S i.toNat) else vBAD
noncomputable def spForge (S : sS) (i p : Int) : Int × sS := if pN S = 0 then (vNO, S) else if (0 ≤ i ∧ i < pN S) ∧ (0 ≤ p ∧ p ≤ 4095) then (pB S i.toNat, (S.1, S.2.1, S.2.2.1, pN S, pJ S, pC S, tSet (pB S) i.toNat p)) else (vBAD, S)
section Rows
variable {l : Launch} {g : mG} {d : Nat}
theorem s_K_row (h : mMem) (S : sS) (o : sOk S) (e : RC h S) (i w : Int) : mCon l g n_K_row d [.inr (8, 0), .inl i, .inl w] h (mIs (some (.inl (spRow S i w))) h) := by
  refine e_K_row (fun hv hm => ?_)
  refine mGo_wp h_K_row 60 [] ?_
  have hz : h 6 0 3 = (pN S : Int) := e.2.2.2.1
  have hs : pN S ≤ 500 := o.2.2.2
  have hr := e.2.2.2.2
  refine ⟨fun c => ?_, fun c => ⟨by rw [spRow, if_pos (by omega)], rfl⟩⟩
  rw [hz] at c
  have bad : ¬ ((0 ≤ i ∧ i < pN S) ∧ (0 ≤ w ∧ w ≤ 2)) → ((some (Sum.inl vBAD) : Option mRV) = some (.inl (spRow S i w)) ∧ h = h) := fun z => ⟨by rw [spRow, if_neg (by omega), if_neg z], rfl⟩
  refine ⟨fun c1 => bad (by omega), fun c1 => ⟨fun c2 => ?_, fun c2 => ⟨fun c3 => bad (by omega), fun c3 => ⟨fun c4 => ?_, fun c4 => bad (by omega)⟩⟩⟩⟩
  · rw [hz] at c2
    exact bad (by omega)
  · rw [hz] at c2
    obtain ⟨r1, r2, r3⟩ := hr i.toNat (by omega)
    refine ⟨fun c5 => ⟨fun c6 => ⟨⟨by omega, by omega⟩, ?_, rfl⟩, fun c6 => ⟨⟨by omega, by omega⟩, ?_, rfl⟩⟩, fun c5 => ⟨⟨by omega, by omega⟩, ?_, rfl⟩⟩
    · rw [spRow, if_neg (by omega), if_pos ⟨⟨c1, c2⟩, ⟨c3, c4⟩⟩, if_neg c5, if_neg c6, r3]
    · rw [spRow, if_neg (by omega), if_pos ⟨⟨c1, c2⟩, ⟨c3, c4⟩⟩, if_neg c5, if_pos c6, r2]
    · rw [spRow, if_neg (by omega), if_pos ⟨⟨c1, c2⟩, ⟨c3, c4⟩⟩, if_pos c5, r1]
theorem s_M_row (h : mMem) (S : sS) (o : sOk S) (e : RM h S) (i w : Int) : mCon l g n_M_row (d + 1) [.inr (9, 0), .inl i, .inl w] h (mIs (some (.inl (spRow S i w))) h) := by
  refine e_M_row (fun hv hm => ?_)
  refine mGo_wp h_M_row 60 [] ?_
  have hz : h 9 0 43 = (pN S : Int) := e.2.2.2.1
  have hs : pN S ≤ 500 := o.2.2.2
  have hr := e.2.2.2.2
  refine ⟨fun c => ?_, fun c => ⟨by rw [spRow, if_pos (by omega)], rfl⟩⟩
  rw [hz] at c
  have bad : ¬ ((0 ≤ i ∧ i < pN S) ∧ (0 ≤ w ∧ w ≤ 2)) → ((some (Sum.inl vBAD) : Option mRV) = some (.inl (spRow S i w)) ∧ h = h) := fun z => ⟨by rw [spRow, if_neg (by omega), if_neg z], rfl⟩
  have w0 : mWr (h 9 0 43 - 1) = (pN S : Int) - 1 := by rw [hz, mWr_of ⟨by omega, by omega⟩]
  refine mCall_is (c_M_isIn i 0 _ h) ?_
  refine ⟨fun c1 => bad (fun z => mB_eq0.mp c1 (by rw [w0]; omega)), fun c1 => ?_⟩
  have c1 := mB_ne0.mp c1
  rw [w0] at c1
  refine mCall_is (c_M_isIn w 0 2 h) ?_
  refine ⟨fun c2 => bad (fun z => mB_eq0.mp c2 z.2), fun c2 => ?_⟩
  have c2 := mB_ne0.mp c2
  obtain ⟨i', rfl⟩ := Int.eq_ofNat_of_zero_le c1.1
  obtain ⟨w', rfl⟩ := Int.eq_ofNat_of_zero_le c2.1
  obtain ⟨r1, r2, r3⟩ := hr i' (by omega)
  have w1 : mWr (mWr (3 * (i' : Int)) + (w' : Int)) = ((3 * i' + w' : Nat) : Int) := by
    rw [mWr_of (x := 3 * (i' : Int)) ⟨by omega, by omega⟩, mWr_of ⟨by omega, by omega⟩]
    omega
  refine ⟨⟨by rw [w1]; omega, by rw [w1]; omega⟩, ?_, rfl⟩
  rw [w1, Int.toNat_natCast, spRow, if_neg (by omega), if_pos ⟨⟨by omega, by omega⟩, c2⟩, Int.toNat_natCast]
  rcases (show w' = 0 ∨ w' = 1 ∨ w' = 2 by omega) with rfl | rfl | rfl
  · rw [if_pos (by decide), Nat.add_zero, r1]
  · rw [if_neg (by decide), if_pos (by decide), r2]
  · rw [if_neg (by decide), if_neg (by decide), r3]
theorem s_K_forge (h : mMem) (S : sS) (o : sOk S) (e : RC h S) (i p : Int) : mCon l g n_K_forge d [.inr (8, 0), .inl i, .inl p] h (fun r h' => r = some (.inl (spForge S i p).1) ∧ RC h' (spForge S i p).2 ∧ onlyC h h') := by
  refine e_K_forge (fun hv hm => ?_)
  refine mGo_wp h_K_forge 60 [] ?_
  have hz : h 6 0 3 = (pN S : Int) := e.2.2.2.1
  have hs : pN S ≤ 500 := o.2.2.2
  have hr := e.2.2.2.2
  refine ⟨fun c => ?_, fun c => by rw [spForge, if_pos (by omega)]; exact ⟨rfl, e, onlyC.rf⟩⟩
  rw [hz] at c
  have bad : ¬ ((0 ≤ i ∧ i < pN S) ∧ (0 ≤ p ∧ p ≤ 4095)) → ((some (Sum.inl vBAD) : Option mRV) = some (.inl (spForge S i p).1) ∧ RC h (spForge S i p).2 ∧ onlyC h h) := fun z => by
    rw [spForge, if_neg (by omega), if_neg z]
    exact ⟨rfl, e, onlyC.rf⟩
  refine ⟨fun c1 => bad (by omega), fun c1 => ⟨fun c2 => ?_, fun c2 => ⟨fun c3 => bad (by omega), fun c3 => ⟨fun c4 => ?_, fun c4 => bad (by omega)⟩⟩⟩⟩
  · rw [hz] at c2
    exact bad (by omega)
  · rw [hz] at c2
    refine ⟨⟨by omega, by omega⟩, ⟨by omega, by omega⟩, ?_⟩
    rw [spForge, if_neg (by omega), if_pos ⟨⟨c1, c2⟩, ⟨c3, c4⟩⟩]
    refine ⟨?_, ⟨isC_set (by decide) e.1, hisC_eq e.2.1 ?_ ?_ (fun t a k _ _ ht => ?_), ?_, ?_, fun x hx => ?_⟩, fun t a k ht => ?_⟩
    · rw [(hr i.toNat (by omega)).2.2]
    · rw [mSet_no (by simp)]
    · rw [mSet_no (by simp)]
    · rw [mSet_no (fun z => by omega)]
    · rw [mSet_no (by simp)]; exact e.2.2.1
    · rw [mSet_no (by simp)]; exact hz
    · refine ⟨?_, ?_, ?_⟩
      · rw [mSet_no (by simp)]; exact (hr x hx).1
      · rw [mSet_no (by simp)]; exact (hr x hx).2.1
      · show (if 33 = 33 ∧ (0 : Fin 8) = 0 ∧ x = i.toNat then p else h 33 0 x) = (if x = i.toNat then p else pB S x)
        by_cases hq : x = i.toNat
        · rw [if_pos ⟨rfl, rfl, hq⟩, if_pos hq]
        · rw [if_neg (fun z => hq z.2.2), if_neg hq]
          exact (hr x hx).2.2
    · rw [mSet_no (fun z => by omega)]
theorem s_M_forge (h : mMem) (S : sS) (o : sOk S) (e : RM h S) (i p : Int) : mCon l g n_M_forge (d + 1) [.inr (9, 0), .inl i, .inl p] h (fun r h' => r = some (.inl (spForge S i p).1) ∧ RM h' (spForge S i p).2 ∧ onlyM h h') := by
  refine e_M_forge (fun hv hm => ?_)
  refine mGo_wp h_M_forge 60 [] ?_
  have hz : h 9 0 43 = (pN S : Int) := e.2.2.2.1
  have hs : pN S ≤ 500 := o.2.2.2
  have hr := e.2.2.2.2
  refine ⟨fun c => ?_, fun c => by rw [spForge, if_pos (by omega)]; exact ⟨rfl, e, onlyM.rf⟩⟩
  rw [hz] at c
  have bad : ¬ ((0 ≤ i ∧ i < pN S) ∧ (0 ≤ p ∧ p ≤ 4095)) → ((some (Sum.inl vBAD) : Option mRV) = some (.inl (spForge S i p).1) ∧ RM h (spForge S i p).2 ∧ onlyM h h) := fun z => by
    rw [spForge, if_neg (by omega), if_neg z]
    exact ⟨rfl, e, onlyM.rf⟩
  have w0 : mWr (h 9 0 43 - 1) = (pN S : Int) - 1 := by rw [hz, mWr_of ⟨by omega, by omega⟩]
  refine mCall_is (c_M_isIn i 0 _ h) ?_
  refine ⟨fun c1 => bad (fun z => mB_eq0.mp c1 (by rw [w0]; omega)), fun c1 => ?_⟩
  have c1 := mB_ne0.mp c1
  rw [w0] at c1
  refine mCall_is (c_M_isIn p 0 4095 h) ?_
  refine ⟨fun c2 => ?_, fun c2 => bad (fun z => mB_eq0.mp c2 z.2)⟩
  have c2 := mB_ne0.mp c2
  obtain ⟨i', rfl⟩ := Int.eq_ofNat_of_zero_le c1.1
  have w1 : mWr (mWr (3 * (i' : Int)) + 2) = ((3 * i' + 2 : Nat) : Int) := by
    rw [mWr_of (x := 3 * (i' : Int)) ⟨by omega, by omega⟩, mWr_of ⟨by omega, by omega⟩]
    omega
  refine ⟨⟨by rw [w1]; omega, by rw [w1]; omega⟩, ⟨by rw [w1]; omega, by rw [w1]; omega⟩, ?_⟩
  rw [w1, Int.toNat_natCast, spForge, if_neg (by omega), if_pos ⟨⟨by omega, by omega⟩, c2⟩, Int.toNat_natCast]
  refine ⟨?_, ⟨isM_of e.1 ?_ ?_ (fun k => ?_) (fun k => ?_) (fun k => ?_), ⟨?_, e.2.1.2.1, fun q M hM => isB_out (fun x _ _ => ?_) (e.2.1.2.2 q M hM)⟩, ?_, ?_, fun x hx => ?_⟩, fun t a k ht => ?_⟩
  · rw [(hr i' (by omega)).2.2]
  · rw [mSet_no (by simp)]
  · rw [mSet_no (by simp)]
  · rw [mSet_no (by simp)]
  · rw [mSet_no (by simp)]
  · rw [mSet_no (by simp)]
  · rw [mSet_no (by simp)]; exact e.2.1.1
  · rw [mSet_no (by simp)]
  · rw [mSet_no (by simp)]; exact e.2.2.1
  · rw [mSet_no (by simp)]; exact hz
  · refine ⟨?_, ?_, ?_⟩
    · rw [mSet_no (fun z => absurd z.2.2 (by omega))]; exact (hr x hx).1
    · rw [mSet_no (fun z => absurd z.2.2 (by omega))]; exact (hr x hx).2.1
    · show (if 55 = 55 ∧ (0 : Fin 8) = 0 ∧ 3 * x + 2 = 3 * i' + 2 then p else h 55 0 (3 * x + 2)) = (if x = i' then p else pB S x)
      by_cases hq : x = i'
      · rw [if_pos ⟨rfl, rfl, by omega⟩, if_pos hq]
      · rw [if_neg (fun z => absurd z.2.2 (by omega)), if_neg hq]
        exact (hr x hx).2.2
  · rw [mSet_no (fun z => by omega)]
end Rows
