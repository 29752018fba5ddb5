theorem least_calc : ∀ n : Nat, n < 13 → 1 ≤ n → mWr (mDiv (mWr (mWr ((n : Int) * mWr ((n : Int) - 1)) * mWr ((n : Int) - 2))) 6 - mDiv (mWr (mWr ((n : Int) * mDiv (mWr ((n : Int) - 1)) 2) * mWr (mWr ((n : Int) - 1) - mDiv (mWr ((n : Int) - 1)) 2))) 2) = (n * (n - 1) * (n - 2) / 6 - n * ((n - 1) / 2) * (n - 1 - (n - 1) / 2) / 2 : Int) := by decide +kernel
def spLeast (n : Int) : Int := if 1 ≤ n ∧ n ≤ 12 then (n * (n - 1) * (n - 2) / 6 - n * ((n - 1) / 2) * (n - 1 - (n - 1) / 2) / 2 : Int) else vBAD
section Reads
variable {l : Launch} {g : mG} {d : Nat}
theorem c_K_least (n : Int) (h : mMem) : mCon l g n_K_least d [.inr (8, 0), .inl n] h (mIs (some (.inl (spLeast n))) h) := by
  refine e_K_least (fun hv hm => ?_)
  refine mGo_wp h_K_least 60 [] ?_
  refine ⟨fun c => ?_, fun c => ⟨fun c2 => ?_, fun c2 => ?_⟩⟩
  · exact ⟨by rw [spLeast, if_neg (by omega)], rfl⟩
  · refine ⟨by decide, by decide, by decide, ?_, rfl⟩
    obtain ⟨n', rfl⟩ := Int.eq_ofNat_of_zero_le (show 0 ≤ n by omega)
    rw [least_calc n' (by omega) (by omega), spLeast, if_pos ⟨c, c2⟩]
  · exact ⟨by rw [spLeast, if_neg (by omega)], rfl⟩
theorem c_M_least (n : Int) (h : mMem) : mCon l g n_M_least (d + 1) [.inr (9, 0), .inl n] h (mIs (some (.inl (spLeast n))) h) := by
  refine e_M_least (fun hv hm => ?_)
  refine mGo_wp h_M_least 60 [] ?_
  refine mCall_is (c_M_isIn n 1 12 h) ?_
  refine ⟨fun c => ?_, fun c => ?_⟩
  · have c := mB_ne0.mp c
    refine ⟨by decide, by decide, by decide, ?_, rfl⟩
    obtain ⟨n', rfl⟩ := Int.eq_ofNat_of_zero_le (show 0 ≤ n by omega)
    rw [least_calc n' (by omega) (by omega), spLeast, if_pos c]
  · rw [mB_eq0] at c
    exact ⟨by rw [spLeast, if_neg c], rfl⟩
theorem c_K_tries (h : mMem) : mCon l g n_K_tries d [.inr (8, 0)] h (mIs (some (.inl (h 8 0 7))) h) := by
  refine e_K_tries (fun hv hm => ?_)
  refine mGo_wp h_K_tries 60 [] ?_
  exact ⟨rfl, rfl⟩
theorem c_M_tries (h : mMem) : mCon l g n_M_tries d [.inr (9, 0)] h (mIs (some (.inl (h 9 0 38))) h) := by
  refine e_M_tries (fun hv hm => ?_)
  refine mGo_wp h_M_tries 60 [] ?_
  exact ⟨rfl, rfl⟩
theorem c_M_isOf (q k : Int) (N : nN) (h : mMem) (o : nOk N) (e : isM h N) : mCon l g n_M_isOf (d + 2) [.inr (9, 0), .inl q, .inl k] h (mIs (some (.inl (spIsOf N q k))) h) := by
  refine e_M_isOf (fun hv hm => ?_)
  refine mGo_wp h_M_isOf 60 [] ?_
  have hc := o.2.1.2
  refine mCall_is (c_M_isColour q (nC N) (by omega) h e.2.1) ?_
  refine ⟨fun c => ?_, fun c => ?_⟩
  · rw [mB_eq0] at c
    exact ⟨by rw [spIsOf, if_neg (fun z => c z.1)], rfl⟩
  · have c := mB_ne0.mp c
    refine mCall_is (c_M_isIn k 0 6 h) ?_
    refine ⟨fun c2 => ?_, fun c2 => ?_⟩
    · have c2 := mB_ne0.mp c2
      refine ⟨⟨by omega, by omega⟩, ?_⟩
      have ek := e.2.2.1 q.toNat (by omega)
      refine ⟨fun c4 => ?_, fun c4 => ⟨fun c5 => ?_, fun c5 => ⟨fun c6 => ?_, fun c6 => ⟨fun c7 => ?_, fun c7 => ?_⟩⟩⟩⟩
      · rw [ek] at c4
        exact ⟨by rw [spIsOf, if_pos ⟨c, c2⟩, if_pos (Or.inl c4)], rfl⟩
      · rw [ek] at c4
        exact ⟨by rw [spIsOf, if_pos ⟨c, c2⟩, if_neg (fun z => z.elim c4 (fun y => c5 y.1))], rfl⟩
      · rw [ek] at c6
        exact ⟨by rw [spIsOf, if_pos ⟨c, c2⟩, if_pos (Or.inr ⟨c5, Or.inl c6⟩)], rfl⟩
      · rw [ek] at c4 c6 c7
        exact ⟨by rw [spIsOf, if_pos ⟨c, c2⟩, if_neg (fun z => z.elim c4 (fun y => y.2.elim c6 c7))], rfl⟩
      · rw [ek] at c7
        exact ⟨by rw [spIsOf, if_pos ⟨c, c2⟩, if_pos (Or.inr ⟨c5, Or.inr c7⟩)], rfl⟩
    · rw [mB_eq0] at c2
      exact ⟨by rw [spIsOf, if_neg (fun z => c2 z.2)], rfl⟩
theorem c_K_isOf (q k : Int) (N : nN) (h : mMem) (o : nOk N) (e : isC h 0 N) : mCon l g n_K_isOf (d + 1) [.inr (8, 0), .inl q, .inl k] h (mIs (some (.inl (spIsOf N q k))) h) := by
  refine e_K_isOf (fun hv hm => ?_)
  refine mGo_wp h_K_isOf 60 [] ?_
  have hc := o.2.1.2
  refine mCall_is (c_Net_hasColour 0 q h) ?_
  refine ⟨fun c => ?_, fun c => ⟨fun c2 => ?_, fun c2 => ⟨fun c3 => ?_, fun c3 => ?_⟩⟩⟩
  · rw [mB_eq0, e.2.1] at c
    exact ⟨by rw [spIsOf, if_neg (fun z => c z.1)], rfl⟩
  · exact ⟨by rw [spIsOf, if_neg (fun z => by omega)], rfl⟩
  · have c := mB_ne0.mp c
    rw [e.2.1] at c
    have ek := e.2.2.1 q.toNat (by omega)
    have ok : (nK N q.toNat ≤ 5) := by
      have := o.2.2.1 q.toNat (by omega)
      unfold szOk at this
      omega
    refine ⟨⟨by omega, by omega⟩, ?_⟩
    refine ⟨fun c4 => ⟨fun c5 => ?_, fun c5 => ?_⟩, fun c4 => ⟨fun c5 => ?_, fun c5 => ⟨fun c6 => ?_, fun c6 => ?_⟩⟩⟩
    · rw [ek] at c5
      exact ⟨fun _ => ⟨by rw [spIsOf, if_pos ⟨c, c2, c3⟩, if_neg (fun z => z.elim c5 (fun y => c4 y.1))], rfl⟩, fun z => absurd rfl z⟩
    · rw [ek] at c5
      exact ⟨fun z => absurd z (by decide), fun _ => ⟨by rw [spIsOf, if_pos ⟨c, c2, c3⟩, if_pos (Or.inl c5)], rfl⟩⟩
    · rw [ek] at c5
      exact ⟨fun z => absurd z (by decide), fun _ => ⟨by rw [spIsOf, if_pos ⟨c, c2, c3⟩, if_pos (Or.inr ⟨c4, Or.inl c5⟩)], rfl⟩⟩
    · rw [ek] at c5 c6
      exact ⟨fun _ => ⟨by rw [spIsOf, if_pos ⟨c, c2, c3⟩, if_neg (fun z => z.elim (fun y => by omega) (fun y => y.2.elim c5 c6))], rfl⟩, fun z => absurd rfl z⟩
    · rw [ek] at c6
      exact ⟨fun z => absurd z (by decide), fun _ => ⟨by rw [spIsOf, if_pos ⟨c, c2, c3⟩, if_pos (Or.inr ⟨c4, Or.inr c6⟩)], rfl⟩⟩
  · exact ⟨by rw [spIsOf, if_neg (fun z => by omega)], rfl⟩
end Reads
