abbrev dgF (N : nN) (q : Nat) (c : Int) : Nat → Bool := fun r => decide (r ≠ q ∧ nT N (jn q r) = c)
noncomputable def spDegree (N : nN) (q c : Int) : Int := if (0 ≤ q ∧ q < nP N) ∧ (c = -1 ∨ (0 ≤ c ∧ c < nC N)) then (cn (dgF N q.toNat c) (nP N) : Nat) else vBAD
section Deg
variable {l : Launch} {g : mG} {d : Nat}
theorem l_K_degree (N : nN) (h : mMem) (o : nOk N) (e : isC h 0 N) (q : Nat) (hq : q < nP N) (c : Int) : ∀ (n k : Nat), k + n = nP N → mGo l g (mMt n_K_degree) (d + 2) 30 [some (.inr (8, 0)), some (.inl q), some (.inl c), some (.inl (cn (dgF N q c) k : Nat)), some (.inl k)] [] h (mIs (some (.inl (cn (dgF N q c) (nP N) : Nat))) h) := by
  have hp := o.1.2
  intro n
  induction n with
  | zero =>
    intro k hk
    refine mGo_wp h_K_degree 60 [30] ?_
    refine ⟨fun z => ⟨?_, rfl⟩, fun z => ?_⟩
    · have : k = nP N := by omega
      rw [this]
    · rw [e.1] at z
      omega
  | succ n ih =>
    intro k hk
    have hc := cn_le (dgF N q c) k
    have qi := ih (k + 1) (by omega)
    refine mGo_wp h_K_degree 60 [30] ?_
    refine ⟨fun z => ?_, fun z => ⟨fun z2 => ?_, fun z2 => ?_⟩⟩
    · rw [e.1] at z
      omega
    · rw [cn_f (by simp; omega)] at qi
      show mGo l g _ _ 30 [_, _, _, _, some (.inl (mWr ((k : Int) + 1)))] [] _ _
      rw [mWr_of ⟨by omega, by omega⟩]
      exact qi
    · have hj := jn_lt q (by omega) k (by omega) (by omega)
      refine mCall_is (c_K_numberOf q k (by omega) (by omega) h) ?_
      refine ⟨⟨by omega, by omega⟩, ⟨fun z3 => ?_, fun z3 => ?_⟩⟩
      · rw [Int.toNat_natCast, e.2.2.2.2.1 _ hj] at z3
        rw [cn_f (by simp; intro _; exact z3)] at qi
        show mGo l g _ _ 30 [_, _, _, _, some (.inl (mWr ((k : Int) + 1)))] [] _ _
        rw [mWr_of ⟨by omega, by omega⟩]
        exact qi
      · rw [Int.toNat_natCast, e.2.2.2.2.1 _ hj] at z3
        rw [cn_t (by simp; exact ⟨by omega, z3⟩)] at qi
        show mGo l g _ _ 30 [_, _, _, some (.inl (mWr (((cn (dgF N q c) k : Nat) : Int) + 1))), some (.inl (mWr ((k : Int) + 1)))] [] _ _
        rw [mWr_of ⟨by omega, by omega⟩, mWr_of ⟨by omega, by omega⟩]
        exact qi
theorem c_K_degree (q c : Int) (N : nN) (h : mMem) (o : nOk N) (e : isC h 0 N) : mCon l g n_K_degree (d + 2) [.inr (8, 0), .inl q, .inl c] h (mIs (some (.inl (spDegree N q c))) h) := by
  refine e_K_degree (fun hv hm => ?_)
  refine mGo_wp h_K_degree 60 [30] ?_
  have bad : ¬ ((0 ≤ q ∧ q < nP N) ∧ (c = -1 ∨ (0 ≤ c ∧ c < nC N))) → ((some (Sum.inl vBAD) : Option mRV) = some (.inl (spDegree N q c)) ∧ h = h) := fun z => ⟨by rw [spDegree, if_neg z], rfl⟩
  refine mCall_is (c_Net_hasPoint 0 q h) ?_
  rw [e.1]
  refine ⟨fun c1 => bad (fun z => mB_eq0.mp c1 z.1), fun c1 => ?_⟩
  have c1 := mB_ne0.mp c1
  refine mCall_is (c_Net_hasColourOrBare 0 c h) ?_
  rw [e.2.1]
  refine ⟨fun c2 => ?_, fun c2 => bad (fun z => mB_eq0.mp c2 z.2)⟩
  have c2 := mB_ne0.mp c2
  obtain ⟨q', rfl⟩ := Int.eq_ofNat_of_zero_le c1.1
  rw [spDegree, if_pos ⟨c1, c2⟩, Int.toNat_natCast]
  exact l_K_degree N h o e q' (by omega) c (nP N) 0 (by omega)
theorem l_M_degree (N : nN) (h : mMem) (o : nOk N) (e : isM h N) (q : Nat) (hq : q < nP N) (c : Int) : ∀ (n k : Nat), k + n = nP N → mGo l g (mMt n_M_degree) (d + 2) 30 [some (.inr (9, 0)), some (.inl q), some (.inl c), some (.inl (cn (dgF N q c) k : Nat)), some (.inl k)] [] h (mIs (some (.inl (cn (dgF N q c) (nP N) : Nat))) h) := by
  have hp := o.1.2
  intro n
  induction n with
  | zero =>
    intro k hk
    refine mGo_wp h_M_degree 60 [30] ?_
    refine ⟨fun z => ⟨?_, rfl⟩, fun z => ?_⟩
    · have : k = nP N := by omega
      rw [this]
    · rw [e.1] at z
      omega
  | succ n ih =>
    intro k hk
    have hc := cn_le (dgF N q c) k
    have qi := ih (k + 1) (by omega)
    refine mGo_wp h_M_degree 60 [30] ?_
    refine ⟨fun z => ?_, fun z => ⟨fun z2 => ?_, fun z2 => ?_⟩⟩
    · rw [e.1] at z
      omega
    · rw [cn_f (by simp; omega)] at qi
      show mGo l g _ _ 30 [_, _, _, some (.inl (mWr (((cn (dgF N q c) k : Nat) : Int) + 0))), some (.inl (mWr ((k : Int) + 1)))] [] _ _
      rw [mWr_of ⟨by omega, by omega⟩, mWr_of ⟨by omega, by omega⟩]
      exact qi
    · have hj := jn_lt k (by omega) q (by omega) (by omega)
      refine mCall_is (c_M_join k q (by omega) (by omega) h) ?_
      refine ⟨⟨by omega, by omega⟩, ⟨fun z3 => ?_, fun z3 => ?_⟩⟩
      · rw [Int.toNat_natCast, e.2.2.2.2 _ hj, jn_comm k (by omega) q (by omega)] at z3
        rw [cn_f (by simp; intro _; exact z3)] at qi
        show mGo l g _ _ 30 [_, _, _, some (.inl (mWr (((cn (dgF N q c) k : Nat) : Int) + 0))), some (.inl (mWr ((k : Int) + 1)))] [] _ _
        rw [mWr_of ⟨by omega, by omega⟩, mWr_of ⟨by omega, by omega⟩]
        exact qi
      · rw [Int.toNat_natCast, e.2.2.2.2 _ hj, jn_comm k (by omega) q (by omega)] at z3
        rw [cn_t (by simp; exact ⟨by omega, z3⟩)] at qi
        show mGo l g _ _ 30 [_, _, _, some (.inl (mWr (((cn (dgF N q c) k : Nat) : Int) + 1))), some (.inl (mWr ((k : Int) + 1)))] [] _ _
        rw [mWr_of ⟨by omega, by omega⟩, mWr_of ⟨by omega, by omega⟩]
        exact qi
theorem c_M_degree (q c : Int) (N : nN) (h : mMem) (o : nOk N) (e : isM h N) : mCon l g n_M_degree (d + 2) [.inr (9, 0), .inl q, .inl c] h (mIs (some (.inl (spDegree N q c))) h) := by
  refine e_M_degree (fun hv hm => ?_)
  refine mGo_wp h_M_degree 60 [30] ?_
  have hp := o.1.2
  have hcc := o.2.1.2
  have bad : ¬ ((0 ≤ q ∧ q < nP N) ∧ (c = -1 ∨ (0 ≤ c ∧ c < nC N))) → ((some (Sum.inl vBAD) : Option mRV) = some (.inl (spDegree N q c)) ∧ h = h) := fun z => ⟨by rw [spDegree, if_neg z], rfl⟩
  refine mCall_is (c_M_isPoint q (nP N) (by omega) h e.1) ?_
  refine ⟨fun c1 => bad (fun z => mB_eq0.mp c1 z.1), fun c1 => ?_⟩
  have c1 := mB_ne0.mp c1
  refine mCall_is (c_M_isIn c (-1) _ h) ?_
  rw [e.2.1, mWr_of (x := (nC N : Int) - 1) ⟨by omega, by omega⟩]
  refine ⟨fun c2 => ?_, fun c2 => bad (fun z => mB_eq0.mp c2 (by omega))⟩
  have c2 := mB_ne0.mp c2
  obtain ⟨q', rfl⟩ := Int.eq_ofNat_of_zero_le c1.1
  rw [spDegree, if_pos ⟨c1, by omega⟩, Int.toNat_natCast]
  exact l_M_degree N h o e q' (by omega) c (nP N) 0 (by omega)
end Deg
