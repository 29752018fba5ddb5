theorem nrB_bare (c q : Nat) : ∀ r, nrB (fun _ => -1) c q r = 0
  | 0 => rfl
  | r + 1 => by
    show nrB (fun _ => -1) c q r + (if r ≠ q ∧ (-1 : Int) = (c : Int) then 2 ^ r else 0) = 0
    rw [nrB_bare c q r, if_neg (fun z => by omega)]
theorem nr_bare (c q : Nat) : nr (fun _ => -1) c q = 0 := nrB_bare c q 12
/-- a new net -/
def nLay (N : nN) (n c : Nat) : nN := (n, c, (if c = 2 then tSet (nK N) 2 0 else nK N), (if c = 2 then tSet (nS N) 2 0 else nS N), fun _ => -1)
def mLay1 (h : mMem) (i : Fin 8) (n c : Int) : mMem := mSet (mSet h 4 i 0 n) 4 i 1 c
def mLay2 (h : mMem) (i : Fin 8) (c : Int) : mMem := if c = 2 then mSet (mSet h 20 i 2 0) 21 i 2 0 else h
def mLay (h : mMem) (i : Fin 8) (n c : Int) : mMem := mSeg (mSeg (mLay2 (mLay1 h i n c) i c) 22 i 0 66 (fun _ => -1)) 23 i 0 36 (fun _ => 0)
theorem mLay_far {h : mMem} {i : Fin 8} {n c : Int} {t : Nat} {a : Fin 8} {k : Nat} (hn : (t ≠ 4 ∧ t ≠ 20 ∧ t ≠ 21 ∧ t ≠ 22 ∧ t ≠ 23) ∨ a ≠ i) : mLay h i n c t a k = h t a k := by
  unfold mLay mLay2 mLay1
  have ne : ∀ t', (t' = 4 ∨ t' = 20 ∨ t' = 21 ∨ t' = 22 ∨ t' = 23) → ¬ (t = t' ∧ a = i) := by
    intro t' ht' z
    rcases hn with y | y
    · omega
    · exact y z.2
  rw [show ∀ (H : mMem), mSeg H 23 i 0 36 (fun _ => 0) t a k = H t a k from fun H => if_neg (fun z => ne 23 (by decide) ⟨z.1, z.2.1⟩), show ∀ (H : mMem), mSeg H 22 i 0 66 (fun _ => -1) t a k = H t a k from fun H => if_neg (fun z => ne 22 (by decide) ⟨z.1, z.2.1⟩)]
  split
  · rw [mSet_no (fun z => ne 21 (by decide) ⟨z.1, z.2.1⟩), mSet_no (fun z => ne 20 (by decide) ⟨z.1, z.2.1⟩), mSet_no (fun z => ne 4 (by decide) ⟨z.1, z.2.1⟩), mSet_no (fun z => ne 4 (by decide) ⟨z.1, z.2.1⟩)]
  · rw [mSet_no (fun z => ne 4 (by decide) ⟨z.1, z.2.1⟩), mSet_no (fun z => ne 4 (by decide) ⟨z.1, z.2.1⟩)]
theorem isC_lay {h : mMem} {i : Fin 8} {N : nN} {n c : Nat} (hc : c = 2 ∨ c = 3) (e : isC h i N) : isC (mLay h i n c) i (nLay N n c) := by
  obtain ⟨e1, e2, e3, e4, e5, e6⟩ := e
  have up : ∀ t k, t ≠ 22 → t ≠ 23 → mLay h i n c t i k = mLay2 (mLay1 h i n c) i c t i k := fun t k a b => by
    unfold mLay
    rw [mSeg_ne b, mSeg_ne a]
  have l1 : ∀ t k, t ≠ 4 → mLay1 h i n c t i k = h t i k := fun t k a => by
    unfold mLay1
    rw [mSet_no (fun z => a z.1), mSet_no (fun z => a z.1)]
  rcases hc with rfl | rfl
  · have l2 : ∀ H : mMem, mLay2 H i (2 : Nat) = mSet (mSet H 20 i 2 0) 21 i 2 0 := fun H => if_pos rfl
    refine ⟨?_, ?_, fun k hk => ?_, fun k hk => ?_, fun k hk => ?_, fun x hx q hq => ?_⟩
    · rw [up _ _ (by decide) (by decide), l2, mSet_no (by simp), mSet_no (by simp)]
      unfold mLay1
      rw [mSet_no (by simp), mSet_at]
      rfl
    · rw [up _ _ (by decide) (by decide), l2, mSet_no (by simp), mSet_no (by simp)]
      unfold mLay1
      rw [mSet_at]
      rfl
    · rw [up _ _ (by decide) (by decide), l2, mSet_no (by simp)]
      show (if 20 = 20 ∧ i = i ∧ k = 2 then (0 : Int) else mLay1 h i n (2 : Nat) 20 i k) = (if k = 2 then 0 else nK N k)
      by_cases hq : k = 2
      · rw [if_pos ⟨rfl, rfl, hq⟩, if_pos hq]
      · rw [if_neg (fun z => hq z.2.2), if_neg hq, l1 _ _ (by decide)]
        exact e3 k hk
    · rw [up _ _ (by decide) (by decide), l2]
      show (if 21 = 21 ∧ i = i ∧ k = 2 then (0 : Int) else mSet (mLay1 h i n (2 : Nat)) 20 i 2 0 21 i k) = (if k = 2 then 0 else nS N k)
      by_cases hq : k = 2
      · rw [if_pos ⟨rfl, rfl, hq⟩, if_pos hq]
      · rw [if_neg (fun z => hq z.2.2), if_neg hq, mSet_no (by simp), l1 _ _ (by decide)]
        exact e4 k hk
    · unfold mLay
      rw [mSeg_ne (by decide), mSeg_in0 hk]
      rfl
    · unfold mLay
      rw [mSeg_in0 (by omega)]
      show (0 : Int) = (nr (fun _ => -1) x q : Nat)
      rw [nr_bare]
      rfl
  · have l2 : ∀ H : mMem, mLay2 H i (3 : Nat) = H := fun H => if_neg (by decide)
    refine ⟨?_, ?_, fun k hk => ?_, fun k hk => ?_, fun k hk => ?_, fun x hx q hq => ?_⟩
    · rw [up _ _ (by decide) (by decide), l2]
      unfold mLay1
      rw [mSet_no (by simp), mSet_at]
      rfl
    · rw [up _ _ (by decide) (by decide), l2]
      unfold mLay1
      rw [mSet_at]
      rfl
    · rw [up _ _ (by decide) (by decide), l2, l1 _ _ (by decide)]
      exact e3 k hk
    · rw [up _ _ (by decide) (by decide), l2, l1 _ _ (by decide)]
      exact e4 k hk
    · unfold mLay
      rw [mSeg_ne (by decide), mSeg_in0 hk]
      rfl
    · unfold mLay
      rw [mSeg_in0 (by omega)]
      show (0 : Int) = (nr (fun _ => -1) x q : Nat)
      rw [nr_bare]
      rfl
section Net
variable {l : Launch} {g : mG} {d : Nat}
theorem c_Net_layOut (i : Fin 8) (n c : Int) (hc : c = 2 ∨ c = 3) (h : mMem) : mCon l g n_Net_layOut (d + 1) [.inr (4, i), .inl n, .inl c] h (mIs none (mLay h i n c)) := by
  refine e_Net_layOut (fun hv hm => ?_)
  refine mGo_wp h_Net_layOut 80 [37] ?_
  have tail : ∀ (x : Int) (H : mMem), mGo l g (mMt n_Net_layOut) (d + 1) 37 [some (.inr (4, i)), some (.inl n), some (.inl c), some (.inl x)] [] H (mIs none (mSeg (mSeg H 22 i 0 66 (fun _ => -1)) 23 i 0 36 (fun _ => 0))) := by
    intro x H
    refine mGo_wp h_Net_layOut 80 [] ?_
    refine mCall_is (c_Arr_fill 22 i 66 (-1) rfl (by decide) H) ?_
    refine mCall_is (c_Arr_fill 23 i 36 0 rfl (by decide) _) ?_
    exact ⟨rfl, rfl⟩
  rcases hc with rfl | rfl
  · refine ⟨fun z => absurd z (by decide), fun _ => ⟨⟨by decide, by decide⟩, ⟨by decide, by decide⟩, ⟨fun _ => ?_, fun z => absurd z (by decide)⟩⟩⟩
    have q := tail (mWr (2 + 1)) (mSet (mSet (mLay1 h i n 2) 20 i 2 0) 21 i 2 0)
    unfold mLay mLay2
    rw [if_pos rfl]
    exact q
  · refine ⟨fun _ => ?_, fun z => absurd z (by decide)⟩
    have q := tail 3 (mLay1 h i n 3)
    unfold mLay mLay2
    rw [if_neg (by decide)]
    exact q
noncomputable def spNet (S : sS) (n c : Int) : Int × sS := if (1 ≤ n ∧ n ≤ 12) ∧ (2 ≤ c ∧ c ≤ 3) then ((js n.toNat : Nat), sTo S (nLay S.1 n.toNat c.toNat)) else (vBAD, S)
theorem s_K_net (h : mMem) (S : sS) (o : sOk S) (e : RC h S) (n c : Int) : mCon l g n_K_net (d + 4) [.inr (8, 0), .inl n, .inl c] h (fun r h' => r = some (.inl (spNet S n c).1) ∧ RC h' (spNet S n c).2 ∧ onlyC h h') := by
  refine e_K_net (fun hv hm => ?_)
  refine mGo_wp h_K_net 60 [] ?_
  have bad : ¬ ((1 ≤ n ∧ n ≤ 12) ∧ (2 ≤ c ∧ c ≤ 3)) → ((some (Sum.inl vBAD) : Option mRV) = some (.inl (spNet S n c).1) ∧ RC h (spNet S n c).2 ∧ onlyC h h) := fun z => by
    rw [spNet, if_neg z]
    exact ⟨rfl, e, onlyC.rf⟩
  refine ⟨fun c1 => bad (by omega), fun c1 => ⟨fun c2 => bad (by omega), fun c2 => ⟨fun c3 => bad (by omega), fun c3 => ⟨fun c4 => ?_, fun c4 => bad (by omega)⟩⟩⟩⟩
  refine mCall_on2 (s_remember h S o e) ?_
  rintro r1 h1 ⟨rfl, e1, q1⟩
  refine mCall_is (c_Net_layOut 0 n c (by omega) h1) ?_
  rw [spNet, if_pos ⟨⟨c1, c2⟩, ⟨c3, c4⟩⟩]
  obtain ⟨n', rfl⟩ := Int.eq_ofNat_of_zero_le (show 0 ≤ n by omega)
  obtain ⟨c', rfl⟩ := Int.eq_ofNat_of_zero_le (show 0 ≤ c by omega)
  rw [Int.toNat_natCast, Int.toNat_natCast]
  have ec := isC_lay (n := n') (c := c') (by omega) e1.1
  refine mCall_is (c_Net_joinCount 0 n' (by omega) _ ec.1) ?_
  refine ⟨rfl, ⟨ec, hisC_eq e1.2.1 (mLay_far (Or.inl (by decide))) (mLay_far (Or.inl (by decide))) (fun t i k i0 _ _ => mLay_far (Or.inr i0)), (mLay_far (Or.inl (by decide))).trans e1.2.2.1, (mLay_far (Or.inl (by decide))).trans e1.2.2.2.1, fun i hi => ?_⟩, fun t i k ht => (mLay_far (Or.inl (by omega))).trans (q1 t i k ht)⟩
  rw [mLay_far (Or.inl (by decide)), mLay_far (Or.inl (by decide)), mLay_far (Or.inl (by decide))]
  exact e1.2.2.2.2 i hi
theorem s_M_net (h : mMem) (S : sS) (o : sOk S) (e : RM h S) (n c : Int) : mCon l g n_M_net (d + 2) [.inr (9, 0), .inl n, .inl c] h (fun r h' => r = some (.inl (spNet S n c).1) ∧ RM h' (spNet S n c).2 ∧ onlyM h h') := by
  refine e_M_net (fun hv hm => ?_)
  refine mGo_wp h_M_net 80 [55] ?_
  have bad : ¬ ((1 ≤ n ∧ n ≤ 12) ∧ (2 ≤ c ∧ c ≤ 3)) → ((some (Sum.inl vBAD) : Option mRV) = some (.inl (spNet S n c).1) ∧ RM h (spNet S n c).2 ∧ onlyM h h) := fun z => by
    rw [spNet, if_neg z]
    exact ⟨rfl, e, onlyM.rf⟩
  refine mCall_is (c_M_isIn n 1 12 h) ?_
  refine ⟨fun c1 => bad (fun z => mB_eq0.mp c1 z.1), fun c1 => ?_⟩
  have c1 := mB_ne0.mp c1
  refine mCall_is (c_M_isIn c 2 3 h) ?_
  refine ⟨fun c2 => ?_, fun c2 => bad (fun z => mB_eq0.mp c2 z.2)⟩
  have c2 := mB_ne0.mp c2
  refine mCall_on2 (s_keep h S o e) ?_
  rintro r1 h1 ⟨rfl, e1, q1, -⟩
  rw [spNet, if_pos ⟨c1, c2⟩]
  obtain ⟨n', rfl⟩ := Int.eq_ofNat_of_zero_le (show 0 ≤ n by omega)
  obtain ⟨c', rfl⟩ := Int.eq_ofNat_of_zero_le (show 0 ≤ c by omega)
  rw [Int.toNat_natCast, Int.toNat_natCast]
  obtain ⟨n1, n2, n3, n4, n5⟩ := id e1.1
  have tail : ∀ H : mMem, H 9 0 0 = n' → H 9 0 1 = c' → (∀ k, k < 3 → H 40 0 k = nK (nLay S.1 n' c') k) → (∀ k, k < 3 → H 41 0 k = nS (nLay S.1 n' c') k) → (∀ t i k, t ≠ 40 → t ≠ 41 → t ≠ 42 → (t ≠ 9 ∨ (k ≠ 0 ∧ k ≠ 1)) → H t i k = h1 t i k) →
      mGo l g (mMt n_M_net) (d + 2) 55 [some (.inr (9, 0)), some (.inl n'), some (.inl c')] [] H (fun r h' => r = some (.inl (js n' : Nat)) ∧ RM h' (sTo S (nLay S.1 n' c')) ∧ onlyM h h') := by
    intro H a0 a1 a2 a3 a4
    refine mGo_wp h_M_net 80 [] ?_
    refine mCall_is (c_M_bareAll H) ?_
    have b0 : mSeg H 42 0 0 66 (fun _ => -1) 9 0 0 = (n' : Int) := by rw [mSeg_ne (by decide)]; exact a0
    have jc : mCon l g n_M_joinsOf (d + 1) [.inl (mSeg H 42 0 0 66 (fun _ => -1) 9 0 0)] (mSeg H 42 0 0 66 (fun _ => -1)) (mIs (some (.inl (js n' : Nat))) (mSeg H 42 0 0 66 (fun _ => -1))) := by
      rw [b0]
      exact c_M_joinsOf n' (by omega) _
    refine mCall_is jc ?_
    refine ⟨rfl, ⟨⟨b0, ?_, fun k hk => ?_, fun k hk => ?_, fun k hk => ?_⟩, ⟨?_, e1.2.1.2.1, fun y M hM => isB_out (fun x _ _ => ?_) (e1.2.1.2.2 y M hM)⟩, ?_, ?_, fun i hi => ?_⟩, fun t i x ht => ?_⟩
    · rw [mSeg_ne (by decide)]; exact a1
    · rw [mSeg_ne (by decide)]; exact a2 k hk
    · rw [mSeg_ne (by decide)]; exact a3 k hk
    · rw [mSeg_in0 hk]; rfl
    · rw [mSeg_ne (by decide), a4 _ _ _ (by decide) (by decide) (by decide) (by decide)]; exact e1.2.1.1
    · rw [mSeg_ne (by decide), a4 _ _ _ (by decide) (by decide) (by decide) (Or.inl (by decide))]
    · rw [mSeg_ne (by decide), a4 _ _ _ (by decide) (by decide) (by decide) (by decide)]; exact e1.2.2.1
    · rw [mSeg_ne (by decide), a4 _ _ _ (by decide) (by decide) (by decide) (by decide)]; exact e1.2.2.2.1
    · rw [mSeg_ne (by decide), mSeg_ne (by decide), mSeg_ne (by decide), a4 _ _ _ (by decide) (by decide) (by decide) (Or.inl (by decide)), a4 _ _ _ (by decide) (by decide) (by decide) (Or.inl (by decide)), a4 _ _ _ (by decide) (by decide) (by decide) (Or.inl (by decide))]
      exact e1.2.2.2.2 i hi
    · rw [mSeg_ne (by omega), a4 t i x (by omega) (by omega) (by omega) (Or.inl (by omega))]
      exact q1 t i x ht
  refine ⟨fun c3 => ?_, fun c3 => ⟨⟨by decide, by decide⟩, ⟨by decide, by decide⟩, ?_⟩⟩
  · have c3 : (3 : Int) ≤ c' := c3
    have : c' = 3 := by omega
    subst this
    refine tail _ ?_ ?_ (fun k hk => ?_) (fun k hk => ?_) (fun t i k t0 t1 t2 t9 => ?_)
    · rw [mSet_no (by simp), mSet_at]
    · rw [mSet_at]
    · rw [mSet_no (by simp), mSet_no (by simp)]; exact n3 k hk
    · rw [mSet_no (by simp), mSet_no (by simp)]; exact n4 k hk
    · rw [mSet_no (fun z => by omega), mSet_no (fun z => by omega)]
  · have c3 : (c' : Int) < 3 := c3
    have : c' = 2 := by omega
    subst this
    refine tail _ ?_ ?_ (fun k hk => ?_) (fun k hk => ?_) (fun t i k t0 t1 t2 t9 => ?_)
    · rw [mSet_no (by simp), mSet_no (by simp), mSet_no (by simp), mSet_at]
    · rw [mSet_no (by simp), mSet_no (by simp), mSet_at]
    · rw [mSet_no (by simp)]
      show (if 40 = 40 ∧ (0 : Fin 8) = 0 ∧ k = 2 then (0 : Int) else mSet (mSet h1 9 0 0 n') 9 0 1 (2 : Nat) 40 0 k) = (if k = 2 then 0 else nK S.1 k)
      by_cases hq : k = 2
      · rw [if_pos ⟨rfl, rfl, hq⟩, if_pos hq]
      · rw [if_neg (fun z => hq z.2.2), if_neg hq, mSet_no (by simp), mSet_no (by simp)]
        exact n3 k hk
    · show (if 41 = 41 ∧ (0 : Fin 8) = 0 ∧ k = 2 then (0 : Int) else mSet (mSet (mSet h1 9 0 0 n') 9 0 1 (2 : Nat)) 40 0 2 0 41 0 k) = (if k = 2 then 0 else nS S.1 k)
      by_cases hq : k = 2
      · rw [if_pos ⟨rfl, rfl, hq⟩, if_pos hq]
      · rw [if_neg (fun z => hq z.2.2), if_neg hq, mSet_no (by simp), mSet_no (by simp), mSet_no (by simp)]
        exact n4 k hk
    · rw [mSet_no (fun z => by omega), mSet_no (fun z => by omega), mSet_no (fun z => by omega), mSet_no (fun z => by omega)]
end Net
