section Back
variable {l : Launch} {g : mG} {d : Nat}
def mGb (h : mMem) (nx len : Nat) : mMem := mSet (mBec (mSet h 3 0 2 ((nx + 5) % 6 : Nat)) 0 (mNi ((nx + 5) % 6))) 3 0 0 (len : Nat)
theorem c_History_giveBack (h : mMem) (nx len : Nat) (hnx : nx < 6) (hlen : len < 6) (e1 : h 3 0 2 = nx) (e2 : h 3 0 0 = (len + 1 : Nat)) : mCon l g n_History_giveBack (d + 2) [.inr (3, 0), .inr (4, 0)] h (mIs none (mGb h nx len)) := by
  refine e_History_giveBack (fun hv hk => ?_)
  refine mGo_wp h_History_giveBack 60 [] ?_
  have r : mRem (mWr (mWr (h 3 0 2 + 6) - 1)) 6 = (((nx + 5) % 6 : Nat) : Int) := by
    rw [e1, mWr_of (x := (nx : Int) + 6) ⟨by omega, by omega⟩, mWr_of ⟨by omega, by omega⟩, ← rem6 (nx + 5) (by omega)]
    congr 1
    omega
  have hl : (nx + 5) % 6 < 6 := Nat.mod_lt _ (by decide)
  refine ⟨fun c => by rw [e2] at c; omega, fun c => ⟨by decide, ?_⟩⟩
  rw [r]
  refine ⟨⟨by rw [mSet_at]; omega, by rw [mSet_at]; omega⟩, ?_⟩
  refine mCall_is (c_Net_become _ _ _) ?_
  refine ⟨rfl, ?_⟩
  rw [mBec_t (by decide), mSet_no (t' := 3) (t := 3) (k' := 0) (k := 2) (by simp), mSet_at, Int.toNat_natCast, e2, mWr_of ⟨by omega, by omega⟩]
  unfold mGb
  congr 1
  omega
theorem hisC_back {h : mMem} {Ls : List nN} {N : nN} (hh : hisC h (Ls ++ [N])) : ∃ nx, nx < 6 ∧ h 3 0 2 = (nx : Nat) ∧ h 3 0 0 = (Ls.length + 1 : Nat) ∧ Ls.length < 6 ∧ isC (mGb h nx Ls.length) 0 N ∧ hisC (mGb h nx Ls.length) Ls := by
  obtain ⟨nx, h1, h2, h3, h4, h5⟩ := hh
  simp only [List.length_append, List.length_cons, List.length_nil, Nat.zero_add] at h3 h4 h5
  have hpos : (nx + 6 - (Ls.length + 1) + Ls.length) % 6 = (nx + 5) % 6 := by omega
  have hN := h5 Ls.length N (by rw [List.getElem?_append_right (Nat.le_refl _)]; simp)
  rw [hpos] at hN
  refine ⟨nx, h1, h2, h3, by omega, ?_, (nx + 5) % 6, Nat.mod_lt _ (by decide), ?_, ?_, by omega, fun e M hM => ?_⟩
  · exact isC_set (by decide) (isC_bec (isC_set (by decide) hN))
  · unfold mGb
    rw [mSet_no (by simp), mBec_t (by decide), mSet_at]
  · unfold mGb
    rw [mSet_at]
  · have hlt := (List.getElem?_eq_some_iff.mp hM).1
    have q := h5 e M (by rw [List.getElem?_append_left hlt]; exact hM)
    rw [show (nx + 6 - (Ls.length + 1) + e) % 6 = ((nx + 5) % 6 + 6 - Ls.length + e) % 6 by omega] at q
    exact isC_set (by decide) (isC_bec_ne (mNi_01 _ (Nat.mod_lt _ (by decide))).1 (isC_set (by decide) q))
theorem c_K_undo_none (h : mMem) (e : h 3 0 0 = 0) : mCon l g n_K_undo d [.inr (8, 0)] h (mIs (some (.inl vNO)) h) := by
  refine e_K_undo (fun hv hk => ?_)
  refine mGo_wp h_K_undo 60 [] ?_
  exact ⟨fun c => absurd e c, fun c => ⟨rfl, rfl⟩⟩
theorem c_K_undo (h : mMem) (nx len : Nat) (hnx : nx < 6) (hlen : len < 6) (e1 : h 3 0 2 = nx) (e2 : h 3 0 0 = (len + 1 : Nat)) : mCon l g n_K_undo (d + 3) [.inr (8, 0)] h (mIs (some (.inl len)) (mSet (mGb h nx len) 6 0 3 0)) := by
  refine e_K_undo (fun hv hk => ?_)
  refine mGo_wp h_K_undo 60 [] ?_
  refine ⟨fun c => ?_, fun c => by rw [e2] at c; omega⟩
  refine mCall_is (c_History_giveBack h nx len hnx hlen e1 e2) ?_
  refine mCall_is (c_Proof_forget _) ?_
  refine ⟨?_, rfl⟩
  show some (Sum.inl (mSet (mGb h nx len) 6 0 3 0 3 0 0)) = _
  rw [mSet_no (by simp)]
  unfold mGb
  rw [mSet_at]
end Back
/-! the model's side -/
theorem mKp2_out {h : mMem} {m q : Nat} (hq : ¬ (74 * m ≤ q ∧ q < 74 * m + 74)) : mKp2 h m 43 0 q = h 43 0 q := by
  unfold mKp2 mKpC mKpB mKpA
  rw [mSet_no (by simp), mSet_no (by simp), mSeg_out (by omega), mSeg_out (by omega), mSeg_out (by omega), mSet_no (fun z => absurd z.2.2 (by omega)), mSet_no (fun z => absurd z.2.2 (by omega))]
theorem isB_keep {h : mMem} {m : Nat} {N : nN} (e : isM h N) : isB (mKp2 h m) m N := by
  obtain ⟨e1, e2, e3, e4, e5⟩ := e
  unfold mKp2 mKpC mKpB mKpA
  refine ⟨?_, ?_, fun k hk => ?_, fun k hk => ?_, fun k hk => ?_⟩
  · rw [mSet_no (by simp), mSet_no (by simp), mSeg_out (by omega), mSeg_out (by omega), mSeg_out (by omega), mSet_no (fun z => absurd z.2.2 (by omega)), mSet_at, e1]
  · rw [mSet_no (by simp), mSet_no (by simp), mSeg_out (by omega), mSeg_out (by omega), mSeg_out (by omega), mSet_at, e2]
  · rw [mSet_no (by simp), mSet_no (by simp), mSeg_out (by omega), mSeg_out (by omega), mSeg_in hk, e3 k hk]
  · rw [mSet_no (by simp), mSet_no (by simp), mSeg_out (by omega), mSeg_in hk, e4 k hk]
  · rw [mSet_no (by simp), mSet_no (by simp), mSeg_in hk, e5 k hk]
theorem isB_out {h h' : mMem} {e : Nat} {N : nN} (hq : ∀ q, 74 * e ≤ q → q < 74 * e + 74 → h' 43 0 q = h 43 0 q) (b : isB h e N) : isB h' e N := by
  obtain ⟨e1, e2, e3, e4, e5⟩ := b
  refine ⟨?_, ?_, fun k hk => ?_, fun k hk => ?_, fun k hk => ?_⟩
  · rw [hq _ (by omega) (by omega)]; exact e1
  · rw [hq _ (by omega) (by omega)]; exact e2
  · rw [hq _ (by omega) (by omega)]; exact e3 k hk
  · rw [hq _ (by omega) (by omega)]; exact e4 k hk
  · rw [hq _ (by omega) (by omega)]; exact e5 k hk
theorem isB_shift {h : mMem} {e : Nat} {N : nN} (he : e < 5) (b : isB h (e + 1) N) : isB (mKp1 h) e N := by
  have hr : ∀ q, q < 370 → mKp1 h 43 0 q = h 43 0 (q + 74) := by
    intro q hq
    unfold mKp1
    rw [mSet_no (by simp), mSeg_in0 hq]
  obtain ⟨e1, e2, e3, e4, e5⟩ := b
  refine ⟨?_, ?_, fun k hk => ?_, fun k hk => ?_, fun k hk => ?_⟩
  · rw [hr _ (by omega), ← e1]; congr 1
  · rw [hr _ (by omega), ← e2]; congr 1
  · rw [hr _ (by omega), ← e3 k hk]; congr 1; omega
  · rw [hr _ (by omega), ← e4 k hk]; congr 1; omega
  · rw [hr _ (by omega), ← e5 k hk]; congr 1; omega
theorem isM_of {h h' : mMem} {N : nN} (e : isM h N) (e1 : h' 9 0 0 = h 9 0 0) (e2 : h' 9 0 1 = h 9 0 1) (e3 : ∀ k, h' 40 0 k = h 40 0 k) (e4 : ∀ k, h' 41 0 k = h 41 0 k) (e5 : ∀ k, h' 42 0 k = h 42 0 k) : isM h' N :=
  ⟨e1.trans e.1, e2.trans e.2.1, fun k hk => (e3 k).trans (e.2.2.1 k hk), fun k hk => (e4 k).trans (e.2.2.2.1 k hk), fun k hk => (e5 k).trans (e.2.2.2.2 k hk)⟩
theorem mKp2_t {h : mMem} {m t : Nat} {i : Fin 8} {k : Nat} (ht : t ≠ 43) (hk : t ≠ 9 ∨ (k ≠ 6 ∧ k ≠ 43)) : mKp2 h m t i k = h t i k := by
  unfold mKp2
  rw [mSet_no (fun z => hk.elim (fun y => y z.1) (fun y => y.2 z.2.2)), mSet_no (fun z => hk.elim (fun y => y z.1) (fun y => y.1 z.2.2)), mKpC_ne ht]
theorem mKp1_t {h : mMem} {t : Nat} {i : Fin 8} {k : Nat} (ht : t ≠ 43) (hk : t ≠ 9 ∨ k ≠ 6) : mKp1 h t i k = h t i k := by
  unfold mKp1
  rw [mSet_no (fun z => hk.elim (fun y => y z.1) (fun y => y z.2.2)), mSeg_ne ht]
def mKpM (h : mMem) (m : Nat) : mMem := if m = 6 then mKp2 (mKp1 h) 5 else mKp2 h m
theorem mKpM_t {h : mMem} {m t : Nat} {i : Fin 8} {k : Nat} (ht : t ≠ 43) (hk : t ≠ 9 ∨ (k ≠ 6 ∧ k ≠ 43)) : mKpM h m t i k = h t i k := by
  unfold mKpM
  split
  · rw [mKp2_t ht hk, mKp1_t ht (hk.imp id (fun y => y.1))]
  · rw [mKp2_t ht hk]
theorem isM_kp {h : mMem} {m : Nat} {N : nN} (e : isM h N) : isM (mKpM h m) N :=
  isM_of e (mKpM_t (by decide) (by decide)) (mKpM_t (by decide) (by decide)) (fun k => mKpM_t (by decide) (Or.inl (by decide))) (fun k => mKpM_t (by decide) (Or.inl (by decide))) (fun k => mKpM_t (by decide) (Or.inl (by decide)))
theorem hisM_keep {h : mMem} {Ls : List nN} {N : nN} (hh : hisM h Ls) (e : isM h N) : hisM (mKpM h Ls.length) (hpush Ls N) ∧ mKpM h Ls.length 9 0 43 = 0 := by
  obtain ⟨h1, hl, hb⟩ := hh
  obtain ⟨hpl, hpg⟩ := hpush_get (N := N) hl
  have h43 : mKpM h Ls.length 9 0 43 = 0 := by
    unfold mKpM mKp2
    split <;> rw [mSet_at]
  refine ⟨⟨?_, by rw [hpl]; split <;> omega, fun q M hM => ?_⟩, h43⟩
  · rw [hpl]
    unfold mKpM mKp2
    by_cases h6 : Ls.length = 6
    · rw [if_pos h6, if_neg (by omega), mSet_no (by simp), mSet_at]
      rfl
    · rw [if_neg h6, if_pos (by omega), mSet_no (by simp), mSet_at]
      omega
  · unfold mKpM
    by_cases h6 : Ls.length = 6
    · rw [if_pos h6]
      have hp6 : (hpush Ls N).length = 6 := by rw [hpl, if_neg (by omega)]
      have e' : isM (mKp1 h) N := isM_of e (mKp1_t (by decide) (by decide)) (mKp1_t (by decide) (by decide)) (fun k => mKp1_t (by decide) (Or.inl (by decide))) (fun k => mKp1_t (by decide) (Or.inl (by decide))) (fun k => mKp1_t (by decide) (Or.inl (by decide)))
      rcases hpg q M hM with ⟨a1, rfl⟩ | ⟨a1, a2⟩
      · have : q = 5 := by omega
        subst this
        exact isB_keep e'
      · rw [hp6, h6] at a2
        have b := hb _ M a2
        rw [show q + (6 + 1 - 6) = q + 1 by omega] at b
        exact isB_out (fun x x1 x2 => mKp2_out (by omega)) (isB_shift (by omega) b)
    · rw [if_neg h6]
      have hp6 : (hpush Ls N).length = Ls.length + 1 := by rw [hpl, if_pos (by omega)]
      rcases hpg q M hM with ⟨a1, rfl⟩ | ⟨a1, a2⟩
      · have : q = Ls.length := by omega
        subst this
        exact isB_keep e
      · rw [hp6, Nat.sub_self, Nat.add_zero] at a2
        exact isB_out (fun x x1 x2 => mKp2_out (by omega)) (hb _ M a2)
theorem hisM_back {h : mMem} {Ls : List nN} {N : nN} (hh : hisM h (Ls ++ [N])) : h 9 0 6 = (Ls.length + 1 : Nat) ∧ Ls.length < 6 ∧ isM (mUd h Ls.length) N ∧ hisM (mUd h Ls.length) Ls ∧ mUd h Ls.length 9 0 43 = 0 := by
  obtain ⟨h1, hl, hb⟩ := hh
  simp only [List.length_append, List.length_cons, List.length_nil, Nat.zero_add] at h1 hl
  have b := hb Ls.length N (by rw [List.getElem?_append_right (Nat.le_refl _)]; simp)
  obtain ⟨e1, e2, e3, e4, e5⟩ := b
  refine ⟨h1, by omega, ⟨?_, ?_, fun k hk => ?_, fun k hk => ?_, fun k hk => ?_⟩, ⟨?_, by omega, fun q M hM => ?_⟩, ?_⟩
  · unfold mUd mUdC mUdB mUdA
    rw [mSet_no (by simp), mSeg_ne (by decide), mSeg_ne (by decide), mSeg_ne (by decide), mSet_no (by simp), mSet_at, e1]
  · unfold mUd mUdC mUdB mUdA
    rw [mSet_no (by simp), mSeg_ne (by decide), mSeg_ne (by decide), mSeg_ne (by decide), mSet_at, e2]
  · unfold mUd mUdC mUdB
    rw [mSet_no (by simp), mSeg_ne (by decide), mSeg_ne (by decide), mSeg_in0 hk, e3 k hk]
  · unfold mUd mUdC mUdB
    rw [mSet_no (by simp), mSeg_ne (by decide), mSeg_in0 hk, e4 k hk]
  · unfold mUd mUdC
    rw [mSet_no (by simp), mSeg_in0 hk, e5 k hk]
  · unfold mUd
    rw [mSet_no (by simp), mUdC_6]
  · have hlt := (List.getElem?_eq_some_iff.mp hM).1
    refine isB_out (fun x _ _ => ?_) (hb q M (by rw [List.getElem?_append_left hlt]; exact hM))
    unfold mUd
    rw [mSet_no (by simp), mUdC_43]
  · unfold mUd
    rw [mSet_at]
