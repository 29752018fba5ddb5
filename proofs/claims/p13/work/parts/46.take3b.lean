section Take
variable {l : Launch} {g : mG} {d : Nat}
noncomputable def mTk3 (h : mMem) (tot : Nat) (r es : List Nat) (wb wj : Int) : mMem := if ((bitR r r.length : Nat) : Int) = wb then mSet (mSet h 9 0 14 (tot + 1 : Nat)) 9 0 15 (hasE es wj es.length) else mSet h 9 0 14 (tot + 1 : Nat)
theorem c_M_take3 (h : mMem) (tot : Nat) (ht : tot < 1000000000) (r es : List Nat) (wb wj : Int) (hr : ∀ x ∈ r, x < 12) (hl : r.length ≤ 7) (hle : es.length ≤ 20) (er : rowAt h r) (e0 : h 9 0 13 = 3) (e1 : h 9 0 9 = es.length) (e2 : ∀ j, j < es.length → h 45 0 j = (es.getD j 0 : Nat)) (e3 : h 9 0 21 = wj) (e4 : h 9 0 14 = tot) (e5 : h 9 0 15 = 0) (e6 : h 9 0 20 = wb) : mCon l g n_M_take (d + 1) [.inr (9, 0), .inl r.length] h (mIs none (mTk3 h tot r es wb wj)) := by
  refine e_M_take (fun hv hm => ?_)
  refine mGo_wp h_M_take 60 [84] ?_
  have w : mWr (h 9 0 14 + 1) = ((tot + 1 : Nat) : Int) := by
    rw [e4, mWr_of ⟨by omega, by omega⟩]
    omega
  refine ⟨fun _ => ?_, fun z => absurd (z.symm.trans e0) (by decide)⟩
  show mGo l g _ _ 84 _ [] (mSet h 9 0 14 (mWr (h 9 0 14 + 1))) _
  rw [w]
  have f9 : ∀ q, q ≠ 14 → mSet h 9 0 14 ((tot + 1 : Nat) : Int) 9 0 q = h 9 0 q := fun q hq => mSet_no (fun z => hq z.2.2)
  have r13 : mSet h 9 0 14 ((tot + 1 : Nat) : Int) 9 0 13 = 3 := (f9 13 (by decide)).trans e0
  have er1 : rowAt (mSet h 9 0 14 ((tot + 1 : Nat) : Int)) r := fun j hj => by
    rw [mSet_no (by simp)]
    exact er j hj
  refine mGo_wp h_M_take 60 [149] ?_
  refine ⟨fun _ => ⟨fun z => absurd r13 z, fun _ => ?_⟩, fun z => absurd (z.symm.trans r13) (by decide)⟩
  refine mCall_is (c_M_bitsOf r hr hl _ er1) ?_
  refine ⟨fun z => ?_, fun z => ?_⟩
  · rw [f9 20 (by decide), e6] at z
    unfold mTk3
    rw [if_neg z]
    exact ⟨rfl, rfl⟩
  · rw [f9 20 (by decide), e6] at z
    unfold mTk3
    rw [if_pos z]
    have q := l_M_take3 (l := l) (g := g) (d := d + 1) (mSet h 9 0 14 ((tot + 1 : Nat) : Int)) (r.length : Nat) es wj hle ((f9 9 (by decide)).trans e1) (fun j hj => by rw [mSet_no (by simp)]; exact e2 j hj) ((f9 21 (by decide)).trans e3) es.length 0 (by omega)
    have hz : hasE es wj 0 = 0 := mBc_f (fun z => by obtain ⟨j, h1, -⟩ := z; omega)
    rw [hz, mSet_self ((f9 15 (by decide)).trans e5)] at q
    exact q
end Take
