theorem mSeg_same {h : mMem} {t : Nat} {i : Fin 8} {n : Nat} {f : Nat → Int} (e : ∀ k, k < n → f k = h t i k) : mSeg h t i 0 n f = h := by
  funext t' i' q
  dsimp only [mSeg]
  split
  · next z =>
    obtain ⟨rfl, rfl, -, z⟩ := z
    rw [Nat.sub_zero]
    exact e q (by omega)
  · rfl
section Take
variable {l : Launch} {g : mG} {d : Nat}
theorem c_M_take2t (h : mMem) (m : Int) (tot : Nat) (ht : tot < 1000000000) (es : List Nat) (F : Nat → Int) (hF : ∀ k, 0 ≤ F k ∧ F k ≤ 1000000000) (eF : ∀ k, k < 66 → F k = h 47 0 k) (hl : es.length ≤ 20) (hes : ∀ x ∈ es, x < 66) (e0 : h 9 0 13 = 2) (e3 : h 9 0 10 ≠ 1) (e4 : h 9 0 14 = tot) (e1 : h 9 0 9 = es.length) (e2 : ∀ j, j < es.length → h 45 0 j = (es.getD j 0 : Nat)) : mCon l g n_M_take d [.inr (9, 0), .inl m] h (mIs none (mSeg (mSet h 9 0 14 (tot + 1 : Nat)) 47 0 0 66 (thF F es))) := by
  refine e_M_take (fun hv hm => ?_)
  refine mGo_wp h_M_take 60 [44] ?_
  have w : mWr (h 9 0 14 + 1) = ((tot + 1 : Nat) : Int) := by
    rw [e4, mWr_of ⟨by omega, by omega⟩]
    omega
  refine ⟨fun z => absurd e0 z, fun _ => ⟨fun _ => ?_, fun z => absurd z e3⟩⟩
  show mGo l g _ _ 44 [_, _, some (.inl 0)] [] (mSet h 9 0 14 (mWr (h 9 0 14 + 1))) _
  rw [w]
  have q := l_M_take2 (l := l) (g := g) (d := d) (mSet h 9 0 14 ((tot + 1 : Nat) : Int)) m es F hF hl hes (by rw [mSet_no (by simp)]; exact e1) (fun j hj => by rw [mSet_no (by simp)]; exact e2 j hj) es.length 0 (by omega)
  have hs : mSeg (mSet h 9 0 14 ((tot + 1 : Nat) : Int)) 47 0 0 66 (thF F (es.take 0)) = mSet h 9 0 14 ((tot + 1 : Nat) : Int) := by
    refine mSeg_same (fun k hk => ?_)
    rw [mSet_no (by simp)]
    exact eF k hk
  rw [hs] at q
  exact q
end Take
