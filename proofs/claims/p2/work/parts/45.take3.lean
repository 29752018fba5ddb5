theorem mSet_self {h : mMem} {t : Nat} {i : Fin 8} {k : Nat} {v : Int} (e : h t i k = v) : mSet h t i k v = h := by
  funext t' i' k'
  unfold mSet
  split
  · next z =>
    obtain ⟨rfl, rfl, rfl⟩ := z
    exact e.symm
  · rfl
theorem mSet_set (h : mMem) (t : Nat) (i : Fin 8) (k : Nat) (v w : Int) : mSet (mSet h t i k v) t i k w = mSet h t i k w := by
  funext t' i' k'
  dsimp only [mSet]
  split
  · rfl
  · rfl
section Take
variable {l : Launch} {g : mG} {d : Nat}
/-- whether a join is among the first k -/
noncomputable def hasE (es : List Nat) (wj : Int) (k : Nat) : Int := mBc (∃ j, j < k ∧ ((es.getD j 0 : Nat) : Int) = wj)
theorem l_M_take3 (h : mMem) (m : Int) (es : List Nat) (wj : Int) (hl : es.length ≤ 20) (e1 : h 9 0 9 = es.length) (e2 : ∀ j, j < es.length → h 45 0 j = (es.getD j 0 : Nat)) (e3 : h 9 0 21 = wj) : ∀ (n k : Nat), k + n = es.length → mGo l g (mMt n_M_take) d 149 [some (.inr (9, 0)), some (.inl m), some (.inl k)] [] (mSet h 9 0 15 (hasE es wj k)) (mIs none (mSet h 9 0 15 (hasE es wj es.length))) := by
  have f9 : ∀ (v : Int) (q : Nat), q ≠ 15 → mSet h 9 0 15 v 9 0 q = h 9 0 q := fun v q hq => mSet_no (fun z => hq z.2.2)
  intro n
  induction n with
  | zero =>
    intro k hk
    refine mGo_wp h_M_take 60 [149] ?_
    have : k = es.length := by omega
    subst this
    exact ⟨fun _ => ⟨rfl, rfl⟩, fun z => by rw [f9 _ 9 (by decide), e1] at z; omega⟩
  | succ n ih =>
    intro k hk
    refine mGo_wp h_M_take 60 [149] ?_
    have q := ih (k + 1) (by omega)
    refine ⟨fun z => by rw [f9 _ 9 (by decide), e1] at z; omega, fun _ => ⟨fun z => ⟨Or.inr rfl, ?_⟩, fun z => ⟨⟨by omega, by omega⟩, ⟨fun y => ⟨Or.inl rfl, ?_⟩, fun y => ⟨Or.inr rfl, ?_⟩⟩⟩⟩⟩
    · rw [mSet_at] at z
      have hz : hasE es wj (k + 1) = 1 := by
        obtain ⟨j, h1, h2⟩ := mBc_ne0.mp z
        exact mBc_t ⟨j, by omega, h2⟩
      rw [hz] at q
      show mGo l g _ _ 149 [_, _, some (.inl (mWr ((k : Int) + 1)))] [] (mSet (mSet h 9 0 15 (hasE es wj k)) 9 0 15 1) _
      rw [mSet_set, mWr_of ⟨by omega, by omega⟩]
      exact q
    · rw [mSet_at] at z
      rw [f9 _ 21 (by decide), e3, mSet_no (by simp), Int.toNat_natCast, e2 k (by omega)] at y
      have hz : hasE es wj (k + 1) = 0 := by
        refine mBc_f ?_
        rintro ⟨j, h1, h2⟩
        by_cases hj : j = k
        · subst hj; exact y h2
        · exact mBc_eq0.mp z ⟨j, by omega, h2⟩
      rw [hz] at q
      show mGo l g _ _ 149 [_, _, some (.inl (mWr ((k : Int) + 1)))] [] (mSet (mSet h 9 0 15 (hasE es wj k)) 9 0 15 0) _
      rw [mSet_set, mWr_of ⟨by omega, by omega⟩]
      exact q
    · rw [f9 _ 21 (by decide), e3, mSet_no (by simp), Int.toNat_natCast, e2 k (by omega)] at y
      have hz : hasE es wj (k + 1) = 1 := mBc_t ⟨k, by omega, y⟩
      rw [hz] at q
      show mGo l g _ _ 149 [_, _, some (.inl (mWr ((k : Int) + 1)))] [] (mSet (mSet h 9 0 15 (hasE es wj k)) 9 0 15 1) _
      rw [mSet_set, mWr_of ⟨by omega, by omega⟩]
      exact q
end Take
