section Try
variable {l : Launch} {g : mG}
theorem c_M_isIn {d : Nat} (v lo hi : Int) (h : mMem) : mCon l g n_M_isIn d [.inl v, .inl lo, .inl hi] h (mIs (some (.inl (if lo ≤ v ∧ v ≤ hi then 1 else 0))) h) := by
  refine e_M_isIn (fun hv hm => ?_)
  refine mGo_wp h_M_isIn 40 [] ?_
  refine ⟨fun c => ?_, fun c => ⟨fun c2 => ?_, fun c2 => ?_⟩⟩
  · exact ⟨Or.inl rfl, by rw [if_neg (by omega)], rfl⟩
  · exact ⟨Or.inl rfl, by rw [if_neg (by omega)], rfl⟩
  · exact ⟨Or.inr rfl, by rw [if_pos (by omega)], rfl⟩
theorem c_M_isPoint {d : Nat} (p : Int) (h : mMem) : mCon l g n_M_isPoint (d + 1) [.inr (9, 0), .inl p] h (mIs (some (.inl (if 0 ≤ p ∧ p ≤ mWr (h 9 0 0 - 1) then 1 else 0))) h) := by
  refine e_M_isPoint (fun hv hm => ?_)
  refine mGo_wp h_M_isPoint 40 [] ?_
  refine mCall_is (c_M_isIn _ _ _ _) ?_
  refine ⟨?_, rfl, rfl⟩
  split
  · exact Or.inr rfl
  · exact Or.inl rfl
theorem c_M_bareAll_loop (h0 : mMem) : ∀ (n k : Nat) (h : mMem), k + n = 66 → (∀ t i j, h t i j = if t = 42 ∧ i = 0 ∧ j < k then -1 else h0 t i j) → mGo l g (mMt n_M_bareAll) 0 2 [some (.inr (9, 0)), some (.inl k)] [] h (fun r h' => r = none ∧ ∀ t i j, h' t i j = if t = 42 ∧ i = 0 ∧ j < 66 then -1 else h0 t i j) := by
  intro n
  induction n with
  | zero =>
    intro k h hk hh
    refine mGo_wp h_M_bareAll 40 [2] ?_
    refine ⟨fun c => ⟨rfl, ?_⟩, fun c => ?_⟩
    · have : k = 66 := by omega
      subst this
      exact hh
    · omega
  | succ n ih =>
    intro k h hk hh
    refine mGo_wp h_M_bareAll 40 [2] ?_
    refine ⟨fun c => ?_, fun c => ⟨⟨?_, ?_⟩, ?_⟩⟩
    · omega
    · omega
    · omega
    · show mGo l g _ 0 2 [_, some (.inl (mWr ((k : Int) + 1)))] [] _ _
      rw [mWr_of ⟨by omega, by omega⟩]
      refine ih (k + 1) _ (by omega) ?_
      intro t i j
      simp only [mSet, hh, Int.toNat_natCast]
      by_cases h1 : t = 42 ∧ i = 0 ∧ j = k
      · rw [if_pos h1, if_pos ⟨h1.1, h1.2.1, by omega⟩]
      · rw [if_neg h1]
        by_cases h2 : t = 42 ∧ i = 0 ∧ j < k
        · rw [if_pos h2, if_pos ⟨h2.1, h2.2.1, by omega⟩]
        · rw [if_neg h2, if_neg (fun q => by
            by_cases h3 : j = k
            · exact h1 ⟨q.1, q.2.1, h3⟩
            · exact h2 ⟨q.1, q.2.1, by omega⟩)]
end Try
