section Leaves
variable {l : Launch} {g : mG} {d : Nat}
theorem c_M_isIn (v lo hi : Int) (h : mMem) : mCon l g n_M_isIn d [.inl v, .inl lo, .inl hi] h (mIs (some (.inl (mB (lo ≤ v ∧ v ≤ hi)))) h) := by
  refine e_M_isIn (fun hv hm => ?_)
  refine mGo_wp h_M_isIn 40 [] ?_
  refine ⟨fun c => ?_, fun c => ⟨fun c2 => ?_, fun c2 => ?_⟩⟩
  · exact ⟨Or.inl rfl, by rw [mB_f (by omega)], rfl⟩
  · exact ⟨Or.inl rfl, by rw [mB_f (by omega)], rfl⟩
  · exact ⟨Or.inr rfl, by rw [mB_t (by omega)], rfl⟩
theorem c_M_join (i j : Nat) (hi : i < 12) (hj : j < 12) (h : mMem) : mCon l g n_M_join d [.inl i, .inl j] h (mIs (some (.inl (jn i j))) h) := by
  refine e_M_join (fun hv hm => ?_)
  refine mGo_wp h_M_join 40 [] ?_
  refine ⟨fun c => ⟨by decide, ?_, rfl⟩, fun c => ⟨by decide, ?_, rfl⟩⟩
  · rw [jn_calc2 i hi j hj (by omega)]
  · rw [jn_calc1 i hi j hj (by omega)]
theorem c_K_numberOf (i j : Nat) (hi : i < 12) (hj : j < 12) (h : mMem) : mCon l g n_K_numberOf d [.inl i, .inl j] h (mIs (some (.inl (jn i j))) h) := by
  refine e_K_numberOf (fun hv hm => ?_)
  refine mGo_wp h_K_numberOf 40 [] ?_
  refine ⟨fun c => ⟨by decide, ?_, rfl⟩, fun c => ⟨by decide, ?_, rfl⟩⟩
  · rw [jn_calc2 i hi j hj (by omega)]
  · rw [jn_calc1 i hi j hj (by omega)]
theorem c_M_joinsOf (p : Nat) (hp : p < 13) (h : mMem) : mCon l g n_M_joinsOf d [.inl p] h (mIs (some (.inl (js p))) h) := by
  refine e_M_joinsOf (fun hv hm => ?_)
  refine mGo_wp h_M_joinsOf 40 [] ?_
  refine ⟨by decide, ?_, rfl⟩
  rw [js_calc p hp]
theorem c_Net_joinCount (i : Fin 8) (p : Nat) (hp : p < 13) (h : mMem) (e : h 4 i 0 = p) : mCon l g n_Net_joinCount d [.inr (4, i)] h (mIs (some (.inl (js p))) h) := by
  refine e_Net_joinCount (fun hv hm => ?_)
  refine mGo_wp h_Net_joinCount 40 [] ?_
  refine ⟨by decide, ?_, rfl⟩
  rw [e, js_calc p hp]
theorem c_M_isPoint (q : Int) (p : Nat) (hp : p < 13) (h : mMem) (e : h 9 0 0 = p) : mCon l g n_M_isPoint (d + 1) [.inr (9, 0), .inl q] h (mIs (some (.inl (mB (0 ≤ q ∧ q < p)))) h) := by
  refine e_M_isPoint (fun hv hm => ?_)
  refine mGo_wp h_M_isPoint 40 [] ?_
  refine mCall_is (c_M_isIn _ _ _ _) ?_
  refine ⟨mB_01 _, ?_, rfl⟩
  rw [e, mWr_of ⟨by omega, by omega⟩]
  exact congrArg (fun x => some (Sum.inl x)) (mB_congr (by omega))
theorem c_M_isColour (q : Int) (c : Nat) (hp : c < 4) (h : mMem) (e : h 9 0 1 = c) : mCon l g n_M_isColour (d + 1) [.inr (9, 0), .inl q] h (mIs (some (.inl (mB (0 ≤ q ∧ q < c)))) h) := by
  refine e_M_isColour (fun hv hm => ?_)
  refine mGo_wp h_M_isColour 40 [] ?_
  refine mCall_is (c_M_isIn _ _ _ _) ?_
  refine ⟨mB_01 _, ?_, rfl⟩
  rw [e, mWr_of ⟨by omega, by omega⟩]
  exact congrArg (fun x => some (Sum.inl x)) (mB_congr (by omega))
theorem c_Net_hasPoint (i : Fin 8) (q : Int) (h : mMem) : mCon l g n_Net_hasPoint d [.inr (4, i), .inl q] h (mIs (some (.inl (mB (0 ≤ q ∧ q < h 4 i 0)))) h) := by
  refine e_Net_hasPoint (fun hv hm => ?_)
  refine mGo_wp h_Net_hasPoint 40 [] ?_
  refine ⟨fun c => ?_, fun c => ⟨fun c2 => ?_, fun c2 => ?_⟩⟩
  · exact ⟨Or.inl rfl, by rw [mB_f (by omega)], rfl⟩
  · exact ⟨Or.inl rfl, by rw [mB_f (by omega)], rfl⟩
  · exact ⟨Or.inr rfl, by rw [mB_t (by omega)], rfl⟩
theorem c_Net_hasColour (i : Fin 8) (q : Int) (h : mMem) : mCon l g n_Net_hasColour d [.inr (4, i), .inl q] h (mIs (some (.inl (mB (0 ≤ q ∧ q < h 4 i 1)))) h) := by
  refine e_Net_hasColour (fun hv hm => ?_)
  refine mGo_wp h_Net_hasColour 40 [] ?_
  refine ⟨fun c => ?_, fun c => ⟨fun c2 => ?_, fun c2 => ?_⟩⟩
  · exact ⟨Or.inl rfl, by rw [mB_f (by omega)], rfl⟩
  · exact ⟨Or.inl rfl, by rw [mB_f (by omega)], rfl⟩
  · exact ⟨Or.inr rfl, by rw [mB_t (by omega)], rfl⟩
theorem c_Net_hasJoin (i : Fin 8) (a b : Int) (h : mMem) : mCon l g n_Net_hasJoin (d + 1) [.inr (4, i), .inl a, .inl b] h (mIs (some (.inl (mB ((0 ≤ a ∧ a < h 4 i 0) ∧ (0 ≤ b ∧ b < h 4 i 0) ∧ a ≠ b)))) h) := by
  refine e_Net_hasJoin (fun hv hm => ?_)
  refine mGo_wp h_Net_hasJoin 40 [] ?_
  refine mCall_is (c_Net_hasPoint i a h) ?_
  refine ⟨fun c => ?_, fun c => ?_⟩
  · rw [mB_eq0] at c
    exact ⟨Or.inl rfl, by rw [mB_f (fun z => c z.1)], rfl⟩
  · have c := mB_ne0.mp c
    refine mCall_is (c_Net_hasPoint i b h) ?_
    refine ⟨fun c2 => ?_, fun c2 => ⟨fun c3 => ?_, fun c3 => ?_⟩⟩
    · rw [mB_eq0] at c2
      exact ⟨Or.inl rfl, by rw [mB_f (fun z => c2 z.2.1)], rfl⟩
    · exact ⟨Or.inl rfl, by rw [mB_f (fun z => z.2.2 c3)], rfl⟩
    · exact ⟨Or.inr rfl, by rw [mB_t ⟨c, mB_ne0.mp c2, c3⟩], rfl⟩
theorem c_Net_hasColourOrBare (i : Fin 8) (q : Int) (h : mMem) : mCon l g n_Net_hasColourOrBare (d + 1) [.inr (4, i), .inl q] h (mIs (some (.inl (mB (q = -1 ∨ (0 ≤ q ∧ q < h 4 i 1))))) h) := by
  refine e_Net_hasColourOrBare (fun hv hm => ?_)
  refine mGo_wp h_Net_hasColourOrBare 40 [] ?_
  refine ⟨fun c => ?_, fun c => ?_⟩
  · exact ⟨Or.inr rfl, by rw [mB_t (Or.inl c)], rfl⟩
  · refine mCall_is (c_Net_hasColour i q h) ?_
    refine ⟨fun c2 => ?_, fun c2 => ?_⟩
    · rw [mB_eq0] at c2
      exact ⟨Or.inl rfl, by rw [mB_f (fun z => z.elim c c2)], rfl⟩
    · exact ⟨Or.inr rfl, by rw [mB_t (Or.inr (mB_ne0.mp c2))], rfl⟩
theorem c_M_areTwo (a b : Int) (p : Nat) (hp : p < 13) (h : mMem) (e : h 9 0 0 = p) : mCon l g n_M_areTwo (d + 2) [.inr (9, 0), .inl a, .inl b] h (mIs (some (.inl (mB ((0 ≤ a ∧ a < p) ∧ (0 ≤ b ∧ b < p) ∧ a ≠ b)))) h) := by
  refine e_M_areTwo (fun hv hm => ?_)
  refine mGo_wp h_M_areTwo 40 [] ?_
  refine mCall_is (c_M_isPoint a p hp h e) ?_
  refine ⟨fun c => ?_, fun c => ?_⟩
  · rw [mB_eq0] at c
    exact ⟨Or.inl rfl, by rw [mB_f (fun z => c z.1)], rfl⟩
  · have c := mB_ne0.mp c
    refine mCall_is (c_M_isPoint b p hp h e) ?_
    refine ⟨fun c2 => ?_, fun c2 => ⟨fun c3 => ?_, fun c3 => ?_⟩⟩
    · rw [mB_eq0] at c2
      exact ⟨Or.inl rfl, by rw [mB_f (fun z => c2 z.2.1)], rfl⟩
    · exact ⟨Or.inl rfl, by rw [mB_f (fun z => z.2.2 c3)], rfl⟩
    · exact ⟨Or.inr rfl, by rw [mB_t ⟨c, mB_ne0.mp c2, c3⟩], rfl⟩
end Leaves
