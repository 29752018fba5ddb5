def cn (f : Nat → Bool) : Nat → Nat
  | 0 => 0
  | n + 1 => cn f n + (if f n = true then 1 else 0)
theorem cn_le (f : Nat → Bool) : ∀ n, cn f n ≤ n
  | 0 => Nat.le_refl 0
  | n + 1 => by
    have := cn_le f n
    show cn f n + (if f n = true then 1 else 0) ≤ n + 1
    split <;> omega
theorem cn_t {f : Nat → Bool} {n : Nat} (h : f n = true) : cn f (n + 1) = cn f n + 1 := by
  show cn f n + (if f n = true then 1 else 0) = _
  rw [if_pos h]
theorem cn_f {f : Nat → Bool} {n : Nat} (h : ¬ f n = true) : cn f (n + 1) = cn f n := by
  show cn f n + (if f n = true then 1 else 0) = _
  rw [if_neg h]; rfl
theorem jn_comm : ∀ i, i < 12 → ∀ j, j < 12 → jn i j = jn j i := by decide +kernel
def nBare (N : nN) : Nat := cn (fun k => decide (nT N k = -1)) (js (nP N))
section Counts
variable {l : Launch} {g : mG} {d : Nat}
theorem l_Net_bareCount (i : Fin 8) (N : nN) (h : mMem) (o : nOk N) (e : isC h i N) : ∀ (n k : Nat), k + n = js (nP N) → mGo l g (mMt n_Net_bareCount) (d + 1) 4 [some (.inr (4, i)), some (.inl (cn (fun k => decide (nT N k = -1)) k : Nat)), some (.inl k)] [] h (mIs (some (.inl (nBare N))) h) := by
  have hp := o.1.2
  have hj := js_le (nP N) (by omega)
  intro n
  induction n with
  | zero =>
    intro k hk
    refine mGo_wp h_Net_bareCount 40 [4] ?_
    refine mCall_is (c_Net_joinCount i (nP N) (by omega) h e.1) ?_
    refine ⟨fun c => ⟨?_, rfl⟩, fun c => by omega⟩
    have : k = js (nP N) := by omega
    subst this
    rfl
  | succ n ih =>
    intro k hk
    have hc := cn_le (fun k => decide (nT N k = -1)) k
    refine mGo_wp h_Net_bareCount 40 [4] ?_
    refine mCall_is (c_Net_joinCount i (nP N) (by omega) h e.1) ?_
    refine ⟨fun c => by omega, fun c => ⟨⟨by omega, by omega⟩, ⟨fun c2 => ?_, fun c2 => ?_⟩⟩⟩
    · rw [Int.toNat_natCast, e.2.2.2.2.1 k (by omega)] at c2
      have q := ih (k + 1) (by omega)
      rw [cn_f (by simpa using c2)] at q
      show mGo l g _ _ 4 [_, _, some (.inl (mWr ((k : Int) + 1)))] [] _ _
      rw [mWr_of ⟨by omega, by omega⟩]
      exact q
    · rw [Int.toNat_natCast, e.2.2.2.2.1 k (by omega)] at c2
      have q := ih (k + 1) (by omega)
      rw [cn_t (by simpa using c2)] at q
      show mGo l g _ _ 4 [_, some (.inl (mWr (((cn (fun k => decide (nT N k = -1)) k : Nat) : Int) + 1))), some (.inl (mWr ((k : Int) + 1)))] [] _ _
      rw [mWr_of ⟨by omega, by omega⟩, mWr_of ⟨by omega, by omega⟩]
      exact q
theorem c_Net_bareCount (i : Fin 8) (N : nN) (h : mMem) (o : nOk N) (e : isC h i N) : mCon l g n_Net_bareCount (d + 1) [.inr (4, i)] h (mIs (some (.inl (nBare N))) h) := by
  refine e_Net_bareCount (fun hv hm => ?_)
  refine mGo_wp h_Net_bareCount 40 [4] ?_
  exact l_Net_bareCount i N h o e (js (nP N)) 0 (by omega)
theorem l_M_bare (N : nN) (h : mMem) (o : nOk N) (e : isM h N) : ∀ (n k : Nat), k + n = js (nP N) → mGo l g (mMt n_M_bare) (d + 1) 4 [some (.inr (9, 0)), some (.inl (cn (fun k => decide (nT N k = -1)) k : Nat)), some (.inl k)] [] h (mIs (some (.inl (nBare N))) h) := by
  have hp := o.1.2
  have hj := js_le (nP N) (by omega)
  intro n
  induction n with
  | zero =>
    intro k hk
    refine mGo_wp h_M_bare 40 [4] ?_
    have e1 := e.1
    refine mCall_is (show mCon l g n_M_joinsOf d [.inl (h 9 0 0)] h _ from e1 ▸ c_M_joinsOf (nP N) (by omega) h) ?_
    refine ⟨fun c => ⟨?_, rfl⟩, fun c => by omega⟩
    have : k = js (nP N) := by omega
    subst this
    rfl
  | succ n ih =>
    intro k hk
    have hc := cn_le (fun k => decide (nT N k = -1)) k
    have ht := o.2.2.2.1 k (by omega)
    refine mGo_wp h_M_bare 40 [4] ?_
    have e1 := e.1
    refine mCall_is (show mCon l g n_M_joinsOf d [.inl (h 9 0 0)] h _ from e1 ▸ c_M_joinsOf (nP N) (by omega) h) ?_
    refine ⟨fun c => by omega, fun c => ⟨⟨by omega, by omega⟩, ⟨fun c2 => ?_, fun c2 => ?_⟩⟩⟩
    · rw [Int.toNat_natCast, e.2.2.2.2 k (by omega)] at c2
      have q := ih (k + 1) (by omega)
      rw [cn_f (by simp; omega)] at q
      show mGo l g _ _ 4 [_, some (.inl (mWr (((cn (fun k => decide (nT N k = -1)) k : Nat) : Int) + 0))), some (.inl (mWr ((k : Int) + 1)))] [] _ _
      rw [mWr_of ⟨by omega, by omega⟩, mWr_of ⟨by omega, by omega⟩]
      exact q
    · rw [Int.toNat_natCast, e.2.2.2.2 k (by omega)] at c2
      have q := ih (k + 1) (by omega)
      rw [cn_t (by simp; omega)] at q
      show mGo l g _ _ 4 [_, some (.inl (mWr (((cn (fun k => decide (nT N k = -1)) k : Nat) : Int) + 1))), some (.inl (mWr ((k : Int) + 1)))] [] _ _
      rw [mWr_of ⟨by omega, by omega⟩, mWr_of ⟨by omega, by omega⟩]
      exact q
theorem c_M_bare (N : nN) (h : mMem) (o : nOk N) (e : isM h N) : mCon l g n_M_bare (d + 1) [.inr (9, 0)] h (mIs (some (.inl (nBare N))) h) := by
  refine e_M_bare (fun hv hm => ?_)
  refine mGo_wp h_M_bare 40 [4] ?_
  exact l_M_bare N h o e (js (nP N)) 0 (by omega)
theorem l_K_power (b e : Nat) (hb : b ≤ 3) (he : e ≤ 100) (h : mMem) : ∀ (n k : Nat), k + n = e → mGo l g (mMt n_K_power) d 4 [some (.inl b), some (.inl e), some (.inl (pw b k : Nat)), some (.inl k)] [] h (mIs (some (.inl (pw b e : Nat))) h) := by
  intro n
  induction n with
  | zero =>
    intro k hk
    refine mGo_wp h_K_power 40 [4] ?_
    have : k = e := by omega
    subst this
    exact ⟨fun c => ⟨rfl, rfl⟩, fun c => by omega⟩
  | succ n ih =>
    intro k hk
    have hw := pw_le b hb k
    refine mGo_wp h_K_power 40 [4] ?_
    refine ⟨fun c => by omega, fun c => ⟨fun c2 => ⟨?_, rfl⟩, fun c2 => ?_⟩⟩
    · have q := pw_stop b (e := k) (by omega) (n + 1)
      rw [show k + (n + 1) = e by omega] at q
      rw [q]
    · have q := ih (k + 1) (by omega)
      have e1 : pw b (k + 1) = pw b k * b := by
        show (if pw b k ≤ 60000 then pw b k * b else pw b k) = _
        rw [if_pos (by omega)]
      have hmul : pw b k * b ≤ 60000 * 3 := Nat.mul_le_mul (by omega) hb
      rw [e1] at q
      show mGo l g _ _ 4 [_, _, some (.inl (mWr (((pw b k : Nat) : Int) * (b : Int)))), some (.inl (mWr ((k : Int) + 1)))] [] _ _
      rw [← Int.natCast_mul, mWr_of ⟨by omega, by omega⟩, mWr_of ⟨by omega, by omega⟩]
      exact q
theorem c_K_power (b e : Nat) (hb : b ≤ 3) (he : e ≤ 100) (h : mMem) : mCon l g n_K_power d [.inl b, .inl e] h (mIs (some (.inl (pw b e : Nat))) h) := by
  refine e_K_power (fun hv hm => ?_)
  refine mGo_wp h_K_power 40 [4] ?_
  exact l_K_power b e hb he h e 0 (by omega)
theorem l_M_power (b e : Nat) (hb : b ≤ 3) (he : e ≤ 100) (h : mMem) : ∀ (n k : Nat), k + n = e → mGo l g (mMt n_M_power) d 4 [some (.inl b), some (.inl e), some (.inl (pw b k : Nat)), some (.inl k)] [] h (mIs (some (.inl (pw b e : Nat))) h) := by
  intro n
  induction n with
  | zero =>
    intro k hk
    refine mGo_wp h_M_power 40 [4] ?_
    have : k = e := by omega
    subst this
    exact ⟨fun c => ⟨rfl, rfl⟩, fun c => by omega⟩
  | succ n ih =>
    intro k hk
    have hw := pw_le b hb k
    refine mGo_wp h_M_power 40 [4] ?_
    refine ⟨fun c => by omega, fun c => ⟨fun c2 => ⟨?_, rfl⟩, fun c2 => ?_⟩⟩
    · have q := pw_stop b (e := k) (by omega) (n + 1)
      rw [show k + (n + 1) = e by omega] at q
      rw [q]
    · have q := ih (k + 1) (by omega)
      have e1 : pw b (k + 1) = pw b k * b := by
        show (if pw b k ≤ 60000 then pw b k * b else pw b k) = _
        rw [if_pos (by omega)]
      have hmul : pw b k * b ≤ 60000 * 3 := Nat.mul_le_mul (by omega) hb
      rw [e1] at q
      show mGo l g _ _ 4 [_, _, some (.inl (mWr (((pw b k : Nat) : Int) * (b : Int)))), some (.inl (mWr ((k : Int) + 1)))] [] _ _
      rw [← Int.natCast_mul, mWr_of ⟨by omega, by omega⟩, mWr_of ⟨by omega, by omega⟩]
      exact q
theorem c_M_power (b e : Nat) (hb : b ≤ 3) (he : e ≤ 100) (h : mMem) : mCon l g n_M_power d [.inl b, .inl e] h (mIs (some (.inl (pw b e : Nat))) h) := by
  refine e_M_power (fun hv hm => ?_)
  refine mGo_wp h_M_power 40 [4] ?_
  exact l_M_power b e hb he h e 0 (by omega)
end Counts
