/-- the bits of a row's points -/
def bitR (r : List Nat) : Nat → Nat
  | 0 => 0
  | j + 1 => bitR r j ||| 2 ^ (r.getD j 0)
theorem bitR_lt (r : List Nat) (hr : ∀ x ∈ r, x < 12) : ∀ j, j ≤ r.length → bitR r j < 4096
  | 0, _ => by show 0 < 4096; decide
  | j + 1, hj => by
    have h1 := bitR_lt r hr j (by omega)
    have h2 : 2 ^ (r.getD j 0) < 2 ^ 12 := Nat.pow_lt_pow_right (by decide) (hr _ (getD_mem (by omega)))
    exact Nat.or_lt_two_pow (n := 12) h1 h2
section Take
variable {l : Launch} {g : mG} {d : Nat}
theorem l_M_bitsOf (r : List Nat) (hr : ∀ x ∈ r, x < 12) (hl : r.length ≤ 7) (h : mMem) (er : rowAt h r) : ∀ (n k : Nat), k + n = r.length → mGo l g (mMt n_M_bitsOf) d 4 [some (.inr (9, 0)), some (.inl r.length), some (.inl (bitR r k : Nat)), some (.inl k)] [] h (mIs (some (.inl (bitR r r.length : Nat))) h) := by
  intro n
  induction n with
  | zero =>
    intro k hk
    refine mGo_wp h_M_bitsOf 40 [4] ?_
    have : k = r.length := by omega
    subst this
    exact ⟨fun _ => ⟨rfl, rfl⟩, fun z => by omega⟩
  | succ n ih =>
    intro k hk
    refine mGo_wp h_M_bitsOf 40 [4] ?_
    refine ⟨fun z => by omega, fun _ => ⟨⟨by omega, by omega⟩, ?_⟩⟩
    have q := ih (k + 1) (by omega)
    have hb := bitR_lt r hr k (by omega)
    have hx := hr _ (getD_mem (r := r) (j := k) (by omega))
    have h2 : 2 ^ (r.getD k 0) < 2 ^ 12 := Nat.pow_lt_pow_right (by decide) hx
    show mGo l g _ _ 4 [_, _, some (.inl (mOr ((bitR r k : Nat) : Int) (mShl 1 (h 44 0 (Int.toNat (k : Int)))))), some (.inl (mWr ((k : Int) + 1)))] [] _ _
    rw [mWr_of ⟨by omega, by omega⟩, Int.toNat_natCast, er k (by omega), mShl_1 _ (by omega), mOr_nat (by omega) (by omega)]
    exact q
theorem c_M_bitsOf (r : List Nat) (hr : ∀ x ∈ r, x < 12) (hl : r.length ≤ 7) (h : mMem) (er : rowAt h r) : mCon l g n_M_bitsOf d [.inr (9, 0), .inl r.length] h (mIs (some (.inl (bitR r r.length : Nat))) h) := by
  refine e_M_bitsOf (fun hv hm => ?_)
  refine mGo_wp h_M_bitsOf 40 [4] ?_
  exact l_M_bitsOf r hr hl h er r.length 0 (by omega)
end Take
