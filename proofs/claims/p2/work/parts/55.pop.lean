/-! the count of bits, choosing, the masks -/
def bc (x : Nat) : Nat := cn (fun q => x.testBit q) 12
def pc1 (x : Int) : Int := mWr (x - mAnd (mUsh x 1) 1431655765)
def pc2 (x : Int) : Int := mWr (mAnd x 858993459 + mAnd (mUsh x 2) 858993459)
def pc3 (x : Int) : Int := mAnd (mWr (x + mUsh x 4)) 252645135
def pc4 (x : Int) : Int := mWr (x + mUsh x 8)
def pc5 (x : Int) : Int := mAnd (mWr (x + mUsh x 16)) 63
theorem pop_0 : ∀ u, u < 512 → pc5 (pc4 (pc3 (pc2 (pc1 ((u + 0 : Nat) : Int))))) = (bc (u + 0) : Nat) := by decide +kernel
theorem pop_1 : ∀ u, u < 512 → pc5 (pc4 (pc3 (pc2 (pc1 ((u + 512 : Nat) : Int))))) = (bc (u + 512) : Nat) := by decide +kernel
theorem pop_2 : ∀ u, u < 512 → pc5 (pc4 (pc3 (pc2 (pc1 ((u + 1024 : Nat) : Int))))) = (bc (u + 1024) : Nat) := by decide +kernel
theorem pop_3 : ∀ u, u < 512 → pc5 (pc4 (pc3 (pc2 (pc1 ((u + 1536 : Nat) : Int))))) = (bc (u + 1536) : Nat) := by decide +kernel
theorem pop_4 : ∀ u, u < 512 → pc5 (pc4 (pc3 (pc2 (pc1 ((u + 2048 : Nat) : Int))))) = (bc (u + 2048) : Nat) := by decide +kernel
theorem pop_5 : ∀ u, u < 512 → pc5 (pc4 (pc3 (pc2 (pc1 ((u + 2560 : Nat) : Int))))) = (bc (u + 2560) : Nat) := by decide +kernel
theorem pop_6 : ∀ u, u < 512 → pc5 (pc4 (pc3 (pc2 (pc1 ((u + 3072 : Nat) : Int))))) = (bc (u + 3072) : Nat) := by decide +kernel
theorem pop_7 : ∀ u, u < 512 → pc5 (pc4 (pc3 (pc2 (pc1 ((u + 3584 : Nat) : Int))))) = (bc (u + 3584) : Nat) := by decide +kernel
theorem pop_at (u : Nat) (hu : u < 4096) : pc5 (pc4 (pc3 (pc2 (pc1 (u : Int))))) = (bc u : Nat) := by
  rcases (show u < 512 ∨ (512 ≤ u ∧ u < 1024) ∨ (1024 ≤ u ∧ u < 1536) ∨ (1536 ≤ u ∧ u < 2048) ∨ (2048 ≤ u ∧ u < 2560) ∨ (2560 ≤ u ∧ u < 3072) ∨ (3072 ≤ u ∧ u < 3584) ∨ (3584 ≤ u ∧ u < 4096) by omega) with h | h | h | h | h | h | h | h
  · have q := pop_0 (u - 0) (by omega)
    rw [show u - 0 + 0 = u by omega] at q
    exact q
  · have q := pop_1 (u - 512) (by omega)
    rw [show u - 512 + 512 = u by omega] at q
    exact q
  · have q := pop_2 (u - 1024) (by omega)
    rw [show u - 1024 + 1024 = u by omega] at q
    exact q
  · have q := pop_3 (u - 1536) (by omega)
    rw [show u - 1536 + 1536 = u by omega] at q
    exact q
  · have q := pop_4 (u - 2048) (by omega)
    rw [show u - 2048 + 2048 = u by omega] at q
    exact q
  · have q := pop_5 (u - 2560) (by omega)
    rw [show u - 2560 + 2560 = u by omega] at q
    exact q
  · have q := pop_6 (u - 3072) (by omega)
    rw [show u - 3072 + 3072 = u by omega] at q
    exact q
  · have q := pop_7 (u - 3584) (by omega)
    rw [show u - 3584 + 3584 = u by omega] at q
    exact q
section Bits2
variable {l : Launch} {g : mG} {d : Nat}
theorem c_Int_bitCount (u : Nat) (hu : u < 4096) (h : mMem) : mCon l g n_Int_bitCount d [.inl u] h (mIs (some (.inl (bc u : Nat))) h) := by
  refine e_Int_bitCount (fun hv hm => ?_)
  refine mGo_wp h_Int_bitCount 80 [] ?_
  refine ⟨?_, rfl⟩
  show some (Sum.inl (pc5 (pc4 (pc3 (pc2 (pc1 (u : Int))))))) = _
  rw [pop_at u hu]
end Bits2
