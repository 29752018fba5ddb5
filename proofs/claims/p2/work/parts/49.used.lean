theorem bit_at_0 : ∀ p, p < 12 → ∀ u, u < 512 → mAnd (mShr ((u + 0 : Nat) : Int) ((p : Nat) : Int)) 1 = (if (u + 0).testBit p then 1 else 0) := by decide +kernel
theorem bit_at_1 : ∀ p, p < 12 → ∀ u, u < 512 → mAnd (mShr ((u + 512 : Nat) : Int) ((p : Nat) : Int)) 1 = (if (u + 512).testBit p then 1 else 0) := by decide +kernel
theorem bit_at_2 : ∀ p, p < 12 → ∀ u, u < 512 → mAnd (mShr ((u + 1024 : Nat) : Int) ((p : Nat) : Int)) 1 = (if (u + 1024).testBit p then 1 else 0) := by decide +kernel
theorem bit_at_3 : ∀ p, p < 12 → ∀ u, u < 512 → mAnd (mShr ((u + 1536 : Nat) : Int) ((p : Nat) : Int)) 1 = (if (u + 1536).testBit p then 1 else 0) := by decide +kernel
theorem bit_at_4 : ∀ p, p < 12 → ∀ u, u < 512 → mAnd (mShr ((u + 2048 : Nat) : Int) ((p : Nat) : Int)) 1 = (if (u + 2048).testBit p then 1 else 0) := by decide +kernel
theorem bit_at_5 : ∀ p, p < 12 → ∀ u, u < 512 → mAnd (mShr ((u + 2560 : Nat) : Int) ((p : Nat) : Int)) 1 = (if (u + 2560).testBit p then 1 else 0) := by decide +kernel
theorem bit_at_6 : ∀ p, p < 12 → ∀ u, u < 512 → mAnd (mShr ((u + 3072 : Nat) : Int) ((p : Nat) : Int)) 1 = (if (u + 3072).testBit p then 1 else 0) := by decide +kernel
theorem bit_at_7 : ∀ p, p < 12 → ∀ u, u < 512 → mAnd (mShr ((u + 3584 : Nat) : Int) ((p : Nat) : Int)) 1 = (if (u + 3584).testBit p then 1 else 0) := by decide +kernel
/-- the bit of a point -/
theorem bit_at (u p : Nat) (hu : u < 4096) (hp : p < 12) : mAnd (mShr (u : Int) (p : Int)) 1 = (if u.testBit p then 1 else 0) := by
  rcases (show u < 512 ∨ (512 ≤ u ∧ u < 1024) ∨ (1024 ≤ u ∧ u < 1536) ∨ (1536 ≤ u ∧ u < 2048) ∨ (2048 ≤ u ∧ u < 2560) ∨ (2560 ≤ u ∧ u < 3072) ∨ (3072 ≤ u ∧ u < 3584) ∨ (3584 ≤ u ∧ u < 4096) by omega) with h | h | h | h | h | h | h | h
  · have q := bit_at_0 p hp (u - 0) (by omega)
    rw [show u - 0 + 0 = u by omega] at q
    exact q
  · have q := bit_at_1 p hp (u - 512) (by omega)
    rw [show u - 512 + 512 = u by omega] at q
    exact q
  · have q := bit_at_2 p hp (u - 1024) (by omega)
    rw [show u - 1024 + 1024 = u by omega] at q
    exact q
  · have q := bit_at_3 p hp (u - 1536) (by omega)
    rw [show u - 1536 + 1536 = u by omega] at q
    exact q
  · have q := bit_at_4 p hp (u - 2048) (by omega)
    rw [show u - 2048 + 2048 = u by omega] at q
    exact q
  · have q := bit_at_5 p hp (u - 2560) (by omega)
    rw [show u - 2560 + 2560 = u by omega] at q
    exact q
  · have q := bit_at_6 p hp (u - 3072) (by omega)
    rw [show u - 3072 + 3072 = u by omega] at q
    exact q
  · have q := bit_at_7 p hp (u - 3584) (by omega)
    rw [show u - 3584 + 3584 = u by omega] at q
    exact q
