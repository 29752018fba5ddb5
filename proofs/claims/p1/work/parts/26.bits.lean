theorem mBv (x : Nat) : (Int32.ofInt (x : Int)).toBitVec = BitVec.ofNat 32 x := by
  rw [Int32.toBitVec_ofInt, BitVec.ofInt_natCast]
theorem mBv_to {x : Nat} (hx : x < 2147483648) (z : Int32) (h : z.toBitVec.toNat = x) : z.toInt = (x : Int) := by
  rw [← Int32.toInt_toBitVec, BitVec.toInt_eq_toNat_of_lt (by rw [h]; omega), h]
theorem mXor_nat {x y : Nat} (hx : x < 2147483648) (hy : y < 2147483648) : mXor x y = ((x ^^^ y : Nat) : Int) := by
  unfold mXor
  refine mBv_to (Nat.xor_lt_two_pow (n := 31) hx hy) _ ?_
  show ((Int32.ofInt (x : Int)).toBitVec ^^^ (Int32.ofInt (y : Int)).toBitVec).toNat = _
  rw [mBv, mBv, BitVec.toNat_xor, BitVec.toNat_ofNat, BitVec.toNat_ofNat, Nat.mod_eq_of_lt (by omega), Nat.mod_eq_of_lt (by omega)]
theorem mAnd_nat {x y : Nat} (hx : x < 2147483648) (hy : y < 2147483648) : mAnd x y = ((x &&& y : Nat) : Int) := by
  unfold mAnd
  refine mBv_to (Nat.and_lt_two_pow (n := 31) x hy) _ ?_
  show ((Int32.ofInt (x : Int)).toBitVec &&& (Int32.ofInt (y : Int)).toBitVec).toNat = _
  rw [mBv, mBv, BitVec.toNat_and, BitVec.toNat_ofNat, BitVec.toNat_ofNat, Nat.mod_eq_of_lt (by omega), Nat.mod_eq_of_lt (by omega)]
theorem mOr_nat {x y : Nat} (hx : x < 2147483648) (hy : y < 2147483648) : mOr x y = ((x ||| y : Nat) : Int) := by
  unfold mOr
  refine mBv_to (Nat.or_lt_two_pow (n := 31) hx hy) _ ?_
  show ((Int32.ofInt (x : Int)).toBitVec ||| (Int32.ofInt (y : Int)).toBitVec).toNat = _
  rw [mBv, mBv, BitVec.toNat_or, BitVec.toNat_ofNat, BitVec.toNat_ofNat, Nat.mod_eq_of_lt (by omega), Nat.mod_eq_of_lt (by omega)]
theorem mShl_1 : ∀ r : Nat, r < 31 → mShl 1 (r : Int) = ((2 ^ r : Nat) : Int) := by decide +kernel
theorem nrB_lt (T : Nat → Int) (c q : Nat) : ∀ r, nrB T c q r < 2 ^ r
  | 0 => by show 0 < 2 ^ 0; decide
  | r + 1 => by
    have := nrB_lt T c q r
    show nrB T c q r + (if r ≠ q ∧ T (jn q r) = c then 2 ^ r else 0) < 2 ^ (r + 1)
    rw [Nat.pow_succ]
    split <;> omega
theorem nrB_bit (T : Nat → Int) (c q : Nat) : ∀ r j, (nrB T c q r).testBit j = decide (j < r ∧ j ≠ q ∧ T (jn q j) = c)
  | 0, j => by
    show (0 : Nat).testBit j = _
    rw [Nat.zero_testBit]
    simp
  | r + 1, j => by
    have ih := nrB_bit T c q r
    have hlt := nrB_lt T c q r
    show (nrB T c q r + (if r ≠ q ∧ T (jn q r) = c then 2 ^ r else 0)).testBit j = _
    by_cases hc : r ≠ q ∧ T (jn q r) = c
    · rw [if_pos hc, Nat.add_comm]
      rcases Nat.lt_trichotomy j r with h1 | h1 | h1
      · rw [Nat.testBit_two_pow_add_gt h1, ih j]
        exact decide_eq_decide.mpr ⟨fun z => ⟨by omega, z.2⟩, fun z => ⟨h1, z.2⟩⟩
      · subst h1
        rw [Nat.testBit_two_pow_add_eq, Nat.testBit_lt_two_pow hlt]
        exact (decide_eq_true ⟨by omega, hc⟩).symm
      · rw [Nat.testBit_lt_two_pow (Nat.lt_of_lt_of_le (show 2 ^ r + nrB T c q r < 2 ^ (r + 1) by rw [Nat.pow_succ]; omega) (Nat.pow_le_pow_right (by decide) (by omega)))]
        exact (decide_eq_false (fun z => by omega)).symm
    · rw [if_neg hc, Nat.add_zero, ih j]
      refine decide_eq_decide.mpr ⟨fun z => ⟨by omega, z.2⟩, fun z => ⟨?_, z.2⟩⟩
      by_cases hj : j = r
      · subst hj
        exact absurd z.2 hc
      · omega
theorem nr_lt (T : Nat → Int) (c q : Nat) : nr T c q < 4096 := nrB_lt T c q 12
theorem nr_bit (T : Nat → Int) (c q j : Nat) : (nr T c q).testBit j = decide (j < 12 ∧ j ≠ q ∧ T (jn q j) = c) := nrB_bit T c q 12 j
/-- the two points of a join -/
def jlo (k : Nat) : Nat := ((mTab 103).getD k 0).toNat
def jhi (k : Nat) : Nat := ((mTab 104).getD k 0).toNat
theorem jlo_tab : ∀ k, k < 66 → (mTab 103).getD k 0 = (jlo k : Int) ∧ (mTab 104).getD k 0 = (jhi k : Int) ∧ jlo k < jhi k ∧ jhi k < 12 ∧ jn (jlo k) (jhi k) = k := by decide +kernel
theorem jn_inj : ∀ q, q < 12 → ∀ j, j < 12 → q ≠ j → jlo (jn q j) = min q j ∧ jhi (jn q j) = max q j := by decide +kernel
theorem jn_iff {q j k : Nat} (hq : q < 12) (hj : j < 12) (hne : q ≠ j) (hk : k < 66) : jn q j = k ↔ (q = jlo k ∧ j = jhi k) ∨ (q = jhi k ∧ j = jlo k) := by
  obtain ⟨-, -, h3, h4, h5⟩ := jlo_tab k hk
  constructor
  · rintro rfl
    obtain ⟨a, b⟩ := jn_inj q hq j hj hne
    omega
  · rintro (⟨rfl, rfl⟩ | ⟨rfl, rfl⟩)
    · exact h5
    · rw [jn_comm _ h4 _ (by omega)]
      exact h5
def tSet (T : Nat → Int) (k : Nat) (v : Int) : Nat → Int := fun j => if j = k then v else T j
theorem nr_flip_lo (T : Nat → Int) (k c : Nat) (hk : k < 66) : nr (tSet T k c) c (jlo k) = nr (tSet T k (-1)) c (jlo k) ^^^ 2 ^ jhi k := by
  obtain ⟨-, -, h3, h4, h5⟩ := jlo_tab k hk
  apply Nat.eq_of_testBit_eq
  intro j
  rw [Nat.testBit_xor, nr_bit, nr_bit, Nat.testBit_two_pow]
  by_cases hj : j = jhi k
  · subst hj
    have e1 : tSet T k c (jn (jlo k) (jhi k)) = c := by rw [h5]; exact if_pos rfl
    have e2 : tSet T k (-1) (jn (jlo k) (jhi k)) = -1 := by rw [h5]; exact if_pos rfl
    rw [decide_eq_true ⟨h4, by omega, e1⟩, decide_eq_false (fun z => by rw [e2] at z; omega), decide_eq_true rfl]
    rfl
  · rw [decide_eq_false (p := jhi k = j) (fun z => hj z.symm), Bool.xor_false]
    refine decide_eq_decide.mpr ?_
    by_cases hb : j < 12 ∧ j ≠ jlo k
    · have hn : jn (jlo k) j ≠ k := fun z => by
        have := (jn_iff (by omega) hb.1 (fun y => hb.2 y.symm) hk).mp z
        omega
      have e1 : ∀ v, tSet T k v (jn (jlo k) j) = T (jn (jlo k) j) := fun v => if_neg hn
      rw [e1, e1]
    · exact ⟨fun z => absurd ⟨z.1, z.2.1⟩ hb, fun z => absurd ⟨z.1, z.2.1⟩ hb⟩
theorem nr_flip_hi (T : Nat → Int) (k c : Nat) (hk : k < 66) : nr (tSet T k c) c (jhi k) = nr (tSet T k (-1)) c (jhi k) ^^^ 2 ^ jlo k := by
  obtain ⟨-, -, h3, h4, h5⟩ := jlo_tab k hk
  apply Nat.eq_of_testBit_eq
  intro j
  rw [Nat.testBit_xor, nr_bit, nr_bit, Nat.testBit_two_pow]
  by_cases hj : j = jlo k
  · subst hj
    have e0 : jn (jhi k) (jlo k) = k := by rw [jn_comm _ h4 _ (by omega)]; exact h5
    have e1 : tSet T k c (jn (jhi k) (jlo k)) = c := by rw [e0]; exact if_pos rfl
    have e2 : tSet T k (-1) (jn (jhi k) (jlo k)) = -1 := by rw [e0]; exact if_pos rfl
    rw [decide_eq_true ⟨by omega, by omega, e1⟩, decide_eq_false (fun z => by rw [e2] at z; omega), decide_eq_true rfl]
    rfl
  · rw [decide_eq_false (p := jlo k = j) (fun z => hj z.symm), Bool.xor_false]
    refine decide_eq_decide.mpr ?_
    by_cases hb : j < 12 ∧ j ≠ jhi k
    · have hn : jn (jhi k) j ≠ k := fun z => by
        have := (jn_iff h4 hb.1 (fun y => hb.2 y.symm) hk).mp z
        omega
      have e1 : ∀ v, tSet T k v (jn (jhi k) j) = T (jn (jhi k) j) := fun v => if_neg hn
      rw [e1, e1]
    · exact ⟨fun z => absurd ⟨z.1, z.2.1⟩ hb, fun z => absurd ⟨z.1, z.2.1⟩ hb⟩
theorem nr_flip_no (T : Nat → Int) (k c c' q : Nat) (hk : k < 66) (hq : q < 12) (hn : ¬ (c' = c ∧ (q = jlo k ∨ q = jhi k))) : nr (tSet T k c) c' q = nr (tSet T k (-1)) c' q := by
  apply Nat.eq_of_testBit_eq
  intro j
  rw [nr_bit, nr_bit]
  refine decide_eq_decide.mpr ?_
  by_cases hb : j < 12 ∧ j ≠ q
  · by_cases hkk : jn q j = k
    · have := (jn_iff hq hb.1 (fun y => hb.2 y.symm) hk).mp hkk
      have e1 : tSet T k c (jn q j) = c := if_pos hkk
      have e2 : tSet T k (-1) (jn q j) = -1 := if_pos hkk
      rw [e1, e2]
      omega
    · have e1 : ∀ v, tSet T k v (jn q j) = T (jn q j) := fun v => if_neg hkk
      rw [e1, e1]
  · exact ⟨fun z => absurd ⟨z.1, z.2.1⟩ hb, fun z => absurd ⟨z.1, z.2.1⟩ hb⟩
