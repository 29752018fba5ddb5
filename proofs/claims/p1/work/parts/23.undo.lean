theorem mSet_mSeg_t {h : mMem} {t t2 : Nat} {i i2 : Fin 8} {lo n k : Nat} {f : Nat → Int} {v : Int} (hn : t2 ≠ t) : mSet (mSeg h t i lo n f) t2 i2 k v = mSeg (mSet h t2 i2 k v) t i lo n f := by
  funext t' i' q
  dsimp only [mSet, mSeg]
  by_cases h1 : t' = t2
  · subst h1
    rw [if_neg (c := t' = t ∧ _) (fun z => hn z.1), if_neg (c := t' = t ∧ _) (fun z => hn z.1)]
  · rw [if_neg (c := t' = t2 ∧ _) (fun z => h1 z.1), if_neg (c := t' = t2 ∧ _) (fun z => h1 z.1)]
def mUdA (h : mMem) (m : Nat) : mMem := mSet (mSet (mSet h 9 0 6 m) 9 0 0 (h 43 0 (74 * m))) 9 0 1 (h 43 0 (74 * m + 1))
def mUdB (h : mMem) (m c : Nat) : mMem := mSeg (mSeg (mUdA h m) 40 0 0 c (fun q => h 43 0 (74 * m + 2 + q))) 41 0 0 c (fun q => h 43 0 (74 * m + 5 + q))
def mUdC (h : mMem) (m k : Nat) : mMem := mSeg (mUdB h m 3) 42 0 0 k (fun q => h 43 0 (74 * m + 8 + q))
def mUd (h : mMem) (m : Nat) : mMem := mSet (mUdC h m 66) 9 0 43 0
theorem mUdA_43 {h : mMem} {m q : Nat} : mUdA h m 43 0 q = h 43 0 q := by
  unfold mUdA
  rw [mSet_no (by simp), mSet_no (by simp), mSet_no (by simp)]
theorem mUdB_43 {h : mMem} {m c q : Nat} : mUdB h m c 43 0 q = h 43 0 q := by
  unfold mUdB
  rw [mSeg_ne (by decide), mSeg_ne (by decide), mUdA_43]
theorem mUdC_43 {h : mMem} {m c q : Nat} : mUdC h m c 43 0 q = h 43 0 q := by
  unfold mUdC
  rw [mSeg_ne (by decide), mUdB_43]
theorem mUdC_6 {h : mMem} {m c : Nat} : mUdC h m c 9 0 6 = m := by
  unfold mUdC mUdB mUdA
  rw [mSeg_ne (by decide), mSeg_ne (by decide), mSeg_ne (by decide), mSet_no (by simp), mSet_no (by simp), mSet_at]
section Undo
variable {l : Launch} {g : mG} {d : Nat}
theorem l_M_undo3 (h : mMem) (m : Nat) (hm : m < 6) : ∀ (n k : Nat), k + n = 66 → mGo l g (mMt n_M_undo) d 97 [some (.inr (9, 0)), some (.inl (74 * m : Nat)), some (.inl k)] [] (mUdC h m k) (mIs (some (.inl m)) (mUd h m)) := by
  intro n
  induction n with
  | zero =>
    intro k hk
    refine mGo_wp h_M_undo 60 [97] ?_
    have : k = 66 := by omega
    subst this
    refine ⟨fun c => ⟨?_, rfl⟩, fun c => by omega⟩
    show some (Sum.inl (mSet (mUdC h m 66) 9 0 43 0 9 0 6)) = _
    rw [mSet_no (by simp), mUdC_6]
  | succ n ih =>
    intro k hk
    refine mGo_wp h_M_undo 60 [97] ?_
    refine ⟨fun c => by omega, fun c => ?_⟩
    have q := ih (k + 1) (by omega)
    have w1 : mWr (mWr (((74 * m : Nat) : Int) + 8) + (k : Int)) = ((74 * m + 8 + k : Nat) : Int) := by
      rw [mWr_of (x := ((74 * m : Nat) : Int) + 8) ⟨by omega, by omega⟩, mWr_of ⟨by omega, by omega⟩]
      omega
    refine ⟨⟨by rw [w1]; omega, by rw [w1]; omega⟩, ⟨by omega, by omega⟩, ?_⟩
    show mGo l g _ _ 97 [_, _, some (.inl (mWr ((k : Int) + 1)))] [] (mSet (mUdC h m k) 42 0 ((k : Int).toNat) (mUdC h m k 43 0 (Int.toNat (mWr (mWr (((74 * m : Nat) : Int) + 8) + (k : Int)))))) _
    rw [w1, mWr_of ⟨by omega, by omega⟩, Int.toNat_natCast, Int.toNat_natCast, mUdC_43]
    unfold mUdC at q ⊢
    rw [← mSeg_succ, Nat.zero_add] at q
    exact q
theorem l_M_undo2 (h : mMem) (m : Nat) (hm : m < 6) : ∀ (n c : Nat), c + n = 3 → mGo l g (mMt n_M_undo) d 52 [some (.inr (9, 0)), some (.inl (74 * m : Nat)), some (.inl c)] [] (mUdB h m c) (mIs (some (.inl m)) (mUd h m)) := by
  intro n
  induction n with
  | zero =>
    intro k hk
    refine mGo_wp h_M_undo 60 [52, 97] ?_
    have : k = 3 := by omega
    subst this
    refine ⟨fun c => ?_, fun c => by omega⟩
    have q := l_M_undo3 (l := l) (g := g) (d := d) h m hm 66 0 (by omega)
    unfold mUdC at q
    rw [mSeg_zero] at q
    exact q
  | succ n ih =>
    intro c hc
    refine mGo_wp h_M_undo 60 [52, 97] ?_
    refine ⟨fun z => by omega, fun z => ?_⟩
    have q := ih (c + 1) (by omega)
    have w1 : mWr (mWr (((74 * m : Nat) : Int) + 2) + (c : Int)) = ((74 * m + 2 + c : Nat) : Int) := by
      rw [mWr_of (x := ((74 * m : Nat) : Int) + 2) ⟨by omega, by omega⟩, mWr_of ⟨by omega, by omega⟩]
      omega
    have w2 : mWr (mWr (((74 * m : Nat) : Int) + 5) + (c : Int)) = ((74 * m + 5 + c : Nat) : Int) := by
      rw [mWr_of (x := ((74 * m : Nat) : Int) + 5) ⟨by omega, by omega⟩, mWr_of ⟨by omega, by omega⟩]
      omega
    refine ⟨⟨by rw [w1]; omega, by rw [w1]; omega⟩, ⟨by omega, by omega⟩, ⟨by rw [w2]; omega, by rw [w2]; omega⟩, ⟨by omega, by omega⟩, ?_⟩
    show mGo l g _ _ 52 [_, _, some (.inl (mWr ((c : Int) + 1)))] [] (mSet (mSet (mUdB h m c) 40 0 ((c : Int).toNat) (mUdB h m c 43 0 (Int.toNat (mWr (mWr (((74 * m : Nat) : Int) + 2) + (c : Int)))))) 41 0 ((c : Int).toNat) (mSet (mUdB h m c) 40 0 ((c : Int).toNat) (mUdB h m c 43 0 (Int.toNat (mWr (mWr (((74 * m : Nat) : Int) + 2) + (c : Int))))) 43 0 (Int.toNat (mWr (mWr (((74 * m : Nat) : Int) + 5) + (c : Int)))))) _
    rw [w1, w2, mWr_of ⟨by omega, by omega⟩, Int.toNat_natCast, Int.toNat_natCast, Int.toNat_natCast, mSet_no (by simp), mUdB_43, mUdB_43]
    unfold mUdB at q ⊢
    rw [← mSeg_succ, ← mSeg_succ, Nat.zero_add, ← mSet_mSeg_t (by decide)] at q
    exact q
theorem c_M_undo_none (h : mMem) (e : h 9 0 6 = 0) : mCon l g n_M_undo d [.inr (9, 0)] h (mIs (some (.inl vNO)) h) := by
  refine e_M_undo (fun hv hk => ?_)
  refine mGo_wp h_M_undo 60 [52, 97] ?_
  exact ⟨fun c => absurd e c, fun c => ⟨rfl, rfl⟩⟩
theorem c_M_undo (h : mMem) (m : Nat) (hm : m < 6) (e : h 9 0 6 = (m + 1 : Nat)) : mCon l g n_M_undo d [.inr (9, 0)] h (mIs (some (.inl m)) (mUd h m)) := by
  refine e_M_undo (fun hv hk => ?_)
  refine mGo_wp h_M_undo 60 [52, 97] ?_
  refine ⟨fun c => ?_, fun c => by omega⟩
  have w : mWr (h 9 0 6 - 1) = (m : Int) := by
    rw [e, mWr_of ⟨by omega, by omega⟩]
    omega
  have w0 : mWr (74 * (m : Int)) = ((74 * m : Nat) : Int) := by
    rw [mWr_of ⟨by omega, by omega⟩]
    omega
  have w1 : mWr (((74 * m : Nat) : Int) + 1) = ((74 * m + 1 : Nat) : Int) := by
    rw [mWr_of ⟨by omega, by omega⟩]
    omega
  have r1 : mSet h 9 0 6 (mWr (h 9 0 6 - 1)) 9 0 6 = (m : Int) := by rw [mSet_at, w]
  refine ⟨⟨by rw [r1, w0]; omega, by rw [r1, w0]; omega⟩, ⟨by rw [r1, w0, w1]; omega, by rw [r1, w0, w1]; omega⟩, ?_⟩
  show mGo l g _ _ 52 [_, some (.inl (mWr (74 * mSet h 9 0 6 (mWr (h 9 0 6 - 1)) 9 0 6))), some (.inl 0)] [] (mSet (mSet (mSet h 9 0 6 (mWr (h 9 0 6 - 1))) 9 0 0 (mSet h 9 0 6 (mWr (h 9 0 6 - 1)) 43 0 (Int.toNat (mWr (74 * mSet h 9 0 6 (mWr (h 9 0 6 - 1)) 9 0 6))))) 9 0 1 (mSet (mSet h 9 0 6 (mWr (h 9 0 6 - 1))) 9 0 0 (mSet h 9 0 6 (mWr (h 9 0 6 - 1)) 43 0 (Int.toNat (mWr (74 * mSet h 9 0 6 (mWr (h 9 0 6 - 1)) 9 0 6)))) 43 0 (Int.toNat (mWr (mWr (74 * mSet h 9 0 6 (mWr (h 9 0 6 - 1)) 9 0 6) + 1))))) _
  rw [r1, w, w0, w1, Int.toNat_natCast, Int.toNat_natCast, mSet_no (t' := 43) (t := 9) (by simp), mSet_no (t' := 43) (t := 9) (by simp), mSet_no (t' := 43) (t := 9) (by simp)]
  have q := l_M_undo2 (l := l) (g := g) (d := d) h m hm 3 0 (by omega)
  unfold mUdB at q
  rw [mSeg_zero, mSeg_zero] at q
  exact q
end Undo
