theorem mSet_mSeg {h : mMem} {t : Nat} {i : Fin 8} {lo n k : Nat} {f : Nat → Int} {v : Int} (hn : ¬ (lo ≤ k ∧ k < lo + n)) : mSet (mSeg h t i lo n f) t i k v = mSeg (mSet h t i k v) t i lo n f := by
  funext t' i' q
  dsimp only [mSet, mSeg]
  by_cases h1 : t' = t ∧ i' = i
  · obtain ⟨rfl, rfl⟩ := h1
    by_cases h2 : q = k
    · subst h2
      rw [if_pos ⟨rfl, rfl, rfl⟩, if_neg (fun z => hn z.2.2), if_pos ⟨rfl, rfl, rfl⟩]
    · rw [if_neg (fun z => h2 z.2.2)]
      by_cases h3 : lo ≤ q ∧ q < lo + n
      · rw [if_pos ⟨rfl, rfl, h3⟩, if_pos ⟨rfl, rfl, h3⟩]
      · rw [if_neg (fun z => h3 z.2.2), if_neg (fun z => h3 z.2.2), if_neg (fun z => h2 z.2.2)]
  · rw [if_neg (fun z => h1 ⟨z.1, z.2.1⟩), if_neg (fun z => h1 ⟨z.1, z.2.1⟩), if_neg (fun z => h1 ⟨z.1, z.2.1⟩), if_neg (fun z => h1 ⟨z.1, z.2.1⟩)]
def mKpA (h : mMem) (m : Nat) : mMem := mSet (mSet h 43 0 (74 * m) (h 9 0 0)) 43 0 (74 * m + 1) (h 9 0 1)
def mKpB (h : mMem) (m c : Nat) : mMem := mSeg (mSeg (mKpA h m) 43 0 (74 * m + 2) c (h 40 0)) 43 0 (74 * m + 5) c (h 41 0)
def mKpC (h : mMem) (m k : Nat) : mMem := mSeg (mKpB h m 3) 43 0 (74 * m + 8) k (h 42 0)
def mKp2 (h : mMem) (m : Nat) : mMem := mSet (mSet (mKpC h m 66) 9 0 6 (m + 1)) 9 0 43 0
def mKp1 (h : mMem) : mMem := mSet (mSeg h 43 0 0 370 (fun q => h 43 0 (q + 74))) 9 0 6 5
theorem mKpA_ne {h : mMem} {m t : Nat} {i : Fin 8} {k : Nat} (ht : t ≠ 43) : mKpA h m t i k = h t i k := by
  unfold mKpA
  rw [mSet_no (fun z => ht z.1), mSet_no (fun z => ht z.1)]
theorem mKpB_ne {h : mMem} {m c t : Nat} {i : Fin 8} {k : Nat} (ht : t ≠ 43) : mKpB h m c t i k = h t i k := by
  unfold mKpB
  rw [mSeg_ne ht, mSeg_ne ht, mKpA_ne ht]
theorem mKpC_ne {h : mMem} {m c t : Nat} {i : Fin 8} {k : Nat} (ht : t ≠ 43) : mKpC h m c t i k = h t i k := by
  unfold mKpC
  rw [mSeg_ne ht, mKpB_ne ht]
section Keep
variable {l : Launch} {g : mG} {d : Nat}
theorem l_M_keep3 (h : mMem) (m : Nat) (hm : m < 6) (e : h 9 0 6 = m) : ∀ (n k : Nat), k + n = 66 → mGo l g (mMt n_M_keep) d 126 [some (.inr (9, 0)), some (.inl (74 * m : Nat)), some (.inl k)] [] (mKpC h m k) (mIs none (mKp2 h m)) := by
  intro n
  induction n with
  | zero =>
    intro k hk
    refine mGo_wp h_M_keep 60 [126] ?_
    have : k = 66 := by omega
    subst this
    refine ⟨fun c => ⟨rfl, ?_⟩, fun c => by omega⟩
    show mSet (mSet (mKpC h m 66) 9 0 6 (mWr (mKpC h m 66 9 0 6 + 1))) 9 0 43 0 = _
    rw [mKpC_ne (by decide), e, mWr_of ⟨by omega, by omega⟩]
    rfl
  | succ n ih =>
    intro k hk
    refine mGo_wp h_M_keep 60 [126] ?_
    refine ⟨fun c => by omega, fun c => ?_⟩
    have q := ih (k + 1) (by omega)
    have w1 : mWr (mWr (((74 * m : Nat) : Int) + 8) + (k : Int)) = ((74 * m + 8 + k : Nat) : Int) := by
      rw [mWr_of (x := ((74 * m : Nat) : Int) + 8) ⟨by omega, by omega⟩, mWr_of ⟨by omega, by omega⟩]
      omega
    refine ⟨⟨by omega, by omega⟩, ⟨by rw [w1]; omega, by rw [w1]; omega⟩, ?_⟩
    show mGo l g _ _ 126 [_, _, some (.inl (mWr ((k : Int) + 1)))] [] (mSet (mKpC h m k) 43 0 (Int.toNat (mWr (mWr (((74 * m : Nat) : Int) + 8) + (k : Int)))) (mKpC h m k 42 0 ((k : Int).toNat))) _
    rw [w1, mWr_of ⟨by omega, by omega⟩, Int.toNat_natCast, Int.toNat_natCast, mKpC_ne (by decide)]
    unfold mKpC at q ⊢
    rw [mSeg_succ]
    exact q
theorem l_M_keep2 (h : mMem) (m : Nat) (hm : m < 6) (e : h 9 0 6 = m) : ∀ (n c : Nat), c + n = 3 → mGo l g (mMt n_M_keep) d 81 [some (.inr (9, 0)), some (.inl (74 * m : Nat)), some (.inl c)] [] (mKpB h m c) (mIs none (mKp2 h m)) := by
  intro n
  induction n with
  | zero =>
    intro k hk
    refine mGo_wp h_M_keep 60 [81, 126] ?_
    have : k = 3 := by omega
    subst this
    refine ⟨fun c => ?_, fun c => by omega⟩
    have q := l_M_keep3 (l := l) (g := g) (d := d) h m hm e 66 0 (by omega)
    unfold mKpC at q
    rw [mSeg_zero] at q
    exact q
  | succ n ih =>
    intro c hc
    refine mGo_wp h_M_keep 60 [81, 126] ?_
    refine ⟨fun z => by omega, fun z => ?_⟩
    have q := ih (c + 1) (by omega)
    have w1 : mWr (mWr (((74 * m : Nat) : Int) + 2) + (c : Int)) = ((74 * m + 2 + c : Nat) : Int) := by
      rw [mWr_of (x := ((74 * m : Nat) : Int) + 2) ⟨by omega, by omega⟩, mWr_of ⟨by omega, by omega⟩]
      omega
    have w2 : mWr (mWr (((74 * m : Nat) : Int) + 5) + (c : Int)) = ((74 * m + 5 + c : Nat) : Int) := by
      rw [mWr_of (x := ((74 * m : Nat) : Int) + 5) ⟨by omega, by omega⟩, mWr_of ⟨by omega, by omega⟩]
      omega
    refine ⟨⟨by omega, by omega⟩, ⟨by rw [w1]; omega, by rw [w1]; omega⟩, ⟨by omega, by omega⟩, ⟨by rw [w2]; omega, by rw [w2]; omega⟩, ?_⟩
    show mGo l g _ _ 81 [_, _, some (.inl (mWr ((c : Int) + 1)))] [] (mSet (mSet (mKpB h m c) 43 0 (Int.toNat (mWr (mWr (((74 * m : Nat) : Int) + 2) + (c : Int)))) (mKpB h m c 40 0 ((c : Int).toNat))) 43 0 (Int.toNat (mWr (mWr (((74 * m : Nat) : Int) + 5) + (c : Int)))) (mSet (mKpB h m c) 43 0 (Int.toNat (mWr (mWr (((74 * m : Nat) : Int) + 2) + (c : Int)))) (mKpB h m c 40 0 ((c : Int).toNat)) 41 0 ((c : Int).toNat))) _
    rw [w1, w2, mWr_of ⟨by omega, by omega⟩, Int.toNat_natCast, Int.toNat_natCast, Int.toNat_natCast, mKpB_ne (by decide), mSet_no (by simp), mKpB_ne (by decide)]
    unfold mKpB at q ⊢
    rw [mSet_mSeg (by omega), mSeg_succ, mSeg_succ]
    exact q
theorem l_M_keep1 (h : mMem) (m : Nat) (hm : m < 6) (e : h 9 0 6 = m) (x : Option mRV) : mGo l g (mMt n_M_keep) d 49 [some (.inr (9, 0)), x, none] [] h (mIs none (mKp2 h m)) := by
  refine mGo_wp h_M_keep 60 [81] ?_
  have w0 : mWr (74 * h 9 0 6) = ((74 * m : Nat) : Int) := by
    rw [e, mWr_of ⟨by omega, by omega⟩]
    omega
  have w1 : mWr (((74 * m : Nat) : Int) + 1) = ((74 * m + 1 : Nat) : Int) := by
    rw [mWr_of ⟨by omega, by omega⟩]
    omega
  refine ⟨⟨by rw [w0]; omega, by rw [w0]; omega⟩, ⟨by rw [w0, w1]; omega, by rw [w0, w1]; omega⟩, ?_⟩
  show mGo l g _ _ 81 [_, some (.inl (mWr (74 * h 9 0 6))), some (.inl 0)] [] (mSet (mSet h 43 0 (Int.toNat (mWr (74 * h 9 0 6))) (h 9 0 0)) 43 0 (Int.toNat (mWr (mWr (74 * h 9 0 6) + 1))) (mSet h 43 0 (Int.toNat (mWr (74 * h 9 0 6))) (h 9 0 0) 9 0 1)) _
  rw [w0, w1, Int.toNat_natCast, Int.toNat_natCast, mSet_no (by simp)]
  have q := l_M_keep2 (l := l) (g := g) (d := d) h m hm e 3 0 (by omega)
  unfold mKpB at q
  rw [mSeg_zero, mSeg_zero] at q
  exact q
theorem l_M_keep0 (h : mMem) (e : h 9 0 6 = 6) : ∀ (n k : Nat), k + n = 370 → mGo l g (mMt n_M_keep) d 11 [some (.inr (9, 0)), some (.inl k), none] [] (mSeg h 43 0 0 k (fun q => h 43 0 (q + 74))) (mIs none (mKp2 (mKp1 h) 5)) := by
  intro n
  induction n with
  | zero =>
    intro k hk
    refine mGo_wp h_M_keep 60 [11, 49] ?_
    have : k = 370 := by omega
    subst this
    refine ⟨fun c => ?_, fun c => by omega⟩
    show mGo l g _ _ 49 _ [] (mSet (mSeg h 43 0 0 370 (fun q => h 43 0 (q + 74))) 9 0 6 (mWr (mSeg h 43 0 0 370 (fun q => h 43 0 (q + 74)) 9 0 6 - 1))) _
    rw [mSeg_ne (by decide), e, mWr_of ⟨by omega, by omega⟩]
    exact l_M_keep1 (mKp1 h) 5 (by omega) (mSet_at _ _ _ _ _) _
  | succ n ih =>
    intro k hk
    refine mGo_wp h_M_keep 60 [11, 49] ?_
    refine ⟨fun c => by omega, fun c => ?_⟩
    have q := ih (k + 1) (by omega)
    have w1 : mWr ((k : Int) + 74) = ((k + 74 : Nat) : Int) := by
      rw [mWr_of ⟨by omega, by omega⟩]
      omega
    refine ⟨⟨by rw [w1]; omega, by rw [w1]; omega⟩, ⟨by omega, by omega⟩, ?_⟩
    show mGo l g _ _ 11 [_, some (.inl (mWr ((k : Int) + 1))), _] [] (mSet (mSeg h 43 0 0 k (fun q => h 43 0 (q + 74))) 43 0 ((k : Int).toNat) (mSeg h 43 0 0 k (fun q => h 43 0 (q + 74)) 43 0 (Int.toNat (mWr ((k : Int) + 74))))) _
    rw [w1, mWr_of ⟨by omega, by omega⟩, Int.toNat_natCast, Int.toNat_natCast, mSeg_out (by omega)]
    rw [← mSeg_succ, Nat.zero_add] at q
    exact q
theorem c_M_keep (h : mMem) (m : Nat) (hm : m ≤ 6) (e : h 9 0 6 = m) : mCon l g n_M_keep d [.inr (9, 0)] h (mIs none (if m = 6 then mKp2 (mKp1 h) 5 else mKp2 h m)) := by
  refine e_M_keep (fun hv hk => ?_)
  refine mGo_wp h_M_keep 60 [11, 49] ?_
  refine ⟨fun c => ?_, fun c => ?_⟩
  · rw [e] at c
    rw [if_neg (by omega)]
    exact l_M_keep1 h m (by omega) e none
  · rw [e] at c
    have : m = 6 := by omega
    subst this
    rw [if_pos rfl]
    have q := l_M_keep0 (l := l) (g := g) (d := d) h e 370 0 (by omega)
    rw [mSeg_zero] at q
    exact q
end Keep
