/-! a stretch of an array that is written over -/
def mSeg (h : mMem) (t : Nat) (i : Fin 8) (lo n : Nat) (f : Nat → Int) : mMem := fun t' i' q => if t' = t ∧ i' = i ∧ lo ≤ q ∧ q < lo + n then f (q - lo) else h t' i' q
theorem mSeg_zero (h : mMem) (t : Nat) (i : Fin 8) (lo : Nat) (f : Nat → Int) : mSeg h t i lo 0 f = h := by
  funext t' i' q
  unfold mSeg
  rw [if_neg]
  rintro ⟨-, -, a, b⟩
  omega
theorem mSeg_succ (h : mMem) (t : Nat) (i : Fin 8) (lo n : Nat) (f : Nat → Int) : mSet (mSeg h t i lo n f) t i (lo + n) (f n) = mSeg h t i lo (n + 1) f := by
  funext t' i' q
  unfold mSet mSeg
  by_cases h1 : t' = t ∧ i' = i
  · by_cases h2 : q = lo + n
    · rw [if_pos ⟨h1.1, h1.2, h2⟩, if_pos ⟨h1.1, h1.2, by omega, by omega⟩, h2, Nat.add_sub_cancel_left]
    · rw [if_neg (fun z => h2 z.2.2)]
      by_cases h3 : lo ≤ q ∧ q < lo + n
      · rw [if_pos ⟨h1.1, h1.2, h3⟩, if_pos ⟨h1.1, h1.2, h3.1, by omega⟩]
      · rw [if_neg (fun z => h3 z.2.2), if_neg (fun z => h3 ⟨z.2.2.1, by omega⟩)]
  · rw [if_neg (fun z => h1 ⟨z.1, z.2.1⟩), if_neg (fun z => h1 ⟨z.1, z.2.1⟩), if_neg (fun z => h1 ⟨z.1, z.2.1⟩)]
theorem mSeg_ne {h : mMem} {t : Nat} {i : Fin 8} {lo n : Nat} {f : Nat → Int} {t' : Nat} {i' : Fin 8} {q : Nat} (hn : t' ≠ t) : mSeg h t i lo n f t' i' q = h t' i' q := if_neg (fun z => hn z.1)
theorem mSeg_nei {h : mMem} {t : Nat} {i : Fin 8} {lo n : Nat} {f : Nat → Int} {t' : Nat} {i' : Fin 8} {q : Nat} (hn : i' ≠ i) : mSeg h t i lo n f t' i' q = h t' i' q := if_neg (fun z => hn z.2.1)
theorem mSeg_out {h : mMem} {t : Nat} {i : Fin 8} {lo n : Nat} {f : Nat → Int} {t' : Nat} {i' : Fin 8} {q : Nat} (hn : ¬ (lo ≤ q ∧ q < lo + n)) : mSeg h t i lo n f t' i' q = h t' i' q := if_neg (fun z => hn z.2.2)
theorem mSeg_in {h : mMem} {t : Nat} {i : Fin 8} {lo n : Nat} {f : Nat → Int} {q : Nat} (hn : q < n) : mSeg h t i lo n f t i (lo + q) = f q := by
  unfold mSeg
  rw [if_pos ⟨rfl, rfl, by omega, by omega⟩, Nat.add_sub_cancel_left]
theorem mSeg_in0 {h : mMem} {t : Nat} {i : Fin 8} {n : Nat} {f : Nat → Int} {q : Nat} (hn : q < n) : mSeg h t i 0 n f t i q = f q := by
  have := mSeg_in (h := h) (t := t) (i := i) (lo := 0) (f := f) hn
  rw [Nat.zero_add] at this
  exact this
section Segs
variable {l : Launch} {g : mG} {d : Nat}
theorem l_M_bareAll (h : mMem) : ∀ (n k : Nat), k + n = 66 → mGo l g (mMt n_M_bareAll) d 2 [some (.inr (9, 0)), some (.inl k)] [] (mSeg h 42 0 0 k (fun _ => -1)) (mIs none (mSeg h 42 0 0 66 (fun _ => -1))) := by
  intro n
  induction n with
  | zero =>
    intro k hk
    refine mGo_wp h_M_bareAll 40 [2] ?_
    have : k = 66 := by omega
    subst this
    exact ⟨fun c => ⟨rfl, rfl⟩, fun c => by omega⟩
  | succ n ih =>
    intro k hk
    refine mGo_wp h_M_bareAll 40 [2] ?_
    refine ⟨fun c => by omega, fun c => ⟨⟨by omega, by omega⟩, ?_⟩⟩
    have q := ih (k + 1) (by omega)
    rw [← mSeg_succ, Nat.zero_add] at q
    show mGo l g _ _ 2 [_, some (.inl (mWr ((k : Int) + 1)))] [] (mSet _ 42 0 ((k : Int).toNat) (-1)) _
    rw [mWr_of ⟨by omega, by omega⟩, Int.toNat_natCast]
    exact q
theorem c_M_bareAll (h : mMem) : mCon l g n_M_bareAll d [.inr (9, 0)] h (mIs none (mSeg h 42 0 0 66 (fun _ => -1))) := by
  refine e_M_bareAll (fun hv hm => ?_)
  refine mGo_wp h_M_bareAll 40 [2] ?_
  have q := l_M_bareAll (l := l) (g := g) (d := d) h 66 0 rfl
  rw [mSeg_zero] at q
  exact q
theorem l_M_clearGained (h : mMem) : ∀ (n k : Nat), k + n = 66 → mGo l g (mMt n_M_clearGained) d 2 [some (.inr (9, 0)), some (.inl k)] [] (mSeg h 48 0 0 k (fun _ => 0)) (mIs none (mSeg h 48 0 0 66 (fun _ => 0))) := by
  intro n
  induction n with
  | zero =>
    intro k hk
    refine mGo_wp h_M_clearGained 40 [2] ?_
    have : k = 66 := by omega
    subst this
    exact ⟨fun c => ⟨rfl, rfl⟩, fun c => by omega⟩
  | succ n ih =>
    intro k hk
    refine mGo_wp h_M_clearGained 40 [2] ?_
    refine ⟨fun c => by omega, fun c => ⟨⟨by omega, by omega⟩, ?_⟩⟩
    have q := ih (k + 1) (by omega)
    rw [← mSeg_succ, Nat.zero_add] at q
    show mGo l g _ _ 2 [_, some (.inl (mWr ((k : Int) + 1)))] [] (mSet _ 48 0 ((k : Int).toNat) 0) _
    rw [mWr_of ⟨by omega, by omega⟩, Int.toNat_natCast]
    exact q
theorem c_M_clearGained (h : mMem) : mCon l g n_M_clearGained d [.inr (9, 0)] h (mIs none (mSeg h 48 0 0 66 (fun _ => 0))) := by
  refine e_M_clearGained (fun hv hm => ?_)
  refine mGo_wp h_M_clearGained 40 [2] ?_
  have q := l_M_clearGained (l := l) (g := g) (d := d) h 66 0 rfl
  rw [mSeg_zero] at q
  exact q
theorem l_M_layAside (h : mMem) : ∀ (n k : Nat), k + n = 66 → mGo l g (mMt n_M_layAside) d 2 [some (.inr (9, 0)), some (.inl k)] [] (mSeg h 49 0 0 k (h 42 0)) (mIs none (mSeg h 49 0 0 66 (h 42 0))) := by
  intro n
  induction n with
  | zero =>
    intro k hk
    refine mGo_wp h_M_layAside 40 [2] ?_
    have : k = 66 := by omega
    subst this
    exact ⟨fun c => ⟨rfl, rfl⟩, fun c => by omega⟩
  | succ n ih =>
    intro k hk
    refine mGo_wp h_M_layAside 40 [2] ?_
    refine ⟨fun c => by omega, fun c => ⟨⟨by omega, by omega⟩, ⟨by omega, by omega⟩, ?_⟩⟩
    have q := ih (k + 1) (by omega)
    rw [← mSeg_succ, Nat.zero_add] at q
    show mGo l g _ _ 2 [_, some (.inl (mWr ((k : Int) + 1)))] [] (mSet _ 49 0 ((k : Int).toNat) (mSeg h 49 0 0 k (h 42 0) 42 0 ((k : Int).toNat))) _
    rw [mWr_of ⟨by omega, by omega⟩, Int.toNat_natCast, mSeg_ne (by decide)]
    exact q
theorem c_M_layAside (h : mMem) : mCon l g n_M_layAside d [.inr (9, 0)] h (mIs none (mSeg h 49 0 0 66 (h 42 0))) := by
  refine e_M_layAside (fun hv hm => ?_)
  refine mGo_wp h_M_layAside 40 [2] ?_
  have q := l_M_layAside (l := l) (g := g) (d := d) h 66 0 rfl
  rw [mSeg_zero] at q
  exact q
theorem l_M_bring (h : mMem) : ∀ (n k : Nat), k + n = 66 → mGo l g (mMt n_M_bring) d 2 [some (.inr (9, 0)), some (.inl k)] [] (mSeg h 42 0 0 k (h 49 0)) (mIs none (mSeg h 42 0 0 66 (h 49 0))) := by
  intro n
  induction n with
  | zero =>
    intro k hk
    refine mGo_wp h_M_bring 40 [2] ?_
    have : k = 66 := by omega
    subst this
    exact ⟨fun c => ⟨rfl, rfl⟩, fun c => by omega⟩
  | succ n ih =>
    intro k hk
    refine mGo_wp h_M_bring 40 [2] ?_
    refine ⟨fun c => by omega, fun c => ⟨⟨by omega, by omega⟩, ⟨by omega, by omega⟩, ?_⟩⟩
    have q := ih (k + 1) (by omega)
    rw [← mSeg_succ, Nat.zero_add] at q
    show mGo l g _ _ 2 [_, some (.inl (mWr ((k : Int) + 1)))] [] (mSet _ 42 0 ((k : Int).toNat) (mSeg h 42 0 0 k (h 49 0) 49 0 ((k : Int).toNat))) _
    rw [mWr_of ⟨by omega, by omega⟩, Int.toNat_natCast, mSeg_ne (by decide)]
    exact q
theorem c_M_bring (h : mMem) : mCon l g n_M_bring d [.inr (9, 0)] h (mIs none (mSeg h 42 0 0 66 (h 49 0))) := by
  refine e_M_bring (fun hv hm => ?_)
  refine mGo_wp h_M_bring 40 [2] ?_
  have q := l_M_bring (l := l) (g := g) (d := d) h 66 0 rfl
  rw [mSeg_zero] at q
  exact q
theorem l_Arr_fill (t : Nat) (i : Fin 8) (L : Nat) (v : Int) (hs : mSh t = .inr (0, L)) (hL : L < 65536) (h : mMem) : ∀ (n k : Nat), k + n = L → mGo l g (mMt n_Arr_fill) d 5 [some (.inr (t, i)), some (.inl v), some (.inl k), some (.inl L)] [] (mSeg h t i 0 k (fun _ => v)) (mIs none (mSeg h t i 0 L (fun _ => v))) := by
  intro n
  induction n with
  | zero =>
    intro k hk
    refine mGo_wp h_Arr_fill 40 [5] ?_
    have : k = L := by omega
    subst this
    exact ⟨fun c => ⟨rfl, rfl⟩, fun c => by omega⟩
  | succ n ih =>
    intro k hk
    refine mGo_wp h_Arr_fill 40 [5] ?_
    refine ⟨fun c => by omega, fun c => ?_⟩
    have q := ih (k + 1) (by omega)
    rw [← mSeg_succ, Nat.zero_add] at q
    show (match mSh t with
      | .inr (0, n) => (0 ≤ (k : Int) ∧ (k : Int) < n) ∧ mGo l g (mMt n_Arr_fill) d 5 [some (.inr (t, i)), some (.inl v), some (.inl (mWr ((k : Int) + 1))), some (.inl L)] [] (mSet (mSeg h t i 0 k (fun _ => v)) t i ((k : Int).toNat) v) _
      | _ => False)
    rw [hs]
    refine ⟨⟨by omega, by omega⟩, ?_⟩
    rw [mWr_of ⟨by omega, by omega⟩, Int.toNat_natCast]
    exact q
theorem c_Arr_fill (t : Nat) (i : Fin 8) (L : Nat) (v : Int) (hs : mSh t = .inr (0, L)) (hL : L < 65536) (h : mMem) : mCon l g n_Arr_fill d [.inr (t, i), .inl v] h (mIs none (mSeg h t i 0 L (fun _ => v))) := by
  refine e_Arr_fill (fun hv hm => ?_)
  refine mGo_wp h_Arr_fill 40 [5] ?_
  have q := l_Arr_fill (l := l) (g := g) (d := d) t i L v hs hL h L 0 (by omega)
  rw [mSeg_zero] at q
  show (match mSh t with
      | .inr (0, n) => mGo l g (mMt n_Arr_fill) d 5 [some (.inr (t, i)), some (.inl v), some (.inl 0), some (.inl n)] [] h _
      | _ => False)
  rw [hs]
  exact q
theorem c_Math_min (a b : Int) (h : mMem) : mCon l g n_Math_min d [.inl a, .inl b] h (mIs (some (.inl (if a ≤ b then a else b))) h) := by
  refine e_Math_min (fun hv hm => ?_)
  refine mGo_wp h_Math_min 40 [] ?_
  refine ⟨fun c => ⟨?_, rfl⟩, fun c => ⟨?_, rfl⟩⟩
  · rw [if_neg (by omega)]
  · rw [if_pos c]
theorem c_Int_compare (a b : Int) (h : mMem) : mCon l g n_Int_compare d [.inl a, .inl b] h (mIs (some (.inl (if a < b then -1 else if a = b then 0 else 1))) h) := by
  refine e_Int_compare (fun hv hm => ?_)
  refine mGo_wp h_Int_compare 40 [] ?_
  refine ⟨fun c => ⟨fun c2 => ⟨?_, rfl⟩, fun c2 => ⟨?_, rfl⟩⟩, fun c => ⟨?_, rfl⟩⟩
  · rw [if_neg (by omega), if_neg c2]
  · rw [if_neg (by omega), if_pos c2]
  · rw [if_pos c]
theorem c_Proof_forget (h : mMem) : mCon l g n_Proof_forget d [.inr (6, 0)] h (mIs none (mSet h 6 0 3 0)) := by
  refine e_Proof_forget (fun hv hm => ?_)
  refine mGo_wp h_Proof_forget 40 [] ?_
  exact ⟨rfl, rfl⟩
/-- a net becomes another -/
def mBec (h : mMem) (i j : Fin 8) : mMem := fun t a k => if a = i ∧ ((t = 4 ∧ k < 2) ∨ (t = 20 ∧ k < 3) ∨ (t = 21 ∧ k < 3) ∨ (t = 22 ∧ k < 66) ∨ (t = 23 ∧ k < 36)) then h t j k else h t a k
theorem c_Net_become (i j : Fin 8) (h : mMem) : mCon l g n_Net_become (d + 1) [.inr (4, i), .inr (4, j)] h (mIs none (mBec h i j)) := by
  refine e_Net_become (fun hv hm => ?_)
  refine mGo_wp h_Net_become 60 [] ?_
  refine ⟨⟨by decide, by decide, by decide, by decide, by decide⟩, ⟨by decide, by decide, by decide, by decide, by decide⟩, ⟨by decide, by decide, by decide, by decide, by decide⟩, ⟨by decide, by decide, by decide, by decide, by decide⟩, rfl, ?_⟩
  funext t a k
  by_cases ha : a = i
  · subst ha
    by_cases t4 : t = 4
    · subst t4
      by_cases k0 : k = 0
      · subst k0
        simp [mBec, mCpy, mSet]
      · by_cases k1 : k = 1
        · subst k1
          simp [mBec, mCpy, mSet]
        · have k2 : ¬ k < 2 := by omega
          simp [mBec, mCpy, mSet, k0, k1, k2]
    · by_cases t20 : t = 20
      · subst t20
        by_cases hk : k < 3 <;> simp [mBec, mCpy, mSet, hk]
      · by_cases t21 : t = 21
        · subst t21
          by_cases hk : k < 3 <;> simp [mBec, mCpy, mSet, hk]
        · by_cases t22 : t = 22
          · subst t22
            by_cases hk : k < 66 <;> simp [mBec, mCpy, mSet, hk]
          · by_cases t23 : t = 23
            · subst t23
              by_cases hk : k < 36 <;> simp [mBec, mCpy, mSet, hk]
            · simp [mBec, mCpy, mSet, t4, t20, t21, t22, t23]
  · simp [mBec, mCpy, mSet, ha]
theorem isC_bec {h : mMem} {i j : Fin 8} {N : nN} (e : isC h j N) : isC (mBec h i j) i N := by
  obtain ⟨e1, e2, e3, e4, e5, e6⟩ := e
  refine ⟨?_, ?_, fun k hk => ?_, fun k hk => ?_, fun k hk => ?_, fun c hc q hq => ?_⟩
  · rw [← e1]; simp [mBec]
  · rw [← e2]; simp [mBec]
  · rw [← e3 k hk]; simp [mBec, hk]
  · rw [← e4 k hk]; simp [mBec, hk]
  · rw [← e5 k hk]; simp [mBec, hk]
  · rw [← e6 c hc q hq]
    have : c * 12 + q < 36 := by omega
    simp [mBec, this]
theorem isC_bec_ne {h : mMem} {i j k : Fin 8} {N : nN} (hn : k ≠ i) (e : isC h k N) : isC (mBec h i j) k N := by
  have q : ∀ t s, mBec h i j t k s = h t k s := fun t s => if_neg (fun z => hn z.1)
  unfold isC
  simp only [q]
  exact e
end Segs
