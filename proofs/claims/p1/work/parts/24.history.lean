theorem mNi_inj : ∀ a, a < 6 → ∀ b, b < 6 → mNi a = mNi b → a = b := by decide +kernel
theorem mNi_01 : ∀ a, a < 6 → mNi a ≠ 0 ∧ mNi a ≠ 1 := by decide +kernel
theorem rem6 : ∀ n : Nat, n < 12 → mRem (n : Int) 6 = ((n % 6 : Nat) : Int) := by decide +kernel
def hpush (Ls : List nN) (N : nN) : List nN := if Ls.length = 6 then Ls.tail ++ [N] else Ls ++ [N]
/-- what the class keeps -/
def hisC (h : mMem) (Ls : List nN) : Prop := ∃ nx : Nat, nx < 6 ∧ h 3 0 2 = nx ∧ h 3 0 0 = Ls.length ∧ Ls.length ≤ 6 ∧ ∀ e N, Ls[e]? = some N → isC h (mNi ((nx + 6 - Ls.length + e) % 6)) N
def isB (h : mMem) (m : Nat) (N : nN) : Prop := h 43 0 (74 * m) = nP N ∧ h 43 0 (74 * m + 1) = nC N ∧ (∀ k, k < 3 → h 43 0 (74 * m + 2 + k) = nK N k) ∧ (∀ k, k < 3 → h 43 0 (74 * m + 5 + k) = nS N k) ∧ (∀ k, k < 66 → h 43 0 (74 * m + 8 + k) = nT N k)
/-- what the model keeps -/
def hisM (h : mMem) (Ls : List nN) : Prop := h 9 0 6 = Ls.length ∧ Ls.length ≤ 6 ∧ ∀ e N, Ls[e]? = some N → isB h e N
section His
variable {l : Launch} {g : mG} {d : Nat}
def mHk (h : mMem) (nx len : Nat) : mMem := mSet (mSet (mBec h (mNi nx) 0) 3 0 2 ((nx + 1) % 6 : Nat)) 3 0 0 (if len + 1 ≤ 6 then len + 1 else 6 : Nat)
theorem mBec_t {h : mMem} {i j a : Fin 8} {t k : Nat} (ht : t ≠ 4 ∧ t ≠ 20 ∧ t ≠ 21 ∧ t ≠ 22 ∧ t ≠ 23) : mBec h i j t a k = h t a k := by
  unfold mBec
  rw [if_neg]
  rintro ⟨-, z⟩
  omega
theorem c_History_keep (h : mMem) (nx len : Nat) (hnx : nx < 6) (hlen : len ≤ 6) (e1 : h 3 0 2 = nx) (e2 : h 3 0 0 = len) : mCon l g n_History_keep (d + 2) [.inr (3, 0), .inr (4, 0)] h (mIs none (mHk h nx len)) := by
  refine e_History_keep (fun hv hk => ?_)
  refine mGo_wp h_History_keep 60 [] ?_
  refine ⟨⟨by rw [e1]; omega, by rw [e1]; omega⟩, ?_⟩
  refine mCall_is (c_Net_become _ _ _) ?_
  refine ⟨by decide, ?_⟩
  refine mCall_is (c_Math_min _ _ _) ?_
  refine ⟨rfl, ?_⟩
  rw [mSet_no (t' := 3) (t := 3) (k' := 0) (k := 2) (by simp), mBec_t (by decide), mBec_t (by decide), e1, e2, Int.toNat_natCast, mWr_of (x := (nx : Int) + 1) ⟨by omega, by omega⟩, mWr_of (x := (len : Int) + 1) ⟨by omega, by omega⟩]
  have r := rem6 (nx + 1) (by omega)
  rw [show ((nx + 1 : Nat) : Int) = (nx : Int) + 1 by omega] at r
  rw [r]
  unfold mHk
  congr 1
  split <;> split <;> omega
theorem isC_set {h : mMem} {i : Fin 8} {N : nN} {t : Nat} {a : Fin 8} {k : Nat} {v : Int} (ht : t ≠ 4 ∧ t ≠ 20 ∧ t ≠ 21 ∧ t ≠ 22 ∧ t ≠ 23) (e : isC h i N) : isC (mSet h t a k v) i N := by
  obtain ⟨e1, e2, e3, e4, e5, e6⟩ := e
  refine ⟨?_, ?_, fun k hk => ?_, fun k hk => ?_, fun k hk => ?_, fun c hc q hq => ?_⟩
  · rw [mSet_no (fun z => ht.1 z.1.symm)]; exact e1
  · rw [mSet_no (fun z => ht.1 z.1.symm)]; exact e2
  · rw [mSet_no (fun z => ht.2.1 z.1.symm)]; exact e3 k hk
  · rw [mSet_no (fun z => ht.2.2.1 z.1.symm)]; exact e4 k hk
  · rw [mSet_no (fun z => ht.2.2.2.1 z.1.symm)]; exact e5 k hk
  · rw [mSet_no (fun z => ht.2.2.2.2 z.1.symm)]; exact e6 c hc q hq
theorem hpush_get {Ls : List nN} {N : nN} (hl : Ls.length ≤ 6) : (hpush Ls N).length = (if Ls.length + 1 ≤ 6 then Ls.length + 1 else 6) ∧ ∀ e M, (hpush Ls N)[e]? = some M → (e + 1 = (hpush Ls N).length ∧ M = N) ∨ (e + 1 < (hpush Ls N).length ∧ Ls[e + (Ls.length + 1 - (hpush Ls N).length)]? = some M) := by
  unfold hpush
  by_cases h6 : Ls.length = 6
  · rw [if_pos h6]
    obtain ⟨a, t, rfl⟩ : ∃ a t, Ls = a :: t := by
      cases Ls with
      | nil => simp at h6
      | cons a t => exact ⟨a, t, rfl⟩
    simp only [List.tail_cons, List.length_append, List.length_cons, List.length_nil] at h6 ⊢
    refine ⟨by rw [if_neg (by omega)]; omega, fun e M he => ?_⟩
    by_cases hlt : e < t.length
    · rw [List.getElem?_append_left hlt] at he
      refine Or.inr ⟨by omega, ?_⟩
      rw [show e + (t.length + 1 + 1 - (t.length + (0 + 1))) = e + 1 by omega, List.getElem?_cons_succ]
      exact he
    · rw [List.getElem?_append_right (by omega)] at he
      have hz : e - t.length = 0 := by
        have := (List.getElem?_eq_some_iff.mp he).1
        simp at this
        omega
      rw [hz] at he
      simp at he
      exact Or.inl ⟨by omega, he.symm⟩
  · rw [if_neg h6]
    simp only [List.length_append, List.length_cons, List.length_nil]
    refine ⟨by rw [if_pos (by omega)], fun e M he => ?_⟩
    by_cases hlt : e < Ls.length
    · rw [List.getElem?_append_left hlt] at he
      refine Or.inr ⟨by omega, ?_⟩
      rw [show e + (Ls.length + 1 - (Ls.length + (0 + 1))) = e by omega]
      exact he
    · rw [List.getElem?_append_right (by omega)] at he
      have hz : e - Ls.length = 0 := by
        have := (List.getElem?_eq_some_iff.mp he).1
        simp at this
        omega
      rw [hz] at he
      simp at he
      exact Or.inl ⟨by omega, he.symm⟩
theorem hisC_keep {h : mMem} {Ls : List nN} {N : nN} {nx : Nat} (hnx : nx < 6) (hl : Ls.length ≤ 6) (he : ∀ e M, Ls[e]? = some M → isC h (mNi ((nx + 6 - Ls.length + e) % 6)) M) (e0 : isC h 0 N) : hisC (mHk h nx Ls.length) (hpush Ls N) := by
  obtain ⟨hpl, hpg⟩ := hpush_get (N := N) hl
  refine ⟨(nx + 1) % 6, Nat.mod_lt _ (by decide), ?_, ?_, by rw [hpl]; split <;> omega, fun e M hM => ?_⟩
  · unfold mHk
    rw [mSet_no (by simp), mSet_at]
  · unfold mHk
    rw [mSet_at, hpl]
  · unfold mHk
    refine isC_set (by decide) (isC_set (by decide) ?_)
    have h6 : (hpush Ls N).length ≤ 6 := by rw [hpl]; split <;> omega
    rcases hpg e M hM with ⟨a1, rfl⟩ | ⟨a1, a2⟩
    · rw [show ((nx + 1) % 6 + 6 - (hpush Ls M).length + e) % 6 = nx by omega]
      exact isC_bec e0
    · have hlt := (List.getElem?_eq_some_iff.mp a2).1
      have q := he _ M a2
      have hpos : (nx + 6 - Ls.length + (e + (Ls.length + 1 - (hpush Ls N).length))) % 6 = ((nx + 1) % 6 + 6 - (hpush Ls N).length + e) % 6 := by
        split at hpl <;> omega
      rw [hpos] at q
      refine isC_bec_ne (fun z => ?_) q
      have := mNi_inj _ (Nat.mod_lt _ (by decide)) _ hnx z
      split at hpl <;> omega
/-- the class keeps its net, and forgets its proof -/
def mRem2 (h : mMem) (nx len : Nat) : mMem := mSet (mHk h nx len) 6 0 3 0
theorem c_K_remember (h : mMem) (nx len : Nat) (hnx : nx < 6) (hlen : len ≤ 6) (e1 : h 3 0 2 = nx) (e2 : h 3 0 0 = len) : mCon l g n_K_remember (d + 3) [.inr (8, 0)] h (mIs none (mRem2 h nx len)) := by
  refine e_K_remember (fun hv hk => ?_)
  refine mGo_wp h_K_remember 60 [] ?_
  refine mCall_is (c_History_keep h nx len hnx hlen e1 e2) ?_
  refine mCall_is (c_Proof_forget _) ?_
  exact ⟨rfl, rfl⟩
end His
