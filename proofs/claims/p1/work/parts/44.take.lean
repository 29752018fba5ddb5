section Take
variable {l : Launch} {g : mG} {d : Nat}
theorem c_M_take0 (h : mMem) (m : Int) (tot : Nat) (ht : tot < 1000000000) (e1 : h 9 0 13 = 0) (e2 : h 9 0 14 = tot) : mCon l g n_M_take d [.inr (9, 0), .inl m] h (mIs none (mSet h 9 0 14 (tot + 1 : Nat))) := by
  refine e_M_take (fun hv hm => ?_)
  refine mGo_wp h_M_take 60 [84] ?_
  have w : mWr (h 9 0 14 + 1) = ((tot + 1 : Nat) : Int) := by
    rw [e2, mWr_of ⟨by omega, by omega⟩]
    omega
  refine ⟨fun _ => ?_, fun z => absurd (z.symm.trans e1) (by decide)⟩
  show mGo l g _ _ 84 _ [] (mSet h 9 0 14 (mWr (h 9 0 14 + 1))) _
  rw [w]
  refine mGo_wp h_M_take 60 [] ?_
  have r13 : mSet h 9 0 14 ((tot + 1 : Nat) : Int) 9 0 13 = 0 := by rw [mSet_no (by simp)]; exact e1
  refine ⟨fun _ => ⟨fun _ => ⟨rfl, rfl⟩, fun z => absurd (z.symm.trans r13) (by decide)⟩, fun z => absurd (z.symm.trans r13) (by decide)⟩
/-- the first copy is laid down -/
def mTk1 (h : mMem) (tot : Nat) (r : List Nat) (k : Nat) : mMem := mSeg (mSet (mSet (mSet h 9 0 14 (tot + 1 : Nat)) 9 0 15 1) 9 0 17 r.length) 46 0 0 k (fun j => (r.getD j 0 : Nat))
theorem mTk1_9 {h : mMem} {tot : Nat} {r : List Nat} {k q : Nat} (hq : q ≠ 14 ∧ q ≠ 15 ∧ q ≠ 17) : mTk1 h tot r k 9 0 q = h 9 0 q := by
  unfold mTk1
  rw [mSeg_ne (by decide), mSet_no (fun z => hq.2.2 z.2.2), mSet_no (fun z => hq.2.1 z.2.2), mSet_no (fun z => hq.1 z.2.2)]
theorem mTk1_44 {h : mMem} {tot : Nat} {r : List Nat} {k q : Nat} : mTk1 h tot r k 44 0 q = h 44 0 q := by
  unfold mTk1
  rw [mSeg_ne (by decide), mSet_no (by simp), mSet_no (by simp), mSet_no (by simp)]
theorem l_M_take1 (h : mMem) (tot : Nat) (r : List Nat) (hl : r.length ≤ 7) (er : rowAt h r) (e1 : h 9 0 13 = 1) : ∀ (n k : Nat), k + n = r.length → mGo l g (mMt n_M_take) d 104 [some (.inr (9, 0)), some (.inl r.length), some (.inl k)] [] (mTk1 h tot r k) (mIs none (mTk1 h tot r r.length)) := by
  intro n
  induction n with
  | zero =>
    intro k hk
    refine mGo_wp h_M_take 60 [104] ?_
    have : k = r.length := by omega
    subst this
    have r13 : mTk1 h tot r r.length 9 0 13 = 1 := by rw [mTk1_9 (by decide)]; exact e1
    exact ⟨fun _ => ⟨fun _ => ⟨rfl, rfl⟩, fun z => absurd (z.symm.trans r13) (by decide)⟩, fun z => by omega⟩
  | succ n ih =>
    intro k hk
    refine mGo_wp h_M_take 60 [104] ?_
    refine ⟨fun z => by omega, fun _ => ⟨⟨by omega, by omega⟩, ⟨by omega, by omega⟩, ?_⟩⟩
    have q := ih (k + 1) (by omega)
    show mGo l g _ _ 104 [_, _, some (.inl (mWr ((k : Int) + 1)))] [] (mSet (mTk1 h tot r k) 46 0 (Int.toNat (k : Int)) (mTk1 h tot r k 44 0 (Int.toNat (k : Int)))) _
    rw [mWr_of ⟨by omega, by omega⟩, Int.toNat_natCast, mTk1_44, er k (by omega)]
    unfold mTk1 at q ⊢
    rw [← mSeg_succ, Nat.zero_add] at q
    exact q
theorem c_M_take1 (h : mMem) (tot : Nat) (ht : tot < 1000000000) (r : List Nat) (hl : r.length ≤ 7) (er : rowAt h r) (e1 : h 9 0 13 = 1) (e2 : h 9 0 14 = tot) : mCon l g n_M_take d [.inr (9, 0), .inl r.length] h (mIs none (mTk1 h tot r r.length)) := by
  refine e_M_take (fun hv hm => ?_)
  refine mGo_wp h_M_take 60 [84] ?_
  have w : mWr (h 9 0 14 + 1) = ((tot + 1 : Nat) : Int) := by
    rw [e2, mWr_of ⟨by omega, by omega⟩]
    omega
  refine ⟨fun _ => ?_, fun z => absurd (z.symm.trans e1) (by decide)⟩
  show mGo l g _ _ 84 _ [] (mSet h 9 0 14 (mWr (h 9 0 14 + 1))) _
  rw [w]
  refine mGo_wp h_M_take 60 [104] ?_
  have r13 : mSet h 9 0 14 ((tot + 1 : Nat) : Int) 9 0 13 = 1 := by rw [mSet_no (by simp)]; exact e1
  refine ⟨fun z => absurd r13 z, fun _ => ⟨Or.inr rfl, ?_⟩⟩
  have q := l_M_take1 (l := l) (g := g) (d := d) h tot r hl er e1 r.length 0 (by omega)
  unfold mTk1 at q ⊢
  rw [mSeg_zero] at q
  exact q
end Take
