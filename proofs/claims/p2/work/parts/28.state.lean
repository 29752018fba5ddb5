/-! the state of both sides: the net, the kept ones, the tries, the proof -/
abbrev sS : Type := nN × List nN × Int × Nat × (Nat → Int) × (Nat → Int) × (Nat → Int)
def sPr (h : mMem) (P : Nat × (Nat → Int) × (Nat → Int) × (Nat → Int)) : Prop := h 6 0 3 = P.1 ∧ ∀ i, i < 500 → h 31 0 i = P.2.1 i ∧ h 32 0 i = P.2.2.1 i ∧ h 33 0 i = P.2.2.2 i
def sPm (h : mMem) (P : Nat × (Nat → Int) × (Nat → Int) × (Nat → Int)) : Prop := h 9 0 43 = P.1 ∧ ∀ i, i < 500 → h 55 0 (3 * i) = P.2.1 i ∧ h 55 0 (3 * i + 1) = P.2.2.1 i ∧ h 55 0 (3 * i + 2) = P.2.2.2 i
def RC (h : mMem) (S : sS) : Prop := isC h 0 S.1 ∧ hisC h S.2.1 ∧ h 8 0 7 = S.2.2.1 ∧ sPr h S.2.2.2
def RM (h : mMem) (S : sS) : Prop := isM h S.1 ∧ hisM h S.2.1 ∧ h 9 0 38 = S.2.2.1 ∧ sPm h S.2.2.2
def sOk (S : sS) : Prop := nOk S.1 ∧ (∀ M ∈ S.2.1, nOk M) ∧ S.2.1.length ≤ 6 ∧ S.2.2.2.1 ≤ 500
def onlyC (h h' : mMem) : Prop := ∀ t i k, t = 9 ∨ 40 ≤ t → h' t i k = h t i k
def onlyM (h h' : mMem) : Prop := ∀ t i k, ¬ (t = 9 ∨ 40 ≤ t) → h' t i k = h t i k
theorem onlyC.rf {h : mMem} : onlyC h h := fun _ _ _ _ => rfl
theorem onlyM.rf {h : mMem} : onlyM h h := fun _ _ _ _ => rfl
theorem onlyC.tr {h h1 h2 : mMem} (a : onlyC h h1) (b : onlyC h1 h2) : onlyC h h2 := fun t i k z => (b t i k z).trans (a t i k z)
theorem onlyM.tr {h h1 h2 : mMem} (a : onlyM h h1) (b : onlyM h1 h2) : onlyM h h2 := fun t i k z => (b t i k z).trans (a t i k z)
theorem isC_eq {h h' : mMem} {i : Fin 8} {N : nN} (e : isC h i N) (q : ∀ t k, t = 4 ∨ t = 20 ∨ t = 21 ∨ t = 22 ∨ t = 23 → h' t i k = h t i k) : isC h' i N := by
  obtain ⟨e1, e2, e3, e4, e5, e6⟩ := e
  exact ⟨(q _ _ (by decide)).trans e1, (q _ _ (by decide)).trans e2, fun k hk => (q 20 k (by decide)).trans (e3 k hk), fun k hk => (q 21 k (by decide)).trans (e4 k hk), fun k hk => (q 22 k (by decide)).trans (e5 k hk), fun c hc p hp => (q 23 _ (by decide)).trans (e6 c hc p hp)⟩
theorem hisC_eq {h h' : mMem} {Ls : List nN} (e : hisC h Ls) (q0 : h' 3 0 0 = h 3 0 0) (q2 : h' 3 0 2 = h 3 0 2) (q : ∀ t i k, i ≠ 0 → i ≠ 1 → t = 4 ∨ t = 20 ∨ t = 21 ∨ t = 22 ∨ t = 23 → h' t i k = h t i k) : hisC h' Ls := by
  obtain ⟨nx, h1, h2, h3, h4, h5⟩ := e
  refine ⟨nx, h1, q2.trans h2, q0.trans h3, h4, fun e N hN => ?_⟩
  have hi := mNi_01 _ (Nat.mod_lt (nx + 6 - Ls.length + e) (by decide : 6 > 0))
  exact isC_eq (h5 e N hN) (fun t k ht => q t _ k hi.1 hi.2 ht)
theorem RM_onlyC {h h' : mMem} {S : sS} (e : RM h S) (q : onlyC h h') : RM h' S := by
  obtain ⟨a, ⟨b1, b2, b3⟩, c, d1, d2⟩ := e
  have q9 : ∀ k, h' 9 0 k = h 9 0 k := fun k => q 9 0 k (by decide)
  refine ⟨isM_of a (q9 _) (q9 _) (fun k => q 40 0 k (by decide)) (fun k => q 41 0 k (by decide)) (fun k => q 42 0 k (by decide)), ⟨(q9 6).trans b1, b2, fun e N hN => isB_out (fun x _ _ => q 43 0 x (by decide)) (b3 e N hN)⟩, (q9 38).trans c, (q9 43).trans d1, fun i hi => ?_⟩
  rw [q 55 0 _ (by decide), q 55 0 _ (by decide), q 55 0 _ (by decide)]
  exact d2 i hi
theorem RC_onlyM {h h' : mMem} {S : sS} (e : RC h S) (q : onlyM h h') : RC h' S := by
  obtain ⟨a, b, c, d1, d2⟩ := e
  have qn : ∀ (t : Nat) (i : Fin 8) (k : Nat), t = 4 ∨ t = 20 ∨ t = 21 ∨ t = 22 ∨ t = 23 → h' t i k = h t i k := fun t i k ht => q t i k (by omega)
  refine ⟨isC_eq a (fun t k ht => qn t 0 k ht), hisC_eq b (q 3 0 0 (by decide)) (q 3 0 2 (by decide)) (fun t i k _ _ ht => qn t i k ht), (q 8 0 7 (by decide)).trans c, (q 6 0 3 (by decide)).trans d1, fun i hi => ?_⟩
  rw [q 31 0 _ (by decide), q 32 0 _ (by decide), q 33 0 _ (by decide)]
  exact d2 i hi
section State
variable {l : Launch} {g : mG} {d : Nat}
theorem mHk_far {h : mMem} {nx len : Nat} {t : Nat} {i : Fin 8} {k : Nat} (ht : t ≠ 3) (hi : (t ≠ 4 ∧ t ≠ 20 ∧ t ≠ 21 ∧ t ≠ 22 ∧ t ≠ 23) ∨ i ≠ mNi nx) : mHk h nx len t i k = h t i k := by
  unfold mHk
  rw [mSet_no (fun z => ht z.1), mSet_no (fun z => ht z.1)]
  unfold mBec
  rw [if_neg]
  rintro ⟨z1, z2⟩
  rcases hi with y | y
  · omega
  · exact y z1
/-- remember, over the state -/
theorem s_remember (h : mMem) (S : sS) (o : sOk S) (e : RC h S) : mCon l g n_K_remember (d + 3) [.inr (8, 0)] h (fun r h' => r = none ∧ RC h' (S.1, hpush S.2.1 S.1, S.2.2.1, 0, S.2.2.2.2) ∧ onlyC h h') := by
  obtain ⟨a, ⟨nx, b1, b2, b3, b4, b5⟩, c, d1, d2⟩ := e
  refine mCon_mono (c_K_remember h nx S.2.1.length b1 b4 b2 b3) ?_
  rintro v h' ⟨rfl, rfl⟩
  have hn := mNi_01 nx b1
  refine ⟨rfl, ⟨?_, ?_, ?_, ?_, fun i hi => ?_⟩, fun t i k ht => ?_⟩
  · refine isC_set (by decide) (isC_eq a (fun t k ht => mHk_far (by omega) (Or.inr (fun z => hn.1 z.symm))))
  · refine hisC_eq (hisC_keep b1 b4 b5 a) ?_ ?_ (fun t i k _ _ ht => ?_)
    · unfold mRem2; rw [mSet_no (by simp)]
    · unfold mRem2; rw [mSet_no (by simp)]
    · unfold mRem2; rw [mSet_no (fun z => by omega)]
  · unfold mRem2
    rw [mSet_no (by simp), mHk_far (by decide) (Or.inl (by decide))]
    exact c
  · unfold mRem2
    rw [mSet_at]
    rfl
  · unfold mRem2
    rw [mSet_no (by simp), mSet_no (by simp), mSet_no (by simp), mHk_far (by decide) (Or.inl (by decide)), mHk_far (by decide) (Or.inl (by decide)), mHk_far (by decide) (Or.inl (by decide))]
    exact d2 i hi
  · unfold mRem2
    rw [mSet_no (fun z => by omega), mHk_far (by omega) (Or.inl (by omega))]
/-- keep, over the state -/
theorem s_keep (h : mMem) (S : sS) (o : sOk S) (e : RM h S) : mCon l g n_M_keep d [.inr (9, 0)] h (fun r h' => r = none ∧ RM h' (S.1, hpush S.2.1 S.1, S.2.2.1, 0, S.2.2.2.2) ∧ onlyM h h' ∧ (∀ t i k, t ≠ 43 → (t ≠ 9 ∨ (k ≠ 6 ∧ k ≠ 43)) → h' t i k = h t i k)) := by
  obtain ⟨a, b, c, d1, d2⟩ := e
  refine mCon_mono (c_M_keep h S.2.1.length b.2.1 b.1) ?_
  rintro v h' ⟨rfl, rfl⟩
  obtain ⟨k1, k2⟩ := hisM_keep b a
  refine ⟨rfl, ⟨isM_kp a, k1, ?_, k2, fun i hi => ?_⟩, fun t i k ht => ?_, fun t i k h1 h2 => mKpM_t h1 h2⟩
  · rw [← c]
    exact mKpM_t (by decide) (by decide)
  · have r : ∀ q, mKpM h S.2.1.length 55 0 q = h 55 0 q := fun q => mKpM_t (by decide) (Or.inl (by decide))
    have := d2 i hi
    rw [← r, ← r, ← r] at this
    exact this
  · exact mKpM_t (by omega) (Or.inl (by omega))
noncomputable def spUndo (S : sS) : Int × sS := match S.2.1.reverse with
  | [] => (vNO, S)
  | N :: r => ((r.length : Nat), (N, r.reverse, S.2.2.1, 0, S.2.2.2.2))
theorem s_K_undo (h : mMem) (S : sS) (o : sOk S) (e : RC h S) : mCon l g n_K_undo (d + 3) [.inr (8, 0)] h (fun r h' => r = some (.inl (spUndo S).1) ∧ RC h' (spUndo S).2 ∧ onlyC h h') := by
  obtain ⟨a, b, c, d1, d2⟩ := id e
  unfold spUndo
  cases hr : S.2.1.reverse with
  | nil =>
    have hz : S.2.1 = [] := List.reverse_eq_nil_iff.mp hr
    have h0 : h 3 0 0 = 0 := by
      obtain ⟨nx, b1, b2, b3, b4, b5⟩ := b
      rw [b3, hz]
      rfl
    refine mCon_mono (c_K_undo_none h h0) ?_
    rintro v h' ⟨rfl, rfl⟩
    exact ⟨rfl, e, onlyC.rf⟩
  | cons N r =>
    have hz : S.2.1 = r.reverse ++ [N] := by
      have := congrArg List.reverse hr
      rw [List.reverse_reverse, List.reverse_cons] at this
      exact this
    rw [hz] at b
    obtain ⟨nx, n1, n2, n3, n4, n5, n6⟩ := hisC_back b
    rw [List.length_reverse] at n3 n4 n5 n6
    refine mCon_mono (c_K_undo h nx r.length n1 n4 n2 n3) ?_
    rintro v h' ⟨rfl, rfl⟩
    have hg : ∀ t (i : Fin 8) k, t ≠ 3 → (t ≠ 4 ∧ t ≠ 20 ∧ t ≠ 21 ∧ t ≠ 22 ∧ t ≠ 23) → mGb h nx r.length t i k = h t i k := by
      intro t i k t3 tn
      unfold mGb
      rw [mSet_no (fun z => t3 z.1), mBec_t tn, mSet_no (fun z => t3 z.1)]
    refine ⟨rfl, ⟨isC_set (by decide) n5, hisC_eq n6 ?_ ?_ (fun t i k _ _ ht => ?_), ?_, ?_, fun i hi => ?_⟩, fun t i k ht => ?_⟩
    · rw [mSet_no (by simp)]
    · rw [mSet_no (by simp)]
    · rw [mSet_no (fun z => by omega)]
    · rw [mSet_no (by simp), hg _ _ _ (by decide) (by decide)]
      exact c
    · rw [mSet_at]
      rfl
    · rw [mSet_no (by simp), mSet_no (by simp), mSet_no (by simp), hg _ _ _ (by decide) (by decide), hg _ _ _ (by decide) (by decide), hg _ _ _ (by decide) (by decide)]
      exact d2 i hi
    · rw [mSet_no (fun z => by omega), hg _ _ _ (by omega) (by omega)]
theorem s_M_undo (h : mMem) (S : sS) (o : sOk S) (e : RM h S) : mCon l g n_M_undo d [.inr (9, 0)] h (fun r h' => r = some (.inl (spUndo S).1) ∧ RM h' (spUndo S).2 ∧ onlyM h h') := by
  obtain ⟨a, b, c, d1, d2⟩ := id e
  unfold spUndo
  cases hr : S.2.1.reverse with
  | nil =>
    have hz : S.2.1 = [] := List.reverse_eq_nil_iff.mp hr
    have h0 : h 9 0 6 = 0 := by
      rw [b.1, hz]
      rfl
    refine mCon_mono (c_M_undo_none h h0) ?_
    rintro v h' ⟨rfl, rfl⟩
    exact ⟨rfl, e, onlyM.rf⟩
  | cons N r =>
    have hz : S.2.1 = r.reverse ++ [N] := by
      have := congrArg List.reverse hr
      rw [List.reverse_reverse, List.reverse_cons] at this
      exact this
    rw [hz] at b
    obtain ⟨n1, n2, n3, n4, n5⟩ := hisM_back b
    rw [List.length_reverse] at n1 n2 n3 n4 n5
    refine mCon_mono (c_M_undo h r.length n2 n1) ?_
    rintro v h' ⟨rfl, rfl⟩
    have hg : ∀ t (i : Fin 8) k, (t ≠ 9 ∨ (k ≠ 0 ∧ k ≠ 1 ∧ k ≠ 6 ∧ k ≠ 43)) → t ≠ 40 → t ≠ 41 → t ≠ 42 → mUd h r.length t i k = h t i k := by
      intro t i k t9 t0 t1 t2
      unfold mUd mUdC mUdB mUdA
      rw [mSet_no (fun z => by omega), mSeg_ne t2, mSeg_ne t1, mSeg_ne t0, mSet_no (fun z => by omega), mSet_no (fun z => by omega), mSet_no (fun z => by omega)]
    refine ⟨rfl, ⟨n3, n4, ?_, n5, fun i hi => ?_⟩, fun t i k ht => hg t i k (Or.inl (by omega)) (by omega) (by omega) (by omega)⟩
    · rw [hg _ _ _ (by decide) (by decide) (by decide) (by decide)]
      exact c
    · have r : ∀ q, mUd h r.length 55 0 q = h 55 0 q := fun q => hg 55 0 q (Or.inl (by decide)) (by decide) (by decide) (by decide)
      rw [r, r, r]
      exact d2 i hi
end State
