/-! check: what it answers, and the model's side -/
noncomputable def flR (S : sS) : Bool × Nat := flw S.1 S.2.2.2 (opM S.1) (oN S.1) (opM S.1) 0 (nT S.1) 0
noncomputable def spCheck (S : sS) : Int := if S.2.2.2.1 = 0 then vNO else if (flR S).1 = true ∧ (flR S).2 = S.2.2.2.1 then 0 else 1 + ((flR S).2 : Nat)
/-- rows only where a join is bare, and bits of twelve points -/
def sOk3 (S : sS) : Prop := (0 < S.2.2.2.1 → 0 < opM S.1) ∧ ∀ i, i < 500 → 0 ≤ S.2.2.2.2.2.2 i ∧ S.2.2.2.2.2.2 i < 4096
section MCheck
variable {l : Launch} {g : mG} {d : Nat}
theorem s_M_check (h : mMem) (S : sS) (o : sOk S) (o3 : sOk3 S) (e : RM h S) : mCon l g n_M_check (d + 81) [.inr (9, 0)] h (fun r h' => r = some (.inl (spCheck S)) ∧ RM h' S ∧ onlyM h h') := by
  refine e_M_check (fun hv hm => ?_)
  refine mGo_wp h_M_check 120 [] ?_
  have e43 := e.2.2.2.1
  unfold spCheck
  refine ⟨fun z => ?_, fun z => ?_⟩
  · rw [e43] at z
    rw [if_neg (by omega)]
    have hm0 : 0 < opM S.1 := o3.1 (by omega)
    obtain ⟨j, hj⟩ : ∃ j, opM S.1 = j + 1 := ⟨opM S.1 - 1, by omega⟩
    have ho := opO_of o.1
    refine mCall_is (mCon_lift (by omega) (c_M_layAside (d := d) h)) ?_
    have e1 : isM (mSeg h 49 0 0 66 (h 42 0)) S.1 := ⟨(mSeg_ne (by decide)).trans e.1.1, (mSeg_ne (by decide)).trans e.1.2.1, fun k hk => (mSeg_ne (by decide)).trans (e.1.2.2.1 k hk), fun k hk => (mSeg_ne (by decide)).trans (e.1.2.2.2.1 k hk), fun k hk => (mSeg_ne (by decide)).trans (e.1.2.2.2.2 k hk)⟩
    have P1 : sPm (mSet (mSeg h 49 0 0 66 (h 42 0)) 9 0 46 0) S.2.2.2 := by
      refine ⟨(mSet_no (by simp)).trans ((mSeg_ne (by decide)).trans e43), fun q hq => ?_⟩
      rw [mSet_no (by simp), mSet_no (by simp), mSet_no (by simp), mSeg_ne (by decide), mSeg_ne (by decide), mSeg_ne (by decide)]
      exact e.2.2.2.2 q hq
    have fw := s_follows (l := l) (g := g) (d := d) S.1 (opM S.1) (oN S.1) ho (fun a b h1 h2 => oN_lt h1 h2) o.1.1.2 o.1.2.1 S.2.2.2 o.2.2.2 o3.2 j 0 (nT S.1) 0 (mSet (mSeg h 49 0 0 66 (h 42 0)) 9 0 46 0) (by omega) o.1 bareI_0 (isM_far9 e1 (by decide)) P1 (mSet_at _ _ _ _ _) (Nat.zero_le _)
    refine mCall_on2 (mCon_lift (by have := ho.1; omega) fw) ?_
    rintro r h2 ⟨rfl, p46, -, f2⟩
    have hflR : flw S.1 S.2.2.2 (opM S.1) (oN S.1) (j + 1) 0 (nT S.1) 0 = flR S := by
      unfold flR
      rw [hj]
    rw [hflR] at p46 ⊢
    have bd := (flw_bd S.1 S.2.2.2 (opM S.1) (oN S.1) (opM S.1) 0 (nT S.1) 0 (Nat.zero_le _)).2
    have bd : (flR S).2 ≤ S.2.2.2.1 := bd
    have b5 := o.2.2.2
    refine mCall_is (mCon_lift (by omega) (c_M_bring (d := d) _)) ?_
    have fr : ∀ (t : Nat) (i : Fin 8) (k : Nat), ¬ (t = 42 ∨ (44 ≤ t ∧ t ≤ 49) ∨ (t = 9 ∧ ((9 ≤ k ∧ k ≤ 15) ∨ k = 17 ∨ k = 20 ∨ k = 21 ∨ k = 46))) → mSeg h2 42 0 0 66 (h2 49 0) t i k = h t i k := fun t i k y => by
      rw [mSeg_ne (by omega), f2 t i k (by omega), mSet_no (fun w => y (by omega)), mSeg_ne (by omega)]
    have a49 : ∀ k, k < 66 → h2 49 0 k = nT S.1 k := fun k hk => by
      rw [f2 _ _ _ (by omega), mSet_no (by simp), mSeg_in0 hk]
      exact e.1.2.2.2.2 k hk
    have R : RM (mSeg h2 42 0 0 66 (h2 49 0)) S := by
      obtain ⟨a, ⟨b1, b2, b3⟩, c, d1, d2⟩ := e
      refine ⟨⟨(fr _ _ _ (by decide)).trans a.1, (fr _ _ _ (by decide)).trans a.2.1, fun k hk => (fr _ _ _ (by omega)).trans (a.2.2.1 k hk), fun k hk => (fr _ _ _ (by omega)).trans (a.2.2.2.1 k hk), fun k hk => (mSeg_in0 hk).trans (a49 k hk)⟩, ⟨(fr _ _ _ (by decide)).trans b1, b2, fun e N hN => isB_out (fun x _ _ => fr 43 0 x (by omega)) (b3 e N hN)⟩, (fr _ _ _ (by decide)).trans c, (fr _ _ _ (by decide)).trans d1, fun i hi => ?_⟩
      rw [fr _ _ _ (by omega), fr _ _ _ (by omega), fr _ _ _ (by omega)]
      exact d2 i hi
    have ol : onlyM h (mSeg h2 42 0 0 66 (h2 49 0)) := fun t i k z => fr t i k (fun y => z (by omega))
    have q46 : mSeg h2 42 0 0 66 (h2 49 0) 9 0 46 = ((flR S).2 : Nat) := (mSeg_ne (by decide)).trans p46
    have q43 : mSeg h2 42 0 0 66 (h2 49 0) 9 0 43 = (S.2.2.2.1 : Nat) := (fr _ _ _ (by decide)).trans e43
    have w1 : mWr (1 + mSeg h2 42 0 0 66 (h2 49 0) 9 0 46) = 1 + ((flR S).2 : Nat) := by rw [q46, mWr_of ⟨by omega, by omega⟩]
    refine ⟨fun z2 => ?_, fun z2 => ⟨fun z3 => ?_, fun z3 => ?_⟩⟩
    · rw [if_neg (fun y => mBc_eq0.mp z2 y.1)]
      exact ⟨by rw [← w1], R, ol⟩
    · rw [q46, q43] at z3
      rw [if_neg (fun y => z3 (by rw [y.2]))]
      exact ⟨by rw [← w1], R, ol⟩
    · rw [q46, q43] at z3
      rw [if_pos ⟨mBc_ne0.mp z2, by omega⟩]
      exact ⟨rfl, R, ol⟩
  · rw [e43] at z
    rw [if_pos (by omega)]
    exact ⟨rfl, e, onlyM.rf⟩
end MCheck
