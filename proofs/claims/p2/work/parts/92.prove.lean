/-! prove: what it answers, and the model's side -/
noncomputable def pW (f : Nat → Int) (v : eV → Int) (E : List eV) (D : Nat) : Nat → Int := fun i => if i < D then (match E[i]? with
  | some x => v x
  | none => f i) else f i
theorem pW_in {f : Nat → Int} {v : eV → Int} {E : List eV} {D i : Nat} {x : eV} (hi : i < D) (hx : E[i]? = some x) : pW f v E D i = v x := by
  unfold pW
  rw [if_pos hi, hx]
theorem pW_out {f : Nat → Int} {v : eV → Int} {E : List eV} {D i : Nat} (hi : ¬ i < D) : pW f v E D i = f i := if_neg hi
noncomputable def prW (N : nN) (P : (Nat → Int) × (Nat → Int) × (Nat → Int)) : (Nat → Int) × (Nat → Int) × (Nat → Int) := (pW P.1 (fun x => (oN N x.1 : Nat)) (eN N) (fR N 500).2.1, pW P.2.1 (fun x => x.2 (oN N x.1)) (eN N) (fR N 500).2.1, pW P.2.2 (bitE N (oN N)) (eN N) (fR N 500).2.1)
noncomputable def spProve (S : sS) : Int × sS := if qB (nClear S.1) = true ∧ (fR S.1 500).1 ≠ 1 then (if (fR S.1 500).1 = -1 then (vFULL, (S.1, S.2.1, S.2.2.1, S.2.2.2.1, prW S.1 S.2.2.2.2)) else (((fR S.1 500).2.1 : Nat), (S.1, S.2.1, S.2.2.1, (fR S.1 500).2.1, prW S.1 S.2.2.2.2))) else (vNO, (S.1, S.2.1, S.2.2.1, S.2.2.2.1, prW S.1 S.2.2.2.2))
theorem sOk_prove {S : sS} (o : sOk S) : sOk (spProve S).2 := by
  unfold spProve
  split
  · split
    · exact o
    · exact ⟨o.1, o.2.1, o.2.2.1, (fR_bd S.1 500).1⟩
  · exact o
theorem fR_len (N : nN) (most : Nat) : (fR N most).2.1 ≤ (eN N).length := by
  unfold fR
  split
  · unfold frs
    split
    · exact Nat.zero_le _
    · have := (gres_bd N (opM N) (oN N) most (eN N) 0 (Nat.zero_le _)).2.2.1
      rw [Nat.zero_add] at this
      exact this
  · exact Nat.zero_le _
section MProve
variable {l : Launch} {g : mG} {d : Nat}
theorem s_M_prove (h : mMem) (S : sS) (o : sOk S) (e : RM h S) : mCon l g n_M_prove (d + 81) [.inr (9, 0)] h (fun r h' => r = some (.inl (spProve S).1) ∧ RM h' (spProve S).2 ∧ onlyM h h') := by
  refine e_M_prove (fun hv hm => ?_)
  refine mGo_wp h_M_prove 120 [] ?_
  refine mCall_is (mCon_lift (by omega) (c_M_layAside (d := d) h)) ?_
  have e1 : isM (mSeg h 49 0 0 66 (h 42 0)) S.1 := ⟨(mSeg_ne (by decide)).trans e.1.1, (mSeg_ne (by decide)).trans e.1.2.1, fun k hk => (mSeg_ne (by decide)).trans (e.1.2.2.1 k hk), fun k hk => (mSeg_ne (by decide)).trans (e.1.2.2.2.1 k hk), fun k hk => (mSeg_ne (by decide)).trans (e.1.2.2.2.2 k hk)⟩
  refine mCall_on2 (mCon_lift (by omega) (c_M_isClear (d := d) S.1 o.1 _ e1)) ?_
  rintro r h1 ⟨rfl, f1⟩
  have e2 := isM_farX e1 f1
  have z01 := mBc_01 (nClear S.1)
  refine mCall_on2 (c_M_fills S.1 o.1 1 500 (Or.inr ⟨rfl, Nat.le_refl _⟩) (by omega) _ e2) ?_
  rintro r h2 ⟨rfl, p39, p41, p45, p5, pR, p55, f2⟩
  have z02 := mBc_01 ((fR S.1 500).1 = 1)
  have p45 := p45 rfl
  have pR := pR rfl
  refine mCall_is (mCon_lift (by omega) (c_M_bring (d := d) _)) ?_
  have a49 : ∀ k, k < 66 → h2 49 0 k = nT S.1 k := fun k hk => by
    rw [f2 _ _ _ (by omega), f1 _ _ _ (by omega), mSeg_in0 hk]
    exact e.1.2.2.2.2 k hk
  have e3 : isM (mSeg h2 42 0 0 66 (h2 49 0)) S.1 := ⟨(mSeg_ne (by decide)).trans p5.1, (mSeg_ne (by decide)).trans p5.2.1, fun k hk => (mSeg_ne (by decide)).trans (p5.2.2.1 k hk), fun k hk => (mSeg_ne (by decide)).trans (p5.2.2.2.1 k hk), fun k hk => (mSeg_in0 hk).trans (a49 k hk)⟩
  have q2 : ∀ (t : Nat) (i : Fin 8) (k : Nat), ¬ ((40 ≤ t ∧ t ≤ 42) ∨ (44 ≤ t ∧ t ≤ 56) ∨ (t = 9 ∧ k ≠ 6 ∧ k ≠ 38 ∧ k ≠ 43)) → mSeg h2 42 0 0 66 (h2 49 0) t i k = h t i k := fun t i k y => by
    rw [mSeg_ne (by omega), f2 t i k (by omega), f1 t i k (by omega), mSeg_ne (by omega)]
  have rows : ∀ i, i < 500 → mSeg h2 42 0 0 66 (h2 49 0) 55 0 (3 * i) = (prW S.1 S.2.2.2.2).1 i ∧ mSeg h2 42 0 0 66 (h2 49 0) 55 0 (3 * i + 1) = (prW S.1 S.2.2.2.2).2.1 i ∧ mSeg h2 42 0 0 66 (h2 49 0) 55 0 (3 * i + 2) = (prW S.1 S.2.2.2.2).2.2 i := by
    intro i hi
    rw [mSeg_ne (by decide), mSeg_ne (by decide), mSeg_ne (by decide)]
    by_cases hD : i < (fR S.1 500).2.1
    · have hl := fR_len S.1 500
      have hx := List.getElem?_eq_getElem (show i < (eN S.1).length by omega)
      have q := pR i _ hx (by omega)
      rw [Nat.zero_add] at q
      refine ⟨q.1.trans ?_, q.2.1.trans ?_, q.2.2.trans ?_⟩
      · exact (pW_in (v := fun x => (oN S.1 x.1 : Nat)) hD hx).symm
      · exact (pW_in (v := fun x => x.2 (oN S.1 x.1)) hD hx).symm
      · exact (pW_in (v := bitE S.1 (oN S.1)) hD hx).symm
    · have b : ∀ k, 3 * i ≤ k → h2 55 0 k = h 55 0 k := fun k hk => by
        rw [p55 k (Or.inl (by omega)), f1 _ _ _ (by omega), mSeg_ne (by decide)]
      have dd := e.2.2.2.2 i hi
      rw [b _ (by omega), b _ (by omega), b _ (by omega)]
      refine ⟨dd.1.trans ?_, dd.2.1.trans ?_, dd.2.2.trans ?_⟩
      · exact (pW_out hD).symm
      · exact (pW_out hD).symm
      · exact (pW_out hD).symm
  have R : RM (mSeg h2 42 0 0 66 (h2 49 0)) (S.1, S.2.1, S.2.2.1, S.2.2.2.1, prW S.1 S.2.2.2.2) := by
    obtain ⟨a, ⟨b1, b2, b3⟩, c, d1, d2⟩ := e
    exact ⟨e3, ⟨(q2 _ _ _ (by decide)).trans b1, b2, fun e N hN => isB_out (fun x _ _ => q2 43 0 x (by omega)) (b3 e N hN)⟩, (q2 _ _ _ (by decide)).trans c, (q2 _ _ _ (by decide)).trans d1, rows⟩
  have ol : onlyM h (mSeg h2 42 0 0 66 (h2 49 0)) := fun t i k z => q2 t i k (fun y => z (by omega))
  unfold spProve
  refine ⟨fun z => ?_, fun z => ⟨fun z2 => ⟨fun z3 => ?_, fun z3 => ?_⟩, fun z2 => ?_⟩⟩
  · rw [if_neg (fun y => mBc_eq0.mp z (qB_iff.mp y.1))]
    exact ⟨rfl, R, ol⟩
  · have z2 := mBc_eq0.mp z2
    have z3 : h2 9 0 41 = 0 := (mSeg_ne (h := h2) (t := 42) (i := 0) (lo := 0) (n := 66) (f := h2 49 0) (t' := 9) (i' := 0) (q := 41) (by decide)).symm.trans z3
    rw [p41] at z3
    rw [if_pos ⟨qB_t (mBc_ne0.mp z), z2⟩, if_neg (mBc_eq0.mp z3)]
    have h45 : mSeg h2 42 0 0 66 (h2 49 0) 9 0 45 = ((fR S.1 500).2.1 : Nat) := (mSeg_ne (by decide)).trans p45
    refine ⟨?_, ?_, fun t i k y => (mSet_no (fun w => y (by omega))).trans (ol t i k y)⟩
    · show some (Sum.inl (mSet (mSeg h2 42 0 0 66 (h2 49 0)) 9 0 43 (mSeg h2 42 0 0 66 (h2 49 0) 9 0 45) 9 0 43)) = _
      rw [mSet_at, h45]
    · obtain ⟨a, ⟨b1, b2, b3⟩, c, d1, d2⟩ := R
      refine ⟨isM_far9 a (by decide), ⟨(mSet_no (by simp)).trans b1, b2, fun e N hN => isB_out (fun x _ _ => mSet_no (by simp)) (b3 e N hN)⟩, (mSet_no (by simp)).trans c, (mSet_at _ _ _ _ _).trans h45, fun i hi => ?_⟩
      rw [mSet_no (by simp), mSet_no (by simp), mSet_no (by simp)]
      exact d2 i hi
  · have z2 := mBc_eq0.mp z2
    have z3 : h2 9 0 41 ≠ 0 := fun w => z3 ((mSeg_ne (h := h2) (t := 42) (i := 0) (lo := 0) (n := 66) (f := h2 49 0) (t' := 9) (i' := 0) (q := 41) (by decide)).trans w)
    rw [p41] at z3
    rw [if_pos ⟨qB_t (mBc_ne0.mp z), z2⟩, if_pos (mBc_ne0.mp z3)]
    exact ⟨rfl, R, ol⟩
  · rw [if_neg (fun y => y.2 (mBc_ne0.mp z2))]
    exact ⟨rfl, R, ol⟩
end MProve
