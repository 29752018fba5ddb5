theorem mGo_mono {l : Launch} {g : mG} {mi : mMi} {d pc : Nat} {xs : mXs} {st : List mRV} {h : mMem} {K K' : Option mRV → mMem → Prop} (k : mGo l g mi d pc xs st h K) (hk : ∀ v h', K v h' → K' v h') : mGo l g mi d pc xs st h K' := by
  intro p e s m args below meth c H locs ls C P D S L O T hT X
  obtain ⟨t, a, o, h1, h2, ⟨⟨v, h', e1, e2, e3⟩, e4⟩, h4⟩ := k p e s m args below meth c H locs ls C P D S L O T hT X
  exact ⟨t, a, o, h1, h2, ⟨⟨v, h', e1, hk v h' e2, e3⟩, e4⟩, h4⟩
theorem jn_last : ∀ p, p < 12 → ∀ k, k < p → jn k p = js p + k := by decide +kernel
theorem js_last : ∀ p, p < 12 → js p + p ≤ 66 := by decide +kernel
/-- the first k joins of point p are bare -/
def tCut (T : Nat → Int) (p k : Nat) : Nat → Int := fun j => if js p ≤ j ∧ j < js p + k then -1 else T j
theorem tCut_zero (T : Nat → Int) (p : Nat) : tCut T p 0 = T := by
  funext j
  unfold tCut
  rw [if_neg (by omega)]
theorem tCut_succ (T : Nat → Int) (p k : Nat) : tSet (tCut T p k) (js p + k) (-1) = tCut T p (k + 1) := by
  funext j
  unfold tSet tCut
  by_cases h1 : j = js p + k
  · rw [if_pos h1, if_pos (by omega)]
  · rw [if_neg h1]
    by_cases h2 : js p ≤ j ∧ j < js p + k
    · rw [if_pos h2, if_pos (by omega)]
    · rw [if_neg h2, if_neg (by omega)]
def nDrop (N : nN) : nN := (nP N - 1, nC N, nK N, nS N, tCut (nT N) (nP N - 1) (nP N - 1))
noncomputable def spDrop (S : sS) : Int × sS := if nP S.1 = 1 then (vNO, S) else ((nP S.1 - 1 : Nat), sTo S (nDrop S.1))
section Drop
variable {l : Launch} {g : mG} {d : Nat}
theorem l_Net_lose (N : nN) (h : mMem) (o : nOk N) (hp2 : 2 ≤ nP N) : ∀ (n k : Nat) (H : mMem), k + n = nP N - 1 → sameBut 0 h H → isC H 0 (nSetT N (tCut (nT N) (nP N - 1) k)) → mGo l g (mMt n_Net_loseLastPoint) (d + 2) 2 [some (.inr (4, 0)), some (.inl k)] [] H (fun r h' => r = none ∧ (∀ t a q, ¬ ((t = 4 ∨ t = 22 ∨ t = 23) ∧ a = 0) → h' t a q = h t a q) ∧ isC h' 0 (nDrop N)) := by
  have hp := o.1.2
  have hl := js_last (nP N - 1) (by omega)
  intro n
  induction n with
  | zero =>
    intro k H hk hs e
    refine mGo_wp h_Net_loseLastPoint 60 [2] ?_
    have w : mWr (H 4 0 0 - 1) = ((nP N - 1 : Nat) : Int) := by
      have e1 : H 4 0 0 = (nP N : Int) := e.1
      rw [e1, mWr_of ⟨by omega, by omega⟩]
      omega
    refine ⟨fun c => ?_, fun c => by rw [w] at c; omega⟩
    have : k = nP N - 1 := by omega
    subst this
    obtain ⟨n1, n2, n3, n4, n5, n6⟩ := e
    refine ⟨rfl, fun t a q hz => ?_, ?_, ?_, fun x hx => ?_, fun x hx => ?_, fun x hx => ?_, fun y hy x hx => ?_⟩
    · rw [mSet_no (fun z => hz ⟨Or.inl z.1, z.2.1⟩)]
      exact hs t a q (fun z => hz ⟨Or.inr z.1, z.2⟩)
    · rw [mSet_at, w]
      rfl
    · rw [mSet_no (by simp)]; exact n2
    · rw [mSet_no (by simp)]; exact n3 x hx
    · rw [mSet_no (by simp)]; exact n4 x hx
    · rw [mSet_no (by simp)]; exact n5 x hx
    · rw [mSet_no (by simp)]; exact n6 y hy x hx
  | succ n ih =>
    intro k H hk hs e
    refine mGo_wp h_Net_loseLastPoint 60 [2] ?_
    have w : mWr (H 4 0 0 - 1) = ((nP N - 1 : Nat) : Int) := by
      have e1 : H 4 0 0 = (nP N : Int) := e.1
      rw [e1, mWr_of ⟨by omega, by omega⟩]
      omega
    refine ⟨fun c => by rw [w] at c; omega, fun c => ?_⟩
    have jc : mCon l g n_K_numberOf (d + 1) [.inl (k : Int), .inl (mWr (H 4 0 0 - 1))] H (mIs (some (.inl (js (nP N - 1) + k : Nat))) H) := by
      rw [w, ← jn_last (nP N - 1) (by omega) k (by omega)]
      exact c_K_numberOf k (nP N - 1) (by omega) (by omega) H
    refine mCall_is jc ?_
    obtain ⟨n1, n2, n3, n4, n5, n6⟩ := id e
    have hT := o.2.2.2.1 (js (nP N - 1) + k) (by omega)
    have hcc := o.2.1.2
    have hb : -1 ≤ tCut (nT N) (nP N - 1) k (js (nP N - 1) + k) ∧ tCut (nT N) (nP N - 1) k (js (nP N - 1) + k) < 3 := by
      unfold tCut
      rw [if_neg (by omega)]
      omega
    refine mCall_on2 (c_Net_give 0 (js (nP N - 1) + k) (-1) (tCut (nT N) (nP N - 1) k) (by omega) (by decide) H (n5 _ (by omega)) hb n6) ?_
    rintro r2 h2 ⟨rfl, g1, g2, g3⟩
    show mGo l g _ _ 2 [_, some (.inl (mWr ((k : Int) + 1)))] [] _ _
    rw [mWr_of ⟨by omega, by omega⟩]
    refine ih (k + 1) h2 (by omega) (fun t a q hz => (g1 t a q hz).trans (hs t a q hz)) ⟨?_, ?_, fun x hx => ?_, fun x hx => ?_, fun x hx => ?_, ?_⟩
    · rw [g1 _ _ _ (by simp)]; exact n1
    · rw [g1 _ _ _ (by simp)]; exact n2
    · rw [g1 _ _ _ (by simp)]; exact n3 x hx
    · rw [g1 _ _ _ (by simp)]; exact n4 x hx
    · rw [g2, n5 x hx]
      show (if x = js (nP N - 1) + k then -1 else tCut (nT N) (nP N - 1) k x) = tCut (nT N) (nP N - 1) (k + 1) x
      rw [← tCut_succ]
      rfl
    · rw [tCut_succ] at g3
      exact g3
theorem c_Net_lose (N : nN) (h : mMem) (o : nOk N) (hp2 : 2 ≤ nP N) (e : isC h 0 N) : mCon l g n_Net_loseLastPoint (d + 2) [.inr (4, 0)] h (fun r h' => r = none ∧ (∀ t a q, ¬ ((t = 4 ∨ t = 22 ∨ t = 23) ∧ a = 0) → h' t a q = h t a q) ∧ isC h' 0 (nDrop N)) := by
  refine e_Net_loseLastPoint (fun hv hm => ?_)
  refine mGo_wp h_Net_loseLastPoint 60 [2] ?_
  refine l_Net_lose N h o hp2 (nP N - 1) 0 h (by omega) (fun _ _ _ _ => rfl) ?_
  rw [tCut_zero]
  exact e
theorem s_K_drop (h : mMem) (S : sS) (o : sOk S) (e : RC h S) : mCon l g n_K_drop (d + 4) [.inr (8, 0)] h (fun r h' => r = some (.inl (spDrop S).1) ∧ RC h' (spDrop S).2 ∧ onlyC h h') := by
  refine e_K_drop (fun hv hm => ?_)
  refine mGo_wp h_K_drop 60 [] ?_
  have hp := o.1.1
  refine ⟨fun c => ?_, fun c => ?_⟩
  · rw [e.1.1] at c
    rw [spDrop, if_neg (by omega)]
    refine mCall_on2 (s_remember h S o e) ?_
    rintro r1 h1 ⟨rfl, e1, q1⟩
    refine mCall_on2 (c_Net_lose S.1 h1 o.1 (by omega) e1.1) ?_
    rintro r2 h2 ⟨rfl, g1, g2⟩
    refine ⟨?_, ⟨g2, hisC_eq e1.2.1 (g1 _ _ _ (by simp)) (g1 _ _ _ (by simp)) (fun t i k i0 _ _ => g1 t i k (fun z => i0 z.2)), (g1 _ _ _ (by simp)).trans e1.2.2.1, (g1 _ _ _ (by simp)).trans e1.2.2.2.1, fun i hi => ?_⟩, fun t i k ht => (g1 t i k (fun z => by omega)).trans (q1 t i k ht)⟩
    · show some (Sum.inl (h2 4 0 0)) = _
      rw [g2.1]
      rfl
    · rw [g1 _ _ _ (by simp), g1 _ _ _ (by simp), g1 _ _ _ (by simp)]
      exact e1.2.2.2.2 i hi
  · rw [e.1.1] at c
    rw [spDrop, if_pos (by omega)]
    exact ⟨rfl, e, onlyC.rf⟩
theorem l_M_drop (p : Nat) (hp : p < 12) (h : mMem) (e : h 9 0 0 = p) : ∀ (n k : Nat), k + n = p → mGo l g (mMt n_M_drop) (d + 1) 27 [some (.inr (9, 0)), some (.inl k)] [] (mSeg h 42 0 (js p) k (fun _ => -1)) (mIs (some (.inl p)) (mSeg h 42 0 (js p) p (fun _ => -1))) := by
  have hl := js_last p hp
  intro n
  induction n with
  | zero =>
    intro k hk
    refine mGo_wp h_M_drop 60 [27] ?_
    have : k = p := by omega
    subst this
    have w : mSeg h 42 0 (js k) k (fun _ => -1) 9 0 0 = (k : Int) := by rw [mSeg_ne (by decide)]; exact e
    refine ⟨fun c => ⟨?_, rfl⟩, fun c => by rw [w] at c; omega⟩
    rw [w]
  | succ n ih =>
    intro k hk
    refine mGo_wp h_M_drop 60 [27] ?_
    have w : mSeg h 42 0 (js p) k (fun _ => -1) 9 0 0 = (p : Int) := by rw [mSeg_ne (by decide)]; exact e
    refine ⟨fun c => by rw [w] at c; omega, fun c => ?_⟩
    have jc : mCon l g n_M_join d [.inl (k : Int), .inl (mSeg h 42 0 (js p) k (fun _ => -1) 9 0 0)] (mSeg h 42 0 (js p) k (fun _ => -1)) (mIs (some (.inl (js p + k : Nat))) (mSeg h 42 0 (js p) k (fun _ => -1))) := by
      rw [w, ← jn_last p hp k (by omega)]
      exact c_M_join k p (by omega) (by omega) _
    refine mCall_is jc ?_
    refine ⟨⟨by omega, by omega⟩, ?_⟩
    have q := ih (k + 1) (by omega)
    rw [← mSeg_succ] at q
    show mGo l g _ _ 27 [_, some (.inl (mWr ((k : Int) + 1)))] [] (mSet _ 42 0 (Int.toNat ((js p + k : Nat) : Int)) (-1)) _
    rw [mWr_of ⟨by omega, by omega⟩, Int.toNat_natCast]
    exact q
theorem s_M_drop (h : mMem) (S : sS) (o : sOk S) (e : RM h S) : mCon l g n_M_drop (d + 1) [.inr (9, 0)] h (fun r h' => r = some (.inl (spDrop S).1) ∧ RM h' (spDrop S).2 ∧ onlyM h h') := by
  refine e_M_drop (fun hv hm => ?_)
  refine mGo_wp h_M_drop 60 [27] ?_
  have hp := o.1.1
  refine ⟨fun c => ?_, fun c => ?_⟩
  · rw [e.1.1] at c
    rw [spDrop, if_neg (by omega)]
    refine mCall_on2 (s_keep h S o e) ?_
    rintro r1 h1 ⟨rfl, e1, q1, -⟩
    have w : mWr (h1 9 0 0 - 1) = ((nP S.1 - 1 : Nat) : Int) := by
      rw [e1.1.1]
      show mWr ((nP S.1 : Int) - 1) = _
      rw [mWr_of ⟨by omega, by omega⟩]
      omega
    have q := l_M_drop (l := l) (g := g) (d := d) (nP S.1 - 1) (by omega) (mSet h1 9 0 0 (mWr (h1 9 0 0 - 1))) (by rw [mSet_at, w]) (nP S.1 - 1) 0 (by omega)
    rw [mSeg_zero] at q
    refine mGo_mono q ?_
    rintro v h2 ⟨rfl, rfl⟩
    obtain ⟨n1, n2, n3, n4, n5⟩ := id e1.1
    refine ⟨rfl, ⟨⟨?_, ?_, fun x hx => ?_, fun x hx => ?_, fun x hx => ?_⟩, ⟨?_, e1.2.1.2.1, fun y M hM => isB_out (fun x _ _ => ?_) (e1.2.1.2.2 y M hM)⟩, ?_, ?_, fun i hi => ?_⟩, fun t i x ht => ?_⟩
    · rw [mSeg_ne (by decide), mSet_at, w]
      rfl
    · rw [mSeg_ne (by decide), mSet_no (by simp)]; exact n2
    · rw [mSeg_ne (by decide), mSet_no (by simp)]; exact n3 x hx
    · rw [mSeg_ne (by decide), mSet_no (by simp)]; exact n4 x hx
    · show (if 42 = 42 ∧ (0 : Fin 8) = 0 ∧ js (nP S.1 - 1) ≤ x ∧ x < js (nP S.1 - 1) + (nP S.1 - 1) then (-1 : Int) else mSet h1 9 0 0 (mWr (h1 9 0 0 - 1)) 42 0 x) = (if js (nP S.1 - 1) ≤ x ∧ x < js (nP S.1 - 1) + (nP S.1 - 1) then -1 else nT S.1 x)
      by_cases hq : js (nP S.1 - 1) ≤ x ∧ x < js (nP S.1 - 1) + (nP S.1 - 1)
      · rw [if_pos ⟨rfl, rfl, hq⟩, if_pos hq]
      · rw [if_neg (fun z => hq z.2.2), if_neg hq, mSet_no (by simp)]
        exact n5 x hx
    · rw [mSeg_ne (by decide), mSet_no (by simp)]; exact e1.2.1.1
    · rw [mSeg_ne (by decide), mSet_no (by simp)]
    · rw [mSeg_ne (by decide), mSet_no (by simp)]; exact e1.2.2.1
    · rw [mSeg_ne (by decide), mSet_no (by simp)]; exact e1.2.2.2.1
    · rw [mSeg_ne (by decide), mSeg_ne (by decide), mSeg_ne (by decide), mSet_no (by simp), mSet_no (by simp), mSet_no (by simp)]
      exact e1.2.2.2.2 i hi
    · rw [mSeg_ne (by omega), mSet_no (fun z => by omega)]
      exact q1 t i x ht
  · rw [e.1.1] at c
    rw [spDrop, if_pos (by omega)]
    exact ⟨rfl, e, onlyM.rf⟩
end Drop
