/-! the class's clear, copies, copy, count -/
def scrC (h h' : mMem) : Prop := ∀ (t : Nat) (i : Fin 8) (k : Nat), ¬ (t = 0 ∨ t = 1 ∨ t = 2 ∨ t = 5 ∨ t = 7 ∨ (24 ≤ t ∧ t ≤ 30) ∨ ((t = 4 ∨ (20 ≤ t ∧ t ≤ 23)) ∧ i = 1)) → h' t i k = h t i k
theorem scrC.rf {h : mMem} : scrC h h := fun _ _ _ _ => rfl
theorem scrC.tr {h h1 h2 : mMem} (a : scrC h h1) (b : scrC h1 h2) : scrC h h2 := fun t i k z => (b t i k z).trans (a t i k z)
theorem scrC.ofF {h h1 : mMem} (a : farF h h1) : scrC h h1 := fun t i k z => a t i k (fun y => z (by omega))
theorem scrC.only {h h1 : mMem} (a : scrC h h1) : onlyC h h1 := fun t i k z => a t i k (fun y => by omega)
theorem isC_scr {h h' : mMem} {i : Fin 8} {N : nN} (e : isC h i N) (hi : i ≠ 1) (f : scrC h h') : isC h' i N := isC_eq e (fun t k ht => f t i k (fun y => by
  rcases y with y | y | y | y | y | y | y
  · omega
  · omega
  · omega
  · omega
  · omega
  · omega
  · exact hi y.2))
theorem RC_scr {h h' : mMem} {S : sS} (e : RC h S) (q : scrC h h') : RC h' S := by
  obtain ⟨a, b, c, d1, d2⟩ := e
  have qn : ∀ (t : Nat) (i : Fin 8) (k : Nat), i ≠ 1 → t = 4 ∨ t = 20 ∨ t = 21 ∨ t = 22 ∨ t = 23 → h' t i k = h t i k := fun t i k hi ht => q t i k (fun y => by
    rcases y with y | y | y | y | y | y | y
    · omega
    · omega
    · omega
    · omega
    · omega
    · omega
    · exact hi y.2)
  refine ⟨isC_eq a (fun t k ht => qn t 0 k (by decide) ht), hisC_eq b (q 3 0 0 (by omega)) (q 3 0 2 (by omega)) (fun t i k _ hi ht => qn t i k hi ht), (q 8 0 7 (by omega)).trans c, (q 6 0 3 (by omega)).trans d1, fun i hi => ?_⟩
  rw [q 31 0 _ (by omega), q 32 0 _ (by omega), q 33 0 _ (by omega)]
  exact d2 i hi
abbrev ansC (h : mMem) (S : sS) (a : Int) : Option mRV → mMem → Prop := fun r h' => r = some (.inl a) ∧ RC h' S ∧ onlyC h h'
theorem ansC_F {h h' : mMem} {S : sS} (e : RC h S) (f : farF h h') : RC h' S ∧ onlyC h h' := ⟨RC_scr e (scrC.ofF f), (scrC.ofF f).only⟩
section KClear
variable {l : Launch} {g : mG} {d : Nat}
theorem s_K_clear (h : mMem) (S : sS) (o : sOk S) (e : RC h S) : mCon l g n_K_clear (d + 11) [.inr (8, 0)] h (ansC h S (spClear S.1)) := by
  refine e_K_clear (fun hv hm => ?_)
  refine mGo_wp h_K_clear 40 [] ?_
  refine mCall_on2 (c_Finder_hasAny 0 S.1 o.1 h e.1) ?_
  rintro v h' ⟨rfl, f⟩
  unfold spClear
  refine ⟨fun z => ⟨?_, ansC_F e f⟩, fun z => ⟨?_, ansC_F e f⟩⟩
  · rw [mBc_t (Classical.not_not.mp (mBc_eq0.mp z))]
  · rw [mBc_f (mBc_ne0.mp z)]
theorem s_K_copies (q : Int) (h : mMem) (S : sS) (o : sOk S) (e : RC h S) : mCon l g n_K_copies (d + 10) [.inr (8, 0), .inl q] h (ansC h S (spCopies S.1 q)) := by
  refine e_K_copies (fun hv hm => ?_)
  refine mGo_wp h_K_copies 40 [] ?_
  have hC := o.1.2.1.2
  refine mCall_is (c_Net_hasColour 0 q h) ?_
  refine ⟨fun z => ?_, fun z => ?_⟩
  · rw [mB_eq0, e.1.2.1] at z
    exact ⟨by rw [spCopies, if_neg z], e, onlyC.rf⟩
  · have c := mB_ne0.mp z
    rw [e.1.2.1] at c
    obtain ⟨q', rfl⟩ := Int.eq_ofNat_of_zero_le c.1
    refine mCall_on2 (c_Finder_howMany 0 q' S.1 o.1 (by omega) h e.1) ?_
    rintro v h' ⟨rfl, f⟩
    exact ⟨by rw [spCopies, if_pos c, Int.toNat_natCast], ansC_F e f⟩
theorem s_K_copy (q i : Int) (h : mMem) (S : sS) (o : sOk S) (e : RC h S) : mCon l g n_K_copy (d + 10) [.inr (8, 0), .inl q, .inl i] h (ansC h S (spCopy S.1 q i)) := by
  refine e_K_copy (fun hv hm => ?_)
  refine mGo_wp h_K_copy 40 [18] ?_
  have hC := o.1.2.1.2
  refine mCall_is (c_Net_hasColour 0 q h) ?_
  refine ⟨fun z => ?_, fun z => ⟨fun z2 => ?_, fun z2 => ?_⟩⟩
  · rw [mB_eq0, e.1.2.1] at z
    exact ⟨by rw [spCopy, if_neg (fun w => z w.1)], e, onlyC.rf⟩
  · have c := mB_ne0.mp z
    rw [e.1.2.1] at c
    obtain ⟨q', rfl⟩ := Int.eq_ofNat_of_zero_le c.1
    refine mGo_wp h_K_copy 40 [] ?_
    refine mCall_on2 (c_Finder_findFirst 0 q' S.1 o.1 (by omega) h e.1) ?_
    rintro v h' ⟨rfl, w, f⟩
    unfold spCopy
    rw [if_pos ⟨c, z2⟩, Int.toNat_natCast]
    cases hx : cpL S.1 q' 0 with
    | nil => exact ⟨fun _ => ⟨rfl, ansC_F e f⟩, fun y => absurd (mBc_f (fun y => y rfl)) y⟩
    | cons x xs =>
      obtain ⟨w2, w1⟩ := w x xs hx
      have hl := (cpL_row o.1 (show q' < 3 by omega) (x := x) (mm := 0) (by rw [hx]; exact List.mem_cons_self)).2.1
      refine ⟨fun y => absurd (by simp) (mBc_eq0.mp y), fun _ => ⟨fun y => ?_, fun y => ?_⟩⟩
      · rw [w1] at y
        refine ⟨⟨z2, by omega⟩, ?_, ansC_F e f⟩
        rw [w2 i.toNat (by omega)]
        unfold fstAt
        dsimp only
        rw [if_pos y]
      · rw [w1] at y
        exact ⟨by unfold fstAt; dsimp only; rw [if_neg (by omega)], ansC_F e f⟩
  · exact ⟨by rw [spCopy, if_neg (fun w => by omega)], e, onlyC.rf⟩
theorem s_K_count (w : Int) (h : mMem) (S : sS) (o : sOk S) (e : RC h S) : mCon l g n_K_count (d + 11) [.inr (8, 0), .inl w] h (ansC h S (spCount S w)) := by
  refine e_K_count (fun hv hm => ?_)
  refine mGo_wp h_K_count 40 [] ?_
  unfold spCount
  refine ⟨⟨fun z => ?_, fun z => ?_, fun z => ?_, fun z => ?_, fun z => ?_, fun z => ?_, trivial⟩, fun z => ?_⟩
  · rw [if_pos z]
    exact ⟨by rw [e.1.1], e, onlyC.rf⟩
  · rw [if_neg (by omega), if_pos (by omega)]
    exact ⟨by rw [e.1.2.1], e, onlyC.rf⟩
  · rw [if_neg (by omega), if_neg (by omega), if_pos (by omega)]
    refine mCall_is (c_Net_bareCount 0 S.1 h o.1 e.1) ?_
    exact ⟨rfl, e, onlyC.rf⟩
  · rw [if_neg (by omega), if_neg (by omega), if_neg (by omega), if_pos (by omega)]
    refine mCall_on2 (c_Finder_clashes 0 S.1 o.1 h e.1) ?_
    rintro v h' ⟨rfl, f⟩
    exact ⟨rfl, ansC_F e f⟩
  · rw [if_neg (by omega), if_neg (by omega), if_neg (by omega), if_neg (by omega), if_pos (by omega)]
    obtain ⟨nx, b1, b2, b3, b4⟩ := e.2.1
    exact ⟨by rw [b3], e, onlyC.rf⟩
  · rw [if_neg (by omega), if_neg (by omega), if_neg (by omega), if_neg (by omega), if_neg (by omega), if_pos (by omega)]
    exact ⟨by rw [e.2.2.2.1], e, onlyC.rf⟩
  · have z : w < 0 ∨ 0 + ((6 : Nat) : Int) ≤ w := z
    rw [if_neg (by omega), if_neg (by omega), if_neg (by omega), if_neg (by omega), if_neg (by omega), if_neg (by omega)]
    exact ⟨rfl, e, onlyC.rf⟩
end KClear
