/-! rows on cells and locals -/
theorem mCat (ad : mRef → Nat) (v : mRV) : (mCv ad v).category = 1 := by cases v <;> rfl
theorem mCl_lt (ci : Nat) (h : ci < 10) : vwCl[ci]? = some (mRn ci, mT ci, mN ci) := by
  rcases (show ci = 0 ∨ ci = 1 ∨ ci = 2 ∨ ci = 3 ∨ ci = 4 ∨ ci = 5 ∨ ci = 6 ∨ ci = 7 ∨ ci = 8 ∨ ci = 9 by omega) with rfl | rfl | rfl | rfl | rfl | rfl | rfl | rfl | rfl | rfl <;> rfl
theorem mMem_w {mi : mMi} {n : Nat} {w : Cond} (h : lw_tbl[n]? = some w) (hg : goodWord w = true) : w ∈ mWs mi :=
  List.mem_cons_of_mem _ (List.mem_filter.mpr ⟨List.mem_of_getElem? h, hg⟩)
theorem mIn_w {mi : mMi} (ci : Nat) (h : ci < 10) : ∀ w ∈ u_ws (mRn ci) (mT ci) (mN ci), w ∈ mWs mi := by
  intro w hw
  have h1 := mInX ci h w (by rw [mCl_lt ci h]; exact hw)
  refine List.mem_cons_of_mem _ (List.mem_filter.mpr ⟨h1, ?_⟩)
  obtain ⟨k, -, rfl⟩ := List.mem_map.mp hw
  unfold u_lay
  split <;> rfl
theorem mGd : ∀ w ∈ mWds, goodWord w = true := fun w h => (List.mem_filter.mp h).2
theorem mMt_mem {m : Nat} (h : m < mMl.length) : mMt m ∈ mMl := by
  unfold mMt
  rw [List.getD_eq_getElem?_getD, List.getElem?_eq_getElem h]
  exact List.getElem_mem h
theorem mGoodIn {mi mj : mMi} (hj : mj ∈ mMl) : GoodIn (mWs mi) (mWs mj) := by
  intro w hw
  have key : w ∈ mWds := by
    rcases List.mem_cons.mp hw with rfl | h
    · exact List.mem_filter.mpr ⟨List.mem_of_getElem? (mMl_code mj hj), rfl⟩
    · exact h
  exact ⟨List.mem_cons_of_mem _ key, good_of_word (mGd w key)⟩
theorem mShape_ok : ∀ r ∈ mL, (match mSh r.1 with
    | .inl (ci, fs) => decide (ci < 10) && decide (fs.length = mN ci) && fs.all (fun f => match f with
      | none => true
      | some (t, none) => decide ((t, r.2) ∈ mLq)
      | some (t, some i) => decide ((t, i) ∈ mLq))
    | .inr (k, n) => decide (k < 3) && decide (n < 65536)) = true := by decide +kernel
theorem mNet_in (i : Fin 8) : ((4, i) : mRef) ∈ mLq := by
  have : ∀ i : Fin 8, ((4, i) : mRef) ∈ mLq := by decide +kernel
  exact this i
theorem mIn_L {r : mRef} (h : r ∈ mLq) (hs : ∀ n, mSh r.1 ≠ .inr (3, n)) : r ∈ mL := by
  rcases List.mem_append.mp h with h | h
  · exact h
  · obtain ⟨t, ht, rfl⟩ := List.mem_map.mp h
    rcases List.mem_cons.mp ht with rfl | ht
    · exact absurd rfl (hs 6)
    rcases List.mem_cons.mp ht with rfl | ht
    · exact absurd rfl (hs 6)
    rcases List.mem_cons.mp ht with rfl | ht
    · exact absurd rfl (hs 6)
    rcases List.mem_cons.mp ht with rfl | ht
    · exact absurd rfl (hs 66)
    rcases List.mem_cons.mp ht with rfl | ht
    · exact absurd rfl (hs 66)
    cases ht
theorem mIn_T {r : mRef} {n : Nat} (h : r ∈ mLq) (hs : mSh r.1 = .inr (3, n)) : r.1 ∈ ([100, 101, 102, 103, 104] : List Nat) ∧ r.2 = 0 ∧ n = (mTab r.1).length := by
  rcases List.mem_append.mp h with h | h
  · have h1 := mShape_ok r h
    rw [hs] at h1
    simp at h1
  · obtain ⟨t, ht, rfl⟩ := List.mem_map.mp h
    refine ⟨ht, rfl, ?_⟩
    rcases List.mem_cons.mp ht with rfl | ht
    · cases hs; rfl
    rcases List.mem_cons.mp ht with rfl | ht
    · cases hs; rfl
    rcases List.mem_cons.mp ht with rfl | ht
    · cases hs; rfl
    rcases List.mem_cons.mp ht with rfl | ht
    · cases hs; rfl
    rcases List.mem_cons.mp ht with rfl | ht
    · cases hs; rfl
    cases ht
theorem mElt_congr {g : mG} {h h' : mMem} {r : mRef} (e : ∀ k, h' r.1 r.2 k = h r.1 r.2 k) : mElt g h' r = mElt g h r := by
  have e1 : ∀ (fs : List mFd) (k : Nat), mFs g h' r fs k = mFs g h r fs k := by
    intro fs
    induction fs with
    | nil => intro k; rfl
    | cons f fs ih =>
      intro k
      simp only [mFs]
      rw [ih]
      congr 1
      unfold mFv
      split
      · rw [e]
      · rfl
      · rfl
  have e2 : (fun k => Int32.ofInt (h' r.1 r.2 k)) = (fun k => Int32.ofInt (h r.1 r.2 k)) := funext fun k => by rw [e]
  unfold mElt
  split
  · rw [e1]
  · rw [e2]
  · rw [e2]
  · rfl
theorem mW_at {g : mG} {h : mMem} {r : mRef} {q : Nat} (hq : mL[q]? = some r) : (mW g h)[q]? = some (g.2.2 r, mElt g h r) := by
  unfold mW
  rw [List.getElem?_map, hq]
  rfl
theorem mW_set {g : mG} {h h' : mMem} {r : mRef} {q : Nat} (hq : mL[q]? = some r) (e : ∀ r' : mRef, r' ≠ r → ∀ k, h' r'.1 r'.2 k = h r'.1 r'.2 k) : (mW g h).set q (g.2.2 r, mElt g h' r) = mW g h' := by
  apply List.ext_getElem?
  intro j
  by_cases hj : j = q
  · subst hj
    have hl : j < (mW g h).length := by
      have := (List.getElem?_eq_some_iff.mp hq).1
      unfold mW
      rw [List.length_map]
      exact this
    rw [List.getElem?_set_self hl, mW_at hq]
  · rw [List.getElem?_set_ne (Ne.symm hj)]
    unfold mW
    rw [List.getElem?_map, List.getElem?_map]
    cases hr : mL[j]? with
    | none => rfl
    | some r' =>
      have hne : r' ≠ r := by
        intro hh
        subst hh
        have h1 := List.getElem?_eq_some_iff.mp hr
        have h2 := List.getElem?_eq_some_iff.mp hq
        obtain ⟨l1, e1⟩ := h1
        obtain ⟨l2, e2⟩ := h2
        have hp := List.pairwise_iff_getElem.mp mL_nodup
        rcases Nat.lt_or_gt_of_ne hj with hlt | hlt
        · exact hp j q l1 l2 hlt (e1.trans e2.symm)
        · exact hp q j l2 l1 hlt (e2.trans e1.symm)
      show some (g.2.2 r', mElt g h r') = some (g.2.2 r', mElt g h' r')
      rw [mElt_congr (e r' hne)]
theorem mSet_ne {h : mMem} {r r' : mRef} {k : Nat} {v : Int} (hne : r' ≠ r) : ∀ j, mSet h r.1 r.2 k v r'.1 r'.2 j = h r'.1 r'.2 j := by
  intro j
  unfold mSet
  rw [if_neg]
  rintro ⟨a, b, -⟩
  exact hne (Prod.ext a b)
theorem mFs_set {g : mG} {h : mMem} {r : mRef} {v : Int} {k : Nat} : ∀ (fs : List mFd) (j : Nat), fs[k]? = some none → (mFs g h r fs j).set k (.int (Int32.ofInt v)) = mFs g (mSet h r.1 r.2 (j + k) v) r fs j := by
  intro fs j hk
  apply List.ext_getElem?
  intro q
  rw [mFs_get]
  by_cases hq : q = k
  · subst hq
    have hl : q < (mFs g h r fs j).length := by
      rw [mFs_len]
      exact (List.getElem?_eq_some_iff.mp hk).1
    rw [List.getElem?_set_self hl, hk]
    simp [mFv, mSet]
  · rw [List.getElem?_set_ne (Ne.symm hq), mFs_get]
    cases fs[q]? with
    | none => rfl
    | some f =>
      simp only [Option.map_some, mFv]
      cases f with
      | none =>
        simp only [mSet]
        rw [if_neg]
        rintro ⟨-, -, z⟩
        omega
      | some f =>
        obtain ⟨t, o⟩ := f
        cases o <;> rfl
theorem mMok_set {h : mMem} {t : Nat} {i : Fin 8} {k : Nat} {v : Int} (hh : mMok h) (hv : mIr v) : mMok (mSet h t i k v) := by
  intro a b c
  unfold mSet
  split
  · exact hv
  · exact hh a b c
theorem mMok_cpy {h : mMem} {rs rd : mRef} {sp dp n : Nat} (hh : mMok h) : mMok (mCpy h rs rd sp dp n) := by
  intro a b c
  unfold mCpy
  split
  · exact hh _ _ _
  · exact hh a b c
def mLv (g : mG) (xs : mXs) : List (Nat × Value) := (List.range xs.length).filterMap (fun k => match xs[k]? with
  | some (some v) => some (k, mCv g.2.2 v)
  | _ => none)
theorem mLv_mem {g : mG} {xs : mXs} {k : Nat} {v : mRV} (h : xs[k]? = some (some v)) : (k, mCv g.2.2 v) ∈ mLv g xs := by
  unfold mLv
  rw [List.mem_filterMap]
  exact ⟨k, List.mem_range.mpr (List.getElem?_eq_some_iff.mp h).1, by rw [h]⟩
theorem mLv_has {g : mG} {ls : Array Slot} {nL : Nat} {xs : mXs} (L : mLs g ls nL xs) : lv_has ls nL (mLv g xs) := by
  refine ⟨L.1, L.2.2.1, fun q hq => ?_⟩
  unfold mLv at hq
  obtain ⟨k, -, hk⟩ := List.mem_filterMap.mp hq
  split at hk
  · next v hv =>
    cases hk
    exact L.2.2.2 k v hv
  · cases hk
theorem mLs_store {g : mG} {ls' : Array Slot} {nL : Nat} {xs : mXs} {i : Nat} {v : mRV} (hlen : xs.length = nL) (h : lv_has ls' nL ((i, mCv g.2.2 v) :: (mLv g xs).filter (fun q => !(q.1 == i) && !(q.1 + 1 == i && q.2.category == 2)))) : mLs g ls' nL (xs.set i (some v)) := by
  refine ⟨h.1, by rw [List.length_set]; exact hlen, h.2.1, fun k w hk => ?_⟩
  by_cases hi : k = i
  · subst hi
    have hl : k < xs.length := by
      have := (List.getElem?_eq_some_iff.mp hk).1
      rw [List.length_set] at this
      exact this
    rw [List.getElem?_set_self hl] at hk
    cases hk
    exact h.2.2 _ List.mem_cons_self
  · rw [List.getElem?_set_ne (Ne.symm hi)] at hk
    refine h.2.2 (k, mCv g.2.2 w) (List.mem_cons_of_mem _ (List.mem_filter.mpr ⟨mLv_mem hk, ?_⟩))
    simp [hi, mCat]
theorem mOk.push {xs : mXs} {st : List mRV} {h : mMem} {v : mRV} (O : mOk xs st h) (hv : mV v) : mOk xs (v :: st) h :=
  ⟨O.1, fun w hw => (List.mem_cons.mp hw).elim (fun e => e ▸ hv) (O.2.1 w), O.2.2⟩
theorem mOk.pop {xs : mXs} {st : List mRV} {h : mMem} {v : mRV} (O : mOk xs (v :: st) h) : mOk xs st h :=
  ⟨O.1, fun w hw => O.2.1 w (List.mem_cons_of_mem _ hw), O.2.2⟩
theorem mOk.top {xs : mXs} {st : List mRV} {h : mMem} {v : mRV} (O : mOk xs (v :: st) h) : mV v := O.2.1 v List.mem_cons_self
theorem mOk.mem {xs : mXs} {st : List mRV} {h h' : mMem} (O : mOk xs st h) (hh : mMok h') : mOk xs st h' := ⟨O.1, O.2.1, hh⟩
theorem mOk.loc {xs : mXs} {st : List mRV} {h : mMem} {k : Nat} {v : mRV} (O : mOk xs st h) (hk : xs[k]? = some (some v)) : mV v := O.1 v (List.mem_of_getElem? hk)
theorem mOk.setx {xs : mXs} {st : List mRV} {h : mMem} {k : Nat} {v : mRV} (O : mOk xs st h) (hv : mV v) : mOk (xs.set k (some v)) st h := by
  refine ⟨fun w hw => ?_, O.2⟩
  rcases List.mem_or_eq_of_mem_set hw with h1 | h1
  · exact O.1 w h1
  · cases h1; exact hv
