/-! the walk through a method's code: what it asks for, from a row on, up to the cuts -/
def mDrop (t : Nat) : mCode → mCode
  | [] => []
  | e :: r => bif e.1 == t then e :: r else mDrop t r
def mWp (l : Launch) (g : mG) (mi : mMi) (d : Nat) (code : mCode) (cut : List Nat) (K : Option mRV → mMem → Prop) : Nat → mCode → mXs → List mRV → mMem → Prop
  | 0, _, _, _, _ => False
  | n + 1, r, xs, st, h => match r with
    | [] => False
    | (_, ι, _) :: r' => mSem d ι
        (fun xs st h => match r' with
          | [] => False
          | (pc', _, _) :: _ => bif cut.contains pc' then mGo l g mi d pc' xs st h K else mWp l g mi d code cut K n r' xs st h)
        (fun t xs st h => bif cut.contains t then mGo l g mi d t xs st h K else mWp l g mi d code cut K n (mDrop t code) xs st h)
        (mCall l g d) K xs st h
theorem mChk_drop {mi : mMi} (t : Nat) : ∀ code : mCode, mChk mi code = true → mChk mi (mDrop t code) = true
  | [], h => h
  | (pc, ι, len) :: r, h => by
    unfold mDrop
    cases hb : ((pc, ι, len) : Nat × mIns × Nat).1 == t with
    | true => rw [cond_true]; exact h
    | false =>
      rw [cond_false]
      refine mChk_drop t r ?_
      unfold mChk at h
      simp only [Bool.and_eq_true] at h
      exact h.2
theorem mDrop_head (t : Nat) : ∀ (code : mCode) (e : Nat × mIns × Nat) (r : mCode), mDrop t code = e :: r → e.1 = t
  | [], e, r, h => by cases h
  | a :: c, e, r, h => by
    unfold mDrop at h
    cases hb : a.1 == t with
    | true =>
      rw [hb, cond_true] at h
      cases h
      exact beq_iff_eq.mp hb
    | false =>
      rw [hb, cond_false] at h
      exact mDrop_head t c e r h
theorem mWp_ok {l : Launch} {g : mG} {mi : mMi} {d : Nat} {code : mCode} {cut : List Nat} {K : Option mRV → mMem → Prop} (hc : mChk mi code = true) : ∀ (n : Nat) (r : mCode) (xs : mXs) (st : List mRV) (h : mMem), mChk mi r = true → mWp l g mi d code cut K n r xs st h → ∃ e r', r = e :: r' ∧ mGo l g mi d e.1 xs st h K := by
  intro n
  induction n with
  | zero => intro r xs st h _ H; exact H.elim
  | succ n ih =>
    intro r xs st h hr H
    cases r with
    | nil => exact H.elim
    | cons e r' =>
      obtain ⟨pc, ι, len⟩ := e
      refine ⟨(pc, ι, len), r', rfl, ?_⟩
      have hr0 := hr
      unfold mChk at hr
      simp only [Bool.and_eq_true] at hr
      obtain ⟨⟨h1, h2⟩, h3⟩ := hr
      split at h1
      · next ins k hd =>
        simp only [Bool.and_eq_true, beq_iff_eq, decide_eq_true_eq] at h1
        obtain ⟨⟨rfl, hln⟩, hres⟩ := h1
        unfold mWp at H
        refine mSem_ok ins hd hln hres ?_ ?_ H
        · intro xs st h q
          cases r' with
          | nil => exact q.elim
          | cons e2 r2 =>
            obtain ⟨pc2, ι2, len2⟩ := e2
            have h2 : pc2 = pc + k := beq_iff_eq.mp h2
            subst h2
            have q : (bif cut.contains (pc + k) then mGo l g mi d (pc + k) xs st h K else mWp l g mi d code cut K n ((pc + k, ι2, len2) :: r2) xs st h) := q
            cases hb : cut.contains (pc + k) with
            | true => rw [hb, cond_true] at q; exact q
            | false =>
              rw [hb, cond_false] at q
              obtain ⟨e3, r3, e4, e5⟩ := ih _ xs st h h3 q
              cases e4
              exact e5
        · intro t xs st h q
          cases hb : cut.contains t with
          | true =>
            have q : (bif cut.contains t then mGo l g mi d t xs st h K else mWp l g mi d code cut K n (mDrop t code) xs st h) := q
            rw [hb, cond_true] at q
            exact q
          | false =>
            have q : (bif cut.contains t then mGo l g mi d t xs st h K else mWp l g mi d code cut K n (mDrop t code) xs st h) := q
            rw [hb, cond_false] at q
            obtain ⟨e3, r3, e4, e5⟩ := ih _ xs st h (mChk_drop t code hc) q
            have := mDrop_head t code e3 r3 e4
            rw [this] at e5
            exact e5
      · cases h1
/-- from a row of a method's code -/
theorem mGo_wp {l : Launch} {g : mG} {mi : mMi} {d pc : Nat} {code : mCode} {K : Option mRV → mMem → Prop} {xs : mXs} {st : List mRV} {h : mMem} (hc : mChk mi code = true) (n : Nat) (cut : List Nat) (H : mWp l g mi d code cut K n (mDrop pc code) xs st h) : mGo l g mi d pc xs st h K := by
  obtain ⟨e, r, e1, e2⟩ := mWp_ok hc n _ xs st h (mChk_drop pc code hc) H
  rw [mDrop_head pc code e r e1] at e2
  exact e2
/-- what is known of the state at any row -/
theorem mGo_ok {l : Launch} {g : mG} {mi : mMi} {d pc : Nat} {K : Option mRV → mMem → Prop} {xs : mXs} {st : List mRV} {h : mMem} (k : mOk xs st h → mGo l g mi d pc xs st h K) : mGo l g mi d pc xs st h K :=
  fun p e s m args below meth c H locs ls C P D S L O => k O p e s m args below meth c H locs ls C P D S L O
