/-! the class's Forms: the leaves -/
def tF (T : bT) (s : List Nat) (a b : Nat) : Int := T (jn (s.getD a 0) (s.getD b 0))
/-- the joins to the point p against the best so far -/
def cpJ (T B : bT) (s : List Nat) (p : Nat) : Nat → Nat → Int
  | 0, _ => 0
  | m + 1, a => if tF T s a p < B (jn a p) then -1 else if tF T s a p = B (jn a p) then cpJ T B s p m (a + 1) else 1
/-- a numbering of some of n points -/
def numO (n : Nat) (s : List Nat) : Prop := s.Nodup ∧ ∀ x ∈ s, x < n
def fSm (h : mMem) (T : bT) (s : List Nat) : Prop := (∀ k, k < 21 → h 29 0 k = T k) ∧ ∀ i, i < s.length → h 30 0 i = (s.getD i 0 : Nat)
theorem jn21 : ∀ a, a < 7 → ∀ b, b < 7 → a ≠ b → jn a b < 21 := by decide +kernel
theorem nodup_ne {s : List Nat} (h : s.Nodup) {a b : Nat} (ha : a < s.length) (hb : b < s.length) (hab : a ≠ b) : s.getD a 0 ≠ s.getD b 0 := by
  by_cases z : a < b
  · exact nodup_getD h z hb
  · exact fun w => nodup_getD h (show b < a by omega) ha w.symm
section Forms1
variable {l : Launch} {g : mG} {d : Nat}
theorem c_Forms_toneOf (T : bT) (n : Nat) (hn : n ≤ 7) (s : List Nat) (o : numO n s) (a b : Nat) (ha : a < s.length) (hb : b < s.length) (hl : s.length ≤ 7) (hab : a ≠ b) (h : mMem) (e : fSm h T s) : mCon l g n_Forms_toneOf (d + 1) [.inr (2, 0), .inl a, .inl b] h (mIs (some (.inl (tF T s a b))) h) := by
  have h1 := o.2 _ (getD_mem ha)
  have h2 := o.2 _ (getD_mem hb)
  have ra : h 30 0 ((a : Int)).toNat = (s.getD a 0 : Nat) := by rw [Int.toNat_natCast, e.2 a ha]
  have rb : h 30 0 ((b : Int)).toNat = (s.getD b 0 : Nat) := by rw [Int.toNat_natCast, e.2 b hb]
  have hj := jn21 _ (show s.getD a 0 < 7 by omega) _ (show s.getD b 0 < 7 by omega) (nodup_ne o.1 ha hb hab)
  refine e_Forms_toneOf (fun hv hm => ?_)
  refine mGo_wp h_Forms_toneOf 40 [] ?_
  refine ⟨⟨by omega, by omega⟩, ⟨by omega, by omega⟩, ?_⟩
  refine mCall_is (show mCon l g n_K_numberOf d [.inl (h 30 0 ((a : Int)).toNat), .inl (h 30 0 ((b : Int)).toNat)] h (mIs (some (.inl (jn (s.getD a 0) (s.getD b 0) : Nat))) h) by rw [ra, rb]; exact c_K_numberOf _ _ (by omega) (by omega) h) ?_
  refine ⟨⟨by omega, by omega⟩, ?_, rfl⟩
  rw [Int.toNat_natCast, e.1 _ hj]
  rfl
theorem c_Forms_compare (T B : bT) (n : Nat) (hn : n ≤ 7) (s : List Nat) (o : numO n s) (p : Nat) (hp : p < s.length) (hl : s.length ≤ 7) (st : Int) (h : mMem) (e : fSm h T s) (eB : ∀ k, k < 21 → h 28 0 k = B k) (e5 : h 2 0 5 = st) : mCon l g n_Forms_compareJoinsTo (d + 2) [.inr (2, 0), .inl p] h (mIs (some (.inl (if (p : Int) ≤ st then cpJ T B s p p 0 else -1))) h) := by
  refine e_Forms_compareJoinsTo (fun hv hm => ?_)
  refine mGo_wp h_Forms_compareJoinsTo 60 [12] ?_
  have loop : ∀ (m a : Nat) (x3 : Option mRV), a + m = p → mGo l g (mMt n_Forms_compareJoinsTo) (d + 2) 12 [some (.inr (2, 0)), some (.inl (p : Nat)), some (.inl a), x3] [] h (mIs (some (.inl (cpJ T B s p m a))) h) := by
    intro m
    induction m with
    | zero =>
      intro a x3 ha
      refine mGo_wp h_Forms_compareJoinsTo 60 [12] ?_
      exact ⟨fun _ => ⟨rfl, rfl⟩, fun z => by omega⟩
    | succ m ih =>
      intro a x3 ha
      refine mGo_wp h_Forms_compareJoinsTo 60 [12] ?_
      refine ⟨fun z => by omega, fun _ => ?_⟩
      refine mCall_is (c_Forms_toneOf T n hn s o a p (by omega) hp hl (by omega) h e) ?_
      refine mCall_is (c_K_numberOf a p (by omega) (by omega) h) ?_
      have hj := jn21 a (by omega) p (by omega) (by omega)
      have rB : h 28 0 (Int.toNat ((jn a p : Nat) : Int)) = B (jn a p) := by rw [Int.toNat_natCast, eB _ hj]
      refine ⟨⟨by omega, by omega⟩, ?_⟩
      rw [rB]
      refine mCall_is (c_Int_compare (tF T s a p) (B (jn a p)) h) ?_
      have hcp : cpJ T B s p (m + 1) a = (if tF T s a p < B (jn a p) then -1 else if tF T s a p = B (jn a p) then cpJ T B s p m (a + 1) else 1) := rfl
      rw [hcp]
      by_cases z1 : tF T s a p < B (jn a p)
      · rw [if_pos z1, if_pos z1]
        exact ⟨fun z => absurd z (by decide), fun _ => ⟨rfl, rfl⟩⟩
      · rw [if_neg z1, if_neg z1]
        by_cases z2 : tF T s a p = B (jn a p)
        · rw [if_pos z2, if_pos z2]
          refine ⟨fun _ => ?_, fun z => absurd rfl z⟩
          show mGo l g _ _ 12 [_, _, some (.inl (mWr ((a : Int) + 1))), _] [] _ _
          rw [mWr_of ⟨by omega, by omega⟩]
          exact ih (a + 1) _ (by omega)
        · rw [if_neg z2, if_neg z2]
          exact ⟨fun z => absurd z (by decide), fun _ => ⟨rfl, rfl⟩⟩
  refine ⟨fun z => ?_, fun z => ?_⟩
  · rw [e5] at z
    rw [if_pos z]
    exact loop p 0 none (by omega)
  · rw [e5] at z
    rw [if_neg (by omega)]
    exact ⟨rfl, rfl⟩
theorem c_Forms_settle (T : bT) (n : Nat) (hn : n ≤ 7) (s : List Nat) (o : numO n s) (p : Nat) (hp : p < s.length) (hl : s.length ≤ 7) (h : mMem) (e : fSm h T s) : mCon l g n_Forms_settleJoinsTo (d + 2) [.inr (2, 0), .inl p] h (mIs none (mSet (mSet (mSeg h 28 0 (js p) p (fun a => tF T s a p)) 2 0 5 p) 2 0 1 0)) := by
  have loop : ∀ (m a : Nat), a + m = p → mGo l g (mMt n_Forms_settleJoinsTo) (d + 2) 2 [some (.inr (2, 0)), some (.inl (p : Nat)), some (.inl a)] [] (mSeg h 28 0 (js p) a (fun a => tF T s a p)) (mIs none (mSet (mSet (mSeg h 28 0 (js p) p (fun a => tF T s a p)) 2 0 5 p) 2 0 1 0)) := by
    intro m
    induction m with
    | zero =>
      intro a ha
      refine mGo_wp h_Forms_settleJoinsTo 60 [2] ?_
      have : a = p := by omega
      subst this
      exact ⟨fun _ => ⟨rfl, rfl⟩, fun z => by omega⟩
    | succ m ih =>
      intro a ha
      refine mGo_wp h_Forms_settleJoinsTo 60 [2] ?_
      refine ⟨fun z => by omega, fun _ => ?_⟩
      refine mCall_is (mCon_lift (by omega) (c_K_numberOf (d := d) a p (by omega) (by omega) _)) ?_
      have e1 : fSm (mSeg h 28 0 (js p) a (fun a => tF T s a p)) T s := ⟨fun k hk => (mSeg_ne (by decide)).trans (e.1 k hk), fun i hi => (mSeg_ne (by decide)).trans (e.2 i hi)⟩
      refine mCall_is (c_Forms_toneOf T n hn s o a p (by omega) hp hl (by omega) _ e1) ?_
      have hj := jn21 a (by omega) p (by omega) (by omega)
      refine ⟨⟨by omega, by omega⟩, ?_⟩
      have q := ih (a + 1) (by omega)
      rw [← mSeg_succ] at q
      show mGo l g _ _ 2 [_, _, some (.inl (mWr ((a : Int) + 1)))] [] (mSet (mSeg h 28 0 (js p) a (fun a => tF T s a p)) 28 0 (Int.toNat ((jn a p : Nat) : Int)) (tF T s a p)) _
      rw [mWr_of ⟨by omega, by omega⟩, Int.toNat_natCast, jn_last p (by omega) a (by omega)]
      exact q
  refine e_Forms_settleJoinsTo (fun hv hm => ?_)
  refine mGo_wp h_Forms_settleJoinsTo 60 [2] ?_
  have q := loop p 0 (by omega)
  rw [mSeg_zero] at q
  exact q
end Forms1
