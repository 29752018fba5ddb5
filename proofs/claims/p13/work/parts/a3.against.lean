/-! the model's against -/
def agJ (T B : bT) (s : List Nat) : Nat → Nat → Int
  | 0, _ => 0
  | m + 1, b => if cpJ T B s b b 0 = 0 then agJ T B s m (b + 1) else cpJ T B s b b 0
def mSm (h : mMem) (T : bT) (s : List Nat) : Prop := (∀ k, k < 66 → h 42 0 k = T k) ∧ ∀ i, i < s.length → h 52 0 i = (s.getD i 0 : Nat)
section Against
variable {l : Launch} {g : mG} {d : Nat}
theorem c_M_against (T B : bT) (n : Nat) (hn : n ≤ 12) (s : List Nat) (o : numO n s) (hl : s.length = n) (h : mMem) (e0 : h 9 0 0 = n) (e : mSm h T s) (eB : ∀ k, k < 66 → h 53 0 k = B k) : mCon l g n_M_against (d + 1) [.inr (9, 0)] h (mIs (some (.inl (agJ T B s (n - 1) 1))) h) := by
  have inner : ∀ (b : Nat) (hb : b < n) (X : Int), (∀ (x2 x3 : Option mRV), cpJ T B s b b 0 = 0 → mGo l g (mMt n_M_against) (d + 1) 78 [some (.inr (9, 0)), some (.inl b), x2, x3] [] h (mIs (some (.inl X)) h)) → (cpJ T B s b b 0 ≠ 0 → X = cpJ T B s b b 0) → ∀ (m a : Nat) (x3 : Option mRV), a + m = b → cpJ T B s b b 0 = cpJ T B s b m a →
      mGo l g (mMt n_M_against) (d + 1) 12 [some (.inr (9, 0)), some (.inl b), some (.inl a), x3] [] h (mIs (some (.inl X)) h) := by
    intro b hb X hX hX2 m
    induction m with
    | zero =>
      intro a x3 ha hc
      refine mGo_wp h_M_against 80 [12, 78] ?_
      exact ⟨fun _ => hX _ _ hc, fun z => by omega⟩
    | succ m ih =>
      intro a x3 ha hc
      have h1 := o.2 _ (getD_mem (r := s) (j := a) (by omega))
      have h2 := o.2 _ (getD_mem (r := s) (j := b) (by omega))
      have ra : h 52 0 ((a : Int)).toNat = (s.getD a 0 : Nat) := by rw [Int.toNat_natCast, e.2 a (by omega)]
      have rb : h 52 0 ((b : Int)).toNat = (s.getD b 0 : Nat) := by rw [Int.toNat_natCast, e.2 b (by omega)]
      have hj := jn_lt _ (show s.getD a 0 < 12 by omega) _ (show s.getD b 0 < 12 by omega) (nodup_ne o.1 (by omega) (by omega) (by omega))
      have hj2 := jn_lt a (by omega) b (by omega) (by omega)
      have rT : h 42 0 (Int.toNat ((jn (s.getD a 0) (s.getD b 0) : Nat) : Int)) = tF T s a b := by rw [Int.toNat_natCast, e.1 _ hj]; rfl
      have rB : h 53 0 (Int.toNat ((jn a b : Nat) : Int)) = B (jn a b) := by rw [Int.toNat_natCast, eB _ hj2]
      have hcp : cpJ T B s b (m + 1) a = (if tF T s a b < B (jn a b) then -1 else if tF T s a b = B (jn a b) then cpJ T B s b m (a + 1) else 1) := rfl
      rw [hcp] at hc
      refine mGo_wp h_M_against 80 [12, 78] ?_
      refine ⟨fun z => by omega, fun _ => ⟨⟨by omega, by omega⟩, ⟨by omega, by omega⟩, ?_⟩⟩
      refine mCall_is (show mCon l g n_M_join d [.inl (h 52 0 ((a : Int)).toNat), .inl (h 52 0 ((b : Int)).toNat)] h (mIs (some (.inl (jn (s.getD a 0) (s.getD b 0) : Nat))) h) by rw [ra, rb]; exact c_M_join _ _ (by omega) (by omega) h) ?_
      refine ⟨⟨by omega, by omega⟩, ?_⟩
      rw [rT]
      refine mCall_is (c_M_join a b (by omega) (by omega) h) ?_
      refine ⟨⟨by omega, by omega⟩, ⟨fun z => ?_, fun z => ?_⟩⟩
      · rw [rB] at z
        rw [if_neg (by omega), if_pos z] at hc
        show mGo l g _ _ 12 [_, _, some (.inl (mWr ((a : Int) + 1))), _] [] _ _
        rw [mWr_of ⟨by omega, by omega⟩]
        exact ih (a + 1) _ (by omega) hc
      · rw [rB] at z
        refine mCall_is (c_M_join a b (by omega) (by omega) h) ?_
        refine ⟨⟨by omega, by omega⟩, ⟨fun z2 => ?_, fun z2 => ?_⟩⟩
        · rw [rB] at z2
          rw [if_neg (by omega), if_neg z] at hc
          rw [hX2 (by rw [hc]; decide), hc]
          exact ⟨rfl, rfl⟩
        · rw [rB] at z2
          rw [if_pos (by omega)] at hc
          rw [hX2 (by rw [hc]; decide), hc]
          exact ⟨rfl, rfl⟩
  have outer : ∀ (m b : Nat) (x2 x3 : Option mRV), b + m = max n 1 → 1 ≤ b → mGo l g (mMt n_M_against) (d + 1) 2 [some (.inr (9, 0)), some (.inl b), x2, x3] [] h (mIs (some (.inl (agJ T B s m b))) h) := by
    intro m
    induction m with
    | zero =>
      intro b x2 x3 hb hb1
      refine mGo_wp h_M_against 80 [2] ?_
      exact ⟨fun _ => ⟨rfl, rfl⟩, fun z => by rw [e0] at z; omega⟩
    | succ m ih =>
      intro b x2 x3 hb hb1
      refine mGo_wp h_M_against 80 [2, 12] ?_
      refine ⟨fun z => by rw [e0] at z; omega, fun _ => ?_⟩
      refine inner b (by omega) (agJ T B s (m + 1) b) (fun y2 y3 hz => ?_) (fun hz => if_neg hz) b 0 x3 (by omega) rfl
      refine mGo_wp h_M_against 80 [2] ?_
      show mGo l g _ _ 2 [_, some (.inl (mWr ((b : Int) + 1))), _, _] [] _ _
      rw [mWr_of ⟨by omega, by omega⟩]
      have q := ih (b + 1) y2 y3 (by omega) (by omega)
      have ha : agJ T B s (m + 1) b = agJ T B s m (b + 1) := if_pos hz
      rw [ha]
      exact q
  refine e_M_against (fun hv hm => ?_)
  refine mGo_wp h_M_against 80 [2] ?_
  exact outer (n - 1) 1 none none (by omega) (Nat.le_refl _)
end Against
