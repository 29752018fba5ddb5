/-! the class's giveNumber that stops at a lesser one -/
section GiveL
variable {l : Launch} {g : mG} {d : Nat}
theorem s_give1 (T : bT) (n : Nat) (hn : n ≤ 7) (hT : ∀ k, k < js n → -1 ≤ T k ∧ T k ≤ 2) : ∀ (j : Nat) (s : List Nat) (h : mMem), s.length + j = n → numO n s → h 2 0 2 = n → h 2 0 6 = 1 → h 2 0 7 = 0 → h 2 0 5 = (n : Int) - 1 → dg4 (h 28 0) (js n) 0 → fSm h T s → (∀ k, k < js s.length → h 28 0 k = vec T s k) →
    mCon l g n_Forms_giveNumber (d + 3 + j) [.inr (2, 0), .inl s.length, .inl (bitR s s.length : Nat)] h (fun v h' => v = none ∧ h' 2 0 7 = mBc (∃ t ∈ nums n j s, ky T n t < kV (h 28 0) (js n) 0) ∧ (h' 2 0 7 = 0 → h' 28 0 = h 28 0 ∧ h' 2 0 5 = h 2 0 5) ∧ farU s.length h h') := by
  intro j
  induction j with
  | zero =>
    intro s h hj oN e2 e6 e7 e5 hd eS eB
    refine e_Forms_giveNumber (fun hv hm => ?_)
    refine mGo_wp h_Forms_giveNumber 80 [] ?_
    refine ⟨fun z => by rw [e2] at z; omega, fun _ => ⟨rfl, ?_, fun _ => ⟨funext (fun k => mSet_no (by simp)), mSet_no (by simp)⟩, fun t i k z => mSet_no (fun y => z (by omega))⟩⟩
    have hl : s.length = n := by omega
    have hk : kV (h 28 0) (js n) 0 = ky T n s := kV_congr _ _ (fun i _ hi => eB i (by rw [hl]; omega))
    rw [mSet_no (by simp), e7, mBc_f]
    rintro ⟨t, ht, h1⟩
    rw [List.mem_singleton.mp ht, hk] at h1
    omega
  | succ j ih =>
    intro s h hj oN e2 e6 e7 e5 hd eS eB
    have hl7 : s.length < 7 := by omega
    have hbit := bitR_lt s (fun x hx => by have := oN.2 x hx; omega) s.length (Nat.le_refl _)
    -- once a lesser one is found
    have after : (∃ t ∈ nums n (j + 1) s, ky T n t < kV (h 28 0) (js n) 0) → ∀ (m c : Nat) (x4 : Option mRV) (h1 : mMem), c + m = n → h1 2 0 7 = 1 → farU s.length h h1 →
        mGo l g (mMt n_Forms_giveNumber) (d + 3 + j + 1) 21 [some (.inr (2, 0)), some (.inl (s.length : Nat)), some (.inl (bitR s s.length : Nat)), some (.inl (c : Nat)), x4] [] h1 (fun v h' => v = none ∧ h' 2 0 7 = mBc (∃ t ∈ nums n (j + 1) s, ky T n t < kV (h 28 0) (js n) 0) ∧ (h' 2 0 7 = 0 → h' 28 0 = h 28 0 ∧ h' 2 0 5 = h 2 0 5) ∧ farU s.length h h') := by
      intro ex m
      induction m with
      | zero =>
        intro c x4 h1 hc b7 f1
        refine mGo_wp h_Forms_giveNumber 80 [21] ?_
        have a2 : h1 2 0 2 = n := (f1 _ _ _ (by omega)).trans e2
        exact ⟨fun _ => ⟨rfl, by rw [b7, mBc_t ex], fun z => by rw [b7] at z; exact absurd z (by decide), f1⟩, fun z => by rw [a2] at z; omega⟩
      | succ m ihm =>
        intro c x4 h1 hc b7 f1
        have a2 : h1 2 0 2 = n := (f1 _ _ _ (by omega)).trans e2
        refine mGo_wp h_Forms_giveNumber 80 [21] ?_
        refine ⟨fun z => by rw [a2] at z; omega, fun _ => ?_⟩
        have hba := bit_at _ c hbit (show c < 12 by omega)
        refine ⟨fun z => ?_, fun z => ?_⟩ <;> rw [hba] at z
        · show mGo l g _ _ 21 [_, _, _, some (.inl (mWr ((c : Int) + 1))), _] [] _ _
          rw [mWr_of ⟨by omega, by omega⟩]
          exact ihm (c + 1) _ h1 (by omega) b7 f1
        · have hcs : c ∉ s := fun y => by
            rw [if_pos ((bitR_all s c).mpr y)] at z
            exact absurd z (by decide)
          have oc := numO_snoc oN (show c < n by omega) hcs
          have hlen := app_len s c
          refine ⟨⟨by omega, by omega⟩, ?_⟩
          have e2S := fSm_snoc (c := c) (fSm_far eS f1 (Nat.le_refl _))
          have f2 : farU s.length h (mSet h1 30 0 s.length (c : Nat)) := f1.tr (q := s.length) (fun t i k z => mSet_no (fun y => z (by omega))) (Nat.le_refl _)
          have cmp := c_Forms_compare (l := l) (g := g) (d := d + 1 + j) T (mSet h1 30 0 s.length ((c : Nat) : Int) 28 0) n hn (s ++ [c]) oc s.length (by omega) (by omega) (mSet h1 30 0 s.length ((c : Nat) : Int) 2 0 5) (mSet h1 30 0 s.length (c : Nat)) e2S (fun k _ => rfl) rfl
          rw [Int.toNat_natCast]
          refine mCall_is (mCon_lift (by omega) cmp) ?_
          have c7 : mSet h1 30 0 s.length ((c : Nat) : Int) 2 0 7 = 1 := (mSet_no (by simp)).trans b7
          have c6 : mSet h1 30 0 s.length ((c : Nat) : Int) 2 0 6 = 1 := f2 _ _ _ (by omega) |>.trans e6
          refine ⟨fun _ => ⟨fun z => ?_, fun _ => ⟨fun z => ?_, fun _ => ?_⟩⟩, fun _ => ⟨Or.inr rfl, ?_⟩⟩
          · rw [c7] at z; exact absurd z (by decide)
          · rw [c6] at z; exact absurd z (by decide)
          · exact ⟨rfl, by rw [c7, mBc_t ex], fun z => by rw [c7] at z; exact absurd z (by decide), f2⟩
          · have e3S : fSm (mSet (mSet h1 30 0 s.length (c : Nat)) 2 0 7 1) T (s ++ [c]) := ⟨fun k hk => (mSet_no (by simp)).trans (e2S.1 k hk), fun i hi => (mSet_no (by simp)).trans (e2S.2 i hi)⟩
            refine mCall_is (mCon_lift (by omega) (c_Forms_settle (d := d + 1 + j) T n hn (s ++ [c]) oc s.length (by omega) (by omega) _ e3S)) ?_
            have fX : farU s.length (mSet h1 30 0 s.length (c : Nat)) (mSet (mSet (mSeg (mSet (mSet h1 30 0 s.length (c : Nat)) 2 0 7 1) 28 0 (js s.length) s.length (fun a => tF T (s ++ [c]) a s.length)) 2 0 5 s.length) 2 0 1 0) := fun t i k z => by
              rw [mSet_no (fun y => z (by omega)), mSet_no (fun y => z (by omega)), mSeg_ne (fun y => z (by omega)), mSet_no (fun y => z (by omega))]
            have d7 : (mSet (mSet (mSeg (mSet (mSet h1 30 0 s.length ((c : Nat) : Int)) 2 0 7 1) 28 0 (js s.length) s.length (fun a => tF T (s ++ [c]) a s.length)) 2 0 5 s.length) 2 0 1 0) 2 0 7 = 1 := by
              rw [mSet_no (by simp), mSet_no (by simp), mSeg_ne (by decide), mSet_at]
            have d6 := (fX 2 0 6 (by omega)).trans c6
            refine ⟨fun z => ?_, fun _ => ⟨fun z => ?_, fun _ => ?_⟩⟩
            · rw [d7] at z; exact absurd z (by decide)
            · rw [d6] at z; exact absurd z (by decide)
            · exact ⟨rfl, by rw [d7, mBc_t ex], fun z => by rw [d7] at z; exact absurd z (by decide), f2.tr fX (Nat.le_refl _)⟩
    have loop : ∀ (m c : Nat) (x4 : Option mRV) (h1 : mMem), c + m = n → h1 2 0 7 = 0 → h1 28 0 = h 28 0 → h1 2 0 5 = h 2 0 5 → farU s.length h h1 → (∀ c', c' < c → c' ∉ s → ∀ t ∈ nums n j (s ++ [c']), ¬ ky T n t < kV (h 28 0) (js n) 0) →
        mGo l g (mMt n_Forms_giveNumber) (d + 3 + j + 1) 21 [some (.inr (2, 0)), some (.inl (s.length : Nat)), some (.inl (bitR s s.length : Nat)), some (.inl (c : Nat)), x4] [] h1 (fun v h' => v = none ∧ h' 2 0 7 = mBc (∃ t ∈ nums n (j + 1) s, ky T n t < kV (h 28 0) (js n) 0) ∧ (h' 2 0 7 = 0 → h' 28 0 = h 28 0 ∧ h' 2 0 5 = h 2 0 5) ∧ farU s.length h h') := by
      intro m
      induction m with
      | zero =>
        intro c x4 h1 hc b7 bB b5 f1 hno
        refine mGo_wp h_Forms_giveNumber 80 [21] ?_
        have a2 : h1 2 0 2 = n := (f1 _ _ _ (by omega)).trans e2
        refine ⟨fun _ => ⟨rfl, ?_, fun _ => ⟨bB, b5⟩, f1⟩, fun z => by rw [a2] at z; omega⟩
        rw [b7, mBc_f]
        rintro ⟨t, ht, h2⟩
        obtain ⟨c', hc', h3⟩ := List.mem_flatMap.mp ht
        by_cases z : c' ∈ s
        · rw [if_pos z] at h3; cases h3
        · rw [if_neg z] at h3
          exact hno c' (by have := List.mem_range'_1.mp hc'; omega) z t h3 h2
      | succ m ihm =>
        intro c x4 h1 hc b7 bB b5 f1 hno
        have a2 : h1 2 0 2 = n := (f1 _ _ _ (by omega)).trans e2
        have nxt : ∀ (y4 : Option mRV) (h2 : mMem), h2 2 0 7 = 0 → h2 28 0 = h 28 0 → h2 2 0 5 = h 2 0 5 → farU s.length h h2 → (c ∉ s → ∀ t ∈ nums n j (s ++ [c]), ¬ ky T n t < kV (h 28 0) (js n) 0) →
            mGo l g (mMt n_Forms_giveNumber) (d + 3 + j + 1) 98 [some (.inr (2, 0)), some (.inl (s.length : Nat)), some (.inl (bitR s s.length : Nat)), some (.inl (c : Nat)), y4] [] h2 (fun v h' => v = none ∧ h' 2 0 7 = mBc (∃ t ∈ nums n (j + 1) s, ky T n t < kV (h 28 0) (js n) 0) ∧ (h' 2 0 7 = 0 → h' 28 0 = h 28 0 ∧ h' 2 0 5 = h 2 0 5) ∧ farU s.length h h') := by
          intro y4 h2 g7 gB g5 gf hno2
          refine mGo_wp h_Forms_giveNumber 80 [21] ?_
          show mGo l g _ _ 21 [_, _, _, some (.inl (mWr ((c : Int) + 1))), _] [] _ _
          rw [mWr_of ⟨by omega, by omega⟩]
          refine ihm (c + 1) _ h2 (by omega) g7 gB g5 gf (fun c' hc' hcs => ?_)
          by_cases y : c' = c
          · subst y; exact hno2 hcs
          · exact hno c' (by omega) hcs
        refine mGo_wp h_Forms_giveNumber 80 [21, 98] ?_
        refine ⟨fun z => by rw [a2] at z; omega, fun _ => ?_⟩
        have hba := bit_at _ c hbit (show c < 12 by omega)
        refine ⟨fun z => ?_, fun z => ?_⟩ <;> rw [hba] at z
        · have hcs : c ∈ s := by
            by_cases y : (bitR s s.length).testBit c = true
            · exact (bitR_all s c).mp y
            · rw [if_neg y] at z
              exact absurd rfl z
          exact nxt _ h1 b7 bB b5 f1 (fun y => absurd hcs y)
        · have hcs : c ∉ s := fun y => by
            rw [if_pos ((bitR_all s c).mpr y)] at z
            exact absurd z (by decide)
          have oc := numO_snoc oN (show c < n by omega) hcs
          have hlen := app_len s c
          have memc : ∀ t ∈ nums n j (s ++ [c]), t ∈ nums n (j + 1) s := fun t ht => List.mem_flatMap.mpr ⟨c, List.mem_range'_1.mpr ⟨Nat.zero_le _, by omega⟩, by rw [if_neg hcs]; exact ht⟩
          refine ⟨⟨by omega, by omega⟩, ?_⟩
          have e2S := fSm_snoc (c := c) (fSm_far eS f1 (Nat.le_refl _))
          have hB2 : (mSet h1 30 0 s.length (c : Nat)) 28 0 = h 28 0 := (funext (fun k => mSet_no (by simp))).trans bB
          have f2 : farU s.length h (mSet h1 30 0 s.length (c : Nat)) := f1.tr (q := s.length) (fun t i k z => mSet_no (fun y => z (by omega))) (Nat.le_refl _)
          have cmp := c_Forms_compare (l := l) (g := g) (d := d + 1 + j) T (h 28 0) n hn (s ++ [c]) oc s.length (by omega) (by omega) ((n : Int) - 1) (mSet h1 30 0 s.length (c : Nat)) e2S (fun k _ => by rw [hB2]) ((mSet_no (by simp)).trans (b5.trans e5))
          rw [Int.toNat_natCast]
          refine mCall_is (mCon_lift (by omega) cmp) ?_
          rw [if_pos (by omega)]
          have c7 : mSet h1 30 0 s.length ((c : Nat) : Int) 2 0 7 = 0 := (mSet_no (by simp)).trans b7
          have c6 : mSet h1 30 0 s.length ((c : Nat) : Int) 2 0 6 = 1 := f2 _ _ _ (by omega) |>.trans e6
          have c5 : mSet h1 30 0 s.length ((c : Nat) : Int) 2 0 5 = h 2 0 5 := (mSet_no (by simp)).trans b5
          rcases ext_cmp (B := h 28 0) (j := j) (by omega) oc (by omega) hT hd eB with w | w | w
          · rw [w.1]
            refine ⟨fun z => absurd z (by decide), fun _ => ⟨Or.inr rfl, ?_⟩⟩
            have ex : ∃ t ∈ nums n (j + 1) s, ky T n t < kV (h 28 0) (js n) 0 := by
              obtain ⟨t, ht⟩ := List.exists_mem_of_ne_nil _ (nums_ne (j := j) oc (by omega))
              exact ⟨t, memc t ht, w.2 _ (List.mem_map.mpr ⟨t, ht, rfl⟩)⟩
            have e3S : fSm (mSet (mSet h1 30 0 s.length (c : Nat)) 2 0 7 1) T (s ++ [c]) := ⟨fun k hk => (mSet_no (by simp)).trans (e2S.1 k hk), fun i hi => (mSet_no (by simp)).trans (e2S.2 i hi)⟩
            refine mCall_is (mCon_lift (by omega) (c_Forms_settle (d := d + 1 + j) T n hn (s ++ [c]) oc s.length (by omega) (by omega) _ e3S)) ?_
            have fX : farU s.length (mSet h1 30 0 s.length (c : Nat)) (mSet (mSet (mSeg (mSet (mSet h1 30 0 s.length (c : Nat)) 2 0 7 1) 28 0 (js s.length) s.length (fun a => tF T (s ++ [c]) a s.length)) 2 0 5 s.length) 2 0 1 0) := fun t i k z => by
              rw [mSet_no (fun y => z (by omega)), mSet_no (fun y => z (by omega)), mSeg_ne (fun y => z (by omega)), mSet_no (fun y => z (by omega))]
            have d7 : (mSet (mSet (mSeg (mSet (mSet h1 30 0 s.length ((c : Nat) : Int)) 2 0 7 1) 28 0 (js s.length) s.length (fun a => tF T (s ++ [c]) a s.length)) 2 0 5 s.length) 2 0 1 0) 2 0 7 = 1 := by
              rw [mSet_no (by simp), mSet_no (by simp), mSeg_ne (by decide), mSet_at]
            have d6 := (fX 2 0 6 (by omega)).trans c6
            refine ⟨fun z => ?_, fun _ => ⟨fun z => ?_, fun _ => ?_⟩⟩
            · rw [d7] at z; exact absurd z (by decide)
            · rw [d6] at z; exact absurd z (by decide)
            · exact ⟨rfl, by rw [d7, mBc_t ex], fun z => by rw [d7] at z; exact absurd z (by decide), f2.tr fX (Nat.le_refl _)⟩
          · rw [w.1]
            have w1 : mWr ((s.length : Int) + 1) = ((s ++ [c]).length : Nat) := by rw [mWr_of ⟨by omega, by omega⟩, hlen]; omega
            have w2 : mOr ((bitR s s.length : Nat) : Int) (mShl 1 (c : Int)) = ((bitR (s ++ [c]) (s ++ [c]).length : Nat) : Int) := by
              have h2 : 2 ^ c < 2 ^ 12 := Nat.pow_lt_pow_right (by decide) (by omega)
              rw [mShl_1 _ (by omega), mOr_nat (by omega) (by omega), bitR_snoc]
            refine ⟨fun _ => ⟨fun _ => ⟨fun z => absurd z (by decide), fun _ => ?_⟩, fun z => absurd c7 z⟩, fun z => absurd z (by decide)⟩
            have q := ih (s ++ [c]) (mSet h1 30 0 s.length (c : Nat)) (by omega) oc ((mSet_no (by simp)).trans a2) c6 c7 (c5.trans e5) (by rw [hB2]; exact hd) e2S (fun k hk => by rw [hB2]; exact w.2 k hk)
            rw [← w1, ← w2] at q
            refine mCall_on2 q ?_
            rintro v h3 ⟨rfl, p7, pB, f3⟩
            have f13 : farU s.length h h3 := f2.tr f3 (by omega)
            rw [hB2] at p7
            by_cases y : ∃ t ∈ nums n j (s ++ [c]), ky T n t < kV (h 28 0) (js n) 0
            · rw [mBc_t y] at p7
              obtain ⟨t, ht, h4⟩ := y
              refine mGo_wp h_Forms_giveNumber 80 [21] ?_
              show mGo l g _ _ 21 [_, _, _, some (.inl (mWr ((c : Int) + 1))), _] [] _ _
              rw [mWr_of ⟨by omega, by omega⟩]
              exact after ⟨t, memc t ht, h4⟩ m (c + 1) _ h3 (by omega) p7 f13
            · rw [mBc_f y] at p7
              obtain ⟨pB1, pB2⟩ := pB p7
              exact nxt _ h3 p7 (pB1.trans hB2) (pB2.trans c5) f13 (fun _ t ht h4 => y ⟨t, ht, h4⟩)
          · rw [w.1]
            have hno2 : c ∉ s → ∀ t ∈ nums n j (s ++ [c]), ¬ ky T n t < kV (h 28 0) (js n) 0 := fun _ t ht h4 => by
              have := w.2 _ (List.mem_map.mpr ⟨t, ht, rfl⟩)
              omega
            exact ⟨fun _ => ⟨fun _ => ⟨fun _ => nxt _ _ c7 hB2 c5 f2 hno2, fun z => absurd z (by decide)⟩, fun z => absurd c7 z⟩, fun z => absurd z (by decide)⟩
    refine e_Forms_giveNumber (fun hv hm => ?_)
    refine mGo_wp h_Forms_giveNumber 80 [21] ?_
    refine ⟨fun _ => ?_, fun z => by rw [e2] at z; omega⟩
    exact loop n 0 none h (by omega) e7 rfl rfl farU.rf (fun c' hc' => by omega)
end GiveL
