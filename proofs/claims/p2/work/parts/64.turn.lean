/-! the net replaced; colourings turned round -/
def chgM (h h' : mMem) : Prop := ∀ (t : Nat) (i : Fin 8) (k : Nat), ¬ ((40 ≤ t ∧ t ≤ 42) ∨ (44 ≤ t ∧ t ≤ 54) ∨ t = 56 ∨ (t = 9 ∧ k ≠ 6 ∧ k ≠ 38 ∧ k ≠ 43)) → h' t i k = h t i k
def chgC (h h' : mMem) : Prop := ∀ (t : Nat) (i : Fin 8) (k : Nat), ¬ (t = 0 ∨ t = 1 ∨ t = 2 ∨ t = 5 ∨ t = 7 ∨ (24 ≤ t ∧ t ≤ 30) ∨ ((t = 4 ∨ (20 ≤ t ∧ t ≤ 23)) ∧ (i = 0 ∨ i = 1))) → h' t i k = h t i k
theorem chgM.rf {h : mMem} : chgM h h := fun _ _ _ _ => rfl
theorem chgM.tr {h h1 h2 : mMem} (a : chgM h h1) (b : chgM h1 h2) : chgM h h2 := fun t i k z => (b t i k z).trans (a t i k z)
theorem chgC.rf {h : mMem} : chgC h h := fun _ _ _ _ => rfl
theorem chgC.tr {h h1 h2 : mMem} (a : chgC h h1) (b : chgC h1 h2) : chgC h h2 := fun t i k z => (b t i k z).trans (a t i k z)
theorem chgM.only {h h1 : mMem} (a : chgM h h1) : onlyM h h1 := fun t i k z => a t i k (fun y => z (by omega))
theorem chgC.only {h h1 : mMem} (a : chgC h h1) : onlyC h h1 := fun t i k z => a t i k (fun y => by omega)
theorem chgM.ofS {h h1 : mMem} (a : scrM h h1) : chgM h h1 := fun t i k z => a t i k (fun y => z (by omega))
theorem chgC.ofS {h h1 : mMem} (a : scrC h h1) : chgC h h1 := fun t i k z => a t i k (fun y => z (by
  rcases y with y | y | y | y | y | y | y
  · exact Or.inl y
  · exact Or.inr (Or.inl y)
  · exact Or.inr (Or.inr (Or.inl y))
  · exact Or.inr (Or.inr (Or.inr (Or.inl y)))
  · exact Or.inr (Or.inr (Or.inr (Or.inr (Or.inl y))))
  · exact Or.inr (Or.inr (Or.inr (Or.inr (Or.inr (Or.inl y)))))
  · exact Or.inr (Or.inr (Or.inr (Or.inr (Or.inr (Or.inr ⟨y.1, Or.inr y.2⟩)))))))
theorem RM_new {h h' : mMem} {S : sS} {N : nN} (e : RM h S) (q : chgM h h') (eN : isM h' N) : RM h' (N, S.2) := by
  obtain ⟨a, ⟨b1, b2, b3⟩, c, d1, d2⟩ := e
  refine ⟨eN, ⟨(q _ _ _ (by decide)).trans b1, b2, fun e N hN => isB_out (fun x _ _ => q 43 0 x (by omega)) (b3 e N hN)⟩, (q _ _ _ (by decide)).trans c, (q _ _ _ (by decide)).trans d1, fun i hi => ?_⟩
  rw [q 55 0 _ (by omega), q 55 0 _ (by omega), q 55 0 _ (by omega)]
  exact d2 i hi
theorem RC_new {h h' : mMem} {S : sS} {N : nN} (e : RC h S) (q : chgC h h') (eN : isC h' 0 N) : RC h' (N, S.2) := by
  obtain ⟨a, b, c, d1, d2⟩ := e
  refine ⟨eN, hisC_eq b (q 3 0 0 (by omega)) (q 3 0 2 (by omega)) (fun t i k i0 i1 ht => q t i k (fun y => ?_)), (q 8 0 7 (by omega)).trans c, (q 6 0 3 (by omega)).trans d1, fun i hi => ?_⟩
  · rcases y with y | y | y | y | y | y | y
    · omega
    · omega
    · omega
    · omega
    · omega
    · omega
    · exact y.2.elim i0 i1
  · rw [q 31 0 _ (by omega), q 32 0 _ (by omega), q 33 0 _ (by omega)]
    exact d2 i hi
def dst (n k : Nat) : Nat := min (jhi k - jlo k) (n - (jhi k - jlo k))
def tuV (n C t k : Nat) : Int := ((t / pw C (dst n k - 1) % C : Nat) : Int)
def tuT (n C t : Nat) (T : Nat → Int) : Nat → Int := fun k => if k < js n then tuV n C t k else T k
abbrev turnN (N : nN) (t : Nat) : nN := nSetT N (tuT (nP N) (nC N) t (nT N))
theorem dst_bd : ∀ n, n < 13 → ∀ k, k < 66 → k < js n → 1 ≤ dst n k ∧ dst n k ≤ n / 2 := by decide +kernel
theorem pw_mul : ∀ C, C < 4 → ∀ e, e < 6 → pw C (e + 1) = pw C e * C := by decide +kernel
theorem pw_pos : ∀ C, C < 4 → 1 ≤ C → ∀ e, e < 7 → 1 ≤ pw C e := by decide +kernel
theorem tuV_bd (n C t k : Nat) (hC : 1 ≤ C) : 0 ≤ tuV n C t k ∧ tuV n C t k < C := by
  have := Nat.mod_lt (t / pw C (dst n k - 1)) hC
  unfold tuV
  omega
theorem nOk_turn {N : nN} (o : nOk N) (t : Nat) : nOk (turnN N t) := by
  obtain ⟨o1, o2, o3, o4, o5⟩ := o
  refine ⟨o1, o2, o3, fun k hk => ?_, fun k h1 h2 => ?_⟩
  · show -1 ≤ (if k < js (nP N) then tuV (nP N) (nC N) t k else nT N k) ∧ (if k < js (nP N) then tuV (nP N) (nC N) t k else nT N k) < nC N
    have := tuV_bd (nP N) (nC N) t k (by omega)
    split
    · omega
    · exact o4 k hk
  · have h1 : js (nP N) ≤ k := h1
    show (if k < js (nP N) then tuV (nP N) (nC N) t k else nT N k) = -1
    rw [if_neg (by omega)]
    exact o5 k h1 h2
theorem tuT_again (n C t s : Nat) (T : Nat → Int) : tuT n C t (tuT n C s T) = tuT n C t T := by
  funext k
  unfold tuT
  split
  · rfl
  · rfl
section Turn
variable {l : Launch} {g : mG} {d : Nat}
theorem dst_calc : ∀ n, n < 13 → ∀ j, j < n → ∀ i, i < j → dst n (js j + i) = (if j - i < n - j + i then j - i else n - j + i) := by decide +kernel
theorem c_M_layTurned (n C t : Nat) (hn : n ≤ 12) (hC : 2 ≤ C ∧ C ≤ 3) (ht : t < 2147483648) (h : mMem) (e1 : h 9 0 0 = n) (e2 : h 9 0 1 = C) : mCon l g n_M_layTurned (d + 1) [.inr (9, 0), .inl t] h (mIs none (mSeg h 42 0 0 (js n) (tuV n C t))) := by
  have loop : ∀ (m j : Nat) (x3 x4 : Option mRV), 1 ≤ j → j + m = max n 1 → mGo l g (mMt n_M_layTurned) (d + 1) 2 [some (.inr (9, 0)), some (.inl t), some (.inl j), x3, x4] [] (mSeg h 42 0 0 (js j) (tuV n C t)) (mIs none (mSeg h 42 0 0 (js n) (tuV n C t))) := by
    intro m
    induction m with
    | zero =>
      intro j x3 x4 h1 hj
      refine mGo_wp h_M_layTurned 120 [2] ?_
      have r0 : mSeg h 42 0 0 (js j) (tuV n C t) 9 0 0 = n := by rw [mSeg_ne (by decide), e1]
      refine ⟨fun _ => ⟨rfl, ?_⟩, fun z => by rw [r0] at z; omega⟩
      by_cases h0 : n = 0
      · rw [h0, show j = 1 by omega]
        rfl
      · rw [show j = n by omega]
    | succ m ih =>
      intro j x3 x4 h1 hj
      have hjn : j < n := by omega
      have inner : ∀ (m2 i : Nat) (x4 : Option mRV), i + m2 = j → mGo l g (mMt n_M_layTurned) (d + 1) 12 [some (.inr (9, 0)), some (.inl t), some (.inl j), some (.inl i), x4] [] (mSeg h 42 0 0 (js j + i) (tuV n C t)) (mIs none (mSeg h 42 0 0 (js n) (tuV n C t))) := by
        intro m2
        induction m2 with
        | zero =>
          intro i x4 hi
          refine mGo_wp h_M_layTurned 120 [2] ?_
          refine ⟨fun _ => ?_, fun z => by omega⟩
          have q := ih (j + 1) (some (.inl (i : Int))) x4 (by omega) (by omega)
          rw [js_succ j (by omega)] at q
          show mGo l g _ _ 2 [_, _, some (.inl (mWr ((j : Int) + 1))), _, _] [] _ _
          rw [mWr_of ⟨by omega, by omega⟩, show i = j by omega]
          rw [show i = j by omega] at q
          exact q
        | succ m2 ihi =>
          intro i x4 hi
          have r0 : mSeg h 42 0 0 (js j + i) (tuV n C t) 9 0 0 = n := by rw [mSeg_ne (by decide), e1]
          have r1 : mSeg h 42 0 0 (js j + i) (tuV n C t) 9 0 1 = C := by rw [mSeg_ne (by decide), e2]
          have hjn2 : jn i j = js j + i := jn_last j (by omega) i (by omega)
          have h66 := jn_lt i (by omega) j (by omega) (by omega)
          have hd1 := dst_calc n (by omega) j hjn i (by omega)
          have hd2 := dst_bd n (by omega) (js j + i) (by omega) (by rw [← hjn2]; exact jn_js n (by omega) i (by omega) j hjn (by omega))
          have body : mGo l g (mMt n_M_layTurned) (d + 1) 47 [some (.inr (9, 0)), some (.inl t), some (.inl j), some (.inl i), some (.inl (dst n (js j + i) : Nat))] [] (mSeg h 42 0 0 (js j + i) (tuV n C t)) (mIs none (mSeg h 42 0 0 (js n) (tuV n C t))) := by
            refine mGo_wp h_M_layTurned 120 [12] ?_
            refine mCall_is (c_M_join i j (by omega) (by omega) _) ?_
            have hpp := pw_pos C (by omega) (by omega) (dst n (js j + i) - 1) (by omega)
            have hple := pw_le C (by omega) (dst n (js j + i) - 1)
            have w1 : mWr (((dst n (js j + i) : Nat) : Int) - 1) = ((dst n (js j + i) - 1 : Nat) : Int) := by rw [mWr_of ⟨by omega, by omega⟩]; omega
            have qp := c_M_power (l := l) (g := g) (d := d) C (dst n (js j + i) - 1) (by omega) (by omega) (mSeg h 42 0 0 (js j + i) (tuV n C t))
            rw [← r1, ← w1, r1] at qp
            rw [← r1] at qp
            refine mCall_is (show mCon l g n_M_power d [.inl (mSeg h 42 0 0 (js j + i) (tuV n C t) 9 0 1), .inl (mWr (((dst n (js j + i) : Nat) : Int) - 1))] (mSeg h 42 0 0 (js j + i) (tuV n C t)) (mIs (some (.inl (pw C (dst n (js j + i) - 1) : Nat))) (mSeg h 42 0 0 (js j + i) (tuV n C t))) by rw [r1, w1]; exact c_M_power C (dst n (js j + i) - 1) (by omega) (by omega) _) ?_
            refine ⟨by omega, by rw [r1]; omega, ⟨by omega, by omega⟩, ?_⟩
            show mGo l g _ _ 12 [_, _, _, some (.inl (mWr ((i : Int) + 1))), _] [] (mSet (mSeg h 42 0 0 (js j + i) (tuV n C t)) 42 0 (Int.toNat ((jn i j : Nat) : Int)) (mRem (mDiv (t : Int) ((pw C (dst n (js j + i) - 1) : Nat) : Int)) (mSeg h 42 0 0 (js j + i) (tuV n C t) 9 0 1))) _
            have hdd : t / pw C (dst n (js j + i) - 1) ≤ t := Nat.div_le_self _ _
            have w2 : mRem (mDiv (t : Int) ((pw C (dst n (js j + i) - 1) : Nat) : Int)) (mSeg h 42 0 0 (js j + i) (tuV n C t) 9 0 1) = tuV n C t (js j + i) := by
              rw [r1, mDiv_of ⟨by omega, by omega⟩ ⟨by omega, by omega⟩ (by omega) (by omega), ← Int.natCast_ediv]
              unfold tuV
              generalize t / pw C (dst n (js j + i) - 1) = Q at hdd ⊢
              rw [mRem_of ⟨by omega, by omega⟩ ⟨by omega, by omega⟩ (by omega) (by omega), ← Int.natCast_emod]
            rw [w2, mWr_of ⟨by omega, by omega⟩, Int.toNat_natCast, hjn2]
            have q := ihi (i + 1) (some (.inl (dst n (js j + i) : Nat))) (by omega)
            rw [show js j + (i + 1) = js j + i + 1 by omega, ← mSeg_succ, Nat.zero_add] at q
            exact q
          refine mGo_wp h_M_layTurned 120 [47] ?_
          have w3 : mWr ((j : Int) - (i : Int)) = (j : Int) - i := mWr_of ⟨by omega, by omega⟩
          have w4 : mWr (mWr (mSeg h 42 0 0 (js j + i) (tuV n C t) 9 0 0 - (j : Int)) + (i : Int)) = (n : Int) - j + i := by rw [r0, mWr_of (x := (n : Int) - j) ⟨by omega, by omega⟩, mWr_of ⟨by omega, by omega⟩]
          refine ⟨fun z => by omega, fun _ => ⟨fun z => ?_, fun z => ?_⟩⟩
          · rw [w3, w4] at z
            rw [if_neg (by omega)] at hd1
            show mGo l g _ _ 47 [_, _, _, _, some (.inl (mWr (mWr (mSeg h 42 0 0 (js j + i) (tuV n C t) 9 0 0 - (j : Int)) + (i : Int))))] [] _ _
            rw [w4, show (n : Int) - j + i = ((dst n (js j + i) : Nat) : Int) by rw [hd1]; omega]
            exact body
          · rw [w3, w4] at z
            rw [if_pos (by omega)] at hd1
            show mGo l g _ _ 47 [_, _, _, _, some (.inl (mWr ((j : Int) - (i : Int))))] [] _ _
            rw [w3, show (j : Int) - i = ((dst n (js j + i) : Nat) : Int) by rw [hd1]; omega]
            exact body
      refine mGo_wp h_M_layTurned 120 [12] ?_
      have r0 : mSeg h 42 0 0 (js j) (tuV n C t) 9 0 0 = n := by rw [mSeg_ne (by decide), e1]
      refine ⟨fun z => by rw [r0] at z; omega, fun _ => ?_⟩
      exact inner j 0 x4 (by omega)
  refine e_M_layTurned (fun hv hm => ?_)
  refine mGo_wp h_M_layTurned 120 [2] ?_
  have q := loop (max n 1 - 1) 1 none none (by omega) (by omega)
  rw [show js 1 = 0 from rfl, mSeg_zero] at q
  exact q
def ptT (n C t : Nat) (T : Nat → Int) (D k : Nat) : Nat → Int := fun q => if q < js n ∧ (dst n q < D ∨ (dst n q = D ∧ q < k)) then tuV n C t q else T q
theorem c_Net_turn (i : Fin 8) (N : nN) (o : nOk N) (t : Nat) (ht : t < 2147483648) (h : mMem) (e : isC h i N) : mCon l g n_Net_turn (d + 2) [.inr (4, i), .inl t] h (fun v h' => v = none ∧ isC h' i (turnN N t) ∧ sameBut i h h') := by
  obtain ⟨n1, n2, n3, n4, n5, n6⟩ := e
  have hn := o.1.2
  have hC := o.2.1
  have hj := js_le (nP N) (by omega)
  have tv := fun k => tuV_bd (nP N) (nC N) t k (by omega)
  have ptb : ∀ D k q, q < 66 → -1 ≤ ptT (nP N) (nC N) t (nT N) D k q ∧ ptT (nP N) (nC N) t (nT N) D k q < 3 := fun D k q hq => by
    have h1 := tv q
    have h2 := o.2.2.2.1 q hq
    unfold ptT
    split <;> omega
  have loop : ∀ (m D : Nat) (x4 x5 : Option mRV) (h1 : mMem), 1 ≤ D → D + m = nP N / 2 + 1 → sameBut i h h1 → (∀ q, q < 66 → h1 22 i q = ptT (nP N) (nC N) t (nT N) D 0 q) → isNr h1 i (ptT (nP N) (nC N) t (nT N) D 0) →
      mGo l g (mMt n_Net_turn) (d + 2) 4 [some (.inr (4, i)), some (.inl t), some (.inl (t / pw (nC N) (D - 1) : Nat)), some (.inl D), x4, x5] [] h1 (fun v h' => v = none ∧ isC h' i (turnN N t) ∧ sameBut i h h') := by
    intro m
    induction m with
    | zero =>
      intro D x4 x5 h1 hD hm s1 s2 s3
      refine mGo_wp h_Net_turn 120 [4] ?_
      have r0 : h1 4 i 0 = nP N := (s1 _ _ _ (by simp)).trans n1
      have w : mDiv (h1 4 i 0) 2 = ((nP N / 2 : Nat) : Int) := by rw [r0, mDiv_of ⟨by omega, by omega⟩ ⟨by decide, by decide⟩ (by omega) (by decide)]; omega
      refine ⟨by decide, fun _ => ⟨rfl, ?_, s1⟩, fun z => by rw [w] at z; omega⟩
      have ef : ptT (nP N) (nC N) t (nT N) D 0 = tuT (nP N) (nC N) t (nT N) := by
        funext q
        unfold ptT tuT
        by_cases hq : q < js (nP N)
        · have := dst_bd (nP N) (by omega) q (by omega) hq
          rw [if_pos ⟨hq, Or.inl (by omega)⟩, if_pos hq]
        · rw [if_neg (fun z => hq z.1), if_neg hq]
      rw [ef] at s2 s3
      exact ⟨r0, (s1 _ _ _ (by simp)).trans n2, fun k hk => (s1 _ _ _ (by simp)).trans (n3 k hk), fun k hk => (s1 _ _ _ (by simp)).trans (n4 k hk), s2, s3⟩
    | succ m ih =>
      intro D x4 x5 h1 hD hm s1 s2 s3
      have hdv : t / pw (nC N) (D - 1) ≤ t := Nat.div_le_self _ _
      have inner : ∀ (m2 k : Nat) (x5 : Option mRV) (h2 : mMem), k + m2 = js (nP N) → sameBut i h h2 → (∀ q, q < 66 → h2 22 i q = ptT (nP N) (nC N) t (nT N) D k q) → isNr h2 i (ptT (nP N) (nC N) t (nT N) D k) →
          mGo l g (mMt n_Net_turn) (d + 2) 17 [some (.inr (4, i)), some (.inl t), some (.inl (t / pw (nC N) (D - 1) : Nat)), some (.inl D), some (.inl k), x5] [] h2 (fun v h' => v = none ∧ isC h' i (turnN N t) ∧ sameBut i h h') := by
        intro m2
        induction m2 with
        | zero =>
          intro k x5 h2 hk s1 s2 s3
          refine mGo_wp h_Net_turn 120 [4] ?_
          have r0 : h2 4 i 0 = nP N := (s1 _ _ _ (by simp)).trans n1
          have r1 : h2 4 i 1 = nC N := (s1 _ _ _ (by simp)).trans n2
          refine mCall_is (c_Net_joinCount i (nP N) (by omega) h2 r0) ?_
          refine ⟨fun _ => ⟨by rw [r1]; omega, ?_⟩, fun z => by omega⟩
          have ef : ptT (nP N) (nC N) t (nT N) D k = ptT (nP N) (nC N) t (nT N) (D + 1) 0 := by
            funext q
            unfold ptT
            by_cases hq : q < js (nP N) ∧ (dst (nP N) q < D ∨ (dst (nP N) q = D ∧ q < k))
            · rw [if_pos hq, if_pos ⟨hq.1, by omega⟩]
            · rw [if_neg hq, if_neg (fun z => hq ⟨z.1, by omega⟩)]
          rw [ef] at s2 s3
          have q := ih (D + 1) (some (.inl (k : Int))) x5 h2 (by omega) (by omega) s1 s2 s3
          show mGo l g _ _ 4 [_, _, some (.inl (mDiv ((t / pw (nC N) (D - 1) : Nat) : Int) (h2 4 i 1))), some (.inl (mWr ((D : Int) + 1))), _, _] [] _ _
          have hpw := pw_mul (nC N) (by omega) (D - 1) (by omega)
          rw [show D - 1 + 1 = D by omega] at hpw
          rw [show D + 1 - 1 = D by omega, hpw, ← Nat.div_div_eq_div_mul] at q
          rw [r1, mWr_of ⟨by omega, by omega⟩]
          generalize t / pw (nC N) (D - 1) = Q at hdv q ⊢
          rw [mDiv_of ⟨by omega, by omega⟩ ⟨by omega, by omega⟩ (by omega) (by omega), ← Int.natCast_ediv]
          exact q
        | succ m2 ihi =>
          intro k x5 h2 hk s1 s2 s3
          refine mGo_wp h_Net_turn 120 [17] ?_
          have r0 : h2 4 i 0 = nP N := (s1 _ _ _ (by simp)).trans n1
          have r1 : h2 4 i 1 = nC N := (s1 _ _ _ (by simp)).trans n2
          have tb := jlo_tab k (by omega)
          have hdb := dst_bd (nP N) (by omega) k (by omega) (by omega)
          have tk : ((k : Int)).toNat = k := Int.toNat_natCast k
          have wa : mWr ((mTab 104).getD ((k : Int)).toNat 0 - (mTab 103).getD ((k : Int)).toNat 0) = ((jhi k - jlo k : Nat) : Int) := by rw [tk, tb.1, tb.2.1, mWr_of ⟨by omega, by omega⟩]; omega
          refine mCall_is (c_Net_joinCount i (nP N) (by omega) h2 r0) ?_
          refine ⟨fun z => by omega, fun _ => ⟨⟨by omega, by omega⟩, ⟨by omega, by omega⟩, ?_⟩⟩
          have hlt : jhi k - jlo k < nP N := by
            by_cases z : jhi k < nP N
            · omega
            · have := jn_ge (nP N) (by omega) (jlo k) (by omega) (jhi k) tb.2.2.2.1 (by omega) (by omega)
              omega
          have wb : mWr (h2 4 i 0 - mWr ((mTab 104).getD ((k : Int)).toNat 0 - (mTab 103).getD ((k : Int)).toNat 0)) = ((nP N - (jhi k - jlo k) : Nat) : Int) := by rw [wa, r0, mWr_of ⟨by omega, by omega⟩]; omega
          refine mCall_is (c_Math_min _ _ h2) ?_
          have wm : (if mWr ((mTab 104).getD ((k : Int)).toNat 0 - (mTab 103).getD ((k : Int)).toNat 0) ≤ mWr (h2 4 i 0 - mWr ((mTab 104).getD ((k : Int)).toNat 0 - (mTab 103).getD ((k : Int)).toNat 0)) then mWr ((mTab 104).getD ((k : Int)).toNat 0 - (mTab 103).getD ((k : Int)).toNat 0) else mWr (h2 4 i 0 - mWr ((mTab 104).getD ((k : Int)).toNat 0 - (mTab 103).getD ((k : Int)).toNat 0))) = ((dst (nP N) k : Nat) : Int) := by
            rw [wb, wa]
            unfold dst
            split <;> omega
          rw [wm]
          have fin : ∀ (v5 : Int) (h3 : mMem), sameBut i h h3 → (∀ q, q < 66 → h3 22 i q = ptT (nP N) (nC N) t (nT N) D (k + 1) q) → isNr h3 i (ptT (nP N) (nC N) t (nT N) D (k + 1)) → mGo l g (mMt n_Net_turn) (d + 2) 17 [some (.inr (4, i)), some (.inl t), some (.inl (t / pw (nC N) (D - 1) : Nat)), some (.inl D), some (.inl (mWr ((k : Int) + 1))), some (.inl v5)] [] h3 (fun v h' => v = none ∧ isC h' i (turnN N t) ∧ sameBut i h h') := by
            intro v5 h3 a1 a2 a3
            rw [mWr_of ⟨by omega, by omega⟩]
            exact ihi (k + 1) _ h3 (by omega) a1 a2 a3
          refine ⟨fun z => ?_, fun z => ⟨by rw [r1]; omega, ?_⟩⟩
          · have ef : ptT (nP N) (nC N) t (nT N) D k = ptT (nP N) (nC N) t (nT N) D (k + 1) := by
              funext q
              unfold ptT
              by_cases hq : q = k
              · subst hq
                by_cases hd : dst (nP N) q < D
                · rw [if_pos ⟨by omega, Or.inl hd⟩, if_pos ⟨by omega, Or.inl hd⟩]
                · rw [if_neg (fun z => by omega), if_neg (fun z => by omega)]
              · by_cases hz : q < js (nP N) ∧ (dst (nP N) q < D ∨ (dst (nP N) q = D ∧ q < k))
                · rw [if_pos hz, if_pos ⟨hz.1, by omega⟩]
                · rw [if_neg hz, if_neg (fun z => hz ⟨z.1, by omega⟩)]
            rw [ef] at s2 s3
            exact fin _ h2 s1 s2 s3
          · have hd : dst (nP N) k = D := by omega
            have wv : mRem ((t / pw (nC N) (D - 1) : Nat) : Int) (h2 4 i 1) = tuV (nP N) (nC N) t k := by
              unfold tuV
              rw [hd, r1]
              generalize t / pw (nC N) (D - 1) = Q at hdv ⊢
              rw [mRem_of ⟨by omega, by omega⟩ ⟨by omega, by omega⟩ (by omega) (by omega), ← Int.natCast_emod]
            rw [wv]
            have tvk := tv k
            refine mCall_on2 (c_Net_give i k (tuV (nP N) (nC N) t k) (ptT (nP N) (nC N) t (nT N) D k) (by omega) (by omega) h2 (s2 k (by omega)) (ptb D k k (by omega)) s3) ?_
            rintro v h3 ⟨rfl, g1, g2, g3⟩
            have ef : tSet (ptT (nP N) (nC N) t (nT N) D k) k (tuV (nP N) (nC N) t k) = ptT (nP N) (nC N) t (nT N) D (k + 1) := by
              funext q
              unfold tSet ptT
              by_cases hq : q = k
              · subst hq
                rw [if_pos rfl, if_pos ⟨by omega, Or.inr ⟨hd, by omega⟩⟩]
              · rw [if_neg hq]
                by_cases hz : q < js (nP N) ∧ (dst (nP N) q < D ∨ (dst (nP N) q = D ∧ q < k))
                · rw [if_pos hz, if_pos ⟨hz.1, by omega⟩]
                · rw [if_neg hz, if_neg (fun z => hz ⟨z.1, by omega⟩)]
            rw [ef] at g3
            refine fin _ h3 (fun t' a q z => (g1 t' a q z).trans (s1 t' a q z)) (fun q hq => ?_) g3
            rw [g2, ← ef, s2 q hq]
            rfl
      refine mGo_wp h_Net_turn 120 [17] ?_
      have r0 : h1 4 i 0 = nP N := (s1 _ _ _ (by simp)).trans n1
      have w : mDiv (h1 4 i 0) 2 = ((nP N / 2 : Nat) : Int) := by rw [r0, mDiv_of ⟨by omega, by omega⟩ ⟨by decide, by decide⟩ (by omega) (by decide)]; omega
      refine ⟨by decide, fun z => by rw [w] at z; omega, fun _ => ?_⟩
      exact inner (js (nP N)) 0 x5 h1 (by omega) s1 s2 s3
  refine e_Net_turn (fun hv hm => ?_)
  refine mGo_wp h_Net_turn 120 [4] ?_
  have e0 : ptT (nP N) (nC N) t (nT N) 1 0 = nT N := by
    funext q
    unfold ptT
    by_cases hq : q < js (nP N)
    · have := dst_bd (nP N) (by omega) q (by omega) hq
      rw [if_neg (fun z => by omega)]
    · rw [if_neg (fun z => hq z.1)]
  have q := loop (nP N / 2) 1 none none h (by omega) (by omega) (fun _ _ _ _ => rfl) (by rw [e0]; exact n5) (by rw [e0]; exact n6)
  rw [show t / pw (nC N) (1 - 1) = t from Nat.div_one t] at q
  exact q
end Turn
