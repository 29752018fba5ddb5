/-! triangles -/
theorem sm_add (f : Nat → Nat) (a : Nat) : ∀ b, sm f (a + b) = sm f a + sm (fun i => f (a + i)) b
  | 0 => rfl
  | b + 1 => by
    show sm f (a + b) + f (a + b) = sm f a + (sm (fun i => f (a + i)) b + f (a + b))
    rw [sm_add f a b]
    omega
theorem sm_congr {f g : Nat → Nat} : ∀ n, (∀ k, k < n → f k = g k) → sm f n = sm g n
  | 0, _ => rfl
  | n + 1, h => by
    show sm f n + f n = sm g n + g n
    rw [sm_congr n (fun k hk => h k (by omega)), h n (by omega)]
theorem sm_plus (f g : Nat → Nat) : ∀ n, sm (fun k => f k + g k) n = sm f n + sm g n
  | 0 => rfl
  | n + 1 => by
    show sm (fun k => f k + g k) n + (f n + g n) = sm f n + f n + (sm g n + g n)
    rw [sm_plus f g n]
    omega
theorem sm_zero : ∀ n, sm (fun _ => 0) n = 0
  | 0 => rfl
  | n + 1 => by
    show sm (fun _ => 0) n + 0 = 0
    rw [sm_zero n]
theorem sm_pairs (F : Nat → Nat → Nat) : ∀ n, sm (fun j => sm (fun i => F i j) j) n = sm (fun i => sm (fun j => if i < j then F i j else 0) n) n
  | 0 => rfl
  | n + 1 => by
    show sm (fun j => sm (fun i => F i j) j) n + sm (fun i => F i n) n = sm (fun i => sm (fun j => if i < j then F i j else 0) n + (if i < n then F i n else 0)) n + (sm (fun j => if n < j then F n j else 0) n + (if n < n then F n n else 0))
    rw [sm_pairs F n, sm_plus, if_neg (Nat.lt_irrefl n), sm_congr (f := fun j => if n < j then F n j else 0) (g := fun _ => 0) n (fun k hk => if_neg (by omega)), sm_zero, sm_congr (f := fun i => if i < n then F i n else 0) (g := fun i => F i n) n (fun k hk => if_pos hk)]
    omega
theorem js_succ : ∀ n, n < 12 → js (n + 1) = js n + n := by decide +kernel
theorem jlo_js : ∀ j, j < 12 → ∀ i, i < j → jlo (js j + i) = i ∧ jhi (js j + i) = j := by decide +kernel
theorem sm_joins (F : Nat → Nat → Nat) : ∀ n, n ≤ 12 → sm (fun k => F (jlo k) (jhi k)) (js n) = sm (fun j => sm (fun i => F i j) j) n
  | 0, _ => rfl
  | n + 1, hn => by
    rw [js_succ n (by omega), sm_add, sm_joins F n (by omega)]
    show _ = sm (fun j => sm (fun i => F i j) j) n + sm (fun i => F i n) n
    rw [sm_congr (f := fun i => F (jlo (js n + i)) (jhi (js n + i))) (g := fun i => F i n) n (fun k hk => by
      obtain ⟨a, b⟩ := jlo_js n (by omega) k hk
      rw [a, b])]
def triB (N : nN) (i j k : Nat) : Bool := decide (j < k ∧ 0 ≤ nT N (jn i j) ∧ nT N (jn i k) = nT N (jn i j) ∧ nT N (jn j k) = nT N (jn i j))
def triF (N : nN) (i j : Nat) : Nat := cn (triB N i j) (nP N)
def nTri (N : nN) : Nat := sm (fun k => triF N (jlo k) (jhi k)) (js (nP N))
theorem cn_none {f : Nat → Bool} : ∀ n, (∀ k, k < n → f k = false) → cn f n = 0
  | 0, _ => rfl
  | n + 1, h => by
    show cn f n + (if f n = true then 1 else 0) = 0
    rw [cn_none n (fun k hk => h k (by omega)), h n (by omega), if_neg (by decide)]
theorem triF_le (N : nN) (o : nOk N) (i j : Nat) : triF N i j ≤ 12 := Nat.le_trans (cn_le _ _) o.1.2
section Tri
variable {l : Launch} {g : mG} {d : Nat}
theorem l_K_tri (N : nN) (o : nOk N) (h : mMem) (e : isC h 0 N) : ∀ (n k : Nat) (x3 x4 : Option mRV), k + n = js (nP N) → mGo l g (mMt n_K_triangles) (d + 1) 4 [some (.inr (8, 0)), some (.inl (sm (fun k => triF N (jlo k) (jhi k)) k : Nat)), some (.inl k), x3, x4] [] h (mIs (some (.inl (nTri N : Nat))) h) := by
  have hp := o.1.2
  have hj := js_le (nP N) (by omega)
  intro n
  induction n with
  | zero =>
    intro k x3 x4 hk
    refine mGo_wp h_K_triangles 120 [4] ?_
    refine mCall_is (c_Net_joinCount 0 (nP N) (by omega) h e.1) ?_
    refine ⟨fun _ => ⟨?_, rfl⟩, fun z => by omega⟩
    rw [show k = js (nP N) by omega]
    rfl
  | succ n ih =>
    intro k x3 x4 hk
    have tb := jlo_tab k (by omega)
    have hk66 : k < 66 := by omega
    have b1 : sm (fun k => triF N (jlo k) (jhi k)) k ≤ k * 12 := sm_le k (fun q _ => triF_le N o _ _)
    have b2 := triF_le N o (jlo k) (jhi k)
    have ttk := o.2.2.2.1 k hk66
    have next : ∀ (y3 y4 : Option mRV), mGo l g (mMt n_K_triangles) (d + 1) 4 [some (.inr (8, 0)), some (.inl (sm (fun k => triF N (jlo k) (jhi k)) k + triF N (jlo k) (jhi k) : Nat)), some (.inl (k + 1 : Nat)), y3, y4] [] h (mIs (some (.inl (nTri N : Nat))) h) := fun y3 y4 => ih (k + 1) y3 y4 (by omega)
    have inner : ∀ (m t : Nat), jhi k < t → t + m = max (nP N) (jhi k + 1) → mGo l g (mMt n_K_triangles) (d + 1) 34 [some (.inr (8, 0)), some (.inl (sm (fun k => triF N (jlo k) (jhi k)) k + cn (triB N (jlo k) (jhi k)) t : Nat)), some (.inl k), some (.inl (nT N k)), some (.inl t)] [] h (mIs (some (.inl (nTri N : Nat))) h) := by
      have hhi : jhi k < nP N := by
        by_cases z : jhi k < nP N
        · exact z
        · have := jn_ge (nP N) (by omega) (jlo k) (by omega) (jhi k) tb.2.2.2.1 (by omega) (by omega)
          omega
      have hmax : max (nP N) (jhi k + 1) = nP N := by omega
      rw [hmax]
      intro m
      induction m with
      | zero =>
        intro t ht htn
        refine mGo_wp h_K_triangles 120 [4] ?_
        refine ⟨fun _ => ?_, fun z => by rw [e.1] at z; omega⟩
        rw [show t = nP N by omega]
        have q := next (some (.inl (nT N k))) (some (.inl ((nP N : Nat) : Int)))
        show mGo l g _ _ 4 [_, _, some (.inl (mWr ((k : Int) + 1))), _, _] [] _ _
        rw [mWr_of ⟨by omega, by omega⟩]
        exact q
      | succ m ihm =>
        intro t ht htn
        refine mGo_wp h_K_triangles 120 [4, 34] ?_
        have c1 := cn_le (triB N (jlo k) (jhi k)) t
        have j1 := jn_lt (jlo k) (by omega) t (by omega) (by omega)
        have j2 := jn_lt (jhi k) (by omega) t (by omega) (by omega)
        have tk : ((k : Int)).toNat = k := Int.toNat_natCast k
        have hfin : ∀ (s : Nat), s = cn (triB N (jlo k) (jhi k)) (t + 1) → mGo l g (mMt n_K_triangles) (d + 1) 34 [some (.inr (8, 0)), some (.inl (sm (fun k => triF N (jlo k) (jhi k)) k + s : Nat)), some (.inl k), some (.inl (nT N k)), some (.inl (mWr ((t : Int) + 1)))] [] h (mIs (some (.inl (nTri N : Nat))) h) := by
          intro s hs
          rw [hs, mWr_of ⟨by omega, by omega⟩]
          exact ihm (t + 1) (by omega) (by omega)
        have hno : ¬ (triB N (jlo k) (jhi k) t = true) → mGo l g (mMt n_K_triangles) (d + 1) 34 [some (.inr (8, 0)), some (.inl (sm (fun k => triF N (jlo k) (jhi k)) k + cn (triB N (jlo k) (jhi k)) t : Nat)), some (.inl k), some (.inl (nT N k)), some (.inl (mWr ((t : Int) + 1)))] [] h (mIs (some (.inl (nTri N : Nat))) h) := fun z => hfin _ (cn_f z).symm
        refine ⟨fun z => by rw [e.1] at z; omega, fun _ => ⟨fun z => ?_, fun z => ⟨⟨by omega, by omega⟩, ?_⟩⟩⟩
        · have z : nT N k = -1 := z
          have hz : triF N (jlo k) (jhi k) = cn (triB N (jlo k) (jhi k)) t := by
            have hb : ∀ q, triB N (jlo k) (jhi k) q = false := fun q => by
              unfold triB
              refine decide_eq_false (fun w => ?_)
              rw [tb.2.2.2.2] at w
              omega
            unfold triF
            rw [cn_none _ (fun q _ => hb q), cn_none _ (fun q _ => hb q)]
          have q := next (some (.inl (nT N k))) (some (.inl (t : Int)))
          rw [hz] at q
          show mGo l g _ _ 4 [_, _, some (.inl (mWr ((k : Int) + 1))), _, _] [] _ _
          rw [mWr_of ⟨by omega, by omega⟩]
          exact q
        · have z : nT N k ≠ -1 := z
          rw [tk, tb.1]
          refine mCall_is (c_K_numberOf (jlo k) t (by omega) (by omega) h) ?_
          have r1 : h 22 0 (Int.toNat ((jn (jlo k) t : Nat) : Int)) = nT N (jn (jlo k) t) := by rw [Int.toNat_natCast, e.2.2.2.2.1 _ j1]
          refine ⟨⟨by omega, by omega⟩, ⟨fun y => ?_, fun y => ⟨⟨by omega, by omega⟩, ?_⟩⟩⟩
          · rw [r1] at y
            refine hno (fun w => y ?_)
            unfold triB at w
            rw [decide_eq_true_eq, tb.2.2.2.2] at w
            exact w.2.2.1
          · rw [r1] at y
            have y : nT N (jn (jlo k) t) = nT N k := y
            rw [tk, tb.2.1]
            refine mCall_is (c_K_numberOf (jhi k) t (by omega) (by omega) h) ?_
            have r2 : h 22 0 (Int.toNat ((jn (jhi k) t : Nat) : Int)) = nT N (jn (jhi k) t) := by rw [Int.toNat_natCast, e.2.2.2.2.1 _ j2]
            refine ⟨⟨by omega, by omega⟩, ⟨fun x => ?_, fun x => ?_⟩⟩
            · rw [r2] at x
              refine hno (fun w => x ?_)
              unfold triB at w
              rw [decide_eq_true_eq, tb.2.2.2.2] at w
              exact w.2.2.2
            · rw [r2] at x
              have x : nT N (jn (jhi k) t) = nT N k := x
              have hb : triB N (jlo k) (jhi k) t = true := by
                unfold triB
                rw [decide_eq_true_eq, tb.2.2.2.2]
                exact ⟨ht, by omega, y, x⟩
              have q := hfin _ (cn_t hb).symm
              show mGo l g _ _ 34 [_, some (.inl (mWr (((sm (fun k => triF N (jlo k) (jhi k)) k + cn (triB N (jlo k) (jhi k)) t : Nat) : Int) + 1))), _, _, _] [] _ _
              rw [mWr_of (x := ((sm (fun k => triF N (jlo k) (jhi k)) k + cn (triB N (jlo k) (jhi k)) t : Nat) : Int) + 1) ⟨by omega, by omega⟩]
              exact q
    refine mGo_wp h_K_triangles 120 [4, 34] ?_
    refine mCall_is (c_Net_joinCount 0 (nP N) (by omega) h e.1) ?_
    refine ⟨fun z => by omega, fun _ => ⟨⟨by omega, by omega⟩, ⟨by omega, by omega⟩, ?_⟩⟩
    have tk : ((k : Int)).toNat = k := Int.toNat_natCast k
    have q := inner (max (nP N) (jhi k + 1) - (jhi k + 1)) (jhi k + 1) (by omega) (by omega)
    rw [cn_none (jhi k + 1) (fun q hq => by unfold triB; exact decide_eq_false (fun w => by omega))] at q
    show mGo l g _ _ 34 [_, _, _, some (.inl (h 22 0 ((k : Int)).toNat)), some (.inl (mWr ((mTab 104).getD ((k : Int)).toNat 0 + 1)))] [] _ _
    rw [tk, e.2.2.2.2.1 k hk66, tb.2.1, mWr_of ⟨by omega, by omega⟩]
    exact q
theorem c_K_triangles (N : nN) (o : nOk N) (h : mMem) (e : isC h 0 N) : mCon l g n_K_triangles (d + 1) [.inr (8, 0)] h (mIs (some (.inl (nTri N : Nat))) h) := by
  refine e_K_triangles (fun hv hm => ?_)
  refine mGo_wp h_K_triangles 120 [4] ?_
  exact l_K_tri N o h e (js (nP N)) 0 none none (by omega)
def triG (N : nN) (i j : Nat) : Nat := if i < j then triF N i j else 0
theorem triG_le (N : nN) (o : nOk N) (i j : Nat) : triG N i j ≤ 12 := by
  unfold triG
  split
  · exact triF_le N o i j
  · omega
theorem tri_eq (N : nN) (o : nOk N) : sm (fun i => sm (triG N i) (nP N)) (nP N) = nTri N := by
  unfold nTri
  rw [sm_joins (triF N) (nP N) o.1.2, sm_pairs (triF N) (nP N)]
  rfl
theorem l_M_tri (N : nN) (o : nOk N) (h : mMem) (e : isM h N) : ∀ (n i : Nat) (x3 x4 x5 : Option mRV), i + n = nP N → mGo l g (mMt n_M_triangles) (d + 1) 4 [some (.inr (9, 0)), some (.inl (sm (fun i => sm (triG N i) (nP N)) i : Nat)), some (.inl i), x3, x4, x5] [] h (mIs (some (.inl (nTri N : Nat))) h) := by
  have hp := o.1.2
  intro n
  induction n with
  | zero =>
    intro i x3 x4 x5 hi
    refine mGo_wp h_M_triangles 120 [4] ?_
    refine ⟨fun _ => ⟨?_, rfl⟩, fun z => by rw [e.1] at z; omega⟩
    rw [show i = nP N by omega, tri_eq N o]
  | succ n ih =>
    intro i x3 x4 x5 hi
    have b0 : sm (fun i => sm (triG N i) (nP N)) i ≤ i * 144 := sm_le i (fun q _ => by
      have := sm_le (f := triG N q) (B := 12) (nP N) (fun k _ => triG_le N o q k)
      omega)
    have mid : ∀ (m j : Nat) (y4 y5 : Option mRV), i < j → j + m = nP N → mGo l g (mMt n_M_triangles) (d + 1) 16 [some (.inr (9, 0)), some (.inl (sm (fun i => sm (triG N i) (nP N)) i + sm (triG N i) j : Nat)), some (.inl i), some (.inl j), y4, y5] [] h (mIs (some (.inl (nTri N : Nat))) h) := by
      intro m
      induction m with
      | zero =>
        intro j y4 y5 hij hj
        refine mGo_wp h_M_triangles 120 [4] ?_
        refine ⟨fun _ => ?_, fun z => by rw [e.1] at z; omega⟩
        have q := ih (i + 1) (some (.inl (j : Int))) y4 y5 (by omega)
        show mGo l g _ _ 4 [_, _, some (.inl (mWr ((i : Int) + 1))), _, _, _] [] _ _
        rw [mWr_of ⟨by omega, by omega⟩, show j = nP N by omega]
        rw [show j = nP N by omega] at q
        exact q
      | succ m ihm =>
        intro j y4 y5 hij hj
        have b1 : sm (triG N i) j ≤ j * 12 := sm_le j (fun k _ => triG_le N o i k)
        have jj := jn_lt i (by omega) j (by omega) (by omega)
        have inner : ∀ (m2 t : Nat) (y5 : Option mRV), j < t → t + m2 = nP N → mGo l g (mMt n_M_triangles) (d + 1) 29 [some (.inr (9, 0)), some (.inl (sm (fun i => sm (triG N i) (nP N)) i + sm (triG N i) j + cn (triB N i j) t : Nat)), some (.inl i), some (.inl j), some (.inl t), y5] [] h (mIs (some (.inl (nTri N : Nat))) h) := by
          intro m2
          induction m2 with
          | zero =>
            intro t y5 ht htn
            refine mGo_wp h_M_triangles 120 [16] ?_
            refine ⟨fun _ => ?_, fun z => by rw [e.1] at z; omega⟩
            have q := ihm (j + 1) (some (.inl (t : Int))) y5 (by omega) (by omega)
            have e1 : sm (triG N i) (j + 1) = sm (triG N i) j + cn (triB N i j) t := by
              show sm (triG N i) j + triG N i j = _
              unfold triG
              rw [if_pos hij, show t = nP N by omega]
              rfl
            rw [e1, ← Nat.add_assoc] at q
            show mGo l g _ _ 16 [_, _, _, some (.inl (mWr ((j : Int) + 1))), _, _] [] _ _
            rw [mWr_of ⟨by omega, by omega⟩]
            exact q
          | succ m2 ihi =>
            intro t y5 ht htn
            refine mGo_wp h_M_triangles 120 [29] ?_
            have c1 := cn_le (triB N i j) t
            have j1 := jn_lt i (by omega) t (by omega) (by omega)
            have j2 := jn_lt j (by omega) t (by omega) (by omega)
            have r0 : h 42 0 (Int.toNat ((jn i j : Nat) : Int)) = nT N (jn i j) := by rw [Int.toNat_natCast, e.2.2.2.2 _ jj]
            have r1 : h 42 0 (Int.toNat ((jn i t : Nat) : Int)) = nT N (jn i t) := by rw [Int.toNat_natCast, e.2.2.2.2 _ j1]
            have r2 : h 42 0 (Int.toNat ((jn j t : Nat) : Int)) = nT N (jn j t) := by rw [Int.toNat_natCast, e.2.2.2.2 _ j2]
            have hno : ∀ v5 : Int, ¬ (triB N i j t = true) → mGo l g (mMt n_M_triangles) (d + 1) 29 [some (.inr (9, 0)), some (.inl (mWr (((sm (fun i => sm (triG N i) (nP N)) i + sm (triG N i) j + cn (triB N i j) t : Nat) : Int) + 0))), some (.inl i), some (.inl j), some (.inl (mWr ((t : Int) + 1))), some (.inl v5)] [] h (mIs (some (.inl (nTri N : Nat))) h) := fun v5 z => by
              rw [mWr_of (x := (t : Int) + 1) ⟨by omega, by omega⟩, mWr_of ⟨by omega, by omega⟩, Int.add_zero]
              have q := ihi (t + 1) (some (.inl v5)) (by omega) (by omega)
              rw [cn_f z] at q
              exact q
            refine ⟨fun z => by rw [e.1] at z; omega, fun _ => ?_⟩
            refine mCall_is (c_M_join i j (by omega) (by omega) h) ?_
            refine ⟨⟨by omega, by omega⟩, ?_⟩
            rw [r0]
            refine ⟨fun z => ?_, fun z => ?_⟩
            · refine hno _ (fun w => ?_)
              unfold triB at w
              rw [decide_eq_true_eq] at w
              omega
            · refine mCall_is (c_M_join i t (by omega) (by omega) h) ?_
              refine ⟨⟨by omega, by omega⟩, ⟨fun y => ?_, fun y => ?_⟩⟩
              · rw [r1] at y
                refine hno _ (fun w => y ?_)
                unfold triB at w
                rw [decide_eq_true_eq] at w
                exact w.2.2.1
              · rw [r1] at y
                refine mCall_is (c_M_join j t (by omega) (by omega) h) ?_
                refine ⟨⟨by omega, by omega⟩, ⟨fun x => ?_, fun x => ?_⟩⟩
                · rw [r2] at x
                  refine hno _ (fun w => x ?_)
                  unfold triB at w
                  rw [decide_eq_true_eq] at w
                  exact w.2.2.2
                · rw [r2] at x
                  have hb : triB N i j t = true := by
                    unfold triB
                    rw [decide_eq_true_eq]
                    exact ⟨ht, z, y, x⟩
                  have q := ihi (t + 1) (some (.inl (nT N (jn i j)))) (by omega) (by omega)
                  rw [cn_t hb] at q
                  show mGo l g _ _ 29 [_, some (.inl (mWr (((sm (fun i => sm (triG N i) (nP N)) i + sm (triG N i) j + cn (triB N i j) t : Nat) : Int) + 1))), _, _, some (.inl (mWr ((t : Int) + 1))), _] [] _ _
                  rw [mWr_of (x := (t : Int) + 1) ⟨by omega, by omega⟩, mWr_of ⟨by omega, by omega⟩]
                  exact q
        refine mGo_wp h_M_triangles 120 [29] ?_
        refine ⟨fun z => by rw [e.1] at z; omega, fun _ => ?_⟩
        have q := inner (nP N - (j + 1)) (j + 1) y5 (by omega) (by omega)
        rw [cn_none (j + 1) (fun q hq => by unfold triB; exact decide_eq_false (fun w => by omega))] at q
        show mGo l g _ _ 29 [_, _, _, _, some (.inl (mWr ((j : Int) + 1))), _] [] _ _
        rw [mWr_of ⟨by omega, by omega⟩]
        exact q
    refine mGo_wp h_M_triangles 120 [16] ?_
    refine ⟨fun z => by rw [e.1] at z; omega, fun _ => ?_⟩
    have q := mid (nP N - (i + 1)) (i + 1) x4 x5 (by omega) (by omega)
    rw [sm_congr (f := triG N i) (g := fun _ => 0) (i + 1) (fun k hk => if_neg (by omega)), sm_zero] at q
    show mGo l g _ _ 16 [_, _, _, some (.inl (mWr ((i : Int) + 1))), _, _] [] _ _
    rw [mWr_of ⟨by omega, by omega⟩]
    exact q
theorem c_M_triangles (N : nN) (o : nOk N) (h : mMem) (e : isM h N) : mCon l g n_M_triangles (d + 1) [.inr (9, 0)] h (mIs (some (.inl (nTri N : Nat))) h) := by
  refine e_M_triangles (fun hv hm => ?_)
  refine mGo_wp h_M_triangles 120 [4] ?_
  exact l_M_tri N o h e (nP N) 0 none none none (by omega)
end Tri
