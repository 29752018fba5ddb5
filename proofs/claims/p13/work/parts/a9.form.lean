/-! form and same -/
noncomputable def bstV (n : Nat) (K : Int) : Nat → Int := Classical.epsilon (fun X => dg4 X (js n) 0 ∧ kV X (js n) 0 = K)
theorem bst_is {n : Nat} {K : Int} {X : Nat → Int} (h1 : dg4 X (js n) 0) (h2 : kV X (js n) 0 = K) : ∀ k, k < js n → X k = bstV n K k := by
  intro k hk
  have q : dg4 (bstV n K) (js n) 0 ∧ kV (bstV n K) (js n) 0 = K := Classical.epsilon_spec (p := fun X => dg4 X (js n) 0 ∧ kV X (js n) 0 = K) ⟨X, h1, h2⟩
  rcases cm_key (v := X) (u := bstV n K) (js n) 0 h1 q.1 with w | w | w
  · omega
  · exact w.2.2 k (Nat.zero_le _) (by omega)
  · omega
noncomputable def frF (N : nN) : Option Int × Nat := ((nums (nP N) (nP N) []).map (ky (nT N) (nP N))).foldl kst (none, 0)
noncomputable def spForm (N : nN) (k : Int) : Int := if 0 ≤ k ∧ k < js (nP N) then (if nP N ≤ 7 then bstV (nP N) ((frF N).1.getD 0) k.toNat else vLARGE) else vBAD
noncomputable def spSame (N : nN) : Int := if nP N ≤ 7 then mWr (frF N).2 else vLARGE
theorem fold_id {K : Int} : ∀ (L : List Int) (B : Option Int × Nat), K ∈ L → (B.1 = none ∨ ∃ y, B.1 = some y ∧ K < y) → L.foldl kst (some K, 0) = L.foldl kst B
  | [], _, h, _ => by cases h
  | x :: L, B, h, hB => by
    show L.foldl kst (kst (some K, 0) x) = L.foldl kst (kst B x)
    have eA : kst (some K, 0) x = (if x < K then (some x, 1) else if x = K then (some K, 0 + 1) else (some K, 0)) := rfl
    by_cases z1 : x < K
    · have eB : kst B x = (some x, 1) := by
        unfold kst
        rcases hB with w | ⟨y, w, hy⟩
        · rw [w]
        · rw [w]
          exact if_pos (by omega)
      rw [eA, if_pos z1, eB]
    · by_cases z2 : x = K
      · have eB : kst B x = (some K, 1) := by
          unfold kst
          rcases hB with w | ⟨y, w, hy⟩
          · rw [w, z2]
          · rw [w]
            show (if x < y then (some x, 1) else _) = _
            rw [if_pos (by omega), z2]
        rw [eA, if_neg z1, if_pos z2, eB]
      · have hm : K ∈ L := (List.mem_cons.mp h).elim (fun w => absurd w.symm z2) id
        rw [eA, if_neg z1, if_neg z2]
        refine fold_id L (kst B x) hm (Or.inr ?_)
        unfold kst
        rcases hB with w | ⟨y, w, hy⟩
        · rw [w]
          exact ⟨x, rfl, by omega⟩
        · rw [w]
          show ∃ y1, (if x < y then (some x, 1) else if x = y then (some y, B.2 + 1) else B).1 = some y1 ∧ K < y1
          by_cases z3 : x < y
          · rw [if_pos z3]
            exact ⟨x, rfl, by omega⟩
          · rw [if_neg z3]
            by_cases z4 : x = y
            · rw [if_pos z4]
              exact ⟨y, rfl, hy⟩
            · rw [if_neg z4]
              exact ⟨y, w, hy⟩
theorem fold_some {L : List Int} (h : L ≠ []) : ∀ o, ∃ K, (L.foldl kst o).1 = some K := by
  have gen : ∀ (L : List Int) (o : Option Int × Nat), (∃ y, o.1 = some y) → ∃ K, (L.foldl kst o).1 = some K := by
    intro L
    induction L with
    | nil => exact fun o h => h
    | cons x L ih =>
      intro o h
      refine ih (kst o x) ?_
      obtain ⟨y, hy⟩ := h
      unfold kst
      rw [hy]
      show ∃ y1, (if x < y then (some x, 1) else if x = y then (some y, o.2 + 1) else o).1 = some y1
      split
      · exact ⟨_, rfl⟩
      · split
        · exact ⟨_, rfl⟩
        · exact ⟨y, hy⟩
  intro o
  cases L with
  | nil => exact absurd rfl h
  | cons x L =>
    refine gen L (kst o x) ?_
    unfold kst
    cases hy : o.1 with
    | none => exact ⟨x, rfl⟩
    | some y =>
      show ∃ y1, (if x < y then (some x, 1) else if x = y then (some y, o.2 + 1) else o).1 = some y1
      split
      · exact ⟨_, rfl⟩
      · split
        · exact ⟨_, rfl⟩
        · exact ⟨y, hy⟩
theorem numO_id (n : Nat) : numO n (List.range n) := ⟨List.nodup_range, fun x hx => List.mem_range.mp hx⟩
theorem numO_nil (n : Nat) : numO n [] := ⟨List.nodup_nil, fun x hx => by cases hx⟩
theorem nums_id (n : Nat) : List.range n ∈ nums n n [] := (nums_mem n [] _ (numO_nil n)).mpr ⟨numO_id n, List.range n, rfl, List.length_range⟩
theorem nums_full {n : Nat} {t : List Nat} : t ∈ nums n n [] ↔ numO n t ∧ t.length = n := by
  rw [nums_mem n [] t (numO_nil n)]
  constructor
  · rintro ⟨h1, x, h2, h3⟩
    exact ⟨h1, by rw [h2]; exact h3⟩
  · rintro ⟨h1, h2⟩
    exact ⟨h1, t, rfl, h2⟩
theorem range_getD {n i : Nat} (h : i < n) : (List.range n).getD i 0 = i := by
  rw [List.getD_eq_getElem?_getD, List.getElem?_range h]
  rfl
theorem vec_id {T : bT} {n k : Nat} (hn : n ≤ 12) (hk : k < js n) : vec T (List.range n) k = T k := by
  have h := jhi_lt hn hk
  unfold vec tF
  rw [range_getD (by omega), range_getD (by omega), h.2.2.2]
theorem vec_congr {T U : bT} {n k : Nat} {t : List Nat} (hn : n ≤ 12) (h : ∀ k, k < js n → T k = U k) (o : numO n t) (hl : t.length = n) (hk : k < js n) : vec T t k = vec U t k := by
  have hj := jhi_lt hn hk
  exact h _ (jn_js n (by omega) _ (o.2 _ (getD_mem (by omega))) _ (o.2 _ (getD_mem (by omega))) (nodup_ne o.1 (by omega) (by omega) (by omega)))
theorem ky_congr {T U : bT} {n : Nat} {t : List Nat} (hn : n ≤ 12) (h : ∀ k, k < js n → T k = U k) (o : numO n t) (hl : t.length = n) : ky T n t = ky U n t := kV_congr _ _ (fun i _ hi => vec_congr hn h o hl (by omega))
theorem ky_id {T : bT} {n : Nat} (hn : n ≤ 12) : ky T n (List.range n) = kV T (js n) 0 := kV_congr _ _ (fun i _ hi => vec_id hn (by omega))
def farP (h h' : mMem) : Prop := ∀ (t : Nat) (i : Fin 8) (k : Nat), ¬ (t = 2 ∨ (28 ≤ t ∧ t ≤ 30)) → h' t i k = h t i k
theorem farP.scr {h h' : mMem} (f : farP h h') : scrC h h' := fun t i k z => f t i k (fun y => z (by omega))
/-- the memory as giveNumber finds it -/
def begM (h : mMem) (i : Fin 8) (n : Nat) (z : Int) : mMem := mCpy (mCpy (mSet (mSet (mSet (mSet (mSet h 2 0 6 z) 2 0 7 0) 2 0 1 0) 2 0 2 n) 2 0 5 ((n : Int) - 1)) (22, i) (29, 0) 0 0 (js n)) (22, i) (28, 0) 0 0 (js n)
theorem mCpy_nt {h : mMem} {rs rd : mRef} {a b n t : Nat} {i : Fin 8} {k : Nat} (hn : t ≠ rd.1) : mCpy h rs rd a b n t i k = h t i k := if_neg (fun z => hn z.1)
theorem begM_far (h : mMem) (i : Fin 8) (n : Nat) (z : Int) : farP h (begM h i n z) := fun t a k y => by
  unfold begM
  rw [mCpy_nt (show t ≠ 28 by omega), mCpy_nt (show t ≠ 29 by omega), mSet_no (fun w => y (by omega)), mSet_no (fun w => y (by omega)), mSet_no (fun w => y (by omega)), mSet_no (fun w => y (by omega)), mSet_no (fun w => y (by omega))]
theorem begM_5 (h : mMem) (i : Fin 8) (n : Nat) (z : Int) : begM h i n z 2 0 5 = (n : Int) - 1 ∧ begM h i n z 2 0 2 = n ∧ begM h i n z 2 0 1 = 0 ∧ begM h i n z 2 0 7 = 0 ∧ begM h i n z 2 0 6 = z := by
  unfold begM
  refine ⟨?_, ?_, ?_, ?_, ?_⟩ <;> rw [mCpy_nt (by decide), mCpy_nt (by decide)]
  · rw [mSet_at]
  · rw [mSet_no (by simp), mSet_at]
  · rw [mSet_no (by simp), mSet_no (by simp), mSet_at]
  · rw [mSet_no (by simp), mSet_no (by simp), mSet_no (by simp), mSet_at]
  · rw [mSet_no (by simp), mSet_no (by simp), mSet_no (by simp), mSet_no (by simp), mSet_at]
theorem begM_28 {h : mMem} {i : Fin 8} {n : Nat} {z : Int} {k : Nat} (hk : k < js n) : begM h i n z 28 0 k = h 22 i k := by
  unfold begM
  show (if (28 : Nat) = 28 ∧ (0 : Fin 8) = 0 ∧ 0 ≤ k ∧ k < 0 + js n then _ else _) = _
  rw [if_pos ⟨rfl, rfl, Nat.zero_le _, by omega⟩]
  show mCpy _ (22, i) (29, 0) 0 0 (js n) 22 i (0 + (k - 0)) = _
  rw [mCpy_nt (by decide), mSet_no (by simp), mSet_no (by simp), mSet_no (by simp), mSet_no (by simp), mSet_no (by simp), Nat.zero_add, Nat.sub_zero]
theorem begM_29 {h : mMem} {i : Fin 8} {n : Nat} {z : Int} {k : Nat} (hk : k < js n) : begM h i n z 29 0 k = h 22 i k := by
  unfold begM
  rw [mCpy_nt (by decide)]
  show (if (29 : Nat) = 29 ∧ (0 : Fin 8) = 0 ∧ 0 ≤ k ∧ k < 0 + js n then _ else _) = _
  rw [if_pos ⟨rfl, rfl, Nat.zero_le _, by omega⟩]
  show mSet _ _ _ _ _ 22 i (0 + (k - 0)) = _
  rw [mSet_no (by simp), mSet_no (by simp), mSet_no (by simp), mSet_no (by simp), mSet_no (by simp), Nat.zero_add, Nat.sub_zero]
section Form
variable {l : Launch} {g : mG} {d : Nat}
theorem w_begin (i : Fin 8) (n : Nat) (hn : n ≤ 7) (z : Int) (hz : z = 0 ∨ z = 1) (h : mMem) (e0 : h 4 i 0 = n) (K : Option mRV → mMem → Prop) (q : mCon l g n_Forms_giveNumber (d + 10) [.inr (2, 0), .inl 0, .inl 0] (begM h i n z) (fun v h' => v = none ∧ K v h')) : mCon l g n_Forms_begin (d + 11) [.inr (2, 0), .inr (4, i), .inl z] h K := by
  have h21 : js n ≤ 21 := js_mono (b := 7) hn
  refine e_Forms_begin (fun hv hm => ?_)
  refine mGo_wp h_Forms_begin 100 [33] ?_
  refine ⟨hz, Or.inl rfl, ⟨fun _ => ?_, fun y => ?_⟩⟩
  · have w0 : ∀ (x : Int), mSet (mSet (mSet h 2 0 6 z) 2 0 7 0) 2 0 1 0 4 i 0 = (n : Int) := fun _ => by rw [mSet_no (by simp), mSet_no (by simp), mSet_no (by simp), e0]
    show mGo l g _ _ 33 _ [] (mSet (mSet (mSet (mSet h 2 0 6 z) 2 0 7 0) 2 0 1 0) 2 0 2 (mSet (mSet (mSet h 2 0 6 z) 2 0 7 0) 2 0 1 0 4 i 0)) _
    rw [w0 0]
    refine mGo_wp h_Forms_begin 100 [43] ?_
    show mGo l g _ _ 43 _ [] (mSet (mSet (mSet (mSet (mSet h 2 0 6 z) 2 0 7 0) 2 0 1 0) 2 0 2 (n : Int)) 2 0 5 (mWr (mSet (mSet (mSet (mSet h 2 0 6 z) 2 0 7 0) 2 0 1 0) 2 0 2 (n : Int) 2 0 2 - 1))) _
    rw [mSet_at, mWr_of ⟨by omega, by omega⟩]
    refine mGo_wp h_Forms_begin 100 [] ?_
    refine mCall_is (c_Net_joinCount i n (by omega) _ (by rw [mSet_no (by simp), mSet_no (by simp), mSet_no (by simp), mSet_no (by simp), mSet_no (by simp), e0])) ?_
    refine ⟨⟨by decide, by decide, by omega, by omega, by omega⟩, ?_⟩
    refine mCall_is (c_Net_joinCount i n (by omega) _ (by
      refine (mCpy_nt (by decide)).trans ?_
      rw [mSet_no (by simp), mSet_no (by simp), mSet_no (by simp), mSet_no (by simp), mSet_no (by simp), e0])) ?_
    refine ⟨⟨by decide, by decide, by omega, by omega, by omega⟩, ?_⟩
    have q2 : mCon l g n_Forms_giveNumber (d + 10) [.inr (2, 0), .inl 0, .inl 0] (mCpy (mCpy (mSet (mSet (mSet (mSet (mSet h 2 0 6 z) 2 0 7 0) 2 0 1 0) 2 0 2 (n : Int)) 2 0 5 ((n : Int) - 1)) (22, i) (29, 0) (Int.toNat 0) (Int.toNat 0) (Int.toNat ((js n : Nat) : Int))) (22, i) (28, 0) (Int.toNat 0) (Int.toNat 0) (Int.toNat ((js n : Nat) : Int))) (fun v h' => v = none ∧ K v h') := by
      rw [Int.toNat_natCast]
      exact q
    refine mCall_on2 q2 ?_
    rintro v h' ⟨rfl, hK⟩
    exact hK
  · exfalso
    rw [mSet_no (by simp), mSet_no (by simp), mSet_no (by simp), e0] at y
    omega
theorem c_Forms_begin0 (i : Fin 8) (N : nN) (o : nOk N) (hn : nP N ≤ 7) (h : mMem) (e : isC h i N) : mCon l g n_Forms_begin (d + 11) [.inr (2, 0), .inr (4, i), .inl 0] h (fun v h' => v = none ∧ h' 2 0 1 = mWr (frF N).2 ∧ (∀ k, k < js (nP N) → h' 28 0 k = bstV (nP N) ((frF N).1.getD 0) k) ∧ farP h h') := by
  have h66 := js_le (nP N) (by omega)
  refine w_begin i (nP N) hn 0 (Or.inl rfl) h e.1 _ ?_
  obtain ⟨b5, b2, b1, b7, b6⟩ := begM_5 h i (nP N) 0
  have t29 : ∀ k, k < js (nP N) → begM h i (nP N) 0 29 0 k = nT N k := fun k hk => (begM_29 hk).trans (e.2.2.2.2.1 k (by omega))
  have t28 : ∀ k, k < js (nP N) → begM h i (nP N) 0 28 0 k = nT N k := fun k hk => (begM_28 hk).trans (e.2.2.2.2.1 k (by omega))
  have hT : ∀ k, k < js (nP N) → -1 ≤ nT N k ∧ nT N k ≤ 2 := fun k hk => by
    have := o.2.2.2.1 k (by omega)
    have := o.2.1.2
    omega
  have q := s_give0 (l := l) (g := g) (d := d + (7 - nP N)) (begM h i (nP N) 0 29 0) (nP N) hn (fun k hk => by rw [t29 k hk]; exact hT k hk) (nP N) [] (some (kV (nT N) (js (nP N)) 0), 0) (begM h i (nP N) 0) (by show 0 + nP N = nP N; omega) (numO_nil _) b2 b6 ⟨fun _ _ => rfl, fun i hi => absurd hi (by show ¬ i < 0; omega)⟩ ⟨fun k hk => absurd hk (by show ¬ k < 0; omega), by rw [b1]; exact (mWr_of ⟨by decide, by decide⟩).symm, b5, fun i h1 h2 => by rw [t28 i (by omega)]; exact hT i (by omega), kV_congr _ _ (fun i _ hi => t28 i (by omega))⟩
  have e1 : (nums (nP N) (nP N) []).map (ky (begM h i (nP N) 0 29 0) (nP N)) = (nums (nP N) (nP N) []).map (ky (nT N) (nP N)) := List.map_congr_left (fun t ht => by
    have w := nums_full.mp ht
    exact ky_congr (by omega) t29 w.1 w.2)
  have e2 : ((nums (nP N) (nP N) []).map (ky (nT N) (nP N))).foldl kst (some (kV (nT N) (js (nP N)) 0), 0) = frF N := fold_id _ (none, 0) (List.mem_map.mpr ⟨_, nums_id _, ky_id (by omega)⟩) (Or.inl rfl)
  rw [e1, e2] at q
  refine mCon_mono (mCon_lift (by omega) q) ?_
  rintro v h' ⟨rfl, R, f⟩
  refine ⟨rfl, rfl, R.2.1, fun k hk => ?_, fun t a k z => (f t a k (fun y => z (by omega))).trans (begM_far h i (nP N) 0 t a k z)⟩
  have R2 := R.2.2
  obtain ⟨K, hK⟩ := fold_some (L := (nums (nP N) (nP N) []).map (ky (nT N) (nP N))) (fun z => nums_ne (numO_nil _) (by show 0 + nP N = nP N; omega) (List.map_eq_nil_iff.mp z)) (none, 0)
  have hK : (frF N).1 = some K := hK
  rw [hK] at R2 ⊢
  exact bst_is R2.2.1 R2.2.2 k hk
theorem c_Forms_begin1 (i : Fin 8) (N : nN) (o : nOk N) (hn : nP N ≤ 7) (h : mMem) (e : isC h i N) : mCon l g n_Forms_begin (d + 11) [.inr (2, 0), .inr (4, i), .inl 1] h (fun v h' => v = none ∧ h' 2 0 7 = mBc (∃ t ∈ nums (nP N) (nP N) [], ky (nT N) (nP N) t < kV (nT N) (js (nP N)) 0) ∧ farP h h') := by
  have h66 := js_le (nP N) (by omega)
  refine w_begin i (nP N) hn 1 (Or.inr rfl) h e.1 _ ?_
  obtain ⟨b5, b2, b1, b7, b6⟩ := begM_5 h i (nP N) 1
  have t29 : ∀ k, k < js (nP N) → begM h i (nP N) 1 29 0 k = nT N k := fun k hk => (begM_29 hk).trans (e.2.2.2.2.1 k (by omega))
  have t28 : ∀ k, k < js (nP N) → begM h i (nP N) 1 28 0 k = nT N k := fun k hk => (begM_28 hk).trans (e.2.2.2.2.1 k (by omega))
  have hT : ∀ k, k < js (nP N) → -1 ≤ nT N k ∧ nT N k ≤ 2 := fun k hk => by
    have := o.2.2.2.1 k (by omega)
    have := o.2.1.2
    omega
  have q := s_give1 (l := l) (g := g) (d := d + (7 - nP N)) (begM h i (nP N) 1 29 0) (nP N) hn (fun k hk => by rw [t29 k hk]; exact hT k hk) (nP N) [] (begM h i (nP N) 1) (by show 0 + nP N = nP N; omega) (numO_nil _) b2 b6 b7 b5 (fun i h1 h2 => by rw [t28 i (by omega)]; exact hT i (by omega)) ⟨fun _ _ => rfl, fun i hi => absurd hi (by show ¬ i < 0; omega)⟩ (fun k hk => absurd hk (by show ¬ k < 0; omega))
  refine mCon_mono (mCon_lift (by omega) q) ?_
  rintro v h' ⟨rfl, R, -, f⟩
  refine ⟨rfl, rfl, ?_, fun t a k z => (f t a k (fun y => z (by omega))).trans (begM_far h i (nP N) 1 t a k z)⟩
  rw [R, kV_congr (v := begM h i (nP N) 1 28 0) (u := nT N) _ _ (fun i _ hi => t28 i (by omega))]
  congr 1
  refine propext ⟨?_, ?_⟩
  · rintro ⟨t, ht, h1⟩
    have w := nums_full.mp ht
    exact ⟨t, ht, by rw [← ky_congr (by omega) t29 w.1 w.2]; exact h1⟩
  · rintro ⟨t, ht, h1⟩
    have w := nums_full.mp ht
    exact ⟨t, ht, by rw [ky_congr (by omega) t29 w.1 w.2]; exact h1⟩
theorem c_Forms_seek (N : nN) (o : nOk N) (hn : nP N ≤ 7) (h : mMem) (e : isC h 0 N) : mCon l g n_Forms_seek (d + 12) [.inr (2, 0), .inr (4, 0)] h (fun v h' => v = none ∧ h' 2 0 1 = mWr (frF N).2 ∧ (∀ k, k < js (nP N) → h' 28 0 k = bstV (nP N) ((frF N).1.getD 0) k) ∧ farP h h') := by
  refine e_Forms_seek (fun hv hm => ?_)
  refine mGo_wp h_Forms_seek 40 [] ?_
  refine mCall_on2 (c_Forms_begin0 0 N o hn h e) ?_
  rintro v h' ⟨rfl, w⟩
  exact ⟨rfl, w⟩
theorem s_K_form (k : Int) (h : mMem) (S : sS) (o : sOk S) (e : RC h S) : mCon l g n_K_form (d + 13) [.inr (8, 0), .inl k] h (ansC h S (spForm S.1 k)) := by
  have hP := o.1.1
  have e0 : h 4 0 0 = (nP S.1 : Nat) := e.1.1
  refine e_K_form (fun hv hm => ?_)
  refine mGo_wp h_K_form 60 [] ?_
  unfold spForm
  refine ⟨fun z => ⟨by rw [if_neg (by omega)], e, onlyC.rf⟩, fun z => ?_⟩
  refine mCall_is (c_Net_joinCount 0 (nP S.1) (by omega) h e0) ?_
  refine ⟨fun z2 => ⟨fun z3 => ?_, fun z3 => ?_⟩, fun z2 => ⟨by rw [if_neg (by omega)], e, onlyC.rf⟩⟩
  · rw [e0] at z3
    rw [if_pos ⟨by omega, z2⟩, if_pos (by omega)]
    refine mCall_on2 (c_Forms_seek S.1 o.1 (by omega) h e.1) ?_
    rintro v h' ⟨rfl, -, hb, f⟩
    have h21 : js (nP S.1) ≤ 21 := js_mono (b := 7) (by omega)
    refine ⟨⟨by omega, by omega⟩, ?_, RC_scr e f.scr, f.scr.only⟩
    rw [hb k.toNat (by omega)]
  · rw [e0] at z3
    rw [if_pos ⟨by omega, z2⟩, if_neg (by omega)]
    exact ⟨rfl, e, onlyC.rf⟩
theorem s_K_same (h : mMem) (S : sS) (o : sOk S) (e : RC h S) : mCon l g n_K_same (d + 13) [.inr (8, 0)] h (ansC h S (spSame S.1)) := by
  have hP := o.1.1
  have e0 : h 4 0 0 = (nP S.1 : Nat) := e.1.1
  refine e_K_same (fun hv hm => ?_)
  refine mGo_wp h_K_same 60 [] ?_
  unfold spSame
  refine ⟨fun z3 => ?_, fun z3 => ?_⟩
  · rw [e0] at z3
    rw [if_pos (by omega)]
    refine mCall_on2 (c_Forms_seek S.1 o.1 (by omega) h e.1) ?_
    rintro v h' ⟨rfl, hw, -, f⟩
    exact ⟨by rw [hw], RC_scr e f.scr, f.scr.only⟩
  · rw [e0] at z3
    rw [if_neg (by omega)]
    exact ⟨rfl, e, onlyC.rf⟩
theorem farMF.scr {p : Nat} {h h' : mMem} (f : farMF p h h') : scrM h h' := fun t i k z => f t i k (fun y => z (by omega))
theorem c_M_findForm (N : nN) (o : nOk N) (hn : nP N ≤ 7) (h : mMem) (e : isM h N) : mCon l g n_M_findForm (d + 10) [.inr (9, 0)] h (fun v h' => v = none ∧ h' 9 0 33 = mWr (frF N).2 ∧ (∀ k, k < js (nP N) → h' 53 0 k = bstV (nP N) ((frF N).1.getD 0) k) ∧ scrM h h') := by
  have h66 := js_le (nP N) (by omega)
  have hT : ∀ k, k < js (nP N) → -1 ≤ nT N k ∧ nT N k ≤ 2 := fun k hk => by
    have := o.2.2.2.1 k (by omega)
    have := o.2.1.2
    omega
  refine e_M_findForm (fun hv hm => ?_)
  refine mGo_wp h_M_findForm 40 [] ?_
  refine ⟨Or.inl rfl, ?_⟩
  have q := s_goForms (l := l) (g := g) (d := d + (7 - nP N)) (nT N) (nP N) ⟨o.1.1, hn⟩ hT (nP N) [] (none, 0) (mSet (mSet h 9 0 32 0) 9 0 33 0) (by show 0 + nP N = nP N; omega) (numO_nil _) (by rw [mSet_no (by simp), mSet_no (by simp)]; exact e.1) ⟨fun k hk => by rw [mSet_no (by simp), mSet_no (by simp)]; exact e.2.2.2.2 k hk, fun i hi => absurd hi (by show ¬ i < 0; omega)⟩ ⟨by rw [mSet_at]; exact (mWr_of ⟨by decide, by decide⟩).symm, by show mSet _ _ _ _ _ 9 0 32 = 0; rw [mSet_no (by simp), mSet_at]⟩
  refine mCall_on2 (mCon_lift (by omega) q) ?_
  rintro v h' ⟨rfl, R, f⟩
  have R : mR h' (nP N) (frF N) := R
  refine ⟨rfl, R.1, fun k hk => ?_, fun t i k z => (f.scr t i k z).trans ?_⟩
  · have R2 := R.2
    obtain ⟨K, hK⟩ := fold_some (L := (nums (nP N) (nP N) []).map (ky (nT N) (nP N))) (fun z => nums_ne (numO_nil _) (by show 0 + nP N = nP N; omega) (List.map_eq_nil_iff.mp z)) (none, 0)
    have hK : (frF N).1 = some K := hK
    rw [hK] at R2 ⊢
    exact bst_is R2.2.1 R2.2.2 k hk
  · rw [mSet_no (fun y => z (by omega)), mSet_no (fun y => z (by omega))]
theorem s_M_form (k : Int) (h : mMem) (S : sS) (o : sOk S) (e : RM h S) : mCon l g n_M_form (d + 11) [.inr (9, 0), .inl k] h (ansM h S (spForm S.1 k)) := by
  have hP := o.1.1
  have h66 := js_le (nP S.1) (by omega)
  have e0 : h 9 0 0 = (nP S.1 : Nat) := e.1.1
  have w : mWr (((js (nP S.1) : Nat) : Int) - 1) = ((js (nP S.1) : Nat) : Int) - 1 := mWr_of ⟨by omega, by omega⟩
  refine e_M_form (fun hv hm => ?_)
  refine mGo_wp h_M_form 60 [] ?_
  unfold spForm
  refine mCall_is (show mCon l g n_M_joinsOf (d + 10) [.inl (h 9 0 0)] h _ from e0 ▸ c_M_joinsOf (nP S.1) (by omega) h) ?_
  have qi : mCon l g n_M_isIn (d + 10) [.inl k, .inl 0, .inl (mWr (((js (nP S.1) : Nat) : Int) - 1))] h (mIs (some (.inl (mB (0 ≤ k ∧ k ≤ ((js (nP S.1) : Nat) : Int) - 1)))) h) := by
    rw [w]
    exact c_M_isIn k 0 _ h
  refine mCall_is qi ?_
  refine ⟨fun z => ⟨fun z3 => ?_, fun z3 => ?_⟩, fun z => ?_⟩
  · have z := mB_ne0.mp z
    rw [e0] at z3
    rw [if_pos ⟨by omega, by omega⟩, if_pos (by omega)]
    refine mCall_on2 (c_M_findForm S.1 o.1 (by omega) h e.1) ?_
    rintro v h' ⟨rfl, -, hb, f⟩
    refine ⟨⟨by omega, by omega⟩, ?_, RM_scr e f, f.only⟩
    rw [hb k.toNat (by omega)]
  · have z := mB_ne0.mp z
    rw [e0] at z3
    rw [if_pos ⟨by omega, by omega⟩, if_neg (by omega)]
    exact ⟨rfl, e, onlyM.rf⟩
  · have z := mB_eq0.mp z
    exact ⟨by rw [if_neg (by omega)], e, onlyM.rf⟩
theorem s_M_same (h : mMem) (S : sS) (o : sOk S) (e : RM h S) : mCon l g n_M_same (d + 11) [.inr (9, 0)] h (ansM h S (spSame S.1)) := by
  have hP := o.1.1
  have e0 : h 9 0 0 = (nP S.1 : Nat) := e.1.1
  refine e_M_same (fun hv hm => ?_)
  refine mGo_wp h_M_same 60 [] ?_
  unfold spSame
  refine ⟨fun z3 => ?_, fun z3 => ?_⟩
  · rw [e0] at z3
    rw [if_pos (by omega)]
    refine mCall_on2 (c_M_findForm S.1 o.1 (by omega) h e.1) ?_
    rintro v h' ⟨rfl, hw, -, f⟩
    exact ⟨by rw [hw], RM_scr e f, f.only⟩
  · rw [e0] at z3
    rw [if_neg (by omega)]
    exact ⟨rfl, e, onlyM.rf⟩
end Form
