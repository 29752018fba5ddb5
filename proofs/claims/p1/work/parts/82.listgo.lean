/-! the model's lists and puts: the whole ones of the tree, one by one -/
def farY (h h' : mMem) : Prop := ∀ (t : Nat) (i : Fin 8) (k : Nat), ¬ (t = 42 ∨ (44 ≤ t ∧ t ≤ 48) ∨ (50 ≤ t ∧ t ≤ 52) ∨ t = 54 ∨ (t = 9 ∧ ((9 ≤ k ∧ k ≤ 15) ∨ k = 17 ∨ k = 23 ∨ k = 25 ∨ k = 29 ∨ k = 34 ∨ k = 36))) → h' t i k = h t i k
theorem farY.rf {h : mMem} : farY h h := fun _ _ _ _ => rfl
theorem farY.tr {h h1 h2 : mMem} (a : farY h h1) (b : farY h1 h2) : farY h h2 := fun t j k z => (b t j k z).trans (a t j k z)
theorem farY.ofX {h h1 : mMem} (a : farX h h1) : farY h h1 := fun t j k z => a t j k (fun y => z (by omega))
theorem farY.chg {h h1 : mMem} (a : farY h h1) : chgM h h1 := fun t j k z => a t j k (fun y => z (by omega))
theorem isM_back {h : mMem} {N : nN} {T : bT} {k : Nat} {v : Int} (e : isM h (nSetT N (tSet T k v))) (hT : T k = -1) : isM (mSet h 42 0 k (-1)) (nSetT N T) := by
  have q := isM_tone e k (-1)
  have q : isM (mSet h 42 0 k (-1)) (nSetT N (tSet (tSet T k v) k (-1))) := q
  rw [tSet_tSet, tSet_self hT] at q
  exact q
section ListGo
variable {l : Launch} {g : mG} {d : Nat}
theorem s_listGo {A : Type} (N : nN) (hN : ∀ T : bT, (∀ k, k < 66 → -1 ≤ T k ∧ T k < nC N) → (∀ k, js (nP N) ≤ k → k < 66 → T k = -1) → nOk (nSetT N T)) (hP : nP N ≤ 12) (hC : nC N ≤ 3) (Dp : Nat) (hDp : 13 ≤ Dp) (Inv : A → mMem → Prop) (step : A → bT → A) (H : mMem)
    (i1 : ∀ a h h', farX h h' → Inv a h → Inv a h') (i2 : ∀ a h k v, Inv a h → Inv a (mSet h 42 0 k v))
    (leaf : ∀ a h T x2, isM h (nSetT N T) → nOk (nSetT N T) → farY H h → Inv a h → mGo l g (mMt n_M_listGo) Dp 11 [some (.inr (9, 0)), some (.inl (js (nP N) : Nat)), x2] [] h (fun v h' => v = none ∧ Inv (step a T) h' ∧ isM h' (nSetT N T) ∧ farY h h')) :
    ∀ (j i : Nat) (T : bT) (a : A) (h : mMem), i + j = js (nP N) → nOk (nSetT N T) → (∀ q, i ≤ q → q < 66 → T q = -1) → isM h (nSetT N T) → farY H h → Inv a h →
    mCon l g n_M_listGo (Dp + j) [.inr (9, 0), .inl i] h (fun v h' => v = none ∧ Inv ((lv N id j i T).foldl step a) h' ∧ isM h' (nSetT N T) ∧ farY h h') := by
  have h66 := js_le (nP N) (by omega)
  intro j
  induction j with
  | zero =>
    intro i T a h hij o hb e f I
    refine e_M_listGo (fun hv hm => ?_)
    refine mGo_wp h_M_listGo 80 [11] ?_
    have e1 : h 9 0 0 = (nP N : Nat) := e.1
    obtain ⟨D', hD'⟩ : ∃ D', Dp = D' + 1 := ⟨Dp - 1, by omega⟩
    rw [show Dp + 0 = Dp from rfl] at *
    have q := leaf a h T none e o f I
    rw [hD'] at q ⊢
    refine mCall_is (show mCon l g n_M_joinsOf D' [.inl (h 9 0 0)] h _ from e1 ▸ c_M_joinsOf (nP N) (by omega) h) ?_
    refine ⟨fun z => absurd (by omega) z, fun _ => ?_⟩
    rw [show i = js (nP N) by omega]
    exact q
  | succ j ih =>
    intro i T a h hij o hb e f I
    have hi66 : i < 66 := by omega
    have hTi := hb i (Nat.le_refl _) hi66
    have key : ∀ c : Nat, c < nC N → nOk (nSetT N (tSet T i (c : Int))) := fun c hc => nOk_tone o (k := i) (show i < js (nP N) by omega) ⟨by omega, by show (c : Int) < nC N; omega⟩
    have loop : ∀ (m c : Nat) (v : Int) (a1 : A) (h1 : mMem), c + m = nC N → isM h1 (nSetT N (tSet T i v)) → farY h h1 → Inv a1 h1 → ((List.range' c m).flatMap (fun c => if qB (cpL (nSetT N (tSet T i (c : Nat))) c 0 = []) = true then lv N id j (i + 1) (tSet T i (c : Nat)) else [])).foldl step a1 = (lv N id (j + 1) i T).foldl step a →
        mGo l g (mMt n_M_listGo) (Dp + j + 1) 76 [some (.inr (9, 0)), some (.inl i), some (.inl c)] [] h1 (fun v h' => v = none ∧ Inv ((lv N id (j + 1) i T).foldl step a) h' ∧ isM h' (nSetT N T) ∧ farY h h') := by
      intro m
      induction m with
      | zero =>
        intro c v a1 h1 hc e1 f1 I1 hA
        refine mGo_wp h_M_listGo 80 [76] ?_
        have e11 : h1 9 0 1 = (nC N : Nat) := e1.2.1
        refine ⟨fun _ => ⟨⟨by omega, by omega⟩, rfl, ?_, ?_, f1.tr (fun t b q z => mSet_no (fun y => z (by omega)))⟩, fun z => by rw [e11] at z; omega⟩
        · rw [← hA]
          exact i2 _ _ _ _ I1
        · rw [Int.toNat_natCast]
          exact isM_back e1 hTi
      | succ m ihm =>
        intro c v a1 h1 hc e1 f1 I1 hA
        refine mGo_wp h_M_listGo 80 [76] ?_
        have e11 : h1 9 0 1 = (nC N : Nat) := e1.2.1
        refine ⟨fun z => by rw [e11] at z; omega, fun _ => ⟨⟨by omega, by omega⟩, ?_⟩⟩
        have e2 : isM (mSet h1 42 0 (Int.toNat (i : Int)) (c : Int)) (nSetT N (tSet T i (c : Int))) := by
          rw [Int.toNat_natCast]
          have q : isM (mSet h1 42 0 i (c : Int)) (nSetT N (tSet (tSet T i v) i (c : Int))) := isM_tone e1 i (c : Int)
          rw [tSet_tSet] at q
          exact q
        have f2 : farY h1 (mSet h1 42 0 (Int.toNat (i : Int)) (c : Int)) := fun t b q z => mSet_no (fun y => z (by omega))
        have oc := key c (by omega)
        refine mCall_on2 (mCon_lift (by omega) (c_M_hasCopy (d := 0) c (by omega) (nSetT N (tSet T i (c : Int))) hP (oc.2.2.1 c (by omega)) _ e2)) ?_
        rintro r h3 ⟨rfl, -, f3⟩
        have e3 := isM_farX e2 f3
        have I3 := i1 _ _ _ f3 (i2 a1 h1 (Int.toNat (i : Int)) (c : Int) I1)
        have f13 : farY h h3 := f1.tr (f2.tr (farY.ofX f3))
        rw [List.range'_succ, List.flatMap_cons, List.foldl_append] at hA
        have nxt : ∀ (a4 : A) (h4 : mMem), isM h4 (nSetT N (tSet T i (c : Int))) → farY h h4 → Inv a4 h4 → ((List.range' (c + 1) m).flatMap (fun c => if qB (cpL (nSetT N (tSet T i (c : Nat))) c 0 = []) = true then lv N id j (i + 1) (tSet T i (c : Nat)) else [])).foldl step a4 = (lv N id (j + 1) i T).foldl step a →
            mGo l g (mMt n_M_listGo) (Dp + j + 1) 76 [some (.inr (9, 0)), some (.inl i), some (.inl (mWr ((c : Int) + 1)))] [] h4 (fun v h' => v = none ∧ Inv ((lv N id (j + 1) i T).foldl step a) h' ∧ isM h' (nSetT N T) ∧ farY h h') := by
          intro a4 h4 e4 f4 I4 hA4
          rw [mWr_of ⟨by omega, by omega⟩]
          exact ihm (c + 1) (c : Int) a4 h4 (by omega) e4 f4 I4 hA4
        refine ⟨fun z => ?_, fun z => ?_⟩
        · rw [if_neg (qB_no (mBc_ne0.mp z))] at hA
          exact nxt a1 h3 e3 f13 I3 hA
        · rw [if_pos (qB_t (Classical.not_not.mp (mBc_eq0.mp z)))] at hA
          have w : mWr ((i : Int) + 1) = ((i + 1 : Nat) : Int) := by rw [mWr_of ⟨by omega, by omega⟩]; omega
          have q := ih (i + 1) (tSet T i (c : Int)) a1 h3 (by omega) oc (fun q h1 h2 => by
            show (if q = i then _ else T q) = -1
            rw [if_neg (by omega)]
            exact hb q (by omega) h2) e3 (f.tr f13) I3
          rw [← w] at q
          refine mCall_on2 q ?_
          rintro r h4 ⟨rfl, I4, e4, f4⟩
          exact nxt _ h4 e4 (f13.tr f4) I4 hA
    refine e_M_listGo (fun hv hm => ?_)
    refine mGo_wp h_M_listGo 80 [76] ?_
    have e1 : h 9 0 0 = (nP N : Nat) := e.1
    refine mCall_is (show mCon l g n_M_joinsOf (Dp + j) [.inl (h 9 0 0)] h _ from e1 ▸ c_M_joinsOf (nP N) (by omega) h) ?_
    refine ⟨fun _ => ?_, fun z => absurd z (by omega)⟩
    refine loop (nC N) 0 (-1) a h (by omega) ?_ farY.rf I rfl
    rw [tSet_self hTi]
    exact e
theorem s_goPut {A : Type} (N : nN) (p1 : Nat) (hp1 : nP N = p1 + 1) (hP : nP N ≤ 12) (hC : nC N ≤ 3) (Dp : Nat) (hDp : 13 ≤ Dp) (Inv : A → mMem → Prop) (step : A → bT → A) (H : mMem)
    (i1 : ∀ a h h', farX h h' → Inv a h → Inv a h') (i2 : ∀ a h k v, Inv a h → Inv a (mSet h 42 0 k v))
    (leaf : ∀ a h T x2 x3, isM h (nSetT N T) → nOk (nSetT N T) → farY H h → Inv a h → mGo l g (mMt n_M_goPut) Dp 10 [some (.inr (9, 0)), some (.inl (p1 : Nat)), x2, x3] [] h (fun v h' => v = none ∧ Inv (step a T) h' ∧ isM h' (nSetT N T) ∧ farY h h')) :
    ∀ (j i : Nat) (T : bT) (a : A) (h : mMem), i + j = p1 → nOk (nSetT N T) → (∀ q, i ≤ q → q < p1 → T (js p1 + q) = -1) → isM h (nSetT N T) → farY H h → Inv a h →
    mCon l g n_M_goPut (Dp + j) [.inr (9, 0), .inl i] h (fun v h' => v = none ∧ Inv ((lv N (fun q => js p1 + q) j i T).foldl step a) h' ∧ isM h' (nSetT N T) ∧ farY h h') := by
  have h66 := js_last p1 (by omega)
  have hjs : js (nP N) = js p1 + p1 := by rw [hp1]; exact js_succ p1 (by omega)
  intro j
  induction j with
  | zero =>
    intro i T a h hij o hb e f I
    refine e_M_goPut (fun hv hm => ?_)
    refine mGo_wp h_M_goPut 80 [10] ?_
    have e1 : h 9 0 0 = ((p1 + 1 : Nat) : Int) := by rw [← hp1]; exact e.1
    have w : mWr (h 9 0 0 - 1) = (p1 : Int) := by rw [e1, mWr_of ⟨by omega, by omega⟩]; omega
    refine ⟨fun z => absurd (by rw [w]; omega) z, fun _ => ?_⟩
    rw [show i = p1 by omega]
    exact leaf a h T none none e o f I
  | succ j ih =>
    intro i T a h hij o hb e f I
    have hi66 : js p1 + i < 66 := by omega
    have hTi := hb i (Nat.le_refl _) (by omega)
    have hjn : jn i p1 = js p1 + i := jn_last p1 (by omega) i (by omega)
    have key : ∀ c : Nat, c < nC N → nOk (nSetT N (tSet T (js p1 + i) (c : Int))) := fun c hc => nOk_tone o (k := js p1 + i) (show js p1 + i < js (nP N) by omega) ⟨by omega, by show (c : Int) < nC N; omega⟩
    have loop : ∀ (m c : Nat) (v : Int) (a1 : A) (h1 : mMem), c + m = nC N → isM h1 (nSetT N (tSet T (js p1 + i) v)) → farY h h1 → Inv a1 h1 → ((List.range' c m).flatMap (fun c => if qB (cpL (nSetT N (tSet T (js p1 + i) (c : Nat))) c 0 = []) = true then lv N (fun q => js p1 + q) j (i + 1) (tSet T (js p1 + i) (c : Nat)) else [])).foldl step a1 = (lv N (fun q => js p1 + q) (j + 1) i T).foldl step a →
        mGo l g (mMt n_M_goPut) (Dp + j + 1) 79 [some (.inr (9, 0)), some (.inl i), some (.inl (js p1 + i : Nat)), some (.inl c)] [] h1 (fun v h' => v = none ∧ Inv ((lv N (fun q => js p1 + q) (j + 1) i T).foldl step a) h' ∧ isM h' (nSetT N T) ∧ farY h h') := by
      intro m
      induction m with
      | zero =>
        intro c v a1 h1 hc e1 f1 I1 hA
        refine mGo_wp h_M_goPut 80 [79] ?_
        have e11 : h1 9 0 1 = (nC N : Nat) := e1.2.1
        refine ⟨fun _ => ⟨⟨by omega, by omega⟩, rfl, ?_, ?_, f1.tr (fun t b q z => mSet_no (fun y => z (by omega)))⟩, fun z => by rw [e11] at z; omega⟩
        · rw [← hA]
          exact i2 _ _ _ _ I1
        · rw [Int.toNat_natCast]
          exact isM_back e1 hTi
      | succ m ihm =>
        intro c v a1 h1 hc e1 f1 I1 hA
        refine mGo_wp h_M_goPut 80 [79] ?_
        have e11 : h1 9 0 1 = (nC N : Nat) := e1.2.1
        refine ⟨fun z => by rw [e11] at z; omega, fun _ => ⟨⟨by omega, by omega⟩, ?_⟩⟩
        have e2 : isM (mSet h1 42 0 (Int.toNat ((js p1 + i : Nat) : Int)) (c : Int)) (nSetT N (tSet T (js p1 + i) (c : Int))) := by
          rw [Int.toNat_natCast]
          have q : isM (mSet h1 42 0 (js p1 + i) (c : Int)) (nSetT N (tSet (tSet T (js p1 + i) v) (js p1 + i) (c : Int))) := isM_tone e1 (js p1 + i) (c : Int)
          rw [tSet_tSet] at q
          exact q
        have f2 : farY h1 (mSet h1 42 0 (Int.toNat ((js p1 + i : Nat) : Int)) (c : Int)) := fun t b q z => mSet_no (fun y => z (by omega))
        have oc := key c (by omega)
        refine mCall_on2 (mCon_lift (by omega) (c_M_hasCopy (d := 0) c (by omega) (nSetT N (tSet T (js p1 + i) (c : Int))) hP (oc.2.2.1 c (by omega)) _ e2)) ?_
        rintro r h3 ⟨rfl, -, f3⟩
        have e3 := isM_farX e2 f3
        have I3 := i1 _ _ _ f3 (i2 a1 h1 (Int.toNat ((js p1 + i : Nat) : Int)) (c : Int) I1)
        have f13 : farY h h3 := f1.tr (f2.tr (farY.ofX f3))
        rw [List.range'_succ, List.flatMap_cons, List.foldl_append] at hA
        have nxt : ∀ (a4 : A) (h4 : mMem), isM h4 (nSetT N (tSet T (js p1 + i) (c : Int))) → farY h h4 → Inv a4 h4 → ((List.range' (c + 1) m).flatMap (fun c => if qB (cpL (nSetT N (tSet T (js p1 + i) (c : Nat))) c 0 = []) = true then lv N (fun q => js p1 + q) j (i + 1) (tSet T (js p1 + i) (c : Nat)) else [])).foldl step a4 = (lv N (fun q => js p1 + q) (j + 1) i T).foldl step a →
            mGo l g (mMt n_M_goPut) (Dp + j + 1) 79 [some (.inr (9, 0)), some (.inl i), some (.inl (js p1 + i : Nat)), some (.inl (mWr ((c : Int) + 1)))] [] h4 (fun v h' => v = none ∧ Inv ((lv N (fun q => js p1 + q) (j + 1) i T).foldl step a) h' ∧ isM h' (nSetT N T) ∧ farY h h') := by
          intro a4 h4 e4 f4 I4 hA4
          rw [mWr_of ⟨by omega, by omega⟩]
          exact ihm (c + 1) (c : Int) a4 h4 (by omega) e4 f4 I4 hA4
        refine ⟨fun z => ?_, fun z => ?_⟩
        · rw [if_neg (qB_no (mBc_ne0.mp z))] at hA
          exact nxt a1 h3 e3 f13 I3 hA
        · rw [if_pos (qB_t (Classical.not_not.mp (mBc_eq0.mp z)))] at hA
          have w : mWr ((i : Int) + 1) = ((i + 1 : Nat) : Int) := by rw [mWr_of ⟨by omega, by omega⟩]; omega
          have q := ih (i + 1) (tSet T (js p1 + i) (c : Int)) a1 h3 (by omega) oc (fun q h1 h2 => by
            show (if js p1 + q = js p1 + i then _ else T (js p1 + q)) = -1
            rw [if_neg (by omega)]
            exact hb q (by omega) h2) e3 (f.tr f13) I3
          rw [← w] at q
          refine mCall_on2 q ?_
          rintro r h4 ⟨rfl, I4, e4, f4⟩
          exact nxt _ h4 e4 (f13.tr f4) I4 hA
    refine e_M_goPut (fun hv hm => ?_)
    refine mGo_wp h_M_goPut 80 [79] ?_
    have e1 : h 9 0 0 = ((p1 + 1 : Nat) : Int) := by rw [← hp1]; exact e.1
    have w : mWr (h 9 0 0 - 1) = (p1 : Int) := by rw [e1, mWr_of ⟨by omega, by omega⟩]; omega
    refine ⟨fun _ => ?_, fun z => absurd z (by rw [w]; omega)⟩
    refine mCall_is (show mCon l g n_M_join (Dp + j) [.inl (i : Int), .inl (mWr (h 9 0 0 - 1))] h (mIs (some (.inl (js p1 + i : Nat))) h) by rw [w, ← hjn]; exact c_M_join i p1 (by omega) (by omega) h) ?_
    refine loop (nC N) 0 (-1) a h (by omega) ?_ farY.rf I rfl
    rw [tSet_self hTi]
    exact e
end ListGo
