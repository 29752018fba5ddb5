/-! the model's marks: all numberings of a list's row -/
def farMK (p : Nat) (h h' : mMem) : Prop := ∀ (t : Nat) (i : Fin 8) (k : Nat), ¬ ((t = 51 ∧ i = 0) ∨ (t = 52 ∧ p ≤ k)) → h' t i k = h t i k
theorem farMK.rf {p : Nat} {h : mMem} : farMK p h h := fun _ _ _ _ => rfl
theorem farMK.tr {p q : Nat} {h h1 h2 : mMem} (a : farMK p h h1) (b : farMK q h1 h2) (hpq : p ≤ q) : farMK p h h2 := fun t j k z => (b t j k (fun y => z (by omega))).trans (a t j k z)
theorem mSm_farK {h h' : mMem} {T : bT} {s : List Nat} {p : Nat} (e : mSm h T s) (f : farMK p h h') (hp : s.length ≤ p) : mSm h' T s := ⟨fun k hk => (f _ _ _ (by omega)).trans (e.1 k hk), fun i hi => (f _ _ _ (by omega)).trans (e.2 i hi)⟩
theorem mSet_fun (h : mMem) (t : Nat) (i : Fin 8) (k : Nat) (v : Int) : mSet h t i k v t i = tSet (h t i) k v := by
  funext q
  show (if t = t ∧ i = i ∧ q = k then v else h t i q) = if q = k then v else h t i q
  by_cases z : q = k
  · rw [if_pos ⟨rfl, rfl, z⟩, if_pos z]
  · rw [if_neg (fun y => z y.2.2), if_neg z]
section Marks
variable {l : Launch} {g : mG} {d : Nat}
theorem s_markAll (T : bT) (C n : Nat) (hC : 2 ≤ C ∧ C ≤ 3) (hn : 1 ≤ n ∧ n ≤ 12) (hb : C ^ js n ≤ 60000) (tt : totT C n T) : ∀ (j : Nat) (s : List Nat) (h : mMem), s.length + j = n → numO n s → h 9 0 0 = n → h 9 0 1 = C → mSm h T s →
    mCon l g n_M_markAll (d + 2 + j) [.inr (9, 0), .inl s.length, .inl (bitR s s.length : Nat)] h (fun v h' => v = none ∧ h' 51 0 = (nums n j s).foldl (fun f t => tSet f (cdN C n T t) 1) (h 51 0) ∧ farMK s.length h h') := by
  intro j
  induction j with
  | zero =>
    intro s h hj oN e0 e1 eS
    have hl : s.length = n := by omega
    refine e_M_markAll (fun hv hm => ?_)
    refine mGo_wp h_M_markAll 80 [] ?_
    refine ⟨fun z => absurd (by rw [e0]; omega) z, fun _ => ?_⟩
    refine mCall_is (mCon_lift (by omega) (c_M_codeBy (d := d) T C n hC hn hb s oN hl (tot_vec hn.2 tt oN hl) h e0 e1 eS)) ?_
    have q := cdN_lt hn.2 hb tt oN hl
    refine ⟨⟨by omega, by omega⟩, Or.inr rfl, rfl, ?_, fun t i k z => mSet_no (fun y => z (by omega))⟩
    exact mSet_fun h 51 0 _ 1
  | succ j ih =>
    intro s h hj oN e0 e1 eS
    have hbit := bitR_lt s (fun x hx => by have := oN.2 x hx; omega) s.length (Nat.le_refl _)
    have loop : ∀ (m c : Nat) (f1 : Nat → Int) (h1 : mMem), c + m = n → h1 51 0 = f1 → farMK s.length h h1 → ((List.range' c m).flatMap (fun c => if c ∈ s then [] else nums n j (s ++ [c]))).foldl (fun f t => tSet f (cdN C n T t) 1) f1 = (nums n (j + 1) s).foldl (fun f t => tSet f (cdN C n T t) 1) (h 51 0) →
        mGo l g (mMt n_M_markAll) (d + 2 + j + 1) 21 [some (.inr (9, 0)), some (.inl (s.length : Nat)), some (.inl (bitR s s.length : Nat)), some (.inl (c : Nat))] [] h1 (fun v h' => v = none ∧ h' 51 0 = (nums n (j + 1) s).foldl (fun f t => tSet f (cdN C n T t) 1) (h 51 0) ∧ farMK s.length h h') := by
      intro m
      induction m with
      | zero =>
        intro c f1 h1 hc R1 k1 hA
        refine mGo_wp h_M_markAll 80 [21] ?_
        have a0 : h1 9 0 0 = n := (k1 _ _ _ (by omega)).trans e0
        refine ⟨fun _ => ⟨rfl, ?_, k1⟩, fun z => by rw [a0] at z; omega⟩
        rw [← hA]
        exact R1
      | succ m ihm =>
        intro c f1 h1 hc R1 k1 hA
        have a0 : h1 9 0 0 = n := (k1 _ _ _ (by omega)).trans e0
        have a1 : h1 9 0 1 = C := (k1 _ _ _ (by omega)).trans e1
        have nxt : ∀ (f2 : Nat → Int) (h2 : mMem), h2 51 0 = f2 → farMK s.length h h2 → ((List.range' (c + 1) m).flatMap (fun c => if c ∈ s then [] else nums n j (s ++ [c]))).foldl (fun f t => tSet f (cdN C n T t) 1) f2 = (nums n (j + 1) s).foldl (fun f t => tSet f (cdN C n T t) 1) (h 51 0) →
            mGo l g (mMt n_M_markAll) (d + 2 + j + 1) 56 [some (.inr (9, 0)), some (.inl (s.length : Nat)), some (.inl (bitR s s.length : Nat)), some (.inl (c : Nat))] [] h2 (fun v h' => v = none ∧ h' 51 0 = (nums n (j + 1) s).foldl (fun f t => tSet f (cdN C n T t) 1) (h 51 0) ∧ farMK s.length h h') := by
          intro f2 h2 R2 k2 hA2
          refine mGo_wp h_M_markAll 80 [21] ?_
          show mGo l g _ _ 21 [_, _, _, some (.inl (mWr ((c : Int) + 1)))] [] _ _
          rw [mWr_of ⟨by omega, by omega⟩]
          exact ihm (c + 1) f2 h2 (by omega) R2 k2 hA2
        rw [List.range'_succ, List.flatMap_cons, List.foldl_append] at hA
        refine mGo_wp h_M_markAll 80 [21, 56] ?_
        refine ⟨fun z => by rw [a0] at z; omega, fun _ => ?_⟩
        have hba := bit_at _ c hbit (show c < 12 by omega)
        refine ⟨fun z => ?_, fun z => ?_⟩ <;> rw [hba] at z
        · have hcs : c ∈ s := by
            by_cases y : (bitR s s.length).testBit c = true
            · exact (bitR_all s c).mp y
            · rw [if_neg y] at z
              exact absurd rfl z
          rw [if_pos hcs] at hA
          exact nxt f1 h1 R1 k1 hA
        · have hcs : c ∉ s := fun y => by
            rw [if_pos ((bitR_all s c).mpr y)] at z
            exact absurd z (by decide)
          rw [if_neg hcs] at hA
          have oc := numO_snoc oN (show c < n by omega) hcs
          have hlen := app_len s c
          refine ⟨⟨by omega, by omega⟩, ?_⟩
          have e2S := mSm_snoc (c := c) (mSm_farK eS k1 (Nat.le_refl _))
          have hB2 : (mSet h1 52 0 s.length (c : Nat)) 51 0 = h1 51 0 := funext (fun k => mSet_no (by simp))
          have k2 : farMK s.length h (mSet h1 52 0 s.length (c : Nat)) := k1.tr (q := s.length) (fun t i k z => mSet_no (fun y => z (by omega))) (Nat.le_refl _)
          have w1 : mWr ((s.length : Int) + 1) = ((s ++ [c]).length : Nat) := by rw [mWr_of ⟨by omega, by omega⟩, hlen]; omega
          have w2 : mOr ((bitR s s.length : Nat) : Int) (mShl 1 (c : Int)) = ((bitR (s ++ [c]) (s ++ [c]).length : Nat) : Int) := by
            have h2 : 2 ^ c < 2 ^ 12 := Nat.pow_lt_pow_right (by decide) (by omega)
            rw [mShl_1 _ (by omega), mOr_nat (by omega) (by omega), bitR_snoc]
          have q := ih (s ++ [c]) (mSet h1 52 0 s.length (c : Nat)) (by omega) oc ((mSet_no (by simp)).trans a0) ((mSet_no (by simp)).trans a1) e2S
          rw [← w1, ← w2] at q
          rw [Int.toNat_natCast]
          refine mCall_on2 q ?_
          rintro v h3 ⟨rfl, R3, f3⟩
          rw [hB2, R1] at R3
          exact nxt _ h3 R3 (k2.tr f3 (by omega)) hA
    refine e_M_markAll (fun hv hm => ?_)
    refine mGo_wp h_M_markAll 80 [21] ?_
    refine ⟨fun _ => ?_, fun z => absurd z (by rw [e0]; omega)⟩
    exact loop n 0 _ h (by omega) rfl farMK.rf rfl
def farM2 (h h' : mMem) : Prop := ∀ (t : Nat) (i : Fin 8) (k : Nat), ¬ ((t = 51 ∧ i = 0) ∨ t = 52 ∨ (t = 9 ∧ k = 29)) → h' t i k = h t i k
theorem c_M_mark (T : bT) (C n : Nat) (hC : 2 ≤ C ∧ C ≤ 3) (hn : 1 ≤ n ∧ n ≤ 7) (hb : C ^ js n ≤ 60000) (tt : totT C n T) (h : mMem) (e0 : h 9 0 0 = n) (e1 : h 9 0 1 = C) (eT : ∀ k, k < 66 → h 42 0 k = T k) (a : aM) (ea : h 51 0 = a.1 ∧ h 9 0 29 = mWr a.2) :
    mCon l g n_M_mark (d + 10) [.inr (9, 0)] h (fun v h' => v = none ∧ (h' 51 0 = (stM C n a T).1 ∧ h' 9 0 29 = mWr (stM C n a T).2) ∧ farM2 h h') := by
  have idn := numO_id n
  have qc := cdN_lt (show n ≤ 12 by omega) hb tt idn List.length_range
  have loop : ∀ (m i : Nat), i + m = n → mGo l g (mMt n_M_mark) (d + 10) 2 [some (.inr (9, 0)), some (.inl (i : Nat))] [] (mSeg h 52 0 0 i (fun j => (j : Nat))) (fun v h' => v = none ∧ (h' 51 0 = (stM C n a T).1 ∧ h' 9 0 29 = mWr (stM C n a T).2) ∧ farM2 h h') := by
    intro m
    induction m with
    | zero =>
      intro i hi
      have hin : i = n := by omega
      subst hin
      refine mGo_wp h_M_mark 60 [2] ?_
      refine ⟨fun _ => ?_, fun z => by rw [mSeg_ne (by decide), e0] at z; omega⟩
      have eS : mSm (mSeg h 52 0 0 i (fun j => (j : Nat))) T (List.range i) := ⟨fun k hk => (mSeg_ne (by decide)).trans (eT k hk), fun q hq => by
        rw [List.length_range] at hq
        rw [mSeg_in0 hq, range_getD hq]⟩
      have f1 : farM2 h (mSeg h 52 0 0 i (fun j => (j : Nat))) := fun t b k z => mSeg_ne (fun y => z (by omega))
      have h51 : mSeg h 52 0 0 i (fun j => (j : Nat)) 51 0 = a.1 := (funext (fun k => mSeg_ne (by decide))).trans ea.1
      refine mCall_is (mCon_lift (by omega) (c_M_codeBy (d := d) T C i hC ⟨hn.1, by omega⟩ hb (List.range i) idn List.length_range (tot_vec (by omega) tt idn List.length_range) _ (by rw [mSeg_ne (by decide), e0]) (by rw [mSeg_ne (by decide), e1]) eS)) ?_
      have st : stM C i a T = if a.1 (cdN C i T (List.range i)) = 0 then (mkAll C i T a.1, a.2 + 1) else a := rfl
      have rd : mSeg h 52 0 0 i (fun j => (j : Nat)) 51 0 (hV C (vec T (List.range i)) (js i) 0).toNat = a.1 (cdN C i T (List.range i)) := by
        rw [h51]
        rfl
      refine ⟨⟨by omega, by omega⟩, ⟨fun z => ?_, fun z => ?_⟩⟩
      · rw [rd] at z
        rw [st, if_pos z]
        have w : mWr (mSeg h 52 0 0 i (fun j => ((j : Nat) : Int)) 9 0 29 + 1) = mWr ((a.2 + 1 : Nat) : Int) := by
          rw [mSeg_ne (by decide), ea.2, mWr_add]
          rfl
        have q := s_markAll (l := l) (g := g) (d := d + (7 - i)) T C i hC ⟨hn.1, by omega⟩ hb tt i [] (mSet (mSeg h 52 0 0 i (fun j => ((j : Nat) : Int))) 9 0 29 (mWr (mSeg h 52 0 0 i (fun j => ((j : Nat) : Int)) 9 0 29 + 1))) (by show 0 + i = i; omega) (numO_nil _) (by rw [mSet_no (by simp), mSeg_ne (by decide), e0]) (by rw [mSet_no (by simp), mSeg_ne (by decide), e1]) ⟨fun k hk => by rw [mSet_no (by simp), mSeg_ne (by decide), eT k hk], fun q hq => absurd hq (by show ¬ q < 0; omega)⟩
        refine mCall_on2 (mCon_lift (by omega) q) ?_
        rintro v h3 ⟨rfl, R3, f3⟩
        have hB : mSet (mSeg h 52 0 0 i (fun j => ((j : Nat) : Int))) 9 0 29 (mWr (mSeg h 52 0 0 i (fun j => ((j : Nat) : Int)) 9 0 29 + 1)) 51 0 = a.1 := (funext (fun k => mSet_no (by simp))).trans h51
        rw [hB] at R3
        refine ⟨rfl, ⟨R3, ?_⟩, fun t b k z => (f3 t b k (fun y => z (by omega))).trans ((mSet_no (fun y => z (by omega))).trans (f1 t b k z))⟩
        rw [f3 9 0 29 (by omega), mSet_at, w]
      · rw [rd] at z
        rw [st, if_neg z]
        exact ⟨rfl, ⟨h51, (mSeg_ne (by decide)).trans ea.2⟩, f1⟩
    | succ m ih =>
      intro i hi
      refine mGo_wp h_M_mark 60 [2] ?_
      refine ⟨fun z => by rw [mSeg_ne (by decide), e0] at z; omega, fun _ => ⟨⟨by omega, by omega⟩, ?_⟩⟩
      have q := ih (i + 1) (by omega)
      rw [← mSeg_succ, Nat.zero_add] at q
      show mGo l g _ _ 2 [_, some (.inl (mWr ((i : Int) + 1)))] [] (mSet (mSeg h 52 0 0 i (fun j => ((j : Nat) : Int))) 52 0 (Int.toNat (i : Int)) (i : Int)) _
      rw [Int.toNat_natCast, mWr_of ⟨by omega, by omega⟩]
      exact q
  refine e_M_mark (fun hv hm => ?_)
  refine mGo_wp h_M_mark 60 [2] ?_
  have q := loop n 0 (by omega)
  rw [mSeg_zero] at q
  exact q
theorem s_listGo2 {A : Type} (N : nN) (hN : ∀ T : bT, (∀ k, k < 66 → -1 ≤ T k ∧ T k < nC N) → (∀ k, js (nP N) ≤ k → k < 66 → T k = -1) → nOk (nSetT N T)) (hP : nP N ≤ 12) (hC : nC N ≤ 3) (Dp : Nat) (hDp : 13 ≤ Dp) (Inv : A → mMem → Prop) (step : A → bT → A) (H : mMem)
    (i1 : ∀ a h h', farX h h' → Inv a h → Inv a h') (i2 : ∀ a h k v, Inv a h → Inv a (mSet h 42 0 k v))
    (leaf : ∀ a h T x2, isM h (nSetT N T) → nOk (nSetT N T) → totT (nC N) (nP N) T → farY H h → Inv a h → mGo l g (mMt n_M_listGo) Dp 11 [some (.inr (9, 0)), some (.inl (js (nP N) : Nat)), x2] [] h (fun v h' => v = none ∧ Inv (step a T) h' ∧ isM h' (nSetT N T) ∧ farY h h')) :
    ∀ (j i : Nat) (T : bT) (a : A) (h : mMem), i + j = js (nP N) → nOk (nSetT N T) → (∀ q, i ≤ q → q < 66 → T q = -1) → (∀ q, q < i → 0 ≤ T q) → isM h (nSetT N T) → farY H h → Inv a h →
    mCon l g n_M_listGo (Dp + j) [.inr (9, 0), .inl i] h (fun v h' => v = none ∧ Inv ((lv N id j i T).foldl step a) h' ∧ isM h' (nSetT N T) ∧ farY h h') := by
  have h66 := js_le (nP N) (by omega)
  intro j
  induction j with
  | zero =>
    intro i T a h hij o hb ht e f I
    refine e_M_listGo (fun hv hm => ?_)
    refine mGo_wp h_M_listGo 80 [11] ?_
    have e1 : h 9 0 0 = (nP N : Nat) := e.1
    obtain ⟨D', hD'⟩ : ∃ D', Dp = D' + 1 := ⟨Dp - 1, by omega⟩
    rw [show Dp + 0 = Dp from rfl] at *
    have q := leaf a h T none e o (fun k hk => ⟨ht k (by omega), (o.2.2.2.1 k (by omega)).2⟩) f I
    rw [hD'] at q ⊢
    refine mCall_is (show mCon l g n_M_joinsOf D' [.inl (h 9 0 0)] h _ from e1 ▸ c_M_joinsOf (nP N) (by omega) h) ?_
    refine ⟨fun z => absurd (by omega) z, fun _ => ?_⟩
    rw [show i = js (nP N) by omega]
    exact q
  | succ j ih =>
    intro i T a h hij o hb ht e f I
    have hi66 : i < 66 := by omega
    have hTi := hb i (Nat.le_refl _) hi66
    have key : ∀ c : Nat, c < nC N → nOk (nSetT N (tSet T i (c : Int))) := fun c hc => nOk_tone o (k := i) (show i < js (nP N) by omega) ⟨by omega, by show (c : Int) < nC N; omega⟩
    have loop : ∀ (m c : Nat) (v : Int) (a1 : A) (h1 : mMem), c + m = nC N → isM h1 (nSetT N (tSet T i v)) → farY h h1 → Inv a1 h1 → ((List.range' c m).flatMap (fun c => if qB (cpL (nSetT N (tSet T i (c : Nat))) c 0 = []) = true then lv N id j (i + 1) (tSet T i (c : Nat)) else [])).foldl step a1 = (lv N id (j + 1) i T).foldl step a →
        mGo l g (mMt n_M_listGo) (Dp + j + 1) 76 [some (.inr (9, 0)), some (.inl i), some (.inl c)] [] h1 (fun v h' => v = none ∧ Inv ((lv N id (j + 1) i T).foldl step a) h' ∧ isM h' (nSetT N T) ∧ farY h h') := by
      intro m
      induction m with
      | zero =>
        intro c v a1 h1 hc e1 f1 I1 hA
        refine mGo_wp h_M_listGo 80 [76] ?_
        have e11 : h1 9 0 1 = (nC N : Nat) := e1.2.1
        refine ⟨fun _ => ⟨⟨by omega, by omega⟩, rfl, ?_, ?_, f1.tr (fun t b q z => mSet_no (fun y => z (by omega)))⟩, fun z => by rw [e11] at z; omega⟩
        · rw [← hA]
          exact i2 _ _ _ _ I1
        · rw [Int.toNat_natCast]
          exact isM_back e1 hTi
      | succ m ihm =>
        intro c v a1 h1 hc e1 f1 I1 hA
        refine mGo_wp h_M_listGo 80 [76] ?_
        have e11 : h1 9 0 1 = (nC N : Nat) := e1.2.1
        refine ⟨fun z => by rw [e11] at z; omega, fun _ => ⟨⟨by omega, by omega⟩, ?_⟩⟩
        have e2 : isM (mSet h1 42 0 (Int.toNat (i : Int)) (c : Int)) (nSetT N (tSet T i (c : Int))) := by
          rw [Int.toNat_natCast]
          have q : isM (mSet h1 42 0 i (c : Int)) (nSetT N (tSet (tSet T i v) i (c : Int))) := isM_tone e1 i (c : Int)
          rw [tSet_tSet] at q
          exact q
        have f2 : farY h1 (mSet h1 42 0 (Int.toNat (i : Int)) (c : Int)) := fun t b q z => mSet_no (fun y => z (by omega))
        have oc := key c (by omega)
        refine mCall_on2 (mCon_lift (by omega) (c_M_hasCopy (d := 0) c (by omega) (nSetT N (tSet T i (c : Int))) hP (oc.2.2.1 c (by omega)) _ e2)) ?_
        rintro r h3 ⟨rfl, -, f3⟩
        have e3 := isM_farX e2 f3
        have I3 := i1 _ _ _ f3 (i2 a1 h1 (Int.toNat (i : Int)) (c : Int) I1)
        have f13 : farY h h3 := f1.tr (f2.tr (farY.ofX f3))
        rw [List.range'_succ, List.flatMap_cons, List.foldl_append] at hA
        have nxt : ∀ (a4 : A) (h4 : mMem), isM h4 (nSetT N (tSet T i (c : Int))) → farY h h4 → Inv a4 h4 → ((List.range' (c + 1) m).flatMap (fun c => if qB (cpL (nSetT N (tSet T i (c : Nat))) c 0 = []) = true then lv N id j (i + 1) (tSet T i (c : Nat)) else [])).foldl step a4 = (lv N id (j + 1) i T).foldl step a →
            mGo l g (mMt n_M_listGo) (Dp + j + 1) 76 [some (.inr (9, 0)), some (.inl i), some (.inl (mWr ((c : Int) + 1)))] [] h4 (fun v h' => v = none ∧ Inv ((lv N id (j + 1) i T).foldl step a) h' ∧ isM h' (nSetT N T) ∧ farY h h') := by
          intro a4 h4 e4 f4 I4 hA4
          rw [mWr_of ⟨by omega, by omega⟩]
          exact ihm (c + 1) (c : Int) a4 h4 (by omega) e4 f4 I4 hA4
        refine ⟨fun z => ?_, fun z => ?_⟩
        · rw [if_neg (qB_no (mBc_ne0.mp z))] at hA
          exact nxt a1 h3 e3 f13 I3 hA
        · rw [if_pos (qB_t (Classical.not_not.mp (mBc_eq0.mp z)))] at hA
          have w : mWr ((i : Int) + 1) = ((i + 1 : Nat) : Int) := by rw [mWr_of ⟨by omega, by omega⟩]; omega
          have q := ih (i + 1) (tSet T i (c : Int)) a1 h3 (by omega) oc (fun q h1 h2 => by
            show (if q = i then _ else T q) = -1
            rw [if_neg (by omega)]
            exact hb q (by omega) h2) (fun q hq => by
            show 0 ≤ (if q = i then ((c : Nat) : Int) else T q)
            by_cases y : q = i
            · rw [if_pos y]; omega
            · rw [if_neg y]; exact ht q (by omega)) e3 (f.tr f13) I3
          rw [← w] at q
          refine mCall_on2 q ?_
          rintro r h4 ⟨rfl, I4, e4, f4⟩
          exact nxt _ h4 e4 (f13.tr f4) I4 hA
    refine e_M_listGo (fun hv hm => ?_)
    refine mGo_wp h_M_listGo 80 [76] ?_
    have e1 : h 9 0 0 = (nP N : Nat) := e.1
    refine mCall_is (show mCon l g n_M_joinsOf (Dp + j) [.inl (h 9 0 0)] h _ from e1 ▸ c_M_joinsOf (nP N) (by omega) h) ?_
    refine ⟨fun _ => ?_, fun z => absurd z (by omega)⟩
    refine loop (nC N) 0 (-1) a h (by omega) ?_ farY.rf I rfl
    rw [tSet_self hTi]
    exact e
end Marks
