/-! the model's goForms -/
def mR (h : mMem) (n : Nat) (o : Option Int × Nat) : Prop := h 9 0 33 = mWr o.2 ∧ (match o.1 with
  | none => h 9 0 32 = 0
  | some K => h 9 0 32 = 1 ∧ dg4 (h 53 0) (js n) 0 ∧ kV (h 53 0) (js n) 0 = K)
def farMF (p : Nat) (h h' : mMem) : Prop := ∀ (t : Nat) (i : Fin 8) (k : Nat), ¬ (t = 53 ∨ (t = 52 ∧ p ≤ k) ∨ (t = 9 ∧ (k = 32 ∨ k = 33))) → h' t i k = h t i k
theorem farMF.rf {p : Nat} {h : mMem} : farMF p h h := fun _ _ _ _ => rfl
theorem farMF.tr {p q : Nat} {h h1 h2 : mMem} (a : farMF p h h1) (b : farMF q h1 h2) (hpq : p ≤ q) : farMF p h h2 := fun t j k z => (b t j k (fun y => z (by omega))).trans (a t j k z)
theorem mSm_far {h h' : mMem} {T : bT} {s : List Nat} {p : Nat} (e : mSm h T s) (f : farMF p h h') (hp : s.length ≤ p) : mSm h' T s := ⟨fun k hk => (f _ _ _ (by omega)).trans (e.1 k hk), fun i hi => (f _ _ _ (by omega)).trans (e.2 i hi)⟩
theorem mSm_snoc {h : mMem} {T : bT} {s : List Nat} {c : Nat} (e : mSm h T s) : mSm (mSet h 52 0 s.length (c : Nat)) T (s ++ [c]) := by
  refine ⟨fun k hk => (mSet_no (by simp)).trans (e.1 k hk), fun i hi => ?_⟩
  rw [app_len] at hi
  by_cases z : i = s.length
  · subst z
    rw [mSet_at, getD_app1]
  · rw [mSet_no (fun y => z y.2.2), getD_left (by omega)]
    exact e.2 i (by omega)
theorem mWr_0 (x : Int) : mWr (mWr x + 0) = mWr x := by
  rw [Int.add_zero]
  unfold mWr
  rw [Int32.ofInt_toInt]
section GoForms
variable {l : Launch} {g : mG} {d : Nat}
theorem l_goForms (T : bT) (n : Nat) (hn : 1 ≤ n ∧ n ≤ 7) (hT : ∀ k, k < js n → -1 ≤ T k ∧ T k ≤ 2) (s : List Nat) (o : Option Int × Nat) (h : mMem) (hl : s.length = n) (oN : numO n s) (e0 : h 9 0 0 = n) (eS : mSm h T s) (R : mR h n o) :
    mCon l g n_M_goForms (d + 2) [.inr (9, 0), .inl s.length, .inl (bitR s s.length : Nat)] h (fun v h' => v = none ∧ mR h' n (kst o (ky T n s)) ∧ farMF s.length h h') := by
  have hdv : dg4 (vec T s) (js n) 0 := dg_vec (by omega) hT oN (by omega)
  have h66 := js_le n (by omega)
  -- the end: one more, or none
  have fin : ∀ (ord : Int) (x2 x4 x5 : Option mRV) (w w' : Nat) (h1 : mMem) (K : Int), (w' = if ord > 0 then w else w + 1) → h1 9 0 33 = mWr w → h1 9 0 32 = 1 → dg4 (h1 53 0) (js n) 0 → kV (h1 53 0) (js n) 0 = K → kst o (ky T n s) = (some K, w') → farMF s.length h h1 →
      mGo l g (mMt n_M_goForms) (d + 2) 106 [some (.inr (9, 0)), some (.inl (s.length : Nat)), x2, some (.inl ord), x4, x5] [] h1 (fun v h' => v = none ∧ mR h' n (kst o (ky T n s)) ∧ farMF s.length h h') := by
    intro ord x2 x4 x5 w w' h1 K hw a33 a32 hd hK hs f1
    have fY : ∀ v, farMF s.length h (mSet h1 9 0 33 v) := fun v => f1.tr (q := s.length) (fun t i k z => mSet_no (fun y => z (by omega))) (Nat.le_refl _)
    have hB : ∀ v, (mSet h1 9 0 33 v) 53 0 = h1 53 0 := fun v => funext (fun k => mSet_no (by simp))
    refine mGo_wp h_M_goForms 100 [] ?_
    refine ⟨fun z => ⟨rfl, ?_, fY _⟩, fun z => ⟨rfl, ?_, fY _⟩⟩
    · rw [hs, hw, if_pos z]
      refine ⟨?_, (mSet_no (by simp)).trans a32, by rw [hB]; exact hd, by rw [hB]; exact hK⟩
      rw [mSet_at, a33]
      exact mWr_0 _
    · rw [hs, hw, if_neg (by omega)]
      refine ⟨?_, (mSet_no (by simp)).trans a32, by rw [hB]; exact hd, by rw [hB]; exact hK⟩
      rw [mSet_at, a33, mWr_add]
      rfl
  -- a lesser one is written down
  have wr : ∀ (x2 : Option mRV) (h1 : mMem), kst o (ky T n s) = (some (ky T n s), 1) → h1 9 0 0 = n → mSm h1 T s → farMF s.length h h1 → ∀ (m b : Nat) (x5 : Option mRV), b + m = n → 1 ≤ b →
      mGo l g (mMt n_M_goForms) (d + 2) 31 [some (.inr (9, 0)), some (.inl (s.length : Nat)), x2, some (.inl (-1)), some (.inl (b : Nat)), x5] [] (mSeg h1 53 0 0 (js b) (vec T s)) (fun v h' => v = none ∧ mR h' n (kst o (ky T n s)) ∧ farMF s.length h h') := by
    intro x2 h1 hs b0 bS f1 m
    have fS : ∀ q, farMF s.length h (mSeg h1 53 0 0 q (vec T s)) := fun q => f1.tr (q := s.length) (fun t i k z => mSeg_ne (fun y => z (by omega))) (Nat.le_refl _)
    induction m with
    | zero =>
      intro b x5 hb hb1
      have hbn : b = n := by omega
      subst hbn
      refine mGo_wp h_M_goForms 100 [106] ?_
      refine ⟨fun _ => ⟨Or.inr rfl, ?_⟩, fun z => by rw [mSeg_ne (by decide), b0] at z; omega⟩
      have hB : (mSet (mSet (mSeg h1 53 0 0 (js b) (vec T s)) 9 0 32 1) 9 0 33 0) 53 0 = (mSeg h1 53 0 0 (js b) (vec T s)) 53 0 := funext (fun k => (mSet_no (by simp)).trans (mSet_no (by simp)))
      refine fin (-1) _ _ _ 0 1 _ (ky T b s) rfl ?_ ?_ ?_ ?_ hs ?_
      · rw [mSet_at]
        exact (mWr_of ⟨by decide, by decide⟩).symm
      · rw [mSet_no (by simp), mSet_at]
      · rw [hB]
        intro i h1 h2
        rw [mSeg_in0 (by omega)]
        exact hdv i h1 h2
      · rw [hB]
        exact kV_congr _ _ (fun i _ hi => mSeg_in0 (by omega))
      · exact (fS (js b)).tr (q := s.length) (fun t i k z => (mSet_no (fun y => z (by omega))).trans (mSet_no (fun y => z (by omega)))) (Nat.le_refl _)
    | succ m ih =>
      intro b x5 hb hb1
      have hjb := js_next b (by omega)
      have hjn : js (b + 1) ≤ js n := js_mono (by omega)
      have inner : ∀ (m2 a : Nat), a + m2 = b → mGo l g (mMt n_M_goForms) (d + 2) 43 [some (.inr (9, 0)), some (.inl (s.length : Nat)), x2, some (.inl (-1)), some (.inl (b : Nat)), some (.inl (a : Nat))] [] (mSeg h1 53 0 0 (js b + a) (vec T s)) (fun v h' => v = none ∧ mR h' n (kst o (ky T n s)) ∧ farMF s.length h h') := by
        intro m2
        induction m2 with
        | zero =>
          intro a ha
          refine mGo_wp h_M_goForms 100 [31] ?_
          refine ⟨fun _ => ?_, fun z => by omega⟩
          show mGo l g _ _ 31 [_, _, _, _, some (.inl (mWr ((b : Int) + 1))), _] [] _ _
          rw [mWr_of ⟨by omega, by omega⟩, show js b + a = js (b + 1) by omega]
          exact ih (b + 1) _ (by omega) (by omega)
        | succ m2 ih2 =>
          intro a ha
          have g1 := oN.2 _ (getD_mem (r := s) (j := a) (by omega))
          have g2 := oN.2 _ (getD_mem (r := s) (j := b) (by omega))
          have hj := jn_lt _ (show s.getD a 0 < 12 by omega) _ (show s.getD b 0 < 12 by omega) (nodup_ne oN.1 (by omega) (by omega) (by omega))
          have hj2 : jn a b = js b + a := jn_last b (by omega) a (by omega)
          obtain ⟨j1, j2⟩ := jlo_js b (by omega) a (by omega)
          have rv : T (jn (s.getD a 0) (s.getD b 0)) = vec T s (js b + a) := by
            unfold vec
            rw [j1, j2]
            rfl
          have ra : mSeg h1 53 0 0 (js b + a) (vec T s) 52 0 ((a : Int)).toNat = (s.getD a 0 : Nat) := by rw [mSeg_ne (by decide), Int.toNat_natCast, bS.2 a (by omega)]
          have rb : mSeg h1 53 0 0 (js b + a) (vec T s) 52 0 ((b : Int)).toNat = (s.getD b 0 : Nat) := by rw [mSeg_ne (by decide), Int.toNat_natCast, bS.2 b (by omega)]
          refine mGo_wp h_M_goForms 100 [43] ?_
          refine ⟨fun z => by omega, fun _ => ?_⟩
          refine mCall_is (c_M_join a b (by omega) (by omega) _) ?_
          refine ⟨⟨by omega, by omega⟩, ⟨by omega, by omega⟩, ?_⟩
          refine mCall_is (show mCon l g n_M_join (d + 1) [.inl (mSeg h1 53 0 0 (js b + a) (vec T s) 52 0 ((a : Int)).toNat), .inl (mSeg h1 53 0 0 (js b + a) (vec T s) 52 0 ((b : Int)).toNat)] _ (mIs (some (.inl (jn (s.getD a 0) (s.getD b 0) : Nat))) _) by rw [ra, rb]; exact c_M_join _ _ (by omega) (by omega) _) ?_
          refine ⟨⟨by omega, by omega⟩, ⟨by omega, by omega⟩, ?_⟩
          have rT : mSeg h1 53 0 0 (js b + a) (vec T s) 42 0 (Int.toNat ((jn (s.getD a 0) (s.getD b 0) : Nat) : Int)) = vec T s (js b + a) := by rw [mSeg_ne (by decide), Int.toNat_natCast, bS.1 _ hj, rv]
          have q := ih2 (a + 1) (by omega)
          rw [← Nat.add_assoc, ← mSeg_succ, Nat.zero_add] at q
          show mGo l g _ _ 43 [_, _, _, _, _, some (.inl (mWr ((a : Int) + 1)))] [] (mSet (mSeg h1 53 0 0 (js b + a) (vec T s)) 53 0 (Int.toNat ((jn a b : Nat) : Int)) (mSeg h1 53 0 0 (js b + a) (vec T s) 42 0 (Int.toNat ((jn (s.getD a 0) (s.getD b 0) : Nat) : Int)))) _
          rw [rT, mWr_of ⟨by omega, by omega⟩, Int.toNat_natCast, hj2]
          exact q
      refine mGo_wp h_M_goForms 100 [43] ?_
      refine ⟨fun z => by rw [mSeg_ne (by decide), b0] at z; omega, fun _ => ?_⟩
      have q := inner b 0 (by omega)
      exact q
  have wr0 : ∀ (x2 x4 x5 : Option mRV), kst o (ky T n s) = (some (ky T n s), 1) → mGo l g (mMt n_M_goForms) (d + 2) 24 [some (.inr (9, 0)), some (.inl (s.length : Nat)), x2, some (.inl (-1)), x4, x5] [] h (fun v h' => v = none ∧ mR h' n (kst o (ky T n s)) ∧ farMF s.length h h') := by
    intro x2 x4 x5 hs
    refine mGo_wp h_M_goForms 100 [31] ?_
    refine ⟨fun z => absurd z (by decide), fun _ => ?_⟩
    have q := wr x2 h hs e0 eS farMF.rf (n - 1) 1 x5 (by omega) (Nat.le_refl _)
    rw [show js 1 = 0 from rfl, mSeg_zero] at q
    exact q
  refine e_M_goForms (fun hv hm => ?_)
  refine mGo_wp h_M_goForms 100 [24] ?_
  refine ⟨fun z => absurd (by rw [e0]; omega) z, fun _ => ?_⟩
  obtain ⟨o1, o2⟩ := o
  cases o1 with
  | none =>
    have a32 : h 9 0 32 = 0 := R.2
    exact ⟨fun _ => wr0 _ _ _ rfl, fun z => absurd a32 z⟩
  | some K =>
    have a3 : h 9 0 32 = 1 ∧ dg4 (h 53 0) (js n) 0 ∧ kV (h 53 0) (js n) 0 = K := R.2
    have a33 : h 9 0 33 = mWr (o2 : Nat) := R.1
    refine ⟨fun z => by rw [a3.1] at z; exact absurd z (by decide), fun _ => ?_⟩
    refine mCall_is (c_M_against (d := d) T (h 53 0) n (by omega) s oN hl h e0 eS (fun _ _ => rfl)) ?_
    have hag := ag_cm T (h 53 0) s n (by omega) (n - 1) 1 (by omega)
    rw [show js 1 = 0 from rfl, Nat.sub_zero] at hag
    rw [hag]
    have hks : kst (some K, o2) (ky T n s) = (if ky T n s < K then (some (ky T n s), 1) else if ky T n s = K then (some K, o2 + 1) else (some K, o2)) := rfl
    rcases cm_key (v := vec T s) (u := h 53 0) (js n) 0 hdv a3.2.1 with w | w | w
    · rw [w.1]
      refine wr0 _ _ _ ?_
      have h1 : ky T n s < K := by rw [← a3.2.2]; exact w.2
      rw [hks, if_pos h1]
    · rw [w.1]
      have h1 : ky T n s = K := by rw [← a3.2.2]; exact w.2.1
      refine mGo_wp h_M_goForms 100 [106] ?_
      refine ⟨fun _ => fin 0 _ _ _ o2 (o2 + 1) h K rfl a33 a3.1 a3.2.1 a3.2.2 ?_ farMF.rf, fun z => absurd z (by decide)⟩
      rw [hks, if_neg (by omega), if_pos h1]
    · rw [w.1]
      have h1 : K < ky T n s := by rw [← a3.2.2]; exact w.2
      refine mGo_wp h_M_goForms 100 [106] ?_
      refine ⟨fun _ => fin 1 _ _ _ o2 o2 h K rfl a33 a3.1 a3.2.1 a3.2.2 ?_ farMF.rf, fun z => absurd z (by decide)⟩
      rw [hks, if_neg (by omega), if_neg (by omega)]
theorem s_goForms (T : bT) (n : Nat) (hn : 1 ≤ n ∧ n ≤ 7) (hT : ∀ k, k < js n → -1 ≤ T k ∧ T k ≤ 2) : ∀ (j : Nat) (s : List Nat) (o : Option Int × Nat) (h : mMem), s.length + j = n → numO n s → h 9 0 0 = n → mSm h T s → mR h n o →
    mCon l g n_M_goForms (d + 2 + j) [.inr (9, 0), .inl s.length, .inl (bitR s s.length : Nat)] h (fun v h' => v = none ∧ mR h' n (((nums n j s).map (ky T n)).foldl kst o) ∧ farMF s.length h h') := by
  intro j
  induction j with
  | zero =>
    intro s o h hj oN e0 eS R
    exact l_goForms T n hn hT s o h (by omega) oN e0 eS R
  | succ j ih =>
    intro s o h hj oN e0 eS R
    have hbit := bitR_lt s (fun x hx => by have := oN.2 x hx; omega) s.length (Nat.le_refl _)
    have loop : ∀ (m c : Nat) (x4 x5 : Option mRV) (o1 : Option Int × Nat) (h1 : mMem), c + m = n → mR h1 n o1 → farMF s.length h h1 → ((((List.range' c m).flatMap (fun c => if c ∈ s then [] else nums n j (s ++ [c]))).map (ky T n)).foldl kst o1) = (((nums n (j + 1) s).map (ky T n)).foldl kst o) →
        mGo l g (mMt n_M_goForms) (d + 2 + j + 1) 127 [some (.inr (9, 0)), some (.inl (s.length : Nat)), some (.inl (bitR s s.length : Nat)), some (.inl (c : Nat)), x4, x5] [] h1 (fun v h' => v = none ∧ mR h' n (((nums n (j + 1) s).map (ky T n)).foldl kst o) ∧ farMF s.length h h') := by
      intro m
      induction m with
      | zero =>
        intro c x4 x5 o1 h1 hc R1 f1 hA
        refine mGo_wp h_M_goForms 100 [127] ?_
        have a0 : h1 9 0 0 = n := (f1 _ _ _ (by omega)).trans e0
        refine ⟨fun _ => ⟨rfl, ?_, f1⟩, fun z => by rw [a0] at z; omega⟩
        rw [← hA]
        exact R1
      | succ m ihm =>
        intro c x4 x5 o1 h1 hc R1 f1 hA
        have a0 : h1 9 0 0 = n := (f1 _ _ _ (by omega)).trans e0
        have nxt : ∀ (y4 y5 : Option mRV) (o2 : Option Int × Nat) (h2 : mMem), mR h2 n o2 → farMF s.length h h2 → ((((List.range' (c + 1) m).flatMap (fun c => if c ∈ s then [] else nums n j (s ++ [c]))).map (ky T n)).foldl kst o2) = (((nums n (j + 1) s).map (ky T n)).foldl kst o) →
            mGo l g (mMt n_M_goForms) (d + 2 + j + 1) 162 [some (.inr (9, 0)), some (.inl (s.length : Nat)), some (.inl (bitR s s.length : Nat)), some (.inl (c : Nat)), y4, y5] [] h2 (fun v h' => v = none ∧ mR h' n (((nums n (j + 1) s).map (ky T n)).foldl kst o) ∧ farMF s.length h h') := by
          intro y4 y5 o2 h2 R2 f2 hA2
          refine mGo_wp h_M_goForms 100 [127] ?_
          show mGo l g _ _ 127 [_, _, _, some (.inl (mWr ((c : Int) + 1))), _, _] [] _ _
          rw [mWr_of ⟨by omega, by omega⟩]
          exact ihm (c + 1) _ _ o2 h2 (by omega) R2 f2 hA2
        rw [List.range'_succ, List.flatMap_cons, List.map_append, List.foldl_append] at hA
        refine mGo_wp h_M_goForms 100 [127, 162] ?_
        refine ⟨fun z => by rw [a0] at z; omega, fun _ => ?_⟩
        have hba := bit_at _ c hbit (show c < 12 by omega)
        refine ⟨fun z => ?_, fun z => ?_⟩ <;> rw [hba] at z
        · have hcs : c ∈ s := by
            by_cases y : (bitR s s.length).testBit c = true
            · exact (bitR_all s c).mp y
            · rw [if_neg y] at z
              exact absurd rfl z
          rw [if_pos hcs] at hA
          exact nxt _ _ o1 h1 R1 f1 hA
        · have hcs : c ∉ s := fun y => by
            rw [if_pos ((bitR_all s c).mpr y)] at z
            exact absurd z (by decide)
          rw [if_neg hcs] at hA
          have oc := numO_snoc oN (show c < n by omega) hcs
          have hlen := app_len s c
          refine ⟨⟨by omega, by omega⟩, ?_⟩
          have e2S := mSm_snoc (c := c) (mSm_far eS f1 (Nat.le_refl _))
          have hB2 : (mSet h1 52 0 s.length (c : Nat)) 53 0 = h1 53 0 := funext (fun k => mSet_no (by simp))
          have f2 : farMF s.length h (mSet h1 52 0 s.length (c : Nat)) := f1.tr (q := s.length) (fun t i k z => mSet_no (fun y => z (by omega))) (Nat.le_refl _)
          have w1 : mWr ((s.length : Int) + 1) = ((s ++ [c]).length : Nat) := by rw [mWr_of ⟨by omega, by omega⟩, hlen]; omega
          have w2 : mOr ((bitR s s.length : Nat) : Int) (mShl 1 (c : Int)) = ((bitR (s ++ [c]) (s ++ [c]).length : Nat) : Int) := by
            have h2 : 2 ^ c < 2 ^ 12 := Nat.pow_lt_pow_right (by decide) (by omega)
            rw [mShl_1 _ (by omega), mOr_nat (by omega) (by omega), bitR_snoc]
          have R2 : mR (mSet h1 52 0 s.length (c : Nat)) n o1 := by
            refine ⟨(mSet_no (by simp)).trans R1.1, ?_⟩
            have R12 := R1.2
            revert R12
            cases o1.1 with
            | none => exact fun w => (mSet_no (by simp)).trans w
            | some K => exact fun w => ⟨(mSet_no (by simp)).trans w.1, by rw [hB2]; exact w.2.1, by rw [hB2]; exact w.2.2⟩
          have q := ih (s ++ [c]) o1 (mSet h1 52 0 s.length (c : Nat)) (by omega) oc ((mSet_no (by simp)).trans a0) e2S R2
          rw [← w1, ← w2] at q
          rw [Int.toNat_natCast]
          refine mCall_on2 q ?_
          rintro v h3 ⟨rfl, R3, f3⟩
          exact nxt _ _ _ h3 R3 (f2.tr f3 (by omega)) hA
    refine e_M_goForms (fun hv hm => ?_)
    refine mGo_wp h_M_goForms 100 [127] ?_
    refine ⟨fun _ => ?_, fun z => absurd z (by rw [e0]; omega)⟩
    exact loop n 0 none none o h (by omega) R farMF.rf rfl
end GoForms
