/-! the model's go, for any way of taking a row -/
def farR (h h' : mMem) : Prop := ∀ t i k, ¬ (t = 44 ∨ t = 45 ∨ (t = 9 ∧ (k = 9 ∨ k = 10 ∨ k = 11))) → h' t i k = h t i k
def farK (h h' : mMem) : Prop := ∀ t i k, ¬ (t = 46 ∨ t = 47 ∨ t = 48 ∨ (t = 9 ∧ (k = 14 ∨ k = 15 ∨ k = 17))) → h' t i k = h t i k
def farT (h h' : mMem) : Prop := ∀ t i k, ¬ (t = 44 ∨ t = 45 ∨ t = 46 ∨ t = 47 ∨ t = 48 ∨ (t = 9 ∧ (k = 9 ∨ k = 10 ∨ k = 11 ∨ k = 14 ∨ k = 15 ∨ k = 17))) → h' t i k = h t i k
theorem farT.rf {h : mMem} : farT h h := fun _ _ _ _ => rfl
theorem farT.tr {h h1 h2 : mMem} (a : farT h h1) (b : farT h1 h2) : farT h h2 := fun t i k z => (b t i k z).trans (a t i k z)
theorem farT.ofR {h h1 : mMem} (a : farR h h1) : farT h h1 := fun t i k z => a t i k (fun y => z (by omega))
theorem farT.ofK {h h1 : mMem} (a : farK h h1) : farT h h1 := fun t i k z => a t i k (fun y => z (by omega))
theorem farR.ofE {h h1 : mMem} (a : farE h h1) : farR h h1 := fun t i k z => a t i k (fun y => z (by omega))
section Go
variable {l : Launch} {g : mG} {d : Nat}
theorem s_addPoint (c : Nat) (hc : c < 3) (T : Nat → Int) (k L : Nat) (s : Int) (hk : kOk k L) (hs : lenOf k s = L) (mm ms : Nat) (es : List Nat) (md : Int) (r : List Nat) (p : Nat) (hp : p < 12) (o : rOk k r es) (hpr : p ∉ r) (hl : r.length < L) (hms : ms < 50) (hle : ms ≤ mm) (h : mMem) (e : sSt h T mm es ms md) (er : rowAt h r) (ek : h 40 0 c = k) (eS : h 41 0 c = s) :
    mCon l g n_M_addPoint (d + 2) [.inr (9, 0), .inl c, .inl r.length, .inl p] h (ptK h T c k L mm ms es md r p) := by
  have o5 := o.2.2.2.2.1
  have o6 := o.2.2.2.2.2
  rcases hk with ⟨rfl, h1, h2⟩ | ⟨rfl, h1, h2⟩ | ⟨rfl, h1, h2⟩ | ⟨rfl, h1, h2⟩ | ⟨rfl, h1, h2⟩
  · have q := o5 rfl
    have q2 : r.length * (r.length - 1) ≤ 5 * 4 := Nat.mul_le_mul (by omega) (by omega)
    exact s_addPoint1 c hc T L mm ms es md r p hp o.1 hpr (by omega) (by omega) hms hle h e er ek
  · have q := o6 (by decide)
    have hs : (if ((2 : Nat) : Int) = 3 then s + 1 else if ((2 : Nat) : Int) = 4 then s + 2 else s) = L := hs
    rw [if_neg (by decide), if_neg (by decide)] at hs
    exact s_addPoint2 c hc T L mm ms es md r p hp o.1 hpr (by omega) (by omega) hms hle h e er ek (eS.trans hs) (by omega)
  · have q := o6 (by decide)
    exact s_addPoint3 c hc T L mm ms es md r p hp o.1 hpr (by omega) (by omega) hms hle h e er ek
  · have q := o6 (by decide)
    exact s_addPoint4 c hc T L mm ms es md r p hp o.1 hpr (by omega) (by omega) hms hle h e er ek
  · have q := o6 (by decide)
    have hs : (if ((5 : Nat) : Int) = 3 then s + 1 else if ((5 : Nat) : Int) = 4 then s + 2 else s) = L := hs
    rw [if_neg (by decide), if_neg (by decide)] at hs
    exact s_addPoint5 c hc T L mm ms es md r p hp o.1 hpr (by omega) (by omega) hms hle h e er ek (eS.trans hs) (by omega)
theorem goA_sz {A : Type} {stop : A → Prop} {step : A → List Nat → List Nat → A} {sz : A → Nat} (hz : ∀ a r es, sz (step a r es) ≤ sz a + 1) : ∀ (xs : List rE) (a : A), sz (goA stop step a xs) ≤ sz a + xs.length
  | [], a => Nat.le_refl _
  | x :: xs, a => by
    show sz (if qB (stop a) = true then a else _) ≤ sz a + (xs.length + 1)
    split
    · omega
    · have h1 := goA_sz (stop := stop) hz xs (step a x.1 x.2)
      have h2 := hz a x.1 x.2
      omega
theorem rowAt_add {h : mMem} {r : List Nat} {p : Nat} (e : rowAt h r) : rowAt (mSet h 44 0 r.length p) (r ++ [p]) := by
  intro j hj
  rw [List.length_append] at hj
  have hj : j < r.length + 1 := hj
  by_cases hq : j = r.length
  · rw [hq, mSet_at, getD_app1]
  · rw [mSet_no (fun z => hq z.2.2), getD_app2 _ _ _ (by omega)]
    exact e j (by omega)
theorem rowAt_cut {h : mMem} {r : List Nat} {p : Nat} (e : rowAt h (r ++ [p])) : rowAt h r := by
  intro j hj
  rw [e j (by rw [List.length_append]; omega), getD_app2 _ _ _ hj]
theorem or_bit {u p : Nat} {r : List Nat} (hu : ∀ q, u.testBit q = true ↔ q ∈ r) : ∀ q, (u ||| 2 ^ p).testBit q = true ↔ q ∈ r ++ [p] := by
  intro q
  rw [Nat.testBit_or, Nat.testBit_two_pow, Bool.or_eq_true, hu q, List.mem_append, List.mem_singleton, decide_eq_true_eq]
  exact ⟨fun z => z.imp_right Eq.symm, fun z => z.imp_right Eq.symm⟩
theorem s_go {A : Type} (c : Nat) (hc : c < 3) (T : Nat → Int) (k L n mm : Nat) (s m0 : Int) (hk : kOk k L) (hs : lenOf k s = L) (hs0 : 0 ≤ s ∧ s ≤ 6) (hn : n ≤ 12) (hmm : mm ≤ 1)
    (Ctx : mMem → Prop) (Inv : A → mMem → Prop) (stop : A → Prop) (step : A → List Nat → List Nat → A) (sz : A → Nat) (B : Nat)
    (c1 : ∀ h, Ctx h → h 9 0 0 = n ∧ h 40 0 c = k ∧ h 41 0 c = s) (c2 : ∀ h h', farT h h' → Ctx h → Ctx h')
    (i1 : ∀ a h h', farR h h' → Inv a h → Inv a h') (i2 : ∀ a h, Inv a h → h 9 0 15 = mBc (stop a))
    (tk : ∀ a h r es, Ctx h → Inv a h → ¬ stop a → sz a < B → rOk k r es → r.length = L → sSt h T mm es (msN T c es) (msD T c m0 es) → rowAt h r → msN T c es ≤ mm → mCon l g n_M_take (d + 1) [.inr (9, 0), .inl r.length] h (fun v h' => v = none ∧ Inv (step a r es) h' ∧ farK h h'))
    (hz : ∀ a r es, sz (step a r es) ≤ sz a + 1) :
    ∀ (j : Nat) (r es : List Nat) (used : Nat) (h : mMem) (a : A), r.length + j = L → rOk k r es → used < 4096 → (∀ q, used.testBit q = true ↔ q ∈ r) → Ctx h → Inv a h → ¬ stop a → sSt h T mm es (msN T c es) (msD T c m0 es) → msN T c es ≤ mm → rowAt h r → sz a + (takesF T c mm k L n j r es).length ≤ B →
    mCon l g n_M_go (d + 3 + j) [.inr (9, 0), .inl c, .inl r.length, .inl used] h (fun v h' => v = none ∧ Inv (goA stop step a (takesF T c mm k L n j r es)) h' ∧ farT h h' ∧ sSt h' T mm es (msN T c es) (msD T c m0 es) ∧ rowAt h' r) := by
  have hL7 : L ≤ 7 := by rcases hk with h | h | h | h | h <;> omega
  intro j
  induction j with
  | zero =>
    intro r es used h a hL o hu hub Cx I ns S ms er hB
    show mCon l g n_M_go (d + 2 + 1) _ _ _
    rw [takesF_zero ms] at hB ⊢
    refine e_M_go (fun hv hm => ?_)
    refine mGo_wp h_M_go 120 [] ?_
    refine mCall_is (c_M_lengthOf c hc k s hs0 h (c1 h Cx).2.1 (c1 h Cx).2.2) ?_
    rw [hs]
    refine ⟨fun z => absurd (by omega) z, fun _ => ?_⟩
    refine mCall_on2 (mCon_lift (by omega) (tk a h r es Cx I ns (by have : ([(r, es)] : List rE).length = 1 := rfl; omega) o (by omega) S er ms)) ?_
    rintro v h' ⟨rfl, f1, f2⟩
    refine ⟨rfl, ?_, farT.ofK f2, ?_, fun q hq => ?_⟩
    · show Inv (if qB (stop a) = true then a else step a r es) h'
      rw [if_neg (qB_no ns)]
      exact f1
    · obtain ⟨a1, a2, a3, a4, a5, a6⟩ := S
      exact ⟨(f2 _ _ _ (by decide)).trans a1, fun q hq => (f2 _ _ _ (by omega)).trans (a2 q hq), (f2 _ _ _ (by decide)).trans a3, (f2 _ _ _ (by decide)).trans a4, (f2 _ _ _ (by decide)).trans a5, fun q hq => (f2 _ _ _ (by omega)).trans (a6 q hq)⟩
    · exact (f2 _ _ _ (by omega)).trans (er q hq)
  | succ j ih =>
    intro r es used h a hL o hu hub Cx I ns S ms er hB
    show mCon l g n_M_go (d + 3 + j + 1) _ _ _
    rw [takesF_succ] at hB ⊢
    have hes : es.length ≤ 18 := rOk_len hk o (by omega)
    have loop : ∀ (m p : Nat) (x5 x6 x7 : Option mRV) (h1 : mMem) (a1 : A), p + m = n → farT h h1 → Inv a1 h1 → sSt h1 T mm es (msN T c es) (msD T c m0 es) → rowAt h1 r → sz a1 + (takesP T c mm k L n j r es p m).length ≤ B → goA stop step a1 (takesP T c mm k L n j r es p m) = goA stop step a (takesP T c mm k L n j r es 0 n) →
        mGo l g (mMt n_M_go) (d + 3 + j + 1) 18 [some (.inr (9, 0)), some (.inl c), some (.inl r.length), some (.inl used), some (.inl p), x5, x6, x7] [] h1 (fun v h' => v = none ∧ Inv (goA stop step a (takesP T c mm k L n j r es 0 n)) h' ∧ farT h h' ∧ sSt h' T mm es (msN T c es) (msD T c m0 es) ∧ rowAt h' r) := by
      intro m
      induction m with
      | zero =>
        intro p x5 x6 x7 h1 a1 hp f I1 S1 er1 hB1 hA
        refine mGo_wp h_M_go 120 [18] ?_
        have cn := (c1 h1 (c2 h h1 f Cx)).1
        refine ⟨fun _ => ⟨rfl, ?_, f, S1, er1⟩, fun z => by rw [cn] at z; omega⟩
        rw [← hA]
        exact I1
      | succ m ihm =>
        intro p x5 x6 x7 h1 a1 hp f I1 S1 er1 hB1 hA
        have Cx1 := c2 h h1 f Cx
        obtain ⟨cn, ck, cs⟩ := c1 h1 Cx1
        refine mGo_wp h_M_go 120 [18, 94] ?_
        have hbit := bit_at used p hu (by omega)
        refine ⟨fun z => by rw [cn] at z; omega, fun _ => ⟨fun z => ⟨rfl, ?_, f, S1, er1⟩, fun z => ⟨fun y => ?_, fun y => ?_⟩⟩⟩
        · rw [i2 a1 h1 I1] at z
          rw [← hA, goA_stop (mBc_ne0.mp z)]
          exact I1
        · rw [hbit] at y
          have hpr : p ∈ r := by
            by_cases hb : used.testBit p = true
            · exact (hub p).mp hb
            · rw [if_neg hb] at y; exact absurd rfl y
          rw [takesP_no (fun z => z.1 hpr)] at hB1 hA
          show mGo l g _ _ 18 [_, _, _, _, some (.inl (mWr ((p : Int) + 1))), _, _, _] [] h1 _
          rw [mWr_of ⟨by omega, by omega⟩]
          exact ihm (p + 1) x5 x6 x7 h1 a1 (by omega) f I1 S1 er1 hB1 hA
        · rw [hbit] at y
          have hpr : p ∉ r := fun w => by
            rw [if_pos ((hub p).mpr w)] at y
            exact absurd y (by decide)
          have ns1 : ¬ stop a1 := by
            rw [i2 a1 h1 I1] at z
            exact mBc_eq0.mp z
          have tail : ∀ (h2 : mMem) (a2 : A) (v9 v10 v11 : Int), v9 = es.length → v10 = msN T c es → v11 = msD T c m0 es → farT h h2 → Inv a2 h2 → (∀ q, q < es.length → h2 45 0 q = es.getD q 0) → h2 9 0 12 = mm → (∀ q, q < 66 → h2 42 0 q = T q) → rowAt h2 r → sz a2 + (takesP T c mm k L n j r es (p + 1) m).length ≤ B → goA stop step a2 (takesP T c mm k L n j r es (p + 1) m) = goA stop step a (takesP T c mm k L n j r es 0 n) →
              mGo l g (mMt n_M_go) (d + 3 + j + 1) 94 [some (.inr (9, 0)), some (.inl c), some (.inl r.length), some (.inl used), some (.inl p), some (.inl v9), some (.inl v10), some (.inl v11)] [] h2 (fun v h' => v = none ∧ Inv (goA stop step a (takesP T c mm k L n j r es 0 n)) h' ∧ farT h h' ∧ sSt h' T mm es (msN T c es) (msD T c m0 es) ∧ rowAt h' r) := by
            intro h2 a2 v9 v10 v11 e9 e10 e11 f2 I2 s45 s12 s42 er2 hB2 hA2
            refine mGo_wp h_M_go 120 [18] ?_
            show mGo l g _ _ 18 [_, _, _, _, some (.inl (mWr ((p : Int) + 1))), _, _, _] [] (mSet (mSet (mSet h2 9 0 9 v9) 9 0 10 v10) 9 0 11 v11) _
            rw [mWr_of ⟨by omega, by omega⟩]
            have fr : farR h2 (mSet (mSet (mSet h2 9 0 9 v9) 9 0 10 v10) 9 0 11 v11) := fun t i q hq => by
              rw [mSet_no (fun w => hq (by omega)), mSet_no (fun w => hq (by omega)), mSet_no (fun w => hq (by omega))]
            refine ihm (p + 1) _ _ _ _ a2 (by omega) (f2.tr (farT.ofR fr)) (i1 a2 _ _ fr I2) ⟨?_, fun q hq => ?_, ?_, ?_, ?_, fun q hq => ?_⟩ (fun q hq => ?_) hB2 hA2
            · rw [mSet_no (by simp), mSet_no (by simp), mSet_at, e9]
            · rw [mSet_no (by simp), mSet_no (by simp), mSet_no (by simp), s45 q hq]
            · rw [mSet_no (by simp), mSet_at, e10]
            · rw [mSet_at, e11]
            · rw [mSet_no (by simp), mSet_no (by simp), mSet_no (by simp), s12]
            · rw [mSet_no (by simp), mSet_no (by simp), mSet_no (by simp), s42 q hq]
            · rw [mSet_no (by simp), mSet_no (by simp), mSet_no (by simp), er2 q hq]
          refine mCall_on2 (mCon_lift (by omega) (s_addPoint (d := d) c hc T k L s hk hs mm (msN T c es) es (msD T c m0 es) r p (by omega) o hpr (by omega) (by omega) ms h1 S1 er1 ck cs)) ?_
          rintro v h2 ⟨rfl, f2, f3⟩
          obtain ⟨a1', a2', a3', a4', a5', a6'⟩ := id S1
          have fR := farR.ofE f2
          refine ⟨fun y2 => ?_, fun y2 => ⟨⟨by omega, by omega⟩, ?_⟩⟩
          · have no := mBc_eq0.mp y2
            rw [takesP_no (fun w => no w.2)] at hB1 hA
            refine tail h2 a1 _ _ _ a1' a3' a4' (f.tr (farT.ofR fR)) (i1 a1 _ _ fR I1) (fun q hq => ?_) ((f2 _ _ _ (by simp)).trans a5') (fun q hq => (f2 _ _ _ (by simp)).trans (a6' q hq)) (fun q hq => (f2 _ _ _ (by simp)).trans (er1 q hq)) hB1 hA
            rw [f2 _ _ _ (by rw [a1']; simp; omega)]
            exact a2' q hq
          · have ok := mBc_ne0.mp y2
            rw [takesP_yes ⟨hpr, ok⟩] at hB1 hA
            rw [List.length_append] at hB1
            rw [goA_app] at hA
            have S2 := f3 ok
            rw [← msN_app, ← msD_app] at S2
            have o2 := rOk_add hk o (show p < 12 by omega) hpr
            have hp2 : 2 ^ p < 2 ^ 12 := Nat.pow_lt_pow_right (by decide) (show p < 12 by omega)
            have fr3 : farR h2 (mSet h2 44 0 r.length (p : Int)) := fun t i q hq => by
              rw [mSet_no (fun w => hq (by omega))]
            have q := ih (r ++ [p]) (es ++ newE k L r p) (used ||| 2 ^ p) (mSet h2 44 0 r.length (p : Int)) a1 (by rw [List.length_append]; show r.length + 1 + j = L; omega) o2 (Nat.or_lt_two_pow (n := 12) hu hp2) (or_bit hub) (c2 _ _ (f.tr ((farT.ofR fR).tr (farT.ofR fr3))) Cx) (i1 _ _ _ fr3 (i1 _ _ _ fR I1)) ns1 (by
              obtain ⟨b1, b2, b3, b4, b5, b6⟩ := S2
              exact ⟨(mSet_no (by simp)).trans b1, fun q hq => (mSet_no (by simp)).trans (b2 q hq), (mSet_no (by simp)).trans b3, (mSet_no (by simp)).trans b4, (mSet_no (by simp)).trans b5, fun q hq => (mSet_no (by simp)).trans (b6 q hq)⟩) (by rw [msN_app]; exact ok.2) (rowAt_add (fun q hq => (f2 _ _ _ (by simp)).trans (er1 q hq))) (by omega)
            have w1 : mWr ((r.length : Int) + 1) = (((r ++ [p]).length : Nat) : Int) := by
              rw [mWr_of ⟨by omega, by omega⟩, List.length_append]
              rfl
            have w2 : mOr (used : Int) (mShl 1 (p : Int)) = ((used ||| 2 ^ p : Nat) : Int) := by
              rw [mShl_1 _ (by omega), mOr_nat (by omega) (by omega)]
            rw [← w1, ← w2] at q
            refine mCall_on2 q ?_
            rintro v h4 ⟨rfl, g1, g2, ⟨b1, b2, b3, b4, b5, b6⟩, g4⟩
            refine tail h4 _ _ _ _ a1' a3' a4' (f.tr ((farT.ofR fR).tr ((farT.ofR fr3).tr g2))) g1 (fun q hq => ?_) b5 b6 (rowAt_cut g4) ?_ hA
            · have w := b2 q (by rw [List.length_append]; omega)
              rw [w, List.getD_eq_getElem?_getD, List.getElem?_append_left hq, ← List.getD_eq_getElem?_getD]
            · have := goA_sz (stop := stop) hz (takesF T c mm k L n j (r ++ [p]) (es ++ newE k L r p)) a1
              omega
    refine e_M_go (fun hv hm => ?_)
    refine mGo_wp h_M_go 120 [18] ?_
    refine mCall_is (c_M_lengthOf c hc k s hs0 h (c1 h Cx).2.1 (c1 h Cx).2.2) ?_
    rw [hs]
    refine ⟨fun _ => ?_, fun z => absurd z (by omega)⟩
    exact loop n 0 _ _ _ h a (by omega) farT.rf I S er hB rfl
end Go
