/-! the model's walks and step -/
theorem thrK_zero {N : nN} {T : Nat → Int} {c e : Nat} (h : T e ≠ c) : thrK N T c e = 0 := by
  unfold thrK
  split
  · rfl
  · unfold thr
    rw [wS_congr (w' := fun _ => 0) (fun x hx => ?_)]
    · have gen : ∀ xs : List rE, wS (fun _ => 0) xs = 0 := by
        intro xs
        induction xs with
        | nil => rfl
        | cons x xs ih => show 0 + wS (fun _ => 0) xs = 0; rw [ih]
      exact gen _
    · refine iq_f (fun z => h ?_) 1
      have := (List.mem_filter.mp hx).2
      simp only [decide_eq_true_eq] at this
      exact msN0.mp (by omega) e z
theorem thr_sum {N : nN} {k : Nat} (h : 0 ≤ nT N k ∧ nT N k < nC N) : sm (fun c => thrK N (nT N) c k) (nC N) = thrN N k := by
  obtain ⟨c0, hc⟩ : ∃ c0 : Nat, nT N k = (c0 : Int) := ⟨(nT N k).toNat, by omega⟩
  unfold thrN
  rw [if_neg (by omega), hc, Int.toNat_natCast]
  rw [sm_congr (g := fun c => iq (c = c0) (thrK N (nT N) c k)) (nC N) (fun c _ => ?_), sm_pick (fun c => thrK N (nT N) c k) (nC N) (by omega)]
  by_cases z : c = c0
  · rw [iq_t z]
  · rw [iq_f z]
    exact thrK_zero (by rw [hc]; omega)
noncomputable def gaN (N : nN) (c k : Nat) : Nat := wS (fun x => iq (msN (nT N) c x.2 = 1 ∧ (msD (nT N) c 0 x.2).toNat = k) 1) (cpL N c 1)
theorem gaN_le {N : nN} (o : nOk N) {c : Nat} (hc : c < 3) (k : Nat) : gaN N c k ≤ 35831808 := Nat.le_trans (wS_le (fun x => iq_le _ _) _) (cpL_len o.1.2 (o.2.2.1 c hc) 1)
theorem gn_of {N : nN} (o : nOk N) {k c : Nat} (hc : c < nC N) (h : nT N k ≠ c) : (thrN N k : Int) - (gaN N c k : Int) = gnN N k c := by
  have hC := o.2.1.2
  unfold gnN gaN
  rw [cp_gained o (by omega) k h]
  have : thrN (setN N k c) k = thrK N (tSet (nT N) k c) c k := by
    have e1 : nT (setN N k c) k = (c : Int) := if_pos rfl
    unfold thrN
    rw [e1, if_neg (by omega), Int.toNat_natCast]
    rfl
  rw [this]
theorem gn_self {N : nN} {k c : Nat} (h : nT N k = c) : gnN N k c = 0 := by
  unfold gnN setN
  rw [tSet_self h]
  exact Int.sub_self _
theorem isM_tone {h : mMem} {N : nN} (e : isM h N) (k : Nat) (v : Int) : isM (mSet h 42 0 k v) (setN N k v) := by
  refine ⟨(mSet_no (by simp)).trans e.1, (mSet_no (by simp)).trans e.2.1, fun q hq => (mSet_no (by simp)).trans (e.2.2.1 q hq), fun q hq => (mSet_no (by simp)).trans (e.2.2.2.1 q hq), fun q hq => ?_⟩
  show (if 42 = 42 ∧ (0 : Fin 8) = 0 ∧ q = k then v else h 42 0 q) = (if q = k then v else nT N q)
  by_cases hq2 : q = k
  · rw [if_pos ⟨rfl, rfl, hq2⟩, if_pos hq2]
  · rw [if_neg (fun w => hq2 w.2.2), if_neg hq2]
    exact e.2.2.2.2 q hq
section MStep
variable {l : Launch} {g : mG} {d : Nat}
def bsM (b bj bt : Int) (st : Int × Nat × Nat) : Prop := b = st.1 ∧ (st.1 = 0 → bj = -1) ∧ (st.1 ≠ 0 → bj = (st.2.1 : Nat) ∧ bt = (st.2.2 : Nat))
def farV (h h' : mMem) : Prop := ∀ (t : Nat) (i : Fin 8) (k : Nat), ¬ ((44 ≤ t ∧ t ≤ 48) ∨ t = 56 ∨ (t = 9 ∧ ((9 ≤ k ∧ k ≤ 15) ∨ k = 17))) → h' t i k = h t i k
theorem farV.rf {h : mMem} : farV h h := fun _ _ _ _ => rfl
theorem farV.tr {h h1 h2 : mMem} (a : farV h h1) (b : farV h1 h2) : farV h h2 := fun t j k z => (b t j k z).trans (a t j k z)
theorem farV.ofX {h h1 : mMem} (a : farX h h1) : farV h h1 := fun t j k z => a t j k (fun y => z (by omega))
theorem isM_farV {h h' : mMem} {N : nN} (e : isM h N) (f : farV h h') : isM h' N :=
  ⟨(f _ _ _ (by decide)).trans e.1, (f _ _ _ (by decide)).trans e.2.1, fun k hk => (f _ _ _ (by omega)).trans (e.2.2.1 k hk), fun k hk => (f _ _ _ (by omega)).trans (e.2.2.2.1 k hk), fun k hk => (f _ _ _ (by omega)).trans (e.2.2.2.2 k hk)⟩
theorem chgM.ofV {h h1 : mMem} (a : farV h h1) : chgM h h1 := fun t i k z => a t i k (fun y => z (by omega))
abbrev wkK (h : mMem) (N : nN) : Option mRV → mMem → Prop := fun v h' => v = some (.inl (mBc ((bsN N).1 ≠ 0))) ∧ chgM h h' ∧ isM h' (if (bsN N).1 = 0 then N else setN N (bsN N).2.1 (bsN N).2.2)
theorem l_walks3 (N : nN) (o : nOk N) (hw : ∀ k, k < js (nP N) → 0 ≤ nT N k) (h h0 : mMem) (f0 : farV h h0) (e : isM h0 N) (eF : ∀ k, k < js (nP N) → h0 47 0 k = (thrN N k : Nat)) (eG : ∀ c, c < nC N → ∀ k, k < js (nP N) → h0 56 0 (66 * c + k) = (gaN N c k : Nat)) :
    ∀ (m k : Nat) (b bj bt : Int) (x5 x6 : Option mRV), k + m = js (nP N) → bsM b bj bt (bsK N k) → mGo l g (mMt n_M_walks) (d + 12) 104 [some (.inr (9, 0)), some (.inl b), some (.inl bj), some (.inl bt), some (.inl k), x5, x6] [] h0 (wkK h N) := by
  have hn := o.1.2
  have hC := o.2.1
  have hj := js_le (nP N) (by omega)
  intro m
  induction m with
  | zero =>
    intro k b bj bt x5 x6 hk hb
    refine mGo_wp h_M_walks 160 [104] ?_
    have e1 := e.1
    refine mCall_is (show mCon l g n_M_joinsOf (d + 11) [.inl (h0 9 0 0)] h0 _ from e1 ▸ c_M_joinsOf (nP N) (by omega) h0) ?_
    have hkk : k = js (nP N) := by omega
    rw [hkk] at hb
    obtain ⟨b1, b2, b3⟩ := hb
    have bI := bsK_ok o (js (nP N)) (Nat.le_refl _)
    refine ⟨fun _ => ⟨fun z => ?_, fun z => ⟨Or.inl rfl, ?_⟩⟩, fun z => by omega⟩
    · have hne : (bsN N).1 ≠ 0 := fun w => by have := b2 w; omega
      obtain ⟨q1, q2⟩ := b3 hne
      have bb := bI.2 hne
      refine ⟨⟨by omega, by omega⟩, Or.inr rfl, ?_, ?_, ?_⟩
      · rw [mBc_t hne]
      · exact (chgM.ofV f0).tr (fun t i q w => mSet_no (fun x => w (by omega)))
      · rw [if_neg hne]
        have q1 : bj = ((bsN N).2.1 : Nat) := q1
        have q2 : bt = ((bsN N).2.2 : Nat) := q2
        show isM (mSet h0 42 0 (Int.toNat bj) bt) _
        rw [q1, q2, Int.toNat_natCast]
        exact isM_tone e _ _
    · have h0' : (bsN N).1 = 0 := by
        by_cases w : (bsN N).1 = 0
        · exact w
        · have := (b3 w).1; omega
      refine ⟨by rw [mBc_f (fun w => w h0')], chgM.ofV f0, ?_⟩
      rw [if_pos h0']
      exact e
  | succ m ih =>
    intro k b bj bt x5 x6 hk hb
    have hk66 : k < 66 := by omega
    have htk := o.2.2.2.1 k hk66
    have bI := bsK_ok o k (by omega)
    have inner : ∀ (m2 c : Nat) (b bj bt : Int) (x6 : Option mRV), c + m2 = nC N → bsM b bj bt (bsC N k (bsK N k) c) → mGo l g (mMt n_M_walks) (d + 12) 119 [some (.inr (9, 0)), some (.inl b), some (.inl bj), some (.inl bt), some (.inl k), some (.inl c), x6] [] h0 (wkK h N) := by
      intro m2
      induction m2 with
      | zero =>
        intro c b bj bt x6 hc hb
        refine mGo_wp h_M_walks 160 [104] ?_
        refine ⟨fun _ => ?_, fun z => by rw [e.2.1] at z; omega⟩
        show mGo l g _ _ 104 [_, _, _, _, some (.inl (mWr ((k : Int) + 1))), _, _] [] h0 _
        rw [mWr_of ⟨by omega, by omega⟩]
        rw [show c = nC N by omega] at hb
        exact ih (k + 1) b bj bt _ _ (by omega) hb
      | succ m2 ih2 =>
        intro c b bj bt x6 hc hb
        refine mGo_wp h_M_walks 160 [119] ?_
        have gl := gaN_le o (show c < 3 by omega) k
        have tl := thrN_le o hk66
        have bI2 := bsC_ok o bI (show k < js (nP N) by omega) c (by omega)
        have wi : mWr (mWr (66 * (c : Int)) + (k : Int)) = ((66 * c + k : Nat) : Int) := by
          rw [mWr_of (x := 66 * (c : Int)) ⟨by omega, by omega⟩, mWr_of ⟨by omega, by omega⟩]
          omega
        have r1 : h0 47 0 (Int.toNat (k : Int)) = (thrN N k : Nat) := by rw [Int.toNat_natCast, eF k (by omega)]
        have r2 : h0 56 0 (Int.toNat (mWr (mWr (66 * (c : Int)) + (k : Int)))) = (gaN N c k : Nat) := by rw [wi, Int.toNat_natCast, eG c (by omega) k (by omega)]
        have r3 : h0 42 0 (Int.toNat (k : Int)) = nT N k := by rw [Int.toNat_natCast, e.2.2.2.2 k hk66]
        have w6 : mWr (h0 47 0 (Int.toNat (k : Int)) - h0 56 0 (Int.toNat (mWr (mWr (66 * (c : Int)) + (k : Int))))) = (thrN N k : Int) - (gaN N c k : Int) := by
          rw [r1, r2, mWr_of ⟨by omega, by omega⟩]
        have nxt : ∀ (b bj bt v6 : Int), bsM b bj bt (bsC N k (bsK N k) (c + 1)) → mGo l g (mMt n_M_walks) (d + 12) 119 [some (.inr (9, 0)), some (.inl b), some (.inl bj), some (.inl bt), some (.inl k), some (.inl (mWr ((c : Int) + 1))), some (.inl v6)] [] h0 (wkK h N) := by
          intro b bj bt v6 hb
          rw [mWr_of ⟨by omega, by omega⟩]
          exact ih2 (c + 1) b bj bt _ (by omega) hb
        refine ⟨fun z => by rw [e.2.1] at z; omega, fun _ => ⟨⟨by omega, by omega⟩, ⟨by rw [wi]; omega, by rw [wi]; omega⟩, ⟨by omega, by omega⟩, ⟨fun z => ?_, fun z => ⟨fun z2 => ?_, fun z2 => ?_⟩⟩⟩⟩
        · rw [r3] at z
          refine nxt b bj bt _ ?_
          show bsM b bj bt (bsU _ _ _ _)
          unfold bsU
          rw [gn_self z.symm, if_neg (by have := bI2.1; omega)]
          exact hb
        · rw [r3] at z
          rw [w6, gn_of o (by omega) (fun w => z w.symm), hb.1] at z2
          refine nxt b bj bt _ ?_
          show bsM b bj bt (bsU _ _ _ _)
          unfold bsU
          rw [if_neg (by omega)]
          exact hb
        · rw [r3] at z
          rw [w6, gn_of o (by omega) (fun w => z w.symm), hb.1] at z2
          refine nxt _ _ _ _ ?_
          show bsM _ _ _ (bsU _ _ _ _)
          unfold bsU
          rw [if_pos z2]
          have := bI2.1
          refine ⟨by rw [w6, gn_of o (by omega) (fun w => z w.symm)], fun w => ?_, fun _ => ⟨rfl, rfl⟩⟩
          have w : gnN N k c = 0 := w
          omega
    refine mGo_wp h_M_walks 160 [119] ?_
    have e1 := e.1
    refine mCall_is (show mCon l g n_M_joinsOf (d + 11) [.inl (h0 9 0 0)] h0 _ from e1 ▸ c_M_joinsOf (nP N) (by omega) h0) ?_
    refine ⟨fun z => by omega, fun _ => ?_⟩
    exact inner (nC N) 0 b bj bt x6 (by omega) hb
theorem l_walks2 (N : nN) (o : nOk N) (hw : ∀ k, k < js (nP N) → 0 ≤ nT N k) (h : mMem) : ∀ (m c : Nat) (x5 x6 : Option mRV) (h1 : mMem), c + m = nC N → farV h h1 → isM h1 N → (∀ k, k < 66 → h1 47 0 k = (sm (fun c => thrK N (nT N) c k) c : Nat)) → (∀ c', c' < c → ∀ k, k < js (nP N) → h1 56 0 (66 * c' + k) = (gaN N c' k : Nat)) →
    mGo l g (mMt n_M_walks) (d + 12) 33 [some (.inr (9, 0)), some (.inl 0), some (.inl (-1)), some (.inl (-1)), some (.inl c), x5, x6] [] h1 (wkK h N) := by
  have hn := o.1.2
  have hC := o.2.1
  have hj := js_le (nP N) (by omega)
  intro m
  induction m with
  | zero =>
    intro c x5 x6 h1 hc f1 e1 eF eG
    refine mGo_wp h_M_walks 160 [104] ?_
    refine ⟨fun _ => ?_, fun z => by rw [e1.2.1] at z; omega⟩
    have hcc : c = nC N := by omega
    rw [hcc] at eF eG
    refine l_walks3 N o hw h h1 f1 e1 (fun k hk => ?_) eG (js (nP N)) 0 0 (-1) (-1) _ _ (by omega) ⟨rfl, fun _ => rfl, fun z => absurd rfl z⟩
    have ht := o.2.2.2.1 k (by omega)
    rw [eF k (by omega), thr_sum ⟨hw k hk, ht.2⟩]
  | succ m ih =>
    intro c x5 x6 h1 hc f1 e1 eF eG
    refine mGo_wp h_M_walks 160 [57] ?_
    refine ⟨fun z => by rw [e1.2.1] at z; omega, fun _ => ?_⟩
    refine mCall_is (mCon_lift (by omega) (c_M_clearGained (d := d) h1)) ?_
    have f2 : farX h1 (mSeg h1 48 0 0 66 (fun _ => 0)) := fun t i k z => mSeg_ne (by omega)
    have e2 := isM_farX e1 f2
    have bF : ∀ k, sm (fun c => thrK N (nT N) c k) c ≤ 107495424 := fun k => by
      have := sm_le (f := fun c => thrK N (nT N) c k) (B := 35831808) c (fun c' hc' => thrK_le o (by omega) _ _)
      have h3 : c * 35831808 ≤ 3 * 35831808 := Nat.mul_le_mul_right _ (by omega)
      omega
    refine mCall_on2 (look2 c N o (by omega) (mSeg h1 48 0 0 66 (fun _ => 0)) e2 (fun _ => 0) (fun k => (sm (fun c => thrK N (nT N) c k) c : Nat)) 107495424 (by omega) (fun k => ⟨Int.le_refl 0, by decide⟩) (fun k => by have := bF k; exact ⟨by omega, by omega⟩) (fun k hk => mSeg_in0 hk) (fun k hk => (mSeg_ne (by decide)).trans (eF k hk))) ?_
    rintro v h3 ⟨rfl, a1, a2, f3⟩
    have e3 := isM_farX e2 f3
    have f13 : farV h1 h3 := (farV.ofX f2).tr (farV.ofX f3)
    have g56 : ∀ q, h3 56 0 q = h1 56 0 q := fun q => (f3 _ _ _ (by omega)).trans (f2 _ _ _ (by omega))
    have ga : ∀ k, k < 66 → h3 48 0 k = (gaN N c k : Nat) := fun k hk => by
      have := a1 k hk
      rw [this]
      show 0 + _ = _
      rw [Int.zero_add]
      rfl
    have inner : ∀ (m2 k : Nat), k + m2 = js (nP N) → mGo l g (mMt n_M_walks) (d + 12) 57 [some (.inr (9, 0)), some (.inl 0), some (.inl (-1)), some (.inl (-1)), some (.inl c), some (.inl k), x6] [] (mSeg h3 56 0 (66 * c) k (fun q => (gaN N c q : Nat))) (wkK h N) := by
      intro m2
      induction m2 with
      | zero =>
        intro k hk
        refine mGo_wp h_M_walks 160 [33] ?_
        have r0 : mSeg h3 56 0 (66 * c) k (fun q => ((gaN N c q : Nat) : Int)) 9 0 0 = (nP N : Nat) := (mSeg_ne (by decide)).trans e3.1
        refine mCall_is (show mCon l g n_M_joinsOf (d + 11) [.inl (mSeg h3 56 0 (66 * c) k (fun q => ((gaN N c q : Nat) : Int)) 9 0 0)] _ _ from r0 ▸ c_M_joinsOf (nP N) (by omega) _) ?_
        refine ⟨fun _ => ?_, fun z => by omega⟩
        show mGo l g _ _ 33 [_, _, _, _, some (.inl (mWr ((c : Int) + 1))), _, _] [] _ _
        rw [mWr_of ⟨by omega, by omega⟩]
        have f4 : farV h3 (mSeg h3 56 0 (66 * c) k (fun q => ((gaN N c q : Nat) : Int))) := fun t i q z => mSeg_ne (by omega)
        refine ih (c + 1) _ _ _ (by omega) (f1.tr (f13.tr f4)) (isM_farV e3 f4) (fun q hq => ?_) (fun c' hc' q hq => ?_)
        · rw [mSeg_ne (by decide), a2 q hq, cp_through o (by omega) q]
          rfl
        · by_cases hcc : c' = c
          · subst hcc
            rw [mSeg_in (by omega)]
          · rw [mSeg_out (by omega), g56]
            exact eG c' (by omega) q hq
      | succ m2 ih2 =>
        intro k hk
        refine mGo_wp h_M_walks 160 [57] ?_
        have r0 : mSeg h3 56 0 (66 * c) k (fun q => ((gaN N c q : Nat) : Int)) 9 0 0 = (nP N : Nat) := (mSeg_ne (by decide)).trans e3.1
        refine mCall_is (show mCon l g n_M_joinsOf (d + 11) [.inl (mSeg h3 56 0 (66 * c) k (fun q => ((gaN N c q : Nat) : Int)) 9 0 0)] _ _ from r0 ▸ c_M_joinsOf (nP N) (by omega) _) ?_
        have wi : mWr (mWr (66 * (c : Int)) + (k : Int)) = ((66 * c + k : Nat) : Int) := by
          rw [mWr_of (x := 66 * (c : Int)) ⟨by omega, by omega⟩, mWr_of ⟨by omega, by omega⟩]
          omega
        refine ⟨fun z => by omega, fun _ => ⟨⟨by omega, by omega⟩, ⟨by rw [wi]; omega, by rw [wi]; omega⟩, ?_⟩⟩
        have q := ih2 (k + 1) (by omega)
        rw [← mSeg_succ] at q
        show mGo l g _ _ 57 [_, _, _, _, _, some (.inl (mWr ((k : Int) + 1))), _] [] (mSet (mSeg h3 56 0 (66 * c) k (fun q => ((gaN N c q : Nat) : Int))) 56 0 (Int.toNat (mWr (mWr (66 * (c : Int)) + (k : Int)))) (mSeg h3 56 0 (66 * c) k (fun q => ((gaN N c q : Nat) : Int)) 48 0 (Int.toNat (k : Int)))) _
        rw [wi, Int.toNat_natCast, Int.toNat_natCast, mSeg_ne (t' := 48) (by decide), ga k (by omega), mWr_of ⟨by omega, by omega⟩]
        exact q
    have q := inner (js (nP N)) 0 (by omega)
    rw [mSeg_zero] at q
    exact q
theorem c_M_walks (N : nN) (o : nOk N) (hw : ∀ k, k < js (nP N) → 0 ≤ nT N k) (h : mMem) (e : isM h N) : mCon l g n_M_walks (d + 12) [.inr (9, 0)] h (wkK h N) := by
  have loop : ∀ (m k : Nat) (x5 x6 : Option mRV), k + m = 66 → mGo l g (mMt n_M_walks) (d + 12) 9 [some (.inr (9, 0)), some (.inl 0), some (.inl (-1)), some (.inl (-1)), some (.inl k), x5, x6] [] (mSeg h 47 0 0 k (fun _ => 0)) (wkK h N) := by
    intro m
    induction m with
    | zero =>
      intro k x5 x6 hk
      refine mGo_wp h_M_walks 160 [33] ?_
      refine ⟨fun _ => ?_, fun z => by omega⟩
      have hk66 : k = 66 := by omega
      subst hk66
      have f1 : farV h (mSeg h 47 0 0 66 (fun _ => 0)) := fun t i q z => mSeg_ne (by omega)
      exact l_walks2 N o hw h (nC N) 0 _ _ _ (by omega) f1 (isM_farV e f1) (fun k hk => mSeg_in0 hk) (fun c' hc' => absurd hc' (Nat.not_lt_zero c'))
    | succ m ih =>
      intro k x5 x6 hk
      refine mGo_wp h_M_walks 160 [9] ?_
      refine ⟨fun z => by omega, fun _ => ⟨⟨by omega, by omega⟩, ?_⟩⟩
      have q := ih (k + 1) x5 x6 (by omega)
      rw [← mSeg_succ, Nat.zero_add] at q
      show mGo l g _ _ 9 [_, _, _, _, some (.inl (mWr ((k : Int) + 1))), _, _] [] (mSet _ 47 0 (Int.toNat (k : Int)) 0) _
      rw [mWr_of ⟨by omega, by omega⟩, Int.toNat_natCast]
      exact q
  refine e_M_walks (fun hv hm => ?_)
  refine mGo_wp h_M_walks 160 [9] ?_
  have q := loop 66 0 none none (by omega)
  rw [mSeg_zero] at q
  exact q
theorem cn_pos {f : Nat → Bool} : ∀ n, cn f n = 0 → ∀ k, k < n → f k = false
  | n + 1, h, k, hk => by
    have h : cn f n + (if f n = true then 1 else 0) = 0 := h
    by_cases z : k = n
    · subst z
      cases hf : f k with
      | false => rfl
      | true => rw [hf, if_pos rfl] at h; omega
    · exact cn_pos n (by omega) k (by omega)
theorem whole_of {N : nN} (o : nOk N) (h : nBare N = 0) : ∀ k, k < js (nP N) → 0 ≤ nT N k := fun k hk => by
  have h1 := cn_pos _ h k hk
  have h2 := o.2.2.2.1 k (by have := js_le (nP N) (by have := o.1.2; omega); omega)
  have h3 : ¬ (nT N k = -1) := of_decide_eq_false h1
  omega
theorem l_M_step (most : Nat) (hm30 : most ≤ 30) (S0 : sS) : ∀ (m s : Nat) (N : nN) (h h1 : mMem), s + m = most → nOk N → (∀ k, k < js (nP N) → 0 ≤ nT N k) → isM h1 N → chgM h h1 → mGo l g (mMt n_M_step) (d + 13) 29 [some (.inr (9, 0)), some (.inl most), some (.inl s)] [] h1 (fun v h' => v = some (.inl (s + (wkF m N).1 : Nat)) ∧ isM h' (wkF m N).2 ∧ chgM h h') := by
  intro m
  induction m with
  | zero =>
    intro s N h h1 hs o hw e f
    refine mGo_wp h_M_step 60 [29] ?_
    exact ⟨fun _ => ⟨rfl, e, f⟩, fun z => by omega⟩
  | succ m ih =>
    intro s N h h1 hs o hw e f
    refine mGo_wp h_M_step 60 [29] ?_
    refine ⟨fun z => by omega, fun _ => ?_⟩
    refine mCall_on2 (c_M_walks N o hw h1 e) ?_
    rintro v h2 ⟨rfl, f2, e2⟩
    unfold wkF
    have bI := bsK_ok o (js (nP N)) (Nat.le_refl _)
    refine ⟨fun z => ?_, fun z => ?_⟩
    · have z0 : (bsN N).1 = 0 := Classical.not_not.mp (mBc_eq0.mp z)
      rw [if_pos z0] at e2 ⊢
      exact ⟨rfl, e2, f.tr f2⟩
    · have z0 := mBc_ne0.mp z
      rw [if_neg z0] at e2 ⊢
      have bb := bI.2 z0
      have q := ih (s + 1) _ h h2 (by omega) (nOk_step o z0) (fun k hk => by
        show 0 ≤ (if k = (bsN N).2.1 then ((bsN N).2.2 : Int) else nT N k)
        split
        · omega
        · exact hw k hk) e2 (f.tr f2)
      show mGo l g _ _ 29 [_, _, some (.inl (mWr ((s : Int) + 1)))] [] h2 _
      rw [mWr_of ⟨by omega, by omega⟩]
      refine mGo_mono q ?_
      rintro v h3 ⟨rfl, e3, f3⟩
      refine ⟨?_, e3, f3⟩
      dsimp only
      rw [show s + 1 + (wkF m (setN N (bsN N).2.1 (bsN N).2.2)).1 = s + ((wkF m (setN N (bsN N).2.1 (bsN N).2.2)).1 + 1) by omega]
theorem s_M_step (n : Int) (h : mMem) (S : sS) (o : sOk S) (e : RM h S) : mCon l g n_M_step (d + 13) [.inr (9, 0), .inl n] h (fun r h' => r = some (.inl (spStep S n).1) ∧ RM h' (spStep S n).2 ∧ onlyM h h') := by
  refine e_M_step (fun hv hm => ?_)
  refine mGo_wp h_M_step 60 [29] ?_
  unfold spStep
  refine mCall_is (c_M_isIn n 1 30 h) ?_
  refine ⟨fun z => ?_, fun z => ?_⟩
  · have z := mB_ne0.mp z
    rw [if_pos z]
    obtain ⟨m, rfl⟩ := Int.eq_ofNat_of_zero_le (show 0 ≤ n by omega)
    rw [Int.toNat_natCast]
    refine mCall_is (mCon_lift (by omega) (c_M_bare (d := d) S.1 h o.1 e.1)) ?_
    refine ⟨fun y => ?_, fun y => ?_⟩
    · have hb : nBare S.1 = 0 := by omega
      rw [if_pos hb]
      refine mCall_on2 (mCon_lift (by omega) (s_keep (d := d) h S o e)) ?_
      rintro r1 h1 ⟨rfl, e1, q1, -⟩
      refine mGo_mono (l_M_step m (by omega) S m 0 S.1 h1 h1 (by omega) o.1 (whole_of o.1 hb) e1.1 chgM.rf) ?_
      rintro v h2 ⟨rfl, e2, f2⟩
      rw [Nat.zero_add]
      exact ⟨rfl, RM_new e1 f2 e2, q1.tr f2.only⟩
    · rw [if_neg (by omega)]
      exact ⟨rfl, e, onlyM.rf⟩
  · rw [if_neg (mB_eq0.mp z)]
    exact ⟨rfl, e, onlyM.rf⟩
end MStep
