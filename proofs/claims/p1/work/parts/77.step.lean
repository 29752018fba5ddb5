/-! steps: the best change of one join; the class's walker -/
abbrev setN (N : nN) (k : Nat) (v : Int) : nN := nSetT N (tSet (nT N) k v)
noncomputable def gnN (N : nN) (k c : Nat) : Int := (thrN N k : Int) - (thrN (setN N k c) k : Int)
noncomputable def bsU (st : Int × Nat × Nat) (k c : Nat) (g : Int) : Int × Nat × Nat := if st.1 < g then (g, k, c) else st
noncomputable def bsC (N : nN) (k : Nat) (st : Int × Nat × Nat) : Nat → Int × Nat × Nat
  | 0 => st
  | c + 1 => bsU (bsC N k st c) k c (gnN N k c)
noncomputable def bsK (N : nN) : Nat → Int × Nat × Nat
  | 0 => (0, 0, 0)
  | k + 1 => bsC N k (bsK N k) (nC N)
noncomputable def bsN (N : nN) : Int × Nat × Nat := bsK N (js (nP N))
noncomputable def wkF : Nat → nN → Nat × nN
  | 0, N => (0, N)
  | m + 1, N => if (bsN N).1 = 0 then (0, N) else ((wkF m (setN N (bsN N).2.1 (bsN N).2.2)).1 + 1, (wkF m (setN N (bsN N).2.1 (bsN N).2.2)).2)
noncomputable def spStep (S : sS) (n : Int) : Int × sS := if 1 ≤ n ∧ n ≤ 30 then (if nBare S.1 = 0 then (((wkF n.toNat S.1).1 : Nat), sTo S (wkF n.toNat S.1).2) else (vNO, S)) else (vBAD, S)
theorem wS_le {w : rE → Nat} (h : ∀ x, w x ≤ 1) : ∀ xs : List rE, wS w xs ≤ xs.length
  | [] => Nat.le_refl _
  | x :: xs => by
    have h1 := h x
    have h2 := wS_le h xs
    show w x + wS w xs ≤ xs.length + 1
    omega
theorem thrK_le {N : nN} (o : nOk N) {c : Nat} (hc : c < 3) (T : Nat → Int) (e : Nat) : thrK N T c e ≤ 35831808 := by
  unfold thrK
  split
  · exact Nat.zero_le _
  · next h0 =>
    have k1 : kOk (nkk N c) (nln N c) := (kOk_of (o.2.2.1 c hc) h0).1
    exact Nat.le_trans (wS_le (fun x => iq_le _ _) _) (takes_len T c _ _ _ o.1.2 _ (kOk_le k1) _ _)
theorem thrN_le {N : nN} (o : nOk N) {e : Nat} (he : e < 66) : thrN N e ≤ 35831808 := by
  have hb := o.2.2.2.1 e he
  have hC := o.2.1.2
  unfold thrN
  split
  · exact Nat.zero_le _
  · exact thrK_le o (by omega) _ _
theorem gn_bd {N : nN} (o : nOk N) {k c : Nat} (hk : k < js (nP N)) (hc : c < nC N) : -35831808 ≤ gnN N k c ∧ gnN N k c ≤ 35831808 := by
  have hj := js_le (nP N) (by have := o.1.2; omega)
  have h1 := thrN_le o (e := k) (by omega)
  have h2 : thrN (setN N k (c : Int)) k ≤ 35831808 := thrN_le (nOk_tone o (k := k) (v := (c : Int)) hk ⟨by omega, by omega⟩) (e := k) (by omega)
  unfold gnN
  omega
def bsI (N : nN) (st : Int × Nat × Nat) : Prop := (0 ≤ st.1 ∧ st.1 ≤ 35831808) ∧ (st.1 ≠ 0 → st.2.1 < js (nP N) ∧ st.2.2 < nC N)
theorem bsU_ok {N : nN} (o : nOk N) {st : Int × Nat × Nat} (h : bsI N st) {k c : Nat} (hk : k < js (nP N)) (hc : c < nC N) : bsI N (bsU st k c (gnN N k c)) := by
  have hb := gn_bd o hk hc
  unfold bsU
  have h1 := h.1
  split
  · next z => exact ⟨⟨by show 0 ≤ gnN N k c; omega, hb.2⟩, fun _ => ⟨hk, hc⟩⟩
  · exact h
theorem bsC_ok {N : nN} (o : nOk N) {st : Int × Nat × Nat} (h : bsI N st) {k : Nat} (hk : k < js (nP N)) : ∀ c, c ≤ nC N → bsI N (bsC N k st c)
  | 0, _ => h
  | c + 1, hc => bsU_ok o (bsC_ok o h hk c (by omega)) hk (by omega)
theorem bsK_ok {N : nN} (o : nOk N) : ∀ k, k ≤ js (nP N) → bsI N (bsK N k)
  | 0, _ => ⟨⟨Int.le_refl 0, by show (0 : Int) ≤ 35831808; decide⟩, fun z => absurd rfl z⟩
  | k + 1, hk => bsC_ok o (bsK_ok o k (by omega)) (by omega) _ (Nat.le_refl _)
theorem nOk_step {N : nN} (o : nOk N) (h : (bsN N).1 ≠ 0) : nOk (setN N (bsN N).2.1 (bsN N).2.2) := by
  have := (bsK_ok o (js (nP N)) (Nat.le_refl _)).2 h
  have hC := o.2.1
  exact nOk_tone o this.1 ⟨by omega, by have := this.2; unfold bsN; omega⟩
theorem wkF_ok : ∀ (m : Nat) (N : nN), nOk N → nOk (wkF m N).2 ∧ (wkF m N).1 ≤ m
  | 0, N, o => ⟨o, Nat.le_refl _⟩
  | m + 1, N, o => by
    unfold wkF
    split
    · exact ⟨o, Nat.zero_le _⟩
    · next h =>
      have ih := wkF_ok m _ (nOk_step o h)
      exact ⟨ih.1, by show _ + 1 ≤ m + 1; omega⟩
theorem tSet_tSet (T : Nat → Int) (k : Nat) (v w : Int) : tSet (tSet T k v) k w = tSet T k w := by
  funext j
  unfold tSet
  split
  · rfl
  · rfl
section Step
variable {l : Launch} {g : mG} {d : Nat}
theorem s_give (i : Fin 8) (N : nN) (o : nOk N) (k : Nat) (v : Int) (hk : k < 66) (hv0 : -1 ≤ v ∧ v < 3) (h : mMem) (e : isC h i N) : mCon l g n_Net_give (d + 1) [.inr (4, i), .inl k, .inl v] h (fun r h' => r = none ∧ isC h' i (setN N k v) ∧ sameBut i h h') := by
  have hb := o.2.2.2.1 k hk
  have hC := o.2.1.2
  refine mCon_mono (c_Net_give i k v (nT N) hk hv0 h (e.2.2.2.2.1 k hk) (by omega) e.2.2.2.2.2) ?_
  rintro r h' ⟨rfl, g1, g2, g3⟩
  refine ⟨rfl, ⟨(g1 _ _ _ (by simp)).trans e.1, (g1 _ _ _ (by simp)).trans e.2.1, fun q hq => (g1 _ _ _ (by simp)).trans (e.2.2.1 q hq), fun q hq => (g1 _ _ _ (by simp)).trans (e.2.2.2.1 q hq), fun q hq => ?_, g3⟩, g1⟩
  rw [g2, e.2.2.2.2.1 q hq]
  rfl
def farS (i : Fin 8) (h h' : mMem) : Prop := ∀ (t : Nat) (a : Fin 8) (q : Nat), ¬ (t = 5 ∨ t = 7 ∨ t = 26 ∨ ((t = 22 ∨ t = 23) ∧ a = i)) → h' t a q = h t a q
theorem farS.rf {i : Fin 8} {h : mMem} : farS i h h := fun _ _ _ _ => rfl
theorem farS.tr {i : Fin 8} {h h1 h2 : mMem} (a : farS i h h1) (b : farS i h1 h2) : farS i h h2 := fun t j k z => (b t j k z).trans (a t j k z)
theorem farS.ofB {i : Fin 8} {h h1 : mMem} (a : sameBut i h h1) : farS i h h1 := fun t j k z => a t j k (fun y => z (Or.inr (Or.inr (Or.inr y))))
theorem farS.ofO {i : Fin 8} {h h1 : mMem} (a : farO h h1) : farS i h h1 := fun t j k z => a t j k (fun y => z (by omega))
def bsH (h : mMem) (st : Int × Nat × Nat) : Prop := h 7 0 3 = st.1 ∧ (st.1 ≠ 0 → h 7 0 1 = (st.2.1 : Nat) ∧ h 7 0 2 = (st.2.2 : Nat))
theorem bsH_far {h h' : mMem} {st : Int × Nat × Nat} (e : bsH h st) (f : ∀ k, h' 7 0 k = h 7 0 k) : bsH h' st := ⟨(f 3).trans e.1, fun z => ⟨(f 1).trans (e.2 z).1, (f 2).trans (e.2 z).2⟩⟩
theorem c_Walker_seekBest (i : Fin 8) (N : nN) (o : nOk N) (h : mMem) (e : isC h i N) : mCon l g n_Walker_seekBest (d + 14) [.inr (7, 0), .inr (4, i)] h (fun v h' => v = none ∧ bsH h' (bsN N) ∧ isC h' i N ∧ farS i h h') := by
  have hn := o.1.2
  have hC := o.2.1
  have hj := js_le (nP N) (by omega)
  have loop : ∀ (m k : Nat) (x3 x4 x5 x6 : Option mRV) (h1 : mMem), k + m = js (nP N) → isC h1 i N → bsH h1 (bsK N k) → farS i h h1 → mGo l g (mMt n_Walker_seekBest) (d + 14) 7 [some (.inr (7, 0)), some (.inr (4, i)), some (.inl k), x3, x4, x5, x6] [] h1 (fun v h' => v = none ∧ bsH h' (bsN N) ∧ isC h' i N ∧ farS i h h') := by
    intro m
    induction m with
    | zero =>
      intro k x3 x4 x5 x6 h1 hk e1 b1 f1
      refine mGo_wp h_Walker_seekBest 120 [7] ?_
      refine mCall_is (c_Net_joinCount i (nP N) (by omega) h1 e1.1) ?_
      refine ⟨fun _ => ⟨rfl, ?_, e1, f1⟩, fun z => by omega⟩
      unfold bsN
      rw [← show k = js (nP N) by omega]
      exact b1
    | succ m ih =>
      intro k x3 x4 x5 x6 h1 hk e1 b1 f1
      have hk66 : k < 66 := by omega
      have htk := o.2.2.2.1 k hk66
      have bI := bsK_ok o k (by omega)
      have thr0 := thrN_le o hk66
      have inner : ∀ (m2 c : Nat) (x : Int) (x6 : Option mRV) (h2 : mMem), c + m2 = nC N → (-1 ≤ x ∧ x < nC N) → isC h2 i (setN N k x) → bsH h2 (bsC N k (bsK N k) c) → farS i h h2 → mGo l g (mMt n_Walker_seekBest) (d + 14) 36 [some (.inr (7, 0)), some (.inr (4, i)), some (.inl k), some (.inl (nT N k)), some (.inl (thrN N k : Nat)), some (.inl c), x6] [] h2 (fun v h' => v = none ∧ bsH h' (bsN N) ∧ isC h' i N ∧ farS i h h') := by
        intro m2
        induction m2 with
        | zero =>
          intro c x x6 h2 hc hx e2 b2 f2
          refine mGo_wp h_Walker_seekBest 120 [7] ?_
          have e21 : h2 4 i 1 = nC N := e2.2.1
          refine ⟨fun _ => ?_, fun z => by rw [e21] at z; omega⟩
          refine mCall_on2 (mCon_lift (by omega) (s_give (d := d) i (setN N k x) (nOk_tone o (by omega) hx) k (nT N k) hk66 (by omega) h2 e2)) ?_
          rintro v h3 ⟨rfl, e3, f3⟩
          have e3 : isC h3 i (nSetT N (tSet (tSet (nT N) k x) k (nT N k))) := e3
          rw [tSet_tSet, tSet_self rfl] at e3
          show mGo l g _ _ 7 [_, _, some (.inl (mWr ((k : Int) + 1))), _, _, _, _] [] h3 _
          rw [mWr_of ⟨by omega, by omega⟩]
          refine ih (k + 1) _ _ _ _ h3 (by omega) e3 ?_ (f2.tr (farS.ofB f3))
          have := bsH_far b2 (fun q => f3 7 0 q (by simp))
          rw [show c = nC N by omega] at this
          exact this
        | succ m2 ih2 =>
          intro c x x6 h2 hc hx e2 b2 f2
          refine mGo_wp h_Walker_seekBest 120 [36] ?_
          have e21 : h2 4 i 1 = nC N := e2.2.1
          refine ⟨fun z => by rw [e21] at z; omega, fun _ => ?_⟩
          refine mCall_on2 (mCon_lift (by omega) (s_give (d := d) i (setN N k x) (nOk_tone o (by omega) hx) k (c : Int) hk66 (by omega) h2 e2)) ?_
          rintro v h3 ⟨rfl, e3, f3⟩
          have e3 : isC h3 i (nSetT N (tSet (tSet (nT N) k x) k (c : Int))) := e3
          rw [tSet_tSet] at e3
          have o3 : nOk (setN N k (c : Int)) := nOk_tone o (by omega) ⟨by omega, by omega⟩
          refine mCall_on2 (c_Outward_howMany i (setN N k (c : Int)) o3 k (show k < js (nP N) by omega) h3 e3) ?_
          rintro v h4 ⟨rfl, f4⟩
          have e4 := isC_farO e3 f4
          have b4 : bsH h4 (bsC N k (bsK N k) c) := bsH_far b2 (fun q => (f4 7 0 q (by decide)).trans (f3 7 0 q (by simp)))
          have f4' := f2.tr ((farS.ofB f3).tr (farS.ofO (i := i) f4))
          have bI2 := bsC_ok o bI (show k < js (nP N) by omega) c (by omega)
          have gb := gn_bd o (show k < js (nP N) by omega) (show c < nC N by omega)
          have w6 : mWr (((thrN N k : Nat) : Int) - ((thrN (setN N k (c : Int)) k : Nat) : Int)) = gnN N k c := by
            unfold gnN at gb ⊢
            exact mWr_of ⟨by omega, by omega⟩
          have nxt : ∀ (v6 : Int) (h5 : mMem), isC h5 i (setN N k (c : Int)) → bsH h5 (bsC N k (bsK N k) (c + 1)) → farS i h h5 → mGo l g (mMt n_Walker_seekBest) (d + 14) 36 [some (.inr (7, 0)), some (.inr (4, i)), some (.inl k), some (.inl (nT N k)), some (.inl (thrN N k : Nat)), some (.inl (mWr ((c : Int) + 1))), some (.inl v6)] [] h5 (fun v h' => v = none ∧ bsH h' (bsN N) ∧ isC h' i N ∧ farS i h h') := by
            intro v6 h5 e5 b5 f5
            rw [mWr_of ⟨by omega, by omega⟩]
            exact ih2 (c + 1) (c : Int) _ h5 (by omega) ⟨by omega, by omega⟩ e5 b5 f5
          refine ⟨fun z => ?_, fun z => ?_⟩
          · rw [w6, b4.1] at z
            refine nxt _ h4 e4 ?_ f4'
            show bsH h4 (bsU _ _ _ _)
            unfold bsU
            rw [if_neg (by omega)]
            exact b4
          · rw [w6, b4.1] at z
            have q := nxt (mWr (((thrN N k : Nat) : Int) - ((thrN (setN N k (c : Int)) k : Nat) : Int))) (mSet (mSet (mSet h4 7 0 1 (k : Int)) 7 0 2 (c : Int)) 7 0 3 (mWr (((thrN N k : Nat) : Int) - ((thrN (setN N k (c : Int)) k : Nat) : Int)))) (isC_eq e4 (fun t q ht => by rw [mSet_no (fun w => by omega), mSet_no (fun w => by omega), mSet_no (fun w => by omega)])) (by
              show bsH _ (bsU _ _ _ _)
              unfold bsU
              rw [if_pos z]
              refine ⟨by rw [mSet_at, w6], fun _ => ⟨?_, ?_⟩⟩
              · rw [mSet_no (by simp), mSet_no (by simp), mSet_at]
              · rw [mSet_no (by simp), mSet_at]) (f4'.tr (fun t a q w => by rw [mSet_no (fun x => w (by omega)), mSet_no (fun x => w (by omega)), mSet_no (fun x => w (by omega))]))
            exact q
      refine mGo_wp h_Walker_seekBest 120 [36] ?_
      refine mCall_is (c_Net_joinCount i (nP N) (by omega) h1 e1.1) ?_
      refine ⟨fun z => by omega, fun _ => ⟨⟨by omega, by omega⟩, ?_⟩⟩
      refine mCall_on2 (c_Outward_howMany i N o k (by omega) h1 e1) ?_
      rintro v h2 ⟨rfl, f2⟩
      have rk : h1 22 i (Int.toNat (k : Int)) = nT N k := by rw [Int.toNat_natCast, e1.2.2.2.2.1 k hk66]
      have e2 := isC_farO e1 f2
      have e2' : isC h2 i (setN N k (nT N k)) := by
        unfold setN
        rw [tSet_self rfl]
        exact e2
      have q := inner (nC N) 0 (nT N k) x6 h2 (by omega) htk e2' (bsH_far b1 (fun q => f2 7 0 q (by decide))) (f1.tr (farS.ofO f2))
      rw [← rk] at q
      exact q
  refine e_Walker_seekBest (fun hv hm => ?_)
  refine mGo_wp h_Walker_seekBest 120 [7] ?_
  refine loop (js (nP N)) 0 none none none none _ (by omega) (isC_eq e (fun t q ht => mSet_no (fun w => by omega))) ⟨mSet_at _ _ _ _ _, fun z => absurd rfl z⟩ (fun t a q w => mSet_no (fun x => w (by omega)))
theorem c_Walker_walk (i : Fin 8) (most : Nat) (hmost : most ≤ 30) : ∀ (m s : Nat) (N : nN) (h : mMem), s + m = most → nOk N → isC h i N → mGo l g (mMt n_Walker_walk) (d + 15) 2 [some (.inr (7, 0)), some (.inr (4, i)), some (.inl most), some (.inl s)] [] h (fun v h' => v = some (.inl (s + (wkF m N).1 : Nat)) ∧ isC h' i (wkF m N).2 ∧ farS i h h') := by
  intro m
  induction m with
  | zero =>
    intro s N h hs o e
    refine mGo_wp h_Walker_walk 60 [2] ?_
    refine ⟨fun _ => ⟨?_, e, farS.rf⟩, fun z => by omega⟩
    rw [← hs]
    rfl
  | succ m ih =>
    intro s N h hs o e
    refine mGo_wp h_Walker_walk 60 [2] ?_
    refine ⟨fun z => by omega, fun _ => ?_⟩
    refine mCall_on2 (c_Walker_seekBest i N o h e) ?_
    rintro v h1 ⟨rfl, b1, e1, f1⟩
    have bI := bsK_ok o (js (nP N)) (Nat.le_refl _)
    have hj := js_le (nP N) (by have := o.1.2; omega)
    have hC := o.2.1.2
    unfold wkF
    refine ⟨fun z => ?_, fun z => ?_⟩
    · rw [b1.1] at z
      rw [if_neg z]
      obtain ⟨q1, q2⟩ := b1.2 z
      have bb := bI.2 z
      have bb1 : (bsN N).2.1 < js (nP N) := bb.1
      have bb2 : (bsN N).2.2 < nC N := bb.2
      refine mCall_on2 (show mCon l g n_Net_give (d + 14) [.inr (4, i), .inl (h1 7 0 1), .inl (h1 7 0 2)] h1 _ by rw [q1, q2]; exact mCon_lift (by omega) (s_give (d := d) i N o (bsN N).2.1 ((bsN N).2.2 : Int) (by omega) (by omega) h1 e1)) ?_
      rintro v h2 ⟨rfl, e2, f2⟩
      have q := ih (s + 1) _ h2 (by omega) (nOk_step o z) e2
      show mGo l g _ _ 2 [_, _, _, some (.inl (mWr ((s : Int) + 1)))] [] h2 _
      rw [mWr_of ⟨by omega, by omega⟩]
      refine mGo_mono q ?_
      rintro v h3 ⟨rfl, e3, f3⟩
      refine ⟨?_, e3, f1.tr ((farS.ofB f2).tr f3)⟩
      dsimp only
      rw [show s + 1 + (wkF m (setN N (bsN N).2.1 (bsN N).2.2)).1 = s + ((wkF m (setN N (bsN N).2.1 (bsN N).2.2)).1 + 1) by omega]
    · rw [b1.1] at z
      rw [if_pos z]
      exact ⟨rfl, e1, f1⟩
theorem farS_chg {h h' : mMem} (f : farS 0 h h') : chgC h h' := fun t i k z => f t i k (fun y => z (by
  rcases y with y | y | y | y
  · omega
  · omega
  · omega
  · exact Or.inr (Or.inr (Or.inr (Or.inr (Or.inr (Or.inr ⟨Or.inr (by omega), Or.inl y.2⟩)))))))
theorem s_K_step (n : Int) (h : mMem) (S : sS) (o : sOk S) (e : RC h S) : mCon l g n_K_step (d + 16) [.inr (8, 0), .inl n] h (fun r h' => r = some (.inl (spStep S n).1) ∧ RC h' (spStep S n).2 ∧ onlyC h h') := by
  refine e_K_step (fun hv hm => ?_)
  refine mGo_wp h_K_step 60 [14] ?_
  unfold spStep
  have main : (1 ≤ n ∧ n ≤ 30) → mGo l g (mMt n_K_step) (d + 16) 14 [some (.inr (8, 0)), some (.inl n)] [] h (fun r h' => r = some (.inl (if nBare S.1 = 0 then (((wkF n.toNat S.1).1 : Nat), sTo S (wkF n.toNat S.1).2) else (vNO, S) : Int × sS).1) ∧ RC h' (if nBare S.1 = 0 then (((wkF n.toNat S.1).1 : Nat), sTo S (wkF n.toNat S.1).2) else (vNO, S) : Int × sS).2 ∧ onlyC h h') := by
    intro hn
    obtain ⟨m, rfl⟩ := Int.eq_ofNat_of_zero_le (show 0 ≤ n by omega)
    rw [Int.toNat_natCast]
    refine mGo_wp h_K_step 60 [] ?_
    refine mCall_is (mCon_lift (by omega) (c_Net_bareCount (d := d) 0 S.1 h o.1 e.1)) ?_
    refine ⟨fun z => ?_, fun z => ?_⟩
    · rw [if_pos (by omega)]
      refine mCall_on2 (mCon_lift (by omega) (s_remember (d := d) h S o e)) ?_
      rintro r1 h1 ⟨rfl, e1, q1⟩
      refine mCall_on2 (show mCon l g n_Walker_walk (d + 15) [.inr (7, 0), .inr (4, 0), .inl (m : Int)] h1 (fun v h' => v = some (.inl (0 + (wkF m S.1).1 : Nat)) ∧ isC h' 0 (wkF m S.1).2 ∧ farS 0 h1 h') from e_Walker_walk (fun _ _ => mGo_wp h_Walker_walk 60 [2] (c_Walker_walk 0 m (by omega) m 0 S.1 h1 (by omega) o.1 e1.1))) ?_
      rintro r2 h2 ⟨rfl, e2, f2⟩
      have c2 := farS_chg f2
      rw [Nat.zero_add]
      exact ⟨rfl, RC_new e1 c2 e2, q1.tr c2.only⟩
    · rw [if_neg (by omega)]
      exact ⟨rfl, e, onlyC.rf⟩
  refine ⟨fun z => ?_, fun z => ⟨fun z2 => ?_, fun z2 => ?_⟩⟩
  · rw [if_neg (by omega)]
    exact ⟨rfl, e, onlyC.rf⟩
  · rw [if_pos ⟨z, z2⟩]
    exact main ⟨z, z2⟩
  · rw [if_neg (by omega)]
    exact ⟨rfl, e, onlyC.rf⟩
theorem sOk_step {S : sS} (o : sOk S) (n : Int) : sOk (spStep S n).2 := by
  unfold spStep
  split
  · split
    · exact sOk_to o (wkF_ok _ _ o.1).1
    · exact o
  · exact o
end Step
