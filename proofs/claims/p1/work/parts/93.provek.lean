/-! prove on the class's side -/
def cpE (N : nN) (o : Nat → Nat) (x : eV) : Prop := thrN (nSetT N x.2) (o x.1) = 0 ↔ cpL (nSetT N x.2) (x.2 (o x.1)).toNat 0 = []
theorem kds_cpE (N : nN) (m : Nat) (o : Nat → Nat) (hoj : ∀ i j, i < m → j < m → o i = o j → i = j) : ∀ (j i : Nat) (T : bT), i + j = m → nClear (nSetT N T) → (∀ a, i ≤ a → a < m → T (o a) = -1) → ∀ x ∈ kds (nC N) o (Dg N m o) j i T, cpE N o x ∧ ∃ c : Nat, c < nC N ∧ x.2 (o x.1) = c
  | 0, i, T, hm, hcl, hb, x, hx => by cases hx
  | j + 1, i, T, hm, hcl, hb, x, hx => by
    obtain ⟨c, hc, h1⟩ := List.mem_flatMap.mp hx
    have hc2 : c < nC N := by
      have := List.mem_range'_1.mp hc
      omega
    have hTi := hb i (Nat.le_refl _) (by omega)
    have key := clear_iff (N := nSetT N T) (e := o i) (c := c) hc2 hTi hcl
    have hv : tSet T (o i) (c : Nat) (o i) = (c : Nat) := if_pos rfl
    rcases List.mem_cons.mp h1 with rfl | h1
    · refine ⟨?_, c, hc2, hv⟩
      show thrN (nSetT N (tSet T (o i) (c : Nat))) (o i) = 0 ↔ cpL (nSetT N (tSet T (o i) (c : Nat))) (tSet T (o i) (c : Nat) (o i)).toNat 0 = []
      rw [hv, Int.toNat_natCast]
      exact key
    · split at h1
      · next hd =>
        have hd := (qB_iff.mp hd).1
        refine kds_cpE N m o hoj j (i + 1) _ (by omega) (clear_set (N := nSetT N T) hc2 hTi hcl (key.mp hd)) (fun a ha ham => ?_) x h1
        show (if o a = o i then _ else T (o a)) = -1
        rw [if_neg (fun w => by have := hoj a i ham (by omega) w; omega)]
        exact hb a (by omega) ham
      · cases h1
section KProve
variable {l : Launch} {g : mG} {d : Nat}
theorem c_Finder_rowBits (r : List Nat) (hr : ∀ x ∈ r, x < 12) (hl : r.length ≤ 7) (h : mMem) (e1 : h 1 0 1 = r.length) (e2 : rowF h r) : mCon l g n_Finder_rowBits d [.inr (1, 0)] h (mIs (some (.inl (bitR r r.length : Nat))) h) := by
  have loop : ∀ (n k : Nat), k + n = r.length → mGo l g (mMt n_Finder_rowBits) d 4 [some (.inr (1, 0)), some (.inl (bitR r k : Nat)), some (.inl k)] [] h (mIs (some (.inl (bitR r r.length : Nat))) h) := by
    intro n
    induction n with
    | zero =>
      intro k hk
      refine mGo_wp h_Finder_rowBits 40 [4] ?_
      have : k = r.length := by omega
      subst this
      exact ⟨fun _ => ⟨rfl, rfl⟩, fun z => by rw [e1] at z; omega⟩
    | succ n ih =>
      intro k hk
      refine mGo_wp h_Finder_rowBits 40 [4] ?_
      refine ⟨fun z => by rw [e1] at z; omega, fun _ => ⟨⟨by omega, by omega⟩, ?_⟩⟩
      have q := ih (k + 1) (by omega)
      have hb := bitR_lt r hr k (by omega)
      have hx := hr _ (getD_mem (r := r) (j := k) (by omega))
      have h2 : 2 ^ (r.getD k 0) < 2 ^ 12 := Nat.pow_lt_pow_right (by decide) hx
      show mGo l g _ _ 4 [_, some (.inl (mOr ((bitR r k : Nat) : Int) (mShl 1 (h 24 0 (Int.toNat (k : Int)))))), some (.inl (mWr ((k : Int) + 1)))] [] _ _
      rw [mWr_of ⟨by omega, by omega⟩, Int.toNat_natCast, e2 k (by omega), mShl_1 _ (by omega), mOr_nat (by omega) (by omega)]
      exact q
  refine e_Finder_rowBits (fun hv hm => ?_)
  refine mGo_wp h_Finder_rowBits 40 [4] ?_
  exact loop r.length 0 (by omega)
def farQ2 (h h' : mMem) : Prop := ∀ (t : Nat) (a : Fin 8) (q : Nat), ¬ ((t = 0 ∧ q = 6) ∨ t = 1 ∨ t = 24 ∨ t = 25 ∨ ((t = 22 ∨ t = 23) ∧ a = 1) ∨ (31 ≤ t ∧ t ≤ 33) ∨ (t = 6 ∧ q = 3)) → h' t a q = h t a q
theorem farQ2.rf {h : mMem} : farQ2 h h := fun _ _ _ _ => rfl
theorem farQ2.tr {h h1 h2 : mMem} (a : farQ2 h h1) (b : farQ2 h1 h2) : farQ2 h h2 := fun t j k z => (b t j k z).trans (a t j k z)
theorem farQ2.ofN {h h1 : mMem} (a : farN h h1) : farQ2 h h1 := fun t j k z => a t j k (fun y => z (y.elim Or.inl (fun w => Or.inr (Or.inr (Or.inr (Or.inr (Or.inl w)))))))
theorem farQ2.ofF {h h1 : mMem} (a : farF h h1) : farQ2 h h1 := fun t j k z => a t j k (fun y => z (by omega))
theorem fB_Q2 {h h' : mMem} {m : Nat} {o : Nat → Nat} (e : fB h m o) (f : farQ2 h h') : fB h' m o := ⟨(f _ _ _ (by simp)).trans e.1, fun i hi => (f _ _ _ (by simp)).trans (e.2 i hi)⟩
def mkV (r : Int × Nat × Option bT) : Int := if r.1 = 0 then (r.2.1 : Nat) else if r.1 = 1 then vNO else vFULL
abbrev mkK (N : nN) (m : Nat) (o : Nat → Nat) (q : Nat) (R : List eV) (h0 h1 : mMem) : Option mRV → mMem → Prop := fun v h' => v = some (.inl (mkV (gres N m o 500 q R))) ∧ h' 6 0 3 = (if (gres N m o 500 q R).1 = 0 then (((gres N m o 500 q R).2.1 : Nat) : Int) else h0 6 0 3) ∧ (∀ p x, R[p]? = some x → q + p < (gres N m o 500 q R).2.1 → h' 31 0 (q + p) = (o x.1 : Nat) ∧ h' 32 0 (q + p) = x.2 (o x.1) ∧ h' 33 0 (q + p) = bitE N o x) ∧ (∀ t k, (31 ≤ t ∧ t ≤ 33) → (k < q ∨ (gres N m o 500 q R).2.1 ≤ k) → h' t 0 k = h1 t 0 k) ∧ farQ2 h0 h'
theorem mkK_step {N : nN} {m : Nat} {o : Nat → Nat} {q : Nat} {x : eV} {R : List eV} {h0 h1 h5 : mMem} (hq : q < 500) (hn : ¬ fo N m o x) (a1 : h5 31 0 q = (o x.1 : Nat)) (a2 : h5 32 0 q = x.2 (o x.1)) (a3 : h5 33 0 q = bitE N o x) (a4 : ∀ t k, (31 ≤ t ∧ t ≤ 33) → k ≠ q → h5 t 0 k = h1 t 0 k) {v : Option mRV} {h' : mMem} (k : mkK N m o (q + 1) R h0 h5 v h') : mkK N m o q (x :: R) h0 h1 v h' := by
  obtain ⟨k1, k2, k3, k4, k5⟩ := k
  have hg : gres N m o 500 q (x :: R) = gres N m o 500 (q + 1) R := gres_next (by omega) hn
  have bd := gres_bd N m o 500 R (q + 1) (by omega)
  unfold mkK
  rw [hg]
  refine ⟨k1, k2, (fun p y hy hp => ?_), (fun t k ht hk => ?_), k5⟩
  · cases p with
    | zero =>
      cases hy
      rw [Nat.add_zero, k4 31 q (by decide) (Or.inl (by omega)), k4 32 q (by decide) (Or.inl (by omega)), k4 33 q (by decide) (Or.inl (by omega))]
      exact ⟨a1, a2, a3⟩
    | succ p =>
      have := k3 p y hy (by omega)
      rw [show q + 1 + p = q + (p + 1) by omega] at this
      exact this
  · rw [k4 t k ht (by omega)]
    exact a4 t k ht (by omega)
theorem l_make (N : nN) (m : Nat) (o : Nat → Nat) (ho : opO N m o) (h : mMem) : ∀ (R : List eV) (i : Nat) (T : bT) (q : Nat) (v3 : Option mRV) (h1 : mMem), rem (nC N) m o (Dg N m o) i T = R → (∀ x ∈ R, cpE N o x ∧ ∃ c : Nat, c < nC N ∧ x.2 (o x.1) = c) → cuB N m o i T → fB h1 m o → isC h1 1 (nSetT N T) → h1 0 0 6 = i → h1 6 0 3 = h 6 0 3 → farQ2 h h1 → q ≤ 500 →
    mGo l g (mMt n_Proof_make) (d + 11) 2 [some (.inr (6, 0)), some (.inr (0, 0)), some (.inl q), v3] [] h1 (mkK N m o q R h h1) := by
  intro R
  induction R with
  | nil =>
    intro i T q v3 h1 hR hP cu e eC e6 e3 f hq
    refine mGo_wp h_Proof_make 120 [2] ?_
    refine ⟨fun z => by omega, fun _ => ?_⟩
    refine mCall_on2 (mCon_lift (by omega) (c_nextTry (d := d) N m o ho i T cu h1 e eC e6)) ?_
    rintro v h2 ⟨rfl, -, f2⟩
    have hnone : nx (nC N) o i T = none := by
      rw [cu_rem ho cu] at hR
      cases hx : nx (nC N) o i T with
      | none => rfl
      | some x =>
        rw [hx] at hR
        exact absurd hR (by simp)
    rw [hnone, mBc_f (fun z => z rfl)]
    refine ⟨fun z => absurd rfl z, fun _ => ⟨rfl, mSet_at _ _ _ _ _, (fun p x z => by cases z), (fun t k ht hk => ?_), f.tr ((farQ2.ofN f2).tr (fun t a q z => mSet_no (fun y => z (by omega))))⟩⟩
    rw [mSet_no (fun y => by omega), f2 _ _ _ (by omega)]
  | cons x R ih =>
    intro i T q v3 h1 hR hP cu e eC e6 e3 f hq
    refine mGo_wp h_Proof_make 120 [2, 90] ?_
    refine ⟨fun z => by omega, fun _ => ?_⟩
    refine mCall_on2 (mCon_lift (by omega) (c_nextTry (d := d) N m o ho i T cu h1 e eC e6)) ?_
    rintro v h2 ⟨rfl, g2, f2⟩
    rw [cu_rem ho cu] at hR
    cases hx : nx (nC N) o i T with
    | none =>
      rw [hx] at hR
      exact absurd hR (by simp)
    | some y =>
      obtain ⟨i', T'⟩ := y
      rw [hx] at hR
      obtain ⟨rfl, hR'⟩ := List.cons.inj hR
      obtain ⟨e6', eC'⟩ := g2 i' T' hx
      obtain ⟨cu', hle, hpos, -⟩ := nx_ok ho i T cu i' T' hx
      obtain ⟨hcp, c, hc, hTc⟩ := hP (i', T') List.mem_cons_self
      have hTc : T' (o i') = (c : Nat) := hTc
      have hcp : thrN (nSetT N T') (o i') = 0 ↔ cpL (nSetT N T') (T' (o i')).toNat 0 = [] := hcp
      rw [hTc, Int.toNat_natCast] at hcp
      rw [mBc_t (by simp)]
      have hC3 : c < 3 := by
        have := cu'.1.2.1.2
        have h' : nC N ≤ 3 := this
        omega
      have e2 := fB_N e f2
      refine ⟨fun _ => ⟨fun z => ?_, fun z => ?_⟩, fun z => absurd z (by decide)⟩
      · have hq5 : q < 500 := by omega
        -- from 90 on: the row is written
        have tail : ∀ h5 : mMem, h5 31 0 q = (o i' : Nat) → h5 32 0 q = T' (o i') → h5 33 0 q = bitE N o (i', T') → (∀ t k, (31 ≤ t ∧ t ≤ 33) → k ≠ q → h5 t 0 k = h1 t 0 k) → farQ2 h h5 → h5 6 0 3 = h 6 0 3 → fB h5 m o → isC h5 1 (nSetT N T') → h5 0 0 6 = (i' : Nat) →
            mGo l g (mMt n_Proof_make) (d + 11) 90 [some (.inr (6, 0)), some (.inr (0, 0)), some (.inl (q : Nat)), some (.inl (mBc (cpL (nSetT N T') c 0 ≠ [])))] [] h5 (mkK N m o q ((i', T') :: R) h h1) := by
          intro h5 a1 a2 a3 a4 a5 a6 a7 a8 a9
          refine mGo_wp h_Proof_make 120 [2] ?_
          refine ⟨fun z2 => ?_, fun z2 => ?_⟩
          · have z2 := mBc_ne0.mp z2
            have nD : ¬ Dg N m o i' T' := fun w => z2 (hcp.mp w.1)
            have nf : ¬ fo N m o (i', T') := fun w => z2 (hcp.mp w.1)
            rw [if_neg (qB_no nD), List.nil_append] at hR'
            have k := ih i' T' (q + 1) (some (.inl (mBc (cpL (nSetT N T') c 0 ≠ [])))) h5 hR' (fun x hx => hP x (List.mem_cons_of_mem _ hx)) cu' a7 a8 a9 a6 a5 (by omega)
            show mGo l g _ _ 2 [_, _, some (.inl (mWr ((q : Int) + 1))), _] [] _ _
            rw [mWr_of ⟨by omega, by omega⟩]
            exact mGo_mono k (fun v h' w => mkK_step hq5 nf a1 a2 a3 a4 w)
          · have z2 : cpL (nSetT N T') c 0 = [] := Classical.not_not.mp (mBc_eq0.mp z2)
            have t0 := hcp.mpr z2
            refine mCall_is (mCon_lift (by omega) (c_Filling_goDeeper (d := d) m i' ho.1 cu'.2.1 h5 a7.1 a9)) ?_
            by_cases hd : i' + 1 < m
            · rw [if_pos hd, mB_t hd]
              refine ⟨fun _ => ?_, fun z => absurd z (by decide)⟩
              have hD : Dg N m o i' T' := ⟨t0, hd⟩
              have nf : ¬ fo N m o (i', T') := fun w => w.2 hd
              rw [if_pos (qB_t hD)] at hR'
              have hT1 : T' (o (i' + 1)) = -1 := cu'.2.2 (i' + 1) (by omega) hd
              have f5 : farQ2 h5 (mSet h5 0 0 6 ((i' + 1 : Nat) : Int)) := fun t a q w => mSet_no (fun y => w (by omega))
              have k := ih (i' + 1) T' (q + 1) (some (.inl (mBc (cpL (nSetT N T') c 0 ≠ [])))) (mSet h5 0 0 6 ((i' + 1 : Nat) : Int)) (by rw [rem_deep hT1 hd]; exact hR') (fun x hx => hP x (List.mem_cons_of_mem _ hx)) ⟨cu'.1, hd, fun j hj hjm => cu'.2.2 j (by omega) hjm⟩ (fB_Q2 a7 f5) (isC_eq a8 (fun t q ht => mSet_no (fun y => by omega))) (mSet_at _ _ _ _ _) ((mSet_no (by simp)).trans a6) (a5.tr f5) (by omega)
              show mGo l g _ _ 2 [_, _, some (.inl (mWr ((q : Int) + 1))), _] [] _ _
              rw [mWr_of ⟨by omega, by omega⟩]
              exact mGo_mono k (fun v h' w => mkK_step hq5 nf ((mSet_no (by simp)).trans a1) ((mSet_no (by simp)).trans a2) ((mSet_no (by simp)).trans a3) (fun t k ht hk => (mSet_no (fun y => by omega)).trans (a4 t k ht hk)) w)
            · rw [if_neg hd, mB_f hd]
              refine ⟨fun z => absurd rfl z, fun _ => ?_⟩
              have hf : fo N m o (i', T') := ⟨t0, hd⟩
              unfold mkK
              rw [gres_found (by omega) hf]
              refine ⟨rfl, a6.trans (if_neg (fun z => absurd (show (1 : Int) = 0 from z) (by decide))).symm, (fun p x hp hx => ?_), (fun t k ht hk => a4 t k ht ?_), a5⟩
              · have hp0 : p = 0 := by
                  have : q + p < q + 1 := hx
                  omega
                subst hp0
                cases hp
                exact ⟨a1, a2, a3⟩
              · have hk : k < q ∨ q + 1 ≤ k := hk
                omega
        refine mCall_is (mCon_lift (by omega) (c_Filling_tone (d := d) N m o ho i' T' cu' h2 e2 eC' e6')) ?_
        rw [hTc]
        refine mCall_on2 (mCon_lift (by omega) (c_Finder_findFirst (d := d) 1 c (nSetT N T') cu'.1 hC3 h2 eC')) ?_
        rintro v h3 ⟨rfl, g3, f3⟩
        have e3' := fB_Q2 e2 (farQ2.ofF f3)
        have eC3 := isC_farF eC' f3
        have e36 : h3 0 0 6 = (i' : Nat) := (f3 _ _ _ (by decide)).trans e6'
        refine mCall_is (mCon_lift (by omega) (c_Filling_join (d := d) N m o ho i' cu'.2.1 h3 e3' e36)) ?_
        refine ⟨⟨by omega, by omega⟩, ?_⟩
        have f31 : farQ2 h3 (mSet h3 31 0 q (o i' : Nat)) := fun t a k z => mSet_no (fun y => z (by omega))
        have e4 := fB_Q2 e3' f31
        have eC4 : isC (mSet h3 31 0 q (o i' : Nat)) 1 (nSetT N T') := isC_eq eC3 (fun t k ht => mSet_no (fun y => by omega))
        have e46 : mSet h3 31 0 q (o i' : Nat) 0 0 6 = (i' : Nat) := (mSet_no (by simp)).trans e36
        refine mCall_is (show mCon l g n_Filling_tone _ [.inr (0, 0)] (mSet h3 31 0 (Int.toNat (q : Int)) (o i' : Nat)) _ by rw [Int.toNat_natCast]; exact mCon_lift (by omega) (c_Filling_tone (d := d) N m o ho i' T' cu' _ e4 eC4 e46)) ?_
        refine ⟨⟨by omega, by omega⟩, ?_⟩
        have fin : ∀ b : Int, b = bitE N o (i', T') → mGo l g (mMt n_Proof_make) (d + 11) 90 [some (.inr (6, 0)), some (.inr (0, 0)), some (.inl (q : Nat)), some (.inl (mBc (cpL (nSetT N T') c 0 ≠ [])))] [] (mSet (mSet (mSet h3 31 0 q (o i' : Nat)) 32 0 q (T' (o i'))) 33 0 q b) (mkK N m o q ((i', T') :: R) h h1) := by
          rintro b rfl
          have f4 : farQ2 h3 (mSet (mSet (mSet h3 31 0 q (o i' : Nat)) 32 0 q (T' (o i'))) 33 0 q (bitE N o (i', T'))) := fun t a k z => by
            rw [mSet_no (fun y => z (by omega)), mSet_no (fun y => z (by omega)), mSet_no (fun y => z (by omega))]
          refine tail _ ?_ ?_ (mSet_at _ _ _ _ _) (fun t k ht hk => ?_) (f.tr ((farQ2.ofN f2).tr ((farQ2.ofF f3).tr f4))) ?_ (fB_Q2 e3' f4) (isC_eq eC3 (fun t k ht => ?_)) ?_
          · rw [mSet_no (by simp), mSet_no (by simp), mSet_at]
          · rw [mSet_no (by simp), mSet_at]
          · rw [mSet_no (fun y => hk y.2.2), mSet_no (fun y => hk y.2.2), mSet_no (fun y => hk y.2.2), f3 _ _ _ (by omega), f2 _ _ _ (by omega)]
          · rw [mSet_no (by simp), mSet_no (by simp), mSet_no (by simp), f3 _ _ _ (by decide), f2 _ _ _ (by simp)]
            exact e3
          · rw [mSet_no (fun y => by omega), mSet_no (fun y => by omega), mSet_no (fun y => by omega)]
          · rw [mSet_no (by simp), mSet_no (by simp), mSet_no (by simp)]
            exact e36
        have hbE : bitE N o (i', T') = (match cpL (nSetT N T') c 0 with
            | [] => 0
            | r :: _ => ((bitR r.1 r.1.length : Nat) : Int)) := by
          show (match cpL (nSetT N T') (T' (o i')).toNat 0 with
            | [] => 0
            | r :: _ => ((bitR r.1 r.1.length : Nat) : Int)) = _
          rw [hTc, Int.toNat_natCast]
        refine ⟨fun z2 => ⟨⟨by omega, by omega⟩, ?_⟩, fun z2 => ?_⟩
        · have z2 : cpL (nSetT N T') c 0 = [] := Classical.not_not.mp (mBc_eq0.mp z2)
          exact fin 0 (by rw [hbE, z2])
        · have z2 := mBc_ne0.mp z2
          obtain ⟨x, xs, hxs⟩ : ∃ x xs, cpL (nSetT N T') c 0 = x :: xs := by
            cases hy : cpL (nSetT N T') c 0 with
            | nil => exact absurd hy z2
            | cons x xs => exact ⟨x, xs, rfl⟩
          obtain ⟨g31, g32⟩ := g3 x xs hxs
          have row := cpL_row cu'.1 hC3 (mm := 0) (x := x) (by rw [hxs]; exact List.mem_cons_self)
          have hP12 : nP N ≤ 12 := cu'.1.1.2
          refine mCall_is (mCon_lift (by omega) (c_Finder_rowBits (d := d) x.1 (fun y hy => by have : y < nP N := row.2.2.1 y hy; omega) row.2.1 _ ((mSet_no (by simp)).trans ((mSet_no (by simp)).trans g32)) (fun j hj => (mSet_no (by simp)).trans ((mSet_no (by simp)).trans (g31 j hj))))) ?_
          refine ⟨⟨by omega, by omega⟩, ?_⟩
          exact fin _ (by rw [hbE, hxs])
      · have hq5 : q = 500 := by omega
        subst hq5
        unfold mkK
        rw [gres_spent (Nat.le_refl _)]
        refine ⟨rfl, ((f2 _ _ _ (by simp)).trans e3).trans (if_neg (by decide)).symm, (fun p x _ z => absurd (show 500 + p < 500 from z) (by omega)), (fun t k ht hk => f2 _ _ _ (by omega)), f.tr (farQ2.ofN f2)⟩
theorem c_Proof_make (N : nN) (o : nOk N) (hcl : nClear N) (hm : 0 < opM N) (h : mMem) (e : fB h (opM N) (oN N)) (e6 : h 0 0 6 = 0) (eC : isC h 1 N) : mCon l g n_Proof_make (d + 11) [.inr (6, 0), .inr (0, 0)] h (mkK N (opM N) (oN N) 0 (eN N) h h) := by
  have ho := opO_of o
  refine e_Proof_make (fun hv hm => ?_)
  refine mGo_wp h_Proof_make 120 [2] ?_
  have h0 := (oN_mem (N := N) (i := 0) ‹0 < opM N›).2
  exact l_make N (opM N) (oN N) ho h (eN N) 0 (nT N) 0 none h (by rw [rem_start h0 ‹0 < opM N›]; rfl) (kds_cpE N (opM N) (oN N) ho.2.2 (opM N) 0 (nT N) (by omega) hcl (fun a _ ha => (oN_mem ha).2)) (cuB_of o ‹0 < opM N›) e eC e6 rfl farQ2.rf (by omega)
end KProve
