/-! fill of both sides -/
noncomputable def eN (N : nN) : List eV := kds (nC N) (oN N) (Dg N (opM N) (oN N)) (opM N) 0 (nT N)
noncomputable def fR (N : nN) (most : Nat) : Int × Nat × Option bT := if qB (nClear N) = true then frs N (opM N) (oN N) most (opM N) 0 (nT N) 0 else (0, 0, none)
noncomputable def spFill (S : sS) (n : Int) : Int × sS := if 1 ≤ n ∧ n ≤ 20000 then (match (fR S.1 n.toNat).2.2 with
  | some T => (1, (nSetT S.1 T, hpush S.2.1 S.1, ((fR S.1 n.toNat).2.1 : Nat), 0, S.2.2.2.2))
  | none => if (fR S.1 n.toNat).1 = -1 then (vSPENT, S) else (0, (S.1, S.2.1, ((fR S.1 n.toNat).2.1 : Nat), S.2.2.2))) else (vBAD, S)
theorem fR_bd (N : nN) (most : Nat) : (fR N most).2.1 ≤ most ∧ ((fR N most).1 = 0 ∨ (fR N most).1 = 1 ∨ (fR N most).1 = -1) ∧ ((fR N most).1 = 1 ↔ (fR N most).2.2 ≠ none) := by
  unfold fR
  split
  · unfold frs
    split
    · exact ⟨Nat.zero_le _, Or.inr (Or.inl rfl), ⟨fun _ => by simp, fun _ => rfl⟩⟩
    · have := gres_bd N (opM N) (oN N) most (kds (nC N) (oN N) (Dg N (opM N) (oN N)) (opM N) 0 (nT N)) 0 (Nat.zero_le _)
      exact ⟨this.2.1, this.2.2.2.2.1, this.2.2.2.2.2⟩
  · exact ⟨Nat.zero_le _, Or.inl rfl, ⟨fun z => absurd (show (0 : Int) = 1 from z) (by decide), fun z => absurd rfl z⟩⟩
theorem kds_ok (N : nN) (o : Nat → Nat) (m : Nat) (ho : ∀ i, i < m → o i < js (nP N)) (D : Nat → bT → Prop) : ∀ (j i : Nat) (T : bT), i + j = m → nOk (nSetT N T) → ∀ x ∈ kds (nC N) o D j i T, nOk (nSetT N x.2) ∧ x.1 < m ∧ 0 ≤ x.2 (o x.1)
  | 0, i, T, _, _, x, hx => by cases hx
  | j + 1, i, T, hm, h, x, hx => by
    obtain ⟨c, hc, h1⟩ := List.mem_flatMap.mp hx
    have hc2 : c < nC N := by
      have := List.mem_range'_1.mp hc
      omega
    have oc : nOk (nSetT N (tSet T (o i) (c : Nat))) := nOk_tone h (k := o i) (ho i (by omega)) ⟨by omega, by show (c : Int) < nC N; omega⟩
    rcases List.mem_cons.mp h1 with rfl | h1
    · refine ⟨oc, by show i < m; omega, ?_⟩
      show 0 ≤ (if o i = o i then ((c : Nat) : Int) else T (o i))
      rw [if_pos rfl]
      omega
    · split at h1
      · exact kds_ok N o m ho D j (i + 1) _ (by omega) oc x h1
      · cases h1
theorem gon_mem (N : nN) (m : Nat) (o : Nat → Nat) (most : Nat) : ∀ (R : List eV) (D0 : Nat) (x : eV) (R' : List eV), (gon N m o most D0 R).2.2 = some (x, R') → x ∈ R
  | [], D0, x, R', h => by cases h
  | y :: R, D0, x, R', h => by
    have h : (if most ≤ D0 then ((-1, D0, none) : Int × Nat × Option (eV × List eV)) else if qB (fo N m o y) = true then (1, D0 + 1, some (y, R)) else gon N m o most (D0 + 1) R).2.2 = some (x, R') := h
    split at h
    · cases h
    · split at h
      · cases h
        exact List.mem_cons_self
      · exact List.mem_cons_of_mem _ (gon_mem N m o most R (D0 + 1) x R' h)
theorem fR_ok {N : nN} (o : nOk N) (most : Nat) {T : bT} (h : (fR N most).2.2 = some T) : nOk (nSetT N T) := by
  unfold fR at h
  split at h
  · unfold frs at h
    split at h
    · cases h
      exact o
    · unfold gres at h
      cases hx : (gon N (opM N) (oN N) most 0 (kds (nC N) (oN N) (Dg N (opM N) (oN N)) (opM N) 0 (nT N))).2.2 with
      | none =>
        have h : (gon N (opM N) (oN N) most 0 (kds (nC N) (oN N) (Dg N (opM N) (oN N)) (opM N) 0 (nT N))).2.2.map (fun y => y.1.2) = some T := h
        rw [hx] at h
        cases h
      | some y =>
        have h : (gon N (opM N) (oN N) most 0 (kds (nC N) (oN N) (Dg N (opM N) (oN N)) (opM N) 0 (nT N))).2.2.map (fun y => y.1.2) = some T := h
        rw [hx] at h
        cases h
        exact (kds_ok N (oN N) (opM N) (fun i hi => (oN_mem hi).1) _ (opM N) 0 (nT N) (by omega) o y.1 (gon_mem N _ _ _ _ _ y.1 y.2 hx)).1
  · cases h
theorem sOk_fill {S : sS} (o : sOk S) (n : Int) : sOk (spFill S n).2 := by
  unfold spFill
  split
  · cases hx : (fR S.1 n.toNat).2.2 with
    | none =>
      dsimp only
      split
      · exact o
      · exact o
    | some T =>
      have := sOk_to o (fR_ok o.1 _ hx)
      exact ⟨this.1, this.2.1, this.2.2.1, Nat.zero_le _⟩
  · exact o
section Fill
variable {l : Launch} {g : mG} {d : Nat}
def farZ2 (h h' : mMem) : Prop := ∀ (t : Nat) (i : Fin 8) (k : Nat), ¬ (t = 42 ∨ (44 ≤ t ∧ t ≤ 48) ∨ t = 55 ∨ (t = 9 ∧ ((9 ≤ k ∧ k ≤ 15) ∨ k = 17 ∨ (39 ≤ k ∧ k ≤ 41) ∨ k = 44 ∨ k = 45))) → h' t i k = h t i k
theorem farZ2.tr {h h1 h2 : mMem} (a : farZ2 h h1) (b : farZ2 h1 h2) : farZ2 h h2 := fun t j k z => (b t j k z).trans (a t j k z)
theorem farZ2.ofZ {h h1 : mMem} (a : farZ h h1) : farZ2 h h1 := fun t j k z => a t j k (fun y => z (by omega))
theorem farZ2.ofX {h h1 : mMem} (a : farX h h1) : farZ2 h h1 := fun t j k z => a t j k (fun y => z (by omega))
theorem farZ2.chg {h h1 : mMem} (a : farZ2 h h1) (b : ∀ k, h1 55 0 k = h 55 0 k) : ∀ (t : Nat) (i : Fin 8) (k : Nat), ¬ ((40 ≤ t ∧ t ≤ 42) ∨ (44 ≤ t ∧ t ≤ 54) ∨ t = 56 ∨ (t = 55 ∧ i ≠ 0) ∨ (t = 9 ∧ k ≠ 6 ∧ k ≠ 38 ∧ k ≠ 43)) → h1 t i k = h t i k := fun t i k z => by
  by_cases h55 : t = 55 ∧ i = 0
  · obtain ⟨rfl, rfl⟩ := h55
    exact b k
  · refine a t i k (fun y => z ?_)
    rcases y with y | y | y | y
    · exact Or.inl (by omega)
    · exact Or.inr (Or.inl (by omega))
    · exact Or.inr (Or.inr (Or.inr (Or.inl ⟨y, fun w => h55 ⟨y, w⟩⟩)))
    · exact Or.inr (Or.inr (Or.inr (Or.inr (by omega))))
theorem RM_new5 {h h' : mMem} {S : sS} {N : nN} (e : RM h S) (q : ∀ (t : Nat) (i : Fin 8) (k : Nat), ¬ ((40 ≤ t ∧ t ≤ 42) ∨ (44 ≤ t ∧ t ≤ 54) ∨ t = 56 ∨ (t = 55 ∧ i ≠ 0) ∨ (t = 9 ∧ k ≠ 6 ∧ k ≠ 38 ∧ k ≠ 43)) → h' t i k = h t i k) (eN : isM h' N) : RM h' (N, S.2) := by
  obtain ⟨a, ⟨b1, b2, b3⟩, c, d1, d2⟩ := e
  refine ⟨eN, ⟨(q _ _ _ (by decide)).trans b1, b2, fun e N hN => isB_out (fun x _ _ => q 43 0 x (by omega)) (b3 e N hN)⟩, (q _ _ _ (by decide)).trans c, (q _ _ _ (by decide)).trans d1, fun i hi => ?_⟩
  rw [q 55 0 _ (by simp), q 55 0 _ (by simp), q 55 0 _ (by simp)]
  exact d2 i hi
theorem only5 {h h' : mMem} (q : ∀ (t : Nat) (i : Fin 8) (k : Nat), ¬ ((40 ≤ t ∧ t ≤ 42) ∨ (44 ≤ t ∧ t ≤ 54) ∨ t = 56 ∨ (t = 55 ∧ i ≠ 0) ∨ (t = 9 ∧ k ≠ 6 ∧ k ≠ 38 ∧ k ≠ 43)) → h' t i k = h t i k) : onlyM h h' := fun t i k z => q t i k (fun y => z (by omega))
abbrev flK (N : nN) (pv most : Nat) (h : mMem) : Option mRV → mMem → Prop := fun v h' => v = some (.inl (mBc ((fR N most).1 = 1))) ∧ h' 9 0 39 = ((fR N most).2.1 : Nat) ∧ h' 9 0 41 = mBc ((fR N most).1 = -1) ∧ (pv = 1 → h' 9 0 45 = ((fR N most).2.1 : Nat)) ∧ isM h' (nSetT N ((fR N most).2.2.getD (nT N))) ∧ (pv = 1 → rowsM h' (oN N) N 0 (eN N) (fR N most).2.1) ∧ (∀ k, (3 * (fR N most).2.1 ≤ k ∨ pv = 0) → h' 55 0 k = h 55 0 k) ∧ farZ2 h h'
theorem c_M_fills (N : nN) (o : nOk N) (pv most : Nat) (hpv : pv = 0 ∨ (pv = 1 ∧ most ≤ 500)) (hmost : most ≤ 20000) (h : mMem) (e : isM h N) : mCon l g n_M_fills (d + 80) [.inr (9, 0), .inl most, .inl pv] h (flK N pv most h) := by
  have ho := opO_of o
  have hm66 := ho.1
  have hpv01 : ((pv : Nat) : Int) = 0 ∨ ((pv : Nat) : Int) = 1 := by omega
  refine e_M_fills (fun hv hm => ?_)
  refine mGo_wp h_M_fills 60 [25] ?_
  refine ⟨Or.inl rfl, hpv01, ?_⟩
  have main : ∀ (h1 : mMem), isM h1 N → h1 9 0 39 = 0 → h1 9 0 40 = (most : Nat) → h1 9 0 41 = 0 → h1 9 0 44 = (pv : Nat) → h1 9 0 45 = 0 → (∀ k, h1 55 0 k = h 55 0 k) → farZ2 h h1 → mGo l g (mMt n_M_fills) (d + 80) 25 [some (.inr (9, 0)), some (.inl (most : Nat)), some (.inl (pv : Nat))] [] h1 (flK N pv most h) := by
    intro h1 e1 a39 a40 a41 a44 a45 a55 f1
    refine mGo_wp h_M_fills 60 [] ?_
    refine mCall_on2 (mCon_lift (by omega) (c_M_isClear (d := d) N o h1 e1)) ?_
    rintro r h2 ⟨rfl, f2⟩
    have e2 := isM_farX e1 f2
    unfold flK
    by_cases hcl : nClear N
    · have hfr : fR N most = frs N (opM N) (oN N) most (opM N) 0 (nT N) 0 := if_pos (qB_t hcl)
      rw [mBc_t hcl, hfr]
      refine ⟨fun z => absurd z (by decide), fun _ => ?_⟩
      have q := s_fillFrom (l := l) (g := g) (d := d) N (opM N) (oN N) ho (fun a b h1 h2 => oN_lt h1 h2) o.1.2 o.2.1 pv most hpv hmost (opM N) 0 (nT N) 0 h2 (by omega) o hcl bareI_0 e2 ((f2 _ _ _ (by decide)).trans a39) ((f2 _ _ _ (by decide)).trans a40) ((f2 _ _ _ (by decide)).trans a41) ((f2 _ _ _ (by decide)).trans a44) (fun _ => (f2 _ _ _ (by decide)).trans a45) (Nat.zero_le _)
      refine mCall_on2 (mCon_lift (by omega) q) ?_
      rintro r h3 ⟨rfl, p39, p41, p45, p5, pR, p55, f3⟩
      have fin : h3 9 0 39 = ((frs N (opM N) (oN N) most (opM N) 0 (nT N) 0).2.1 : Nat) ∧ h3 9 0 41 = mBc ((frs N (opM N) (oN N) most (opM N) 0 (nT N) 0).1 = -1) ∧ (pv = 1 → h3 9 0 45 = ((frs N (opM N) (oN N) most (opM N) 0 (nT N) 0).2.1 : Nat)) ∧ isM h3 (nSetT N ((frs N (opM N) (oN N) most (opM N) 0 (nT N) 0).2.2.getD (nT N))) ∧ (pv = 1 → rowsM h3 (oN N) N 0 (eN N) (frs N (opM N) (oN N) most (opM N) 0 (nT N) 0).2.1) ∧ (∀ k, (3 * (frs N (opM N) (oN N) most (opM N) 0 (nT N) 0).2.1 ≤ k ∨ pv = 0) → h3 55 0 k = h 55 0 k) ∧ farZ2 h h3 :=
        ⟨p39, p41, p45, p5, pR, fun k hk => (p55 k (Or.inr hk)).trans ((f2 _ _ _ (by omega)).trans (a55 k)), f1.tr ((farZ2.ofX f2).tr (farZ2.ofZ f3))⟩
      refine ⟨fun z => ⟨Or.inl rfl, by rw [z], fin⟩, fun z => ⟨Or.inr rfl, ?_, fin⟩⟩
      rw [mBc_t (mBc_ne0.mp z)]
    · have hfr : fR N most = (0, 0, none) := if_neg (qB_no hcl)
      rw [mBc_f hcl, hfr]
      refine ⟨fun _ => ⟨Or.inl rfl, by rw [mBc_f (show ¬ ((0 : Int) = 1) by decide)], (f2 _ _ _ (by decide)).trans a39, ?_, fun _ => (f2 _ _ _ (by decide)).trans a45, e2, (fun _ q x _ hq => absurd (show 0 + q < 0 from hq) (by omega)), fun k _ => (f2 _ _ _ (by omega)).trans (a55 k), f1.tr (farZ2.ofX f2)⟩, fun z => absurd rfl z⟩
      rw [f2 _ _ _ (by decide), a41, mBc_f (show ¬ ((0 : Int) = -1) by decide)]
  refine main _ (isM_far9 (isM_far9 (isM_far9 (isM_far9 (isM_far9 e (by decide)) (by decide)) (by decide)) (by decide)) (by decide)) ?_ ?_ ?_ ?_ (mSet_at _ _ _ _ _) (fun k => ?_) (fun t i k z => ?_)
  · rw [mSet_no (by simp), mSet_no (by simp), mSet_no (by simp), mSet_no (by simp), mSet_at]
  · rw [mSet_no (by simp), mSet_no (by simp), mSet_no (by simp), mSet_at]
  · rw [mSet_no (by simp), mSet_no (by simp), mSet_at]
  · rw [mSet_no (by simp), mSet_at]
  · rw [mSet_no (by simp), mSet_no (by simp), mSet_no (by simp), mSet_no (by simp), mSet_no (by simp)]
  · rw [mSet_no (fun y => z (by omega)), mSet_no (fun y => z (by omega)), mSet_no (fun y => z (by omega)), mSet_no (fun y => z (by omega)), mSet_no (fun y => z (by omega))]
theorem RM_tries {h : mMem} {S : sS} (e : RM h S) (t : Int) : RM (mSet h 9 0 38 t) (S.1, S.2.1, t, S.2.2.2) := by
  obtain ⟨a, ⟨b1, b2, b3⟩, c, d1, d2⟩ := e
  refine ⟨isM_far9 a (by decide), ⟨(mSet_no (by simp)).trans b1, b2, fun e N hN => isB_out (fun x _ _ => mSet_no (by simp)) (b3 e N hN)⟩, mSet_at _ _ _ _ _, (mSet_no (by simp)).trans d1, fun i hi => ?_⟩
  rw [mSet_no (by simp), mSet_no (by simp), mSet_no (by simp)]
  exact d2 i hi
theorem s_M_fill (n : Int) (h : mMem) (S : sS) (o : sOk S) (e : RM h S) : mCon l g n_M_fill (d + 81) [.inr (9, 0), .inl n] h (fun r h' => r = some (.inl (spFill S n).1) ∧ RM h' (spFill S n).2 ∧ onlyM h h') := by
  refine e_M_fill (fun hv hm => ?_)
  refine mGo_wp h_M_fill 120 [60] ?_
  unfold spFill
  refine mCall_is (c_M_isIn n 1 20000 h) ?_
  refine ⟨fun z => ?_, fun z => ?_⟩
  · have z := mB_ne0.mp z
    rw [if_pos z]
    obtain ⟨most, rfl⟩ := Int.eq_ofNat_of_zero_le (show 0 ≤ n by omega)
    rw [Int.toNat_natCast]
    refine mCall_is (mCon_lift (by omega) (c_M_layAside (d := d) h)) ?_
    have e1 : isM (mSeg h 49 0 0 66 (h 42 0)) S.1 := ⟨(mSeg_ne (by decide)).trans e.1.1, (mSeg_ne (by decide)).trans e.1.2.1, fun k hk => (mSeg_ne (by decide)).trans (e.1.2.2.1 k hk), fun k hk => (mSeg_ne (by decide)).trans (e.1.2.2.2.1 k hk), fun k hk => (mSeg_ne (by decide)).trans (e.1.2.2.2.2 k hk)⟩
    refine mCall_on2 (c_M_fills S.1 o.1 0 most (Or.inl rfl) (by omega) _ e1) ?_
    rintro r h2 ⟨rfl, p39, p41, -, p5, -, p55, f2⟩
    have fb := fR_bd S.1 most
    have q2 : ∀ (t : Nat) (i : Fin 8) (k : Nat), ¬ ((40 ≤ t ∧ t ≤ 42) ∨ (44 ≤ t ∧ t ≤ 54) ∨ t = 56 ∨ (t = 55 ∧ i ≠ 0) ∨ (t = 9 ∧ k ≠ 6 ∧ k ≠ 38 ∧ k ≠ 43)) → h2 t i k = h t i k := fun t i k y => by
      rw [f2.chg (fun k => p55 k (Or.inr rfl)) t i k y, mSeg_ne (by omega)]
    have a49 : ∀ k, k < 66 → h2 49 0 k = nT S.1 k := fun k hk => by
      rw [f2 _ _ _ (by omega), mSeg_in0 hk]
      exact e.1.2.2.2.2 k hk
    -- with the joins brought back
    have back : ∀ (h3 : mMem), (∀ k, k < 66 → h3 49 0 k = nT S.1 k) → h3 9 0 0 = ((nP S.1 : Nat) : Int) → h3 9 0 1 = ((nC S.1 : Nat) : Int) → (∀ k, k < 3 → h3 40 0 k = nK S.1 k) → (∀ k, k < 3 → h3 41 0 k = nS S.1 k) → isM (mSeg h3 42 0 0 66 (h3 49 0)) S.1 := fun h3 b1 b2 b3 b4 b5 =>
      ⟨(mSeg_ne (by decide)).trans b2, (mSeg_ne (by decide)).trans b3, fun k hk => (mSeg_ne (by decide)).trans (b4 k hk), fun k hk => (mSeg_ne (by decide)).trans (b5 k hk), fun k hk => (mSeg_in0 hk).trans (b1 k hk)⟩
    have q3 : ∀ (h3 : mMem), (∀ (t : Nat) (i : Fin 8) (k : Nat), ¬ ((40 ≤ t ∧ t ≤ 42) ∨ (44 ≤ t ∧ t ≤ 54) ∨ t = 56 ∨ (t = 55 ∧ i ≠ 0) ∨ (t = 9 ∧ k ≠ 6 ∧ k ≠ 38 ∧ k ≠ 43)) → mSeg h3 42 0 0 66 (h3 49 0) t i k = h3 t i k) := fun h3 t i k y => mSeg_ne (by omega)
    cases hx : (fR S.1 most).2.2 with
    | none =>
      rw [hx] at p5
      have hn1 : ¬ (fR S.1 most).1 = 1 := fun w => fb.2.2.mp w hx
      refine ⟨fun y => ?_, fun y => ?_⟩
      · -- not spent
        rw [p41] at y
        have hm1 := mBc_eq0.mp y
        rw [if_neg hm1, mBc_f hn1]
        refine ⟨fun w => absurd rfl w, fun _ => ?_⟩
        refine mCall_is (mCon_lift (by omega) (c_M_bring (d := d) _)) ?_
        rw [p39]
        have e3 := back (mSet h2 9 0 38 ((fR S.1 most).2.1 : Nat)) (fun k hk => (mSet_no (by simp)).trans (a49 k hk)) ((mSet_no (by simp)).trans p5.1) ((mSet_no (by simp)).trans p5.2.1) (fun k hk => (mSet_no (by simp)).trans (p5.2.2.1 k hk)) (fun k hk => (mSet_no (by simp)).trans (p5.2.2.2.1 k hk))
        have R2 : RM h2 (nSetT S.1 ((none : Option bT).getD (nT S.1)), S.2) := RM_new5 e q2 p5
        have R3 := RM_tries R2 ((fR S.1 most).2.1 : Nat)
        refine ⟨rfl, RM_new5 (N := S.1) R3 (q3 _) e3, fun t i k w => ?_⟩
        rw [mSeg_ne (by omega), mSet_no (fun u => w (by omega))]
        exact only5 q2 t i k w
      · rw [p41] at y
        have hm1 := mBc_ne0.mp y
        rw [if_pos hm1]
        refine mCall_is (mCon_lift (by omega) (c_M_bring (d := d) _)) ?_
        have e3 := back h2 a49 p5.1 p5.2.1 p5.2.2.1 p5.2.2.2.1
        have R2 : RM h2 (nSetT S.1 ((none : Option bT).getD (nT S.1)), S.2) := RM_new5 e q2 p5
        refine ⟨rfl, RM_new5 (N := S.1) R2 (q3 _) e3, fun t i k w => ?_⟩
        rw [mSeg_ne (by omega)]
        exact only5 q2 t i k w
    | some T =>
      rw [hx] at p5
      have p5 : isM h2 (nSetT S.1 T) := p5
      have h1 : (fR S.1 most).1 = 1 := fb.2.2.mpr (by rw [hx]; simp)
      have oT := fR_ok o.1 most hx
      rw [mBc_f (show ¬ (fR S.1 most).1 = -1 by omega)] at p41
      rw [mBc_t h1]
      refine ⟨fun _ => ⟨fun _ => ?_, fun w => absurd w (by decide)⟩, fun y => absurd p41 y⟩
      have loop : ∀ (m k : Nat) (x4 : Option mRV), k + m = 66 → mGo l g (mMt n_M_fill) (d + 81) 60 [some (.inr (9, 0)), some (.inl (most : Int)), some (.inl 1), some (.inl k), x4] [] (mSeg (mSeg (mSet h2 9 0 38 ((fR S.1 most).2.1 : Nat)) 49 0 0 k T) 42 0 0 k (nT S.1)) (fun r h' => r = some (.inl 1) ∧ RM h' (nSetT S.1 T, hpush S.2.1 S.1, ((fR S.1 most).2.1 : Nat), 0, S.2.2.2.2) ∧ onlyM h h') := by
        intro m
        induction m with
        | zero =>
          intro k x4 hk
          have hk66 : k = 66 := by omega
          subst hk66
          refine mGo_wp h_M_fill 120 [] ?_
          refine ⟨fun _ => ?_, fun y => by omega⟩
          have R2 : RM h2 (nSetT S.1 T, S.2) := RM_new5 e q2 p5
          have R3 := RM_tries R2 ((fR S.1 most).2.1 : Nat)
          have e4 : isM (mSeg (mSeg (mSet h2 9 0 38 ((fR S.1 most).2.1 : Nat)) 49 0 0 66 T) 42 0 0 66 (nT S.1)) S.1 := by
            refine ⟨?_, ?_, fun k hk => ?_, fun k hk => ?_, fun k hk => mSeg_in0 hk⟩
            · rw [mSeg_ne (by decide), mSeg_ne (by decide), mSet_no (by simp)]; exact p5.1
            · rw [mSeg_ne (by decide), mSeg_ne (by decide), mSet_no (by simp)]; exact p5.2.1
            · rw [mSeg_ne (by decide), mSeg_ne (by decide), mSet_no (by simp)]; exact p5.2.2.1 k hk
            · rw [mSeg_ne (by decide), mSeg_ne (by decide), mSet_no (by simp)]; exact p5.2.2.2.1 k hk
          have R4 : RM (mSeg (mSeg (mSet h2 9 0 38 ((fR S.1 most).2.1 : Nat)) 49 0 0 66 T) 42 0 0 66 (nT S.1)) (S.1, S.2.1, ((fR S.1 most).2.1 : Nat), S.2.2.2) := RM_new5 R3 (fun t i k y => by rw [mSeg_ne (by omega), mSeg_ne (by omega)]) e4
          refine mCall_on2 (mCon_lift (by omega) (s_keep (d := d) _ (S.1, S.2.1, ((fR S.1 most).2.1 : Nat), S.2.2.2) o R4)) ?_
          rintro r h5 ⟨rfl, e5, q5, f5⟩
          refine mCall_is (mCon_lift (by omega) (c_M_bring (d := d) _)) ?_
          have a5 : ∀ k, k < 66 → h5 49 0 k = T k := fun k hk => by
            rw [f5 49 0 k (by decide) (Or.inl (by decide)), mSeg_ne (by decide), mSeg_in0 hk]
          refine ⟨rfl, RM_new5 (N := nSetT S.1 T) e5 (q3 _) ⟨(mSeg_ne (by decide)).trans e5.1.1, (mSeg_ne (by decide)).trans e5.1.2.1, fun k hk => (mSeg_ne (by decide)).trans (e5.1.2.2.1 k hk), fun k hk => (mSeg_ne (by decide)).trans (e5.1.2.2.2.1 k hk), fun k hk => (mSeg_in0 hk).trans (a5 k hk)⟩, fun t i k w => ?_⟩
          rw [mSeg_ne (by omega), q5 t i k w, mSeg_ne (by omega), mSeg_ne (by omega), mSet_no (fun u => w (by omega))]
          exact only5 q2 t i k w
        | succ m ih =>
          intro k x4 hk
          refine mGo_wp h_M_fill 120 [60] ?_
          have r49 : mSeg (mSeg (mSet h2 9 0 38 ((fR S.1 most).2.1 : Nat)) 49 0 0 k T) 42 0 0 k (nT S.1) 49 0 (Int.toNat (k : Int)) = nT S.1 k := by
            rw [mSeg_ne (by decide), Int.toNat_natCast, mSeg_out (by omega), mSet_no (by simp)]
            exact a49 k (by omega)
          have r42 : mSeg (mSeg (mSet h2 9 0 38 ((fR S.1 most).2.1 : Nat)) 49 0 0 k T) 42 0 0 k (nT S.1) 42 0 (Int.toNat (k : Int)) = T k := by
            rw [Int.toNat_natCast, mSeg_out (by omega), mSeg_ne (by decide), mSet_no (by simp)]
            exact p5.2.2.2.2 k (by omega)
          refine ⟨fun y => by omega, fun _ => ⟨⟨by omega, by omega⟩, ⟨by omega, by omega⟩, ⟨by omega, by omega⟩, ⟨by omega, by omega⟩, ?_⟩⟩
          have q := ih (k + 1) (some (.inl (nT S.1 k))) (by omega)
          show mGo l g _ _ 60 [_, _, _, some (.inl (mWr ((k : Int) + 1))), some (.inl (mSeg (mSeg (mSet h2 9 0 38 ((fR S.1 most).2.1 : Nat)) 49 0 0 k T) 42 0 0 k (nT S.1) 49 0 (Int.toNat (k : Int))))] [] (mSet (mSet (mSeg (mSeg (mSet h2 9 0 38 ((fR S.1 most).2.1 : Nat)) 49 0 0 k T) 42 0 0 k (nT S.1)) 49 0 (Int.toNat (k : Int)) (mSeg (mSeg (mSet h2 9 0 38 ((fR S.1 most).2.1 : Nat)) 49 0 0 k T) 42 0 0 k (nT S.1) 42 0 (Int.toNat (k : Int)))) 42 0 (Int.toNat (k : Int)) (mSeg (mSeg (mSet h2 9 0 38 ((fR S.1 most).2.1 : Nat)) 49 0 0 k T) 42 0 0 k (nT S.1) 49 0 (Int.toNat (k : Int)))) _
          rw [r49, r42, Int.toNat_natCast, mWr_of ⟨by omega, by omega⟩]
          have hsw : mSet (mSet (mSeg (mSeg (mSet h2 9 0 38 ((fR S.1 most).2.1 : Nat)) 49 0 0 k T) 42 0 0 k (nT S.1)) 49 0 k (T k)) 42 0 k (nT S.1 k) = mSeg (mSeg (mSet h2 9 0 38 ((fR S.1 most).2.1 : Nat)) 49 0 0 (k + 1) T) 42 0 0 (k + 1) (nT S.1) := by
            rw [← mSeg_succ, Nat.zero_add, ← mSeg_succ, Nat.zero_add]
            funext t' i' q'
            by_cases h42 : t' = 42
            · subst h42
              by_cases hq : i' = 0 ∧ q' = k
              · obtain ⟨rfl, rfl⟩ := hq
                rw [mSet_at, mSet_at]
              · rw [mSet_no (fun y => hq y.2), mSet_no (by simp), mSet_no (fun y => hq y.2)]
                by_cases hz : i' = 0 ∧ q' < k
                · obtain ⟨rfl, hz⟩ := hz
                  rw [mSeg_in0 hz, mSeg_in0 hz]
                · have ez : ∀ h : mMem, mSeg h 42 0 0 k (nT S.1) 42 i' q' = h 42 i' q' := fun h => if_neg (fun y => hz ⟨y.2.1, by omega⟩)
                  rw [ez, ez, mSet_no (by simp)]
            · rw [mSet_no (fun y => h42 y.1), mSet_no (t' := t') (t := 42) (fun y => h42 y.1), mSeg_ne h42]
              by_cases hq : t' = 49 ∧ i' = 0 ∧ q' = k
              · obtain ⟨rfl, rfl, rfl⟩ := hq
                rw [mSet_at, mSet_at]
              · rw [mSet_no hq, mSet_no hq, mSeg_ne h42]
          rw [hsw]
          exact q
      have q := loop 66 0 none (by omega)
      rw [mSeg_zero, mSeg_zero] at q
      rw [← p39] at q
      show mGo l g _ _ 60 [_, _, _, some (.inl 0), _] [] (mSet h2 9 0 38 (h2 9 0 39)) _
      rw [p39] at q ⊢
      exact q
  · rw [if_neg (mB_eq0.mp z)]
    exact ⟨rfl, e, onlyM.rf⟩
end Fill
