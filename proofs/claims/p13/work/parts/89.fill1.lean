/-! fillFrom -/
def farZ (h h' : mMem) : Prop := ∀ (t : Nat) (i : Fin 8) (k : Nat), ¬ (t = 42 ∨ (44 ≤ t ∧ t ≤ 48) ∨ t = 55 ∨ (t = 9 ∧ ((9 ≤ k ∧ k ≤ 15) ∨ k = 17 ∨ k = 39 ∨ k = 41 ∨ k = 45))) → h' t i k = h t i k
theorem farZ.rf {h : mMem} : farZ h h := fun _ _ _ _ => rfl
theorem farZ.tr {h h1 h2 : mMem} (a : farZ h h1) (b : farZ h1 h2) : farZ h h2 := fun t j k z => (b t j k z).trans (a t j k z)
theorem farZ.ofX {h h1 : mMem} (a : farX h h1) : farZ h h1 := fun t j k z => a t j k (fun y => z (by omega))
noncomputable def frs (N : nN) (m : Nat) (o : Nat → Nat) (most j i : Nat) (T : bT) (D0 : Nat) : Int × Nat × Option bT := if j = 0 then (1, D0, some T) else gres N m o most D0 (kds (nC N) o (Dg N m o) j i T)
abbrev ffK (N : nN) (m : Nat) (o : Nat → Nat) (pv most : Nat) (T : bT) (D0 : Nat) (E : List eV) (r : Int × Nat × Option bT) (h : mMem) : Option mRV → mMem → Prop := fun v h' => v = some (.inl (mBc (r.1 = 1))) ∧ h' 9 0 39 = (r.2.1 : Nat) ∧ h' 9 0 41 = mBc (r.1 = -1) ∧ (pv = 1 → h' 9 0 45 = (r.2.1 : Nat)) ∧ isM h' (nSetT N (r.2.2.getD T)) ∧ (pv = 1 → rowsM h' o N D0 E r.2.1) ∧ (∀ k, (k < 3 * D0 ∨ 3 * r.2.1 ≤ k ∨ pv = 0) → h' 55 0 k = h 55 0 k) ∧ farZ h h'
theorem isM_far9 {h : mMem} {N : nN} {k : Nat} {v : Int} (e : isM h N) (hk : k ≠ 0 ∧ k ≠ 1) : isM (mSet h 9 0 k v) N :=
  ⟨(mSet_no (fun z => hk.1 z.2.2.symm)).trans e.1, (mSet_no (fun z => hk.2 z.2.2.symm)).trans e.2.1, fun q hq => (mSet_no (by simp)).trans (e.2.2.1 q hq), fun q hq => (mSet_no (by simp)).trans (e.2.2.2.1 q hq), fun q hq => (mSet_no (by simp)).trans (e.2.2.2.2 q hq)⟩
theorem isM_far55 {h : mMem} {N : nN} {k : Nat} {v : Int} (e : isM h N) : isM (mSet h 55 0 k v) N :=
  ⟨(mSet_no (by simp)).trans e.1, (mSet_no (by simp)).trans e.2.1, fun q hq => (mSet_no (by simp)).trans (e.2.2.1 q hq), fun q hq => (mSet_no (by simp)).trans (e.2.2.2.1 q hq), fun q hq => (mSet_no (by simp)).trans (e.2.2.2.2 q hq)⟩
section Fill1
variable {l : Launch} {g : mG} {d : Nat}
theorem s_fillFrom (N : nN) (m : Nat) (o : Nat → Nat) (ho : opO N m o) (hmono : ∀ a b, a < b → b < m → o a < o b) (hP : nP N ≤ 12) (hC : 2 ≤ nC N ∧ nC N ≤ 3) (pv most : Nat) (hpv : pv = 0 ∨ (pv = 1 ∧ most ≤ 500)) (hmost : most ≤ 20000) :
    ∀ (j i : Nat) (T : bT) (D0 : Nat) (h : mMem), i + j = m → nOk (nSetT N T) → nClear (nSetT N T) → bareI N m o i T → isM h (nSetT N T) → h 9 0 39 = (D0 : Nat) → h 9 0 40 = (most : Nat) → h 9 0 41 = 0 → h 9 0 44 = (pv : Nat) → (pv = 1 → h 9 0 45 = (D0 : Nat)) → D0 ≤ most →
    mCon l g n_M_fillFrom (d + 13 + j) [.inr (9, 0)] h (ffK N m o pv most T D0 (kds (nC N) o (Dg N m o) j i T) (frs N m o most j i T D0) h) := by
  have h66 := js_le (nP N) (by omega)
  have hm66 := ho.1
  intro j
  induction j with
  | zero =>
    intro i T D0 h hij oT hcl hb e e39 e40 e41 e44 e45 hD
    refine e_M_fillFrom (fun hv hm => ?_)
    refine mGo_wp h_M_fillFrom 120 [] ?_
    refine mCall_is (mCon_lift (show d + 1 ≤ d + 12 by omega) (c_M_nextBare (d := d) N m o ho hmono i T oT hb h e)) ?_
    rw [if_neg (show ¬ i < m by omega)]
    have hf : frs N m o most 0 i T D0 = (1, D0, some T) := if_pos rfl
    unfold ffK
    rw [hf]
    refine ⟨fun z => absurd z (by decide), fun _ => ⟨Or.inr rfl, by rw [mBc_t rfl], e39, by rw [e41, mBc_f (show ¬ ((1 : Int) = -1) by decide)], e45, e, (fun _ q x hx => by cases hx), fun _ _ => rfl, farZ.rf⟩⟩
  | succ j ih =>
    intro i T D0 h hij oT hcl hb e e39 e40 e41 e44 e45 hD
    show mCon l g n_M_fillFrom (d + 13 + j + 1) _ _ _
    have him : i < m := by omega
    have hoi := ho.2.1 i him
    have hTi : T (o i) = -1 := (hb (o i) hoi).mpr ⟨i, Nat.le_refl _, him, rfl⟩
    have hfr : frs N m o most (j + 1) i T D0 = gres N m o most D0 (kds (nC N) o (Dg N m o) (j + 1) i T) := if_neg (by omega)
    have gb := gres_bd N m o most (kds (nC N) o (Dg N m o) (j + 1) i T) D0 hD
    rw [hfr]
    have loop : ∀ (n c : Nat) (pre : List eV) (D1 : Nat) (v : Int) (x3 : Option mRV) (h1 : mMem), c + n = nC N → pre ++ kdF (nC N) o (Dg N m o) j i T c n = kds (nC N) o (Dg N m o) (j + 1) i T → D1 = D0 + pre.length → gres N m o most D0 (kds (nC N) o (Dg N m o) (j + 1) i T) = gres N m o most D1 (kdF (nC N) o (Dg N m o) j i T c n) → D1 ≤ most → isM h1 (nSetT N (tSet T (o i) v)) → h1 9 0 39 = (D1 : Nat) → h1 9 0 41 = 0 → (pv = 1 → h1 9 0 45 = (D1 : Nat)) → (pv = 1 → rowsM h1 o N D0 pre D1) → (∀ k, (k < 3 * D0 ∨ 3 * D1 ≤ k ∨ pv = 0) → h1 55 0 k = h 55 0 k) → farZ h h1 →
        mGo l g (mMt n_M_fillFrom) (d + 13 + j + 1) 13 [some (.inr (9, 0)), some (.inl (o i : Nat)), some (.inl c), x3] [] h1 (ffK N m o pv most T D0 (kds (nC N) o (Dg N m o) (j + 1) i T) (gres N m o most D0 (kds (nC N) o (Dg N m o) (j + 1) i T)) h) := by
      intro n
      induction n with
      | zero =>
        intro c pre D1 v x3 h1 hc hpre hD1 hg hDm e1 a39 a41 a45 aR a55 f1
        refine mGo_wp h_M_fillFrom 120 [13] ?_
        have e11 : h1 9 0 1 = ((nC N : Nat) : Int) := e1.2.1
        have hk0 : kdF (nC N) o (Dg N m o) j i T c 0 = [] := rfl
        rw [hk0, gres_nil] at hg
        rw [hk0, List.append_nil] at hpre
        unfold ffK
        rw [hg]
        refine ⟨fun _ => ⟨⟨by omega, by omega⟩, Or.inl rfl, by rw [mBc_f (show ¬ ((0 : Int) = 1) by decide)], (mSet_no (by simp)).trans a39, ?_, fun z => (mSet_no (by simp)).trans (a45 z), ?_, fun z => ?_, fun k hk => (mSet_no (by simp)).trans (a55 k hk), f1.tr (fun t b q z => mSet_no (fun y => z (by omega)))⟩, fun z => by rw [e11] at z; omega⟩
        · rw [mSet_no (by simp), a41, mBc_f (show ¬ ((0 : Int) = -1) by decide)]
        · rw [Int.toNat_natCast]
          exact isM_back e1 hTi
        · rw [← hpre]
          intro q x hx hq
          have := aR z q x hx hq
          rw [mSet_no (by simp), mSet_no (by simp), mSet_no (by simp)]
          exact this
      | succ n ihn =>
        intro c pre D1 v x3 h1 hc hpre hD1 hg hDm e1 a39 a41 a45 aR a55 f1
        refine mGo_wp h_M_fillFrom 120 [13, 137] ?_
        have e11 : h1 9 0 1 = ((nC N : Nat) : Int) := e1.2.1
        have a40 : h1 9 0 40 = (most : Nat) := (f1 _ _ _ (by decide)).trans e40
        have a44 : h1 9 0 44 = (pv : Nat) := (f1 _ _ _ (by decide)).trans e44
        rw [kdF_next] at hg hpre
        have hev : T (o i) = -1 := hTi
        refine ⟨fun z => by rw [e11] at z; omega, fun _ => ⟨fun z => ?_, fun z => ⟨Or.inr rfl, ⟨by omega, by omega⟩, Or.inl rfl, ?_⟩⟩⟩
        · rw [a39, a40] at z
          have hlt : ¬ most ≤ D1 := by omega
          refine ⟨⟨by omega, by omega⟩, ?_⟩
          have w1 : mWr (h1 9 0 39 + 1) = ((D1 + 1 : Nat) : Int) := by rw [a39, mWr_of ⟨by omega, by omega⟩]; omega
          have e2 : isM (mSet (mSet h1 9 0 39 (mWr (h1 9 0 39 + 1))) 42 0 (Int.toNat ((o i : Nat) : Int)) (c : Int)) (nSetT N (tSet T (o i) (c : Int))) := by
            rw [Int.toNat_natCast]
            have q : isM (mSet (mSet h1 9 0 39 (mWr (h1 9 0 39 + 1))) 42 0 (o i) (c : Int)) (nSetT N (tSet (tSet T (o i) v) (o i) (c : Int))) := isM_tone (isM_far9 e1 (by decide)) _ _
            rw [tSet_tSet] at q
            exact q
          have f2 : farZ h1 (mSet (mSet h1 9 0 39 (mWr (h1 9 0 39 + 1))) 42 0 (Int.toNat ((o i : Nat) : Int)) (c : Int)) := fun t b q z => by rw [mSet_no (fun y => z (by omega)), mSet_no (fun y => z (by omega))]
          have oc : nOk (nSetT N (tSet T (o i) (c : Int))) := nOk_tone oT (k := o i) hoi ⟨by omega, by show (c : Int) < nC N; omega⟩
          have hcN : c < nC (nSetT N T) := by show c < nC N; omega
          have key := clear_iff (N := nSetT N T) (e := o i) (c := c) hcN hTi hcl
          refine mCall_on2 (mCon_lift (by omega) (c_M_hasCopy (d := d) c (by omega) (nSetT N (tSet T (o i) (c : Int))) hP (oc.2.2.1 c (by omega)) _ e2)) ?_
          rintro r h3 ⟨rfl, w3, f3⟩
          have e3 := isM_farX e2 f3
          have f13 : farZ h1 h3 := f2.tr (farZ.ofX f3)
          have b39 : h3 9 0 39 = ((D1 + 1 : Nat) : Int) := by rw [f3 _ _ _ (by decide), mSet_no (by simp), mSet_at, w1]
          have b41 : h3 9 0 41 = 0 := by rw [f3 _ _ _ (by decide), mSet_no (by simp), mSet_no (by simp)]; exact a41
          have b44 : h3 9 0 44 = (pv : Nat) := by rw [f3 _ _ _ (by decide), mSet_no (by simp), mSet_no (by simp)]; exact a44
          have b45 : pv = 1 → h3 9 0 45 = (D1 : Nat) := fun q => by rw [f3 _ _ _ (by decide), mSet_no (by simp), mSet_no (by simp)]; exact a45 q
          have b55 : ∀ k, h3 55 0 k = h1 55 0 k := fun k => by rw [f3 _ _ _ (by omega), mSet_no (by simp), mSet_no (by simp)]
          -- behind the row
          have mid : ∀ (h4 : mMem), isM h4 (nSetT N (tSet T (o i) (c : Int))) → h4 9 0 39 = ((D1 + 1 : Nat) : Int) → h4 9 0 41 = 0 → (pv = 1 → h4 9 0 45 = ((D1 + 1 : Nat) : Int)) → (pv = 1 → rowsM h4 o N D0 (pre ++ [(i, tSet T (o i) (c : Nat))]) (D1 + 1)) → (∀ k, (k < 3 * D0 ∨ 3 * (D1 + 1) ≤ k ∨ pv = 0) → h4 55 0 k = h 55 0 k) → farZ h h4 →
              mGo l g (mMt n_M_fillFrom) (d + 13 + j + 1) 137 [some (.inr (9, 0)), some (.inl (o i : Nat)), some (.inl c), some (.inl (mBc (cpL (nSetT N (tSet T (o i) (c : Int))) c 0 ≠ [])))] [] h4 (ffK N m o pv most T D0 (kds (nC N) o (Dg N m o) (j + 1) i T) (gres N m o most D0 (kds (nC N) o (Dg N m o) (j + 1) i T)) h) := by
            intro h4 e4 c39 c41 c45 cR c55 f4
            have d40 : h4 9 0 40 = (most : Nat) := (f4 _ _ _ (by decide)).trans e40
            have d44 : h4 9 0 44 = (pv : Nat) := (f4 _ _ _ (by decide)).trans e44
            have preLen : (pre ++ [(i, tSet T (o i) (c : Nat))]).length = pre.length + 1 := by rw [List.length_append]; rfl
            refine mGo_wp h_M_fillFrom 120 [13, 150] ?_
            by_cases hcp : cpL (nSetT N (tSet T (o i) (c : Int))) c 0 = []
            · rw [mBc_f (fun w => w hcp)]
              refine ⟨fun w => absurd rfl w, fun _ => ?_⟩
              have hthr := key.mpr hcp
              have hcl' : nClear (nSetT N (tSet T (o i) (c : Int))) := clear_set hcN hTi hcl hcp
              have q := ih (i + 1) (tSet T (o i) (c : Int)) (D1 + 1) h4 (by omega) oc hcl' (bareI_next ho him hb c) e4 c39 d40 c41 d44 c45 (by omega)
              refine mCall_on2 q ?_
              rintro r h5 ⟨rfl, p39, p41, p45, p5, pR, p55, f5⟩
              by_cases hj0 : j = 0
              · -- found
                have hfo : fo N m o (i, tSet T (o i) (c : Nat)) := ⟨hthr, by show ¬ i + 1 < m; omega⟩
                have hf1 : frs N m o most j (i + 1) (tSet T (o i) (c : Int)) (D1 + 1) = (1, D1 + 1, some (tSet T (o i) (c : Int))) := if_pos hj0
                rw [hf1] at p39 p41 p45 p5 p55 ⊢
                rw [gres_found hlt hfo] at hg
                unfold ffK
                rw [hg]
                rw [mBc_t (show ((1, D1 + 1, some (tSet T (o i) (c : Int))) : Int × Nat × Option bT).1 = 1 from rfl)]
                refine ⟨fun w => absurd w (by decide), fun _ => ⟨Or.inr rfl, rfl, p39, p41, p45, p5, fun q1 => ?_, fun k hk => ?_, f4.tr f5⟩⟩
                · rw [← hpre]
                  have h55 : ∀ k, k < 3 * (D1 + 1) → h5 55 0 k = h4 55 0 k := fun k hk => p55 k (Or.inl hk)
                  intro q x hx hq
                  have hq' : D0 + q < D1 + 1 := hq
                  have hx2 : (pre ++ [(i, tSet T (o i) (c : Nat))])[q]? = some x := by
                    by_cases y : q < pre.length
                    · rw [List.getElem?_append_left y] at hx ⊢
                      exact hx
                    · rw [List.getElem?_append_right (by omega)] at hx ⊢
                      have hq0 : q - pre.length = 0 := by omega
                      rw [hq0] at hx ⊢
                      exact hx
                  have := cR q1 q x hx2 hq'
                  rw [h55 _ (by omega), h55 _ (by omega), h55 _ (by omega)]
                  exact this
                · rcases hk with hk | hk | hk
                  · rw [p55 k (by have hk : k < 3 * D0 := hk; exact Or.inl (by omega))]
                    exact c55 k (Or.inl hk)
                  · have hk : 3 * (D1 + 1) ≤ k := hk
                    rw [p55 k (Or.inr (Or.inl hk))]
                    exact c55 k (Or.inr (Or.inl hk))
                  · rw [p55 k (Or.inr (Or.inr hk))]
                    exact c55 k (Or.inr (Or.inr hk))
              · have hfo : ¬ fo N m o (i, tSet T (o i) (c : Nat)) := fun w => w.2 (by show i + 1 < m; omega)
                have hDg : Dg N m o i (tSet T (o i) (c : Nat)) := ⟨hthr, by omega⟩
                have hf1 : frs N m o most j (i + 1) (tSet T (o i) (c : Int)) (D1 + 1) = gres N m o most (D1 + 1) (kds (nC N) o (Dg N m o) j (i + 1) (tSet T (o i) (c : Int))) := if_neg hj0
                rw [hf1] at p39 p41 p45 p5 pR p55 ⊢
                rw [if_pos (qB_t hDg)] at hg hpre
                rw [gres_next hlt hfo, gres_app] at hg
                have sb := gres_bd N m o most (kds (nC N) o (Dg N m o) j (i + 1) (tSet T (o i) (c : Int))) (D1 + 1) (by omega)
                generalize hsub : gres N m o most (D1 + 1) (kds (nC N) o (Dg N m o) j (i + 1) (tSet T (o i) (c : Int))) = sub at *
                have preR : pv = 1 → rowsM h5 o N D0 (pre ++ [(i, tSet T (o i) (c : Nat))] ++ kds (nC N) o (Dg N m o) j (i + 1) (tSet T (o i) (c : Int))) sub.2.1 := fun q1 => by
                  refine rowsM_app (fun q x hx hq => ?_) ?_
                  · have hq2 : q < pre.length + 1 := by
                      have := (List.getElem?_eq_some_iff.mp hx).1
                      rw [preLen] at this
                      exact this
                    have := cR q1 q x hx (by omega)
                    rw [p55 _ (Or.inl (by omega)), p55 _ (Or.inl (by omega)), p55 _ (Or.inl (by omega))]
                    exact this
                  · rw [preLen, show D0 + (pre.length + 1) = D1 + 1 by omega]
                    exact pR q1
                have g55 : ∀ k, (k < 3 * D0 ∨ 3 * sub.2.1 ≤ k ∨ pv = 0) → h5 55 0 k = h 55 0 k := fun k hk => by
                  rcases hk with hk | hk | hk
                  · rw [p55 k (Or.inl (by omega))]
                    exact c55 k (Or.inl hk)
                  · rw [p55 k (Or.inr (Or.inl hk))]
                    exact c55 k (Or.inr (Or.inl (by omega)))
                  · rw [p55 k (Or.inr (Or.inr hk))]
                    exact c55 k (Or.inr (Or.inr hk))
                have hpre' : pre ++ [(i, tSet T (o i) (c : Nat))] ++ kds (nC N) o (Dg N m o) j (i + 1) (tSet T (o i) (c : Int)) ++ kdF (nC N) o (Dg N m o) j i T (c + 1) n = kds (nC N) o (Dg N m o) (j + 1) i T := by
                  rw [← hpre, List.append_assoc, List.append_assoc]
                  rfl
                have allR : pv = 1 → D0 + (pre.length + 1 + (kds (nC N) o (Dg N m o) j (i + 1) (tSet T (o i) (c : Int))).length) ≥ sub.2.1 → rowsM h5 o N D0 (kds (nC N) o (Dg N m o) (j + 1) i T) sub.2.1 := fun q1 hlen => by
                  rw [← hpre']
                  refine rowsM_app (preR q1) (fun q x hx hq => ?_)
                  rw [List.length_append, preLen] at hq
                  omega
                have hlen3 : sub.2.1 ≤ D0 + (pre.length + 1 + (kds (nC N) o (Dg N m o) j (i + 1) (tSet T (o i) (c : Int))).length) := by
                  have := sb.2.2.1
                  omega
                by_cases hs1 : sub.1 = 1
                · rw [if_neg (show ¬ sub.1 = 0 by omega)] at hg
                  rw [mBc_t hs1]
                  refine ⟨fun w => absurd w (by decide), fun _ => ⟨Or.inr rfl, ?_⟩⟩
                  unfold ffK
                  rw [hg, mBc_t hs1]
                  obtain ⟨T5, hT5⟩ : ∃ T5, sub.2.2 = some T5 := by
                    cases hq : sub.2.2 with
                    | none => exact absurd hq (sb.2.2.2.2.2.mp hs1)
                    | some T5 => exact ⟨T5, rfl⟩
                  rw [hT5] at p5 ⊢
                  exact ⟨rfl, p39, p41, p45, p5, fun q1 => allR q1 hlen3, g55, f4.tr f5⟩
                · rw [mBc_f hs1]
                  have hnone : sub.2.2 = none := by
                    cases hq : sub.2.2 with
                    | none => rfl
                    | some T5 => exact absurd (sb.2.2.2.2.2.mpr (by rw [hq]; simp)) hs1
                  rw [hnone] at p5
                  refine ⟨fun _ => ?_, fun w => absurd rfl w⟩
                  refine mGo_wp h_M_fillFrom 120 [13] ?_
                  by_cases hs0 : sub.1 = 0
                  · rw [mBc_f (show ¬ (sub.1 = -1) by omega)] at p41
                    refine ⟨fun _ => ?_, fun w => absurd p41 w⟩
                    rw [if_pos hs0] at hg
                    have hd2 := sb.2.2.2.1 hs0
                    show mGo l g _ _ 13 [_, _, some (.inl (mWr ((c : Int) + 1))), _] [] h5 _
                    rw [mWr_of ⟨by omega, by omega⟩]
                    exact ihn (c + 1) _ sub.2.1 (c : Int) _ h5 (by omega) hpre' (by rw [List.length_append, preLen]; omega) hg sb.2.1 p5 p39 p41 p45 preR g55 (f4.tr f5)
                  · have hsm : sub.1 = -1 := by
                      rcases sb.2.2.2.2.1 with y | y | y
                      · exact absurd y hs0
                      · exact absurd y hs1
                      · exact y
                    rw [if_neg hs0] at hg
                    rw [mBc_t hsm] at p41
                    refine ⟨fun w => absurd (w.symm.trans p41) (by decide), fun _ => ⟨⟨by omega, by omega⟩, Or.inl rfl, ?_⟩⟩
                    unfold ffK
                    rw [hg, mBc_f hs1, mBc_t hsm, hnone]
                    refine ⟨rfl, (mSet_no (by simp)).trans p39, (mSet_no (by simp)).trans p41, fun q1 => (mSet_no (by simp)).trans (p45 q1), ?_, fun q1 q x hx hq => ?_, fun k hk => (mSet_no (by simp)).trans (g55 k hk), (f4.tr f5).tr (fun t b q y => mSet_no (fun u => y (by omega)))⟩
                    · rw [Int.toNat_natCast]
                      exact isM_back p5 hTi
                    · have := allR q1 hlen3 q x hx hq
                      rw [mSet_no (by simp), mSet_no (by simp), mSet_no (by simp)]
                      exact this
            · rw [mBc_t hcp]
              have hthr : ¬ thrN (nSetT N (tSet T (o i) (c : Nat))) (o i) = 0 := fun w => hcp (key.mp w)
              have hfo : ¬ fo N m o (i, tSet T (o i) (c : Nat)) := fun w => hthr w.1
              have hDg : ¬ Dg N m o i (tSet T (o i) (c : Nat)) := fun w => hthr w.1
              rw [if_neg (qB_no hDg), List.nil_append] at hg hpre
              rw [gres_next hlt hfo] at hg
              refine ⟨fun _ => ?_, fun w => absurd w (by decide)⟩
              refine mGo_wp h_M_fillFrom 120 [13] ?_
              refine ⟨fun _ => ?_, fun w => absurd c41 w⟩
              show mGo l g _ _ 13 [_, _, some (.inl (mWr ((c : Int) + 1))), _] [] h4 _
              rw [mWr_of ⟨by omega, by omega⟩]
              refine ihn (c + 1) (pre ++ [(i, tSet T (o i) (c : Nat))]) (D1 + 1) (c : Int) _ h4 (by omega) ?_ (by rw [preLen]; omega) hg (by omega) e4 c39 c41 c45 cR c55 f4
              rw [List.append_assoc]
              exact hpre
          rcases hpv with hpv | ⟨hpv, hm500⟩
          · refine ⟨fun _ => ?_, fun w => absurd (b44.trans (by rw [hpv]; rfl)) w⟩
            refine mid h3 e3 b39 b41 (fun q => by omega) (fun q => by omega) (fun k hk => ?_) (f1.tr f13)
            rw [b55]
            exact a55 k (Or.inr (Or.inr hpv))
          · have r45 := b45 hpv
            have wi0 : mWr (3 * h3 9 0 45) = ((3 * D1 : Nat) : Int) := by rw [r45, mWr_of ⟨by omega, by omega⟩]; omega
            refine ⟨fun w => absurd (w.symm.trans (b44.trans (show ((pv : Nat) : Int) = 1 by rw [hpv]; rfl))) (by decide), fun _ => ⟨⟨by rw [wi0]; omega, by rw [wi0]; omega⟩, ?_⟩⟩
            have r45' : mSet h3 55 0 (Int.toNat (mWr (3 * h3 9 0 45))) ((o i : Nat) : Int) 9 0 45 = (D1 : Nat) := (mSet_no (by simp)).trans r45
            have wi1 : mWr (mWr (3 * mSet h3 55 0 (Int.toNat (mWr (3 * h3 9 0 45))) ((o i : Nat) : Int) 9 0 45) + 1) = ((3 * D1 + 1 : Nat) : Int) := by
              rw [r45', mWr_of (x := 3 * ((D1 : Nat) : Int)) ⟨by omega, by omega⟩, mWr_of ⟨by omega, by omega⟩]
              omega
            refine ⟨⟨by rw [wi1]; omega, by rw [wi1]; omega⟩, ?_⟩
            have r45'' : (mSet (mSet h3 55 0 (Int.toNat (mWr (3 * h3 9 0 45))) ((o i : Nat) : Int)) 55 0 (Int.toNat (mWr (mWr (3 * (mSet h3 55 0 (Int.toNat (mWr (3 * h3 9 0 45))) ((o i : Nat) : Int)) 9 0 45) + 1))) (c : Int)) 9 0 45 = (D1 : Nat) := (mSet_no (by simp)).trans r45'
            have wi2 : mWr (mWr (3 * (mSet (mSet h3 55 0 (Int.toNat (mWr (3 * h3 9 0 45))) ((o i : Nat) : Int)) 55 0 (Int.toNat (mWr (mWr (3 * (mSet h3 55 0 (Int.toNat (mWr (3 * h3 9 0 45))) ((o i : Nat) : Int)) 9 0 45) + 1))) (c : Int)) 9 0 45) + 2) = ((3 * D1 + 2 : Nat) : Int) := by
              rw [r45'', mWr_of (x := 3 * ((D1 : Nat) : Int)) ⟨by omega, by omega⟩, mWr_of ⟨by omega, by omega⟩]
              omega
            have hM4 : ∀ b : Int, mSet (mSet (mSet (mSet h3 55 0 (Int.toNat (mWr (3 * h3 9 0 45))) ((o i : Nat) : Int)) 55 0 (Int.toNat (mWr (mWr (3 * (mSet h3 55 0 (Int.toNat (mWr (3 * h3 9 0 45))) ((o i : Nat) : Int)) 9 0 45) + 1))) (c : Int)) 55 0 (Int.toNat (mWr (mWr (3 * (mSet (mSet h3 55 0 (Int.toNat (mWr (3 * h3 9 0 45))) ((o i : Nat) : Int)) 55 0 (Int.toNat (mWr (mWr (3 * (mSet h3 55 0 (Int.toNat (mWr (3 * h3 9 0 45))) ((o i : Nat) : Int)) 9 0 45) + 1))) (c : Int)) 9 0 45) + 2))) b) 9 0 45 (mWr ((mSet (mSet (mSet h3 55 0 (Int.toNat (mWr (3 * h3 9 0 45))) ((o i : Nat) : Int)) 55 0 (Int.toNat (mWr (mWr (3 * (mSet h3 55 0 (Int.toNat (mWr (3 * h3 9 0 45))) ((o i : Nat) : Int)) 9 0 45) + 1))) (c : Int)) 55 0 (Int.toNat (mWr (mWr (3 * (mSet (mSet h3 55 0 (Int.toNat (mWr (3 * h3 9 0 45))) ((o i : Nat) : Int)) 55 0 (Int.toNat (mWr (mWr (3 * (mSet h3 55 0 (Int.toNat (mWr (3 * h3 9 0 45))) ((o i : Nat) : Int)) 9 0 45) + 1))) (c : Int)) 9 0 45) + 2))) b) 9 0 45 + 1)) = mSet (mSet (mSet (mSet h3 55 0 (3 * D1) ((o i : Nat) : Int)) 55 0 (3 * D1 + 1) (c : Int)) 55 0 (3 * D1 + 2) b) 9 0 45 ((D1 + 1 : Nat) : Int) := fun b => by
              have r3 : (mSet (mSet (mSet h3 55 0 (Int.toNat (mWr (3 * h3 9 0 45))) ((o i : Nat) : Int)) 55 0 (Int.toNat (mWr (mWr (3 * (mSet h3 55 0 (Int.toNat (mWr (3 * h3 9 0 45))) ((o i : Nat) : Int)) 9 0 45) + 1))) (c : Int)) 55 0 (Int.toNat (mWr (mWr (3 * (mSet (mSet h3 55 0 (Int.toNat (mWr (3 * h3 9 0 45))) ((o i : Nat) : Int)) 55 0 (Int.toNat (mWr (mWr (3 * (mSet h3 55 0 (Int.toNat (mWr (3 * h3 9 0 45))) ((o i : Nat) : Int)) 9 0 45) + 1))) (c : Int)) 9 0 45) + 2))) b) 9 0 45 = (D1 : Nat) := (mSet_no (by simp)).trans r45''
              have w4 : mWr ((mSet (mSet (mSet h3 55 0 (Int.toNat (mWr (3 * h3 9 0 45))) ((o i : Nat) : Int)) 55 0 (Int.toNat (mWr (mWr (3 * (mSet h3 55 0 (Int.toNat (mWr (3 * h3 9 0 45))) ((o i : Nat) : Int)) 9 0 45) + 1))) (c : Int)) 55 0 (Int.toNat (mWr (mWr (3 * (mSet (mSet h3 55 0 (Int.toNat (mWr (3 * h3 9 0 45))) ((o i : Nat) : Int)) 55 0 (Int.toNat (mWr (mWr (3 * (mSet h3 55 0 (Int.toNat (mWr (3 * h3 9 0 45))) ((o i : Nat) : Int)) 9 0 45) + 1))) (c : Int)) 9 0 45) + 2))) b) 9 0 45 + 1) = ((D1 + 1 : Nat) : Int) := by rw [r3, mWr_of ⟨by omega, by omega⟩]; omega
              rw [w4, wi2, wi1, wi0, Int.toNat_natCast, Int.toNat_natCast, Int.toNat_natCast]
            have fin : ∀ b : Int, b = bitE N o (i, tSet T (o i) (c : Nat)) → mGo l g (mMt n_M_fillFrom) (d + 13 + j + 1) 137 [some (.inr (9, 0)), some (.inl (o i : Nat)), some (.inl c), some (.inl (mBc (cpL (nSetT N (tSet T (o i) (c : Int))) c 0 ≠ [])))] [] (mSet (mSet (mSet (mSet h3 55 0 (Int.toNat (mWr (3 * h3 9 0 45))) ((o i : Nat) : Int)) 55 0 (Int.toNat (mWr (mWr (3 * (mSet h3 55 0 (Int.toNat (mWr (3 * h3 9 0 45))) ((o i : Nat) : Int)) 9 0 45) + 1))) (c : Int)) 55 0 (Int.toNat (mWr (mWr (3 * (mSet (mSet h3 55 0 (Int.toNat (mWr (3 * h3 9 0 45))) ((o i : Nat) : Int)) 55 0 (Int.toNat (mWr (mWr (3 * (mSet h3 55 0 (Int.toNat (mWr (3 * h3 9 0 45))) ((o i : Nat) : Int)) 9 0 45) + 1))) (c : Int)) 9 0 45) + 2))) b) 9 0 45 (mWr ((mSet (mSet (mSet h3 55 0 (Int.toNat (mWr (3 * h3 9 0 45))) ((o i : Nat) : Int)) 55 0 (Int.toNat (mWr (mWr (3 * (mSet h3 55 0 (Int.toNat (mWr (3 * h3 9 0 45))) ((o i : Nat) : Int)) 9 0 45) + 1))) (c : Int)) 55 0 (Int.toNat (mWr (mWr (3 * (mSet (mSet h3 55 0 (Int.toNat (mWr (3 * h3 9 0 45))) ((o i : Nat) : Int)) 55 0 (Int.toNat (mWr (mWr (3 * (mSet h3 55 0 (Int.toNat (mWr (3 * h3 9 0 45))) ((o i : Nat) : Int)) 9 0 45) + 1))) (c : Int)) 9 0 45) + 2))) b) 9 0 45 + 1))) (ffK N m o pv most T D0 (kds (nC N) o (Dg N m o) (j + 1) i T) (gres N m o most D0 (kds (nC N) o (Dg N m o) (j + 1) i T)) h) := by
              intro b hbe
              rw [hM4 b]
              refine mid _ (isM_far9 (isM_far55 (isM_far55 (isM_far55 e3))) (by decide)) ?_ ?_ (fun _ => mSet_at _ _ _ _ _) (fun q1 q x hx hq => ?_) (fun k hk => ?_) (f1.tr (f13.tr (fun t b q y => ?_)))
              · rw [mSet_no (by simp), mSet_no (by simp), mSet_no (by simp), mSet_no (by simp)]; exact b39
              · rw [mSet_no (by simp), mSet_no (by simp), mSet_no (by simp), mSet_no (by simp)]; exact b41
              · by_cases y : q < pre.length
                · rw [List.getElem?_append_left y] at hx
                  have := aR q1 q x hx (by omega)
                  rw [mSet_no (by simp), mSet_no (fun u => by omega), mSet_no (fun u => by omega), mSet_no (fun u => by omega), b55, mSet_no (by simp), mSet_no (fun u => by omega), mSet_no (fun u => by omega), mSet_no (fun u => by omega), b55, mSet_no (by simp), mSet_no (fun u => by omega), mSet_no (fun u => by omega), mSet_no (fun u => by omega), b55]
                  exact this
                · rw [List.getElem?_append_right (by omega)] at hx
                  have hq0 : q - pre.length = 0 := by omega
                  rw [hq0] at hx
                  have hx : (i, tSet T (o i) ((c : Nat) : Int)) = x := Option.some.inj hx
                  have hDq : D0 + q = D1 := by omega
                  rw [hDq, ← hx]
                  refine ⟨?_, ?_, ?_⟩
                  · rw [mSet_no (by simp), mSet_no (fun u => by omega), mSet_no (fun u => by omega), mSet_at]
                  · rw [mSet_no (by simp), mSet_no (fun u => by omega), mSet_at]
                    exact (if_pos rfl).symm
                  · rw [mSet_no (by simp), mSet_at, hbe]
              · have hk' : ¬ (3 * D1 ≤ k ∧ k < 3 * D1 + 3) := by omega
                rw [mSet_no (by simp), mSet_no (fun u => by omega), mSet_no (fun u => by omega), mSet_no (fun u => by omega), b55]
                exact a55 k (by omega)
              · rw [mSet_no (fun u => y (by omega)), mSet_no (fun u => y (by omega)), mSet_no (fun u => y (by omega)), mSet_no (fun u => y (by omega))]
            have htone : (tSet T (o i) ((c : Nat) : Int) (o i)).toNat = c := by
              rw [show tSet T (o i) ((c : Nat) : Int) (o i) = ((c : Nat) : Int) from if_pos rfl, Int.toNat_natCast]
            refine ⟨fun w => ?_, fun w => ?_⟩
            · have hnil : cpL (nSetT N (tSet T (o i) (c : Int))) c 0 = [] := Classical.not_not.mp (mBc_eq0.mp w)
              refine ⟨⟨by rw [wi2]; omega, by rw [wi2]; omega⟩, ?_⟩
              refine fin 0 ?_
              unfold bitE
              show (0 : Int) = (match cpL (nSetT N (tSet T (o i) ((c : Nat) : Int))) (tSet T (o i) ((c : Nat) : Int) (o i)).toNat 0 with
                | [] => 0
                | r :: _ => ((bitR r.1 r.1.length : Nat) : Int))
              rw [htone, hnil]
            · have hne := mBc_ne0.mp w
              obtain ⟨x, xs, hx⟩ : ∃ x xs, cpL (nSetT N (tSet T (o i) (c : Int))) c 0 = x :: xs := by
                cases hq : cpL (nSetT N (tSet T (o i) (c : Int))) c 0 with
                | nil => exact absurd hq hne
                | cons x xs => exact ⟨x, xs, rfl⟩
              obtain ⟨g1, g2⟩ := w3 x xs hx
              have hrow := cpL_row oc (show c < 3 by omega) (x := x) (mm := 0) (by rw [hx]; exact List.mem_cons_self)
              refine mCall_is (mCon_lift (Nat.zero_le _) (c_M_firstBits (d := 0) x.1 hrow.2.2.2.1 hrow.2.1 _ ((mSet_no (by simp)).trans ((mSet_no (by simp)).trans g1)) (fun q hq => (mSet_no (by simp)).trans ((mSet_no (by simp)).trans (g2 q hq))))) ?_
              refine ⟨⟨by rw [wi2]; omega, by rw [wi2]; omega⟩, ?_⟩
              have q := fin ((bitR x.1 x.1.length : Nat) : Int) (by
                unfold bitE
                show _ = (match cpL (nSetT N (tSet T (o i) ((c : Nat) : Int))) (tSet T (o i) ((c : Nat) : Int) (o i)).toNat 0 with
                  | [] => 0
                  | r :: _ => ((bitR r.1 r.1.length : Nat) : Int))
                rw [htone, hx])
              exact q
        · rw [a39, a40] at z
          have hle : most ≤ D1 := by omega
          rw [gres_spent hle] at hg
          unfold ffK
          rw [hg]
          refine ⟨by rw [mBc_f (show ¬ ((-1 : Int) = 1) by decide)], ?_, ?_, fun q1 => ?_, ?_, fun q1 => ?_, fun k hk => ?_, f1.tr (fun t b q y => ?_)⟩
          · rw [mSet_no (by simp), mSet_no (by simp)]; exact a39
          · rw [mSet_no (by simp), mSet_at, mBc_t rfl]
          · rw [mSet_no (by simp), mSet_no (by simp)]; exact a45 q1
          · rw [Int.toNat_natCast]
            exact isM_back (isM_far9 e1 (by decide)) hTi
          · rw [← hpre]
            intro q x hx hq
            have hq : D0 + q < D1 := hq
            have hx2 : pre[q]? = some x := by
              rw [List.getElem?_append_left (by omega)] at hx
              exact hx
            have := aR q1 q x hx2 hq
            rw [mSet_no (by simp), mSet_no (by simp), mSet_no (by simp), mSet_no (by simp), mSet_no (by simp), mSet_no (by simp)]
            exact this
          · rw [mSet_no (by simp), mSet_no (by simp)]
            exact a55 k hk
          · rw [mSet_no (fun u => y (by omega)), mSet_no (fun u => y (by omega))]
    refine e_M_fillFrom (fun hv hm => ?_)
    refine mGo_wp h_M_fillFrom 120 [13] ?_
    refine mCall_is (mCon_lift (show d + 1 ≤ d + 13 + j by omega) (c_M_nextBare (d := d) N m o ho hmono i T oT hb h e)) ?_
    rw [if_pos him]
    refine ⟨fun _ => ?_, fun z => by omega⟩
    refine loop (nC N) 0 [] D0 (-1) none h (by omega) rfl rfl rfl hD ?_ e39 e41 e45 (fun _ q x hx => by cases hx) (fun _ _ => rfl) farZ.rf
    rw [tSet_self hTi]
    exact e
end Fill1
