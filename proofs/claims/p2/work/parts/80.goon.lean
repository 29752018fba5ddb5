/-! goOn: to the next found one -/
def Dg (N : nN) (m : Nat) (o : Nat → Nat) (i : Nat) (T : bT) : Prop := thrN (nSetT N T) (o i) = 0 ∧ i + 1 < m
def fo (N : nN) (m : Nat) (o : Nat → Nat) (x : eV) : Prop := thrN (nSetT N x.2) (o x.1) = 0 ∧ ¬ x.1 + 1 < m
noncomputable def gon (N : nN) (m : Nat) (o : Nat → Nat) (most : Nat) : Nat → List eV → Int × Nat × Option (eV × List eV)
  | d, [] => (0, d, none)
  | d, x :: R => if most ≤ d then (-1, d, none) else if qB (fo N m o x) = true then (1, d + 1, some (x, R)) else gon N m o most (d + 1) R
def farG (h h' : mMem) : Prop := ∀ (t : Nat) (a : Fin 8) (q : Nat), ¬ ((t = 0 ∧ (q = 1 ∨ q = 6 ∨ q = 7)) ∨ t = 5 ∨ t = 26 ∨ ((t = 22 ∨ t = 23) ∧ a = 1)) → h' t a q = h t a q
theorem farG.rf {h : mMem} : farG h h := fun _ _ _ _ => rfl
theorem farG.tr {h h1 h2 : mMem} (a : farG h h1) (b : farG h1 h2) : farG h h2 := fun t j k z => (b t j k z).trans (a t j k z)
theorem farG.ofN {h h1 : mMem} (a : farN h h1) : farG h h1 := fun t j k z => a t j k (fun y => z (by
  rcases y with y | y
  · exact Or.inl ⟨y.1, Or.inr (Or.inl y.2)⟩
  · exact Or.inr (Or.inr (Or.inr y))))
theorem farG.ofO {h h1 : mMem} (a : farO h h1) : farG h h1 := fun t j k z => a t j k (fun y => z (y.elim (fun w => Or.inr (Or.inl w)) (fun w => Or.inr (Or.inr (Or.inl w)))))
theorem fB_G {h h' : mMem} {m : Nat} {o : Nat → Nat} (e : fB h m o) (f : farG h h') : fB h' m o := ⟨(f _ _ _ (by simp)).trans e.1, fun i hi => (f _ _ _ (by simp)).trans (e.2 i hi)⟩
theorem cu_rem {N : nN} {m : Nat} {o : Nat → Nat} (ho : opO N m o) {i : Nat} {T : bT} (cu : cuB N m o i T) (D : Nat → bT → Prop) : rem (nC N) m o D i T = (match nx (nC N) o i T with
    | none => []
    | some (i', T') => (i', T') :: ((if qB (D i' T') = true then kds (nC N) o D (m - i' - 1) (i' + 1) T' else []) ++ rem (nC N) m o D i' T')) := by
  have h66 := js_le (nP N) (by have : nP N ≤ 12 := cu.1.1.2; omega)
  have hi := cu.2.1
  refine rem_nx (nC N) m o D i T (fun j hj => ?_) (fun j k hj hk => ho.2.2 j k (by omega) (by omega))
  have := ho.2.1 j (by omega)
  exact (cu.1.2.2.2.1 (o j) (by omega)).1
section GoOn
variable {l : Launch} {g : mG} {d : Nat}
abbrev goK (N : nN) (m : Nat) (o : Nat → Nat) (most D0 : Nat) (R : List eV) (h : mMem) : Option mRV → mMem → Prop := fun v h' => v = some (.inl (gon N m o most D0 R).1) ∧ h' 0 0 1 = ((gon N m o most D0 R).2.1 : Nat) ∧ ((gon N m o most D0 R).1 = 0 → h' 0 0 7 = 1) ∧ (∀ x R', (gon N m o most D0 R).2.2 = some (x, R') → h' 0 0 7 = 0 ∧ h' 0 0 6 = (x.1 : Nat) ∧ isC h' 1 (nSetT N x.2) ∧ cuB N m o x.1 x.2 ∧ rem (nC N) m o (Dg N m o) x.1 x.2 = R') ∧ farG h h'
theorem l_goOn (N : nN) (m : Nat) (o : Nat → Nat) (ho : opO N m o) (most : Nat) (hmost : most ≤ 1000000) (h : mMem) : ∀ (R : List eV) (i : Nat) (T : bT) (D0 s : Nat) (h1 : mMem), rem (nC N) m o (Dg N m o) i T = R → cuB N m o i T → fB h1 m o → isC h1 1 (nSetT N T) → h1 0 0 6 = i → h1 0 0 1 = D0 → h1 0 0 7 = 0 → farG h h1 → D0 ≤ most → s ≤ D0 →
    mGo l g (mMt n_Filling_goOn) (d + 14) 25 [some (.inr (0, 0)), some (.inl most), some (.inl s)] [] h1 (goK N m o most D0 R h) := by
  intro R
  induction R with
  | nil =>
    intro i T D0 s h1 hR cu e eC e6 e1 e7 f hD hs
    refine mGo_wp h_Filling_goOn 120 [25] ?_
    refine ⟨fun z => by omega, fun _ => ?_⟩
    refine mCall_on2 (mCon_lift (by omega) (c_nextTry (d := d) N m o ho i T cu h1 e eC e6)) ?_
    rintro v h2 ⟨rfl, -, f2⟩
    have hnone : nx (nC N) o i T = none := by
      rw [cu_rem ho cu] at hR
      cases hx : nx (nC N) o i T with
      | none => rfl
      | some x =>
        rw [hx] at hR
        exact absurd hR (by simp)
    rw [hnone, mBc_f (fun z => z rfl)]
    refine ⟨fun z => absurd rfl z, fun _ => ⟨Or.inr rfl, rfl, ?_, fun _ => mSet_at _ _ _ _ _, (fun x R' z => by cases z), f.tr ((farG.ofN f2).tr (fun t a q z => mSet_no (fun y => z (by omega))))⟩⟩
    rw [mSet_no (by simp), f2 _ _ _ (by simp), e1]
    rfl
  | cons x R ih =>
    intro i T D0 s h1 hR cu e eC e6 e1 e7 f hD hs
    refine mGo_wp h_Filling_goOn 120 [25] ?_
    refine ⟨fun z => by omega, fun _ => ?_⟩
    refine mCall_on2 (mCon_lift (by omega) (c_nextTry (d := d) N m o ho i T cu h1 e eC e6)) ?_
    rintro v h2 ⟨rfl, g2, f2⟩
    rw [cu_rem ho cu] at hR
    cases hx : nx (nC N) o i T with
    | none =>
      rw [hx] at hR
      exact absurd hR (by simp)
    | some y =>
      obtain ⟨i', T'⟩ := y
      rw [hx] at hR
      obtain ⟨rfl, hR'⟩ := List.cons.inj hR
      obtain ⟨e6', eC'⟩ := g2 i' T' hx
      obtain ⟨cu', hle, hpos, -⟩ := nx_ok ho i T cu i' T' hx
      rw [mBc_t (by simp)]
      have e1' : h2 0 0 1 = (D0 : Nat) := (f2 _ _ _ (by simp)).trans e1
      have e7' : h2 0 0 7 = 0 := (f2 _ _ _ (by simp)).trans e7
      refine ⟨fun _ => ⟨fun z => ?_, fun z => ?_⟩, fun z => absurd z (by decide)⟩
      · rw [e1'] at z
        have w1 : mWr (h2 0 0 1 + 1) = ((D0 + 1 : Nat) : Int) := by rw [e1', mWr_of ⟨by omega, by omega⟩]; omega
        have hg : gon N m o most D0 ((i', T') :: R) = (if qB (fo N m o (i', T')) = true then (1, D0 + 1, some ((i', T'), R)) else gon N m o most (D0 + 1) R) := if_neg (by omega)
        have f3 : farG h2 (mSet h2 0 0 1 (mWr (h2 0 0 1 + 1))) := fun t a q w => mSet_no (fun y => w (by omega))
        have e3 := fB_G (fB_N e f2) f3
        have e36 : mSet h2 0 0 1 (mWr (h2 0 0 1 + 1)) 0 0 6 = (i' : Nat) := (mSet_no (by simp)).trans e6'
        refine mCall_is (mCon_lift (by omega) (c_Filling_join (d := d) N m o ho i' cu'.2.1 _ e3 e36)) ?_
        have eC3 : isC (mSet h2 0 0 1 (mWr (h2 0 0 1 + 1))) 1 (nSetT N T') := isC_eq eC' (fun t q ht => mSet_no (fun y => by omega))
        refine mCall_on2 (c_Outward_howMany 1 (nSetT N T') cu'.1 (o i') (ho.2.1 i' cu'.2.1) _ eC3) ?_
        rintro v h4 ⟨rfl, f4⟩
        have e4 := fB_G e3 (farG.ofO f4)
        have e46 : h4 0 0 6 = (i' : Nat) := (f4 _ _ _ (by decide)).trans e36
        have e41 : h4 0 0 1 = ((D0 + 1 : Nat) : Int) := by rw [f4 _ _ _ (by decide), mSet_at, w1]
        have e47 : h4 0 0 7 = 0 := by rw [f4 _ _ _ (by decide), mSet_no (by simp)]; exact e7'
        have eC4 := isC_farO eC3 f4
        have f04 : farG h h4 := f.tr ((farG.ofN f2).tr (f3.tr (farG.ofO f4)))
        unfold goK
        rw [hg]
        have again : ∀ (i2 : Nat) (h5 : mMem), ¬ fo N m o (i', T') → rem (nC N) m o (Dg N m o) i2 T' = R → cuB N m o i2 T' → fB h5 m o → isC h5 1 (nSetT N T') → h5 0 0 6 = (i2 : Nat) → h5 0 0 1 = ((D0 + 1 : Nat) : Int) → h5 0 0 7 = 0 → farG h h5 →
            mGo l g (mMt n_Filling_goOn) (d + 14) 25 [some (.inr (0, 0)), some (.inl most), some (.inl (mWr ((s : Int) + 1)))] [] h5 (goK N m o most D0 ((i', T') :: R) h) := by
          intro i2 h5 nf hr cu5 a1 a2 a3 a4 a5 a6
          unfold goK
          rw [hg, if_neg (qB_no nf), mWr_of ⟨by omega, by omega⟩]
          exact ih i2 T' (D0 + 1) (s + 1) h5 hr cu5 a1 a2 a3 a4 a5 a6 (by omega) (by omega)
        refine ⟨fun z2 => ?_, fun z2 => ?_⟩
        · have nD : ¬ Dg N m o i' T' := fun w => by
            have := w.1
            omega
          rw [if_neg (qB_no nD), List.nil_append] at hR'
          have q := again i' h4 (fun w => by have w1 : thrN (nSetT N T') (o i') = 0 := w.1; omega) hR' cu' e4 eC4 e46 e41 e47 f04
          unfold goK at q
          rw [hg] at q
          exact q
        · have t0 : thrN (nSetT N T') (o i') = 0 := by omega
          refine mCall_is (mCon_lift (by omega) (c_Filling_goDeeper (d := d) m i' ho.1 cu'.2.1 h4 e4.1 e46)) ?_
          by_cases hd : i' + 1 < m
          · rw [if_pos hd, mB_t hd]
            refine ⟨fun _ => ?_, fun z => absurd z (by decide)⟩
            have hD : Dg N m o i' T' := ⟨t0, hd⟩
            rw [if_pos (qB_t hD)] at hR'
            have hT1 : T' (o (i' + 1)) = -1 := cu'.2.2 (i' + 1) (by omega) hd
            have f5 : farG h4 (mSet h4 0 0 6 ((i' + 1 : Nat) : Int)) := fun t a q w => mSet_no (fun y => w (by omega))
            have q := again (i' + 1) (mSet h4 0 0 6 ((i' + 1 : Nat) : Int)) (fun w => w.2 hd) (by rw [rem_deep hT1 hd]; exact hR') ⟨cu'.1, hd, fun j hj hjm => cu'.2.2 j (by omega) hjm⟩ (fB_G e4 f5) (isC_eq eC4 (fun t q ht => mSet_no (fun y => by omega))) (mSet_at _ _ _ _ _) ((mSet_no (by simp)).trans e41) ((mSet_no (by simp)).trans e47) (f04.tr f5)
            unfold goK at q
            rw [hg] at q
            exact q
          · rw [if_neg hd, mB_f hd]
            refine ⟨fun z => absurd rfl z, fun _ => ?_⟩
            have hf : fo N m o (i', T') := ⟨t0, hd⟩
            rw [if_pos (qB_t hf)]
            have nD : ¬ Dg N m o i' T' := fun w => hd w.2
            rw [if_neg (qB_no nD), List.nil_append] at hR'
            refine ⟨rfl, e41, (fun z => absurd (show (1 : Int) = 0 from z) (by decide)), (fun x R2 z => ?_), f04⟩
            cases z
            exact ⟨e47, e46, eC4, cu', hR'⟩
      · rw [e1'] at z
        unfold goK
        have hg : gon N m o most D0 ((i', T') :: R) = (-1, D0, none) := if_pos (by omega)
        rw [hg]
        exact ⟨rfl, e1', (fun z => absurd (show (-1 : Int) = 0 from z) (by decide)), (fun x R' z => by cases z), f.tr (farG.ofN f2)⟩
theorem c_goOn (N : nN) (m : Nat) (o : Nat → Nat) (ho : opO N m o) (hm : 0 < m) (most : Nat) (hmost : most ≤ 1000000) (i : Nat) (T : bT) (D0 : Nat) (h : mMem) (cu : cuB N m o i T) (e : fB h m o) (eC : isC h 1 (nSetT N T)) (e6 : h 0 0 6 = i) (e1 : h 0 0 1 = D0) (e7 : h 0 0 7 = 0) (hD : D0 ≤ most) :
    mCon l g n_Filling_goOn (d + 14) [.inr (0, 0), .inl most] h (goK N m o most D0 (rem (nC N) m o (Dg N m o) i T) h) := by
  refine e_Filling_goOn (fun hv hm => ?_)
  refine mGo_wp h_Filling_goOn 120 [25] ?_
  refine ⟨fun _ => ⟨fun _ => ?_, fun z => by rw [e.1] at z; omega⟩, fun z => absurd e7 z⟩
  exact l_goOn N m o ho most hmost h _ i T D0 0 h rfl cu e eC e6 e1 e7 farG.rf hD (Nat.zero_le _)
/-- the found ones of a list of tries -/
noncomputable def fnd (N : nN) (m : Nat) (o : Nat → Nat) (R : List eV) : List bT := (R.filter (fun x => qB (fo N m o x))).map (fun x => x.2)
theorem gon_find (N : nN) (m : Nat) (o : Nat → Nat) (most : Nat) : ∀ (R : List eV) (D0 : Nat), D0 + R.length ≤ most → (fnd N m o R = [] → gon N m o most D0 R = (0, D0 + R.length, none)) ∧ (∀ T L, fnd N m o R = T :: L → ∃ i R' d', gon N m o most D0 R = (1, d', some ((i, T), R')) ∧ d' + R'.length = D0 + R.length ∧ fnd N m o R' = L)
  | [], D0, _ => ⟨fun _ => rfl, fun T L z => by cases z⟩
  | x :: R, D0, hd => by
    have hd : D0 + (R.length + 1) ≤ most := hd
    have ih := gon_find N m o most R (D0 + 1) (by omega)
    have hg : gon N m o most D0 (x :: R) = (if qB (fo N m o x) = true then (1, D0 + 1, some (x, R)) else gon N m o most (D0 + 1) R) := if_neg (by omega)
    rw [hg]
    by_cases hf : qB (fo N m o x) = true
    · have e1 : fnd N m o (x :: R) = x.2 :: fnd N m o R := by
        unfold fnd
        rw [List.filter_cons_of_pos (p := fun x => qB (fo N m o x)) hf]
        rfl
      rw [if_pos hf, e1]
      refine ⟨(fun z => by cases z), (fun T L z => ?_)⟩
      cases z
      exact ⟨x.1, R, D0 + 1, rfl, by show D0 + 1 + R.length = D0 + (R.length + 1); omega, rfl⟩
    · have e1 : fnd N m o (x :: R) = fnd N m o R := by
        unfold fnd
        rw [List.filter_cons_of_neg (p := fun x => qB (fo N m o x)) hf]
      rw [if_neg hf, e1]
      refine ⟨fun z => ?_, fun T L z => ?_⟩
      · rw [ih.1 z]
        show (0, D0 + 1 + R.length, none) = (0, D0 + (R.length + 1), none)
        rw [show D0 + 1 + R.length = D0 + (R.length + 1) by omega]
      · obtain ⟨i, R', d', a, b, c⟩ := ih.2 T L z
        exact ⟨i, R', d', a, by show d' + R'.length = D0 + (R.length + 1); omega, c⟩
/-- a filling that still has these found ones -/
def itR (h : mMem) (N : nN) (m : Nat) (o : Nat → Nat) (L : List bT) : Prop := (h 0 0 7 = 1 ∧ L = []) ∨ (h 0 0 7 = 0 ∧ h 0 0 5 = 0 ∧ ∃ T, L = [T] ∧ isC h 1 (nSetT N T) ∧ nOk (nSetT N T)) ∨ (h 0 0 7 = 0 ∧ 0 < m ∧ opO N m o ∧ fB h m o ∧ ∃ i T D0, cuB N m o i T ∧ isC h 1 (nSetT N T) ∧ h 0 0 6 = (i : Nat) ∧ h 0 0 1 = (D0 : Nat) ∧ L = fnd N m o (rem (nC N) m o (Dg N m o) i T) ∧ D0 + (rem (nC N) m o (Dg N m o) i T).length ≤ 1000000)
theorem c_it (N : nN) (m : Nat) (o : Nat → Nat) (L : List bT) (h : mMem) (e : itR h N m o L) : mCon l g n_Filling_goOn (d + 14) [.inr (0, 0), .inl 1000000] h (fun v h' => v = some (.inl (mBc (L ≠ []))) ∧ (L = [] → itR h' N m o []) ∧ (∀ T L', L = T :: L' → itR h' N m o L' ∧ isC h' 1 (nSetT N T) ∧ nOk (nSetT N T)) ∧ farG h h') := by
  rcases e with ⟨e7, rfl⟩ | ⟨e7, e5, T, rfl, eC, oT⟩ | ⟨e7, hm, ho, eB, i, T, D0, cu, eC, e6, e1, rfl, hD⟩
  · refine e_Filling_goOn (fun hv hm => ?_)
    refine mGo_wp h_Filling_goOn 120 [] ?_
    refine ⟨fun z => absurd (z.symm.trans e7) (by decide), fun _ => ⟨by rw [mBc_f (fun z => z rfl)], fun _ => Or.inl ⟨e7, rfl⟩, (fun T L' z => by cases z), farG.rf⟩⟩
  · refine e_Filling_goOn (fun hv hm => ?_)
    refine mGo_wp h_Filling_goOn 120 [] ?_
    have f1 : farG h (mSet h 0 0 7 1) := fun t a q w => mSet_no (fun y => w (by omega))
    refine ⟨fun _ => ⟨fun z => absurd e5 z, fun _ => ⟨Or.inr rfl, by rw [mBc_t (by simp)], (fun z => by cases z), (fun T' L' z => ?_), f1⟩⟩, fun z => absurd e7 z⟩
    cases z
    exact ⟨Or.inl ⟨mSet_at _ _ _ _ _, rfl⟩, isC_eq eC (fun t q ht => mSet_no (fun y => by omega)), oT⟩
  · refine mCon_mono (c_goOn (d := d) N m o ho hm 1000000 (Nat.le_refl _) i T D0 h cu eB eC e6 e1 e7 (by omega)) ?_
    rintro v h' ⟨rfl, a1, a2, a3, f⟩
    have gf := gon_find N m o 1000000 (rem (nC N) m o (Dg N m o) i T) D0 hD
    cases hL : fnd N m o (rem (nC N) m o (Dg N m o) i T) with
    | nil =>
      have hg := gf.1 hL
      rw [hg] at a2 ⊢
      exact ⟨by rw [mBc_f (fun z => z rfl)], fun _ => Or.inl ⟨a2 rfl, rfl⟩, (fun T' L' z => by cases z), f⟩
    | cons T1 L1 =>
      obtain ⟨i1, R1, d1, hg, hlen, hf⟩ := gf.2 T1 L1 hL
      rw [hg] at a1 a3 ⊢
      obtain ⟨b1, b2, b3, b4, b5⟩ := a3 _ _ rfl
      refine ⟨by rw [mBc_t (by simp)], (fun z => by cases z), (fun T' L' z => ?_), f⟩
      cases z
      refine ⟨Or.inr (Or.inr ⟨b1, hm, ho, fB_G eB f, i1, T1, d1, b4, b3, b2, a1, ?_, ?_⟩), b3, b4.1⟩
      · rw [b5, hf]
      · rw [b5]
        omega
theorem c_countAll (N : nN) (m : Nat) (o : Nat → Nat) (L : List bT) (hL : L.length ≤ 60000) (h : mMem) (e : itR h N m o L) : mCon l g n_Filling_countAll (d + 15) [.inr (0, 0)] h (fun v h' => v = some (.inl (L.length : Nat)) ∧ farG h h') := by
  have loop : ∀ (L1 : List bT) (s : Nat) (h1 : mMem), s + L1.length = L.length → itR h1 N m o L1 → farG h h1 → mGo l g (mMt n_Filling_countAll) (d + 15) 2 [some (.inr (0, 0)), some (.inl s)] [] h1 (fun v h' => v = some (.inl (L.length : Nat)) ∧ farG h h') := by
    intro L1
    induction L1 with
    | nil =>
      intro s h1 hs e1 f1
      refine mGo_wp h_Filling_countAll 40 [2] ?_
      have hs : s = L.length := hs
      refine ⟨fun _ => ⟨by rw [hs], f1⟩, fun _ => ?_⟩
      refine mCall_on2 (c_it N m o [] h1 e1) ?_
      rintro v h2 ⟨rfl, -, -, f2⟩
      rw [mBc_f (fun z => z rfl)]
      exact ⟨fun _ => ⟨by rw [hs], f1.tr f2⟩, fun z => absurd z (by decide)⟩
    | cons T L1 ih =>
      intro s h1 hs e1 f1
      refine mGo_wp h_Filling_countAll 40 [2] ?_
      have hs : s + (L1.length + 1) = L.length := hs
      refine ⟨fun z => by omega, fun _ => ?_⟩
      refine mCall_on2 (c_it N m o (T :: L1) h1 e1) ?_
      rintro v h2 ⟨rfl, -, a, f2⟩
      rw [mBc_t (by simp)]
      refine ⟨fun z => absurd rfl z, fun _ => ?_⟩
      show mGo l g _ _ 2 [_, some (.inl (mWr ((s : Int) + 1)))] [] h2 _
      rw [mWr_of ⟨by omega, by omega⟩]
      exact ih (s + 1) h2 (by omega) (a T L1 rfl).1 (f1.tr f2)
  refine e_Filling_countAll (fun hv hm => ?_)
  refine mGo_wp h_Filling_countAll 40 [2] ?_
  exact loop L 0 h (by omega) e farG.rf
theorem c_reach (N : nN) (m : Nat) (o : Nat → Nat) (L : List bT) (hL : L.length ≤ 60000) (k : Int) (hk : 0 ≤ k) (h : mMem) (e : itR h N m o L) : mCon l g n_Filling_reach (d + 15) [.inr (0, 0), .inl k] h (fun v h' => v = some (.inl (mBc (k < L.length))) ∧ (∀ T, L[k.toNat]? = some T → isC h' 1 (nSetT N T) ∧ nOk (nSetT N T)) ∧ farG h h') := by
  obtain ⟨k, rfl⟩ := Int.eq_ofNat_of_zero_le hk
  have loop : ∀ (L1 : List bT) (s : Nat) (h1 : mMem), s ≤ k → s + L1.length = L.length → L.drop s = L1 → itR h1 N m o L1 → farG h h1 → k < 60000 → mGo l g (mMt n_Filling_reach) (d + 15) 10 [some (.inr (0, 0)), some (.inl (k : Int)), some (.inl s)] [] h1 (fun v h' => v = some (.inl (mBc ((k : Int) < L.length))) ∧ (∀ T, L[(k : Int).toNat]? = some T → isC h' 1 (nSetT N T) ∧ nOk (nSetT N T)) ∧ farG h h') := by
    intro L1
    induction L1 with
    | nil =>
      intro s h1 hsk hs hd e1 f1 hk6
      have hs : s = L.length := hs
      refine mGo_wp h_Filling_reach 40 [10] ?_
      refine ⟨fun z => by omega, fun _ => ?_⟩
      refine mCall_on2 (c_it N m o [] h1 e1) ?_
      rintro v h2 ⟨rfl, -, -, f2⟩
      rw [mBc_f (fun z => z rfl)]
      refine ⟨fun z => absurd z (by decide), fun _ => ⟨Or.inl rfl, by rw [mBc_f (by omega)], fun T z => ?_, f1.tr f2⟩⟩
      rw [Int.toNat_natCast, List.getElem?_eq_none (by omega)] at z
      cases z
    | cons T L1 ih =>
      intro s h1 hsk hs hd e1 f1 hk6
      have hs : s + (L1.length + 1) = L.length := hs
      refine mGo_wp h_Filling_reach 40 [10] ?_
      refine ⟨fun z => by omega, fun _ => ?_⟩
      refine mCall_on2 (c_it N m o (T :: L1) h1 e1) ?_
      rintro v h2 ⟨rfl, -, a, f2⟩
      rw [mBc_t (by simp)]
      obtain ⟨a1, a2, a3⟩ := a T L1 rfl
      have hdT : L[s]? = some T := by
        have := List.getElem?_drop (xs := L) (i := s) (j := 0)
        rw [hd] at this
        exact this.symm
      have hd2 : L.drop (s + 1) = L1 := by
        rw [show s + 1 = s + 1 from rfl, ← List.drop_drop, hd]
        rfl
      refine ⟨fun _ => ?_, fun z => absurd rfl z⟩
      show mGo l g _ _ 10 [_, _, some (.inl (mWr ((s : Int) + 1)))] [] h2 _
      rw [mWr_of ⟨by omega, by omega⟩]
      by_cases hks : s = k
      · subst hks
        refine mGo_wp h_Filling_reach 40 [] ?_
        refine ⟨fun _ => ⟨Or.inr rfl, by rw [mBc_t (by omega)], fun T' z => ?_, f1.tr f2⟩, fun z => by omega⟩
        rw [Int.toNat_natCast, hdT] at z
        cases z
        exact ⟨a2, a3⟩
      · exact ih (s + 1) h2 (by omega) (by omega) hd2 a1 (f1.tr f2) hk6
  refine e_Filling_reach (fun hv hm => ?_)
  refine mGo_wp h_Filling_reach 40 [10] ?_
  refine ⟨fun z => ?_, fun z => ⟨Or.inl rfl, by rw [mBc_f (by omega)], fun T w => ?_, farG.rf⟩⟩
  · exact loop L 0 h (Nat.zero_le _) (by omega) rfl e farG.rf (by omega)
  · rw [Int.toNat_natCast, List.getElem?_eq_none (by omega)] at w
    cases w
end GoOn
