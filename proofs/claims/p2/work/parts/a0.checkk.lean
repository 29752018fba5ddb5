/-! check on the class's side -/
section KCheck
variable {l : Launch} {g : mG} {d : Nat}
def farT2 (h h' : mMem) : Prop := ∀ (t : Nat) (a : Fin 8) (q : Nat), ¬ (t = 5 ∨ t = 26 ∨ (t = 0 ∧ q = 6)) → h' t a q = h t a q
theorem farT2.rf {h : mMem} : farT2 h h := fun _ _ _ _ => rfl
theorem farT2.ofO {h h1 : mMem} (a : farO h h1) : farT2 h h1 := fun t j k z => a t j k (fun y => z (by omega))
theorem farG.ofT {h h1 : mMem} (a : farT2 h h1) : farG h h1 := fun t j k z => a t j k (fun y => z (by omega))
theorem isC_farT2 {h h' : mMem} {i : Fin 8} {N : nN} (e : isC h i N) (f : farT2 h h') : isC h' i N := isC_eq e (fun t k ht => f t i k (by omega))
theorem sPr_G {h h' : mMem} {P : pRw} (e : sPr h P) (f : farG h h') : sPr h' P := by
  refine ⟨(f _ _ _ (by decide)).trans e.1, fun i hi => ?_⟩
  rw [f _ _ _ (by omega), f _ _ _ (by omega), f _ _ _ (by omega)]
  exact e.2 i hi
theorem c_isAsTold (N : nN) (m : Nat) (o : Nat → Nat) (ho : opO N m o) (i : Nat) (T : bT) (cu : cuB N m o i T) (hT0 : 0 ≤ T (o i)) (P : pRw) (u : Nat) (hu : u < 500) (hPu : 0 ≤ P.2.2.2 u ∧ P.2.2.2 u < 4096) (h : mMem) (e : fB h m o) (eC : isC h 1 (nSetT N T)) (e6 : h 0 0 6 = i) (eP : sPr h P) :
    mCon l g n_Proof_isAsTold (d + 14) [.inr (6, 0), .inl u, .inr (0, 0)] h (fun v h' => v = some (.inl (mBc (told N P m o u (i, T)))) ∧ (told N P m o u (i, T) → h' 0 0 6 = ((if P.2.2.2 u = 0 then i + 1 else i : Nat) : Int)) ∧ farT2 h h') := by
  obtain ⟨r1, r2, r3⟩ := eP.2 u hu
  have ru : ((u : Int)).toNat = u := Int.toNat_natCast u
  have rr1 : h 31 0 ((u : Int)).toNat = P.2.1 u := by rw [ru, r1]
  have rr2 : h 32 0 ((u : Int)).toNat = P.2.2.1 u := by rw [ru, r2]
  have rr3 : h 33 0 ((u : Int)).toNat = P.2.2.2 u := by rw [ru, r3]
  have him := cu.2.1
  have hoi := ho.2.1 i him
  have hTC : T (o i) < nC N := by
    have h66 := js_le (nP N) (by have : nP N ≤ 12 := cu.1.1.2; omega)
    exact (cu.1.2.2.2.1 (o i) (by omega)).2
  have hC3 : nC N ≤ 3 := cu.1.2.1.2
  obtain ⟨c, hc⟩ : ∃ c : Nat, T (o i) = (c : Int) := ⟨(T (o i)).toNat, by omega⟩
  have tIff : told N P m o u (i, T) ↔ P.2.1 u = (o i : Nat) ∧ P.2.2.1 u = T (o i) ∧ (if P.2.2.2 u = 0 then i + 1 < m else justP (nSetT N T) c (o i) (P.2.2.2 u).toNat) := by
    show (P.2.1 u = (o i : Nat) ∧ P.2.2.1 u = T (o i) ∧ (if P.2.2.2 u = 0 then i + 1 < m else justP (nSetT N T) (T (o i)).toNat (o i) (P.2.2.2 u).toNat)) ↔ _
    rw [hc, Int.toNat_natCast]
  have no : ¬ told N P m o u (i, T) → (some (Sum.inl 0) : Option mRV) = some (.inl (mBc (told N P m o u (i, T)))) ∧ (told N P m o u (i, T) → h 0 0 6 = ((if P.2.2.2 u = 0 then i + 1 else i : Nat) : Int)) ∧ farT2 h h := fun z => ⟨by rw [mBc_f z], fun w => absurd w z, farT2.rf⟩
  refine e_Proof_isAsTold (fun hv hm => ?_)
  refine mGo_wp h_Proof_isAsTold 80 [] ?_
  refine ⟨⟨by omega, by omega⟩, ?_⟩
  refine mCall_is (mCon_lift (by omega) (c_Filling_join (d := d) N m o ho i him h e e6)) ?_
  refine ⟨fun z => ?_, fun z => ⟨⟨by omega, by omega⟩, ?_⟩⟩
  · rw [rr1] at z
    exact ⟨Or.inl rfl, no (fun w => z (tIff.mp w).1)⟩
  · rw [rr1] at z
    refine mCall_is (mCon_lift (by omega) (c_Filling_tone (d := d) N m o ho i T cu h e eC e6)) ?_
    refine ⟨fun z2 => ⟨⟨by omega, by omega⟩, ⟨fun z3 => ?_, fun z3 => ?_⟩⟩, fun z2 => ?_⟩
    · rw [rr2] at z2
      rw [rr3] at z3
      refine ⟨⟨by omega, by omega⟩, ⟨by omega, by omega⟩, ?_⟩
      rw [if_neg z3] at tIff
      refine mCall_on2 (show mCon l g n_Outward_isCopyOfJust (d + 13) [.inr (5, 0), .inr (4, 1), .inl (h 31 0 ((u : Int)).toNat), .inl (h 33 0 ((u : Int)).toNat)] h _ by
        rw [rr1, rr3, z, show P.2.2.2 u = (((P.2.2.2 u).toNat : Nat) : Int) by omega]
        exact c_isCopyOfJust 1 (nSetT N T) cu.1 (o i) c (P.2.2.2 u).toNat hoi (by omega) hc (by omega) h eC) ?_
      rintro v h1 ⟨rfl, f1⟩
      have hj : justP (nSetT N T) c (o i) (P.2.2.2 u).toNat ↔ told N P m o u (i, T) := ⟨fun w => tIff.mpr ⟨z, z2, w⟩, fun w => (tIff.mp w).2.2⟩
      refine ⟨mBc_01 _, by rw [mBc_congr hj], fun _ => ?_, farT2.ofO f1⟩
      rw [if_neg z3, f1 _ _ _ (by decide)]
      exact e6
    · rw [rr2] at z2
      rw [rr3] at z3
      rw [if_pos z3] at tIff
      refine mCall_is (mCon_lift (by omega) (c_Filling_goDeeper (d := d) m i ho.1 him h e.1 e6)) ?_
      by_cases hd : i + 1 < m
      · rw [if_pos hd, mB_t hd]
        refine ⟨Or.inr rfl, by rw [mBc_t (tIff.mpr ⟨z, z2, hd⟩)], fun _ => ?_, fun t a q w => mSet_no (fun y => w (by omega))⟩
        rw [if_pos z3, mSet_at]
      · rw [if_neg hd, mB_f hd]
        exact ⟨Or.inl rfl, no (fun w => hd (tIff.mp w).2.2)⟩
    · rw [rr2] at z2
      exact ⟨Or.inl rfl, no (fun w => z2 (tIff.mp w).2.1)⟩
theorem l_fault (N : nN) (m : Nat) (o : Nat → Nat) (ho : opO N m o) (P : pRw) (hP1 : P.1 ≤ 500) (hPb : ∀ u, u < 500 → 0 ≤ P.2.2.2 u ∧ P.2.2.2 u < 4096) (h : mMem) : ∀ (n u i : Nat) (T : bT) (h1 : mMem), u + n = P.1 → cuB N m o i T → fB h1 m o → isC h1 1 (nSetT N T) → h1 0 0 6 = i → sPr h1 P → farG h h1 →
    mGo l g (mMt n_Proof_firstFault) (d + 15) 2 [some (.inr (6, 0)), some (.inr (0, 0)), some (.inl u)] [] h1 (fun v h' => v = some (.inl (cwx N P m o n u (nx (nC N) o i T))) ∧ farG h h') := by
  intro n
  induction n with
  | zero =>
    intro u i T h1 hn cu e eC e6 eP f
    refine mGo_wp h_Proof_firstFault 80 [2] ?_
    refine ⟨fun _ => ?_, fun z => by rw [eP.1] at z; omega⟩
    refine mCall_on2 (mCon_lift (by omega) (c_nextTry (d := d) N m o ho i T cu h1 e eC e6)) ?_
    rintro v h2 ⟨rfl, -, f2⟩
    have f02 := f.tr (farG.ofN f2)
    cases hx : nx (nC N) o i T with
    | none =>
      rw [mBc_f (fun z => z rfl)]
      exact ⟨fun _ => ⟨rfl, f02⟩, fun z => absurd rfl z⟩
    | some x =>
      rw [mBc_t (by simp)]
      refine ⟨fun z => absurd z (by decide), fun _ => ⟨?_, f02⟩⟩
      have p2 := (sPr_G eP (farG.ofN f2)).1
      show some (Sum.inl (mWr (1 + h2 6 0 3))) = some (.inl (1 + ((u : Nat) : Int)))
      rw [p2, mWr_of ⟨by omega, by omega⟩, show P.1 = u by omega]
  | succ n ih =>
    intro u i T h1 hn cu e eC e6 eP f
    refine mGo_wp h_Proof_firstFault 80 [2] ?_
    refine ⟨fun z => by rw [eP.1] at z; omega, fun _ => ?_⟩
    refine mCall_on2 (mCon_lift (by omega) (c_nextTry (d := d) N m o ho i T cu h1 e eC e6)) ?_
    rintro v h2 ⟨rfl, g2, f2⟩
    have f02 := f.tr (farG.ofN f2)
    have w1 : mWr (1 + (u : Int)) = 1 + ((u : Nat) : Int) := mWr_of ⟨by omega, by omega⟩
    cases hx : nx (nC N) o i T with
    | none =>
      rw [mBc_f (fun z => z rfl)]
      refine ⟨fun _ => ⟨?_, f02⟩, fun z => absurd rfl z⟩
      show some (Sum.inl (mWr (1 + (u : Int)))) = _
      rw [w1]
      rfl
    | some x =>
      obtain ⟨i', T'⟩ := x
      obtain ⟨e6', eC'⟩ := g2 i' T' hx
      obtain ⟨cu', hle, hpos, -⟩ := nx_ok ho i T cu i' T' hx
      rw [mBc_t (by simp)]
      refine ⟨fun z => absurd z (by decide), fun _ => ?_⟩
      have e2 := fB_N e f2
      have eP2 := sPr_G eP (farG.ofN f2)
      refine mCall_on2 (c_isAsTold N m o ho i' T' cu' hpos P u (by omega) (hPb u (by omega)) h2 e2 eC' e6' eP2) ?_
      rintro v h3 ⟨rfl, g3, f3⟩
      have f03 := f02.tr (farG.ofT f3)
      have hcw : cwx N P m o (n + 1) u (some (i', T')) = (if qB (told N P m o u (i', T')) = true then cwx N P m o n (u + 1) (nx (nC N) o (if P.2.2.2 u = 0 then i' + 1 else i') T') else 1 + (u : Nat)) := rfl
      rw [hcw]
      refine ⟨fun z => ?_, fun z => ⟨?_, f03⟩⟩
      · have z := mBc_ne0.mp z
        rw [if_pos (qB_t z)]
        show mGo l g _ _ 2 [_, _, some (.inl (mWr ((u : Int) + 1)))] [] _ _
        rw [mWr_of ⟨by omega, by omega⟩]
        have e3 := fB_G e2 (farG.ofT f3)
        have eC3 := isC_farT2 eC' f3
        have cu3 : cuB N m o (if P.2.2.2 u = 0 then i' + 1 else i') T' := by
          by_cases hB : P.2.2.2 u = 0
          · rw [if_pos hB]
            have hd := z.2.2
            rw [if_pos hB] at hd
            exact ⟨cu'.1, hd, fun j hj hjm => cu'.2.2 j (by omega) hjm⟩
          · rw [if_neg hB]
            exact cu'
        exact ih (u + 1) _ T' h3 (by omega) cu3 e3 eC3 (g3 z) (sPr_G eP2 (farG.ofT f3)) f03
      · rw [if_neg (qB_no (mBc_eq0.mp z))]
        show some (Sum.inl (mWr (1 + (u : Int)))) = _
        rw [w1]
theorem s_K_check (h : mMem) (S : sS) (o : sOk S) (o3 : sOk3 S) (e : RC h S) : mCon l g n_K_check (d + 16) [.inr (8, 0)] h (fun r h' => r = some (.inl (spCheck S)) ∧ RC h' S ∧ onlyC h h') := by
  refine e_K_check (fun hv hm => ?_)
  refine mGo_wp h_K_check 80 [] ?_
  have e3 := e.2.2.2.1
  unfold spCheck
  refine ⟨fun z => ?_, fun z => ?_⟩
  · rw [e3] at z
    rw [if_neg (by omega)]
    have hm0 : 0 < opM S.1 := o3.1 (by omega)
    obtain ⟨j, hj⟩ : ∃ j, opM S.1 = j + 1 := ⟨opM S.1 - 1, by omega⟩
    have ho := opO_of o.1
    refine mCall_on2 (mCon_lift (by omega) (c_Filling_begin (d := d) S.1 o.1 h e.1)) ?_
    rintro r h1 ⟨rfl, a1, a2, a3, a4, a5, f1⟩
    have R1 := RC_scr e f1
    have ff : mCon l g n_Proof_firstFault (d + 15) [.inr (6, 0), .inr (0, 0)] h1 (fun v h' => v = some (.inl (cwx S.1 S.2.2.2 (opM S.1) (oN S.1) S.2.2.2.1 0 (nx (nC S.1) (oN S.1) 0 (nT S.1)))) ∧ farG h1 h') := by
      refine e_Proof_firstFault (fun hv hm => ?_)
      refine mGo_wp h_Proof_firstFault 80 [2] ?_
      exact l_fault S.1 (opM S.1) (oN S.1) ho S.2.2.2 o.2.2.2 o3.2 h1 S.2.2.2.1 0 0 (nT S.1) h1 (by omega) (cuB_of o.1 hm0) a1 a5 a2 R1.2.2.2 farG.rf
    refine mCall_on2 ff ?_
    rintro r h2 ⟨rfl, f2⟩
    refine ⟨?_, RC_scr e (f1.tr f2.scr), (f1.tr f2.scr).only⟩
    have key := flw_cw S.1 S.2.2.2 (opM S.1) (oN S.1) ho.2.2 j 0 (nT S.1) 0 (by omega) (fun a _ ha => (oN_mem ha).2) (Nat.zero_le _)
    have hflR : flw S.1 S.2.2.2 (opM S.1) (oN S.1) (j + 1) 0 (nT S.1) 0 = flR S := by
      unfold flR
      rw [hj]
    have bd := (flw_bd S.1 S.2.2.2 (opM S.1) (oN S.1) (opM S.1) 0 (nT S.1) 0 (Nat.zero_le _)).2
    have bd : (flR S).2 ≤ S.2.2.2.1 := bd
    rw [Nat.sub_zero, hflR] at key
    rw [key]
    by_cases ok : (flR S).1 = true
    · rw [if_pos ok]
      by_cases hz : (flR S).2 = S.2.2.2.1
      · rw [if_pos ⟨ok, hz⟩, hz, Nat.sub_self]
        rfl
      · rw [if_neg (fun y => hz y.2)]
        obtain ⟨k, hk⟩ : ∃ k, S.2.2.2.1 - (flR S).2 = k + 1 := ⟨S.2.2.2.1 - (flR S).2 - 1, by omega⟩
        rw [hk]
        rfl
    · rw [if_neg ok, if_neg (fun y => ok y.1)]
  · rw [e3] at z
    rw [if_pos (by omega)]
    exact ⟨rfl, e, onlyC.rf⟩
end KCheck
