/-! tries: the tree in its order, what is left at a cursor -/
abbrev bT : Type := Nat → Int
abbrev eV : Type := Nat × bT
noncomputable def kds (C : Nat) (o : Nat → Nat) (D : Nat → bT → Prop) : Nat → Nat → bT → List eV
  | 0, _, _ => []
  | j + 1, i, T => (List.range' 0 C).flatMap (fun c => (i, tSet T (o i) (c : Nat)) :: (if qB (D i (tSet T (o i) (c : Nat))) = true then kds C o D j (i + 1) (tSet T (o i) (c : Nat)) else []))
noncomputable def kdF (C : Nat) (o : Nat → Nat) (D : Nat → bT → Prop) (j i : Nat) (T : bT) (c cnt : Nat) : List eV := (List.range' c cnt).flatMap (fun c => (i, tSet T (o i) (c : Nat)) :: (if qB (D i (tSet T (o i) (c : Nat))) = true then kds C o D j (i + 1) (tSet T (o i) (c : Nat)) else []))
noncomputable def rem (C m : Nat) (o : Nat → Nat) (D : Nat → bT → Prop) : Nat → bT → List eV
  | 0, T => kdF C o D (m - 1) 0 T (T (o 0) + 1).toNat (C - (T (o 0) + 1).toNat)
  | i + 1, T => kdF C o D (m - (i + 1) - 1) (i + 1) T (T (o (i + 1)) + 1).toNat (C - (T (o (i + 1)) + 1).toNat) ++ rem C m o D i (tSet T (o (i + 1)) (-1))
noncomputable def nx (C : Nat) (o : Nat → Nat) : Nat → bT → Option eV
  | 0, T => if T (o 0) + 1 < C then some (0, tSet T (o 0) (T (o 0) + 1)) else none
  | i + 1, T => if T (o (i + 1)) + 1 < C then some (i + 1, tSet T (o (i + 1)) (T (o (i + 1)) + 1)) else nx C o i (tSet T (o (i + 1)) (-1))
theorem kdF_over (C : Nat) (o : Nat → Nat) (D : Nat → bT → Prop) (j i : Nat) (T : bT) (v : Int) (c cnt : Nat) : kdF C o D j i (tSet T (o i) v) c cnt = kdF C o D j i T c cnt := by
  unfold kdF
  refine congrArg (fun f => (List.range' c cnt).flatMap f) (funext fun c => ?_)
  rw [tSet_tSet]
theorem kdF_all (C : Nat) (o : Nat → Nat) (D : Nat → bT → Prop) (j i : Nat) (T : bT) : kdF C o D j i T 0 C = kds C o D (j + 1) i T := rfl
theorem kdF_next {C : Nat} {o : Nat → Nat} {D : Nat → bT → Prop} {j i : Nat} {T : bT} {c cnt : Nat} : kdF C o D j i T c (cnt + 1) = (i, tSet T (o i) (c : Nat)) :: ((if qB (D i (tSet T (o i) (c : Nat))) = true then kds C o D j (i + 1) (tSet T (o i) (c : Nat)) else []) ++ kdF C o D j i T (c + 1) cnt) := by
  unfold kdF
  rw [List.range'_succ, List.flatMap_cons]
  rfl
/-- the tail behind the joins at a depth -/
noncomputable def reU (C m : Nat) (o : Nat → Nat) (D : Nat → bT → Prop) : Nat → bT → List eV
  | 0, _ => []
  | i + 1, T => rem C m o D i (tSet T (o (i + 1)) (-1))
theorem rem_eq (C m : Nat) (o : Nat → Nat) (D : Nat → bT → Prop) : ∀ (i : Nat) (T : bT), rem C m o D i T = kdF C o D (m - i - 1) i T (T (o i) + 1).toNat (C - (T (o i) + 1).toNat) ++ reU C m o D i T
  | 0, T => (List.append_nil _).symm
  | i + 1, T => rfl
theorem reU_over (C m : Nat) (o : Nat → Nat) (D : Nat → bT → Prop) : ∀ (i : Nat) (T : bT) (v : Int), reU C m o D i (tSet T (o i) v) = reU C m o D i T
  | 0, _, _ => rfl
  | i + 1, T, v => by
    show rem C m o D i (tSet (tSet T (o (i + 1)) v) (o (i + 1)) (-1)) = _
    rw [tSet_tSet]
    rfl
theorem rem_first {C m : Nat} {o : Nat → Nat} {D : Nat → bT → Prop} {i : Nat} {T : bT} (h1 : -1 ≤ T (o i)) (h2 : T (o i) + 1 < C) : rem C m o D i T = (i, tSet T (o i) (T (o i) + 1)) :: ((if qB (D i (tSet T (o i) (T (o i) + 1))) = true then kds C o D (m - i - 1) (i + 1) (tSet T (o i) (T (o i) + 1)) else []) ++ rem C m o D i (tSet T (o i) (T (o i) + 1))) := by
  obtain ⟨c, hc⟩ : ∃ c : Nat, T (o i) + 1 = (c : Int) := ⟨(T (o i) + 1).toNat, by omega⟩
  rw [rem_eq C m o D i T, hc, Int.toNat_natCast, show C - c = (C - (c + 1)) + 1 by omega, kdF_next]
  rw [rem_eq C m o D i (tSet T (o i) (c : Int)), kdF_over, reU_over, show tSet T (o i) (c : Int) (o i) = (c : Int) from if_pos rfl, show ((c : Int) + 1).toNat = c + 1 by omega]
  rw [List.cons_append, List.append_assoc]
theorem rem_nx (C m : Nat) (o : Nat → Nat) (D : Nat → bT → Prop) : ∀ (i : Nat) (T : bT), (∀ j, j ≤ i → -1 ≤ T (o j)) → (∀ j k, j ≤ i → k ≤ i → o j = o k → j = k) → rem C m o D i T = (match nx C o i T with
    | none => []
    | some (i', T') => (i', T') :: ((if qB (D i' T') = true then kds C o D (m - i' - 1) (i' + 1) T' else []) ++ rem C m o D i' T'))
  | 0, T, h, _ => by
    unfold nx
    by_cases z : T (o 0) + 1 < C
    · rw [if_pos z]
      exact rem_first (h 0 (Nat.le_refl _)) z
    · rw [if_neg z]
      show kdF _ _ _ _ _ _ _ _ = []
      rw [show C - (T (o 0) + 1).toNat = 0 by omega]
      rfl
  | i + 1, T, h, ho => by
    unfold nx
    by_cases z : T (o (i + 1)) + 1 < C
    · rw [if_pos z]
      exact rem_first (h (i + 1) (Nat.le_refl _)) z
    · rw [if_neg z]
      show kdF _ _ _ _ _ _ _ _ ++ rem C m o D i _ = _
      rw [show C - (T (o (i + 1)) + 1).toNat = 0 by omega]
      show [] ++ rem C m o D i _ = _
      rw [List.nil_append]
      refine rem_nx C m o D i (tSet T (o (i + 1)) (-1)) (fun j hj => ?_) (fun j k hj hk => ho j k (by omega) (by omega))
      show -1 ≤ (if o j = o (i + 1) then -1 else T (o j))
      split
      · exact Int.le_refl _
      · exact h j (by omega)
theorem rem_deep {C m : Nat} {o : Nat → Nat} {D : Nat → bT → Prop} {i : Nat} {T : bT} (h : T (o (i + 1)) = -1) (hm : i + 1 < m) : rem C m o D (i + 1) T = kds C o D (m - i - 1) (i + 1) T ++ rem C m o D i T := by
  show kdF _ _ _ _ _ _ _ _ ++ rem C m o D i (tSet T (o (i + 1)) (-1)) = _
  rw [tSet_self h, h, show ((-1 : Int) + 1).toNat = 0 from rfl, Nat.sub_zero, kdF_all, show m - (i + 1) - 1 + 1 = m - i - 1 by omega]
theorem rem_start {C m : Nat} {o : Nat → Nat} {D : Nat → bT → Prop} {T : bT} (h : T (o 0) = -1) (hm : 0 < m) : rem C m o D 0 T = kds C o D m 0 T := by
  show kdF _ _ _ _ _ _ _ _ = _
  rw [h, show ((-1 : Int) + 1).toNat = 0 from rfl, Nat.sub_zero, kdF_all, show m - 1 + 1 = m by omega]
/-- the board at a cursor -/
def cuB (N : nN) (m : Nat) (o : Nat → Nat) (i : Nat) (T : bT) : Prop := nOk (nSetT N T) ∧ i < m ∧ (∀ j, i < j → j < m → T (o j) = -1)
def opO (N : nN) (m : Nat) (o : Nat → Nat) : Prop := m ≤ 66 ∧ (∀ i, i < m → o i < js (nP N)) ∧ (∀ i j, i < m → j < m → o i = o j → i = j)
theorem nx_ok {N : nN} {m : Nat} {o : Nat → Nat} (ho : opO N m o) : ∀ (i : Nat) (T : bT), cuB N m o i T → ∀ i' T', nx (nC N) o i T = some (i', T') → cuB N m o i' T' ∧ i' ≤ i ∧ 0 ≤ T' (o i') ∧ (∀ k, (∀ j, j < m → k ≠ o j) → T' k = T k)
  | 0, T, cu, i', T', h => by
    unfold nx at h
    split at h
    · next z =>
      cases h
      have h66 := js_le (nP N) (by have : nP N ≤ 12 := cu.1.1.2; omega)
      have hb := cu.1.2.2.2.1 (o 0) (by have := ho.2.1 0 cu.2.1; omega)
      have hb : -1 ≤ T (o 0) ∧ T (o 0) < nC N := hb
      refine ⟨⟨?_, cu.2.1, fun j hj hjm => ?_⟩, Nat.le_refl _, ?_, fun k hk => if_neg (hk 0 cu.2.1)⟩
      · exact nOk_tone cu.1 (k := o 0) (ho.2.1 0 cu.2.1) ⟨by omega, by show T (o 0) + 1 < nC N; omega⟩
      · show (if o j = o 0 then _ else T (o j)) = -1
        rw [if_neg (fun w => by have := ho.2.2 j 0 hjm cu.2.1 w; omega)]
        exact cu.2.2 j hj hjm
      · show 0 ≤ (if o 0 = o 0 then T (o 0) + 1 else _)
        rw [if_pos rfl]
        omega
    · cases h
  | i + 1, T, cu, i', T', h => by
    have h66 := js_le (nP N) (by have : nP N ≤ 12 := cu.1.1.2; omega)
    have hb := cu.1.2.2.2.1 (o (i + 1)) (by have := ho.2.1 (i + 1) cu.2.1; omega)
    have hb : -1 ≤ T (o (i + 1)) ∧ T (o (i + 1)) < nC N := hb
    unfold nx at h
    split at h
    · next z =>
      cases h
      refine ⟨⟨?_, cu.2.1, fun j hj hjm => ?_⟩, Nat.le_refl _, ?_, fun k hk => if_neg (hk (i + 1) cu.2.1)⟩
      · exact nOk_tone cu.1 (k := o (i + 1)) (ho.2.1 (i + 1) cu.2.1) ⟨by omega, by show T (o (i + 1)) + 1 < nC N; omega⟩
      · show (if o j = o (i + 1) then _ else T (o j)) = -1
        rw [if_neg (fun w => by have := ho.2.2 j (i + 1) hjm cu.2.1 w; omega)]
        exact cu.2.2 j hj hjm
      · show 0 ≤ (if o (i + 1) = o (i + 1) then T (o (i + 1)) + 1 else _)
        rw [if_pos rfl]
        omega
    · next z =>
      have cu2 : cuB N m o i (tSet T (o (i + 1)) (-1)) := by
        refine ⟨nOk_tone cu.1 (k := o (i + 1)) (ho.2.1 (i + 1) cu.2.1) ⟨by omega, by have := cu.1.2.1.1; show (-1 : Int) < nC N; have h2 : 2 ≤ nC N := this; omega⟩, by have := cu.2.1; omega, fun j hj hjm => ?_⟩
        show (if o j = o (i + 1) then -1 else T (o j)) = -1
        split
        · rfl
        · next w => exact cu.2.2 j (by have : j ≠ i + 1 := fun y => w (by rw [y]); omega) hjm
      obtain ⟨a1, a2, a3, a4⟩ := nx_ok ho i _ cu2 i' T' h
      exact ⟨a1, by omega, a3, fun k hk => (a4 k hk).trans (if_neg (hk (i + 1) cu.2.1))⟩
def farN (h h' : mMem) : Prop := ∀ (t : Nat) (a : Fin 8) (q : Nat), ¬ ((t = 0 ∧ q = 6) ∨ ((t = 22 ∨ t = 23) ∧ a = 1)) → h' t a q = h t a q
theorem farN.rf {h : mMem} : farN h h := fun _ _ _ _ => rfl
theorem farN.tr {h h1 h2 : mMem} (a : farN h h1) (b : farN h1 h2) : farN h h2 := fun t j k z => (b t j k z).trans (a t j k z)
theorem farN.ofB {h h1 : mMem} (a : sameBut 1 h h1) : farN h h1 := fun t j k z => a t j k (fun y => z (Or.inr y))
def fB (h : mMem) (m : Nat) (o : Nat → Nat) : Prop := h 0 0 5 = m ∧ ∀ i, i < m → h 27 0 i = o i
theorem fB_N {h h' : mMem} {m : Nat} {o : Nat → Nat} (e : fB h m o) (f : farN h h') : fB h' m o := ⟨(f _ _ _ (by simp)).trans e.1, fun i hi => (f _ _ _ (by simp)).trans (e.2 i hi)⟩
section Tries
variable {l : Launch} {g : mG} {d : Nat}
theorem c_Filling_tone (N : nN) (m : Nat) (o : Nat → Nat) (ho : opO N m o) (i : Nat) (T : bT) (cu : cuB N m o i T) (h : mMem) (e : fB h m o) (eC : isC h 1 (nSetT N T)) (e6 : h 0 0 6 = i) : mCon l g n_Filling_tone d [.inr (0, 0)] h (mIs (some (.inl (T (o i)))) h) := by
  have h66 := js_le (nP N) (by have : nP N ≤ 12 := cu.1.1.2; omega)
  have hoi := ho.2.1 i cu.2.1
  have hm := ho.1
  have hi := cu.2.1
  refine e_Filling_tone (fun hv hm => ?_)
  refine mGo_wp h_Filling_tone 40 [] ?_
  have r1 : h 27 0 (Int.toNat (h 0 0 6)) = o i := by rw [e6, Int.toNat_natCast, e.2 i cu.2.1]
  refine ⟨⟨by rw [e6]; omega, by rw [e6]; omega⟩, ⟨by rw [r1]; omega, by rw [r1]; omega⟩, ?_, rfl⟩
  rw [r1, Int.toNat_natCast, eC.2.2.2.2.1 (o i) (by omega)]
theorem c_Filling_join (N : nN) (m : Nat) (o : Nat → Nat) (ho : opO N m o) (i : Nat) (hi : i < m) (h : mMem) (e : fB h m o) (e6 : h 0 0 6 = i) : mCon l g n_Filling_join d [.inr (0, 0)] h (mIs (some (.inl (o i : Nat))) h) := by
  have hm := ho.1
  refine e_Filling_join (fun hv hm => ?_)
  refine mGo_wp h_Filling_join 40 [] ?_
  refine ⟨⟨by rw [e6]; omega, by rw [e6]; omega⟩, ?_, rfl⟩
  rw [e6, Int.toNat_natCast, e.2 i hi]
theorem c_Filling_goDeeper (m i : Nat) (hm : m ≤ 66) (hi : i < m) (h : mMem) (e5 : h 0 0 5 = m) (e6 : h 0 0 6 = i) : mCon l g n_Filling_goDeeper d [.inr (0, 0)] h (mIs (some (.inl (mB (i + 1 < m)))) (if i + 1 < m then mSet h 0 0 6 (i + 1 : Nat) else h)) := by
  refine e_Filling_goDeeper (fun hv hm => ?_)
  refine mGo_wp h_Filling_goDeeper 40 [] ?_
  have w : mWr (h 0 0 6 + 1) = ((i + 1 : Nat) : Int) := by rw [e6, mWr_of ⟨by omega, by omega⟩]; omega
  refine ⟨fun z => ?_, fun z => ?_⟩
  · rw [w, e5] at z
    rw [if_pos (by omega), mB_t (by omega)]
    refine ⟨Or.inr rfl, rfl, ?_⟩
    rw [w]
  · rw [w, e5] at z
    rw [if_neg (by omega), mB_f (by omega)]
    exact ⟨Or.inl rfl, rfl, rfl⟩
theorem l_nextTry (N : nN) (m : Nat) (o : Nat → Nat) (ho : opO N m o) (h : mMem) : ∀ (i : Nat) (b : Nat) (T : bT) (x2 : Option mRV) (h1 : mMem), b + i < m → cuB N m o i T → fB h1 m o → isC h1 1 (nSetT N T) → h1 0 0 6 = i → farN h h1 →
    mGo l g (mMt n_Filling_nextTry) (d + 2) 2 [some (.inr (0, 0)), some (.inl b), x2] [] h1 (fun v h' => v = some (.inl (mBc (nx (nC N) o i T ≠ none))) ∧ (∀ i' T', nx (nC N) o i T = some (i', T') → h' 0 0 6 = (i' : Nat) ∧ isC h' 1 (nSetT N T')) ∧ farN h h') := by
  have hm := ho.1
  intro i
  induction i with
  | zero =>
    intro b T x2 h1 hb cu e eC e6 f
    have h66 := js_le (nP N) (by have : nP N ≤ 12 := cu.1.1.2; omega)
    have hoi := ho.2.1 0 cu.2.1
    have htb : -1 ≤ T (o 0) ∧ T (o 0) < nC N := cu.1.2.2.2.1 (o 0) (by omega)
    have hC : 2 ≤ nC N ∧ nC N ≤ 3 := cu.1.2.1
    refine mGo_wp h_Filling_nextTry 120 [2] ?_
    have r1 : h1 27 0 (Int.toNat (h1 0 0 6)) = o 0 := by rw [e6, Int.toNat_natCast, e.2 0 cu.2.1]
    refine ⟨fun z => by rw [e.1] at z; omega, fun _ => ⟨fun z => by rw [e6] at z; omega, fun _ => ⟨fun _ => ?_, fun z => by rw [e6, e.1] at z; omega⟩⟩⟩
    refine mCall_is (mCon_lift (by omega) (c_Filling_tone (d := d) N m o ho 0 T cu h1 e eC e6)) ?_
    have w : mWr (T (o 0) + 1) = T (o 0) + 1 := mWr_of ⟨by omega, by omega⟩
    have e41 : h1 4 1 1 = nC N := eC.2.1
    unfold nx
    refine ⟨fun z => ⟨⟨by rw [e6]; omega, by rw [e6]; omega⟩, ?_⟩, fun z => ⟨⟨by rw [e6]; omega, by rw [e6]; omega⟩, ?_⟩⟩
    · rw [w, e41] at z
      rw [if_neg (by omega)]
      refine mCall_on2 (show mCon l g n_Net_give (d + 1) [.inr (4, 1), .inl (h1 27 0 (Int.toNat (h1 0 0 6))), .inl (-1)] h1 _ by rw [r1]; exact s_give 1 (nSetT N T) cu.1 (o 0) (-1) (by omega) (by omega) h1 eC) ?_
      rintro v h2 ⟨rfl, e2, f2⟩
      have e26 : h2 0 0 6 = ((0 : Nat) : Int) := (f2 0 0 6 (by simp)).trans e6
      have w2 : mWr (h2 0 0 6 - 1) = -1 := by rw [e26]; exact mWr_of ⟨by decide, by decide⟩
      show mGo l g _ _ 2 [_, some (.inl (mWr ((b : Int) + 1))), _] [] (mSet h2 0 0 6 (mWr (h2 0 0 6 - 1))) _
      rw [w2]
      refine mGo_wp h_Filling_nextTry 120 [] ?_
      have f3 : farN h (mSet h2 0 0 6 (-1)) := f.tr ((farN.ofB f2).tr (fun t a q z => mSet_no (fun y => z (Or.inl ⟨y.1, y.2.2⟩))))
      have e35 : mSet h2 0 0 6 (-1) 0 0 5 = m := by rw [mSet_no (by simp), f2 0 0 5 (by simp), e.1]
      have K : (fun v h' => v = some (Sum.inl (mBc ((none : Option eV) ≠ none))) ∧ (∀ i' T', (none : Option eV) = some (i', T') → h' 0 0 6 = ((i' : Nat) : Int) ∧ isC h' 1 (nSetT N T')) ∧ farN h h' : Option mRV → mMem → Prop) (some (.inl 0)) (mSet h2 0 0 6 (-1)) := ⟨by rw [mBc_f (fun z => z rfl)], (fun i' T' z => by cases z), f3⟩
      refine ⟨fun _ => ⟨Or.inl rfl, K⟩, fun _ => ⟨fun _ => ⟨Or.inl rfl, K⟩, fun z => absurd z (by rw [mSet_at]; decide)⟩⟩
    · rw [w, e41] at z
      rw [if_pos z]
      refine mCall_on2 (show mCon l g n_Net_give (d + 1) [.inr (4, 1), .inl (h1 27 0 (Int.toNat (h1 0 0 6))), .inl (mWr (T (o 0) + 1))] h1 _ by rw [r1, w]; exact s_give 1 (nSetT N T) cu.1 (o 0) (T (o 0) + 1) (by omega) (by omega) h1 eC) ?_
      rintro v h2 ⟨rfl, e2, f2⟩
      refine ⟨Or.inr rfl, by rw [mBc_t (by simp)], fun i' T' q => ?_, f.tr (farN.ofB f2)⟩
      cases q
      exact ⟨(f2 0 0 6 (by simp)).trans e6, e2⟩
  | succ i ih =>
    intro b T x2 h1 hb cu e eC e6 f
    have h66 := js_le (nP N) (by have : nP N ≤ 12 := cu.1.1.2; omega)
    have hoi := ho.2.1 (i + 1) cu.2.1
    have htb : -1 ≤ T (o (i + 1)) ∧ T (o (i + 1)) < nC N := cu.1.2.2.2.1 (o (i + 1)) (by omega)
    have hC : 2 ≤ nC N ∧ nC N ≤ 3 := cu.1.2.1
    refine mGo_wp h_Filling_nextTry 120 [2] ?_
    have r1 : h1 27 0 (Int.toNat (h1 0 0 6)) = o (i + 1) := by rw [e6, Int.toNat_natCast, e.2 (i + 1) cu.2.1]
    refine ⟨fun z => by rw [e.1] at z; omega, fun _ => ⟨fun z => by rw [e6] at z; omega, fun _ => ⟨fun _ => ?_, fun z => by rw [e6, e.1] at z; omega⟩⟩⟩
    refine mCall_is (mCon_lift (by omega) (c_Filling_tone (d := d) N m o ho (i + 1) T cu h1 e eC e6)) ?_
    have w : mWr (T (o (i + 1)) + 1) = T (o (i + 1)) + 1 := mWr_of ⟨by omega, by omega⟩
    have e41 : h1 4 1 1 = nC N := eC.2.1
    unfold nx
    refine ⟨fun z => ⟨⟨by rw [e6]; omega, by rw [e6]; omega⟩, ?_⟩, fun z => ⟨⟨by rw [e6]; omega, by rw [e6]; omega⟩, ?_⟩⟩
    · rw [w, e41] at z
      rw [if_neg (by omega)]
      refine mCall_on2 (show mCon l g n_Net_give (d + 1) [.inr (4, 1), .inl (h1 27 0 (Int.toNat (h1 0 0 6))), .inl (-1)] h1 _ by rw [r1]; exact s_give 1 (nSetT N T) cu.1 (o (i + 1)) (-1) (by omega) (by omega) h1 eC) ?_
      rintro v h2 ⟨rfl, e2, f2⟩
      have e26 : h2 0 0 6 = ((i + 1 : Nat) : Int) := (f2 0 0 6 (by simp)).trans e6
      have w2 : mWr (h2 0 0 6 - 1) = ((i : Nat) : Int) := by rw [e26, mWr_of ⟨by omega, by omega⟩]; omega
      show mGo l g _ _ 2 [_, some (.inl (mWr ((b : Int) + 1))), _] [] (mSet h2 0 0 6 (mWr (h2 0 0 6 - 1))) _
      rw [w2, mWr_of ⟨by omega, by omega⟩]
      have cu2 : cuB N m o i (tSet T (o (i + 1)) (-1)) := by
        refine ⟨nOk_tone cu.1 (k := o (i + 1)) (ho.2.1 (i + 1) cu.2.1) ⟨by omega, by show (-1 : Int) < nC N; omega⟩, by have := cu.2.1; omega, fun j hj hjm => ?_⟩
        show (if o j = o (i + 1) then -1 else T (o j)) = -1
        split
        · rfl
        · next w => exact cu.2.2 j (by have : j ≠ i + 1 := fun y => w (by rw [y]); omega) hjm
      have f3 : farN h2 (mSet h2 0 0 6 ((i : Nat) : Int)) := fun t a q z => mSet_no (fun y => z (Or.inl ⟨y.1, y.2.2⟩))
      exact ih (b + 1) (tSet T (o (i + 1)) (-1)) _ _ (by omega) cu2 (fB_N (fB_N e (farN.ofB f2)) f3) (isC_eq e2 (fun t q ht => mSet_no (fun y => by omega))) (mSet_at _ _ _ _ _) (f.tr ((farN.ofB f2).tr f3))
    · rw [w, e41] at z
      rw [if_pos z]
      refine mCall_on2 (show mCon l g n_Net_give (d + 1) [.inr (4, 1), .inl (h1 27 0 (Int.toNat (h1 0 0 6))), .inl (mWr (T (o (i + 1)) + 1))] h1 _ by rw [r1, w]; exact s_give 1 (nSetT N T) cu.1 (o (i + 1)) (T (o (i + 1)) + 1) (by omega) (by omega) h1 eC) ?_
      rintro v h2 ⟨rfl, e2, f2⟩
      refine ⟨Or.inr rfl, by rw [mBc_t (by simp)], fun i' T' q => ?_, f.tr (farN.ofB f2)⟩
      cases q
      exact ⟨(f2 0 0 6 (by simp)).trans e6, e2⟩
theorem c_nextTry (N : nN) (m : Nat) (o : Nat → Nat) (ho : opO N m o) (i : Nat) (T : bT) (cu : cuB N m o i T) (h : mMem) (e : fB h m o) (eC : isC h 1 (nSetT N T)) (e6 : h 0 0 6 = i) : mCon l g n_Filling_nextTry (d + 2) [.inr (0, 0)] h (fun v h' => v = some (.inl (mBc (nx (nC N) o i T ≠ none))) ∧ (∀ i' T', nx (nC N) o i T = some (i', T') → h' 0 0 6 = (i' : Nat) ∧ isC h' 1 (nSetT N T')) ∧ farN h h') := by
  refine e_Filling_nextTry (fun hv hm => ?_)
  refine mGo_wp h_Filling_nextTry 120 [2] ?_
  exact l_nextTry N m o ho h i 0 T none h (by have := cu.2.1; omega) cu e eC e6 farN.rf
end Tries
