/-! the model's isClear, clashes, clear, copies, copy, count -/
def sm (f : Nat → Nat) : Nat → Nat
  | 0 => 0
  | n + 1 => sm f n + f n
theorem sm_le {f : Nat → Nat} {B : Nat} : ∀ n, (∀ k, k < n → f k ≤ B) → sm f n ≤ n * B
  | 0, _ => by show 0 ≤ _; omega
  | n + 1, h => by
    have h1 := sm_le n (fun k hk => h k (by omega))
    have h2 := h n (by omega)
    show sm f n + f n ≤ (n + 1) * B
    rw [Nat.add_mul, Nat.one_mul]
    omega
def nClear (N : nN) : Prop := ∀ c, c < nC N → cpL N c 0 = []
noncomputable def nClash (N : nN) : Nat := sm (fun c => (cpL N c 0).length) (nC N)
theorem cpL_le {N : nN} (o : nOk N) {c : Nat} (hc : c < 3) : (cpL N c 0).length ≤ 35831808 := cpL_len o.1.2 (o.2.2.1 c hc) 0
theorem nClash_part {N : nN} (o : nOk N) {k : Nat} (hk : k ≤ nC N) : sm (fun c => (cpL N c 0).length) k ≤ 107495424 := by
  have hc := o.2.1.2
  have := sm_le (f := fun c => (cpL N c 0).length) (B := 35831808) k (fun c hc => cpL_le o (by omega))
  have h2 : k * 35831808 ≤ 3 * 35831808 := Nat.mul_le_mul_right _ (by omega)
  omega
section MClear
variable {l : Launch} {g : mG} {d : Nat}
theorem l_M_isClear (N : nN) (o : nOk N) (h : mMem) (e : isM h N) : ∀ (n c : Nat) (h1 : mMem), c + n = nC N → farX h h1 → (∀ c', c' < c → cpL N c' 0 = []) → mGo l g (mMt n_M_isClear) (d + 13) 2 [some (.inr (9, 0)), some (.inl c)] [] h1 (fun v h' => v = some (.inl (mBc (nClear N))) ∧ farX h h') := by
  have hC := o.2.1.2
  intro n
  induction n with
  | zero =>
    intro c h1 hc f hz
    refine mGo_wp h_M_isClear 40 [2] ?_
    have e1 := (isM_farX e f).2.1
    refine ⟨fun _ => ⟨Or.inr rfl, ?_, f⟩, fun z => by rw [e1] at z; omega⟩
    rw [mBc_t (p := nClear N) (fun c' hc' => hz c' (by omega))]
  | succ n ih =>
    intro c h1 hc f hz
    refine mGo_wp h_M_isClear 40 [2] ?_
    have e2 := isM_farX e f
    have e1 := e2.2.1
    refine ⟨fun z => by rw [e1] at z; omega, fun _ => ?_⟩
    refine mCall_on2 (c_M_hasCopy c (by omega) N o.1.2 (o.2.2.1 c (by omega)) h1 e2) ?_
    rintro v h' ⟨rfl, -, f2⟩
    refine ⟨fun z => ?_, fun z => ⟨Or.inl rfl, ?_, f.tr f2⟩⟩
    · show mGo l g _ _ 2 [_, some (.inl (mWr ((c : Int) + 1)))] [] h' _
      rw [mWr_of ⟨by omega, by omega⟩]
      refine ih (c + 1) h' (by omega) (f.tr f2) (fun c' hc' => ?_)
      by_cases hq : c' = c
      · rw [hq]
        exact Classical.not_not.mp (mBc_eq0.mp z)
      · exact hz c' (by omega)
    · rw [mBc_f (fun w => mBc_ne0.mp z (w c (by omega)))]
theorem c_M_isClear (N : nN) (o : nOk N) (h : mMem) (e : isM h N) : mCon l g n_M_isClear (d + 13) [.inr (9, 0)] h (fun v h' => v = some (.inl (mBc (nClear N))) ∧ farX h h') := by
  refine e_M_isClear (fun hv hm => ?_)
  refine mGo_wp h_M_isClear 40 [2] ?_
  exact l_M_isClear N o h e (nC N) 0 h (by omega) farX.rf (fun c' hc' => by omega)
theorem l_M_clashes (N : nN) (o : nOk N) (h : mMem) (e : isM h N) : ∀ (n c : Nat) (h1 : mMem), c + n = nC N → farX h h1 → mGo l g (mMt n_M_clashes) (d + 13) 4 [some (.inr (9, 0)), some (.inl (sm (fun c => (cpL N c 0).length) c : Nat)), some (.inl c)] [] h1 (fun v h' => v = some (.inl (nClash N : Nat)) ∧ farX h h') := by
  have hC := o.2.1.2
  intro n
  induction n with
  | zero =>
    intro c h1 hc f
    refine mGo_wp h_M_clashes 40 [4] ?_
    have e1 := (isM_farX e f).2.1
    have : c = nC N := by omega
    subst this
    exact ⟨fun _ => ⟨rfl, f⟩, fun z => by rw [e1] at z; omega⟩
  | succ n ih =>
    intro c h1 hc f
    refine mGo_wp h_M_clashes 40 [4] ?_
    have e2 := isM_farX e f
    have e1 := e2.2.1
    refine ⟨fun z => by rw [e1] at z; omega, fun _ => ?_⟩
    refine mCall_on2 (c_M_copiesOf c (by omega) N o.1.2 (o.2.2.1 c (by omega)) h1 e2) ?_
    rintro v h' ⟨rfl, f2⟩
    have b1 := nClash_part o (k := c) (by omega)
    have b2 := cpL_le o (c := c) (by omega)
    show mGo l g _ _ 4 [_, some (.inl (mWr (((sm (fun c => (cpL N c 0).length) c : Nat) : Int) + ((cpL N c 0).length : Nat)))), some (.inl (mWr ((c : Int) + 1)))] [] h' _
    rw [mWr_of ⟨by omega, by omega⟩, mWr_of ⟨by omega, by omega⟩]
    exact ih (c + 1) h' (by omega) (f.tr f2)
theorem c_M_clashes (N : nN) (o : nOk N) (h : mMem) (e : isM h N) : mCon l g n_M_clashes (d + 13) [.inr (9, 0)] h (fun v h' => v = some (.inl (nClash N : Nat)) ∧ farX h h') := by
  refine e_M_clashes (fun hv hm => ?_)
  refine mGo_wp h_M_clashes 40 [4] ?_
  exact l_M_clashes N o h e (nC N) 0 h (by omega) farX.rf
noncomputable def spClear (N : nN) : Int := mBc (nClear N)
noncomputable def spCopies (N : nN) (q : Int) : Int := if 0 ≤ q ∧ q < nC N then ((cpL N q.toNat 0).length : Nat) else vBAD
noncomputable def fstAt (xs : List rE) (i : Int) : Int := match xs with
  | [] => vNONE
  | x :: _ => if i < x.1.length then (x.1.getD i.toNat 0 : Nat) else vNONE
noncomputable def spCopy (N : nN) (q i : Int) : Int := if (0 ≤ q ∧ q < nC N) ∧ 0 ≤ i then fstAt (cpL N q.toNat 0) i else vBAD
noncomputable def spCount (S : sS) (w : Int) : Int := if w = 0 then nP S.1 else if w = 1 then nC S.1 else if w = 2 then nBare S.1 else if w = 3 then nClash S.1 else if w = 4 then S.2.1.length else if w = 5 then S.2.2.2.1 else vBAD
abbrev ansM (h : mMem) (S : sS) (a : Int) : Option mRV → mMem → Prop := fun r h' => r = some (.inl a) ∧ RM h' S ∧ onlyM h h'
theorem ansM_X {h h' : mMem} {S : sS} (e : RM h S) (f : farX h h') : RM h' S ∧ onlyM h h' := ⟨RM_scr e (scrM.ofX f), (scrM.ofX f).only⟩
theorem s_M_clear (h : mMem) (S : sS) (o : sOk S) (e : RM h S) : mCon l g n_M_clear (d + 14) [.inr (9, 0)] h (ansM h S (spClear S.1)) := by
  refine e_M_clear (fun hv hm => ?_)
  refine mGo_wp h_M_clear 40 [] ?_
  refine mCall_on2 (c_M_isClear S.1 o.1 h e.1) ?_
  rintro v h' ⟨rfl, f⟩
  unfold spClear
  refine ⟨fun z => ⟨?_, ansM_X e f⟩, fun z => ⟨?_, ansM_X e f⟩⟩
  · rw [z]
  · rw [mBc_t (mBc_ne0.mp z)]
theorem s_M_copies (q : Int) (h : mMem) (S : sS) (o : sOk S) (e : RM h S) : mCon l g n_M_copies (d + 13) [.inr (9, 0), .inl q] h (ansM h S (spCopies S.1 q)) := by
  refine e_M_copies (fun hv hm => ?_)
  refine mGo_wp h_M_copies 40 [] ?_
  have hC := o.1.2.1.2
  refine mCall_is (c_M_isColour q (nC S.1) (by omega) h e.1.2.1) ?_
  refine ⟨fun z => ?_, fun z => ?_⟩
  · exact ⟨by rw [spCopies, if_neg (mB_eq0.mp z)], e, onlyM.rf⟩
  · have c := mB_ne0.mp z
    obtain ⟨q', rfl⟩ := Int.eq_ofNat_of_zero_le c.1
    refine mCall_on2 (c_M_copiesOf q' (by omega) S.1 o.1.1.2 (o.1.2.2.1 q' (by omega)) h e.1) ?_
    rintro v h' ⟨rfl, f⟩
    exact ⟨by rw [spCopies, if_pos c, Int.toNat_natCast], ansM_X e f⟩
theorem cpL_row {N : nN} (o : nOk N) {c : Nat} (hc : c < 3) {mm : Nat} {x : rE} (hx : x ∈ cpL N c mm) : x.1.length = nln N c ∧ x.1.length ≤ 7 ∧ (∀ y ∈ x.1, y < nP N) ∧ rOk (nkk N c) x.1 x.2 := by
  unfold cpL at hx
  split at hx
  · cases hx
  · next h0 =>
    obtain ⟨k1, -⟩ := kOk_of (o.2.2.1 c hc) h0
    have hn := o.1.2
    have gen : ∀ (j : Nat) (r es : List Nat) (x : rE), x ∈ rowsF (nkk N c) (nln N c) (nP N) j r es → rOk (nkk N c) r es → (∀ y ∈ r, y < nP N) → x.1.length = r.length + j ∧ (∀ y ∈ x.1, y < nP N) ∧ rOk (nkk N c) x.1 x.2 := by
      intro j
      induction j with
      | zero =>
        intro r es x hx o1 o2
        have : x = (r, es) := List.mem_singleton.mp hx
        subst this
        exact ⟨rfl, o2, o1⟩
      | succ j ih =>
        intro r es x hx o1 o2
        obtain ⟨p, hp, h1⟩ := List.mem_flatMap.mp hx
        have hp2 : p < nP N := by
          have := List.mem_range'_1.mp hp
          omega
        split at h1
        · next hq =>
          obtain ⟨r1, r2⟩ := qB_iff.mp hq
          obtain ⟨w1, w2, w3⟩ := ih _ _ x h1 (rOk_add k1 o1 (by omega) r1) (fun y hy => by
            rcases List.mem_append.mp hy with w | w
            · exact o2 y w
            · rw [List.mem_singleton.mp w]; exact hp2)
          refine ⟨?_, w2, w3⟩
          rw [w1, List.length_append]
          show r.length + 1 + j = r.length + (j + 1)
          omega
        · cases h1
    obtain ⟨w1, w2, w3⟩ := gen _ _ _ x (List.mem_filter.mp hx).1 (rOk_nil _) (fun y hy => by cases hy)
    have w1 : x.1.length = nln N c := by rw [w1]; exact Nat.zero_add _
    exact ⟨w1, by rw [w1]; exact kOk_le k1, w2, w3⟩
theorem s_M_copy (q i : Int) (h : mMem) (S : sS) (o : sOk S) (e : RM h S) : mCon l g n_M_copy (d + 13) [.inr (9, 0), .inl q, .inl i] h (ansM h S (spCopy S.1 q i)) := by
  refine e_M_copy (fun hv hm => ?_)
  refine mGo_wp h_M_copy 40 [15] ?_
  have hC := o.1.2.1.2
  refine mCall_is (c_M_isColour q (nC S.1) (by omega) h e.1.2.1) ?_
  refine ⟨fun z => ?_, fun z => ⟨fun z2 => ?_, fun z2 => ?_⟩⟩
  · exact ⟨by rw [spCopy, if_neg (fun w => mB_eq0.mp z w.1)], e, onlyM.rf⟩
  · have c := mB_ne0.mp z
    obtain ⟨q', rfl⟩ := Int.eq_ofNat_of_zero_le c.1
    refine mGo_wp h_M_copy 40 [] ?_
    refine mCall_on2 (c_M_hasCopy q' (by omega) S.1 o.1.1.2 (o.1.2.2.1 q' (by omega)) h e.1) ?_
    rintro v h' ⟨rfl, w, f⟩
    unfold spCopy
    rw [if_pos ⟨c, z2⟩, Int.toNat_natCast]
    cases hx : cpL S.1 q' 0 with
    | nil => exact ⟨fun _ => ⟨rfl, ansM_X e f⟩, fun y => absurd (mBc_f (fun y => y rfl)) y⟩
    | cons x xs =>
      obtain ⟨w1, w2⟩ := w x xs hx
      have hl := (cpL_row o.1 (show q' < 3 by omega) (x := x) (mm := 0) (by rw [hx]; exact List.mem_cons_self)).2.1
      refine ⟨fun y => absurd (by simp) (mBc_eq0.mp y), fun _ => ⟨fun y => ?_, fun y => ?_⟩⟩
      · rw [w1] at y
        exact ⟨by unfold fstAt; dsimp only; rw [if_neg (by omega)], ansM_X e f⟩
      · rw [w1] at y
        refine ⟨⟨z2, by omega⟩, ?_, ansM_X e f⟩
        rw [w2 i.toNat (by omega)]
        unfold fstAt
        dsimp only
        rw [if_pos y]
  · exact ⟨by rw [spCopy, if_neg (fun w => by omega)], e, onlyM.rf⟩
theorem s_M_count (w : Int) (h : mMem) (S : sS) (o : sOk S) (e : RM h S) : mCon l g n_M_count (d + 14) [.inr (9, 0), .inl w] h (ansM h S (spCount S w)) := by
  refine e_M_count (fun hv hm => ?_)
  refine mGo_wp h_M_count 40 [] ?_
  unfold spCount
  refine ⟨⟨fun z => ?_, fun z => ?_, fun z => ?_, fun z => ?_, fun z => ?_, fun z => ?_, trivial⟩, fun z => ?_⟩
  · rw [if_pos z]
    exact ⟨by rw [e.1.1], e, onlyM.rf⟩
  · rw [if_neg (by omega), if_pos (by omega)]
    exact ⟨by rw [e.1.2.1], e, onlyM.rf⟩
  · rw [if_neg (by omega), if_neg (by omega), if_pos (by omega)]
    refine mCall_is (c_M_bare S.1 h o.1 e.1) ?_
    exact ⟨rfl, e, onlyM.rf⟩
  · rw [if_neg (by omega), if_neg (by omega), if_neg (by omega), if_pos (by omega)]
    refine mCall_on2 (c_M_clashes S.1 o.1 h e.1) ?_
    rintro v h' ⟨rfl, f⟩
    exact ⟨rfl, ansM_X e f⟩
  · rw [if_neg (by omega), if_neg (by omega), if_neg (by omega), if_neg (by omega), if_pos (by omega)]
    exact ⟨by rw [e.2.1.1], e, onlyM.rf⟩
  · rw [if_neg (by omega), if_neg (by omega), if_neg (by omega), if_neg (by omega), if_neg (by omega), if_pos (by omega)]
    exact ⟨by rw [e.2.2.2.1], e, onlyM.rf⟩
  · have z : w < 0 ∨ 0 + ((6 : Nat) : Int) ≤ w := z
    rw [if_neg (by omega), if_neg (by omega), if_neg (by omega), if_neg (by omega), if_neg (by omega), if_neg (by omega)]
    exact ⟨rfl, e, onlyM.rf⟩
end MClear
