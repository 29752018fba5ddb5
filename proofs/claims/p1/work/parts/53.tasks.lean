/-! the model's look, task by task; hasCopy, copiesOf, isClear, clashes -/
def scrM (h h' : mMem) : Prop := ∀ (t : Nat) (i : Fin 8) (k : Nat), ¬ ((44 ≤ t ∧ t ≤ 54) ∨ t = 56 ∨ (t = 9 ∧ k ≠ 0 ∧ k ≠ 1 ∧ k ≠ 6 ∧ k ≠ 38 ∧ k ≠ 43)) → h' t i k = h t i k
theorem scrM.rf {h : mMem} : scrM h h := fun _ _ _ _ => rfl
theorem scrM.tr {h h1 h2 : mMem} (a : scrM h h1) (b : scrM h1 h2) : scrM h h2 := fun t i k z => (b t i k z).trans (a t i k z)
theorem scrM.ofX {h h1 : mMem} (a : farX h h1) : scrM h h1 := fun t i k z => a t i k (fun y => z (by omega))
theorem scrM.only {h h1 : mMem} (a : scrM h h1) : onlyM h h1 := fun t i k z => a t i k (fun y => z (by omega))
theorem isM_scr {h h' : mMem} {N : nN} (e : isM h N) (f : scrM h h') : isM h' N :=
  ⟨(f _ _ _ (by decide)).trans e.1, (f _ _ _ (by decide)).trans e.2.1, fun k hk => (f _ _ _ (by omega)).trans (e.2.2.1 k hk), fun k hk => (f _ _ _ (by omega)).trans (e.2.2.2.1 k hk), fun k hk => (f _ _ _ (by omega)).trans (e.2.2.2.2 k hk)⟩
theorem RM_scr {h h' : mMem} {S : sS} (e : RM h S) (q : scrM h h') : RM h' S := by
  obtain ⟨a, ⟨b1, b2, b3⟩, c, d1, d2⟩ := e
  refine ⟨isM_scr a q, ⟨(q _ _ _ (by decide)).trans b1, b2, fun e N hN => isB_out (fun x _ _ => q 43 0 x (by omega)) (b3 e N hN)⟩, (q _ _ _ (by decide)).trans c, (q _ _ _ (by decide)).trans d1, fun i hi => ?_⟩
  rw [q 55 0 _ (by omega), q 55 0 _ (by omega), q 55 0 _ (by omega)]
  exact d2 i hi
theorem goA_len : ∀ (xs : List rE) (a : Nat), goA (fun _ : Nat => False) (fun a _ _ => a + 1) a xs = a + xs.length
  | [], a => rfl
  | x :: xs, a => by
    show (if qB False = true then a else goA _ _ (a + 1) xs) = a + (xs.length + 1)
    rw [if_neg (qB_no id), goA_len xs (a + 1)]
    omega
abbrev aFst : Type := Nat × Option (List Nat)
theorem goA_fst (xs : List rE) : goA (fun a : aFst => a.2 ≠ none) (fun a r _ => (a.1 + 1, some r)) (0, none) xs = (match xs with
    | [] => (0, none)
    | x :: _ => (1, some x.1)) := by
  cases xs with
  | nil => rfl
  | cons x xs =>
    show (if qB (((0, none) : aFst).2 ≠ none) = true then _ else goA _ _ (1, some x.1) xs) = _
    rw [if_neg (qB_no (fun z => z rfl)), goA_stop (by simp)]
abbrev aIs : Type := Nat × Prop
theorem goA_is (wb wj : Int) : ∀ (xs : List rE) (n : Nat), (goA (fun a : aIs => a.2) (fun a r es => (a.1 + 1, ((bitR r r.length : Nat) : Int) = wb ∧ ∃ e ∈ es, ((e : Nat) : Int) = wj)) (n, False) xs).2 ↔ ∃ x ∈ xs, ((bitR x.1 x.1.length : Nat) : Int) = wb ∧ ∃ e ∈ x.2, ((e : Nat) : Int) = wj
  | [], n => ⟨fun z => z.elim, fun ⟨x, hx, _⟩ => by cases hx⟩
  | x :: xs, n => by
    show (if qB (((n, False) : aIs).2) = true then _ else goA _ _ (n + 1, _) xs).2 ↔ _
    rw [if_neg (qB_no (fun z => z))]
    by_cases hx : ((bitR x.1 x.1.length : Nat) : Int) = wb ∧ ∃ e ∈ x.2, ((e : Nat) : Int) = wj
    · rw [goA_stop (show ((n + 1, ((bitR x.1 x.1.length : Nat) : Int) = wb ∧ ∃ e ∈ x.2, ((e : Nat) : Int) = wj) : aIs).2 from hx)]
      exact ⟨fun _ => ⟨x, List.mem_cons_self, hx⟩, fun _ => hx⟩
    · have e1 : (((bitR x.1 x.1.length : Nat) : Int) = wb ∧ ∃ e ∈ x.2, ((e : Nat) : Int) = wj) = False := eq_false hx
      rw [e1, goA_is wb wj xs (n + 1)]
      constructor
      · rintro ⟨y, hy, z⟩
        exact ⟨y, List.mem_cons_of_mem _ hy, z⟩
      · rintro ⟨y, hy, z⟩
        rcases List.mem_cons.mp hy with rfl | hy
        · exact absurd z hx
        · exact ⟨y, hy, z⟩
theorem hasE_all (es : List Nat) (wj : Int) : hasE es wj es.length = mBc (∃ e ∈ es, ((e : Nat) : Int) = wj) := by
  unfold hasE
  refine mBc_congr ⟨?_, ?_⟩
  · rintro ⟨j, hj, z⟩
    exact ⟨_, getD_mem hj, z⟩
  · rintro ⟨e, he, z⟩
    obtain ⟨j, hj, rfl⟩ := List.getElem_of_mem he
    refine ⟨j, hj, ?_⟩
    rw [List.getD_eq_getElem?_getD, List.getElem?_eq_getElem hj]
    exact z
section Tasks
variable {l : Launch} {g : mG} {d : Nat}
theorem look0 (c : Nat) (hc : c < 3) (N : nN) (hn : nP N ≤ 12) (hsz : szOk (nK N c) (nS N c)) (h : mMem) (e : isM h N) :
    mCon l g n_M_look (d + 11) [.inr (9, 0), .inl c, .inl 0, .inl 0] h (fun v h' => v = none ∧ h' 9 0 14 = (cpL N c 0).length ∧ farX h h') := by
  have q := s_look (l := l) (g := g) (d := d) c hc N hn hsz 0 0 (by omega) h e (fun (a : Nat) h' => h' 9 0 14 = a ∧ h' 9 0 15 = 0) (fun _ => False) (fun a _ _ => a + 1) (fun a => a) 1000000000 0
    (fun a h1 h2 f z => ⟨(f _ _ _ (by decide)).trans z.1, (f _ _ _ (by decide)).trans z.2⟩) (fun a h1 z => by rw [z.2, mBc_f id])
    (fun _ a h1 r es t1 f z _ hz o1 o2 S er ms => mCon_mono (c_M_take0 (d := d + 1) h1 r.length a hz t1 z.1) (by
      rintro v h2 ⟨rfl, rfl⟩
      exact ⟨rfl, ⟨mSet_at _ _ _ _ _, (mSet_no (by simp)).trans z.2⟩, fun t i k y => mSet_no (fun w => y (by omega))⟩))
    (fun a r es => Nat.le_refl _) (by decide) id (fun h1 f _ z1 z2 => ⟨z1, z2⟩)
  refine mCon_mono q ?_
  rintro v h' ⟨rfl, ⟨z1, -⟩, f⟩
  rw [goA_len, Nat.zero_add] at z1
  exact ⟨rfl, z1, f⟩
theorem look1 (c : Nat) (hc : c < 3) (N : nN) (hn : nP N ≤ 12) (hsz : szOk (nK N c) (nS N c)) (h : mMem) (e : isM h N) :
    mCon l g n_M_look (d + 11) [.inr (9, 0), .inl c, .inl 1, .inl 0] h (fun v h' => v = none ∧ h' 9 0 15 = mBc (cpL N c 0 ≠ []) ∧ (∀ x xs, cpL N c 0 = x :: xs → h' 9 0 17 = x.1.length ∧ ∀ j, j < x.1.length → h' 46 0 j = (x.1.getD j 0 : Nat)) ∧ farX h h') := by
  have q := s_look (l := l) (g := g) (d := d) c hc N hn hsz 1 0 (by omega) h e (fun (a : aFst) h' => h' 9 0 14 = a.1 ∧ h' 9 0 15 = mBc (a.2 ≠ none) ∧ ∀ r, a.2 = some r → h' 9 0 17 = r.length ∧ ∀ j, j < r.length → h' 46 0 j = (r.getD j 0 : Nat)) (fun a => a.2 ≠ none) (fun a r _ => (a.1 + 1, some r)) (fun a => a.1) 1000000000 (0, none)
    (fun a h1 h2 f z => ⟨(f _ _ _ (by decide)).trans z.1, (f _ _ _ (by decide)).trans z.2.1, fun r hr => ⟨(f _ _ _ (by decide)).trans (z.2.2 r hr).1, fun j hj => (f _ _ _ (by omega)).trans ((z.2.2 r hr).2 j hj)⟩⟩) (fun a h1 z => z.2.1)
    (fun k0 a h1 r es t1 f z _ hz o1 o2 S er ms => mCon_mono (c_M_take1 (d := d + 1) h1 a.1 hz r (by rw [o2]; exact kOk_le (kOk_of hsz k0).1) er t1 z.1) (by
      rintro v h2 ⟨rfl, rfl⟩
      refine ⟨rfl, ⟨?_, ?_, fun r' hr => ?_⟩, fun t i k y => ?_⟩
      · unfold mTk1
        rw [mSeg_ne (by decide), mSet_no (by simp), mSet_no (by simp), mSet_at]
      · unfold mTk1
        rw [mSeg_ne (by decide), mSet_no (by simp), mSet_at, mBc_t (by simp)]
      · obtain rfl : r = r' := Option.some.inj hr
        unfold mTk1
        refine ⟨by rw [mSeg_ne (by decide), mSet_at], fun j hj => mSeg_in0 hj⟩
      · unfold mTk1
        rw [mSeg_ne (by omega), mSet_no (fun w => y (by omega)), mSet_no (fun w => y (by omega)), mSet_no (fun w => y (by omega))]))
    (fun a r es => Nat.le_refl _) (by decide) (fun z => z rfl) (fun h1 f _ z1 z2 => ⟨z1, by rw [z2, mBc_f (fun z => z rfl)], fun r hr => by cases hr⟩)
  refine mCon_mono q ?_
  rintro v h' ⟨rfl, ⟨-, z2, z3⟩, f⟩
  rw [goA_fst] at z2 z3
  refine ⟨rfl, ?_, fun x xs hx => ?_, f⟩
  · rw [z2]
    refine mBc_congr ?_
    cases cpL N c 0 with
    | nil => simp
    | cons x xs => simp
  · rw [hx] at z3
    exact z3 x.1 rfl
theorem look3 (c : Nat) (hc : c < 3) (N : nN) (hn : nP N ≤ 12) (hsz : szOk (nK N c) (nS N c)) (wb wj : Int) (h : mMem) (e : isM h N) (eb : h 9 0 20 = wb) (ej : h 9 0 21 = wj) :
    mCon l g n_M_look (d + 11) [.inr (9, 0), .inl c, .inl 3, .inl 0] h (fun v h' => v = none ∧ h' 9 0 15 = mBc (∃ x ∈ cpL N c 0, ((bitR x.1 x.1.length : Nat) : Int) = wb ∧ ∃ e ∈ x.2, ((e : Nat) : Int) = wj) ∧ farX h h') := by
  have q := s_look (l := l) (g := g) (d := d) c hc N hn hsz 3 0 (by omega) h e (fun (a : aIs) h' => h' 9 0 14 = a.1 ∧ h' 9 0 15 = mBc a.2) (fun a => a.2) (fun a r es => (a.1 + 1, ((bitR r r.length : Nat) : Int) = wb ∧ ∃ e ∈ es, ((e : Nat) : Int) = wj)) (fun a => a.1) 1000000000 (0, False)
    (fun a h1 h2 f z => ⟨(f _ _ _ (by decide)).trans z.1, (f _ _ _ (by decide)).trans z.2⟩) (fun a h1 z => z.2)
    (fun k0 a h1 r es t1 f z ns hz o1 o2 S er ms => mCon_mono (c_M_take3 (d := d) h1 a.1 hz r es wb wj o1.1 (by rw [o2]; exact kOk_le (kOk_of hsz k0).1) (by have := rOk_len (kOk_of hsz k0).1 o1 (Nat.le_of_eq o2); omega) er t1 S.1 S.2.1 ((f _ _ _ (by decide)).trans ej) z.1 (by rw [z.2, mBc_f ns]) ((f _ _ _ (by decide)).trans eb)) (by
      rintro v h2 ⟨rfl, rfl⟩
      unfold mTk3
      by_cases hb : ((bitR r r.length : Nat) : Int) = wb
      · rw [if_pos hb, hasE_all]
        refine ⟨rfl, ⟨?_, ?_⟩, fun t i k y => ?_⟩
        · rw [mSet_no (by simp), mSet_at]
        · rw [mSet_at]
          exact mBc_congr ⟨fun w => ⟨hb, w⟩, fun w => w.2⟩
        · rw [mSet_no (fun w => y (by omega)), mSet_no (fun w => y (by omega))]
      · rw [if_neg hb]
        refine ⟨rfl, ⟨mSet_at _ _ _ _ _, ?_⟩, fun t i k y => mSet_no (fun w => y (by omega))⟩
        rw [mSet_no (by simp), z.2]
        exact mBc_congr ⟨fun w => absurd w ns, fun w => absurd w.1 hb⟩))
    (fun a r es => Nat.le_refl _) (by decide) id (fun h1 f _ z1 z2 => ⟨z1, by rw [z2, mBc_f id]⟩)
  refine mCon_mono q ?_
  rintro v h' ⟨rfl, ⟨-, z2⟩, f⟩
  refine ⟨rfl, ?_, f⟩
  rw [z2]
  exact mBc_congr (goA_is wb wj _ 0)
theorem c_M_copiesOf (c : Nat) (hc : c < 3) (N : nN) (hn : nP N ≤ 12) (hsz : szOk (nK N c) (nS N c)) (h : mMem) (e : isM h N) :
    mCon l g n_M_copiesOf (d + 12) [.inr (9, 0), .inl c] h (fun v h' => v = some (.inl ((cpL N c 0).length : Nat)) ∧ farX h h') := by
  refine e_M_copiesOf (fun hv hm => ?_)
  refine mGo_wp h_M_copiesOf 40 [] ?_
  refine mCall_on2 (look0 c hc N hn hsz h e) ?_
  rintro v h' ⟨rfl, z, f⟩
  refine ⟨?_, f⟩
  rw [z]
theorem c_M_hasCopy (c : Nat) (hc : c < 3) (N : nN) (hn : nP N ≤ 12) (hsz : szOk (nK N c) (nS N c)) (h : mMem) (e : isM h N) :
    mCon l g n_M_hasCopy (d + 12) [.inr (9, 0), .inl c] h (fun v h' => v = some (.inl (mBc (cpL N c 0 ≠ []))) ∧ (∀ x xs, cpL N c 0 = x :: xs → h' 9 0 17 = x.1.length ∧ ∀ j, j < x.1.length → h' 46 0 j = (x.1.getD j 0 : Nat)) ∧ farX h h') := by
  refine e_M_hasCopy (fun hv hm => ?_)
  refine mGo_wp h_M_hasCopy 40 [] ?_
  refine mCall_on2 (look1 c hc N hn hsz h e) ?_
  rintro v h' ⟨rfl, z, z2, f⟩
  have z1 : (h' 9 0 15 = 0 ∨ h' 9 0 15 = 1) := by rw [z]; exact mBc_01 _
  refine ⟨z1, ?_, z2, f⟩
  rw [z]
end Tasks
