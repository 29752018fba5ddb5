/-! boards of lists and puts: which joins are bare, that they are clear -/
theorem newE_ne {k L : Nat} (hk : kOk k L) {r : List Nat} {p : Nat} (hr : r ≠ []) : newE k L r p ≠ [] := by
  have hl : r.length ≠ 0 := fun z => hr (List.length_eq_zero_iff.mp z)
  rcases hk with ⟨rfl, -⟩ | ⟨rfl, -⟩ | ⟨rfl, -⟩ | ⟨rfl, -⟩ | ⟨rfl, -⟩
  · show r.map (fun q => jn q p) ≠ []
    exact fun z => hr (List.map_eq_nil_iff.mp z)
  · show (if r.length = 0 then [] else if r.length = L - 1 then [jn (r.getD (r.length - 1) 0) p, jn p (r.getD 0 0)] else [jn (r.getD (r.length - 1) 0) p]) ≠ []
    rw [if_neg hl]
    split <;> simp
  · show (if r.length = 0 then [] else [jn (r.getD 0 0) p]) ≠ []
    rw [if_neg hl]
    simp
  · show (if r.length = 0 then [] else if r.length = 1 then [jn (r.getD 0 0) p] else [jn (r.getD 0 0) p, jn (r.getD 1 0) p]) ≠ []
    rw [if_neg hl]
    split <;> simp
  · show (if r.length = 0 then [] else [jn (r.getD (r.length - 1) 0) p]) ≠ []
    rw [if_neg hl]
    simp
theorem kOk_two {k L : Nat} (h : kOk k L) : 2 ≤ L := by rcases h with h | h | h | h | h <;> omega
/-- one point more, whose joins are bare: the same copies -/
theorem takes_more {T : Nat → Int} {c k L n : Nat} (hk : kOk k L) (hn : n < 12) (fb : farB T n) : takesF T c 0 k L (n + 1) L [] [] = takesF T c 0 k L n L [] [] := by
  have bare : ∀ q, q < 12 → q ≠ n → ∀ x, x = jn q n → T x ≠ c := fun q hq hne x hx => by
    have := fb (jn q n) (jn_ge n (by omega) q hq n hn hne (Nat.le_refl _)) (jn_lt q hq n hn hne)
    rw [hx, this]
    omega
  have gen : ∀ (j : Nat) (r es : List Nat), r ≠ [] → (∀ x ∈ r, x < n) → msN T c es = 0 → takesF T c 0 k L (n + 1) j r es = takesF T c 0 k L n j r es := by
    intro j
    induction j with
    | zero =>
      intro r es _ _ ms
      rw [takesF_zero (by omega), takesF_zero (by omega)]
    | succ j ih =>
      intro r es hr hx ms
      rw [takesF_succ, takesF_succ]
      unfold takesP
      rw [List.range'_1_concat, List.flatMap_append, List.flatMap_singleton]
      have no : ¬ (0 + n ∉ r ∧ okP T c k L 0 (msN T c es) r (0 + n)) := by
        rw [ms, Nat.zero_add]
        rintro ⟨h1, h2⟩
        obtain ⟨-, h4⟩ := ok0.mp h2
        obtain ⟨e, he⟩ : ∃ e, e ∈ newE k L r n := List.exists_mem_of_ne_nil _ (newE_ne hk hr)
        obtain ⟨q, hq, e1⟩ := newE_mem hk (fun x h => by have := hx x h; omega) hn he
        have h5 := hx q hq
        exact bare q (by omega) (by omega) e e1 (h4 e he)
      rw [if_neg (qB_no no), List.append_nil]
      refine flat_congr n 0 (fun p _ hp => ?_)
      by_cases z : p ∉ r ∧ okP T c k L 0 (msN T c es) r p
      · rw [if_pos (qB_t z), if_pos (qB_t z)]
        refine ih _ _ (by simp) (fun x hx' => ?_) ?_
        · rcases List.mem_append.mp hx' with w | w
          · exact hx x w
          · rw [List.mem_singleton.mp w]; omega
        · have := z.2.2
          rw [msN_app]
          omega
      · rw [if_neg (qB_no z), if_neg (qB_no z)]
  obtain ⟨j, hj⟩ : ∃ j, L = j + 1 + 1 := ⟨L - 2, by have := kOk_two hk; omega⟩
  have e1 : ∀ n', takesF T c 0 k L n' L [] [] = (List.range' 0 n').flatMap (fun p => if qB (p ∉ ([] : List Nat) ∧ okP T c k L 0 (msN T c []) [] p) = true then takesF T c 0 k L n' (j + 1) ([] ++ [p]) ([] ++ newE k L [] p) else []) := fun n' => by
    have := takesF_succ T c 0 k L n' (j + 1) [] []
    rw [← hj] at this
    exact this
  rw [e1, e1, List.range'_1_concat, List.flatMap_append, List.flatMap_singleton]
  have last : (if qB (0 + n ∉ ([] : List Nat) ∧ okP T c k L 0 (msN T c []) [] (0 + n)) = true then takesF T c 0 k L (n + 1) (j + 1) ([] ++ [0 + n]) ([] ++ newE k L [] (0 + n)) else []) = [] := by
    split
    · rw [takesF_succ]
      unfold takesP
      have : ∀ p, p < n + 1 → (if qB (p ∉ ([] ++ [0 + n] : List Nat) ∧ okP T c k L 0 (msN T c ([] ++ newE k L [] (0 + n))) ([] ++ [0 + n]) p) = true then takesF T c 0 k L (n + 1) j ([] ++ [0 + n] ++ [p]) ([] ++ newE k L [] (0 + n) ++ newE k L ([] ++ [0 + n]) p) else []) = ([] : List rE) := by
        intro p hp
        refine if_neg (qB_no ?_)
        rw [newE_nil, Nat.zero_add]
        rintro ⟨h1, h2⟩
        have h1 : p ∉ [n] := h1
        have h2 : okP T c k L 0 0 [n] p := h2
        obtain ⟨-, h4⟩ := ok0.mp h2
        obtain ⟨e, he⟩ : ∃ e, e ∈ newE k L [n] p := List.exists_mem_of_ne_nil _ (newE_ne hk (by simp))
        have hpn : p ≠ n := fun w => h1 (by simp [w])
        obtain ⟨q, hq, e1⟩ := newE_mem hk (fun x h => by rw [List.mem_singleton.mp h]; exact hn) (show p < 12 by omega) he
        rw [List.mem_singleton.mp hq] at e1
        exact bare p (by omega) hpn e (by rw [e1, jn_sym]) (h4 e he)
      rw [flat_congr (g := fun _ => []) (n + 1) 0 (fun c _ hc => this c (by omega))]
      have gen0 : ∀ m p, (List.range' p m).flatMap (fun _ => ([] : List rE)) = [] := by
        intro m
        induction m with
        | zero => intro p; rfl
        | succ m ih => intro p; rw [List.range'_succ, List.flatMap_cons, ih]; rfl
      exact gen0 _ _
    · rfl
  rw [last, List.append_nil]
  refine flat_congr n 0 (fun p _ hp => ?_)
  by_cases z : p ∉ ([] : List Nat) ∧ okP T c k L 0 (msN T c []) [] p
  · rw [if_pos (qB_t z), if_pos (qB_t z)]
    refine gen _ _ _ (by simp) (fun x hx' => ?_) ?_
    · have : x = p := by simpa using hx'
      omega
    · rw [newE_nil]
      rfl
  · rw [if_neg (qB_no z), if_neg (qB_no z)]
/-- one point, no joins: no copies -/
theorem takes_one {T : Nat → Int} {c k L : Nat} (hk : kOk k L) : takesF T c 0 k L 1 L [] [] = [] := by
  obtain ⟨j, hj⟩ : ∃ j, L = j + 1 + 1 := ⟨L - 2, by have := kOk_two hk; omega⟩
  have e1 := takesF_succ T c 0 k L 1 (j + 1) [] []
  rw [← hj] at e1
  rw [e1]
  by_cases z : 0 ∉ ([] : List Nat) ∧ okP T c k L 0 (msN T c []) [] 0
  · rw [takesP_yes (m := 0) z, takesP_zero, List.append_nil, takesF_succ, takesP_no (m := 0) (fun w => w.1 (by simp)), takesP_zero]
  · rw [takesP_no (m := 0) z, takesP_zero]
theorem takes_bare {T : Nat → Int} {c k L : Nat} (hk : kOk k L) (h : ∀ x, x < 66 → T x = -1) : ∀ n, 1 ≤ n → n ≤ 12 → takesF T c 0 k L n L [] [] = []
  | 0, h1, _ => absurd h1 (by decide)
  | 1, _, _ => takes_one hk
  | n + 2, _, h2 => by
    rw [takes_more (n := n + 1) hk (by omega) (fun k _ hk => h k hk)]
    exact takes_bare hk h (n + 1) (by omega) (by omega)
abbrev bL (N : nN) (p : Nat) : nN := (p, nC N, nK N, nS N, fun _ => -1)
theorem clear_bL {N : nN} (o : nOk N) {p : Nat} (hp : 1 ≤ p ∧ p ≤ 12) : nClear (bL N p) := by
  intro c hc
  have hC := o.2.1.2
  have hc : c < nC N := hc
  unfold cpL
  show (if nK N c = 0 then ([] : List rE) else takesF (fun _ => -1) c 0 (nkk N c) (nln N c) p (nln N c) [] []) = []
  by_cases z : nK N c = 0
  · rw [if_pos z]
  · rw [if_neg z]
    exact takes_bare (kOk_of (o.2.2.1 c (by omega)) z).1 (fun _ _ => rfl) p hp.1 hp.2
theorem nOk_bL {N : nN} (o : nOk N) {p : Nat} (hp : 1 ≤ p ∧ p ≤ 12) : nOk (bL N p) := ⟨hp, o.2.1, o.2.2.1, fun k hk => ⟨Int.le_refl _, by have := o.2.1.1; show (-1 : Int) < nC N; omega⟩, fun k _ _ => rfl⟩
abbrev bP (N : nN) : nN := (nP N + 1, nC N, nK N, nS N, nT N)
theorem clear_bP {N : nN} (o : nOk N) (hp : nP N < 12) (h : nClear N) : nClear (bP N) := by
  intro c hc
  have hC := o.2.1.2
  have hc : c < nC N := hc
  have := h c hc
  unfold cpL at this ⊢
  show (if nK N c = 0 then ([] : List rE) else takesF (nT N) c 0 (nkk N c) (nln N c) (nP N + 1) (nln N c) [] []) = []
  by_cases z : nK N c = 0
  · rw [if_pos z]
  · rw [if_neg z] at this ⊢
    rw [takes_more (kOk_of (o.2.2.1 c (by omega)) z).1 hp o.2.2.2.2]
    exact this
theorem nOk_bP {N : nN} (o : nOk N) (hp : nP N < 12) : nOk (bP N) := by
  refine ⟨⟨by show 1 ≤ nP N + 1; omega, by show nP N + 1 ≤ 12; omega⟩, o.2.1, o.2.2.1, o.2.2.2.1, fun k h1 h2 => o.2.2.2.2 k ?_ h2⟩
  have h1 : js (nP N + 1) ≤ k := h1
  rw [js_succ _ hp] at h1
  omega
theorem lst_from {C : Nat → Prop} {a b : Nat} (h1 : ∀ q, q < a → ¬ C q) (h2 : ∀ q, a ≤ q → q < a + b → C q) : lst C 0 (a + b) = List.range' a b := by
  have g1 : ∀ (m p : Nat), (∀ q, p ≤ q → q < p + m → ¬ C q) → lst C p m = [] := by
    intro m
    induction m with
    | zero => intro p _; rfl
    | succ m ih =>
      intro p h
      rw [lst_no (h p (Nat.le_refl _) (by omega))]
      exact ih (p + 1) (fun q a b => h q (by omega) (by omega))
  have g2 : ∀ (m p : Nat), (∀ q, p ≤ q → q < p + m → C q) → lst C p m = List.range' p m := by
    intro m
    induction m with
    | zero => intro p _; rfl
    | succ m ih =>
      intro p h
      rw [lst_yes (h p (Nat.le_refl _) (by omega)), List.range'_succ, ih (p + 1) (fun q a b => h q (by omega) (by omega))]
  rw [lst_app, Nat.zero_add, g1 a 0 (fun q _ b => h1 q (by omega)), g2 b a h2]
  rfl
theorem lv_congr (N : nN) (o o' : Nat → Nat) (m : Nat) (h : ∀ i, i < m → o i = o' i) : ∀ (j i : Nat) (T : bT), i + j = m → lv N o j i T = lv N o' j i T
  | 0, i, T, _ => rfl
  | j + 1, i, T, hm => by
    show (List.range' 0 (nC N)).flatMap _ = (List.range' 0 (nC N)).flatMap _
    refine flat_congr (nC N) 0 (fun c _ _ => ?_)
    rw [h i (by omega)]
    by_cases z : cpL (nSetT N (tSet T (o' i) (c : Nat))) c 0 = []
    · rw [if_pos (qB_t z), if_pos (qB_t z)]
      exact lv_congr N o o' m h j (i + 1) _ (by omega)
    · rw [if_neg (qB_no z), if_neg (qB_no z)]
theorem lvN_bL {N : nN} (o : nOk N) {p : Nat} (hp : 1 ≤ p ∧ p ≤ 12) : lvN (bL N p) = lv (bL N p) id (js p) 0 (fun _ => -1) ∧ opM (bL N p) = js p := by
  have ho : opn (bL N p) = List.range' 0 (js p) := by
    have := lst_from (C := fun k => nT (bL N p) k = -1) (a := 0) (b := js p) (fun q hq => absurd hq (Nat.not_lt_zero q)) (fun _ _ _ => rfl)
    rw [Nat.zero_add] at this
    exact this
  have hm : opM (bL N p) = js p := by
    unfold opM
    rw [ho, List.length_range']
  refine ⟨?_, hm⟩
  unfold lvN
  rw [if_pos (qB_t (clear_bL o hp)), hm]
  refine lv_congr _ _ _ (js p) (fun i hi => ?_) (js p) 0 _ (by omega)
  unfold oN
  rw [ho, List.getD_eq_getElem?_getD, List.getElem?_range' hi]
  show 0 + 1 * i = i
  omega
theorem lvN_bP {N : nN} (o : nOk N) (hp : nP N < 12) (hw : nBare N = 0) (hc : nClear N) : lvN (bP N) = lv (bP N) (fun q => js (nP N) + q) (nP N) 0 (nT N) ∧ opM (bP N) = nP N := by
  have hjs : js (nP N + 1) = js (nP N) + nP N := js_succ _ hp
  have ho : opn (bP N) = List.range' (js (nP N)) (nP N) := by
    have h66 := js_last (nP N) (by omega)
    have := lst_from (C := fun k => nT (bP N) k = -1) (a := js (nP N)) (b := nP N) (fun q hq z => by
      have := whole_of o hw q hq
      have z : nT N q = -1 := z
      omega) (fun q h1 h2 => o.2.2.2.2 q h1 (by omega))
    rw [← hjs] at this
    exact this
  have hm : opM (bP N) = nP N := by
    unfold opM
    rw [ho, List.length_range']
  refine ⟨?_, hm⟩
  unfold lvN
  rw [if_pos (qB_t (clear_bP o hp hc)), hm]
  refine lv_congr _ _ _ (nP N) (fun i hi => ?_) (nP N) 0 _ (by omega)
  unfold oN
  rw [ho, List.getD_eq_getElem?_getD, List.getElem?_range' hi]
  show js (nP N) + 1 * i = _
  omega
/-- a list gone through: how many, and the one that is wanted -/
abbrev aL : Type := Nat × Option bT
noncomputable def stL (w : Int) (a : aL) (T : bT) : aL := (a.1 + 1, if qB (mWr a.1 = w) = true then some T else a.2)
theorem fold_L (w : Int) : ∀ (L : List bT) (a : aL), a.1 + L.length ≤ 60000 → L.foldl (stL w) a = (a.1 + L.length, if (a.1 : Int) ≤ w ∧ w < ((a.1 + L.length : Nat) : Int) then L[(w - a.1).toNat]? else a.2)
  | [], a, _ => by
    show a = (a.1 + 0, _)
    rw [if_neg (by show ¬ ((a.1 : Int) ≤ w ∧ w < ((a.1 + 0 : Nat) : Int)); omega)]
    rfl
  | T :: L, a, h => by
    have h : a.1 + (L.length + 1) ≤ 60000 := h
    show L.foldl (stL w) (stL w a T) = (a.1 + (L.length + 1), _)
    rw [fold_L w L (stL w a T) (by show a.1 + 1 + L.length ≤ 60000; omega)]
    have e1 : (stL w a T).1 = a.1 + 1 := rfl
    have hw : mWr (a.1 : Int) = (a.1 : Int) := mWr_of ⟨by omega, by omega⟩
    rw [e1]
    refine Prod.ext (by show a.1 + 1 + L.length = a.1 + (L.length + 1); omega) ?_
    show (if _ then _ else (stL w a T).2) = (if (a.1 : Int) ≤ w ∧ w < ((a.1 + (L.length + 1) : Nat) : Int) then (T :: L)[(w - a.1).toNat]? else a.2)
    by_cases z : ((a.1 + 1 : Nat) : Int) ≤ w ∧ w < ((a.1 + 1 + L.length : Nat) : Int)
    · rw [if_pos z, if_pos ⟨by omega, by omega⟩, show (w - (a.1 : Int)).toNat = (w - ((a.1 + 1 : Nat) : Int)).toNat + 1 by omega]
      rfl
    · rw [if_neg z]
      show (if qB (mWr (a.1 : Int) = w) = true then some T else a.2) = _
      rw [hw]
      by_cases y : (a.1 : Int) = w
      · rw [if_pos (qB_t y), if_pos ⟨by omega, by omega⟩, show (w - (a.1 : Int)).toNat = 0 by omega]
        rfl
      · rw [if_neg (qB_no y), if_neg (by omega)]
theorem mWr_add (x : Int) : mWr (mWr x + 1) = mWr (x + 1) := by
  unfold mWr
  rw [Int32.ofInt_add, Int32.ofInt_toInt, ← Int32.ofInt_add]
