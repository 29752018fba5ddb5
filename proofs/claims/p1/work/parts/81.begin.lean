/-! the bare joins of a board; clear boards; the found ones of the whole tree -/
noncomputable def opn (N : nN) : List Nat := lst (fun k => nT N k = -1) 0 (js (nP N))
noncomputable def oN (N : nN) (i : Nat) : Nat := (opn N).getD i 0
noncomputable def opM (N : nN) : Nat := (opn N).length
theorem lst_pair (C : Nat → Prop) : ∀ (m lo : Nat), List.Pairwise (· < ·) (lst C lo m)
  | 0, lo => List.Pairwise.nil
  | m + 1, lo => by
    by_cases z : C lo
    · rw [lst_yes z]
      refine List.Pairwise.cons (fun x hx => ?_) (lst_pair C m (lo + 1))
      have := (lst_mem.mp hx).1
      omega
    · rw [lst_no z]
      exact lst_pair C m (lo + 1)
theorem oN_mem {N : nN} {i : Nat} (h : i < opM N) : oN N i < js (nP N) ∧ nT N (oN N i) = -1 := by
  have := lst_mem.mp (getD_mem (r := opn N) h)
  exact ⟨by have := this.1; unfold oN; omega, this.2⟩
theorem oN_lt {N : nN} {i j : Nat} (hij : i < j) (hj : j < opM N) : oN N i < oN N j := by
  have h := lst_pair (fun k => nT N k = -1) (js (nP N)) 0
  have := (List.pairwise_iff_getElem.mp h) i j (show i < (opn N).length by have : j < (opn N).length := hj; omega) hj hij
  unfold oN
  rw [List.getD_eq_getElem?_getD, List.getD_eq_getElem?_getD, List.getElem?_eq_getElem (show i < (opn N).length by have : j < (opn N).length := hj; omega), List.getElem?_eq_getElem hj]
  exact this
theorem opO_of {N : nN} (o : nOk N) : opO N (opM N) (oN N) := by
  have h66 := js_le (nP N) (by have := o.1.2; omega)
  refine ⟨Nat.le_trans (lst_le _ _) h66, fun i hi => (oN_mem hi).1, fun i j hi hj h => ?_⟩
  rcases Nat.lt_trichotomy i j with z | z | z
  · have := oN_lt z hj; omega
  · exact z
  · have := oN_lt z hi; omega
theorem cuB_of {N : nN} (o : nOk N) (hm : 0 < opM N) : cuB N (opM N) (oN N) 0 (nT N) := ⟨o, hm, fun j _ hjm => (oN_mem hjm).2⟩
/-! a colour on a bare join of a clear board -/
theorem takes_same {T T1 : Nat → Int} {c : Int} {k L n j : Nat} {r es : List Nat} (h : ∀ x, T1 x = c ↔ T x = c) : takesF T1 c 0 k L n j r es = takesF T c 0 k L n j r es := by
  have hm : ∀ l : List Nat, msN T1 c l = msN T c l := by
    intro l
    induction l with
    | nil => rfl
    | cons a l ih =>
      show (if T1 a = c then 0 else 1) + msN T1 c l = (if T a = c then 0 else 1) + msN T c l
      rw [ih]
      by_cases z : T a = c
      · rw [if_pos z, if_pos ((h a).mpr z)]
      · rw [if_neg z, if_neg (fun w => z ((h a).mp w))]
  unfold takesF
  refine congrArg (fun f => List.filter f (rowsF k L n j r es)) (funext fun x => ?_)
  rw [hm]
theorem clear_thr {N : nN} {e c : Nat} (hT : nT N e = -1) (h0 : cpL N c 0 = []) : (cpL (setN N e c) c 0).length = thrN (setN N e c) e := by
  have e1 : nT (setN N e c) e = (c : Int) := if_pos rfl
  unfold thrN
  rw [e1, if_neg (by omega), Int.toNat_natCast]
  unfold cpL thrK at *
  show (if nK N c = 0 then ([] : List rE) else takesF (tSet (nT N) e c) c 0 (nkk N c) (nln N c) (nP N) (nln N c) [] []).length = (if nK N c = 0 then 0 else thr (tSet (nT N) e c) c (nkk N c) (nln N c) (nP N) e)
  by_cases z : nK N c = 0
  · rw [if_pos z, if_pos z]
    rfl
  · rw [if_neg z] at h0 ⊢
    rw [if_neg z]
    have q := takes_less (tSet (nT N) e c) c (nkk N c) (nln N c) (nP N) e (by omega)
    rw [tSet_tSet, tSet_self hT, h0] at q
    show _ = _
    rw [q]
    show 0 + _ = _
    omega
theorem clear_iff {N : nN} {e c : Nat} (hc : c < nC N) (hT : nT N e = -1) (h : nClear N) : thrN (setN N e c) e = 0 ↔ cpL (setN N e c) c 0 = [] := by
  rw [← clear_thr hT (h c hc), List.length_eq_zero_iff]
theorem clear_set {N : nN} {e c : Nat} (hc : c < nC N) (hT : nT N e = -1) (h : nClear N) (h1 : cpL (setN N e c) c 0 = []) : nClear (setN N e c) := by
  intro c' hc'
  by_cases z : c' = c
  · rw [z]; exact h1
  · have := h c' hc'
    unfold cpL at this ⊢
    show (if nK N c' = 0 then ([] : List rE) else takesF (tSet (nT N) e c) c' 0 (nkk N c') (nln N c') (nP N) (nln N c') [] []) = []
    rw [takes_same (T := nT N) (fun x => ?_)]
    · exact this
    · show (if x = e then ((c : Nat) : Int) else nT N x) = (c' : Int) ↔ _
      by_cases y : x = e
      · rw [if_pos y, y, hT]
        exact ⟨fun w => absurd w (by omega), fun w => absurd w (by omega)⟩
      · rw [if_neg y]
/-- the whole ones of a tree, by copies -/
noncomputable def lv (N : nN) (o : Nat → Nat) : Nat → Nat → bT → List bT
  | 0, _, T => [T]
  | j + 1, i, T => (List.range' 0 (nC N)).flatMap (fun c => if qB (cpL (nSetT N (tSet T (o i) (c : Nat))) c 0 = []) = true then lv N o j (i + 1) (tSet T (o i) (c : Nat)) else [])
theorem flat_congr {α : Type} {f g : Nat → List α} : ∀ (m p : Nat), (∀ c, p ≤ c → c < p + m → f c = g c) → (List.range' p m).flatMap f = (List.range' p m).flatMap g
  | 0, _, _ => rfl
  | m + 1, p, h => by
    rw [List.range'_succ, List.flatMap_cons, List.flatMap_cons, h p (Nat.le_refl _) (by omega), flat_congr m (p + 1) (fun c h1 h2 => h c (by omega) (by omega))]
theorem fnd_app (N : nN) (m : Nat) (o : Nat → Nat) (A B : List eV) : fnd N m o (A ++ B) = fnd N m o A ++ fnd N m o B := by
  unfold fnd
  rw [List.filter_append, List.map_append]
theorem fnd_flat (N : nN) (m : Nat) (o : Nat → Nat) (f : Nat → List eV) : ∀ (k p : Nat), fnd N m o ((List.range' p k).flatMap f) = (List.range' p k).flatMap (fun c => fnd N m o (f c))
  | 0, _ => rfl
  | k + 1, p => by
    rw [List.range'_succ, List.flatMap_cons, List.flatMap_cons, fnd_app, fnd_flat N m o f k (p + 1)]
theorem fnd_kds (N : nN) (m : Nat) (o : Nat → Nat) (hoj : ∀ i j, i < m → j < m → o i = o j → i = j) : ∀ (j i : Nat) (T : bT), i + (j + 1) = m → nClear (nSetT N T) → (∀ a, i ≤ a → a < m → T (o a) = -1) → fnd N m o (kds (nC N) o (Dg N m o) (j + 1) i T) = lv N o (j + 1) i T
  | 0, i, T, hm, hcl, hb => by
    show fnd N m o ((List.range' 0 (nC N)).flatMap _) = (List.range' 0 (nC N)).flatMap _
    rw [fnd_flat]
    refine flat_congr (nC N) 0 (fun c _ hc => ?_)
    have hTi := hb i (Nat.le_refl _) (by omega)
    have key := clear_iff (N := nSetT N T) (e := o i) (c := c) (by show c < nC N; omega) hTi hcl
    have nD : ¬ Dg N m o i (tSet T (o i) (c : Nat)) := fun w => by have := w.2; omega
    rw [if_neg (qB_no nD)]
    by_cases z : cpL (nSetT N (tSet T (o i) (c : Nat))) c 0 = []
    · rw [if_pos (qB_t z)]
      have hf : fo N m o (i, tSet T (o i) (c : Nat)) := ⟨key.mpr z, by show ¬ i + 1 < m; omega⟩
      unfold fnd
      rw [List.filter_cons_of_pos (p := fun x => qB (fo N m o x)) (qB_t hf)]
      rfl
    · rw [if_neg (qB_no z)]
      have hf : ¬ fo N m o (i, tSet T (o i) (c : Nat)) := fun w => z (key.mp w.1)
      unfold fnd
      rw [List.filter_cons_of_neg (p := fun x => qB (fo N m o x)) (qB_no hf)]
      rfl
  | j + 1, i, T, hm, hcl, hb => by
    show fnd N m o ((List.range' 0 (nC N)).flatMap _) = (List.range' 0 (nC N)).flatMap _
    rw [fnd_flat]
    refine flat_congr (nC N) 0 (fun c _ hc => ?_)
    have hTi := hb i (Nat.le_refl _) (by omega)
    have hcN : c < nC (nSetT N T) := by show c < nC N; omega
    have key := clear_iff (N := nSetT N T) (e := o i) (c := c) hcN hTi hcl
    have hf : ¬ fo N m o (i, tSet T (o i) (c : Nat)) := fun w => w.2 (by show i + 1 < m; omega)
    have hcons : ∀ l : List eV, fnd N m o ((i, tSet T (o i) (c : Nat)) :: l) = fnd N m o l := fun l => by
      unfold fnd
      rw [List.filter_cons_of_neg (p := fun x => qB (fo N m o x)) (qB_no hf)]
    rw [hcons]
    by_cases z : cpL (nSetT N (tSet T (o i) (c : Nat))) c 0 = []
    · rw [if_pos (qB_t z), if_pos (qB_t ⟨key.mpr z, by omega⟩)]
      refine fnd_kds N m o hoj j (i + 1) _ (by omega) (clear_set hcN hTi hcl z) (fun a ha ham => ?_)
      show (if o a = o i then _ else T (o a)) = -1
      rw [if_neg (fun w => by have := hoj a i ham (by omega) w; omega)]
      exact hb a (by omega) ham
    · rw [if_neg (qB_no z), if_neg (qB_no (fun w => z (key.mp w.1)))]
      rfl
theorem flat_len {α : Type} {f : Nat → List α} {B : Nat} (hf : ∀ p, (f p).length ≤ B) : ∀ m p, ((List.range' p m).flatMap f).length ≤ m * B
  | 0, p => by show 0 ≤ _; omega
  | m + 1, p => by
    rw [List.range'_succ, List.flatMap_cons, List.length_append, Nat.add_mul, Nat.one_mul]
    have h1 := flat_len hf m (p + 1)
    have h2 := hf p
    omega
theorem kds_len (C : Nat) (hC : 2 ≤ C) (o : Nat → Nat) (D : Nat → bT → Prop) : ∀ (j i : Nat) (T : bT), (kds C o D j i T).length + 2 ≤ 2 * C ^ j
  | 0, i, T => Nat.le_refl _
  | j + 1, i, T => by
    have hp : 1 ≤ C ^ j := Nat.one_le_pow _ _ (by omega)
    have h1 := flat_len (f := fun c => (i, tSet T (o i) (c : Nat)) :: (if qB (D i (tSet T (o i) (c : Nat))) = true then kds C o D j (i + 1) (tSet T (o i) (c : Nat)) else [])) (B := 2 * C ^ j - 1) (fun c => by
      show _ + 1 ≤ _
      split
      · have := kds_len C hC o D j (i + 1) (tSet T (o i) (c : Nat))
        omega
      · show 0 + 1 ≤ _
        omega) C 0
    have h1 : (kds C o D (j + 1) i T).length ≤ C * (2 * C ^ j - 1) := h1
    rw [Nat.mul_sub, Nat.mul_one] at h1
    rw [Nat.pow_succ, Nat.mul_comm (C ^ j) C, Nat.mul_left_comm]
    have h2 : C ≤ C * (2 * C ^ j) := Nat.le_mul_of_pos_right C (by omega)
    omega
theorem lv_len (N : nN) (o : Nat → Nat) : ∀ (j i : Nat) (T : bT), (lv N o j i T).length ≤ nC N ^ j
  | 0, i, T => Nat.le_refl 1
  | j + 1, i, T => by
    have h1 := flat_len (f := fun c => if qB (cpL (nSetT N (tSet T (o i) (c : Nat))) c 0 = []) = true then lv N o j (i + 1) (tSet T (o i) (c : Nat)) else []) (B := nC N ^ j) (fun c => by
      split
      · exact lv_len N o j (i + 1) _
      · exact Nat.zero_le _) (nC N) 0
    rw [Nat.pow_succ, Nat.mul_comm]
    exact h1
theorem pw_eq {C : Nat} : ∀ e, pw C e ≤ 60000 → 1 ≤ C → pw C e = C ^ e
  | 0, _, _ => rfl
  | e + 1, h, hC => by
    have h : (if pw C e ≤ 60000 then pw C e * C else pw C e) ≤ 60000 := h
    show (if pw C e ≤ 60000 then pw C e * C else pw C e) = C ^ (e + 1)
    by_cases z : pw C e ≤ 60000
    · rw [if_pos z, pw_eq e z hC]
      rfl
    · rw [if_neg z] at h
      exact absurd h z
section Begin
variable {l : Launch} {g : mG} {d : Nat}
def farI (h h' : mMem) : Prop := ∀ (t : Nat) (a : Fin 8) (q : Nat), ¬ ((t = 0 ∧ (q = 1 ∨ q = 5 ∨ q = 6 ∨ q = 7)) ∨ t = 1 ∨ t = 24 ∨ t = 25 ∨ t = 27) → h' t a q = h t a q
theorem isC_farI {h h' : mMem} {i : Fin 8} {N : nN} (e : isC h i N) (f : farI h h') : isC h' i N := isC_eq e (fun t k ht => f t i k (by omega))
theorem lst_take {C : Nat → Prop} {n k : Nat} (hk : k ≤ n) : lst C 0 k = (lst C 0 n).take (lst C 0 k).length := by
  have := lst_app C 0 k (n - k)
  rw [show k + (n - k) = n by omega] at this
  rw [this, List.take_left']
  rfl
theorem c_beginOnBoard (N : nN) (o : nOk N) (h : mMem) (e : isC h 1 N) : mCon l g n_Filling_beginOnBoard (d + 11) [.inr (0, 0)] h (fun v h' => v = none ∧ fB h' (opM N) (oN N) ∧ h' 0 0 6 = 0 ∧ h' 0 0 1 = 0 ∧ h' 0 0 7 = mBc (¬ nClear N) ∧ isC h' 1 N ∧ farI h h') := by
  have hn := o.1.2
  have h66 := js_le (nP N) (by omega)
  have loop : ∀ (m k : Nat) (h1 : mMem), k + m = js (nP N) → h1 0 0 5 = ((lst (fun q => nT N q = -1) 0 k).length : Nat) → (∀ i, i < (lst (fun q => nT N q = -1) 0 k).length → h1 27 0 i = (oN N i : Nat)) → farI h h1 →
      mGo l g (mMt n_Filling_beginOnBoard) (d + 11) 7 [some (.inr (0, 0)), some (.inl k)] [] h1 (fun v h' => v = none ∧ fB h' (opM N) (oN N) ∧ h' 0 0 6 = 0 ∧ h' 0 0 1 = 0 ∧ h' 0 0 7 = mBc (¬ nClear N) ∧ isC h' 1 N ∧ farI h h') := by
    intro m
    induction m with
    | zero =>
      intro k h1 hk e5 e27 f1
      refine mGo_wp h_Filling_beginOnBoard 80 [7] ?_
      have e1 := isC_farI e f1
      refine mCall_is (mCon_lift (by omega) (c_Net_joinCount (d := d) 1 (nP N) (by omega) h1 e1.1)) ?_
      refine ⟨fun _ => ?_, fun z => by omega⟩
      have f2 : farI h1 (mSet (mSet h1 0 0 6 0) 0 0 1 0) := fun t a q z => by rw [mSet_no (fun y => z (by omega)), mSet_no (fun y => z (by omega))]
      refine mCall_on2 (c_Finder_hasAny 1 N o _ (isC_farI e1 f2)) ?_
      rintro v h3 ⟨rfl, f3⟩
      have hkk : k = js (nP N) := by omega
      subst hkk
      have z01 := mBc_01 (¬ nClear N)
      have f3' : farI (mSet (mSet h1 0 0 6 0) 0 0 1 0) h3 := fun t a q z => f3 t a q (by omega)
      have f4 : farI h3 (mSet h3 0 0 7 (mBc (¬ nClear N))) := fun t a q z => mSet_no (fun y => z (by omega))
      refine ⟨z01, rfl, ⟨?_, fun i hi => ?_⟩, ?_, ?_, mSet_at _ _ _ _ _, isC_farI (isC_farI (isC_farI e1 f2) f3') f4, fun t a q z => ?_⟩
      · rw [mSet_no (by simp), f3 _ _ _ (by decide), mSet_no (by simp), mSet_no (by simp), e5]
        rfl
      · rw [mSet_no (by simp), f3 _ _ _ (by omega), mSet_no (by simp), mSet_no (by simp)]
        exact e27 i hi
      · rw [mSet_no (by simp), f3 _ _ _ (by decide), mSet_no (by simp), mSet_at]
      · rw [mSet_no (by simp), f3 _ _ _ (by decide), mSet_at]
      · rw [f4 t a q z, f3' t a q z, f2 t a q z]
        exact f1 t a q z
    | succ m ih =>
      intro k h1 hk e5 e27 f1
      refine mGo_wp h_Filling_beginOnBoard 80 [7] ?_
      have e1 := isC_farI e f1
      refine mCall_is (mCon_lift (by omega) (c_Net_joinCount (d := d) 1 (nP N) (by omega) h1 e1.1)) ?_
      have rk : h1 22 1 (Int.toNat (k : Int)) = nT N k := by rw [Int.toNat_natCast, e1.2.2.2.2.1 k (by omega)]
      have hle := lst_le (fun q => nT N q = -1) k
      refine ⟨fun z => by omega, fun _ => ⟨⟨by omega, by omega⟩, ⟨fun z => ?_, fun z => ⟨⟨by rw [e5]; omega, by rw [e5]; omega⟩, ?_⟩⟩⟩⟩
      · rw [rk] at z
        have el : lst (fun q => nT N q = -1) 0 (k + 1) = lst (fun q => nT N q = -1) 0 k := by
          rw [lst_app, Nat.zero_add, lst_no z]
          exact List.append_nil _
        show mGo l g _ _ 7 [_, some (.inl (mWr ((k : Int) + 1)))] [] h1 _
        rw [mWr_of ⟨by omega, by omega⟩]
        exact ih (k + 1) h1 (by omega) (by rw [el]; exact e5) (by rw [el]; exact e27) f1
      · rw [rk] at z
        have z : nT N k = -1 := z
        have el : lst (fun q => nT N q = -1) 0 (k + 1) = lst (fun q => nT N q = -1) 0 k ++ [k] := by
          rw [lst_app, Nat.zero_add, lst_yes z]
          rfl
        have hok : oN N (lst (fun q => nT N q = -1) 0 k).length = k := by
          have ht := lst_take (C := fun q => nT N q = -1) (n := js (nP N)) (k := k + 1) (by omega)
          rw [el, app_len] at ht
          unfold oN opn
          rw [← getD_take (a := lst (fun q => nT N q = -1) 0 (js (nP N))) (j := (lst (fun q => nT N q = -1) 0 k).length + 1) (by omega), ← ht, getD_app1]
        have w1 : mWr (mSet h1 27 0 (Int.toNat (h1 0 0 5)) (k : Int) 0 0 5 + 1) = (((lst (fun q => nT N q = -1) 0 k).length + 1 : Nat) : Int) := by
          rw [mSet_no (by simp), e5, mWr_of ⟨by omega, by omega⟩]
          omega
        show mGo l g _ _ 7 [_, some (.inl (mWr ((k : Int) + 1)))] [] (mSet (mSet h1 27 0 (Int.toNat (h1 0 0 5)) (k : Int)) 0 0 5 (mWr (mSet h1 27 0 (Int.toNat (h1 0 0 5)) (k : Int) 0 0 5 + 1))) _
        rw [w1, e5, Int.toNat_natCast, mWr_of ⟨by omega, by omega⟩]
        refine ih (k + 1) _ (by omega) ?_ (fun i hi => ?_) (fun t a q y => ?_)
        · rw [mSet_at, el, app_len]
        · rw [el, app_len] at hi
          rw [mSet_no (by simp)]
          by_cases hq : i = (lst (fun q => nT N q = -1) 0 k).length
          · rw [hq, mSet_at, hok]
          · rw [mSet_no (fun w => hq w.2.2)]
            exact e27 i (by omega)
        · rw [mSet_no (fun w => y (by omega)), mSet_no (fun w => y (by omega))]
          exact f1 t a q y
  refine e_Filling_beginOnBoard (fun hv hm => ?_)
  refine mGo_wp h_Filling_beginOnBoard 80 [7] ?_
  exact loop (js (nP N)) 0 _ (by omega) (mSet_at _ _ _ _ _) (fun i hi => absurd hi (Nat.not_lt_zero i)) (fun t a q z => mSet_no (fun y => z (by omega)))
/-- the found ones of a board -/
noncomputable def lvN (N : nN) : List bT := if qB (nClear N) = true then lv N (oN N) (opM N) 0 (nT N) else []
theorem begin_it {N : nN} (o : nOk N) {h : mMem} (e1 : fB h (opM N) (oN N)) (e2 : h 0 0 6 = 0) (e3 : h 0 0 1 = 0) (e4 : h 0 0 7 = mBc (¬ nClear N)) (e5 : isC h 1 N) (hb : nC N ^ opM N ≤ 60000) : itR h N (opM N) (oN N) (lvN N) ∧ (lvN N).length ≤ 60000 := by
  have hlen : (lvN N).length ≤ 60000 := by
    unfold lvN
    split
    · exact Nat.le_trans (lv_len N _ _ _ _) hb
    · exact Nat.zero_le _
  refine ⟨?_, hlen⟩
  unfold lvN
  by_cases hc : nClear N
  · rw [if_pos (qB_t hc)]
    rw [mBc_f (fun z => z hc)] at e4
    by_cases hm : opM N = 0
    · rw [hm]
      exact Or.inr (Or.inl ⟨e4, by rw [e1.1, hm]; rfl, nT N, rfl, e5, o⟩)
    · have hm : 0 < opM N := by omega
      have ho := opO_of o
      have cu := cuB_of o hm
      have h0 := (oN_mem (N := N) (i := 0) hm).2
      refine Or.inr (Or.inr ⟨e4, hm, ho, e1, 0, nT N, 0, cu, e5, e2, e3, ?_, ?_⟩)
      · rw [rem_start h0 hm]
        obtain ⟨j, hj⟩ : ∃ j, opM N = j + 1 := ⟨opM N - 1, by omega⟩
        have q := fnd_kds N (opM N) (oN N) ho.2.2 j 0 (nT N) (by omega) hc (fun a _ ham => (oN_mem ham).2)
        rw [← hj] at q
        rw [q]
      · rw [rem_start h0 hm]
        have := kds_len (nC N) o.2.1.1 (oN N) (Dg N (opM N) (oN N)) (opM N) 0 (nT N)
        omega
  · rw [if_neg (qB_no hc)]
    rw [mBc_t hc] at e4
    exact Or.inl ⟨e4, rfl⟩
end Begin
