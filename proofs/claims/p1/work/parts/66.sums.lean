/-! sums over rows of points; copies in which a join is -/
noncomputable def iq (p : Prop) (x : Nat) : Nat := if qB p = true then x else 0
theorem iq_t {p : Prop} (h : p) (x : Nat) : iq p x = x := if_pos (qB_t h)
theorem iq_f {p : Prop} (h : ¬ p) (x : Nat) : iq p x = 0 := if_neg (qB_no h)
theorem iq_congr {p q : Prop} (h : p ↔ q) (x : Nat) : iq p x = iq q x := by
  unfold iq
  rw [qB_congr h]
theorem iq_congr2 {p q : Prop} {x y : Nat} (h : p ↔ q) (hx : p → x = y) : iq p x = iq q y := by
  by_cases z : p
  · rw [iq_t z, iq_t (h.mp z), hx z]
  · rw [iq_f z, iq_f (fun w => z (h.mpr w))]
theorem iq_and {p q : Prop} (x : Nat) : iq (p ∧ q) x = iq p (iq q x) := by
  by_cases z : p
  · rw [iq_t z]
    exact iq_congr ⟨fun w => w.2, fun w => ⟨z, w⟩⟩ x
  · rw [iq_f z, iq_f (fun w => z w.1)]
theorem iq_add (p : Prop) (x y : Nat) : iq p (x + y) = iq p x + iq p y := by
  by_cases z : p
  · rw [iq_t z, iq_t z, iq_t z]
  · rw [iq_f z, iq_f z, iq_f z]
theorem iq_le (p : Prop) (x : Nat) : iq p x ≤ x := by
  by_cases z : p
  · rw [iq_t z]; exact Nat.le_refl _
  · rw [iq_f z]; exact Nat.zero_le _
theorem sm_iq (p : Prop) (f : Nat → Nat) : ∀ n, sm (fun k => iq p (f k)) n = iq p (sm f n)
  | 0 => by
    show 0 = iq p 0
    by_cases z : p
    · rw [iq_t z]
    · rw [iq_f z]
  | n + 1 => by
    show sm (fun k => iq p (f k)) n + iq p (f n) = iq p (sm f n + f n)
    rw [sm_iq p f n, iq_add]
theorem sm_comm (F : Nat → Nat → Nat) (m : Nat) : ∀ n, sm (fun a => sm (fun b => F a b) m) n = sm (fun b => sm (fun a => F a b) n) m
  | 0 => (sm_zero m).symm
  | n + 1 => by
    show sm (fun a => sm (fun b => F a b) m) n + sm (fun b => F n b) m = sm (fun b => sm (fun a => F a b) n + F n b) m
    rw [sm_comm F m n, sm_plus]
theorem sm_mul (c : Nat) (f : Nat → Nat) : ∀ n, sm (fun k => c * f k) n = c * sm f n
  | 0 => (Nat.mul_zero c).symm
  | n + 1 => by
    show sm (fun k => c * f k) n + c * f n = c * (sm f n + f n)
    rw [sm_mul c f n, Nat.mul_add]
theorem sm_pick (H : Nat → Nat) {u : Nat} : ∀ n, u < n → sm (fun p => iq (p = u) (H p)) n = H u
  | n + 1, h => by
    show sm (fun p => iq (p = u) (H p)) n + iq (n = u) (H n) = H u
    by_cases z : n = u
    · rw [iq_t z, z, sm_congr (f := fun p => iq (p = u) (H p)) (g := fun _ => 0) u (fun k hk => iq_f (by omega) _), sm_zero]
      omega
    · rw [iq_f z, sm_pick H n (by omega)]
      omega
def SL (n : Nat) : Nat → (List Nat → Nat) → Nat
  | 0, F => F []
  | j + 1, F => sm (fun p => SL n j (fun s => F (p :: s))) n
theorem SL_congr {n : Nat} : ∀ (j : Nat) {F G : List Nat → Nat}, (∀ s : List Nat, s.length = j → (∀ x ∈ s, x < n) → F s = G s) → SL n j F = SL n j G
  | 0, F, G, h => h [] rfl (fun x hx => (List.not_mem_nil hx).elim)
  | j + 1, F, G, h => by
    refine sm_congr n (fun p hp => ?_)
    refine SL_congr j (fun s hs hx => h (p :: s) (by show s.length + 1 = j + 1; omega) (fun x hx' => ?_))
    rcases List.mem_cons.mp hx' with rfl | w
    · exact hp
    · exact hx x w
theorem SL_zero (n : Nat) : ∀ j, SL n j (fun _ => 0) = 0
  | 0 => rfl
  | j + 1 => by
    show sm (fun p => SL n j (fun _ => 0)) n = 0
    rw [SL_zero n j, sm_zero]
theorem SL_plus (n : Nat) : ∀ (j : Nat) (F G : List Nat → Nat), SL n j (fun s => F s + G s) = SL n j F + SL n j G
  | 0, F, G => rfl
  | j + 1, F, G => by
    show sm (fun p => SL n j (fun s => F (p :: s) + G (p :: s))) n = sm _ n + sm _ n
    rw [← sm_plus]
    exact sm_congr n (fun p _ => SL_plus n j _ _)
theorem SL_mul (n c : Nat) : ∀ (j : Nat) (F : List Nat → Nat), SL n j (fun s => c * F s) = c * SL n j F
  | 0, F => rfl
  | j + 1, F => by
    show sm (fun p => SL n j (fun s => c * F (p :: s))) n = c * sm _ n
    rw [← sm_mul]
    exact sm_congr n (fun p _ => SL_mul n c j _)
theorem SL_iq (n : Nat) (p : Prop) : ∀ (j : Nat) (F : List Nat → Nat), SL n j (fun s => iq p (F s)) = iq p (SL n j F)
  | 0, F => rfl
  | j + 1, F => by
    show sm (fun q => SL n j (fun s => iq p (F (q :: s)))) n = iq p (sm _ n)
    rw [← sm_iq]
    exact sm_congr n (fun q _ => SL_iq n p j _)
theorem SL_sm (n m : Nat) : ∀ (j : Nat) (H : Nat → List Nat → Nat), sm (fun p => SL n j (H p)) m = SL n j (fun s => sm (fun p => H p s) m)
  | 0, H => rfl
  | j + 1, H => by
    show sm (fun p => sm (fun q => SL n j (fun s => H p (q :: s))) n) m = sm (fun q => SL n j (fun s => sm (fun p => H p (q :: s)) m)) n
    rw [sm_comm (fun p q => SL n j (fun s => H p (q :: s))) n m]
    exact sm_congr n (fun q _ => SL_sm n m j _)
theorem SL_last (n : Nat) : ∀ (j : Nat) (F : List Nat → Nat), SL n (j + 1) F = SL n j (fun s => sm (fun p => F (s ++ [p])) n)
  | 0, F => rfl
  | j + 1, F => by
    show sm (fun p => SL n (j + 1) (fun s => F (p :: s))) n = sm (fun p => SL n j (fun s => sm (fun q => F (p :: s ++ [q])) n)) n
    exact sm_congr n (fun p _ => SL_last n j _)
theorem SL_rev (n : Nat) : ∀ (j : Nat) (F : List Nat → Nat), SL n j (fun s => F s.reverse) = SL n j F
  | 0, F => rfl
  | j + 1, F => by
    show sm (fun p => SL n j (fun s => F (p :: s).reverse)) n = _
    rw [sm_congr (g := fun p => SL n j (fun s => F (s ++ [p]))) n (fun p _ => by
      rw [← SL_rev n j (fun s => F (s ++ [p]))]
      exact SL_congr j (fun s _ _ => by rw [List.reverse_cons])), SL_sm n n j (fun p s => F (s ++ [p])), ← SL_last]
theorem SL_rot (n j : Nat) (F : List Nat → Nat) : sm (fun p => SL n j (fun s => F (s ++ [p]))) n = SL n (j + 1) F := by
  rw [SL_sm n n j (fun p s => F (s ++ [p])), ← SL_last]
theorem SL_app (n b : Nat) : ∀ (a : Nat) (F : List Nat → Nat), SL n (a + b) F = SL n a (fun x => SL n b (fun y => F (x ++ y)))
  | 0, F => by rw [Nat.zero_add]; rfl
  | a + 1, F => by
    rw [show a + 1 + b = a + b + 1 by omega]
    show sm (fun p => SL n (a + b) (fun s => F (p :: s))) n = sm (fun p => SL n a (fun x => SL n b (fun y => F (p :: x ++ y)))) n
    exact sm_congr n (fun p _ => SL_app n b a _)
/-- weights of rows, added -/
def wS (w : rE → Nat) : List rE → Nat
  | [] => 0
  | x :: xs => w x + wS w xs
theorem wS_app (w : rE → Nat) : ∀ (xs ys : List rE), wS w (xs ++ ys) = wS w xs + wS w ys
  | [], ys => (Nat.zero_add _).symm
  | x :: xs, ys => by
    show w x + wS w (xs ++ ys) = w x + wS w xs + wS w ys
    rw [wS_app w xs ys]
    omega
theorem wS_flat (w : rE → Nat) (f : Nat → List rE) : ∀ m p, wS w ((List.range' p m).flatMap f) = sm (fun i => wS w (f (p + i))) m
  | 0, p => rfl
  | m + 1, p => by
    rw [List.range'_1_concat, List.flatMap_append, wS_app, wS_flat w f m p, List.flatMap_singleton]
    rfl
theorem wS_len : ∀ xs : List rE, wS (fun _ => 1) xs = xs.length
  | [] => rfl
  | x :: xs => by
    show 1 + wS (fun _ => 1) xs = xs.length + 1
    rw [wS_len xs]
    omega
theorem wS_filter (P : rE → Bool) : ∀ xs : List rE, (xs.filter P).length = wS (fun x => iq (P x = true) 1) xs
  | [] => rfl
  | x :: xs => by
    show _ = iq (P x = true) 1 + wS (fun x => iq (P x = true) 1) xs
    by_cases h : P x = true
    · rw [List.filter_cons_of_pos h, iq_t h, List.length_cons, wS_filter P xs]
      omega
    · rw [List.filter_cons_of_neg h, iq_f h, wS_filter P xs]
      omega
theorem takes_w (T : Nat → Int) (c : Int) (k L n j : Nat) (r es : List Nat) (w : rE → Nat) (ms : msN T c es = 0) : wS w (takesF T c 0 k L n (j + 1) r es) = sm (fun p => iq (p ∉ r ∧ okP T c k L 0 0 r p) (wS w (takesF T c 0 k L n j (r ++ [p]) (es ++ newE k L r p)))) n := by
  rw [takesF_succ]
  unfold takesP
  rw [wS_flat, ms]
  refine sm_congr n (fun p _ => ?_)
  rw [Nat.zero_add]
  by_cases z : p ∉ r ∧ okP T c k L 0 0 r p
  · rw [if_pos (qB_t z), iq_t z]
  · rw [if_neg (qB_no z), iq_f z]
    rfl
/-- each point of a row may follow those ahead of it; the joins that come -/
def acc (T : Nat → Int) (c : Int) (k L : Nat) : List Nat → List Nat → Prop
  | _, [] => True
  | r, p :: s => (p ∉ r ∧ okP T c k L 0 0 r p) ∧ acc T c k L (r ++ [p]) s
def edg (k L : Nat) : List Nat → List Nat → List Nat
  | _, [] => []
  | r, p :: s => newE k L r p ++ edg k L (r ++ [p]) s
theorem takes_SL (T : Nat → Int) (c : Int) (k L n : Nat) (w : rE → Nat) : ∀ (j : Nat) (r es : List Nat), msN T c es = 0 → wS w (takesF T c 0 k L n j r es) = SL n j (fun s => iq (acc T c k L r s) (w (r ++ s, es ++ edg k L r s)))
  | 0, r, es, ms => by
    rw [takesF_zero (by omega)]
    show w (r, es) + 0 = iq True (w (r ++ [], es ++ []))
    rw [iq_t trivial, List.append_nil, List.append_nil]
    rfl
  | j + 1, r, es, ms => by
    rw [takes_w T c k L n j r es w ms]
    show _ = sm (fun p => SL n j (fun s => iq ((p ∉ r ∧ okP T c k L 0 0 r p) ∧ acc T c k L (r ++ [p]) s) (w (r ++ p :: s, es ++ (newE k L r p ++ edg k L (r ++ [p]) s))))) n
    refine sm_congr n (fun p _ => ?_)
    rw [SL_congr j (G := fun s => iq (p ∉ r ∧ okP T c k L 0 0 r p) (iq (acc T c k L (r ++ [p]) s) (w (r ++ [p] ++ s, es ++ newE k L r p ++ edg k L (r ++ [p]) s)))) (fun s _ _ => by
      rw [iq_and, List.append_assoc r [p] s, List.append_assoc es]
      rfl), SL_iq]
    refine iq_congr2 Iff.rfl (fun z => ?_)
    refine takes_SL T c k L n w j (r ++ [p]) (es ++ newE k L r p) ?_
    have := z.2.2
    rw [msN_app, ms]
    omega
/-- the copies in which a join is -/
noncomputable def thr (T : Nat → Int) (c : Int) (k L n e : Nat) : Nat := wS (fun x => iq (e ∈ x.2) 1) (takesF T c 0 k L n L [] [])
theorem thr_SL (T : Nat → Int) (c : Int) (k L n e : Nat) : thr T c k L n e = SL n L (fun s => iq (acc T c k L [] s ∧ e ∈ edg k L [] s) 1) := by
  unfold thr
  rw [takes_SL T c k L n _ L [] [] rfl]
  exact SL_congr L (fun s _ _ => by rw [iq_and]; rfl)
theorem msN_less {T : Nat → Int} {c : Int} {e : Nat} (hc : c ≠ -1) {es : List Nat} : msN (tSet T e (-1)) c es = 0 ↔ (msN T c es = 0 ∧ e ∉ es) := by
  rw [msN0, msN0]
  constructor
  · intro h
    have h1 : e ∉ es := fun z => by
      have := h e z
      rw [show tSet T e (-1) e = -1 from if_pos rfl] at this
      exact hc this.symm
    refine ⟨fun x hx => ?_, h1⟩
    have := h x hx
    rw [show tSet T e (-1) x = T x from if_neg (fun (y : x = e) => h1 (y ▸ hx))] at this
    exact this
  · rintro ⟨h1, h2⟩ x hx
    rw [show tSet T e (-1) x = T x from if_neg (fun (y : x = e) => h2 (y ▸ hx))]
    exact h1 x hx
theorem wS_split {T : Nat → Int} {c : Int} {e : Nat} (hc : c ≠ -1) : ∀ xs : List rE, (xs.filter (fun x => decide (msN T c x.2 ≤ 0))).length = (xs.filter (fun x => decide (msN (tSet T e (-1)) c x.2 ≤ 0))).length + wS (fun x => iq (e ∈ x.2) 1) (xs.filter (fun x => decide (msN T c x.2 ≤ 0)))
  | [] => rfl
  | x :: xs => by
    have ih := wS_split (T := T) (e := e) hc xs
    have key := msN_less (T := T) (e := e) hc (es := x.2)
    by_cases h1 : msN T c x.2 ≤ 0
    · rw [List.filter_cons_of_pos (p := fun x : rE => decide (msN T c x.2 ≤ 0)) (by simpa using h1)]
      by_cases h2 : e ∈ x.2
      · rw [List.filter_cons_of_neg (p := fun x : rE => decide (msN (tSet T e (-1)) c x.2 ≤ 0)) (by
          simp only [decide_eq_true_eq]
          exact fun z => (key.mp (by omega)).2 h2)]
        show _ + 1 = _ + (iq (e ∈ x.2) 1 + _)
        rw [iq_t h2]
        omega
      · rw [List.filter_cons_of_pos (p := fun x : rE => decide (msN (tSet T e (-1)) c x.2 ≤ 0)) (by
          simp only [decide_eq_true_eq]
          have := key.mpr ⟨by omega, h2⟩
          omega)]
        show _ + 1 = _ + 1 + (iq (e ∈ x.2) 1 + _)
        rw [iq_f h2]
        omega
    · rw [List.filter_cons_of_neg (p := fun x : rE => decide (msN T c x.2 ≤ 0)) (by simpa using h1), List.filter_cons_of_neg (p := fun x : rE => decide (msN (tSet T e (-1)) c x.2 ≤ 0)) (by
          simp only [decide_eq_true_eq]
          exact fun z => h1 (by have := (key.mp (by omega)).1; omega))]
      exact ih
theorem takes_less (T : Nat → Int) (c : Int) (k L n e : Nat) (hc : c ≠ -1) : (takesF T c 0 k L n L [] []).length = (takesF (tSet T e (-1)) c 0 k L n L [] []).length + thr T c k L n e := wS_split hc _
