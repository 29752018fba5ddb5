/-! those that are all joined -/
noncomputable def cq (A : Nat → Nat → Prop) (n : Nat) : Nat → (Nat → Prop) → Nat
  | 0, _ => 1
  | j + 1, C => sm (fun p => iq (C p) (cq A n j (fun q => C q ∧ A p q ∧ p < q))) n
theorem cq_congr {A A' : Nat → Nat → Prop} {n : Nat} : ∀ (j : Nat) {C C' : Nat → Prop}, (∀ q, q < n → (C q ↔ C' q)) → (∀ p q, p < n → q < n → C p → C q → p ≠ q → (A p q ↔ A' p q)) → cq A n j C = cq A' n j C'
  | 0, _, _, _, _ => rfl
  | j + 1, C, C', h1, h2 => by
    refine sm_congr n (fun p hp => iq_congr2 (h1 p hp) (fun z => cq_congr j (fun q hq => ?_) (fun x y hx hy hx2 hy2 hne => h2 x y hx hy hx2.1 hy2.1 hne)))
    constructor
    · rintro ⟨a, b, d⟩
      exact ⟨(h1 q hq).mp a, (h2 p q hp hq z a (by omega)).mp b, d⟩
    · rintro ⟨a, b, d⟩
      have a' := (h1 q hq).mpr a
      exact ⟨a', (h2 p q hp hq z a' (by omega)).mpr b, d⟩
theorem cq_rem {A : Nat → Nat → Prop} (hA : ∀ a b, A a b → A b a) {n v : Nat} (hv : v < n) : ∀ (j : Nat) {C : Nat → Prop}, C v → cq A n (j + 1) C = cq A n (j + 1) (fun q => C q ∧ q ≠ v) + cq A n j (fun q => C q ∧ A v q ∧ q ≠ v)
  | 0, C, hC => by
    show sm (fun p => iq (C p) 1) n = sm (fun p => iq (C p ∧ p ≠ v) 1) n + 1
    have e := sm_pick (fun _ => 1) n hv
    rw [sm_congr (g := fun p => iq (C p ∧ p ≠ v) 1 + iq (p = v) 1) n (fun p _ => ?_), sm_plus, e]
    by_cases z : p = v
    · rw [iq_t z, iq_f (p := C p ∧ p ≠ v) (fun w => w.2 z), iq_t (p := C p) (by rw [z]; exact hC)]
    · rw [iq_f z, Nat.add_zero]
      exact iq_congr ⟨fun w => ⟨w, z⟩, fun w => w.1⟩ 1
  | j + 1, C, hC => by
    have key : ∀ p, p < n → iq (C p) (cq A n (j + 1) (fun q => C q ∧ A p q ∧ p < q)) = iq (C p ∧ p ≠ v) (cq A n (j + 1) (fun q => (C q ∧ q ≠ v) ∧ A p q ∧ p < q)) + (iq (p = v) (cq A n (j + 1) (fun q => C q ∧ A v q ∧ v < q)) + iq (C p ∧ p < v ∧ A p v) (cq A n j (fun q => (C q ∧ A p q ∧ p < q) ∧ A v q ∧ q ≠ v))) := by
      intro p hp
      by_cases z : p = v
      · subst z
        rw [iq_t (p := p = p) rfl, iq_f (p := C p ∧ p ≠ p) (fun w => w.2 rfl), iq_f (p := C p ∧ p < p ∧ A p p) (fun w => by omega), iq_t hC]
        omega
      · rw [iq_f z, Nat.zero_add]
        by_cases y : C p ∧ p < v ∧ A p v
        · rw [iq_t y, iq_t y.1, iq_t ⟨y.1, z⟩, cq_rem hA hv j (C := fun q => C q ∧ A p q ∧ p < q) ⟨hC, y.2.2, y.2.1⟩]
          rw [cq_congr (A := A) (A' := A) (n := n) (j + 1) (C := fun q => (C q ∧ A p q ∧ p < q) ∧ q ≠ v) (C' := fun q => (C q ∧ q ≠ v) ∧ A p q ∧ p < q) (fun q _ => ⟨fun w => ⟨⟨w.1.1, w.2⟩, w.1.2⟩, fun w => ⟨⟨w.1.1, w.2⟩, w.1.2⟩⟩) (fun _ _ _ _ _ _ _ => Iff.rfl)]
        · rw [iq_f y, Nat.add_zero]
          refine iq_congr2 ⟨fun w => ⟨w, z⟩, fun w => w.1⟩ (fun w => cq_congr (j + 1) (fun q _ => ⟨fun x => ⟨⟨x.1, fun e => y ⟨w, ?_⟩⟩, x.2⟩, fun x => ⟨x.1.1, x.2⟩⟩) (fun _ _ _ _ _ _ _ => Iff.rfl))
          subst e
          exact ⟨x.2.2, x.2.1⟩
    show sm (fun p => iq (C p) (cq A n (j + 1) (fun q => C q ∧ A p q ∧ p < q))) n = sm (fun p => iq (C p ∧ p ≠ v) (cq A n (j + 1) (fun q => (C q ∧ q ≠ v) ∧ A p q ∧ p < q))) n + sm (fun p => iq (C p ∧ A v p ∧ p ≠ v) (cq A n j (fun q => (C q ∧ A v q ∧ q ≠ v) ∧ A p q ∧ p < q))) n
    rw [sm_congr n key, sm_plus, sm_plus, sm_pick (fun _ => cq A n (j + 1) (fun q => C q ∧ A v q ∧ v < q)) n hv]
    refine congrArg (fun x => sm (fun p => iq (C p ∧ p ≠ v) (cq A n (j + 1) (fun q => (C q ∧ q ≠ v) ∧ A p q ∧ p < q))) n + x) ?_
    show sm (fun p => iq (C p ∧ A v p ∧ v < p) (cq A n j (fun q => (C q ∧ A v q ∧ v < q) ∧ A p q ∧ p < q))) n + _ = _
    rw [← sm_plus]
    refine sm_congr n (fun p hp => ?_)
    rcases Nat.lt_trichotomy p v with z | z | z
    · rw [iq_f (fun w => by omega), Nat.zero_add]
      refine iq_congr2 ⟨fun w => ⟨w.1, hA _ _ w.2.2, by omega⟩, fun w => ⟨w.1, z, hA _ _ w.2.1⟩⟩ (fun w => cq_congr j (fun q _ => ⟨fun x => ⟨⟨x.1.1, x.2⟩, x.1.2⟩, fun x => ⟨⟨x.1.1, x.2⟩, x.1.2⟩⟩) (fun _ _ _ _ _ _ _ => Iff.rfl))
    · rw [iq_f (fun w => by omega), iq_f (fun w => by omega), iq_f (fun w => w.2.2 z)]
    · rw [iq_f (p := C p ∧ p < v ∧ A p v) (fun w => by omega), Nat.add_zero]
      refine iq_congr2 ⟨fun w => ⟨w.1, w.2.1, by omega⟩, fun w => ⟨w.1, w.2.1, z⟩⟩ (fun w => cq_congr j (fun q _ => ⟨fun x => ⟨⟨x.1.1, x.1.2.1, by omega⟩, x.2⟩, fun x => ⟨⟨x.1.1, x.1.2.1, by omega⟩, x.2⟩⟩) (fun _ _ _ _ _ _ _ => Iff.rfl))
theorem takes_all (T : Nat → Int) (c : Int) (L n : Nat) : ∀ (j : Nat) (r es : List Nat), msN T c es = 0 → (takesF T c 0 1 L n j r es).length = cq (adT T c) n j (cdP T c 1 L n r)
  | 0, r, es, ms => by
    rw [takesF_zero (by omega)]
    rfl
  | j + 1, r, es, ms => by
    rw [← wS_len, takes_w T c 1 L n j r es _ ms]
    refine sm_congr n (fun p hp => iq_congr2 ⟨fun w => ⟨hp, w⟩, fun w => w.2⟩ (fun w => ?_))
    have ms2 : msN T c (es ++ newE 1 L r p) = 0 := by
      have := w.2.2
      rw [msN_app, ms]
      omega
    rw [wS_len, takes_all T c L n j (r ++ [p]) (es ++ newE 1 L r p) ms2]
    refine cq_congr j (fun q _ => ?_) (fun _ _ _ _ _ _ _ => Iff.rfl)
    rw [cd_all ⟨hp, w⟩]
    exact ⟨fun x => ⟨x.1.1, x.1.2, x.2⟩, fun x => ⟨⟨x.1, x.2.1⟩, x.2.2⟩⟩
theorem less_iff {T : Nat → Int} {c : Int} {e x : Nat} (hc : c ≠ -1) : tSet T e (-1) x = c ↔ T x = c ∧ x ≠ e := by
  unfold tSet
  by_cases z : x = e
  · rw [if_pos z]
    exact ⟨fun w => absurd w.symm hc, fun w => absurd z w.2⟩
  · rw [if_neg z]
    exact ⟨fun w => ⟨w, z⟩, fun w => w.1⟩
theorem jn_ne {u v p q : Nat} (hu : u < 12) (hv : v < 12) (hp : p < 12) (hq : q < 12) (huv : u ≠ v) (hpq : p ≠ q) (h : ¬ ((p = u ∧ q = v) ∨ (p = v ∧ q = u))) : jn p q ≠ jn u v := fun z => h (jn_inj2 hp hq hu hv hpq huv z)
theorem thr_all (T : Nat → Int) (c : Int) (L n u v : Nat) (hk : kOk 1 L) (hc : c ≠ -1) (hn : n ≤ 12) (hu : u < n) (hv : v < n) (huv : u ≠ v) (hT : T (jn u v) = c) :
    thr T c 1 L n (jn u v) = cq (adT T c) n (L - 2) (fun q => (q < n ∧ adT T c u q ∧ q ≠ u) ∧ adT T c v q ∧ q ≠ v) := by
  have hL : 2 ≤ L := by rcases hk with h | h | h | h | h <;> omega
  have t0 := takes_less T c 1 L n (jn u v) hc
  rw [takes_all T c L n L [] [] rfl, takes_all (tSet T (jn u v) (-1)) c L n L [] [] rfl] at t0
  have hLL : L = L - 1 + 1 := by omega
  have hL2 : L - 1 = L - 2 + 1 := by omega
  have a0 : ∀ (S : Nat → Int), cq (adT S c) n L (cdP S c 1 L n []) = cq (adT S c) n (L - 1 + 1) (fun q => q < n) := fun S => by
    rw [← hLL]
    exact cq_congr L (fun q _ => cd_nil) (fun _ _ _ _ _ _ _ => Iff.rfl)
  rw [a0, a0, cq_rem adT_sym hu (L - 1) (C := fun q => q < n) hu, cq_rem adT_sym hu (L - 1) (C := fun q => q < n) hu] at t0
  have b1 : cq (adT (tSet T (jn u v) (-1)) c) n (L - 1 + 1) (fun q => q < n ∧ q ≠ u) = cq (adT T c) n (L - 1 + 1) (fun q => q < n ∧ q ≠ u) := by
    refine cq_congr _ (fun q _ => Iff.rfl) (fun p q hp hq h1 h2 hne => ?_)
    unfold adT
    rw [less_iff hc]
    exact ⟨fun w => w.1, fun w => ⟨w, jn_ne (by omega) (by omega) (by omega) (by omega) huv hne (by omega)⟩⟩
  have b2 : cq (adT (tSet T (jn u v) (-1)) c) n (L - 1) (fun q => q < n ∧ adT (tSet T (jn u v) (-1)) c u q ∧ q ≠ u) = cq (adT T c) n (L - 1) (fun q => (q < n ∧ adT T c u q ∧ q ≠ u) ∧ q ≠ v) := by
    refine cq_congr _ (fun q hq => ?_) (fun p q hp hq h1 h2 hne => ?_)
    · unfold adT
      rw [less_iff hc]
      constructor
      · rintro ⟨w1, ⟨w2, w3⟩, w4⟩
        exact ⟨⟨w1, w2, w4⟩, fun z => w3 (by rw [z])⟩
      · rintro ⟨⟨w1, w2, w4⟩, w5⟩
        exact ⟨w1, ⟨w2, jn_ne (by omega) (by omega) (by omega) (by omega) huv (fun z => w4 z.symm) (by omega)⟩, w4⟩
    · unfold adT
      rw [less_iff hc]
      have h1' := h1.2.2
      have h2' := h2.2.2
      exact ⟨fun w => w.1, fun w => ⟨w, jn_ne (by omega) (by omega) (by omega) (by omega) huv hne (by omega)⟩⟩
  have b3 := cq_rem (A := adT T c) adT_sym hv (L - 2) (C := fun q => q < n ∧ adT T c u q ∧ q ≠ u) ⟨hv, hT, fun z => huv z.symm⟩
  rw [← hL2] at b3
  rw [b1, b2, b3] at t0
  omega
