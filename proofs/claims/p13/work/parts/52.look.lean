/-! the copies of a net; the model's look -/
abbrev nkk (N : nN) (c : Nat) : Nat := (nK N c).toNat
abbrev nln (N : nN) (c : Nat) : Nat := (lenOf (nK N c) (nS N c)).toNat
noncomputable def cpL (N : nN) (c mm : Nat) : List rE := if nK N c = 0 then [] else takesF (nT N) c mm (nkk N c) (nln N c) (nP N) (nln N c) [] []
theorem kOk_of {k s : Int} (h : szOk k s) (h0 : k ≠ 0) : kOk k.toNat (lenOf k s).toNat ∧ (k.toNat : Int) = k ∧ ((lenOf k s).toNat : Int) = lenOf k s ∧ 0 ≤ s ∧ s ≤ 6 := by
  unfold lenOf
  rcases h with ⟨rfl, h1⟩ | ⟨rfl, h1, h2⟩ | ⟨rfl, h1, h2⟩ | ⟨rfl, h1, h2⟩ | ⟨rfl, h1, h2⟩ | ⟨rfl, h1, h2⟩
  · exact absurd rfl h0
  · rw [if_neg (by decide), if_neg (by decide)]
    exact ⟨Or.inl ⟨rfl, by omega, by omega⟩, rfl, by omega, by omega, by omega⟩
  · rw [if_neg (by decide), if_neg (by decide)]
    exact ⟨Or.inr (Or.inl ⟨rfl, by omega, by omega⟩), rfl, by omega, by omega, by omega⟩
  · rw [if_pos rfl]
    exact ⟨Or.inr (Or.inr (Or.inl ⟨rfl, by omega, by omega⟩)), rfl, by omega, by omega, by omega⟩
  · rw [if_neg (by decide), if_pos rfl]
    exact ⟨Or.inr (Or.inr (Or.inr (Or.inl ⟨rfl, by omega, by omega⟩))), rfl, by omega, by omega, by omega⟩
  · rw [if_neg (by decide), if_neg (by decide)]
    exact ⟨Or.inr (Or.inr (Or.inr (Or.inr ⟨rfl, by omega, by omega⟩))), rfl, by omega, by omega, by omega⟩
theorem kOk_le {k L : Nat} (h : kOk k L) : L ≤ 7 := by rcases h with h | h | h | h | h <;> omega
theorem flatMap_len {f : Nat → List rE} {B : Nat} (hf : ∀ p, (f p).length ≤ B) : ∀ m p, ((List.range' p m).flatMap f).length ≤ m * B
  | 0, p => by show 0 ≤ _; omega
  | m + 1, p => by
    rw [List.range'_succ, List.flatMap_cons, List.length_append, Nat.add_mul, Nat.one_mul]
    have h1 := flatMap_len hf m (p + 1)
    have h2 := hf p
    omega
theorem rowsF_len (k L n : Nat) (hn : n ≤ 12) : ∀ (j : Nat) (r es : List Nat), (rowsF k L n j r es).length ≤ 12 ^ j
  | 0, r, es => Nat.le_refl 1
  | j + 1, r, es => by
    have h1 := flatMap_len (f := fun p => if qB (p ∉ r ∧ ordP k L r p) = true then rowsF k L n j (r ++ [p]) (es ++ newE k L r p) else []) (B := 12 ^ j) (fun p => by
      split
      · exact rowsF_len k L n hn j _ _
      · exact Nat.zero_le _) n 0
    have h2 : n * 12 ^ j ≤ 12 * 12 ^ j := Nat.mul_le_mul_right _ hn
    rw [Nat.pow_succ, Nat.mul_comm]
    exact Nat.le_trans h1 h2
theorem cpL_len {N : nN} (hn : nP N ≤ 12) {c : Nat} (hs : szOk (nK N c) (nS N c)) (mm : Nat) : (cpL N c mm).length ≤ 35831808 := by
  unfold cpL
  split
  · exact Nat.zero_le _
  · next h0 =>
    obtain ⟨k1, -⟩ := kOk_of hs h0
    have hL : nln N c ≤ 7 := kOk_le k1
    refine Nat.le_trans (List.length_filter_le _ _) (Nat.le_trans (rowsF_len _ _ _ hn _ _ _) ?_)
    exact Nat.pow_le_pow_right (by decide) hL
def farX (h h' : mMem) : Prop := ∀ (t : Nat) (i : Fin 8) (k : Nat), ¬ ((44 ≤ t ∧ t ≤ 48) ∨ (t = 9 ∧ ((9 ≤ k ∧ k ≤ 15) ∨ k = 17))) → h' t i k = h t i k
theorem farX.rf {h : mMem} : farX h h := fun _ _ _ _ => rfl
theorem farX.tr {h h1 h2 : mMem} (a : farX h h1) (b : farX h1 h2) : farX h h2 := fun t i k z => (b t i k z).trans (a t i k z)
theorem farX.ofT {h h1 : mMem} (a : farT h h1) : farX h h1 := fun t i k z => a t i k (fun y => z (by omega))
theorem isM_farX {h h' : mMem} {N : nN} (e : isM h N) (f : farX h h') : isM h' N :=
  ⟨(f _ _ _ (by decide)).trans e.1, (f _ _ _ (by decide)).trans e.2.1, fun k hk => (f _ _ _ (by omega)).trans (e.2.2.1 k hk), fun k hk => (f _ _ _ (by omega)).trans (e.2.2.2.1 k hk), fun k hk => (f _ _ _ (by omega)).trans (e.2.2.2.2 k hk)⟩
section Look
variable {l : Launch} {g : mG} {d : Nat}
theorem s_look {A : Type} (c : Nat) (hc : c < 3) (N : nN) (hn : nP N ≤ 12) (hsz : szOk (nK N c) (nS N c)) (task mm : Nat) (hmm : mm ≤ 1) (h : mMem) (e : isM h N)
    (Inv : A → mMem → Prop) (stop : A → Prop) (step : A → List Nat → List Nat → A) (sz : A → Nat) (B : Nat) (a0 : A)
    (i1 : ∀ a h h', farR h h' → Inv a h → Inv a h') (i2 : ∀ a h, Inv a h → h 9 0 15 = mBc (stop a))
    (tk : nK N c ≠ 0 → ∀ (a : A) (h' : mMem) (r es : List Nat), h' 9 0 13 = task → farX h h' → Inv a h' → ¬ stop a → sz a < B → rOk (nkk N c) r es → r.length = nln N c → sSt h' (nT N) mm es (msN (nT N) c es) (msD (nT N) c (h 9 0 11) es) → rowAt h' r → msN (nT N) c es ≤ mm → mCon l g n_M_take (d + 1) [.inr (9, 0), .inl r.length] h' (fun v h2 => v = none ∧ Inv (step a r es) h2 ∧ farK h' h2))
    (hz : ∀ a r es, sz (step a r es) ≤ sz a + 1) (hB : sz a0 + 35831808 ≤ B) (ns : ¬ stop a0)
    (I0 : ∀ h', farX h h' → (∀ t i k, t = 46 ∨ t = 47 ∨ t = 48 ∨ (t = 9 ∧ k = 17) → h' t i k = h t i k) → h' 9 0 14 = 0 → h' 9 0 15 = 0 → Inv a0 h') :
    mCon l g n_M_look (d + 11) [.inr (9, 0), .inl c, .inl task, .inl mm] h (fun v h' => v = none ∧ Inv (goA stop step a0 (cpL N c mm)) h' ∧ farX h h') := by
  refine e_M_look (fun hv hm => ?_)
  refine mGo_wp h_M_look 120 [30] ?_
  refine ⟨Or.inl rfl, ?_⟩
  show mGo l g (mMt n_M_look) (d + 11) 30 [some (.inr (9, 0)), some (.inl (c : Int)), some (.inl (task : Int)), some (.inl (mm : Int))] [] (mSet (mSet (mSet (mSet (mSet (mSet h 9 0 13 task) 9 0 12 mm) 9 0 14 0) 9 0 15 0) 9 0 9 0) 9 0 10 0) _
  have fb : farX h (mSet (mSet (mSet (mSet (mSet (mSet h 9 0 13 task) 9 0 12 mm) 9 0 14 0) 9 0 15 0) 9 0 9 0) 9 0 10 0) := fun t i k z => by
    rw [mSet_no (fun y => z (by omega)), mSet_no (fun y => z (by omega)), mSet_no (fun y => z (by omega)), mSet_no (fun y => z (by omega)), mSet_no (fun y => z (by omega)), mSet_no (fun y => z (by omega))]
  have q13 : mSet (mSet (mSet (mSet (mSet (mSet h 9 0 13 task) 9 0 12 mm) 9 0 14 0) 9 0 15 0) 9 0 9 0) 9 0 10 0 9 0 13 = task := by
    rw [mSet_no (by simp), mSet_no (by simp), mSet_no (by simp), mSet_no (by simp), mSet_no (by simp), mSet_at]
  have q12 : mSet (mSet (mSet (mSet (mSet (mSet h 9 0 13 task) 9 0 12 mm) 9 0 14 0) 9 0 15 0) 9 0 9 0) 9 0 10 0 9 0 12 = mm := by
    rw [mSet_no (by simp), mSet_no (by simp), mSet_no (by simp), mSet_no (by simp), mSet_at]
  have q14 : mSet (mSet (mSet (mSet (mSet (mSet h 9 0 13 task) 9 0 12 mm) 9 0 14 0) 9 0 15 0) 9 0 9 0) 9 0 10 0 9 0 14 = 0 := by
    rw [mSet_no (by simp), mSet_no (by simp), mSet_no (by simp), mSet_at]
  have q15 : mSet (mSet (mSet (mSet (mSet (mSet h 9 0 13 task) 9 0 12 mm) 9 0 14 0) 9 0 15 0) 9 0 9 0) 9 0 10 0 9 0 15 = 0 := by
    rw [mSet_no (by simp), mSet_no (by simp), mSet_at]
  have q9 : mSet (mSet (mSet (mSet (mSet (mSet h 9 0 13 task) 9 0 12 mm) 9 0 14 0) 9 0 15 0) 9 0 9 0) 9 0 10 0 9 0 9 = 0 := by
    rw [mSet_no (by simp), mSet_at]
  have q10 : mSet (mSet (mSet (mSet (mSet (mSet h 9 0 13 task) 9 0 12 mm) 9 0 14 0) 9 0 15 0) 9 0 9 0) 9 0 10 0 9 0 10 = 0 := mSet_at _ _ _ _ _
  have q11 : mSet (mSet (mSet (mSet (mSet (mSet h 9 0 13 task) 9 0 12 mm) 9 0 14 0) 9 0 15 0) 9 0 9 0) 9 0 10 0 9 0 11 = h 9 0 11 := by
    rw [mSet_no (by simp), mSet_no (by simp), mSet_no (by simp), mSet_no (by simp), mSet_no (by simp), mSet_no (by simp)]
  have Ib := I0 _ fb (fun t i k z => by
    rw [mSet_no (fun y => by omega), mSet_no (fun y => by omega), mSet_no (fun y => by omega), mSet_no (fun y => by omega), mSet_no (fun y => by omega), mSet_no (fun y => by omega)]) q14 q15
  have eb := isM_farX e fb
  generalize mSet (mSet (mSet (mSet (mSet (mSet h 9 0 13 task) 9 0 12 mm) 9 0 14 0) 9 0 15 0) 9 0 9 0) 9 0 10 0 = hb at *
  refine mGo_wp h_M_look 120 [] ?_
  have ek : hb 40 0 (Int.toNat (c : Int)) = nK N c := eb.2.2.1 c hc
  refine ⟨⟨by omega, by omega⟩, ⟨fun z => ?_, fun z => ?_⟩⟩
  · rw [ek] at z
    refine ⟨rfl, ?_, fb⟩
    unfold cpL
    rw [if_pos z]
    exact Ib
  · rw [ek] at z
    obtain ⟨k1, k2, k3, k4, k5⟩ := kOk_of hsz z
    have hL : nln N c ≤ 7 := kOk_le k1
    have hlen := cpL_len hn hsz mm
    unfold cpL at hlen ⊢
    rw [if_neg z] at hlen ⊢
    have S0 : sSt hb (nT N) mm [] (msN (nT N) c []) (msD (nT N) c (h 9 0 11) []) := ⟨q9, fun q hq => (by cases hq), q10, q11, q12, fun q hq => eb.2.2.2.2 q hq⟩
    have q := s_go (l := l) (g := g) (d := d) c hc (nT N) (nkk N c) (nln N c) (nP N) mm (nS N c) (h 9 0 11) k1 (by rw [k2, k3]) ⟨k4, k5⟩ hn hmm (fun h' => farX h h' ∧ h' 9 0 13 = task) Inv stop step sz B
      (fun h' y => by
        have e' := isM_farX e y.1
        exact ⟨e'.1, (e'.2.2.1 c hc).trans k2.symm, e'.2.2.2.1 c hc⟩)
      (fun h1 h2 f y => ⟨y.1.tr (farX.ofT f), (f _ _ _ (by decide)).trans y.2⟩) i1 i2
      (fun a h' r es y I n1 n2 o1 o2 S er ms => tk z a h' r es y.2 y.1 I n1 n2 o1 o2 S er ms) hz (nln N c) [] [] 0 hb a0 (by simp) (rOk_nil _) (by decide) (fun q => by simp) ⟨fb, q13⟩ Ib ns S0 (Nat.zero_le _) (fun j hj => (by cases hj)) (by omega)
    refine mCall_on2 (mCon_lift (by omega) q) ?_
    rintro v h' ⟨rfl, g1, g2, -, -⟩
    exact ⟨rfl, g1, fb.tr (farX.ofT g2)⟩
end Look
