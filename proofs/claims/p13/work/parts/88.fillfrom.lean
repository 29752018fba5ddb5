/-! the model's filling: tries one by one -/
noncomputable def gres (N : nN) (m : Nat) (o : Nat → Nat) (most D0 : Nat) (R : List eV) : Int × Nat × Option bT := ((gon N m o most D0 R).1, (gon N m o most D0 R).2.1, (gon N m o most D0 R).2.2.map (fun y => y.1.2))
theorem gres_nil (N : nN) (m : Nat) (o : Nat → Nat) (most D0 : Nat) : gres N m o most D0 [] = (0, D0, none) := rfl
theorem gres_spent {N : nN} {m : Nat} {o : Nat → Nat} {most D0 : Nat} {x : eV} {R : List eV} (h : most ≤ D0) : gres N m o most D0 (x :: R) = (-1, D0, none) := by
  unfold gres
  have : gon N m o most D0 (x :: R) = (-1, D0, none) := if_pos h
  rw [this]
  rfl
theorem gres_found {N : nN} {m : Nat} {o : Nat → Nat} {most D0 : Nat} {x : eV} {R : List eV} (h : ¬ most ≤ D0) (hf : fo N m o x) : gres N m o most D0 (x :: R) = (1, D0 + 1, some x.2) := by
  unfold gres
  have : gon N m o most D0 (x :: R) = (1, D0 + 1, some (x, R)) := by
    show (if most ≤ D0 then _ else if qB (fo N m o x) = true then _ else _) = _
    rw [if_neg h, if_pos (qB_t hf)]
  rw [this]
  rfl
theorem gres_next {N : nN} {m : Nat} {o : Nat → Nat} {most D0 : Nat} {x : eV} {R : List eV} (h : ¬ most ≤ D0) (hf : ¬ fo N m o x) : gres N m o most D0 (x :: R) = gres N m o most (D0 + 1) R := by
  unfold gres
  have : gon N m o most D0 (x :: R) = gon N m o most (D0 + 1) R := by
    show (if most ≤ D0 then _ else if qB (fo N m o x) = true then _ else _) = _
    rw [if_neg h, if_neg (qB_no hf)]
  rw [this]
theorem gres_app (N : nN) (m : Nat) (o : Nat → Nat) (most : Nat) : ∀ (A B : List eV) (D0 : Nat), gres N m o most D0 (A ++ B) = if (gres N m o most D0 A).1 = 0 then gres N m o most (gres N m o most D0 A).2.1 B else gres N m o most D0 A
  | [], B, D0 => by
    rw [gres_nil]
    exact (if_pos rfl).symm
  | x :: A, B, D0 => by
    rw [List.cons_append]
    by_cases h : most ≤ D0
    · rw [gres_spent h, gres_spent h]
      exact (if_neg (show ¬ ((-1 : Int) = 0) by decide)).symm
    · by_cases hf : fo N m o x
      · rw [gres_found h hf, gres_found h hf]
        exact (if_neg (show ¬ ((1 : Int) = 0) by decide)).symm
      · rw [gres_next h hf, gres_next h hf]
        exact gres_app N m o most A B (D0 + 1)
theorem gres_bd (N : nN) (m : Nat) (o : Nat → Nat) (most : Nat) : ∀ (A : List eV) (D0 : Nat), D0 ≤ most → D0 ≤ (gres N m o most D0 A).2.1 ∧ (gres N m o most D0 A).2.1 ≤ most ∧ (gres N m o most D0 A).2.1 ≤ D0 + A.length ∧ ((gres N m o most D0 A).1 = 0 → (gres N m o most D0 A).2.1 = D0 + A.length) ∧ ((gres N m o most D0 A).1 = 0 ∨ (gres N m o most D0 A).1 = 1 ∨ (gres N m o most D0 A).1 = -1) ∧ ((gres N m o most D0 A).1 = 1 ↔ (gres N m o most D0 A).2.2 ≠ none)
  | [], D0, hD => by
    rw [gres_nil]
    exact ⟨Nat.le_refl _, hD, Nat.le_refl _, fun _ => rfl, Or.inl rfl, ⟨fun z => absurd (show (0 : Int) = 1 from z) (by decide), fun z => absurd rfl z⟩⟩
  | x :: A, D0, hD => by
    by_cases h : most ≤ D0
    · rw [gres_spent h]
      exact ⟨Nat.le_refl _, hD, by show D0 ≤ D0 + _; omega, fun z => absurd (show (-1 : Int) = 0 from z) (by decide), Or.inr (Or.inr rfl), ⟨fun z => absurd (show (-1 : Int) = 1 from z) (by decide), fun z => absurd rfl z⟩⟩
    · by_cases hf : fo N m o x
      · rw [gres_found h hf]
        exact ⟨by show D0 ≤ D0 + 1; omega, by show D0 + 1 ≤ most; omega, by show D0 + 1 ≤ D0 + (A.length + 1); omega, fun z => absurd (show (1 : Int) = 0 from z) (by decide), Or.inr (Or.inl rfl), ⟨fun _ => by simp, fun _ => rfl⟩⟩
      · rw [gres_next h hf]
        obtain ⟨a, b, c, e, f, i⟩ := gres_bd N m o most A (D0 + 1) (by omega)
        refine ⟨by omega, b, by show _ ≤ D0 + (A.length + 1); omega, fun z => ?_, f, i⟩
        rw [e z]
        show D0 + 1 + A.length = D0 + (A.length + 1)
        omega
/-- what a row tells of a try -/
noncomputable def bitE (N : nN) (o : Nat → Nat) (x : eV) : Int := match cpL (nSetT N x.2) (x.2 (o x.1)).toNat 0 with
  | [] => 0
  | r :: _ => (bitR r.1 r.1.length : Nat)
def rowsM (h : mMem) (o : Nat → Nat) (N : nN) (D0 : Nat) (E : List eV) (D1 : Nat) : Prop := ∀ q x, E[q]? = some x → D0 + q < D1 → h 55 0 (3 * (D0 + q)) = (o x.1 : Nat) ∧ h 55 0 (3 * (D0 + q) + 1) = x.2 (o x.1) ∧ h 55 0 (3 * (D0 + q) + 2) = bitE N o x
theorem rowsM_app {h : mMem} {o : Nat → Nat} {N : nN} {D0 D1 : Nat} {A B : List eV} (h1 : rowsM h o N D0 A D1) (h2 : rowsM h o N (D0 + A.length) B D1) : rowsM h o N D0 (A ++ B) D1 := by
  intro q x hx hq
  by_cases z : q < A.length
  · rw [List.getElem?_append_left z] at hx
    exact h1 q x hx hq
  · rw [List.getElem?_append_right (by omega)] at hx
    have := h2 (q - A.length) x hx (by omega)
    rw [show D0 + A.length + (q - A.length) = D0 + q by omega] at this
    exact this
/-- the bare joins from the i-th on -/
def bareI (N : nN) (m : Nat) (o : Nat → Nat) (i : Nat) (T : bT) : Prop := ∀ k, k < js (nP N) → (T k = -1 ↔ ∃ a, i ≤ a ∧ a < m ∧ k = o a)
theorem bareI_0 {N : nN} : bareI N (opM N) (oN N) 0 (nT N) := by
  intro k hk
  constructor
  · intro z
    have hm : k ∈ opn N := lst_mem.mpr ⟨⟨Nat.zero_le _, by omega⟩, z⟩
    obtain ⟨a, ha, e⟩ := List.getElem_of_mem hm
    refine ⟨a, Nat.zero_le _, ha, ?_⟩
    unfold oN
    rw [List.getD_eq_getElem?_getD, List.getElem?_eq_getElem ha]
    exact e.symm
  · rintro ⟨a, -, ha, rfl⟩
    exact (oN_mem ha).2
theorem bareI_next {N : nN} {m : Nat} {o : Nat → Nat} (ho : opO N m o) {i : Nat} (hi : i < m) {T : bT} (h : bareI N m o i T) (c : Nat) : bareI N m o (i + 1) (tSet T (o i) (c : Int)) := by
  intro k hk
  show (if k = o i then ((c : Nat) : Int) else T k) = -1 ↔ _
  by_cases z : k = o i
  · rw [if_pos z]
    refine ⟨fun w => absurd w (by omega), ?_⟩
    rintro ⟨a, h1, h2, h3⟩
    have := ho.2.2 a i h2 hi (by rw [← h3, z])
    omega
  · rw [if_neg z, h k hk]
    constructor
    · rintro ⟨a, h1, h2, h3⟩
      exact ⟨a, by have : a ≠ i := fun w => z (by rw [h3, w]); omega, h2, h3⟩
    · rintro ⟨a, h1, h2, h3⟩
      exact ⟨a, by omega, h2, h3⟩
section FillFrom
variable {l : Launch} {g : mG} {d : Nat}
theorem c_M_nextBare (N : nN) (m : Nat) (o : Nat → Nat) (ho : opO N m o) (hmono : ∀ a b, a < b → b < m → o a < o b) (i : Nat) (T : bT) (oT : nOk (nSetT N T)) (hb : bareI N m o i T) (h : mMem) (e : isM h (nSetT N T)) : mCon l g n_M_nextBare (d + 1) [.inr (9, 0)] h (mIs (some (.inl (if i < m then ((o i : Nat) : Int) else -1))) h) := by
  have hP : nP N ≤ 12 := oT.1.2
  have h66 := js_le (nP N) (by omega)
  have e0 : h 9 0 0 = ((nP N : Nat) : Int) := e.1
  have loop : ∀ (n k : Nat), k + n = js (nP N) → (∀ q, q < k → T q ≠ -1) → mGo l g (mMt n_M_nextBare) (d + 1) 2 [some (.inr (9, 0)), some (.inl k)] [] h (mIs (some (.inl (if i < m then ((o i : Nat) : Int) else -1))) h) := by
    intro n
    induction n with
    | zero =>
      intro k hk hq
      refine mGo_wp h_M_nextBare 40 [2] ?_
      refine mCall_is (show mCon l g n_M_joinsOf d [.inl (h 9 0 0)] h _ from e0 ▸ c_M_joinsOf (nP N) (by omega) h) ?_
      refine ⟨fun _ => ⟨?_, rfl⟩, fun z => by omega⟩
      rw [if_neg]
      intro hi
      have h1 := ho.2.1 i hi
      exact hq (o i) (by omega) ((hb (o i) h1).mpr ⟨i, Nat.le_refl _, hi, rfl⟩)
    | succ n ih =>
      intro k hk hq
      refine mGo_wp h_M_nextBare 40 [2] ?_
      refine mCall_is (show mCon l g n_M_joinsOf d [.inl (h 9 0 0)] h _ from e0 ▸ c_M_joinsOf (nP N) (by omega) h) ?_
      have rk : h 42 0 (Int.toNat (k : Int)) = T k := by rw [Int.toNat_natCast]; exact e.2.2.2.2 k (by omega)
      have tb : -1 ≤ T k ∧ T k < nC N := oT.2.2.2.1 k (by omega)
      refine ⟨fun z => by omega, fun _ => ⟨⟨by omega, by omega⟩, ⟨fun z => ?_, fun z => ⟨?_, rfl⟩⟩⟩⟩
      · rw [rk] at z
        show mGo l g _ _ 2 [_, some (.inl (mWr ((k : Int) + 1)))] [] h _
        rw [mWr_of ⟨by omega, by omega⟩]
        refine ih (k + 1) (by omega) (fun q hq2 => ?_)
        by_cases w : q = k
        · rw [w]; omega
        · exact hq q (by omega)
      · rw [rk] at z
        obtain ⟨a, h1, h2, h3⟩ := (hb k (by omega)).mp (by omega)
        have hi : i < m := by omega
        rw [if_pos hi]
        by_cases w : a = i
        · rw [h3, w]
        · have h4 := hmono i a (by omega) h2
          have h5 := ho.2.1 i hi
          exact absurd ((hb (o i) h5).mpr ⟨i, Nat.le_refl _, hi, rfl⟩) (hq (o i) (by omega))
  refine e_M_nextBare (fun hv hm => ?_)
  refine mGo_wp h_M_nextBare 40 [2] ?_
  exact loop (js (nP N)) 0 (by omega) (fun q hq => absurd hq (Nat.not_lt_zero q))
theorem c_M_firstBits (r : List Nat) (hr : ∀ x ∈ r, x < 12) (hl : r.length ≤ 7) (h : mMem) (e1 : h 9 0 17 = r.length) (e2 : ∀ j, j < r.length → h 46 0 j = (r.getD j 0 : Nat)) : mCon l g n_M_firstBits d [.inr (9, 0)] h (mIs (some (.inl (bitR r r.length : Nat))) h) := by
  have loop : ∀ (n k : Nat), k + n = r.length → mGo l g (mMt n_M_firstBits) d 4 [some (.inr (9, 0)), some (.inl (bitR r k : Nat)), some (.inl k)] [] h (mIs (some (.inl (bitR r r.length : Nat))) h) := by
    intro n
    induction n with
    | zero =>
      intro k hk
      refine mGo_wp h_M_firstBits 40 [4] ?_
      have : k = r.length := by omega
      subst this
      exact ⟨fun _ => ⟨rfl, rfl⟩, fun z => by rw [e1] at z; omega⟩
    | succ n ih =>
      intro k hk
      refine mGo_wp h_M_firstBits 40 [4] ?_
      refine ⟨fun z => by rw [e1] at z; omega, fun _ => ⟨⟨by omega, by omega⟩, ?_⟩⟩
      have q := ih (k + 1) (by omega)
      have hb := bitR_lt r hr k (by omega)
      have hx := hr _ (getD_mem (r := r) (j := k) (by omega))
      have h2 : 2 ^ (r.getD k 0) < 2 ^ 12 := Nat.pow_lt_pow_right (by decide) hx
      show mGo l g _ _ 4 [_, some (.inl (mOr ((bitR r k : Nat) : Int) (mShl 1 (h 46 0 (Int.toNat (k : Int)))))), some (.inl (mWr ((k : Int) + 1)))] [] _ _
      rw [mWr_of ⟨by omega, by omega⟩, Int.toNat_natCast, e2 k (by omega), mShl_1 _ (by omega), mOr_nat (by omega) (by omega)]
      exact q
  refine e_M_firstBits (fun hv hm => ?_)
  refine mGo_wp h_M_firstBits 40 [4] ?_
  exact loop r.length 0 (by omega)
end FillFrom
