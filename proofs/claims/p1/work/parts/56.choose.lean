/-! choosing, masks, candidates in order -/
def bn : Nat → Nat → Nat
  | _, 0 => 1
  | 0, _ + 1 => 0
  | n + 1, k + 1 => bn n k + bn n (k + 1)
theorem bn_zero : ∀ n k, n < k → bn n k = 0
  | 0, k + 1, _ => rfl
  | n + 1, k + 1, h => by
    show bn n k + bn n (k + 1) = 0
    rw [bn_zero n k (by omega), bn_zero n (k + 1) (by omega)]
theorem chI_bn : ∀ f, f < 13 → ∀ s, s < 8 → chI ((f : Nat) : Int) s = (bn f s : Nat) := by decide +kernel
theorem chI_step : ∀ f, f < 13 → ∀ k, k < 8 → mDiv (mWr (chI ((f : Nat) : Int) k * mWr (((f : Nat) : Int) - ((k : Nat) : Int)))) (mWr (((k : Nat) : Int) + 1)) = chI ((f : Nat) : Int) (k + 1) := by decide +kernel
theorem bn_le : ∀ f, f < 13 → ∀ s, s < 8 → bn f s ≤ 1000 := by decide +kernel
section Choose
variable {l : Launch} {g : mG} {d : Nat}
theorem l_K_choose (f s : Nat) (hf : f < 13) (hs : s < 8) (h : mMem) : ∀ (n k : Nat), k + n = s → mGo l g (mMt n_K_choose) d 4 [some (.inl f), some (.inl s), some (.inl (chI f k)), some (.inl k)] [] h (mIs (some (.inl (bn f s : Nat))) h) := by
  intro n
  induction n with
  | zero =>
    intro k hk
    refine mGo_wp h_K_choose 40 [4] ?_
    refine ⟨fun _ => ⟨?_, rfl⟩, fun z => by omega⟩
    rw [← chI_bn f hf s hs, show k = s by omega]
  | succ n ih =>
    intro k hk
    refine mGo_wp h_K_choose 40 [4] ?_
    have q := ih (k + 1) (by omega)
    refine ⟨fun z => by omega, fun _ => ⟨?_, ?_⟩⟩
    · rw [mWr_of ⟨by omega, by omega⟩]
      omega
    · show mGo l g _ _ 4 [_, _, some (.inl (mDiv (mWr (chI (f : Int) k * mWr ((f : Int) - (k : Int)))) (mWr ((k : Int) + 1)))), some (.inl (mWr ((k : Int) + 1)))] [] _ _
      rw [chI_step f hf k (by omega), mWr_of ⟨by omega, by omega⟩]
      exact q
theorem c_K_choose (f s : Nat) (hf : f < 13) (hs : s < 8) (h : mMem) : mCon l g n_K_choose d [.inl f, .inl s] h (mIs (some (.inl (bn f s : Nat))) h) := by
  refine e_K_choose (fun hv hm => ?_)
  refine mGo_wp h_K_choose 40 [4] ?_
  exact l_K_choose f s hf hs h s 0 (by omega)
theorem c_K_above (p : Int) (h : mMem) : mCon l g n_K_above d [.inl p] h (mIs (some (.inl (mShl (-2) p))) h) := by
  refine e_K_above (fun hv hm => ?_)
  refine mGo_wp h_K_above 40 [] ?_
  exact ⟨rfl, rfl⟩
end Choose
theorem bit_far {x q : Nat} (hx : x < 4096) (hq : 12 ≤ q) : x.testBit q = false := Nat.testBit_lt_two_pow (Nat.lt_of_lt_of_le hx (Nat.pow_le_pow_right (n := 2) (by decide) hq))
theorem mAnd_bits (x : Nat) (hx : x < 4096) (y : Int) : ∃ z : Nat, mAnd (x : Int) y = (z : Int) ∧ z < 4096 ∧ ∀ q, z.testBit q = (x.testBit q && (Int32.ofInt y).toBitVec.getLsbD q) := by
  have hle : x &&& (Int32.ofInt y).toBitVec.toNat ≤ x := Nat.and_le_left
  refine ⟨x &&& (Int32.ofInt y).toBitVec.toNat, ?_, by omega, fun q => by rw [Nat.testBit_and]; rfl⟩
  unfold mAnd
  refine mBv_to (by omega) _ ?_
  show ((Int32.ofInt (x : Int)).toBitVec &&& (Int32.ofInt y).toBitVec).toNat = _
  rw [mBv, BitVec.toNat_and, BitVec.toNat_ofNat, Nat.mod_eq_of_lt (by omega)]
theorem above_bit : ∀ p, p < 12 → ∀ q, q < 12 → (Int32.ofInt (mShl (-2) ((p : Nat) : Int))).toBitVec.getLsbD q = decide (p < q) := by decide +kernel
theorem ones_bit : ∀ q, q < 12 → (Int32.ofInt (-1)).toBitVec.getLsbD q = true := by decide +kernel
theorem and_above {x p : Nat} (hx : x < 4096) (hp : p < 12) : ∃ z : Nat, mAnd (x : Int) (mShl (-2) (p : Int)) = (z : Int) ∧ z < 4096 ∧ ∀ q, z.testBit q = true ↔ (x.testBit q = true ∧ p < q) := by
  obtain ⟨z, h1, h2, h3⟩ := mAnd_bits x hx (mShl (-2) (p : Int))
  refine ⟨z, h1, h2, fun q => ?_⟩
  by_cases hq : q < 12
  · rw [h3 q, above_bit p hp q hq, Bool.and_eq_true, decide_eq_true_eq]
  · rw [bit_far h2 (by omega), bit_far hx (by omega)]
    simp
theorem and_not {x t : Nat} (hx : x < 4096) (ht : t < 4096) : ∃ z : Nat, mAnd (x : Int) (mXor (t : Int) (-1)) = (z : Int) ∧ z < 4096 ∧ ∀ q, z.testBit q = true ↔ (x.testBit q = true ∧ ¬ t.testBit q = true) := by
  obtain ⟨z, h1, h2, h3⟩ := mAnd_bits x hx (mXor (t : Int) (-1))
  refine ⟨z, h1, h2, fun q => ?_⟩
  by_cases hq : q < 12
  · rw [h3 q, Bool.and_eq_true]
    have e1 : (Int32.ofInt (mXor (t : Int) (-1))).toBitVec.getLsbD q = !t.testBit q := by
      unfold mXor
      rw [Int32.ofInt_toInt]
      show ((Int32.ofInt (t : Int)).toBitVec ^^^ (Int32.ofInt (-1)).toBitVec).getLsbD q = _
      rw [BitVec.getLsbD_xor, ones_bit q hq, mBv]
      have : (BitVec.ofNat 32 t).getLsbD q = t.testBit q := by
        rw [BitVec.getLsbD_ofNat]
        simp
        omega
      rw [this]
      cases t.testBit q <;> rfl
    rw [e1]
    simp
  · rw [bit_far h2 (by omega), bit_far hx (by omega)]
    simp
theorem and_and {x y : Nat} (hx : x < 4096) (hy : y < 4096) : ∃ z : Nat, mAnd (x : Int) (y : Int) = (z : Int) ∧ z < 4096 ∧ ∀ q, z.testBit q = true ↔ (x.testBit q = true ∧ y.testBit q = true) := by
  have hle : x &&& y ≤ x := Nat.and_le_left
  refine ⟨x &&& y, mAnd_nat (by omega) (by omega), by omega, fun q => ?_⟩
  rw [Nat.testBit_and, Bool.and_eq_true]
/-- the candidates from a point on, in order -/
noncomputable def lst (C : Nat → Prop) (lo m : Nat) : List Nat := (List.range' lo m).filter (fun q => qB (C q))
theorem lst_yes {C : Nat → Prop} {lo m : Nat} (h : C lo) : lst C lo (m + 1) = lo :: lst C (lo + 1) m := by
  unfold lst
  rw [List.range'_succ, List.filter_cons_of_pos (p := fun q => qB (C q)) (qB_t h)]
theorem lst_no {C : Nat → Prop} {lo m : Nat} (h : ¬ C lo) : lst C lo (m + 1) = lst C (lo + 1) m := by
  unfold lst
  rw [List.range'_succ, List.filter_cons_of_neg (p := fun q => qB (C q)) (qB_no h)]
theorem lst_app (C : Nat → Prop) (lo : Nat) : ∀ a b, lst C lo (a + b) = lst C lo a ++ lst C (lo + a) b := by
  intro a b
  unfold lst
  rw [← List.filter_append, List.range'_append_1]
theorem lst_mem {C : Nat → Prop} {lo m q : Nat} : q ∈ lst C lo m ↔ (lo ≤ q ∧ q < lo + m) ∧ C q := by
  unfold lst
  rw [List.mem_filter, List.mem_range'_1, qB_iff]
theorem cn_lst {f : Nat → Bool} : ∀ n, cn f n = (lst (fun q => f q = true) 0 n).length
  | 0 => rfl
  | n + 1 => by
    rw [lst_app _ 0 n 1, List.length_append, Nat.zero_add, ← cn_lst n]
    show cn f n + (if f n = true then 1 else 0) = _
    by_cases h : f n = true
    · rw [if_pos h, lst_yes h]
      rfl
    · rw [if_neg h, lst_no h]
      rfl
theorem cn_more {f : Nat → Bool} {n : Nat} : ∀ m, (∀ q, n ≤ q → f q = false) → cn f (n + m) = cn f n
  | 0, _ => rfl
  | m + 1, h => by
    show cn f (n + m) + (if f (n + m) = true then 1 else 0) = _
    rw [h (n + m) (by omega), if_neg (by decide), cn_more m h]
    rfl
theorem lst_congr {C D : Nat → Prop} (h : ∀ q, C q ↔ D q) (lo m : Nat) : lst C lo m = lst D lo m := by
  unfold lst
  refine congrArg (fun f => List.filter f (List.range' lo m)) (funext fun q => qB_congr (h q))
/-- the bits of the candidates, counted -/
theorem bc_lst {x n : Nat} {C : Nat → Prop} (hn : n ≤ 12) (h : ∀ q, x.testBit q = true ↔ C q) (hC : ∀ q, C q → q < n) : bc x = (lst C 0 n).length := by
  unfold bc
  have e1 := cn_more (f := fun q => x.testBit q) (n := n) (12 - n) (fun q hq => by
    cases hb : x.testBit q with
    | false => rfl
    | true =>
      have := hC q ((h q).mp hb)
      omega)
  rw [show n + (12 - n) = 12 by omega] at e1
  rw [e1, cn_lst]
  rw [lst_congr (D := C) (fun q => h q)]
/-- rows whose further points are any candidates, rising -/
def isFree (T : Nat → Int) (c : Int) (k L n : Nat) (r : List Nat) (C : Nat → Prop) (j : Nat) : Prop := ∀ s : List Nat, s.length < j → List.Pairwise (· < ·) s → (∀ x ∈ s, C x) → ∀ q, q < n → ((q ∉ r ++ s ∧ okP T c k L 0 0 (r ++ s) q) ↔ (C q ∧ ∀ x ∈ s, x < q))
theorem free_count {T : Nat → Int} {c : Int} {k L n : Nat} {r : List Nat} {C : Nat → Prop} {J : Nat} (F : isFree T c k L n r C J) : ∀ (j lo : Nat) (s es : List Nat), s.length + j = J → List.Pairwise (· < ·) s → (∀ x ∈ s, C x) → (∀ x ∈ s, x < lo) → (∀ q, lo ≤ q → ∀ x ∈ s, x < q) → (∀ q, q < lo → C q → ∃ x ∈ s, q ≤ x) → lo ≤ n → msN T c es = 0 →
    (takesF T c 0 k L n j (r ++ s) es).length = bn (lst C lo (n - lo)).length j ∧ (j ≤ (lst C lo (n - lo)).length → ∃ es' xs, takesF T c 0 k L n j (r ++ s) es = (r ++ s ++ (lst C lo (n - lo)).take j, es') :: xs) := by
  intro j
  induction j with
  | zero =>
    intro lo s es hJ hw hs h1 h2 h3 hlo ms
    rw [takesF_zero (by omega)]
    exact ⟨by cases (lst C lo (n - lo)).length <;> rfl, fun _ => ⟨es, [], by rw [List.take_zero, List.append_nil]⟩⟩
  | succ j ih =>
    intro lo s es hJ hw hs h1 h2 h3 hlo ms
    rw [takesF_succ]
    have skip : ∀ m, m ≤ lo → takesP T c 0 k L n j (r ++ s) es (lo - m) (m + (n - lo)) = takesP T c 0 k L n j (r ++ s) es lo (n - lo) := by
      intro m
      induction m with
      | zero => intro _; rw [Nat.zero_add, Nat.sub_zero]
      | succ m ihm =>
        intro hm
        rw [show m + 1 + (n - lo) = m + (n - lo) + 1 by omega, takesP_no, show lo - (m + 1) + 1 = lo - m by omega]
        · exact ihm (by omega)
        · rw [ms]
          intro z
          have w := (F s (by omega) hw hs (lo - (m + 1)) (by omega)).mp z
          obtain ⟨x, hx, hq⟩ := h3 (lo - (m + 1)) (by omega) w.1
          have := w.2 x hx
          omega
    have e0 := skip lo (Nat.le_refl _)
    rw [Nat.sub_self, show lo + (n - lo) = n by omega] at e0
    rw [e0]
    have run : ∀ m p, lo ≤ p → p + m = n → (takesP T c 0 k L n j (r ++ s) es p m).length = bn (lst C p m).length (j + 1) ∧ (j + 1 ≤ (lst C p m).length → ∃ es' xs, takesP T c 0 k L n j (r ++ s) es p m = (r ++ s ++ (lst C p m).take (j + 1), es') :: xs) := by
      intro m
      induction m with
      | zero =>
        intro p hp hm
        exact ⟨rfl, fun z => absurd z (by show ¬ j + 1 ≤ 0; omega)⟩
      | succ m ihm =>
        intro p hp hm
        have w := F s (by omega) hw hs p (by omega)
        by_cases hC : C p
        · have ok := w.mpr ⟨hC, h2 p hp⟩
          have ok' : p ∉ r ++ s ∧ okP T c k L 0 (msN T c es) (r ++ s) p := by rw [ms]; exact ok
          rw [takesP_yes ok', lst_yes hC]
          have ms2 : msN T c (es ++ newE k L (r ++ s) p) = 0 := by
            have := ok.2.2
            rw [msN_app, ms]
            omega
          have hmem : ∀ x ∈ s ++ [p], x ∈ s ∨ x = p := fun x hx => by
            rcases List.mem_append.mp hx with y | y
            · exact Or.inl y
            · exact Or.inr (List.mem_singleton.mp y)
          obtain ⟨q1, q2⟩ := ih (p + 1) (s ++ [p]) (es ++ newE k L (r ++ s) p) (by rw [List.length_append]; show s.length + 1 + j = J; omega)
            (List.pairwise_append.mpr ⟨hw, by simp, fun a ha b hb => by rw [List.mem_singleton.mp hb]; exact Nat.lt_of_lt_of_le (h1 a ha) hp⟩) (fun x hx => (hmem x hx).elim (hs x) (fun y => y ▸ hC)) (fun x hx => (hmem x hx).elim (fun y => by have := h1 x y; omega) (fun y => by omega)) (fun q hq x hx => (hmem x hx).elim (fun y => by have := h1 x y; omega) (fun y => by omega))
            (fun q hq _ => ⟨p, List.mem_append_right _ (by simp), by omega⟩) (by omega) ms2
          obtain ⟨i1, i2⟩ := ihm (p + 1) (by omega) (by omega)
          rw [← List.append_assoc, show n - (p + 1) = m by omega] at q1 q2
          refine ⟨?_, fun z => ?_⟩
          · rw [List.length_append, q1, i1]
            rfl
          · have z : j + 1 ≤ (lst C (p + 1) m).length + 1 := z
            obtain ⟨es', xs, e1⟩ := q2 (by omega)
            refine ⟨es', xs ++ takesP T c 0 k L n j (r ++ s) es (p + 1) m, ?_⟩
            rw [e1]
            show (r ++ s ++ [p] ++ (lst C (p + 1) m).take j, es') :: _ = (r ++ s ++ (p :: (lst C (p + 1) m).take j), es') :: _
            rw [List.append_assoc (r ++ s) [p]]
            rfl
        · have no : ¬ (p ∉ r ++ s ∧ okP T c k L 0 (msN T c es) (r ++ s) p) := by
            rw [ms]
            exact fun z => hC (w.mp z).1
          rw [takesP_no no, lst_no hC]
          exact ihm (p + 1) (by omega) (by omega)
    exact run (n - lo) lo (Nat.le_refl _) (by omega)
