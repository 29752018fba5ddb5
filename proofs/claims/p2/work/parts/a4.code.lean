/-! the model's codeBy -/
/-- the digits from k on, m of them, the last one the highest -/
def hV (C : Nat) (v : Nat → Int) : Nat → Nat → Int
  | 0, _ => 0
  | m + 1, k => hV C v m (k + 1) * C + v k
theorem hV_bd {C : Nat} {v : Nat → Int} : ∀ (m k : Nat), (∀ i, k ≤ i → i < k + m → 0 ≤ v i ∧ v i < C) → 0 ≤ hV C v m k ∧ hV C v m k < ((C ^ m : Nat) : Int)
  | 0, k, _ => ⟨Int.le_refl 0, by show (0 : Int) < ((C ^ 0 : Nat) : Int); rw [Nat.pow_zero]; decide⟩
  | m + 1, k, hv => by
    have ih := hV_bd m (k + 1) (fun i a b => hv i (by omega) (by omega))
    have h1 := hv k (Nat.le_refl _) (by omega)
    have hC : (0 : Int) ≤ C := by omega
    have h2 : 0 ≤ hV C v m (k + 1) * C := Int.mul_nonneg ih.1 hC
    have h3 : hV C v m (k + 1) * C ≤ (((C ^ m : Nat) : Int) - 1) * C := Int.mul_le_mul_of_nonneg_right (by omega) hC
    have h4 : (((C ^ m : Nat) : Int) - 1) * C = ((C ^ (m + 1) : Nat) : Int) - C := by
      rw [Int.sub_mul, Int.one_mul, Nat.pow_succ, Int.natCast_mul]
    show 0 ≤ hV C v m (k + 1) * C + v k ∧ hV C v m (k + 1) * C + v k < _
    omega
def vec (T : bT) (s : List Nat) (k : Nat) : Int := tF T s (jlo k) (jhi k)
theorem js_next : ∀ b, b < 12 → js (b + 1) = js b + b := by decide +kernel
section Code
variable {l : Launch} {g : mG} {d : Nat}
theorem c_M_codeBy (T : bT) (C n : Nat) (hC : 2 ≤ C ∧ C ≤ 3) (hn : 1 ≤ n ∧ n ≤ 12) (hb : C ^ js n ≤ 60000) (s : List Nat) (o : numO n s) (hl : s.length = n) (hv : ∀ k, k < js n → 0 ≤ vec T s k ∧ vec T s k < C) (h : mMem) (e0 : h 9 0 0 = n) (e1 : h 9 0 1 = C) (e : mSm h T s) : mCon l g n_M_codeBy (d + 1) [.inr (9, 0)] h (mIs (some (.inl (hV C (vec T s) (js n) 0))) h) := by
  have bd : ∀ m k, k + m ≤ js n → 0 ≤ hV C (vec T s) m k ∧ hV C (vec T s) m k < 60000 := fun m k hm => by
    have h1 := hV_bd m k (fun i a b => hv i (by omega))
    have h2 : C ^ m ≤ C ^ js n := Nat.pow_le_pow_right (by omega) (by omega)
    omega
  have inner : ∀ (b : Nat) (hb1 : 1 ≤ b) (hbn : b < n) (hjb : js b + b ≤ js n), (∀ (x3 : Option mRV), mGo l g (mMt n_M_codeBy) (d + 1) 56 [some (.inr (9, 0)), some (.inl (hV C (vec T s) (js n - js b) (js b))), some (.inl b), x3] [] h (mIs (some (.inl (hV C (vec T s) (js n) 0))) h)) → ∀ (a : Nat), a ≤ b →
      mGo l g (mMt n_M_codeBy) (d + 1) 18 [some (.inr (9, 0)), some (.inl (hV C (vec T s) (js n - (js b + a)) (js b + a))), some (.inl b), some (.inl ((a : Int) - 1))] [] h (mIs (some (.inl (hV C (vec T s) (js n) 0))) h) := by
    intro b hb1 hbn hjb next a
    induction a with
    | zero =>
      intro _
      refine mGo_wp h_M_codeBy 80 [18, 56] ?_
      exact ⟨fun _ => next _, fun z => by omega⟩
    | succ a ih =>
      intro ha
      have h1 := o.2 _ (getD_mem (r := s) (j := a) (by omega))
      have h2 := o.2 _ (getD_mem (r := s) (j := b) (by omega))
      have ta : (((a + 1 : Nat) : Int) - 1).toNat = a := by omega
      have ra : h 52 0 (((a + 1 : Nat) : Int) - 1).toNat = (s.getD a 0 : Nat) := by rw [ta, e.2 a (by omega)]
      have rb : h 52 0 ((b : Int)).toNat = (s.getD b 0 : Nat) := by rw [Int.toNat_natCast, e.2 b (by omega)]
      have hj := jn_lt _ (show s.getD a 0 < 12 by omega) _ (show s.getD b 0 < 12 by omega) (nodup_ne o.1 (by omega) (by omega) (by omega))
      obtain ⟨j1, j2⟩ := jlo_js b (by omega) a (by omega)
      have rT : h 42 0 (Int.toNat ((jn (s.getD a 0) (s.getD b 0) : Nat) : Int)) = vec T s (js b + a) := by
        rw [Int.toNat_natCast, e.1 _ hj]
        unfold vec
        rw [j1, j2]
        rfl
      have b1 := bd (js n - (js b + (a + 1))) (js b + (a + 1)) (by omega)
      have b2 := bd (js n - (js b + a)) (js b + a) (by omega)
      have hs : hV C (vec T s) (js n - (js b + a)) (js b + a) = hV C (vec T s) (js n - (js b + (a + 1))) (js b + (a + 1)) * C + vec T s (js b + a) := by
        obtain ⟨m, hm⟩ : ∃ m, js n - (js b + a) = m + 1 := ⟨js n - (js b + a) - 1, by omega⟩
        rw [hm, show js n - (js b + (a + 1)) = m by omega]
        rfl
      have hm3 : 0 ≤ hV C (vec T s) (js n - (js b + (a + 1))) (js b + (a + 1)) * C := Int.mul_nonneg b1.1 (by omega)
      have hvk := hv (js b + a) (by omega)
      refine mGo_wp h_M_codeBy 80 [18, 56] ?_
      refine ⟨fun z => by omega, fun _ => ⟨⟨by omega, by omega⟩, ⟨by omega, by omega⟩, ?_⟩⟩
      refine mCall_is (show mCon l g n_M_join d [.inl (h 52 0 (((a + 1 : Nat) : Int) - 1).toNat), .inl (h 52 0 ((b : Int)).toNat)] h (mIs (some (.inl (jn (s.getD a 0) (s.getD b 0) : Nat))) h) by rw [ra, rb]; exact c_M_join _ _ (by omega) (by omega) h) ?_
      refine ⟨⟨by omega, by omega⟩, ?_⟩
      show mGo l g _ _ 18 [_, some (.inl (mWr (mWr (hV C (vec T s) (js n - (js b + (a + 1))) (js b + (a + 1)) * h 9 0 1) + h 42 0 (Int.toNat ((jn (s.getD a 0) (s.getD b 0) : Nat) : Int))))), _, some (.inl (mWr ((((a + 1 : Nat) : Int) - 1) + -1)))] [] _ _
      have w0 : mWr (hV C (vec T s) (js n - (js b + (a + 1))) (js b + (a + 1)) * C) = hV C (vec T s) (js n - (js b + (a + 1))) (js b + (a + 1)) * C := mWr_of ⟨by omega, by omega⟩
      have w1 : mWr (hV C (vec T s) (js n - (js b + (a + 1))) (js b + (a + 1)) * C + vec T s (js b + a)) = hV C (vec T s) (js n - (js b + (a + 1))) (js b + (a + 1)) * C + vec T s (js b + a) := mWr_of ⟨by omega, by omega⟩
      have w2 : mWr ((((a + 1 : Nat) : Int) - 1) + -1) = (((a + 1 : Nat) : Int) - 1) + -1 := mWr_of ⟨by omega, by omega⟩
      rw [rT, e1, w0, w1, w2, ← hs, show (((a + 1 : Nat) : Int) - 1) + -1 = (a : Int) - 1 by omega]
      exact ih (by omega)
  have outer : ∀ (b : Nat) (x3 : Option mRV), b < n → mGo l g (mMt n_M_codeBy) (d + 1) 9 [some (.inr (9, 0)), some (.inl (hV C (vec T s) (js n - js (b + 1)) (js (b + 1)))), some (.inl b), x3] [] h (mIs (some (.inl (hV C (vec T s) (js n) 0))) h) := by
    intro b
    induction b with
    | zero =>
      intro x3 hb
      refine mGo_wp h_M_codeBy 80 [9] ?_
      exact ⟨fun _ => ⟨rfl, rfl⟩, fun z => by omega⟩
    | succ b ih =>
      intro x3 hb
      have hle : js (b + 1 + 1) ≤ js n := Nat.div_le_div_right (Nat.mul_le_mul (by omega) (by omega))
      have hnx := js_next (b + 1) (by omega)
      refine mGo_wp h_M_codeBy 80 [9, 18] ?_
      refine ⟨fun z => by omega, fun _ => ?_⟩
      show mGo l g _ _ 18 [_, _, _, some (.inl (mWr (((b + 1 : Nat) : Int) - 1)))] [] _ _
      rw [mWr_of ⟨by omega, by omega⟩, hnx]
      refine inner (b + 1) (by omega) hb (by omega) (fun y3 => ?_) (b + 1) (Nat.le_refl _)
      refine mGo_wp h_M_codeBy 80 [9] ?_
      show mGo l g _ _ 9 [_, _, some (.inl (mWr (((b + 1 : Nat) : Int) + -1))), _] [] _ _
      rw [mWr_of ⟨by omega, by omega⟩, show ((b + 1 : Nat) : Int) + -1 = (b : Nat) by omega]
      exact ih y3 (by omega)
  refine e_M_codeBy (fun hv' hm => ?_)
  refine mGo_wp h_M_codeBy 80 [9] ?_
  have q := outer (n - 1) none (by omega)
  rw [show n - 1 + 1 = n by omega, Nat.sub_self] at q
  show mGo l g _ _ 9 [_, some (.inl 0), some (.inl (mWr (h 9 0 0 - 1))), _] [] _ _
  rw [e0, mWr_of ⟨by omega, by omega⟩, show (n : Int) - 1 = ((n - 1 : Nat) : Int) by omega]
  exact q
end Code
