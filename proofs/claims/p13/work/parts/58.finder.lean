theorem len_two : ∀ {r : List Nat}, r.length = 2 → ∃ a b, r = [a, b]
  | [a, b], _ => ⟨a, b, rfl⟩
theorem free_of {T : Nat → Int} {c : Int} {k L n : Nat} {r : List Nat} (hk : kOk k L) (hr : r.length = frK k L) : isFree T c k L n r (cdP T c k L n r) (L - r.length) := by
  intro s hs hw hC q hq
  cases s with
  | nil =>
    rw [List.append_nil]
    exact ⟨fun z => ⟨⟨hq, z⟩, fun x hx => (List.not_mem_nil hx).elim⟩, fun z => z.1.2⟩
  | cons x s =>
    have hs : s.length + 1 < L - r.length := hs
    rcases hk with ⟨rfl, h1, h2⟩ | ⟨rfl, h1, h2⟩ | ⟨rfl, h1, h2⟩ | ⟨rfl, h1, h2⟩ | ⟨rfl, h1, h2⟩
    · have hr : r.length = L - 1 := hr
      omega
    · have hr : r.length = L - 1 := hr
      omega
    · obtain ⟨m, rfl⟩ := List.length_eq_one_iff.mp (show r.length = 1 from hr)
      rw [cd_star, ends_lt hw]
      constructor
      · rintro ⟨g1, g2⟩
        obtain ⟨g3, g4⟩ := ok0.mp g2
        refine ⟨⟨hq, fun z => g1 (by simp [z]), g4 _ ?_⟩, Or.inr ?_⟩
        · show jn m q ∈ (if s.length + 1 + 1 = 0 then [] else [jn m q])
          rw [if_neg (by omega)]
          simp
        · have g3 : s.length + 1 + 1 = 0 ∨ s.length + 1 + 1 = 1 ∨ (x :: s).getD s.length 0 < q := g3
          show (x :: s).getD s.length 0 < q
          omega
      · rintro ⟨⟨g1, g2, g3⟩, g4⟩
        have g4 : s.length + 1 = 0 ∨ (x :: s).getD s.length 0 < q := g4
        have g5 := (ends_lt (q := q) hw).mpr g4
        refine ⟨fun z => ?_, ok0.mpr ⟨Or.inr (Or.inr ?_), fun e he => ?_⟩⟩
        · rcases List.mem_cons.mp z with y | y
          · exact g2 y
          · have := g5 q y; omega
        · show (x :: s).getD s.length 0 < q
          omega
        · have he : e ∈ (if s.length + 1 + 1 = 0 then [] else [jn m q]) := he
          rw [if_neg (by omega)] at he
          rw [List.mem_singleton.mp he]
          exact g3
    · obtain ⟨a, b, rfl⟩ := len_two (show r.length = 2 from hr)
      rw [cd_book1, ends_lt hw]
      constructor
      · rintro ⟨g1, g2⟩
        obtain ⟨g3, g4⟩ := ok0.mp g2
        have g4 : ∀ e ∈ (if s.length + 1 + 1 + 1 = 0 then [] else if s.length + 1 + 1 + 1 = 1 then [jn a q] else [jn a q, jn b q]), T e = c := g4
        rw [if_neg (by omega), if_neg (by omega)] at g4
        refine ⟨⟨⟨hq, fun z => g1 (by simp [z]), g4 _ (by simp)⟩, fun z => g1 (by simp [z]), g4 _ (by simp)⟩, Or.inr ?_⟩
        have g3 : s.length + 1 + 1 + 1 = 0 ∨ (s.length + 1 + 1 + 1 = 1 ∧ a < q) ∨ s.length + 1 + 1 + 1 = 2 ∨ (2 < s.length + 1 + 1 + 1 ∧ (x :: s).getD s.length 0 < q) := g3
        show (x :: s).getD s.length 0 < q
        omega
      · rintro ⟨⟨⟨g1, g2, g3⟩, g6, g7⟩, g4⟩
        have g4 : s.length + 1 = 0 ∨ (x :: s).getD s.length 0 < q := g4
        have g5 := (ends_lt (q := q) hw).mpr g4
        refine ⟨fun z => ?_, ok0.mpr ⟨Or.inr (Or.inr (Or.inr ?_)), fun e he => ?_⟩⟩
        · rcases List.mem_cons.mp z with y | y
          · exact g6 y
          · rcases List.mem_cons.mp y with y | y
            · exact g2 y
            · have := g5 q y; omega
        · show 2 < s.length + 1 + 1 + 1 ∧ (x :: s).getD s.length 0 < q
          omega
        · have he : e ∈ (if s.length + 1 + 1 + 1 = 0 then [] else if s.length + 1 + 1 + 1 = 1 then [jn a q] else [jn a q, jn b q]) := he
          rw [if_neg (by omega), if_neg (by omega)] at he
          rcases List.mem_cons.mp he with rfl | y
          · exact g7
          · rw [List.mem_singleton.mp y]
            exact g3
    · have hr : r.length = L - 1 := hr
      omega
theorem jn_ge : ∀ n, n < 13 → ∀ a, a < 12 → ∀ q, q < 12 → a ≠ q → n ≤ q → js n ≤ jn a q := by decide +kernel
/-- joins of points that are not there are bare -/
def farB (T : Nat → Int) (n : Nat) : Prop := ∀ k, js n ≤ k → k < 66 → T k = -1
theorem farB_lt {T : Nat → Int} {n c : Nat} (hn : n ≤ 12) (f : farB T n) {a q : Nat} (ha : a < 12) (hq : q < 12) (h : a ≠ q) (e : T (jn a q) = (c : Nat)) : q < n := by
  by_cases z : q < n
  · exact z
  · have := f _ (jn_ge n (by omega) a ha q hq h (by omega)) (jn_lt a ha q hq h)
    omega
def fSt (h : mMem) (T : Nat → Int) (c k L n : Nat) : Prop := h 1 0 1 = L ∧ h 1 0 2 = k ∧ h 1 0 3 = n ∧ ∀ q, q < 12 → h 25 0 q = nr T c q
def rowF (h : mMem) (r : List Nat) : Prop := ∀ j, j < r.length → h 24 0 j = (r.getD j 0 : Nat)
def farF (h h' : mMem) : Prop := ∀ (t : Nat) (i : Fin 8) (k : Nat), ¬ (t = 1 ∨ t = 24 ∨ t = 25) → h' t i k = h t i k
theorem farF.rf {h : mMem} : farF h h := fun _ _ _ _ => rfl
theorem farF.tr {h h1 h2 : mMem} (a : farF h h1) (b : farF h1 h2) : farF h h2 := fun t i k z => (b t i k z).trans (a t i k z)
theorem isC_farF {h h' : mMem} {i : Fin 8} {N : nN} (e : isC h i N) (f : farF h h') : isC h' i N := isC_eq e (fun t k ht => f t i k (by omega))
theorem tab102 {k s : Int} (h : szOk k s) : s + (mTab 102).getD k.toNat 0 = lenOf k s := by
  unfold lenOf
  rcases h with ⟨rfl, h1⟩ | ⟨rfl, h1, h2⟩ | ⟨rfl, h1, h2⟩ | ⟨rfl, h1, h2⟩ | ⟨rfl, h1, h2⟩ | ⟨rfl, h1, h2⟩
  · show s + 0 = _
    rw [if_neg (by decide), if_neg (by decide)]; omega
  · show s + 0 = _
    rw [if_neg (by decide), if_neg (by decide)]; omega
  · show s + 0 = _
    rw [if_neg (by decide), if_neg (by decide)]; omega
  · show s + 1 = _
    rw [if_pos rfl]
  · show s + 2 = _
    rw [if_neg (by decide), if_pos rfl]
  · show s + 0 = _
    rw [if_neg (by decide), if_neg (by decide)]; omega
section Finder
variable {l : Launch} {g : mG} {d : Nat}
theorem c_Net_copyLength (i : Fin 8) (c : Nat) (hc : c < 3) (N : nN) (hsz : szOk (nK N c) (nS N c)) (h : mMem) (e : isC h i N) : mCon l g n_Net_copyLength d [.inr (4, i), .inl c] h (mIs (some (.inl (lenOf (nK N c) (nS N c)))) h) := by
  refine e_Net_copyLength (fun hv hm => ?_)
  refine mGo_wp h_Net_copyLength 40 [] ?_
  have t : ((c : Int)).toNat = c := Int.toNat_natCast c
  have ek := e.2.2.1 c hc
  have es := e.2.2.2.1 c hc
  have hb : 0 ≤ nK N c ∧ nK N c ≤ 5 ∧ 0 ≤ lenOf (nK N c) (nS N c) ∧ lenOf (nK N c) (nS N c) ≤ 100 := by
    unfold lenOf
    rcases hsz with h | h | h | h | h | h <;> (split <;> first | omega | (split <;> omega))
  refine ⟨⟨by omega, by omega⟩, ⟨by omega, by omega⟩, ⟨by rw [t, ek]; omega, by rw [t, ek]; omega⟩, ?_, rfl⟩
  rw [t, ek, es, tab102 hsz, mWr_of ⟨by omega, by omega⟩]
theorem c_Net_copyNears (i : Fin 8) (c t : Nat) (hc : c < 3) (ht : t = 25 ∨ t = 26) (h : mMem) : mCon l g n_Net_copyNears (d + 1) [.inr (4, i), .inl c, .inr (t, 0)] h (mIs none (mCpy h (23, i) (t, 0) (c * 12) 0 12)) := by
  refine e_Net_copyNears (fun hv hm => ?_)
  refine mGo_wp h_Net_copyNears 40 [] ?_
  have w : mWr ((c : Int) * 12) = ((c * 12 : Nat) : Int) := by rw [mWr_of ⟨by omega, by omega⟩]; omega
  rcases ht with rfl | rfl
  · refine ⟨⟨by rw [w]; omega, by decide, by decide, by rw [w]; omega, by decide⟩, rfl, ?_⟩
    rw [w]
    rfl
  · refine ⟨⟨by rw [w]; omega, by decide, by decide, by rw [w]; omega, by decide⟩, rfl, ?_⟩
    rw [w]
    rfl
theorem c_Finder_lookAt (i : Fin 8) (c : Nat) (hc : c < 3) (N : nN) (hsz : szOk (nK N c) (nS N c)) (h : mMem) (e : isC h i N) : mCon l g n_Finder_lookAt (d + 2) [.inr (1, 0), .inr (4, i), .inl c] h (fun v h' => v = none ∧ h' 1 0 1 = lenOf (nK N c) (nS N c) ∧ h' 1 0 2 = nK N c ∧ h' 1 0 3 = nP N ∧ (∀ q, q < 12 → h' 25 0 q = nr (nT N) c q) ∧ farF h h') := by
  refine e_Finder_lookAt (fun hv hm => ?_)
  refine mGo_wp h_Finder_lookAt 40 [] ?_
  have t : ((c : Int)).toNat = c := Int.toNat_natCast c
  have ek := e.2.2.1 c hc
  refine ⟨⟨by omega, by omega⟩, ?_⟩
  have e1 : isC (mSet h 1 0 2 (h 20 i ((c : Int)).toNat)) i N := isC_eq e (fun t k ht => mSet_no (fun z => by omega))
  refine mCall_is (c_Net_copyLength i c hc N hsz _ e1) ?_
  refine mCall_is (c_Net_copyNears i c 25 hc (Or.inl rfl) _) ?_
  refine ⟨rfl, ?_, ?_, ?_, fun q hq => ?_, fun t i k z => ?_⟩
  · show (if _ then _ else _) = _
    rw [if_neg (by decide), mSet_no (by simp), mSet_at]
  · show (if _ then _ else _) = _
    rw [if_neg (by decide), mSet_no (by simp), mSet_no (by simp), mSet_at, t, ek]
  · show (if _ then _ else _) = _
    rw [if_neg (by decide), mSet_at, mSet_no (by simp), mSet_no (by simp), e.1]
  · show (if _ then _ else _) = _
    rw [if_pos ⟨rfl, rfl, by omega, by omega⟩, mSet_no (by simp), mSet_no (by simp), mSet_no (by simp)]
    exact e.2.2.2.2.2 c hc q hq
  · show (if _ then _ else _) = _
    rw [if_neg (fun w => z (Or.inr (Or.inr w.1))), mSet_no (fun w => z (Or.inl w.1)), mSet_no (fun w => z (Or.inl w.1)), mSet_no (fun w => z (Or.inl w.1))]
theorem c_Finder_isRestFree (x : Int) (k L : Nat) (hL : 1 ≤ L ∧ L ≤ 10) (h : mMem) (e1 : h 1 0 1 = L) (e2 : h 1 0 2 = k) : mCon l g n_Finder_isRestFree d [.inr (1, 0), .inl x] h (mIs (some (.inl (mB ((L : Int) - 1 ≤ x ∨ (k = 3 ∧ 1 ≤ x) ∨ (k = 4 ∧ 2 ≤ x))))) h) := by
  refine e_Finder_isRestFree (fun hv hm => ?_)
  refine mGo_wp h_Finder_isRestFree 60 [] ?_
  have w : mWr (h 1 0 1 - 1) = (L : Int) - 1 := by rw [e1, mWr_of ⟨by omega, by omega⟩]
  refine ⟨fun z => ⟨Or.inr rfl, by rw [mB_t (by omega)], rfl⟩, fun z => ⟨fun z2 => ⟨fun z3 => ⟨Or.inl rfl, by rw [mB_f (by omega)], rfl⟩, fun z3 => ⟨fun z4 => ⟨Or.inl rfl, by rw [mB_f (by omega)], rfl⟩, fun z4 => ⟨Or.inr rfl, by rw [mB_t (by omega)], rfl⟩⟩⟩, fun z2 => ⟨fun z3 => ⟨Or.inr rfl, by rw [mB_t (by omega)], rfl⟩, fun z3 => ⟨fun z4 => ⟨Or.inl rfl, by rw [mB_f (by omega)], rfl⟩, fun z4 => ⟨fun z5 => ⟨Or.inl rfl, by rw [mB_f (by omega)], rfl⟩, fun z5 => ⟨Or.inr rfl, by rw [mB_t (by omega)], rfl⟩⟩⟩⟩⟩⟩
theorem c_Net_pointBits (i : Fin 8) (n : Nat) (hn : n ≤ 12) (h : mMem) (e : h 4 i 0 = n) : mCon l g n_Net_pointBits d [.inr (4, i)] h (mIs (some (.inl ((2 ^ n - 1 : Nat) : Int))) h) := by
  refine e_Net_pointBits (fun hv hm => ?_)
  refine mGo_wp h_Net_pointBits 40 [] ?_
  have hp : 2 ^ n ≤ 2 ^ 12 := Nat.pow_le_pow_right (by decide) hn
  have h1 : 1 ≤ 2 ^ n := Nat.one_le_two_pow
  refine ⟨?_, rfl⟩
  rw [e, mShl_1 n (by omega), mWr_of ⟨by omega, by omega⟩, Int.natCast_sub h1]
  rfl
end Finder
