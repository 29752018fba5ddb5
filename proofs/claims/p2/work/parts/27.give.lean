section Give
variable {l : Launch} {g : mG} {d : Nat}
def mFlp (h : mMem) (i : Fin 8) (k c A B : Nat) : mMem := mSet (mSet h 23 i (c * 12 + jlo k) ((A ^^^ 2 ^ jhi k : Nat) : Int)) 23 i (c * 12 + jhi k) ((B ^^^ 2 ^ jlo k : Nat) : Int)
theorem c_Net_flip (i : Fin 8) (k c A B : Nat) (hk : k < 66) (hc : c < 3) (hA : A < 4096) (hB : B < 4096) (h : mMem) (eA : h 23 i (c * 12 + jlo k) = A) (eB : h 23 i (c * 12 + jhi k) = B) : mCon l g n_Net_flip d [.inr (4, i), .inl k, .inl c] h (mIs none (mFlp h i k c A B)) := by
  obtain ⟨t1, t2, h3, h4, h5⟩ := jlo_tab k hk
  refine e_Net_flip (fun hv hm => ?_)
  refine mGo_wp h_Net_flip 60 [] ?_
  have tk : ((k : Int)).toNat = k := Int.toNat_natCast k
  have w0 : mWr ((c : Int) * 12) = ((c * 12 : Nat) : Int) := by rw [mWr_of ⟨by omega, by omega⟩]; omega
  have w1 : mWr (mWr ((c : Int) * 12) + (mTab 103).getD ((k : Int)).toNat 0) = ((c * 12 + jlo k : Nat) : Int) := by
    rw [w0, tk, t1, mWr_of ⟨by omega, by omega⟩]; omega
  have w2 : mWr (mWr ((c : Int) * 12) + (mTab 104).getD ((k : Int)).toNat 0) = ((c * 12 + jhi k : Nat) : Int) := by
    rw [w0, tk, t2, mWr_of ⟨by omega, by omega⟩]; omega
  refine ⟨⟨by omega, by omega⟩, ⟨by rw [w1]; omega, by rw [w1]; omega⟩, ⟨by omega, by omega⟩, ⟨by rw [w1]; omega, by rw [w1]; omega⟩, ⟨by omega, by omega⟩, ⟨by rw [w2]; omega, by rw [w2]; omega⟩, ⟨by omega, by omega⟩, ⟨by rw [w2]; omega, by rw [w2]; omega⟩, rfl, ?_⟩
  show mSet (mSet h 23 i (Int.toNat (mWr (mWr ((c : Int) * 12) + (mTab 103).getD ((k : Int)).toNat 0))) (mXor (h 23 i (Int.toNat (mWr (mWr ((c : Int) * 12) + (mTab 103).getD ((k : Int)).toNat 0)))) (mShl 1 ((mTab 104).getD ((k : Int)).toNat 0)))) 23 i (Int.toNat (mWr (mWr ((c : Int) * 12) + (mTab 104).getD ((k : Int)).toNat 0))) (mXor (mSet h 23 i (Int.toNat (mWr (mWr ((c : Int) * 12) + (mTab 103).getD ((k : Int)).toNat 0))) (mXor (h 23 i (Int.toNat (mWr (mWr ((c : Int) * 12) + (mTab 103).getD ((k : Int)).toNat 0)))) (mShl 1 ((mTab 104).getD ((k : Int)).toNat 0))) 23 i (Int.toNat (mWr (mWr ((c : Int) * 12) + (mTab 104).getD ((k : Int)).toNat 0)))) (mShl 1 ((mTab 103).getD ((k : Int)).toNat 0))) = _
  have p1 : 2 ^ jhi k < 4096 := Nat.pow_lt_pow_right (by decide) h4
  have p2 : 2 ^ jlo k < 4096 := Nat.pow_lt_pow_right (by decide) (show jlo k < 12 by omega)
  rw [w1, w2, tk, t1, t2, Int.toNat_natCast, Int.toNat_natCast, mSet_no (t' := 23) (t := 23) (k' := c * 12 + jhi k) (k := c * 12 + jlo k) (fun z => absurd z.2.2 (by omega)), eA, eB, mShl_1 _ (by omega), mShl_1 _ (by omega), mXor_nat (by omega) (by omega), mXor_nat (by omega) (by omega)]
  rfl
/-- a net of which the nears are told apart from the tones -/
def isNr (h : mMem) (i : Fin 8) (T : Nat → Int) : Prop := ∀ c, c < 3 → ∀ q, q < 12 → h 23 i (c * 12 + q) = nr T c q
theorem isNr_in {h : mMem} {i : Fin 8} {T : Nat → Int} {k c : Nat} (hk : k < 66) (hc : c < 3) (e : isNr h i (tSet T k (-1))) : isNr (mFlp h i k c (nr (tSet T k (-1)) c (jlo k)) (nr (tSet T k (-1)) c (jhi k))) i (tSet T k c) := by
  obtain ⟨-, -, h3, h4, -⟩ := jlo_tab k hk
  intro c' hc' q hq
  unfold mFlp
  by_cases h1 : c' = c ∧ q = jhi k
  · obtain ⟨rfl, rfl⟩ := h1
    rw [mSet_at, nr_flip_hi T k _ hk]
  · rw [mSet_no (fun z => h1 (by omega))]
    by_cases h2 : c' = c ∧ q = jlo k
    · obtain ⟨rfl, rfl⟩ := h2
      rw [mSet_at, nr_flip_lo T k _ hk]
    · rw [mSet_no (fun z => h2 (by omega)), e c' hc' q hq, nr_flip_no T k c c' q hk hq (by omega)]
theorem isNr_out {h : mMem} {i : Fin 8} {T : Nat → Int} {k c : Nat} (hk : k < 66) (hc : c < 3) (e : isNr h i (tSet T k c)) : isNr (mFlp h i k c (nr (tSet T k c) c (jlo k)) (nr (tSet T k c) c (jhi k))) i (tSet T k (-1)) := by
  obtain ⟨-, -, h3, h4, -⟩ := jlo_tab k hk
  intro c' hc' q hq
  unfold mFlp
  by_cases h1 : c' = c ∧ q = jhi k
  · obtain ⟨rfl, rfl⟩ := h1
    rw [mSet_at, nr_flip_hi T k _ hk, Nat.xor_assoc, Nat.xor_self, Nat.xor_zero]
  · rw [mSet_no (fun z => h1 (by omega))]
    by_cases h2 : c' = c ∧ q = jlo k
    · obtain ⟨rfl, rfl⟩ := h2
      rw [mSet_at, nr_flip_lo T k _ hk, Nat.xor_assoc, Nat.xor_self, Nat.xor_zero]
    · rw [mSet_no (fun z => h2 (by omega)), e c' hc' q hq, nr_flip_no T k c c' q hk hq (by omega)]
theorem tSet_self {T : Nat → Int} {k : Nat} {v : Int} (h : T k = v) : tSet T k v = T := by
  funext j
  unfold tSet
  split
  · next hj => rw [hj, h]
  · rfl
/-- outside the tones and nears of one net nothing changes -/
def sameBut (i : Fin 8) (h h' : mMem) : Prop := ∀ t a q, ¬ ((t = 22 ∨ t = 23) ∧ a = i) → h' t a q = h t a q
theorem mFlp_same {h : mMem} {i : Fin 8} {k c A B : Nat} {t : Nat} {a : Fin 8} {q : Nat} (hn : ¬ (t = 23 ∧ a = i)) : mFlp h i k c A B t a q = h t a q := by
  unfold mFlp
  rw [mSet_no (fun z => hn ⟨z.1, z.2.1⟩), mSet_no (fun z => hn ⟨z.1, z.2.1⟩)]
theorem c_Net_give (i : Fin 8) (k : Nat) (v : Int) (T : Nat → Int) (hk : k < 66) (hv0 : -1 ≤ v ∧ v < 3) (h : mMem) (hT : h 22 i k = T k) (hT0 : -1 ≤ T k ∧ T k < 3) (e : isNr h i T) :
    mCon l g n_Net_give (d + 1) [.inr (4, i), .inl k, .inl v] h (fun r h' => r = none ∧ sameBut i h h' ∧ (∀ q, h' 22 i q = if q = k then v else h 22 i q) ∧ isNr h' i (tSet T k v)) := by
  refine e_Net_give (fun hv hm => ?_)
  have last : ∀ (h1 : mMem), (∀ t a q, ¬ (t = 23 ∧ a = i) → h1 t a q = h t a q) → isNr h1 i (tSet T k v) → (sameBut i h (mSet h1 22 i ((k : Int)).toNat v) ∧ (∀ q, mSet h1 22 i ((k : Int)).toNat v 22 i q = if q = k then v else h 22 i q) ∧ isNr (mSet h1 22 i ((k : Int)).toNat v) i (tSet T k v)) := by
    intro h1 hs hn
    rw [Int.toNat_natCast]
    refine ⟨fun t a q hz => ?_, fun q => ?_, fun c hc q hq => ?_⟩
    · rw [mSet_no (fun y => hz ⟨Or.inl y.1, y.2.1⟩)]
      exact hs t a q (fun y => hz ⟨Or.inr y.1, y.2⟩)
    · by_cases hq : q = k
      · rw [hq, mSet_at, if_pos rfl]
      · rw [mSet_no (fun y => hq y.2.2), if_neg hq]
        exact hs 22 i q (by simp)
    · rw [mSet_no (by simp)]
      exact hn c hc q hq
  have mid : ∀ (h1 : mMem), (∀ t a q, ¬ (t = 23 ∧ a = i) → h1 t a q = h t a q) → isNr h1 i (tSet T k (-1)) → mGo l g (mMt n_Net_give) (d + 1) 21 [some (.inr (4, i)), some (.inl k), some (.inl v)] [] h1 (fun r h' => r = none ∧ sameBut i h h' ∧ (∀ q, h' 22 i q = if q = k then v else h 22 i q) ∧ isNr h' i (tSet T k v)) := by
    intro h1 hs hn
    refine mGo_wp h_Net_give 60 [] ?_
    refine ⟨fun c => ?_, fun c => ?_⟩
    · have c : v = -1 := c
      subst c
      exact ⟨⟨by omega, by omega⟩, rfl, last h1 hs hn⟩
    · obtain ⟨v', rfl⟩ := Int.eq_ofNat_of_zero_le (show 0 ≤ v by omega)
      refine mCall_is (c_Net_flip i k v' (nr (tSet T k (-1)) v' (jlo k)) (nr (tSet T k (-1)) v' (jhi k)) hk (by omega) (nr_lt _ _ _) (nr_lt _ _ _) h1 (hn v' (by omega) _ ?_) (hn v' (by omega) _ ?_)) ?_
      · have := jlo_tab k hk; omega
      · have := jlo_tab k hk; omega
      · exact ⟨⟨by omega, by omega⟩, rfl, last _ (fun t a q hz => by rw [mFlp_same hz]; exact hs t a q hz) (isNr_in hk (by omega) hn)⟩
  refine mGo_wp h_Net_give 60 [21] ?_
  refine ⟨⟨by omega, by omega⟩, ⟨fun c => ?_, fun c => ?_⟩⟩
  · rw [Int.toNat_natCast, hT] at c
    have e1 := e
    rw [← tSet_self c] at e1
    exact mid h (fun _ _ _ _ => rfl) e1
  · rw [Int.toNat_natCast, hT] at c
    obtain ⟨w, hw⟩ := Int.eq_ofNat_of_zero_le (show 0 ≤ T k by omega)
    have e1 := e
    rw [← tSet_self hw] at e1
    refine ⟨⟨by omega, by omega⟩, ?_⟩
    rw [Int.toNat_natCast, hT, hw]
    refine mCall_is (c_Net_flip i k w (nr (tSet T k w) w (jlo k)) (nr (tSet T k w) w (jhi k)) hk (by omega) (nr_lt _ _ _) (nr_lt _ _ _) h (e1 w (by omega) _ ?_) (e1 w (by omega) _ ?_)) ?_
    · have := jlo_tab k hk; omega
    · have := jlo_tab k hk; omega
    · exact mid _ (fun t a q hz => mFlp_same hz) (isNr_out hk (by omega) e1)
end Give
