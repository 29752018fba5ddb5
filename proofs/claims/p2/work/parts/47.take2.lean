theorem mSeg_upd {h : mMem} {t : Nat} {i : Fin 8} {n : Nat} {f : Nat → Int} {e : Nat} {v : Int} (he : e < n) : mSet (mSeg h t i 0 n f) t i e v = mSeg h t i 0 n (tSet f e v) := by
  funext t' i' q
  dsimp only [mSet, mSeg, tSet]
  by_cases h1 : t' = t ∧ i' = i
  · obtain ⟨rfl, rfl⟩ := h1
    by_cases h2 : q = e
    · subst h2
      rw [if_pos ⟨rfl, rfl, rfl⟩, if_pos ⟨rfl, rfl, by omega, by omega⟩, if_pos (by omega)]
    · rw [if_neg (fun z => h2 z.2.2)]
      by_cases h3 : 0 ≤ q ∧ q < 0 + n
      · rw [if_pos ⟨rfl, rfl, h3⟩, if_pos ⟨rfl, rfl, h3⟩, if_neg (by omega)]
      · rw [if_neg (fun z => h3 z.2.2), if_neg (fun z => h3 z.2.2)]
  · rw [if_neg (fun z => h1 ⟨z.1, z.2.1⟩), if_neg (fun z => h1 ⟨z.1, z.2.1⟩), if_neg (fun z => h1 ⟨z.1, z.2.1⟩)]
theorem mSeg_self (h : mMem) (t : Nat) (i : Fin 8) (n : Nat) : mSeg h t i 0 n (h t i) = h := by
  funext t' i' q
  dsimp only [mSeg]
  split
  · next z =>
    obtain ⟨rfl, rfl, -⟩ := z
    rw [Nat.sub_zero]
  · rfl
/-- each join of a list counted once more -/
def thF (f : Nat → Int) : List Nat → Nat → Int
  | [] => f
  | e :: es => thF (tSet f e (f e + 1)) es
theorem thF_app (f : Nat → Int) : ∀ (a b : List Nat), thF f (a ++ b) = thF (thF f a) b
  | [], _ => rfl
  | e :: a, b => thF_app _ a b
theorem thF_bd (f : Nat → Int) (B : Int) : ∀ (es : List Nat) (g : Nat → Int), (∀ k, 0 ≤ g k ∧ g k ≤ B) → ∀ k, 0 ≤ thF g es k ∧ thF g es k ≤ B + es.length
  | [], g, h, k => by
    have := h k
    show 0 ≤ g k ∧ g k ≤ B + 0
    omega
  | e :: es, g, h, k => by
    have q := thF_bd f (B + 1) es (tSet g e (g e + 1)) (fun j => by
      have h1 := h j
      have h2 := h e
      show 0 ≤ (if j = e then g e + 1 else g j) ∧ (if j = e then g e + 1 else g j) ≤ B + 1
      split <;> omega) k
    show 0 ≤ thF (tSet g e (g e + 1)) es k ∧ thF (tSet g e (g e + 1)) es k ≤ B + (es.length + 1 : Nat)
    omega
section Take
variable {l : Launch} {g : mG} {d : Nat}
theorem c_M_take2g (h : mMem) (m : Int) (md : Nat) (hmd : md < 66) (v : Int) (hv0 : 0 ≤ v ∧ v < 1000000000) (e0 : h 9 0 13 = 2) (e1 : h 9 0 10 = 1) (e2 : h 9 0 11 = md) (e3 : h 48 0 md = v) : mCon l g n_M_take d [.inr (9, 0), .inl m] h (mIs none (mSet h 48 0 md (v + 1))) := by
  refine e_M_take (fun hv hm => ?_)
  refine mGo_wp h_M_take 60 [] ?_
  refine ⟨fun z => absurd e0 z, fun _ => ⟨fun z => absurd e1 z, fun _ => ⟨⟨by rw [e2]; omega, by rw [e2]; omega⟩, ⟨by rw [e2]; omega, by rw [e2]; omega⟩, rfl, ?_⟩⟩⟩
  show mSet h 48 0 (Int.toNat (h 9 0 11)) (mWr (h 48 0 (Int.toNat (h 9 0 11)) + 1)) = _
  rw [e2, Int.toNat_natCast, e3, mWr_of ⟨by omega, by omega⟩]
theorem l_M_take2 (h : mMem) (m : Int) (es : List Nat) (F : Nat → Int) (hF : ∀ k, 0 ≤ F k ∧ F k ≤ 1000000000) (hl : es.length ≤ 20) (hes : ∀ x ∈ es, x < 66) (e1 : h 9 0 9 = es.length) (e2 : ∀ j, j < es.length → h 45 0 j = (es.getD j 0 : Nat)) : ∀ (n k : Nat), k + n = es.length → mGo l g (mMt n_M_take) d 44 [some (.inr (9, 0)), some (.inl m), some (.inl k)] [] (mSeg h 47 0 0 66 (thF F (es.take k))) (mIs none (mSeg h 47 0 0 66 (thF F es))) := by
  intro n
  induction n with
  | zero =>
    intro k hk
    refine mGo_wp h_M_take 60 [44] ?_
    have : k = es.length := by omega
    subst this
    rw [List.take_length]
    exact ⟨fun _ => ⟨rfl, rfl⟩, fun z => by rw [mSeg_ne (by decide), e1] at z; omega⟩
  | succ n ih =>
    intro k hk
    refine mGo_wp h_M_take 60 [44] ?_
    have q := ih (k + 1) (by omega)
    have hx := hes _ (getD_mem (r := es) (j := k) (by omega))
    have re : mSeg h 47 0 0 66 (thF F (es.take k)) 45 0 (Int.toNat (k : Int)) = ((es.getD k 0 : Nat) : Int) := by
      rw [mSeg_ne (by decide), Int.toNat_natCast]
      exact e2 k (by omega)
    refine ⟨fun z => by rw [mSeg_ne (by decide), e1] at z; omega, fun _ => ⟨⟨by omega, by omega⟩, ⟨by rw [re]; omega, by rw [re]; omega⟩, ⟨by rw [re]; omega, by rw [re]; omega⟩, ?_⟩⟩
    show mGo l g _ _ 44 [_, _, some (.inl (mWr ((k : Int) + 1)))] [] (mSet (mSeg h 47 0 0 66 (thF F (es.take k))) 47 0 (Int.toNat (mSeg h 47 0 0 66 (thF F (es.take k)) 45 0 (Int.toNat (k : Int)))) (mWr (mSeg h 47 0 0 66 (thF F (es.take k)) 47 0 (Int.toNat (mSeg h 47 0 0 66 (thF F (es.take k)) 45 0 (Int.toNat (k : Int)))) + 1))) _
    have hb := thF_bd F 1000000000 (es.take k) F hF (es.getD k 0)
    have hlt : (es.take k).length ≤ 20 := by rw [List.length_take]; omega
    rw [re, Int.toNat_natCast, mSeg_in0 hx, mWr_of (x := (k : Int) + 1) ⟨by omega, by omega⟩, mWr_of ⟨by omega, by omega⟩, mSeg_upd hx]
    have ht : es.take (k + 1) = es.take k ++ [es.getD k 0] := by
      rw [List.take_succ, List.getD_eq_getElem?_getD, List.getElem?_eq_getElem (show k < es.length by omega)]
      rfl
    rw [ht, thF_app] at q
    exact q
end Take
