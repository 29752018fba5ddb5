section Cands
variable {l : Launch} {g : mG} {d : Nat}
theorem near_bit {T : Nat → Int} {c n : Nat} (hn : n ≤ 12) (f : farB T n) {p q : Nat} (hp : p < 12) : (nr T c p).testBit q = true ↔ (q < n ∧ T (jn p q) = (c : Nat)) ∧ q ≠ p := by
  rw [nr_bit, decide_eq_true_eq]
  constructor
  · rintro ⟨h1, h2, h3⟩
    exact ⟨⟨farB_lt hn f hp h1 (fun z => h2 z.symm) h3, h3⟩, h2⟩
  · rintro ⟨⟨h1, h2⟩, h3⟩
    exact ⟨by omega, h3, h2⟩
theorem c_Finder_candidatesAfter (c : Nat) (T : Nat → Int) (k L n : Nat) (hk : kOk k L) (hn : n ≤ 12) (fb : farB T n) (r : List Nat) (p : Nat) (hr : ∀ x ∈ r ++ [p], x < 12) (hd : r.length + 1 < L) (h3 : k = 3 → r.length = 0) (h4 : k = 4 → r.length ≤ 1) (cand taken : Nat) (hcl : cand < 4096) (hcb : ∀ q, cand.testBit q = true ↔ cdP T c k L n r q) (hpc : cdP T c k L n r p) (htl : taken < 4096) (htb : ∀ q, taken.testBit q = true ↔ q ∈ r ++ [p]) (h : mMem) (e : fSt h T c k L n) (er : rowF h (r ++ [p])) :
    mCon l g n_Finder_candidatesAfter (d + 1) [.inr (1, 0), .inl r.length, .inl cand, .inl taken] h (fun v h' => h' = h ∧ ∃ z : Nat, v = some (.inl z) ∧ z < 4096 ∧ ∀ q, z.testBit q = true ↔ cdP T c k L n (r ++ [p]) q) := by
  obtain ⟨e1, e2, e3, e4⟩ := e
  have hL7 := kOk_le hk
  have hp12 : p < 12 := hr p (List.mem_append_right _ (by simp))
  have el : h 24 0 (Int.toNat (r.length : Int)) = (p : Int) := by
    rw [Int.toNat_natCast, er r.length (by rw [app_len]; omega), getD_app1]
  have e0 : h 24 0 (Int.toNat 0) = ((r ++ [p]).getD 0 0 : Nat) := er 0 (by rw [app_len]; omega)
  have h0 : (r ++ [p]).getD 0 0 < 12 := hr _ (getD_mem (by rw [app_len]; omega))
  have ep : h 25 0 (Int.toNat (p : Int)) = nr T c p := by rw [Int.toNat_natCast, e4 p hp12]
  have wl : mWr (h 1 0 1 - 1) = (L : Int) - 1 := by rw [e1, mWr_of ⟨by omega, by omega⟩]
  have wd : mWr ((r.length : Int) + 1) = (r.length : Int) + 1 := mWr_of ⟨by omega, by omega⟩
  have nb := fun q => near_bit (T := T) (c := c) (q := q) hn fb hp12
  have hpr : p ∈ r ++ [p] := List.mem_append_right _ (by simp)
  have main : ∀ (lc : Int) (x6 : Option mRV), lc = mB (r.length + 1 = L - 1) → mGo l g (mMt n_Finder_candidatesAfter) (d + 1) 27 [some (.inr (1, 0)), some (.inl r.length), some (.inl cand), some (.inl taken), some (.inl p), some (.inl lc), x6] [] h (fun v h' => h' = h ∧ ∃ z : Nat, v = some (.inl z) ∧ z < 4096 ∧ ∀ q, z.testBit q = true ↔ cdP T c k L n (r ++ [p]) q) := by
    intro lc x6 hlc
    refine mGo_wp h_Finder_candidatesAfter 120 [] ?_
    rcases hk with ⟨rfl, k1, k2⟩ | ⟨rfl, k1, k2⟩ | ⟨rfl, k1, k2⟩ | ⟨rfl, k1, k2⟩ | ⟨rfl, k1, k2⟩
    · refine ⟨⟨fun _ => ⟨⟨by omega, by omega⟩, ?_⟩, fun z => absurd (e2.symm.trans z) (by decide), fun z => absurd (e2.symm.trans z) (by decide), fun z => absurd (e2.symm.trans z) (by decide), fun z => absurd (e2.symm.trans z) (by decide), trivial⟩, fun z => by rw [e2] at z; exact absurd z (by decide)⟩
      refine mCall_is (c_K_above _ _) ?_
      obtain ⟨z1, a1, a2, a3⟩ := and_and hcl (nr_lt T c p)
      obtain ⟨z2, b1, b2, b3⟩ := and_above a2 hp12
      refine ⟨rfl, z2, ?_, b2, fun q => ?_⟩
      · rw [ep, a1, b1]
      · rw [b3, a3, hcb, nb, cd_all hpc]
        exact ⟨fun w => ⟨⟨w.1.1, w.1.2.1.2⟩, w.2⟩, fun w => ⟨⟨w.1.1, ⟨w.1.1.1, w.1.2⟩, by omega⟩, w.2⟩⟩
    · refine ⟨⟨fun z => absurd (e2.symm.trans z) (by decide), fun _ => ⟨⟨by omega, by omega⟩, ⟨by decide, by decide⟩, ?_⟩, fun z => absurd (e2.symm.trans z) (by decide), fun z => absurd (e2.symm.trans z) (by decide), fun z => absurd (e2.symm.trans z) (by decide), trivial⟩, fun z => by rw [e2] at z; exact absurd z (by decide)⟩
      refine mCall_is (c_K_above _ _) ?_
      obtain ⟨z1, a1, a2, a3⟩ := and_above (nr_lt T c p) h0
      obtain ⟨z2, b1, b2, b3⟩ := and_not a2 htl
      have w1 : mAnd (mAnd (h 25 0 (Int.toNat (p : Int))) (mShl (-2) (h 24 0 (Int.toNat 0)))) (mXor (taken : Int) (-1)) = (z2 : Int) := by rw [ep, e0, a1, b1]
      have mid : ∀ q, z2.testBit q = true ↔ ((q < n ∧ T (jn p q) = (c : Nat)) ∧ (r ++ [p]).getD 0 0 < q) ∧ q ∉ r ++ [p] := fun q => by
        rw [b3, a3, nb, htb]
        exact ⟨fun w => ⟨⟨w.1.1.1, w.1.2⟩, w.2⟩, fun w => ⟨⟨⟨w.1.1, fun y => w.2 (y ▸ hpr)⟩, w.1.2⟩, w.2⟩⟩
      refine ⟨fun y => ?_, fun y => ?_⟩
      · have y : lc = 0 := y
        rw [hlc] at y
        have y := mB_eq0.mp y
        refine ⟨rfl, z2, ?_, b2, fun q => ?_⟩
        · rw [w1]
        · rw [mid, cd_ringm y]
      · have y : lc ≠ 0 := y
        rw [hlc] at y
        have y := mB_ne0.mp y
        have en : h 25 0 (Int.toNat (h 24 0 (Int.toNat 0))) = nr T c ((r ++ [p]).getD 0 0) := by rw [e0, Int.toNat_natCast, e4 _ h0]
        have h1 : (r ++ [p]).getD 1 0 < 12 := hr _ (getD_mem (by rw [app_len]; omega))
        have e1' : h 24 0 (Int.toNat 1) = ((r ++ [p]).getD 1 0 : Nat) := er 1 (by rw [app_len]; omega)
        refine ⟨⟨by decide, by decide⟩, ⟨by rw [e0]; omega, by rw [e0]; omega⟩, ⟨by decide, by decide⟩, ?_⟩
        refine mCall_is (c_K_above _ _) ?_
        obtain ⟨z3, c1, c2, c3⟩ := and_and b2 (nr_lt T c ((r ++ [p]).getD 0 0))
        obtain ⟨z4, d1, d2, d3⟩ := and_above c2 h1
        refine ⟨rfl, z4, ?_, d2, fun q => ?_⟩
        · rw [w1, en, c1, e1', d1]
        · rw [d3, c3, mid, near_bit hn fb h0, cd_ringl y]
          constructor
          · rintro ⟨⟨w, w2⟩, w3⟩
            refine ⟨⟨w, ?_⟩, w3⟩
            rw [jn_comm q (by omega) _ h0]
            exact w2.1.2
          · rintro ⟨⟨w, w2⟩, w3⟩
            rw [jn_comm q (by omega) _ h0] at w2
            exact ⟨⟨w, ⟨w.1.1.1, w2⟩, by omega⟩, w3⟩
    · obtain rfl : r = [] := List.length_eq_zero_iff.mp (h3 rfl)
      refine ⟨⟨fun z => absurd (e2.symm.trans z) (by decide), fun z => absurd (e2.symm.trans z) (by decide), fun _ => ⟨⟨by omega, by omega⟩, ?_⟩, fun z => absurd (e2.symm.trans z) (by decide), fun z => absurd (e2.symm.trans z) (by decide), trivial⟩, fun z => by rw [e2] at z; exact absurd z (by decide)⟩
      refine ⟨rfl, nr T c p, ?_, nr_lt T c p, fun q => ?_⟩
      · rw [ep]
      · rw [nb]
        show _ ↔ cdP T c 3 L n [p] q
        rw [cd_star]
        exact ⟨fun w => ⟨w.1.1, w.2, w.1.2⟩, fun w => ⟨⟨w.1, w.2.2⟩, w.2.1⟩⟩
    · have hr1 := h4 rfl
      refine ⟨⟨fun z => absurd (e2.symm.trans z) (by decide), fun z => absurd (e2.symm.trans z) (by decide), fun z => absurd (e2.symm.trans z) (by decide), fun _ => ⟨fun y => ⟨⟨by omega, by omega⟩, ⟨by decide, by decide⟩, ⟨by rw [e0]; omega, by rw [e0]; omega⟩, ?_⟩, fun y => ⟨⟨by omega, by omega⟩, ?_⟩⟩, fun z => absurd (e2.symm.trans z) (by decide), trivial⟩, fun z => by rw [e2] at z; exact absurd z (by decide)⟩
      · obtain ⟨a, rfl⟩ := List.length_eq_one_iff.mp (show r.length = 1 by omega)
        have en : h 25 0 (Int.toNat (h 24 0 (Int.toNat 0))) = nr T c a := by rw [e0, Int.toNat_natCast, e4 _ h0]; rfl
        have ha : a < 12 := h0
        obtain ⟨z1, a1, a2, a3⟩ := and_and (nr_lt T c p) (nr_lt T c a)
        refine ⟨rfl, z1, ?_, a2, fun q => ?_⟩
        · rw [ep, en, a1]
        · rw [a3, nb, near_bit hn fb ha]
          show _ ↔ cdP T c 4 L n [a, p] q
          rw [cd_book1]
          exact ⟨fun w => ⟨⟨w.1.1.1, w.1.2, w.1.1.2⟩, w.2.2, w.2.1.2⟩, fun w => ⟨⟨⟨w.1.1, w.1.2.2⟩, w.1.2.1⟩, ⟨w.1.1, w.2.2⟩, w.2.1⟩⟩
      · obtain rfl : r = [] := List.length_eq_zero_iff.mp (by omega)
        refine mCall_is (c_K_above _ _) ?_
        obtain ⟨z1, a1, a2, a3⟩ := and_above (nr_lt T c p) hp12
        refine ⟨rfl, z1, ?_, a2, fun q => ?_⟩
        · rw [ep, a1]
        · rw [a3, nb]
          show _ ↔ cdP T c 4 L n [p] q
          rw [cd_book0]
          exact ⟨fun w => ⟨⟨w.1.1.1, w.1.2, w.1.1.2⟩, w.2⟩, fun w => ⟨⟨⟨w.1.1, w.1.2.2⟩, w.1.2.1⟩, w.2⟩⟩
    · obtain ⟨z1, a1, a2, a3⟩ := and_not (nr_lt T c p) htl
      have mid : ∀ q, z1.testBit q = true ↔ (q < n ∧ T (jn p q) = (c : Nat)) ∧ q ∉ r ++ [p] := fun q => by
        rw [a3, nb, htb]
        exact ⟨fun w => ⟨w.1.1, w.2⟩, fun w => ⟨⟨w.1, fun y => w.2 (y ▸ hpr)⟩, w.2⟩⟩
      refine ⟨⟨fun z => absurd (e2.symm.trans z) (by decide), fun z => absurd (e2.symm.trans z) (by decide), fun z => absurd (e2.symm.trans z) (by decide), fun z => absurd (e2.symm.trans z) (by decide), fun _ => ⟨fun y => ⟨⟨by omega, by omega⟩, ?_⟩, fun y => ⟨⟨by omega, by omega⟩, ⟨by decide, by decide⟩, ?_⟩⟩, trivial⟩, fun z => by rw [e2] at z; exact absurd z (by decide)⟩
      · have y : lc = 0 := y
        rw [hlc] at y
        have y := mB_eq0.mp y
        refine ⟨rfl, z1, ?_, a2, fun q => ?_⟩
        · rw [ep, a1]
        · rw [mid, cd_path]
          exact ⟨fun w => ⟨w, fun w2 => absurd w2 y⟩, fun w => w.1⟩
      · have y : lc ≠ 0 := y
        rw [hlc] at y
        have y := mB_ne0.mp y
        refine mCall_is (c_K_above _ _) ?_
        obtain ⟨z2, b1, b2, b3⟩ := and_above a2 h0
        refine ⟨rfl, z2, ?_, b2, fun q => ?_⟩
        · rw [ep, a1, e0, b1]
        · rw [b3, mid, cd_path]
          exact ⟨fun w => ⟨w.1, fun _ => w.2⟩, fun w => ⟨w.1, w.2 y⟩⟩
  refine e_Finder_candidatesAfter (fun hv hm => ?_)
  refine mGo_wp h_Finder_candidatesAfter 120 [27] ?_
  refine ⟨⟨by omega, by omega⟩, ?_⟩
  rw [el]
  refine ⟨fun y => ?_, fun y => ?_⟩
  · exact main 0 none (by rw [mB_f]; intro w; rw [wl, wd] at y; omega)
  · exact main 1 none (by rw [mB_t]; rw [wl, wd] at y; omega)
end Cands
