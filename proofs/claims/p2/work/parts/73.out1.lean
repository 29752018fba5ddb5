/-! outward from a join: those that are all joined, ways between, arms -/
def oB (T : Nat → Int) (c : Int) (n : Nat) (B : Nat → Prop) : Prop := (∀ p, B p → p < n) ∧ ∀ p q, B p → q < n → q ≠ p → adT T c p q → B q
def oSt (h : mMem) (T : Nat → Int) (c n : Nat) (B : Nat → Prop) : Prop := h 5 0 0 = n ∧ ∀ p, B p → h 26 0 p = nr T c p
theorem cq_le (A : Nat → Nat → Prop) {n : Nat} (hn : n ≤ 12) : ∀ (j : Nat) (C : Nat → Prop), cq A n j C ≤ 12 ^ j
  | 0, _ => Nat.le_refl 1
  | j + 1, C => by
    have h1 := sm_le (f := fun p => iq (C p) (cq A n j (fun q => C q ∧ A p q ∧ p < q))) (B := 12 ^ j) n (fun p _ => Nat.le_trans (iq_le _ _) (cq_le A hn j _))
    have h2 : n * 12 ^ j ≤ 12 * 12 ^ j := Nat.mul_le_mul_right _ hn
    rw [Nat.pow_succ, Nat.mul_comm]
    exact Nat.le_trans h1 h2
theorem SL_le {n b : Nat} (hn : n ≤ 12) : ∀ (j : Nat) {F : List Nat → Nat}, (∀ s, F s ≤ b) → SL n j F ≤ 12 ^ j * b
  | 0, F, h => by
    rw [Nat.pow_zero, Nat.one_mul]
    exact h []
  | j + 1, F, h => by
    have h1 := sm_le (f := fun p => SL n j (fun s => F (p :: s))) (B := 12 ^ j * b) n (fun p _ => SL_le hn j (fun s => h _))
    have h2 : n * (12 ^ j * b) ≤ 12 * (12 ^ j * b) := Nat.mul_le_mul_right _ hn
    rw [Nat.pow_succ, Nat.mul_comm (12 ^ j) 12, Nat.mul_assoc]
    exact Nat.le_trans h1 h2
theorem p12 {j : Nat} (h : j ≤ 4) : 12 ^ j ≤ 20736 := Nat.pow_le_pow_right (n := 12) (by decide) h
theorem cq_one (A : Nat → Nat → Prop) (n : Nat) (C : Nat → Prop) : cq A n 1 C = (lst C 0 n).length := (lst_sm C n).symm
def wl (T : Nat → Int) (c : Int) (goal : Nat) : List Nat → Nat → List Nat → Prop
  | _, a, [] => adT T c a goal
  | tk, a, p :: s => (adT T c a p ∧ p ∉ tk) ∧ wl T c goal (p :: tk) p s
noncomputable def bw (T : Nat → Int) (c : Int) (n goal : Nat) (tk : List Nat) (a j : Nat) : Nat := SL n j (fun s => iq (wl T c goal tk a s) 1)
theorem bw_succ (T : Nat → Int) (c : Int) (n goal : Nat) (tk : List Nat) (a j : Nat) : bw T c n goal tk a (j + 1) = sm (fun p => iq (adT T c a p ∧ p ∉ tk) (bw T c n goal (p :: tk) p j)) n := by
  unfold bw
  refine sm_congr n (fun p _ => ?_)
  rw [← SL_iq]
  exact SL_congr j (fun s _ _ => iq_and 1)
theorem bw_le {T : Nat → Int} {c : Int} {n goal : Nat} {tk : List Nat} {a j : Nat} (hn : n ≤ 12) (hj : j ≤ 4) : bw T c n goal tk a j ≤ 20736 := by
  have h1 := SL_le (b := 1) hn j (F := fun s => iq (wl T c goal tk a s) 1) (fun s => iq_le _ _)
  have h2 := p12 hj
  unfold bw
  omega
def arm (T : Nat → Int) (c : Int) : List Nat → Nat → List Nat → Prop
  | _, _, [] => True
  | tk, a, p :: s => (adT T c a p ∧ p ∉ tk) ∧ arm T c (p :: tk) p s
noncomputable def aR (T : Nat → Int) (c : Int) (n : Nat) (a b : Nat) (u v : Nat) (tk : List Nat) : Nat := SL n a (fun x => iq (arm T c tk u x) (SL n b (fun y => iq (arm T c (x.reverse ++ tk) v y) 1)))
theorem aR_succ (T : Nat → Int) (c : Int) (n a b u v : Nat) (tk : List Nat) : aR T c n (a + 1) b u v tk = sm (fun p => iq (adT T c u p ∧ p ∉ tk) (aR T c n a b p v (p :: tk))) n := by
  unfold aR
  refine sm_congr n (fun p _ => ?_)
  rw [← SL_iq]
  refine SL_congr a (fun s _ _ => ?_)
  show iq ((adT T c u p ∧ p ∉ tk) ∧ arm T c (p :: tk) p s) _ = _
  rw [iq_and, List.reverse_cons, List.append_assoc]
  rfl
theorem aR_swap (T : Nat → Int) (c : Int) (n b u v : Nat) (tk : List Nat) : aR T c n 0 b u v tk = aR T c n b 0 v u tk := by
  unfold aR
  show iq True (SL n b (fun y => iq (arm T c tk v y) 1)) = SL n b (fun x => iq (arm T c tk v x) (iq True 1))
  rw [iq_t trivial, iq_t trivial]
theorem aR_le {T : Nat → Int} {c : Int} {n a b u v : Nat} {tk : List Nat} (hn : n ≤ 12) (hab : a + b ≤ 4) : aR T c n a b u v tk ≤ 20736 := by
  have h1 := SL_le (b := 12 ^ b) hn a (F := fun x => iq (arm T c tk u x) (SL n b (fun y => iq (arm T c (x.reverse ++ tk) v y) 1))) (fun x => Nat.le_trans (iq_le _ _) (by
    have := SL_le (b := 1) hn b (F := fun y => iq (arm T c (x.reverse ++ tk) v y) 1) (fun y => iq_le _ _)
    omega))
  rw [← Nat.pow_add] at h1
  exact Nat.le_trans h1 (p12 hab)
section Out
variable {l : Launch} {g : mG} {d : Nat}
theorem c_allJoined (T : Nat → Int) (c n : Nat) (hn : n ≤ 12) (fb : farB T n) (B : Nat → Prop) (hB : oB T c n B) (h : mMem) (e : oSt h T c n B) : ∀ (j : Nat), j ≤ 4 → ∀ (C : Nat → Prop) (cand : Nat), cand < 4096 → (∀ q, cand.testBit q = true ↔ C q) → (∀ q, C q → B q) →
    mCon l g n_Outward_countAllJoined (d + 1 + j) [.inr (5, 0), .inl cand, .inl j] h (mIs (some (.inl (cq (adT T c) n j C : Nat))) h) := by
  intro j
  induction j with
  | zero =>
    intro hj C cand hcl hcb hCB
    refine e_Outward_countAllJoined (fun hv hm => ?_)
    refine mGo_wp h_Outward_countAllJoined 60 [] ?_
    exact ⟨fun z => absurd z (by decide), fun _ => ⟨fun z => absurd z (by decide), fun _ => ⟨rfl, rfl⟩⟩⟩
  | succ j ih =>
    intro hj C cand hcl hcb hCB
    show mCon l g n_Outward_countAllJoined (d + 1 + j + 1) _ _ _
    by_cases h0 : j = 0
    · subst h0
      refine e_Outward_countAllJoined (fun hv hm => ?_)
      refine mGo_wp h_Outward_countAllJoined 60 [] ?_
      refine ⟨fun z => absurd z (by decide), fun _ => ⟨fun _ => ?_, fun z => absurd z (by decide)⟩⟩
      refine mCall_is (c_Int_bitCount cand hcl h) ?_
      refine ⟨?_, rfl⟩
      rw [cq_one, bc_lst hn hcb (fun q hq => hB.1 q (hCB q hq))]
    · have loop : ∀ (m p : Nat), p + m = n → mGo l g (mMt n_Outward_countAllJoined) (d + 1 + j + 1) 23 [some (.inr (5, 0)), some (.inl cand), some (.inl (j + 1 : Nat)), some (.inl (sm (fun p => iq (C p) (cq (adT T c) n j (fun q => C q ∧ adT T c p q ∧ p < q))) p : Nat)), some (.inl p)] [] h (mIs (some (.inl (cq (adT T c) n (j + 1) C : Nat))) h) := by
        intro m
        induction m with
        | zero =>
          intro p hp
          refine mGo_wp h_Outward_countAllJoined 60 [23] ?_
          refine ⟨fun _ => ⟨?_, rfl⟩, fun z => by rw [e.1] at z; omega⟩
          rw [show p = n by omega]
          rfl
        | succ m ihm =>
          intro p hp
          refine mGo_wp h_Outward_countAllJoined 60 [23] ?_
          have hbit := bit_at cand p hcl (by omega)
          have q := ihm (p + 1) (by omega)
          have b1 : sm (fun p => iq (C p) (cq (adT T c) n j (fun q => C q ∧ adT T c p q ∧ p < q))) p ≤ p * 20736 := sm_le p (fun k _ => Nat.le_trans (iq_le _ _) (Nat.le_trans (cq_le _ hn j _) (p12 (by omega))))
          refine ⟨fun z => by rw [e.1] at z; omega, fun _ => ⟨fun y => ?_, fun y => ⟨⟨by omega, by omega⟩, ?_⟩⟩⟩
          · rw [hbit] at y
            have hC : ¬ C p := fun w => by
              rw [if_pos ((hcb p).mpr w)] at y
              exact y rfl
            have e1 : sm (fun p => iq (C p) (cq (adT T c) n j (fun q => C q ∧ adT T c p q ∧ p < q))) (p + 1) = sm (fun p => iq (C p) (cq (adT T c) n j (fun q => C q ∧ adT T c p q ∧ p < q))) p := by
              show _ + iq (C p) _ = _
              rw [iq_f hC]
              rfl
            rw [e1] at q
            show mGo l g _ _ 23 [_, _, _, _, some (.inl (mWr ((p : Int) + 1)))] [] h _
            rw [mWr_of ⟨by omega, by omega⟩]
            exact q
          · rw [hbit] at y
            have hC : C p := by
              by_cases hb : cand.testBit p = true
              · exact (hcb p).mp hb
              · rw [if_neg hb] at y
                exact absurd y (by decide)
            have hpB := hCB p hC
            have ep : h 26 0 (Int.toNat (p : Int)) = nr T c p := by rw [Int.toNat_natCast, e.2 p hpB]
            refine mCall_is (c_K_above _ _) ?_
            obtain ⟨z1, a1, a2, a3⟩ := and_and hcl (nr_lt T c p)
            obtain ⟨z2, b1', b2, b3⟩ := and_above a2 (show p < 12 by omega)
            have w1 : mAnd (mAnd (cand : Int) (h 26 0 (Int.toNat (p : Int)))) (mShl (-2) (p : Int)) = (z2 : Int) := by rw [ep, a1, b1']
            have w2 : mWr (((j + 1 : Nat) : Int) - 1) = ((j : Nat) : Int) := by rw [mWr_of ⟨by omega, by omega⟩]; omega
            have qi := ih (by omega) (fun q => C q ∧ adT T c p q ∧ p < q) z2 b2 (fun q => by
              rw [b3, a3, hcb, near_bit hn fb (show p < 12 by omega)]
              exact ⟨fun w => ⟨w.1.1, w.1.2.1.2, w.2⟩, fun w => ⟨⟨w.1, ⟨hB.1 q (hCB q w.1), w.2.1⟩, by omega⟩, w.2.2⟩⟩) (fun q hq => hCB q hq.1)
            rw [← w1, ← w2] at qi
            refine mCall_is qi ?_
            have b4 : cq (adT T c) n j (fun q => C q ∧ adT T c p q ∧ p < q) ≤ 20736 := Nat.le_trans (cq_le _ hn j _) (p12 (by omega))
            have e1 : sm (fun p => iq (C p) (cq (adT T c) n j (fun q => C q ∧ adT T c p q ∧ p < q))) (p + 1) = sm (fun p => iq (C p) (cq (adT T c) n j (fun q => C q ∧ adT T c p q ∧ p < q))) p + cq (adT T c) n j (fun q => C q ∧ adT T c p q ∧ p < q) := by
              show _ + iq (C p) _ = _
              rw [iq_t hC]
            rw [e1] at q
            show mGo l g _ _ 23 [_, _, _, some (.inl (mWr (((sm (fun p => iq (C p) (cq (adT T c) n j (fun q => C q ∧ adT T c p q ∧ p < q))) p : Nat) : Int) + (cq (adT T c) n j (fun q => C q ∧ adT T c p q ∧ p < q) : Nat)))), some (.inl (mWr ((p : Int) + 1)))] [] h _
            rw [mWr_of (x := (p : Int) + 1) ⟨by omega, by omega⟩, mWr_of ⟨by omega, by omega⟩]
            exact q
      refine e_Outward_countAllJoined (fun hv hm => ?_)
      refine mGo_wp h_Outward_countAllJoined 60 [23] ?_
      refine ⟨fun _ => ?_, fun z => by omega⟩
      exact loop n 0 (by omega)
theorem c_between (T : Nat → Int) (c n : Nat) (hn : n ≤ 12) (fb : farB T n) (B : Nat → Prop) (hB : oB T c n B) (goal : Nat) (hg : B goal) (h : mMem) (e : oSt h T c n B) : ∀ (j : Nat), j + 1 ≤ 4 → ∀ (tk : List Nat) (a taken : Nat), B a → a ∈ tk → goal ∈ tk → taken < 4096 → (∀ q, taken.testBit q = true ↔ q ∈ tk) →
    mCon l g n_Outward_countBetween (d + 1 + j) [.inr (5, 0), .inl a, .inl goal, .inl (j + 1 : Nat), .inl taken] h (mIs (some (.inl (bw T c n goal tk a (j + 1) : Nat))) h) := by
  have hgn := hB.1 goal hg
  intro j
  induction j with
  | zero =>
    intro hj tk a taken ha hatk hgtk htl htb
    have han := hB.1 a ha
    refine e_Outward_countBetween (fun hv hm => ?_)
    refine mGo_wp h_Outward_countBetween 80 [] ?_
    have ea : h 26 0 (Int.toNat (a : Int)) = nr T c a := by rw [Int.toNat_natCast, e.2 a ha]
    have eg : h 26 0 (Int.toNat (goal : Int)) = nr T c goal := by rw [Int.toNat_natCast, e.2 goal hg]
    obtain ⟨z1, a1, a2, a3⟩ := and_not (nr_lt T c a) htl
    obtain ⟨z2, b1, b2, b3⟩ := and_and a2 (nr_lt T c goal)
    refine ⟨⟨by omega, by omega⟩, ⟨fun z => absurd z (by decide), fun _ => ⟨⟨by omega, by omega⟩, ?_⟩⟩⟩
    refine mCall_is (show mCon l g n_Int_bitCount d [.inl (mAnd (mAnd (h 26 0 (Int.toNat (a : Int))) (mXor (taken : Int) (-1))) (h 26 0 (Int.toNat (goal : Int))))] h (mIs (some (.inl (bc z2 : Nat))) h) by rw [ea, a1, eg, b1]; exact c_Int_bitCount z2 b2 h) ?_
    refine ⟨?_, rfl⟩
    have e1 : bw T c n goal tk a (0 + 1) = (lst (fun p => (adT T c a p ∧ p ∉ tk) ∧ adT T c p goal) 0 n).length := by
      rw [lst_sm]
      rfl
    have e2 : bc z2 = (lst (fun p => p < n ∧ (adT T c a p ∧ p ∉ tk) ∧ adT T c p goal) 0 n).length := by
      refine bc_lst hn (fun q => ?_) (fun q hq => hq.1)
      rw [b3, a3, near_bit hn fb (show a < 12 by omega), near_bit hn fb (show goal < 12 by omega), htb]
      exact ⟨fun w => ⟨w.1.1.1.1, ⟨w.1.1.1.2, w.1.2⟩, adT_sym _ _ w.2.1.2⟩, fun w => ⟨⟨⟨⟨w.1, w.2.1.1⟩, fun y => w.2.1.2 (y ▸ hatk)⟩, w.2.1.2⟩, ⟨w.1, adT_sym _ _ w.2.2⟩, fun y => w.2.1.2 (y ▸ hgtk)⟩⟩
    rw [e2, e1, lst_same (fun q hq => ⟨fun w => w.2, fun w => ⟨hq, w⟩⟩)]
  | succ j ih =>
    intro hj tk a taken ha hatk hgtk htl htb
    show mCon l g n_Outward_countBetween (d + 1 + j + 1) _ _ _
    have han := hB.1 a ha
    have ea : h 26 0 (Int.toNat (a : Int)) = nr T c a := by rw [Int.toNat_natCast, e.2 a ha]
    obtain ⟨z1, a1, a2, a3⟩ := and_not (nr_lt T c a) htl
    have zb : ∀ q, z1.testBit q = true ↔ (q < n ∧ adT T c a q ∧ q ∉ tk) := fun q => by
      rw [a3, near_bit hn fb (show a < 12 by omega), htb]
      exact ⟨fun w => ⟨w.1.1.1, w.1.1.2, w.2⟩, fun w => ⟨⟨⟨w.1, w.2.1⟩, fun y => w.2.2 (y ▸ hatk)⟩, w.2.2⟩⟩
    rw [bw_succ]
    have loop : ∀ (m p : Nat), p + m = n → mGo l g (mMt n_Outward_countBetween) (d + 1 + j + 1) 37 [some (.inr (5, 0)), some (.inl a), some (.inl goal), some (.inl (j + 1 + 1 : Nat)), some (.inl taken), some (.inl z1), some (.inl (sm (fun p => iq (adT T c a p ∧ p ∉ tk) (bw T c n goal (p :: tk) p (j + 1))) p : Nat)), some (.inl p)] [] h (mIs (some (.inl (sm (fun p => iq (adT T c a p ∧ p ∉ tk) (bw T c n goal (p :: tk) p (j + 1))) n : Nat))) h) := by
      intro m
      induction m with
      | zero =>
        intro p hp
        refine mGo_wp h_Outward_countBetween 80 [37] ?_
        refine ⟨fun _ => ⟨?_, rfl⟩, fun z => by rw [e.1] at z; omega⟩
        rw [show p = n by omega]
      | succ m ihm =>
        intro p hp
        refine mGo_wp h_Outward_countBetween 80 [37] ?_
        have hbit := bit_at z1 p a2 (by omega)
        have q := ihm (p + 1) (by omega)
        have b1 : sm (fun p => iq (adT T c a p ∧ p ∉ tk) (bw T c n goal (p :: tk) p (j + 1))) p ≤ p * 20736 := sm_le p (fun k _ => Nat.le_trans (iq_le _ _) (bw_le hn (by omega)))
        refine ⟨fun z => by rw [e.1] at z; omega, fun _ => ⟨fun y => ?_, fun y => ?_⟩⟩
        · rw [hbit] at y
          have hC : ¬ (adT T c a p ∧ p ∉ tk) := fun w => by
            rw [if_pos ((zb p).mpr ⟨by omega, w⟩)] at y
            exact y rfl
          have e1 : sm (fun p => iq (adT T c a p ∧ p ∉ tk) (bw T c n goal (p :: tk) p (j + 1))) (p + 1) = sm (fun p => iq (adT T c a p ∧ p ∉ tk) (bw T c n goal (p :: tk) p (j + 1))) p := by
            show _ + iq (adT T c a p ∧ p ∉ tk) _ = _
            rw [iq_f hC]
            rfl
          rw [e1] at q
          show mGo l g _ _ 37 [_, _, _, _, _, _, _, some (.inl (mWr ((p : Int) + 1)))] [] h _
          rw [mWr_of ⟨by omega, by omega⟩]
          exact q
        · rw [hbit] at y
          have hC : adT T c a p ∧ p ∉ tk := by
            by_cases hb : z1.testBit p = true
            · exact ((zb p).mp hb).2
            · rw [if_neg hb] at y
              exact absurd y (by decide)
          have hpB : B p := hB.2 a p ha (by omega) (fun y => hC.2 (y ▸ hatk)) hC.1
          have hp2 : 2 ^ p < 2 ^ 12 := Nat.pow_lt_pow_right (by decide) (show p < 12 by omega)
          have wt : mOr (taken : Int) (mShl 1 (p : Int)) = ((taken ||| 2 ^ p : Nat) : Int) := by rw [mShl_1 _ (by omega), mOr_nat (by omega) (by omega)]
          have wj : mWr (((j + 1 + 1 : Nat) : Int) - 1) = ((j + 1 : Nat) : Int) := by rw [mWr_of ⟨by omega, by omega⟩]; omega
          have qi := ih (by omega) (p :: tk) p (taken ||| 2 ^ p) hpB List.mem_cons_self (List.mem_cons_of_mem _ hgtk) (Nat.or_lt_two_pow (n := 12) htl hp2) (fun q => by
            rw [Nat.testBit_or, Nat.testBit_two_pow, Bool.or_eq_true, htb q, List.mem_cons, decide_eq_true_eq]
            exact ⟨fun w => w.elim Or.inr (fun x => Or.inl x.symm), fun w => w.elim (fun x => Or.inr x.symm) Or.inl⟩)
          rw [← wt, ← wj] at qi
          refine mCall_is qi ?_
          have b4 : bw T c n goal (p :: tk) p (j + 1) ≤ 20736 := bw_le hn (by omega)
          have e1 : sm (fun p => iq (adT T c a p ∧ p ∉ tk) (bw T c n goal (p :: tk) p (j + 1))) (p + 1) = sm (fun p => iq (adT T c a p ∧ p ∉ tk) (bw T c n goal (p :: tk) p (j + 1))) p + bw T c n goal (p :: tk) p (j + 1) := by
            show _ + iq (adT T c a p ∧ p ∉ tk) _ = _
            rw [iq_t hC]
          rw [e1] at q
          show mGo l g _ _ 37 [_, _, _, _, _, _, some (.inl (mWr (((sm (fun p => iq (adT T c a p ∧ p ∉ tk) (bw T c n goal (p :: tk) p (j + 1))) p : Nat) : Int) + (bw T c n goal (p :: tk) p (j + 1) : Nat)))), some (.inl (mWr ((p : Int) + 1)))] [] h _
          rw [mWr_of (x := (p : Int) + 1) ⟨by omega, by omega⟩, mWr_of ⟨by omega, by omega⟩]
          exact q
    refine e_Outward_countBetween (fun hv hm => ?_)
    refine mGo_wp h_Outward_countBetween 80 [37] ?_
    refine ⟨⟨by omega, by omega⟩, ⟨fun _ => ?_, fun z => by omega⟩⟩
    have w0 : mAnd (h 26 0 (Int.toNat (a : Int))) (mXor (taken : Int) (-1)) = (z1 : Int) := by rw [ea, a1]
    show mGo l g _ _ 37 [_, _, _, _, _, some (.inl (mAnd (h 26 0 (Int.toNat (a : Int))) (mXor (taken : Int) (-1)))), _, _] [] h _
    rw [w0]
    exact loop n 0 (by omega)
end Out
