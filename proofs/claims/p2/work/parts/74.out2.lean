theorem lst_le (C : Nat → Prop) (n : Nat) : (lst C 0 n).length ≤ n := by
  unfold lst
  have := List.length_filter_le (fun q => qB (C q)) (List.range' 0 n)
  rw [List.length_range'] at this
  exact this
section Out2
variable {l : Launch} {g : mG} {d : Nat}
/-- one arm more: the loop of countArms, whatever the call below does -/
theorem l_arms (T : Nat → Int) (c n : Nat) (hn : n ≤ 12) (fb : farB T n) (B : Nat → Prop) (hB : oB T c n B) (h : mMem) (e : oSt h T c n B) (D a b u v : Nat) (hab : a + 1 + b ≤ 4) (hnot : ¬ (a + 1 = 1 ∧ b = 0)) (tk : List Nat) (taken : Nat) (hu : B u) (hutk : u ∈ tk) (htl : taken < 4096) (htb : ∀ q, taken.testBit q = true ↔ q ∈ tk)
    (ih : ∀ p t : Nat, B p → t < 4096 → (∀ q, t.testBit q = true ↔ q ∈ p :: tk) → mCon l g n_Outward_countArms D [.inr (5, 0), .inl p, .inl a, .inl v, .inl b, .inl t] h (mIs (some (.inl (aR T c n a b p v (p :: tk) : Nat))) h)) :
    mCon l g n_Outward_countArms (D + 1) [.inr (5, 0), .inl u, .inl (a + 1 : Nat), .inl v, .inl b, .inl taken] h (mIs (some (.inl (aR T c n (a + 1) b u v tk : Nat))) h) := by
  have hun := hB.1 u hu
  have ea : h 26 0 (Int.toNat (u : Int)) = nr T c u := by rw [Int.toNat_natCast, e.2 u hu]
  obtain ⟨z1, a1, a2, a3⟩ := and_not (nr_lt T c u) htl
  have zb : ∀ q, z1.testBit q = true ↔ (q < n ∧ adT T c u q ∧ q ∉ tk) := fun q => by
    rw [a3, near_bit hn fb (show u < 12 by omega), htb]
    exact ⟨fun w => ⟨w.1.1.1, w.1.1.2, w.2⟩, fun w => ⟨⟨⟨w.1, w.2.1⟩, fun y => w.2.2 (y ▸ hutk)⟩, w.2.2⟩⟩
  rw [aR_succ]
  have loop : ∀ (m p : Nat), p + m = n → mGo l g (mMt n_Outward_countArms) (D + 1) 60 [some (.inr (5, 0)), some (.inl u), some (.inl (a + 1 : Nat)), some (.inl v), some (.inl b), some (.inl taken), some (.inl z1), some (.inl (sm (fun p => iq (adT T c u p ∧ p ∉ tk) (aR T c n a b p v (p :: tk))) p : Nat)), some (.inl p)] [] h (mIs (some (.inl (sm (fun p => iq (adT T c u p ∧ p ∉ tk) (aR T c n a b p v (p :: tk))) n : Nat))) h) := by
    intro m
    induction m with
    | zero =>
      intro p hp
      refine mGo_wp h_Outward_countArms 80 [60] ?_
      refine ⟨fun _ => ⟨?_, rfl⟩, fun z => by rw [e.1] at z; omega⟩
      rw [show p = n by omega]
    | succ m ihm =>
      intro p hp
      refine mGo_wp h_Outward_countArms 80 [60] ?_
      have hbit := bit_at z1 p a2 (by omega)
      have q := ihm (p + 1) (by omega)
      have b1 : sm (fun p => iq (adT T c u p ∧ p ∉ tk) (aR T c n a b p v (p :: tk))) p ≤ p * 20736 := sm_le p (fun k _ => Nat.le_trans (iq_le _ _) (aR_le hn (by omega)))
      refine ⟨fun z => by rw [e.1] at z; omega, fun _ => ⟨fun y => ?_, fun y => ?_⟩⟩
      · rw [hbit] at y
        have hC : ¬ (adT T c u p ∧ p ∉ tk) := fun w => by
          rw [if_pos ((zb p).mpr ⟨by omega, w⟩)] at y
          exact y rfl
        have e1 : sm (fun p => iq (adT T c u p ∧ p ∉ tk) (aR T c n a b p v (p :: tk))) (p + 1) = sm (fun p => iq (adT T c u p ∧ p ∉ tk) (aR T c n a b p v (p :: tk))) p := by
          show _ + iq (adT T c u p ∧ p ∉ tk) _ = _
          rw [iq_f hC]
          rfl
        rw [e1] at q
        show mGo l g _ _ 60 [_, _, _, _, _, _, _, _, some (.inl (mWr ((p : Int) + 1)))] [] h _
        rw [mWr_of ⟨by omega, by omega⟩]
        exact q
      · rw [hbit] at y
        have hC : adT T c u p ∧ p ∉ tk := by
          by_cases hb : z1.testBit p = true
          · exact ((zb p).mp hb).2
          · rw [if_neg hb] at y
            exact absurd y (by decide)
        have hpB : B p := hB.2 u p hu (by omega) (fun y => hC.2 (y ▸ hutk)) hC.1
        have hp2 : 2 ^ p < 2 ^ 12 := Nat.pow_lt_pow_right (by decide) (show p < 12 by omega)
        have wt : mOr (taken : Int) (mShl 1 (p : Int)) = ((taken ||| 2 ^ p : Nat) : Int) := by rw [mShl_1 _ (by omega), mOr_nat (by omega) (by omega)]
        have wj : mWr (((a + 1 : Nat) : Int) - 1) = ((a : Nat) : Int) := by rw [mWr_of ⟨by omega, by omega⟩]; omega
        have qi := ih p (taken ||| 2 ^ p) hpB (Nat.or_lt_two_pow (n := 12) htl hp2) (fun q => by
          rw [Nat.testBit_or, Nat.testBit_two_pow, Bool.or_eq_true, htb q, List.mem_cons, decide_eq_true_eq]
          exact ⟨fun w => w.elim Or.inr (fun x => Or.inl x.symm), fun w => w.elim (fun x => Or.inr x.symm) Or.inl⟩)
        rw [← wt, ← wj] at qi
        refine mCall_is qi ?_
        have b4 : aR T c n a b p v (p :: tk) ≤ 20736 := aR_le hn (by omega)
        have e1 : sm (fun p => iq (adT T c u p ∧ p ∉ tk) (aR T c n a b p v (p :: tk))) (p + 1) = sm (fun p => iq (adT T c u p ∧ p ∉ tk) (aR T c n a b p v (p :: tk))) p + aR T c n a b p v (p :: tk) := by
          show _ + iq (adT T c u p ∧ p ∉ tk) _ = _
          rw [iq_t hC]
        rw [e1] at q
        show mGo l g _ _ 60 [_, _, _, _, _, _, _, some (.inl (mWr (((sm (fun p => iq (adT T c u p ∧ p ∉ tk) (aR T c n a b p v (p :: tk))) p : Nat) : Int) + (aR T c n a b p v (p :: tk) : Nat)))), some (.inl (mWr ((p : Int) + 1)))] [] h _
        rw [mWr_of (x := (p : Int) + 1) ⟨by omega, by omega⟩, mWr_of ⟨by omega, by omega⟩]
        exact q
  have w0 : mAnd (h 26 0 (Int.toNat (u : Int))) (mXor (taken : Int) (-1)) = (z1 : Int) := by rw [ea, a1]
  refine e_Outward_countArms (fun hv hm => ?_)
  refine mGo_wp h_Outward_countArms 80 [60] ?_
  have fin : mGo l g (mMt n_Outward_countArms) (D + 1) 60 [some (.inr (5, 0)), some (.inl u), some (.inl (a + 1 : Nat)), some (.inl v), some (.inl b), some (.inl taken), some (.inl (mAnd (h 26 0 (Int.toNat (u : Int))) (mXor (taken : Int) (-1)))), some (.inl 0), some (.inl 0)] [] h (mIs (some (.inl (sm (fun p => iq (adT T c u p ∧ p ∉ tk) (aR T c n a b p v (p :: tk))) n : Nat))) h) := by
    rw [w0]
    exact loop n 0 (by omega)
  refine ⟨fun _ => ⟨⟨by omega, by omega⟩, ⟨fun _ => fin, fun z => ⟨fun _ => fin, fun z2 => absurd ⟨by omega, by omega⟩ hnot⟩⟩⟩, fun z => by omega⟩
/-- arms at one end alone -/
theorem c_arms0 (T : Nat → Int) (c n : Nat) (hn : n ≤ 12) (fb : farB T n) (B : Nat → Prop) (hB : oB T c n B) (h : mMem) (e : oSt h T c n B) (v : Nat) : ∀ (a : Nat), a ≤ 4 → ∀ (u : Nat) (tk : List Nat) (taken : Nat), B u → u ∈ tk → taken < 4096 → (∀ q, taken.testBit q = true ↔ q ∈ tk) →
    mCon l g n_Outward_countArms (d + 1 + a) [.inr (5, 0), .inl u, .inl a, .inl v, .inl 0, .inl taken] h (mIs (some (.inl (aR T c n a 0 u v tk : Nat))) h) := by
  intro a
  induction a with
  | zero =>
    intro ha u tk taken hu hutk htl htb
    refine e_Outward_countArms (fun hv hm => ?_)
    refine mGo_wp h_Outward_countArms 80 [] ?_
    refine ⟨fun z => absurd z (by decide), fun _ => ⟨fun z => absurd z (by decide), fun _ => ⟨?_, rfl⟩⟩⟩
    have : aR T c n 0 0 u v tk = 1 := by
      unfold aR
      show iq True (iq True 1) = 1
      rw [iq_t trivial, iq_t trivial]
    rw [this]
    rfl
  | succ a ih =>
    intro ha u tk taken hu hutk htl htb
    by_cases h0 : a = 0
    · subst h0
      have hun := hB.1 u hu
      have ea : h 26 0 (Int.toNat (u : Int)) = nr T c u := by rw [Int.toNat_natCast, e.2 u hu]
      obtain ⟨z1, a1, a2, a3⟩ := and_not (nr_lt T c u) htl
      refine e_Outward_countArms (fun hv hm => ?_)
      refine mGo_wp h_Outward_countArms 80 [] ?_
      refine ⟨fun _ => ⟨⟨by omega, by omega⟩, ⟨fun z => absurd rfl z, fun _ => ⟨fun z => absurd z (by decide), fun _ => ?_⟩⟩⟩, fun z => absurd z (by decide)⟩
      refine mCall_is (show mCon l g n_Int_bitCount (d + 1) [.inl (mAnd (h 26 0 (Int.toNat (u : Int))) (mXor (taken : Int) (-1)))] h (mIs (some (.inl (bc z1 : Nat))) h) by rw [ea, a1]; exact c_Int_bitCount z1 a2 h) ?_
      refine ⟨?_, rfl⟩
      have e2 : bc z1 = (lst (fun p => p < n ∧ adT T c u p ∧ p ∉ tk) 0 n).length := by
        refine bc_lst hn (fun q => ?_) (fun q hq => hq.1)
        rw [a3, near_bit hn fb (show u < 12 by omega), htb]
        exact ⟨fun w => ⟨w.1.1.1, w.1.1.2, w.2⟩, fun w => ⟨⟨⟨w.1, w.2.1⟩, fun y => w.2.2 (y ▸ hutk)⟩, w.2.2⟩⟩
      have e1 : aR T c n (0 + 1) 0 u v tk = (lst (fun p => adT T c u p ∧ p ∉ tk) 0 n).length := by
        rw [aR_succ, lst_sm]
        refine sm_congr n (fun p _ => iq_congr2 Iff.rfl (fun _ => ?_))
        unfold aR
        show iq True (iq True 1) = 1
        rw [iq_t trivial, iq_t trivial]
      rw [e2, e1, lst_same (fun q hq => ⟨fun w => w.2, fun w => ⟨hq, w⟩⟩)]
    · exact l_arms T c n hn fb B hB h e (d + 1 + a) a 0 u v (by omega) (by omega) tk taken hu hutk htl htb (fun p t hp ht htb' => ih (by omega) p (p :: tk) t hp List.mem_cons_self ht htb')
theorem c_arms (T : Nat → Int) (c n : Nat) (hn : n ≤ 12) (fb : farB T n) (B : Nat → Prop) (hB : oB T c n B) (h : mMem) (e : oSt h T c n B) (v b : Nat) (hb : B v) : ∀ (a : Nat), a + b ≤ 4 → ∀ (u : Nat) (tk : List Nat) (taken : Nat), B u → u ∈ tk → v ∈ tk → taken < 4096 → (∀ q, taken.testBit q = true ↔ q ∈ tk) →
    mCon l g n_Outward_countArms (d + 6 + a) [.inr (5, 0), .inl u, .inl a, .inl v, .inl b, .inl taken] h (mIs (some (.inl (aR T c n a b u v tk : Nat))) h) := by
  intro a
  induction a with
  | zero =>
    intro hab u tk taken hu hutk hvtk htl htb
    by_cases h0 : b = 0
    · subst h0
      exact mCon_lift (by omega) (c_arms0 (d := d) T c n hn fb B hB h e v 0 (by omega) u tk taken hu hutk htl htb)
    · rw [aR_swap]
      refine e_Outward_countArms (fun hv hm => ?_)
      refine mGo_wp h_Outward_countArms 80 [] ?_
      refine ⟨fun z => absurd z (by decide), fun _ => ⟨fun _ => ?_, fun z => by omega⟩⟩
      refine mCall_is (mCon_lift (by omega) (c_arms0 (d := d) T c n hn fb B hB h e u b (by omega) v tk taken hb hvtk htl htb)) ?_
      exact ⟨rfl, rfl⟩
  | succ a ih =>
    intro hab u tk taken hu hutk hvtk htl htb
    by_cases h0 : a + 1 = 1 ∧ b = 0
    · obtain ⟨h1, rfl⟩ := h0
      exact mCon_lift (by omega) (c_arms0 (d := d) T c n hn fb B hB h e v (a + 1) (by omega) u tk taken hu hutk htl htb)
    · exact l_arms T c n hn fb B hB h e (d + 6 + a) a b u v (by omega) h0 tk taken hu hutk htl htb (fun p t hp ht htb' => ih (by omega) p (p :: tk) t hp List.mem_cons_self (List.mem_cons_of_mem _ hvtk) ht htb')
theorem two_bits {u v : Nat} (hu : u < 12) (hv : v < 12) : mOr (mShl 1 (u : Int)) (mShl 1 (v : Int)) = ((2 ^ u ||| 2 ^ v : Nat) : Int) ∧ 2 ^ u ||| 2 ^ v < 4096 ∧ ∀ q, (2 ^ u ||| 2 ^ v).testBit q = true ↔ q ∈ [u, v] := by
  have hu2 : 2 ^ u < 2 ^ 12 := Nat.pow_lt_pow_right (by decide) hu
  have hv2 : 2 ^ v < 2 ^ 12 := Nat.pow_lt_pow_right (by decide) hv
  refine ⟨?_, Nat.or_lt_two_pow (n := 12) hu2 hv2, fun q => ?_⟩
  · rw [mShl_1 _ (by omega), mShl_1 _ (by omega), mOr_nat (by omega) (by omega)]
  · rw [Nat.testBit_or, Nat.testBit_two_pow, Nat.testBit_two_pow, Bool.or_eq_true, decide_eq_true_eq, decide_eq_true_eq, List.mem_cons, List.mem_singleton]
    exact ⟨fun w => w.imp Eq.symm Eq.symm, fun w => w.imp Eq.symm Eq.symm⟩
theorem c_paths (T : Nat → Int) (c n : Nat) (hn : n ≤ 12) (fb : farB T n) (B : Nat → Prop) (hB : oB T c n B) (h : mMem) (e : oSt h T c n B) (u v m : Nat) (hu : B u) (hv : B v) (hm4 : m ≤ 3) :
    mCon l g n_Outward_countPaths (d + 11) [.inr (5, 0), .inl u, .inl v, .inl m] h (mIs (some (.inl (sm (fun i => aR T c n i (m - i) u v [u, v]) (m + 1) : Nat))) h) := by
  have hun := hB.1 u hu
  have hvn := hB.1 v hv
  obtain ⟨w1, w2, w3⟩ := two_bits (u := u) (v := v) (by omega) (by omega)
  have loop : ∀ (k i : Nat), i + k = m + 1 → mGo l g (mMt n_Outward_countPaths) (d + 11) 6 [some (.inr (5, 0)), some (.inl u), some (.inl v), some (.inl m), some (.inl (sm (fun i => aR T c n i (m - i) u v [u, v]) i : Nat)), some (.inl i)] [] h (mIs (some (.inl (sm (fun i => aR T c n i (m - i) u v [u, v]) (m + 1) : Nat))) h) := by
    intro k
    induction k with
    | zero =>
      intro i hi
      refine mGo_wp h_Outward_countPaths 60 [6] ?_
      refine ⟨fun _ => ⟨?_, rfl⟩, fun z => by omega⟩
      rw [show i = m + 1 by omega]
    | succ k ihk =>
      intro i hi
      refine mGo_wp h_Outward_countPaths 60 [6] ?_
      refine ⟨fun z => by omega, fun _ => ?_⟩
      have q := ihk (i + 1) (by omega)
      have b1 : sm (fun i => aR T c n i (m - i) u v [u, v]) i ≤ i * 20736 := sm_le i (fun k hk => aR_le hn (by omega))
      have b4 : aR T c n i (m - i) u v [u, v] ≤ 20736 := aR_le hn (by omega)
      have wi : mWr ((m : Int) - (i : Int)) = ((m - i : Nat) : Int) := by rw [mWr_of ⟨by omega, by omega⟩]; omega
      have qa := c_arms (l := l) (g := g) (d := d) T c n hn fb B hB h e v (m - i) hv i (by omega) u [u, v] (2 ^ u ||| 2 ^ v) hu (by simp) (by simp) w2 w3
      rw [← w1, ← wi] at qa
      refine mCall_is (mCon_lift (by omega) qa) ?_
      show mGo l g _ _ 6 [_, _, _, _, some (.inl (mWr (((sm (fun i => aR T c n i (m - i) u v [u, v]) i : Nat) : Int) + (aR T c n i (m - i) u v [u, v] : Nat)))), some (.inl (mWr ((i : Int) + 1)))] [] h _
      rw [mWr_of (x := (i : Int) + 1) ⟨by omega, by omega⟩, mWr_of ⟨by omega, by omega⟩]
      exact q
  refine e_Outward_countPaths (fun hv hm => ?_)
  refine mGo_wp h_Outward_countPaths 60 [6] ?_
  exact loop (m + 1) 0 (by omega)
theorem bc_deg {T : Nat → Int} {c n a : Nat} (hn : n ≤ 12) (fb : farB T n) (ha : a < n) : bc (nr T c a) = dgN T c n a := by
  unfold dgN
  rw [bc_lst (C := fun q => q < n ∧ q ≠ a ∧ adT T c a q) hn (fun q => ?_) (fun q hq => hq.1), lst_same (fun q hq => ⟨fun w => w.2, fun w => ⟨hq, w⟩⟩)]
  rw [near_bit hn fb (show a < 12 by omega)]
  exact ⟨fun w => ⟨w.1.1, w.2, w.1.2⟩, fun w => ⟨⟨w.1, w.2.2⟩, w.2.1⟩⟩
theorem bc_cm {T : Nat → Int} {c n a b z : Nat} (hn : n ≤ 12) (fb : farB T n) (ha : a < n) (hb : b < n) (hz : ∀ q, z.testBit q = true ↔ ((nr T c a).testBit q = true ∧ (nr T c b).testBit q = true)) : bc z = cmN T c n a b := by
  unfold cmN
  rw [bc_lst (C := fun q => q < n ∧ (q ≠ a ∧ adT T c a q) ∧ (q ≠ b ∧ adT T c b q)) hn (fun q => ?_) (fun q hq => hq.1), lst_same (fun q hq => ⟨fun w => w.2, fun w => ⟨hq, w⟩⟩)]
  rw [hz, near_bit hn fb (show a < 12 by omega), near_bit hn fb (show b < 12 by omega)]
  exact ⟨fun w => ⟨w.1.1.1, ⟨w.1.2, w.1.1.2⟩, w.2.2, w.2.1.2⟩, fun w => ⟨⟨⟨w.1, w.2.1.2⟩, w.2.1.1⟩, ⟨w.1, w.2.2.2⟩, w.2.2.1⟩⟩
theorem lst_pos {C : Nat → Prop} {n v : Nat} (hv : v < n) (hC : C v) : 1 ≤ (lst C 0 n).length := by
  have := lst_rem hv hC
  omega
theorem c_stars (T : Nat → Int) (c n : Nat) (hn : n ≤ 12) (fb : farB T n) (B : Nat → Prop) (hB : oB T c n B) (h : mMem) (e : oSt h T c n B) (u s : Nat) (hu : B u) (hs : 1 ≤ s ∧ s ≤ 6) (hd : 1 ≤ dgN T c n u) :
    mCon l g n_Outward_countStars (d + 1) [.inr (5, 0), .inl u, .inl s] h (mIs (some (.inl (bn (dgN T c n u - 1) (s - 1) : Nat))) h) := by
  have hun := hB.1 u hu
  refine e_Outward_countStars (fun hv hm => ?_)
  refine mGo_wp h_Outward_countStars 40 [] ?_
  have eu : h 26 0 (Int.toNat (u : Int)) = nr T c u := by rw [Int.toNat_natCast, e.2 u hu]
  refine ⟨⟨by omega, by omega⟩, ?_⟩
  refine mCall_is (show mCon l g n_Int_bitCount d [.inl (h 26 0 (Int.toNat (u : Int)))] h (mIs (some (.inl (bc (nr T c u) : Nat))) h) by rw [eu]; exact c_Int_bitCount _ (nr_lt T c u) h) ?_
  have hb : bc (nr T c u) ≤ 12 := cn_le _ 12
  rw [bc_deg hn fb hun] at hb ⊢
  have w1 : mWr (((dgN T c n u : Nat) : Int) - 1) = ((dgN T c n u - 1 : Nat) : Int) := by rw [mWr_of ⟨by omega, by omega⟩]; omega
  have w2 : mWr ((s : Int) - 1) = ((s - 1 : Nat) : Int) := by rw [mWr_of ⟨by omega, by omega⟩]; omega
  have q := c_K_choose (l := l) (g := g) (d := d) (dgN T c n u - 1) (s - 1) (by omega) (by omega) h
  rw [← w1, ← w2] at q
  refine mCall_is q ?_
  exact ⟨rfl, rfl⟩
theorem c_books (T : Nat → Int) (c n : Nat) (hn : n ≤ 12) (fb : farB T n) (B : Nat → Prop) (hB : oB T c n B) (h : mMem) (e : oSt h T c n B) (u v s : Nat) (hu : B u) (hv : B v) (huv : u ≠ v) (hs : 1 ≤ s ∧ s ≤ 4) (hT : adT T c u v) :
    mCon l g n_Outward_countBooks (d + 1) [.inr (5, 0), .inl u, .inl v, .inl s] h (mIs (some (.inl (bn (cmN T c n u v) s + sm (fun w => iq ((w ≠ u ∧ adT T c u w) ∧ (w ≠ v ∧ adT T c v w)) (bn (cmN T c n u w - 1) (s - 1) + bn (cmN T c n v w - 1) (s - 1))) n : Nat))) h) := by
  have hun := hB.1 u hu
  have hvn := hB.1 v hv
  have eu : h 26 0 (Int.toNat (u : Int)) = nr T c u := by rw [Int.toNat_natCast, e.2 u hu]
  have ev : h 26 0 (Int.toNat (v : Int)) = nr T c v := by rw [Int.toNat_natCast, e.2 v hv]
  obtain ⟨z, a1, a2, a3⟩ := and_and (nr_lt T c u) (nr_lt T c v)
  have zb : ∀ q, z.testBit q = true ↔ (q < n ∧ (q ≠ u ∧ adT T c u q) ∧ (q ≠ v ∧ adT T c v q)) := fun q => by
    rw [a3, near_bit hn fb (show u < 12 by omega), near_bit hn fb (show v < 12 by omega)]
    exact ⟨fun w => ⟨w.1.1.1, ⟨w.1.2, w.1.1.2⟩, w.2.2, w.2.1.2⟩, fun w => ⟨⟨⟨w.1, w.2.1.2⟩, w.2.1.1⟩, ⟨w.1, w.2.2.2⟩, w.2.2.1⟩⟩
  have hcm : ∀ a b, cmN T c n a b ≤ 12 := fun a b => by
    have := lst_le (fun q => (q ≠ a ∧ adT T c a q) ∧ (q ≠ b ∧ adT T c b q)) n
    unfold cmN
    omega
  have hbn : ∀ a b k, k < 8 → bn (cmN T c n a b - 1) k ≤ 1000 := fun a b k hk => bn_le _ (by have := hcm a b; omega) k hk
  have hbn0 : bn (cmN T c n u v) s ≤ 1000 := bn_le _ (by have := hcm u v; omega) s (by omega)
  have loop : ∀ (m p : Nat), p + m = n → mGo l g (mMt n_Outward_countBooks) (d + 1) 29 [some (.inr (5, 0)), some (.inl u), some (.inl v), some (.inl s), some (.inl z), some (.inl (bn (cmN T c n u v) s + sm (fun w => iq ((w ≠ u ∧ adT T c u w) ∧ (w ≠ v ∧ adT T c v w)) (bn (cmN T c n u w - 1) (s - 1) + bn (cmN T c n v w - 1) (s - 1))) p : Nat)), some (.inl p)] [] h (mIs (some (.inl (bn (cmN T c n u v) s + sm (fun w => iq ((w ≠ u ∧ adT T c u w) ∧ (w ≠ v ∧ adT T c v w)) (bn (cmN T c n u w - 1) (s - 1) + bn (cmN T c n v w - 1) (s - 1))) n : Nat))) h) := by
    intro m
    induction m with
    | zero =>
      intro p hp
      refine mGo_wp h_Outward_countBooks 100 [29] ?_
      refine ⟨fun _ => ⟨?_, rfl⟩, fun y => by rw [e.1] at y; omega⟩
      rw [show p = n by omega]
    | succ m ihm =>
      intro p hp
      refine mGo_wp h_Outward_countBooks 100 [29] ?_
      have hbit := bit_at z p a2 (by omega)
      have q := ihm (p + 1) (by omega)
      have b1 : sm (fun w => iq ((w ≠ u ∧ adT T c u w) ∧ (w ≠ v ∧ adT T c v w)) (bn (cmN T c n u w - 1) (s - 1) + bn (cmN T c n v w - 1) (s - 1))) p ≤ p * 2000 := sm_le p (fun k _ => Nat.le_trans (iq_le _ _) (by
        have x1 := hbn u k (s - 1) (by omega)
        have x2 := hbn v k (s - 1) (by omega)
        omega))
      refine ⟨fun y => by rw [e.1] at y; omega, fun _ => ⟨fun y => ?_, fun y => ⟨⟨by omega, by omega⟩, ⟨by omega, by omega⟩, ?_⟩⟩⟩
      · rw [hbit] at y
        have hC : ¬ ((p ≠ u ∧ adT T c u p) ∧ (p ≠ v ∧ adT T c v p)) := fun w => by
          rw [if_pos ((zb p).mpr ⟨by omega, w⟩)] at y
          exact y rfl
        have e1 : sm (fun w => iq ((w ≠ u ∧ adT T c u w) ∧ (w ≠ v ∧ adT T c v w)) (bn (cmN T c n u w - 1) (s - 1) + bn (cmN T c n v w - 1) (s - 1))) (p + 1) = sm (fun w => iq ((w ≠ u ∧ adT T c u w) ∧ (w ≠ v ∧ adT T c v w)) (bn (cmN T c n u w - 1) (s - 1) + bn (cmN T c n v w - 1) (s - 1))) p := by
          show _ + iq ((p ≠ u ∧ adT T c u p) ∧ (p ≠ v ∧ adT T c v p)) _ = _
          rw [iq_f hC]
          rfl
        rw [e1] at q
        show mGo l g _ _ 29 [_, _, _, _, _, _, some (.inl (mWr ((p : Int) + 1)))] [] h _
        rw [mWr_of ⟨by omega, by omega⟩]
        exact q
      · rw [hbit] at y
        have hC : (p ≠ u ∧ adT T c u p) ∧ (p ≠ v ∧ adT T c v p) := by
          by_cases hb : z.testBit p = true
          · exact ((zb p).mp hb).2
          · rw [if_neg hb] at y
            exact absurd y (by decide)
        have hpB : B p := hB.2 u p hu (by omega) hC.1.1 hC.1.2
        have ep : h 26 0 (Int.toNat (p : Int)) = nr T c p := by rw [Int.toNat_natCast, e.2 p hpB]
        obtain ⟨z1, c1, c2, c3⟩ := and_and (nr_lt T c u) (nr_lt T c p)
        obtain ⟨z2, d1, d2, d3⟩ := and_and (nr_lt T c v) (nr_lt T c p)
        have k1 := bc_cm (z := z1) hn fb hun (show p < n by omega) c3
        have k2 := bc_cm (z := z2) hn fb hvn (show p < n by omega) d3
        have m1 : 1 ≤ cmN T c n u p := lst_pos (v := v) hvn ⟨⟨fun x => huv x.symm, hT⟩, fun x => hC.2.1 x.symm, adT_sym _ _ hC.2.2⟩
        have m2 : 1 ≤ cmN T c n v p := lst_pos (v := u) hun ⟨⟨huv, adT_sym _ _ hT⟩, fun x => hC.1.1 x.symm, adT_sym _ _ hC.1.2⟩
        have n1 := hcm u p
        have n2 := hcm v p
        have w1 : mWr (((bc z1 : Nat) : Int) - 1) = ((cmN T c n u p - 1 : Nat) : Int) := by rw [k1, mWr_of ⟨by omega, by omega⟩]; omega
        have w2 : mWr (((bc z2 : Nat) : Int) - 1) = ((cmN T c n v p - 1 : Nat) : Int) := by rw [k2, mWr_of ⟨by omega, by omega⟩]; omega
        have w3 : mWr ((s : Int) - 1) = ((s - 1 : Nat) : Int) := by rw [mWr_of ⟨by omega, by omega⟩]; omega
        refine mCall_is (show mCon l g n_Int_bitCount d [.inl (mAnd (h 26 0 (Int.toNat (u : Int))) (h 26 0 (Int.toNat (p : Int))))] h (mIs (some (.inl (bc z1 : Nat))) h) by rw [eu, ep, c1]; exact c_Int_bitCount _ c2 h) ?_
        have q1 := c_K_choose (l := l) (g := g) (d := d) (cmN T c n u p - 1) (s - 1) (by omega) (by omega) h
        rw [← w1, ← w3] at q1
        refine mCall_is q1 ?_
        refine ⟨⟨by omega, by omega⟩, ⟨by omega, by omega⟩, ?_⟩
        refine mCall_is (show mCon l g n_Int_bitCount d [.inl (mAnd (h 26 0 (Int.toNat (v : Int))) (h 26 0 (Int.toNat (p : Int))))] h (mIs (some (.inl (bc z2 : Nat))) h) by rw [ev, ep, d1]; exact c_Int_bitCount _ d2 h) ?_
        have q2 := c_K_choose (l := l) (g := g) (d := d) (cmN T c n v p - 1) (s - 1) (by omega) (by omega) h
        rw [← w2, ← w3] at q2
        refine mCall_is q2 ?_
        have x1 := hbn u p (s - 1) (by omega)
        have x2 := hbn v p (s - 1) (by omega)
        have e1 : sm (fun w => iq ((w ≠ u ∧ adT T c u w) ∧ (w ≠ v ∧ adT T c v w)) (bn (cmN T c n u w - 1) (s - 1) + bn (cmN T c n v w - 1) (s - 1))) (p + 1) = sm (fun w => iq ((w ≠ u ∧ adT T c u w) ∧ (w ≠ v ∧ adT T c v w)) (bn (cmN T c n u w - 1) (s - 1) + bn (cmN T c n v w - 1) (s - 1))) p + (bn (cmN T c n u p - 1) (s - 1) + bn (cmN T c n v p - 1) (s - 1)) := by
          show _ + iq ((p ≠ u ∧ adT T c u p) ∧ (p ≠ v ∧ adT T c v p)) _ = _
          rw [iq_t hC]
        rw [e1] at q
        show mGo l g _ _ 29 [_, _, _, _, _, some (.inl (mWr (mWr (((bn (cmN T c n u v) s + sm (fun w => iq ((w ≠ u ∧ adT T c u w) ∧ (w ≠ v ∧ adT T c v w)) (bn (cmN T c n u w - 1) (s - 1) + bn (cmN T c n v w - 1) (s - 1))) p : Nat) : Int) + (bn (cmN T c n u p - 1) (s - 1) : Nat)) + (bn (cmN T c n v p - 1) (s - 1) : Nat)))), some (.inl (mWr ((p : Int) + 1)))] [] h _
        rw [mWr_of (x := (p : Int) + 1) ⟨by omega, by omega⟩, mWr_of (x := ((bn (cmN T c n u v) s + sm (fun w => iq ((w ≠ u ∧ adT T c u w) ∧ (w ≠ v ∧ adT T c v w)) (bn (cmN T c n u w - 1) (s - 1) + bn (cmN T c n v w - 1) (s - 1))) p : Nat) : Int) + (bn (cmN T c n u p - 1) (s - 1) : Nat)) ⟨by omega, by omega⟩, mWr_of ⟨by omega, by omega⟩]
        rw [show ((bn (cmN T c n u v) s + sm (fun w => iq ((w ≠ u ∧ adT T c u w) ∧ (w ≠ v ∧ adT T c v w)) (bn (cmN T c n u w - 1) (s - 1) + bn (cmN T c n v w - 1) (s - 1))) p : Nat) : Int) + (bn (cmN T c n u p - 1) (s - 1) : Nat) + (bn (cmN T c n v p - 1) (s - 1) : Nat) = ((bn (cmN T c n u v) s + (sm (fun w => iq ((w ≠ u ∧ adT T c u w) ∧ (w ≠ v ∧ adT T c v w)) (bn (cmN T c n u w - 1) (s - 1) + bn (cmN T c n v w - 1) (s - 1))) p + (bn (cmN T c n u p - 1) (s - 1) + bn (cmN T c n v p - 1) (s - 1))) : Nat) : Int) by omega]
        exact q
  refine e_Outward_countBooks (fun hv hm => ?_)
  refine mGo_wp h_Outward_countBooks 100 [29] ?_
  refine ⟨⟨by omega, by omega⟩, ⟨by omega, by omega⟩, ?_⟩
  have w0 : mAnd (h 26 0 (Int.toNat (u : Int))) (h 26 0 (Int.toNat (v : Int))) = (z : Int) := by rw [eu, ev, a1]
  refine mCall_is (show mCon l g n_Int_bitCount d [.inl (mAnd (h 26 0 (Int.toNat (u : Int))) (h 26 0 (Int.toNat (v : Int))))] h (mIs (some (.inl (bc z : Nat))) h) by rw [w0]; exact c_Int_bitCount _ a2 h) ?_
  have k0 := bc_cm (z := z) hn fb hun hvn a3
  have n0 := hcm u v
  rw [k0]
  refine mCall_is (c_K_choose (cmN T c n u v) s (by omega) (by omega) h) ?_
  show mGo l g _ _ 29 [_, _, _, _, some (.inl (mAnd (h 26 0 (Int.toNat (u : Int))) (h 26 0 (Int.toNat (v : Int))))), _, _] [] h _
  rw [w0]
  exact loop n 0 (by omega)
end Out2
