theorem getD_left {a b : List Nat} {i : Nat} (h : i < a.length) : (a ++ b).getD i 0 = a.getD i 0 := by
  rw [List.getD_eq_getElem?_getD, List.getElem?_append_left h, ← List.getD_eq_getElem?_getD]
theorem getD_right {a b : List Nat} {i : Nat} : (a ++ b).getD (a.length + i) 0 = b.getD i 0 := by
  rw [List.getD_eq_getElem?_getD, List.getElem?_append_right (by omega), Nat.add_sub_cancel_left, ← List.getD_eq_getElem?_getD]
theorem getD_take {a : List Nat} {i j : Nat} (h : i < j) : (a.take j).getD i 0 = a.getD i 0 := by
  rw [List.getD_eq_getElem?_getD, List.getElem?_take_of_lt h, ← List.getD_eq_getElem?_getD]
def farW (m : Nat) (h h' : mMem) : Prop := ∀ (t : Nat) (i : Fin 8) (q : Nat), ¬ (t = 24 ∧ m ≤ q) → h' t i q = h t i q
theorem farW.rf {m : Nat} {h : mMem} : farW m h h := fun _ _ _ _ => rfl
theorem farW.tr {m : Nat} {h h1 h2 : mMem} (a : farW m h h1) (b : farW m h1 h2) : farW m h h2 := fun t i k z => (b t i k z).trans (a t i k z)
theorem farW.le {m m' : Nat} {h h1 : mMem} (hm : m ≤ m') (a : farW m' h h1) : farW m h h1 := fun t i k z => a t i k (fun y => z ⟨y.1, by omega⟩)
theorem farW.F {m : Nat} {h h1 : mMem} (a : farW m h h1) : farF h h1 := fun t i k z => a t i k (fun y => z (Or.inr (Or.inl y.1)))
theorem fSt_W {m : Nat} {h h1 : mMem} {T : Nat → Int} {c k L n : Nat} (e : fSt h T c k L n) (a : farW m h h1) : fSt h1 T c k L n :=
  ⟨(a _ _ _ (by simp)).trans e.1, (a _ _ _ (by simp)).trans e.2.1, (a _ _ _ (by simp)).trans e.2.2.1, fun q hq => (a _ _ _ (by simp)).trans (e.2.2.2 q hq)⟩
theorem rowF_W {h h1 : mMem} {r : List Nat} (e : rowF h r) (a : farW r.length h h1) : rowF h1 r := fun j hj => (a _ _ _ (by simp; omega)).trans (e j hj)
theorem rowF_add {h : mMem} {r : List Nat} {p : Nat} (e : rowF h r) : rowF (mSet h 24 0 r.length p) (r ++ [p]) := by
  intro j hj
  rw [app_len] at hj
  by_cases hq : j = r.length
  · rw [hq, mSet_at, getD_app1]
  · rw [mSet_no (fun z => hq z.2.2), getD_app2 _ _ _ (by omega)]
    exact e j (by omega)
theorem rest_iff {k L : Nat} (hk : kOk k L) (x : Nat) : ((L : Int) - 1 ≤ x ∨ (k = 3 ∧ 1 ≤ (x : Int)) ∨ (k = 4 ∧ 2 ≤ (x : Int))) ↔ frK k L ≤ x := by
  unfold frK
  rcases hk with ⟨rfl, h1, h2⟩ | ⟨rfl, h1, h2⟩ | ⟨rfl, h1, h2⟩ | ⟨rfl, h1, h2⟩ | ⟨rfl, h1, h2⟩
  · rw [if_neg (by decide), if_neg (by decide)]; omega
  · rw [if_neg (by decide), if_neg (by decide)]; omega
  · rw [if_pos rfl]; omega
  · rw [if_neg (by decide), if_pos rfl]; omega
  · rw [if_neg (by decide), if_neg (by decide)]; omega
theorem frK_le {k L : Nat} (hk : kOk k L) : frK k L ≤ L - 1 ∧ 1 ≤ L ∧ (k = 3 → frK k L = 1) ∧ (k = 4 → frK k L = 2) := by
  unfold frK
  rcases hk with ⟨rfl, h1, h2⟩ | ⟨rfl, h1, h2⟩ | ⟨rfl, h1, h2⟩ | ⟨rfl, h1, h2⟩ | ⟨rfl, h1, h2⟩
  · rw [if_neg (by decide), if_neg (by decide)]; omega
  · rw [if_neg (by decide), if_neg (by decide)]; omega
  · rw [if_pos rfl]; omega
  · rw [if_neg (by decide), if_pos rfl]; omega
  · rw [if_neg (by decide), if_neg (by decide)]; omega
section Count
variable {l : Launch} {g : mG} {d : Nat}
theorem c_Finder_takeLeast (dp L n cand : Nat) (hL : dp ≤ L ∧ L ≤ 7) (hn : n ≤ 12) (hcl : cand < 4096) (C : Nat → Prop) (hcb : ∀ q, cand.testBit q = true ↔ C q) (h : mMem) (e1 : h 1 0 1 = L) (e3 : h 1 0 3 = n) :
    mCon l g n_Finder_takeLeast d [.inr (1, 0), .inl dp, .inl cand] h (fun v h' => v = some (.inl (mBc (L - dp ≤ (lst C 0 n).length))) ∧ (L - dp ≤ (lst C 0 n).length → ∀ i, i < L - dp → h' 24 0 (dp + i) = ((lst C 0 n).getD i 0 : Nat)) ∧ farW dp h h') := by
  have tail : ∀ (p : Nat) (h1 : mMem), p ≤ n → (p = n ∨ (lst C 0 p).length = L - dp) → (lst C 0 p).length ≤ L - dp → (∀ i, i < (lst C 0 p).length → h1 24 0 (dp + i) = ((lst C 0 p).getD i 0 : Nat)) → farW dp h h1 →
      mGo l g (mMt n_Finder_takeLeast) d 49 [some (.inr (1, 0)), some (.inl dp), some (.inl cand), some (.inl (dp + (lst C 0 p).length : Nat)), some (.inl p)] [] h1 (fun v h' => v = some (.inl (mBc (L - dp ≤ (lst C 0 n).length))) ∧ (L - dp ≤ (lst C 0 n).length → ∀ i, i < L - dp → h' 24 0 (dp + i) = ((lst C 0 n).getD i 0 : Nat)) ∧ farW dp h h') := by
    intro p h1 hp hor hle hw f
    refine mGo_wp h_Finder_takeLeast 60 [] ?_
    have e1' : h1 1 0 1 = L := (f _ _ _ (by simp)).trans e1
    have ha := lst_app C 0 p (n - p)
    rw [show p + (n - p) = n by omega, Nat.zero_add] at ha
    have hlen : (lst C 0 n).length = (lst C 0 p).length + (lst C p (n - p)).length := by rw [ha, List.length_append]
    refine ⟨fun z => ?_, fun z => ?_⟩
    · rw [e1'] at z
      have hz : (lst C 0 n).length < L - dp := by
        rcases hor with rfl | y
        · omega
        · omega
      exact ⟨Or.inl rfl, by rw [mBc_f (by omega)], fun y => by omega, f⟩
    · rw [e1'] at z
      refine ⟨Or.inr rfl, by rw [mBc_t (by omega)], fun _ i hi => ?_, f⟩
      rw [hw i (by omega), ha, getD_left (by omega)]
  have loop : ∀ (m p : Nat) (h1 : mMem), p + m = n → (lst C 0 p).length ≤ L - dp → (∀ i, i < (lst C 0 p).length → h1 24 0 (dp + i) = ((lst C 0 p).getD i 0 : Nat)) → farW dp h h1 →
      mGo l g (mMt n_Finder_takeLeast) d 5 [some (.inr (1, 0)), some (.inl dp), some (.inl cand), some (.inl (dp + (lst C 0 p).length : Nat)), some (.inl p)] [] h1 (fun v h' => v = some (.inl (mBc (L - dp ≤ (lst C 0 n).length))) ∧ (L - dp ≤ (lst C 0 n).length → ∀ i, i < L - dp → h' 24 0 (dp + i) = ((lst C 0 n).getD i 0 : Nat)) ∧ farW dp h h') := by
    intro m
    induction m with
    | zero =>
      intro p h1 hp hle hw f
      refine mGo_wp h_Finder_takeLeast 60 [5, 49] ?_
      have e3' : h1 1 0 3 = n := (f _ _ _ (by simp)).trans e3
      refine ⟨fun _ => ?_, fun z => by rw [e3'] at z; omega⟩
      exact tail p h1 (by omega) (Or.inl (by omega)) hle hw f
    | succ m ih =>
      intro p h1 hp hle hw f
      refine mGo_wp h_Finder_takeLeast 60 [5, 49] ?_
      have e3' : h1 1 0 3 = n := (f _ _ _ (by simp)).trans e3
      have e1' : h1 1 0 1 = L := (f _ _ _ (by simp)).trans e1
      have hbit := bit_at cand p hcl (by omega)
      refine ⟨fun z => by rw [e3'] at z; omega, fun _ => ⟨fun z => ?_, fun z => ⟨fun y => ?_, fun y => ⟨⟨by omega, by rw [e1'] at z; omega⟩, ?_⟩⟩⟩⟩
      · rw [e1'] at z
        exact tail p h1 (by omega) (Or.inr (by omega)) hle hw f
      · rw [hbit] at y
        have hC : ¬ C p := fun w => by
          rw [if_pos ((hcb p).mpr w)] at y
          exact y rfl
        have e0 : lst C 0 (p + 1) = lst C 0 p := by
          rw [lst_app, Nat.zero_add, lst_no hC]
          exact List.append_nil _
        have q := ih (p + 1) h1 (by omega)
        rw [e0] at q
        show mGo l g _ _ 5 [_, _, _, _, some (.inl (mWr ((p : Int) + 1)))] [] h1 _
        rw [mWr_of ⟨by omega, by omega⟩]
        exact q hle hw f
      · rw [hbit] at y
        rw [e1'] at z
        have hC : C p := by
          by_cases hb : cand.testBit p = true
          · exact (hcb p).mp hb
          · rw [if_neg hb] at y
            exact absurd y (by decide)
        have e0 : lst C 0 (p + 1) = lst C 0 p ++ [p] := by
          rw [lst_app, Nat.zero_add, lst_yes hC]
          rfl
        have q := ih (p + 1) (mSet h1 24 0 (dp + (lst C 0 p).length) p) (by omega)
        rw [e0, app_len] at q
        show mGo l g _ _ 5 [_, _, _, some (.inl (mWr (((dp + (lst C 0 p).length : Nat) : Int) + 1))), some (.inl (mWr ((p : Int) + 1)))] [] (mSet h1 24 0 (Int.toNat ((dp + (lst C 0 p).length : Nat) : Int)) (p : Int)) _
        rw [mWr_of ⟨by omega, by omega⟩, mWr_of ⟨by omega, by omega⟩, Int.toNat_natCast]
        refine q (by omega) (fun i hi => ?_) (f.tr (fun t j k w => mSet_no (fun x => w ⟨x.1, by omega⟩)))
        by_cases hq : i = (lst C 0 p).length
        · rw [hq, mSet_at, getD_app1]
        · rw [mSet_no (fun x => hq (by omega)), getD_app2 _ _ _ (by omega)]
          exact hw i (by omega)
  refine e_Finder_takeLeast (fun hv hm => ?_)
  refine mGo_wp h_Finder_takeLeast 60 [5] ?_
  exact loop n 0 h (by omega) (Nat.zero_le _) (fun i hi => absurd hi (Nat.not_lt_zero i)) farW.rf
theorem takes_len (T : Nat → Int) (c : Int) (k L n : Nat) (hn : n ≤ 12) (j : Nat) (hj : j ≤ 7) (r es : List Nat) : (takesF T c 0 k L n j r es).length ≤ 35831808 :=
  Nat.le_trans (List.length_filter_le _ _) (Nat.le_trans (rowsF_len k L n hn j r es) (show 12 ^ j ≤ 12 ^ 7 from Nat.pow_le_pow_right (by decide) hj))
theorem takes_zero {T : Nat → Int} {c : Int} {k L n : Nat} {r : List Nat} {C : Nat → Prop} (hk : kOk k L) (hr : r.length = frK k L) (hC : ∀ q, C q ↔ cdP T c k L n r q) (es : List Nat) (ms : msN T c es = 0) :
    (takesF T c 0 k L n (L - r.length) r es).length = bn (lst C 0 n).length (L - r.length) ∧ (L - r.length ≤ (lst C 0 n).length → ∃ es' xs, takesF T c 0 k L n (L - r.length) r es = (r ++ (lst C 0 n).take (L - r.length), es') :: xs) := by
  have q := free_count (free_of (T := T) (c := c) (n := n) hk hr) (L - r.length) 0 [] es (Nat.zero_add _) List.Pairwise.nil (fun x hx => (List.not_mem_nil hx).elim) (fun x hx => (List.not_mem_nil hx).elim) (fun _ _ x hx => (List.not_mem_nil hx).elim) (fun q hq _ => absurd hq (Nat.not_lt_zero q)) (Nat.zero_le n) ms
  rw [List.append_nil, Nat.sub_zero, ← lst_congr hC] at q
  exact q
theorem c_countFrom (c : Nat) (T : Nat → Int) (k L n : Nat) (hk : kOk k L) (hn : n ≤ 12) (fb : farB T n) : ∀ (i : Nat) (r es : List Nat) (cand used : Nat) (h : mMem), r.length + i = frK k L → (∀ x ∈ r, x < n) → cand < 4096 → (∀ q, cand.testBit q = true ↔ cdP T c k L n r q) → used < 4096 → (∀ q, used.testBit q = true ↔ q ∈ r) → msN T c es = 0 → fSt h T c k L n → rowF h r →
    mCon l g n_Finder_countFrom (d + 2 + i) [.inr (1, 0), .inl r.length, .inl cand, .inl used] h (fun v h' => v = some (.inl ((takesF T c 0 k L n (L - r.length) r es).length : Nat)) ∧ farW r.length h h') := by
  have hL7 := kOk_le hk
  obtain ⟨fr1, fr2, fr3, fr4⟩ := frK_le hk
  intro i
  induction i with
  | zero =>
    intro r es cand used h hr hx hcl hcb hul hub ms e er
    show mCon l g n_Finder_countFrom (d + 1 + 1) _ _ _
    obtain ⟨e1, e2, e3, e4⟩ := e
    have hr' : r.length = frK k L := by omega
    refine e_Finder_countFrom (fun hv hm => ?_)
    refine mGo_wp h_Finder_countFrom 120 [] ?_
    refine mCall_is (c_Finder_isRestFree r.length k L ⟨fr2, by omega⟩ h e1 e2) ?_
    rw [mB_congr (rest_iff hk r.length), mB_t (by omega)]
    refine ⟨fun z => absurd z (by decide), fun _ => ?_⟩
    refine mCall_is (c_Int_bitCount cand hcl h) ?_
    have hb : bc cand ≤ 12 := cn_le _ 12
    have w : mWr (h 1 0 1 - (r.length : Int)) = ((L - r.length : Nat) : Int) := by rw [e1, mWr_of ⟨by omega, by omega⟩]; omega
    have q := c_K_choose (l := l) (g := g) (d := d + 1) (bc cand) (L - r.length) (by omega) (by omega) h
    rw [← w] at q
    refine mCall_is q ?_
    refine ⟨?_, farW.rf⟩
    rw [(takes_zero hk hr' (fun q => Iff.rfl) es ms).1, bc_lst hn hcb (fun q hq => hq.1)]
  | succ i ih =>
    intro r es cand used h hr hx hcl hcb hul hub ms e er
    show mCon l g n_Finder_countFrom (d + 2 + i + 1) _ _ _
    obtain ⟨j, hj⟩ : ∃ j, L - r.length = j + 1 := ⟨L - r.length - 1, by omega⟩
    rw [hj, takesF_succ]
    have hbd : (takesP T c 0 k L n j r es 0 n).length ≤ 35831808 := by
      rw [← takesF_succ]
      exact takes_len T c k L n hn (j + 1) (by omega) r es
    have loop : ∀ (m p : Nat) (x6 : Option mRV) (s : Nat) (h1 : mMem), p + m = n → farW r.length h h1 → s + (takesP T c 0 k L n j r es p m).length = (takesP T c 0 k L n j r es 0 n).length →
        mGo l g (mMt n_Finder_countFrom) (d + 2 + i + 1) 28 [some (.inr (1, 0)), some (.inl r.length), some (.inl cand), some (.inl used), some (.inl s), some (.inl p), x6] [] h1 (fun v h' => v = some (.inl ((takesP T c 0 k L n j r es 0 n).length : Nat)) ∧ farW r.length h h') := by
      intro m
      induction m with
      | zero =>
        intro p x6 s h1 hp f hs
        refine mGo_wp h_Finder_countFrom 120 [28] ?_
        have e3' := (fSt_W e f).2.2.1
        refine ⟨fun _ => ⟨?_, f⟩, fun z => by rw [e3'] at z; omega⟩
        rw [← hs]
        rfl
      | succ m ihm =>
        intro p x6 s h1 hp f hs
        refine mGo_wp h_Finder_countFrom 120 [28] ?_
        have eF := fSt_W e f
        obtain ⟨e1', e2', e3', e4'⟩ := id eF
        have hbit := bit_at cand p hcl (by omega)
        refine ⟨fun z => by rw [e3'] at z; omega, fun _ => ⟨fun y => ?_, fun y => ⟨⟨by omega, by omega⟩, ?_⟩⟩⟩
        · rw [hbit] at y
          have hC : ¬ cdP T c k L n r p := fun w => by
            rw [if_pos ((hcb p).mpr w)] at y
            exact y rfl
          rw [takesP_no (fun w => hC ⟨by omega, w.1, by rw [ms] at w; exact w.2⟩)] at hs
          show mGo l g _ _ 28 [_, _, _, _, _, some (.inl (mWr ((p : Int) + 1))), _] [] h1 _
          rw [mWr_of ⟨by omega, by omega⟩]
          exact ihm (p + 1) x6 s h1 (by omega) f hs
        · rw [hbit] at y
          have hC : cdP T c k L n r p := by
            by_cases hb : cand.testBit p = true
            · exact (hcb p).mp hb
            · rw [if_neg hb] at y
              exact absurd y (by decide)
          have hp2 : 2 ^ p < 2 ^ 12 := Nat.pow_lt_pow_right (by decide) (show p < 12 by omega)
          have ht2 : used ||| 2 ^ p < 4096 := Nat.or_lt_two_pow (n := 12) hul hp2
          have wt : mOr (used : Int) (mShl 1 (p : Int)) = ((used ||| 2 ^ p : Nat) : Int) := by rw [mShl_1 _ (by omega), mOr_nat (by omega) (by omega)]
          have wd : mWr ((r.length : Int) + 1) = (((r ++ [p]).length : Nat) : Int) := by rw [mWr_of ⟨by omega, by omega⟩, app_len]; rfl
          have f2 : farW r.length h1 (mSet h1 24 0 r.length (p : Int)) := fun t a q w => mSet_no (fun x => w ⟨x.1, by omega⟩)
          have er2 := rowF_add (p := p) (rowF_W er f)
          have hx2 : ∀ x ∈ r ++ [p], x < n := fun x hx' => by
            rcases List.mem_append.mp hx' with w | w
            · exact hx x w
            · rw [List.mem_singleton.mp w]; omega
          have qc := c_Finder_candidatesAfter (l := l) (g := g) (d := d + 1 + i) c T k L n hk hn fb r p (fun x hx' => by have := hx2 x hx'; omega) (by omega) (fun z => by have := fr3 z; omega) (fun z => by have := fr4 z; omega) cand (used ||| 2 ^ p) hcl hcb hC ht2 (or_bit hub) (mSet h1 24 0 r.length (p : Int)) (fSt_W eF f2) er2
          rw [← wt] at qc
          refine mCall_on2 (mCon_lift (by omega) qc) ?_
          rintro v h2 ⟨rfl, z, rfl, z1, z2⟩
          have ms2 : msN T c (es ++ newE k L r p) = 0 := by
            have := hC.2.2.2
            rw [msN_app, ms]
            omega
          have qi := ih (r ++ [p]) (es ++ newE k L r p) z (used ||| 2 ^ p) (mSet h1 24 0 r.length (p : Int)) (by rw [app_len]; omega) hx2 z1 z2 ht2 (or_bit hub) ms2 (fSt_W eF f2) er2
          rw [← wt, ← wd] at qi
          refine mCall_on2 qi ?_
          rintro v h3 ⟨rfl, f3⟩
          have hok : p ∉ r ∧ okP T c k L 0 (msN T c es) r p := by rw [ms]; exact hC.2
          rw [takesP_yes hok, List.length_append] at hs
          have hjj : L - (r ++ [p]).length = j := by rw [app_len]; omega
          show mGo l g _ _ 28 [_, _, _, _, some (.inl (mWr ((s : Int) + ((takesF T c 0 k L n (L - (r ++ [p]).length) (r ++ [p]) (es ++ newE k L r p)).length : Nat)))), some (.inl (mWr ((p : Int) + 1))), _] [] h3 _
          rw [hjj, mWr_of (x := (p : Int) + 1) ⟨by omega, by omega⟩, mWr_of ⟨by omega, by omega⟩]
          have q := ihm (p + 1) (some (.inl (mOr (used : Int) (mShl 1 (p : Int))))) (s + (takesF T c 0 k L n j (r ++ [p]) (es ++ newE k L r p)).length) h3 (by omega) (f.tr (f2.tr (farW.le (by rw [app_len]; omega) f3))) (by omega)
          exact q
    refine e_Finder_countFrom (fun hv hm => ?_)
    refine mGo_wp h_Finder_countFrom 120 [28] ?_
    refine mCall_is (c_Finder_isRestFree r.length k L ⟨fr2, by omega⟩ h e.1 e.2.1) ?_
    rw [mB_congr (rest_iff hk r.length), mB_f (by omega)]
    refine ⟨fun _ => ?_, fun z => absurd rfl z⟩
    exact loop n 0 none 0 h (by omega) farW.rf (Nat.zero_add _)
end Count
