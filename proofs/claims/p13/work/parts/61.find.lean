section Find
variable {l : Launch} {g : mG} {d : Nat}
theorem c_findFrom (c : Nat) (T : Nat → Int) (k L n : Nat) (hk : kOk k L) (hn : n ≤ 12) (fb : farB T n) : ∀ (i : Nat) (r es : List Nat) (cand used : Nat) (h : mMem), r.length + i = frK k L → (∀ x ∈ r, x < n) → cand < 4096 → (∀ q, cand.testBit q = true ↔ cdP T c k L n r q) → used < 4096 → (∀ q, used.testBit q = true ↔ q ∈ r) → msN T c es = 0 → fSt h T c k L n → rowF h r →
    mCon l g n_Finder_findFrom (d + 2 + i) [.inr (1, 0), .inl r.length, .inl cand, .inl used] h (fun v h' => v = some (.inl (mBc (takesF T c 0 k L n (L - r.length) r es ≠ []))) ∧ (∀ x xs, takesF T c 0 k L n (L - r.length) r es = x :: xs → rowF h' x.1) ∧ farW r.length h h') := by
  have hL7 := kOk_le hk
  obtain ⟨fr1, fr2, fr3, fr4⟩ := frK_le hk
  intro i
  induction i with
  | zero =>
    intro r es cand used h hr hx hcl hcb hul hub ms e er
    show mCon l g n_Finder_findFrom (d + 1 + 1) _ _ _
    obtain ⟨e1, e2, e3, e4⟩ := e
    have hr' : r.length = frK k L := by omega
    refine e_Finder_findFrom (fun hv hm => ?_)
    refine mGo_wp h_Finder_findFrom 120 [] ?_
    refine mCall_is (c_Finder_isRestFree r.length k L ⟨fr2, by omega⟩ h e1 e2) ?_
    rw [mB_congr (rest_iff hk r.length), mB_t (by omega)]
    refine ⟨fun z => absurd z (by decide), fun _ => ?_⟩
    refine mCall_on2 (c_Finder_takeLeast r.length L n cand ⟨by omega, hL7⟩ hn hcl (cdP T c k L n r) hcb h e1 e3) ?_
    rintro v h' ⟨rfl, w, f⟩
    obtain ⟨t1, t2⟩ := takes_zero (n := n) hk hr' (fun q => Iff.rfl) es ms
    have key : takesF T c 0 k L n (L - r.length) r es ≠ [] ↔ L - r.length ≤ (lst (cdP T c k L n r) 0 n).length := by
      constructor
      · intro z
        by_cases y : L - r.length ≤ (lst (cdP T c k L n r) 0 n).length
        · exact y
        · rw [bn_zero _ _ (by omega)] at t1
          exact absurd (List.length_eq_zero_iff.mp t1) z
      · intro z y
        obtain ⟨es', xs, w2⟩ := t2 z
        rw [y] at w2
        cases w2
    refine ⟨mBc_01 _, ?_, fun x xs hxs => ?_, f⟩
    · rw [mBc_congr key]
    · have hz := key.mp (by rw [hxs]; simp)
      obtain ⟨es', xs', w2⟩ := t2 hz
      have hx1 : x.1 = r ++ (lst (cdP T c k L n r) 0 n).take (L - r.length) := by
        rw [hxs] at w2
        rw [(List.cons.inj w2).1]
      rw [hx1]
      intro j hj
      rw [List.length_append, List.length_take] at hj
      by_cases hq : j < r.length
      · rw [getD_left hq, f _ _ _ (by simp; omega)]
        exact er j hq
      · have hj2 : j = r.length + (j - r.length) := by omega
        rw [hj2, getD_right, getD_take (by omega)]
        exact w hz (j - r.length) (by omega)
  | succ i ih =>
    intro r es cand used h hr hx hcl hcb hul hub ms e er
    show mCon l g n_Finder_findFrom (d + 2 + i + 1) _ _ _
    obtain ⟨j, hj⟩ : ∃ j, L - r.length = j + 1 := ⟨L - r.length - 1, by omega⟩
    rw [hj, takesF_succ]
    have loop : ∀ (m p : Nat) (x5 : Option mRV) (h1 : mMem), p + m = n → farW r.length h h1 → takesP T c 0 k L n j r es p m = takesP T c 0 k L n j r es 0 n →
        mGo l g (mMt n_Finder_findFrom) (d + 2 + i + 1) 18 [some (.inr (1, 0)), some (.inl r.length), some (.inl cand), some (.inl used), some (.inl p), x5] [] h1 (fun v h' => v = some (.inl (mBc (takesP T c 0 k L n j r es 0 n ≠ []))) ∧ (∀ x xs, takesP T c 0 k L n j r es 0 n = x :: xs → rowF h' x.1) ∧ farW r.length h h') := by
      intro m
      induction m with
      | zero =>
        intro p x5 h1 hp f hs
        refine mGo_wp h_Finder_findFrom 120 [18] ?_
        have e3' := (fSt_W e f).2.2.1
        rw [← hs, takesP_zero]
        exact ⟨fun _ => ⟨Or.inl rfl, by rw [mBc_f (fun z => z rfl)], (fun x xs hxs => by cases hxs), f⟩, fun z => by rw [e3'] at z; omega⟩
      | succ m ihm =>
        intro p x5 h1 hp f hs
        refine mGo_wp h_Finder_findFrom 120 [18] ?_
        have eF := fSt_W e f
        obtain ⟨e1', e2', e3', e4'⟩ := id eF
        have hbit := bit_at cand p hcl (by omega)
        refine ⟨fun z => by rw [e3'] at z; omega, fun _ => ⟨fun y => ?_, fun y => ⟨⟨by omega, by omega⟩, ?_⟩⟩⟩
        · rw [hbit] at y
          have hC : ¬ cdP T c k L n r p := fun w => by
            rw [if_pos ((hcb p).mpr w)] at y
            exact y rfl
          rw [takesP_no (fun w => hC ⟨by omega, w.1, by rw [ms] at w; exact w.2⟩)] at hs
          show mGo l g _ _ 18 [_, _, _, _, some (.inl (mWr ((p : Int) + 1))), _] [] h1 _
          rw [mWr_of ⟨by omega, by omega⟩]
          exact ihm (p + 1) x5 h1 (by omega) f hs
        · rw [hbit] at y
          have hC : cdP T c k L n r p := by
            by_cases hb : cand.testBit p = true
            · exact (hcb p).mp hb
            · rw [if_neg hb] at y
              exact absurd y (by decide)
          have hp2 : 2 ^ p < 2 ^ 12 := Nat.pow_lt_pow_right (by decide) (show p < 12 by omega)
          have ht2 : used ||| 2 ^ p < 4096 := Nat.or_lt_two_pow (n := 12) hul hp2
          have wt : mOr (used : Int) (mShl 1 (p : Int)) = ((used ||| 2 ^ p : Nat) : Int) := by rw [mShl_1 _ (by omega), mOr_nat (by omega) (by omega)]
          have wd : mWr ((r.length : Int) + 1) = (((r ++ [p]).length : Nat) : Int) := by rw [mWr_of ⟨by omega, by omega⟩, app_len]; rfl
          have f2 : farW r.length h1 (mSet h1 24 0 r.length (p : Int)) := fun t a q w => mSet_no (fun x => w ⟨x.1, by omega⟩)
          have er2 := rowF_add (p := p) (rowF_W er f)
          have hx2 : ∀ x ∈ r ++ [p], x < n := fun x hx' => by
            rcases List.mem_append.mp hx' with w | w
            · exact hx x w
            · rw [List.mem_singleton.mp w]; omega
          have qc := c_Finder_candidatesAfter (l := l) (g := g) (d := d + 1 + i) c T k L n hk hn fb r p (fun x hx' => by have := hx2 x hx'; omega) (by omega) (fun z => by have := fr3 z; omega) (fun z => by have := fr4 z; omega) cand (used ||| 2 ^ p) hcl hcb hC ht2 (or_bit hub) (mSet h1 24 0 r.length (p : Int)) (fSt_W eF f2) er2
          rw [← wt] at qc
          refine mCall_on2 (mCon_lift (by omega) qc) ?_
          rintro v h2 ⟨rfl, z, rfl, z1, z2⟩
          have ms2 : msN T c (es ++ newE k L r p) = 0 := by
            have := hC.2.2.2
            rw [msN_app, ms]
            omega
          have qi := ih (r ++ [p]) (es ++ newE k L r p) z (used ||| 2 ^ p) (mSet h1 24 0 r.length (p : Int)) (by rw [app_len]; omega) hx2 z1 z2 ht2 (or_bit hub) ms2 (fSt_W eF f2) er2
          rw [← wt, ← wd] at qi
          refine mCall_on2 qi ?_
          rintro v h3 ⟨rfl, f4, f3⟩
          have hok : p ∉ r ∧ okP T c k L 0 (msN T c es) r p := by rw [ms]; exact hC.2
          rw [takesP_yes hok] at hs
          have hjj : L - (r ++ [p]).length = j := by rw [app_len]; omega
          rw [hjj] at f4 ⊢
          have f5 := f.tr (f2.tr (farW.le (m := r.length) (by rw [app_len]; omega) f3))
          refine ⟨fun y => ?_, fun y => ?_⟩
          · have hnil := Classical.not_not.mp (mBc_eq0.mp y)
            rw [hnil, List.nil_append] at hs
            show mGo l g _ _ 18 [_, _, _, _, some (.inl (mWr ((p : Int) + 1))), _] [] h3 _
            rw [mWr_of ⟨by omega, by omega⟩]
            exact ihm (p + 1) _ h3 (by omega) f5 hs
          · have hnn := mBc_ne0.mp y
            cases hxx : takesF T c 0 k L n j (r ++ [p]) (es ++ newE k L r p) with
            | nil => exact absurd hxx hnn
            | cons x xs =>
              rw [hxx] at hs f4
              rw [← hs]
              refine ⟨Or.inr rfl, by rw [mBc_t (by simp)], fun x' xs' hxs => ?_, f5⟩
              have := (List.cons.inj hxs).1
              rw [← this]
              exact f4 x xs rfl
    refine e_Finder_findFrom (fun hv hm => ?_)
    refine mGo_wp h_Finder_findFrom 120 [18] ?_
    refine mCall_is (c_Finder_isRestFree r.length k L ⟨fr2, by omega⟩ h e.1 e.2.1) ?_
    rw [mB_congr (rest_iff hk r.length), mB_f (by omega)]
    refine ⟨fun _ => ?_, fun z => absurd rfl z⟩
    exact loop n 0 none h (by omega) farW.rf rfl
theorem c_Finder_findFirst (i : Fin 8) (c : Nat) (N : nN) (o : nOk N) (hc : c < 3) (h : mMem) (e : isC h i N) : mCon l g n_Finder_findFirst (d + 9) [.inr (1, 0), .inr (4, i), .inl c] h (fun v h' => v = some (.inl (mBc (cpL N c 0 ≠ []))) ∧ (∀ x xs, cpL N c 0 = x :: xs → rowF h' x.1 ∧ h' 1 0 1 = x.1.length) ∧ farF h h') := by
  refine e_Finder_findFirst (fun hv hm => ?_)
  refine mGo_wp h_Finder_findFirst 60 [] ?_
  have hsz := o.2.2.1 c hc
  refine mCall_on2 (mCon_lift (by omega) (c_Finder_lookAt (d := d) i c hc N hsz h e)) ?_
  rintro v h1 ⟨rfl, e1, e2, e3, e4, f1⟩
  refine ⟨fun z => ?_, fun z => ?_⟩
  · rw [e2] at z
    have hnil : cpL N c 0 = [] := by unfold cpL; rw [if_pos z]
    rw [hnil]
    exact ⟨Or.inl rfl, by rw [mBc_f (fun z => z rfl)], (fun x xs hxs => by cases hxs), f1⟩
  · rw [e2] at z
    obtain ⟨k1, k2, k3, k4, k5⟩ := kOk_of hsz z
    have hcp : cpL N c 0 = takesF (nT N) c 0 (nkk N c) (nln N c) (nP N) (nln N c) [] [] := by unfold cpL; rw [if_neg z]
    have hn := o.1.2
    have hp2 : 2 ^ nP N ≤ 2 ^ 12 := Nat.pow_le_pow_right (by decide) hn
    have k1 : kOk (nkk N c) (nln N c) := k1
    have fr := frK_le k1
    have hL7 := kOk_le k1
    refine mCall_is (c_Net_pointBits i (nP N) hn h1 (isC_farF e f1).1) ?_
    have q := c_findFrom (l := l) (g := g) (d := d) c (nT N) (nkk N c) (nln N c) (nP N) k1 hn o.2.2.2.2 (frK (nkk N c) (nln N c)) [] [] (2 ^ nP N - 1) 0 h1 (Nat.zero_add _) (fun x hx => (List.not_mem_nil hx).elim) (by omega) (fun q => by rw [Nat.testBit_two_pow_sub_one, decide_eq_true_eq, cd_nil]) (by decide) (fun q => by simp) rfl ⟨by rw [e1, k3], by rw [e2, k2], e3, e4⟩ (fun j hj => absurd hj (Nat.not_lt_zero j))
    refine mCall_on2 (mCon_lift (by omega) q) ?_
    rintro v h2 ⟨rfl, g1, g2⟩
    rw [show nln N c - ([] : List Nat).length = nln N c from rfl, ← hcp] at g1 ⊢
    have gg : ∀ x xs, cpL N c 0 = x :: xs → rowF h2 x.1 ∧ h2 1 0 1 = x.1.length := fun x xs hxs => by
      refine ⟨g1 x xs hxs, ?_⟩
      rw [(cpL_row o hc (x := x) (mm := 0) (by rw [hxs]; exact List.mem_cons_self)).1, g2 _ _ _ (by simp), e1, k3]
    refine ⟨fun y => ⟨Or.inl rfl, by rw [y], gg, f1.tr g2.F⟩, fun y => ⟨Or.inr rfl, ?_, gg, f1.tr g2.F⟩⟩
    rw [mBc_t (mBc_ne0.mp y)]
theorem c_Finder_howMany (i : Fin 8) (c : Nat) (N : nN) (o : nOk N) (hc : c < 3) (h : mMem) (e : isC h i N) : mCon l g n_Finder_howMany (d + 9) [.inr (1, 0), .inr (4, i), .inl c] h (fun v h' => v = some (.inl ((cpL N c 0).length : Nat)) ∧ farF h h') := by
  refine e_Finder_howMany (fun hv hm => ?_)
  refine mGo_wp h_Finder_howMany 60 [] ?_
  have hsz := o.2.2.1 c hc
  refine mCall_on2 (mCon_lift (by omega) (c_Finder_lookAt (d := d) i c hc N hsz h e)) ?_
  rintro v h1 ⟨rfl, e1, e2, e3, e4, f1⟩
  refine ⟨fun z => ?_, fun z => ?_⟩
  · rw [e2] at z
    obtain ⟨k1, k2, k3, k4, k5⟩ := kOk_of hsz z
    have hcp : cpL N c 0 = takesF (nT N) c 0 (nkk N c) (nln N c) (nP N) (nln N c) [] [] := by unfold cpL; rw [if_neg z]
    have hn := o.1.2
    have hp2 : 2 ^ nP N ≤ 2 ^ 12 := Nat.pow_le_pow_right (by decide) hn
    have k1 : kOk (nkk N c) (nln N c) := k1
    have fr := frK_le k1
    have hL7 := kOk_le k1
    refine mCall_is (c_Net_pointBits i (nP N) hn h1 (isC_farF e f1).1) ?_
    have q := c_countFrom (l := l) (g := g) (d := d) c (nT N) (nkk N c) (nln N c) (nP N) k1 hn o.2.2.2.2 (frK (nkk N c) (nln N c)) [] [] (2 ^ nP N - 1) 0 h1 (Nat.zero_add _) (fun x hx => (List.not_mem_nil hx).elim) (by omega) (fun q => by rw [Nat.testBit_two_pow_sub_one, decide_eq_true_eq, cd_nil]) (by decide) (fun q => by simp) rfl ⟨by rw [e1, k3], by rw [e2, k2], e3, e4⟩ (fun j hj => absurd hj (Nat.not_lt_zero j))
    refine mCall_on2 (mCon_lift (by omega) q) ?_
    rintro v h2 ⟨rfl, g2⟩
    rw [show nln N c - ([] : List Nat).length = nln N c from rfl, ← hcp]
    exact ⟨rfl, f1.tr g2.F⟩
  · rw [e2] at z
    have hnil : cpL N c 0 = [] := by unfold cpL; rw [if_pos z]
    rw [hnil]
    exact ⟨rfl, f1⟩
theorem l_Finder_hasAny (i : Fin 8) (N : nN) (o : nOk N) (h : mMem) (e : isC h i N) : ∀ (n c : Nat) (h1 : mMem), c + n = nC N → farF h h1 → (∀ c', c' < c → cpL N c' 0 = []) → mGo l g (mMt n_Finder_hasAny) (d + 10) 2 [some (.inr (1, 0)), some (.inr (4, i)), some (.inl c)] [] h1 (fun v h' => v = some (.inl (mBc (¬ nClear N))) ∧ farF h h') := by
  have hC := o.2.1.2
  intro n
  induction n with
  | zero =>
    intro c h1 hc f hz
    refine mGo_wp h_Finder_hasAny 40 [2] ?_
    have e1 := (isC_farF e f).2.1
    refine ⟨fun _ => ⟨Or.inl rfl, ?_, f⟩, fun z => by rw [e1] at z; omega⟩
    rw [mBc_f (fun z => z (fun c' hc' => hz c' (by omega)))]
  | succ n ih =>
    intro c h1 hc f hz
    refine mGo_wp h_Finder_hasAny 40 [2] ?_
    have e2 := isC_farF e f
    have e1 := e2.2.1
    refine ⟨fun z => by rw [e1] at z; omega, fun _ => ?_⟩
    refine mCall_on2 (c_Finder_findFirst i c N o (by omega) h1 e2) ?_
    rintro v h' ⟨rfl, -, f2⟩
    refine ⟨fun z => ?_, fun z => ⟨Or.inr rfl, ?_, f.tr f2⟩⟩
    · show mGo l g _ _ 2 [_, _, some (.inl (mWr ((c : Int) + 1)))] [] h' _
      rw [mWr_of ⟨by omega, by omega⟩]
      refine ih (c + 1) h' (by omega) (f.tr f2) (fun c' hc' => ?_)
      by_cases hq : c' = c
      · rw [hq]
        exact Classical.not_not.mp (mBc_eq0.mp z)
      · exact hz c' (by omega)
    · rw [mBc_t (p := ¬ nClear N) (fun w => mBc_ne0.mp z (w c (by omega)))]
theorem c_Finder_hasAny (i : Fin 8) (N : nN) (o : nOk N) (h : mMem) (e : isC h i N) : mCon l g n_Finder_hasAny (d + 10) [.inr (1, 0), .inr (4, i)] h (fun v h' => v = some (.inl (mBc (¬ nClear N))) ∧ farF h h') := by
  refine e_Finder_hasAny (fun hv hm => ?_)
  refine mGo_wp h_Finder_hasAny 40 [2] ?_
  exact l_Finder_hasAny i N o h e (nC N) 0 h (by omega) farF.rf (fun c' hc' => by omega)
theorem l_Finder_clashes (i : Fin 8) (N : nN) (o : nOk N) (h : mMem) (e : isC h i N) : ∀ (n c : Nat) (h1 : mMem), c + n = nC N → farF h h1 → mGo l g (mMt n_Finder_clashes) (d + 10) 4 [some (.inr (1, 0)), some (.inr (4, i)), some (.inl (sm (fun c => (cpL N c 0).length) c : Nat)), some (.inl c)] [] h1 (fun v h' => v = some (.inl (nClash N : Nat)) ∧ farF h h') := by
  have hC := o.2.1.2
  intro n
  induction n with
  | zero =>
    intro c h1 hc f
    refine mGo_wp h_Finder_clashes 40 [4] ?_
    have e1 := (isC_farF e f).2.1
    have : c = nC N := by omega
    subst this
    exact ⟨fun _ => ⟨rfl, f⟩, fun z => by rw [e1] at z; omega⟩
  | succ n ih =>
    intro c h1 hc f
    refine mGo_wp h_Finder_clashes 40 [4] ?_
    have e2 := isC_farF e f
    have e1 := e2.2.1
    refine ⟨fun z => by rw [e1] at z; omega, fun _ => ?_⟩
    refine mCall_on2 (c_Finder_howMany i c N o (by omega) h1 e2) ?_
    rintro v h' ⟨rfl, f2⟩
    have b1 := nClash_part o (k := c) (by omega)
    have b2 := cpL_le o (c := c) (by omega)
    show mGo l g _ _ 4 [_, _, some (.inl (mWr (((sm (fun c => (cpL N c 0).length) c : Nat) : Int) + ((cpL N c 0).length : Nat)))), some (.inl (mWr ((c : Int) + 1)))] [] h' _
    rw [mWr_of ⟨by omega, by omega⟩, mWr_of ⟨by omega, by omega⟩]
    exact ih (c + 1) h' (by omega) (f.tr f2)
theorem c_Finder_clashes (i : Fin 8) (N : nN) (o : nOk N) (h : mMem) (e : isC h i N) : mCon l g n_Finder_clashes (d + 10) [.inr (1, 0), .inr (4, i)] h (fun v h' => v = some (.inl (nClash N : Nat)) ∧ farF h h') := by
  refine e_Finder_clashes (fun hv hm => ?_)
  refine mGo_wp h_Finder_clashes 40 [4] ?_
  exact l_Finder_clashes i N o h e (nC N) 0 h (by omega) farF.rf
end Find
