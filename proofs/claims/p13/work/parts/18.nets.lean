/-! a net, as both sides hold it: points, colours, kinds, sizes, colours of the joins -/
abbrev nN : Type := Nat × Nat × (Nat → Int) × (Nat → Int) × (Nat → Int)
abbrev nP (N : nN) : Nat := N.1
abbrev nC (N : nN) : Nat := N.2.1
abbrev nK (N : nN) : Nat → Int := N.2.2.1
abbrev nS (N : nN) : Nat → Int := N.2.2.2.1
abbrev nT (N : nN) : Nat → Int := N.2.2.2.2
abbrev szOk (k s : Int) : Prop := (k = 0 ∧ s = 0) ∨ (k = 1 ∧ 2 ≤ s ∧ s ≤ 6) ∨ (k = 2 ∧ 3 ≤ s ∧ s ≤ 5) ∨ (k = 3 ∧ 1 ≤ s ∧ s ≤ 6) ∨ (k = 4 ∧ 1 ≤ s ∧ s ≤ 4) ∨ (k = 5 ∧ 2 ≤ s ∧ s ≤ 5)
def nOk (N : nN) : Prop := (1 ≤ nP N ∧ nP N ≤ 12) ∧ (2 ≤ nC N ∧ nC N ≤ 3) ∧ (∀ k, k < 3 → szOk (nK N k) (nS N k)) ∧ (∀ k, k < 66 → -1 ≤ nT N k ∧ nT N k < nC N) ∧ (∀ k, js (nP N) ≤ k → k < 66 → nT N k = -1)
/-- the bits of the points that a point is joined with in a colour -/
def nrB (T : Nat → Int) (c q : Nat) : Nat → Nat
  | 0 => 0
  | r + 1 => nrB T c q r + (if r ≠ q ∧ T (jn q r) = c then 2 ^ r else 0)
def nr (T : Nat → Int) (c q : Nat) : Nat := nrB T c q 12
def isM (h : mMem) (N : nN) : Prop := h 9 0 0 = nP N ∧ h 9 0 1 = nC N ∧ (∀ k, k < 3 → h 40 0 k = nK N k) ∧ (∀ k, k < 3 → h 41 0 k = nS N k) ∧ (∀ k, k < 66 → h 42 0 k = nT N k)
def isC (h : mMem) (i : Fin 8) (N : nN) : Prop := h 4 i 0 = nP N ∧ h 4 i 1 = nC N ∧ (∀ k, k < 3 → h 20 i k = nK N k) ∧ (∀ k, k < 3 → h 21 i k = nS N k) ∧ (∀ k, k < 66 → h 22 i k = nT N k) ∧ (∀ c, c < 3 → ∀ q, q < 12 → h 23 i (c * 12 + q) = nr (nT N) c q)
abbrev vBAD : Int := -1000000001
abbrev vNO : Int := -1000000002
abbrev vFULL : Int := -1000000003
abbrev vLARGE : Int := -1000000004
abbrev vSPENT : Int := -1000000006
abbrev vNONE : Int := -1000000005
def nJoin (N : nN) (a b : Int) : Prop := (0 ≤ a ∧ a < nP N) ∧ (0 ≤ b ∧ b < nP N) ∧ a ≠ b
def nCol (N : nN) (q : Int) : Prop := 0 ≤ q ∧ q < nC N
noncomputable def spColour (N : nN) (a b : Int) : Int := if (0 ≤ a ∧ a < nP N) ∧ (0 ≤ b ∧ b < nP N) ∧ a ≠ b then nT N (jn a.toNat b.toNat) else vBAD
noncomputable def spAim (N : nN) (q w : Int) : Int := if (0 ≤ q ∧ q < nC N) ∧ (0 ≤ w ∧ w ≤ 1) then (if w = 0 then nK N q.toNat else nS N q.toNat) else vBAD
noncomputable def spIsOf (N : nN) (q k : Int) : Int := if (0 ≤ q ∧ q < nC N) ∧ (0 ≤ k ∧ k ≤ 6) then (if nK N q.toNat = k ∨ (k = 6 ∧ (nK N q.toNat = 2 ∨ nK N q.toNat = 5)) then 1 else 0) else vBAD
section Reads
variable {l : Launch} {g : mG} {d : Nat}
theorem c_K_colour (a b : Int) (N : nN) (h : mMem) (o : nOk N) (e : isC h 0 N) : mCon l g n_K_colour (d + 2) [.inr (8, 0), .inl a, .inl b] h (mIs (some (.inl (spColour N a b))) h) := by
  refine e_K_colour (fun hv hm => ?_)
  refine mGo_wp h_K_colour 40 [] ?_
  refine mCall_is (c_Net_hasJoin 0 a b h) ?_
  have hp := o.1.2
  refine ⟨fun c => ?_, fun c => ?_⟩
  · rw [mB_eq0, e.1] at c
    exact ⟨by rw [spColour, if_neg c], rfl⟩
  · have c := mB_ne0.mp c
    rw [e.1] at c
    obtain ⟨⟨a0, a1⟩, ⟨b0, b1⟩, ab⟩ := id c
    obtain ⟨a', rfl⟩ := Int.eq_ofNat_of_zero_le a0
    obtain ⟨b', rfl⟩ := Int.eq_ofNat_of_zero_le b0
    have hj := jn_lt a' (by omega) b' (by omega) (by omega)
    refine mCall_is (c_K_numberOf a' b' (by omega) (by omega) h) ?_
    refine ⟨⟨by omega, by omega⟩, ?_, rfl⟩
    rw [spColour, if_pos c, Int.toNat_natCast, Int.toNat_natCast, Int.toNat_natCast, e.2.2.2.2.1 _ hj]
theorem c_M_colour (a b : Int) (N : nN) (h : mMem) (o : nOk N) (e : isM h N) : mCon l g n_M_colour (d + 3) [.inr (9, 0), .inl a, .inl b] h (mIs (some (.inl (spColour N a b))) h) := by
  refine e_M_colour (fun hv hm => ?_)
  refine mGo_wp h_M_colour 40 [] ?_
  have hp := o.1.2
  refine mCall_is (c_M_areTwo a b (nP N) (by omega) h e.1) ?_
  refine ⟨fun c => ?_, fun c => ?_⟩
  · rw [mB_eq0] at c
    exact ⟨by rw [spColour, if_neg c], rfl⟩
  · have c := mB_ne0.mp c
    obtain ⟨⟨a0, a1⟩, ⟨b0, b1⟩, ab⟩ := id c
    obtain ⟨a', rfl⟩ := Int.eq_ofNat_of_zero_le a0
    obtain ⟨b', rfl⟩ := Int.eq_ofNat_of_zero_le b0
    have hj := jn_lt a' (by omega) b' (by omega) (by omega)
    refine mCall_is (c_M_join a' b' (by omega) (by omega) h) ?_
    refine ⟨⟨by omega, by omega⟩, ?_, rfl⟩
    rw [spColour, if_pos c, Int.toNat_natCast, Int.toNat_natCast, Int.toNat_natCast, e.2.2.2.2 _ hj]
theorem c_K_aim (q w : Int) (N : nN) (h : mMem) (o : nOk N) (e : isC h 0 N) : mCon l g n_K_aim (d + 1) [.inr (8, 0), .inl q, .inl w] h (mIs (some (.inl (spAim N q w))) h) := by
  refine e_K_aim (fun hv hm => ?_)
  refine mGo_wp h_K_aim 40 [] ?_
  refine mCall_is (c_Net_hasColour 0 q h) ?_
  have hc := o.2.1.2
  refine ⟨fun c => ?_, fun c => ⟨fun c2 => ?_, fun c2 => ⟨fun c3 => ?_, fun c3 => ?_⟩⟩⟩
  · rw [mB_eq0, e.2.1] at c
    exact ⟨by rw [spAim, if_neg (fun z => c z.1)], rfl⟩
  · exact ⟨by rw [spAim, if_neg (fun z => by omega)], rfl⟩
  · have c := mB_ne0.mp c
    rw [e.2.1] at c
    refine ⟨fun c4 => ⟨⟨by omega, by omega⟩, ?_, rfl⟩, fun c4 => ⟨⟨by omega, by omega⟩, ?_, rfl⟩⟩
    · rw [spAim, if_pos ⟨c, c2, c3⟩, if_neg c4, e.2.2.2.1 _ (by omega)]
    · rw [spAim, if_pos ⟨c, c2, c3⟩, if_pos c4, e.2.2.1 _ (by omega)]
  · exact ⟨by rw [spAim, if_neg (fun z => by omega)], rfl⟩
theorem c_M_aim (q w : Int) (N : nN) (h : mMem) (o : nOk N) (e : isM h N) : mCon l g n_M_aim (d + 2) [.inr (9, 0), .inl q, .inl w] h (mIs (some (.inl (spAim N q w))) h) := by
  refine e_M_aim (fun hv hm => ?_)
  refine mGo_wp h_M_aim 40 [] ?_
  have hc := o.2.1.2
  refine mCall_is (c_M_isColour q (nC N) (by omega) h e.2.1) ?_
  refine ⟨fun c => ?_, fun c => ?_⟩
  · rw [mB_eq0] at c
    exact ⟨by rw [spAim, if_neg (fun z => c z.1)], rfl⟩
  · have c := mB_ne0.mp c
    refine mCall_is (c_M_isIn w 0 1 h) ?_
    refine ⟨fun c2 => ?_, fun c2 => ?_⟩
    · have c2 := mB_ne0.mp c2
      refine ⟨fun c4 => ⟨⟨by omega, by omega⟩, ?_, rfl⟩, fun c4 => ⟨⟨by omega, by omega⟩, ?_, rfl⟩⟩
      · rw [spAim, if_pos ⟨c, c2⟩, if_neg c4, e.2.2.2.1 _ (by omega)]
      · rw [spAim, if_pos ⟨c, c2⟩, if_pos c4, e.2.2.1 _ (by omega)]
    · rw [mB_eq0] at c2
      exact ⟨by rw [spAim, if_neg (fun z => c2 z.2)], rfl⟩
end Reads
