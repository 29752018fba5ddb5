section Pts
variable {l : Launch} {g : mG} {d : Nat}
/-- a ring's points -/
theorem s_addPoint2 (c : Nat) (hc : c < 3) (T : Nat → Int) (L mm ms : Nat) (es : List Nat) (md : Int) (r : List Nat) (p : Nat) (hp : p < 12) (hr : ∀ x ∈ r, x < 12) (hpr : p ∉ r) (hl : r.length ≤ 7) (hes : es.length < 18) (hms : ms < 50) (hle : ms ≤ mm) (h : mMem) (e : sSt h T mm es ms md) (er : rowAt h r) (ek : h 40 0 c = 2) (eL : h 41 0 c = L) (hL : 3 ≤ L ∧ L ≤ 6) :
    mCon l g n_M_addPoint (d + 2) [.inr (9, 0), .inl c, .inl r.length, .inl p] h (ptK h T c 2 L mm ms es md r p) := by
  refine e_M_addPoint (fun hv hm => ?_)
  refine mGo_wp h_M_addPoint 120 [] ?_
  have t : ((c : Int)).toNat = c := Int.toNat_natCast c
  refine ⟨⟨by omega, by omega⟩, ?_⟩
  rw [t, ek]
  refine ⟨fun _ => ⟨fun _ => ⟨fun _ => ?_, fun z => absurd z (by decide)⟩, fun z => absurd z (by decide)⟩, fun z => absurd z (by decide)⟩
  have lc : mCon l g n_M_lengthOf (d + 1) [.inr (9, 0), .inl (c : Int)] h (mIs (some (.inl (L : Int))) h) := by
    have q := c_M_lengthOf (l := l) (g := g) (d := d + 1) c hc 2 L (by omega) h ek eL
    unfold lenOf at q
    rw [if_neg (by decide), if_neg (by decide)] at q
    exact q
  have m1 : ∀ a : Nat, msN T c [a] ≤ 1 := fun a => by
    show (if T a = c then 0 else 1) + 0 ≤ 1
    split <;> omega
  have jc : 0 < r.length → mCon l g n_M_addEdge (d + 1) [.inr (9, 0), .inl c, .inl (h 44 0 (Int.toNat (mWr ((r.length : Int) - 1)))), .inl p] h (fun v h' => v = some (.inl (mBc (ms + msN T c [jn (r.getD (r.length - 1) 0) p] ≤ mm))) ∧ farE h h' ∧ sSt h' T mm (es ++ [jn (r.getD (r.length - 1) 0) p]) (ms + msN T c [jn (r.getD (r.length - 1) 0) p]) (msD T c md [jn (r.getD (r.length - 1) 0) p])) := by
    intro h0
    have hm0 := getD_mem (r := r) (j := r.length - 1) (by omega)
    rw [mWr_of ⟨by omega, by omega⟩, show ((r.length : Int) - 1).toNat = r.length - 1 by omega, er (r.length - 1) (by omega)]
    exact s_addEdge (r.getD (r.length - 1) 0) p c T mm ms es md (hr _ hm0) hp (fun z => hpr (z ▸ hm0)) (by omega) (by omega) h e
  have hsum : msN T c [jn (r.getD (r.length - 1) 0) p, jn p (r.getD 0 0)] = msN T c [jn (r.getD (r.length - 1) 0) p] + msN T c [jn p (r.getD 0 0)] := msN_app T c [_] [_]
  have hneL : 0 < r.length → r.length = L - 1 → newE 2 L r p = [jn (r.getD (r.length - 1) 0) p, jn p (r.getD 0 0)] := fun h0 h1 => by
    show (if r.length = 0 then _ else if r.length = L - 1 then _ else _) = _
    rw [if_neg (by omega), if_pos h1]
  have hneM : 0 < r.length → r.length ≠ L - 1 → newE 2 L r p = [jn (r.getD (r.length - 1) 0) p] := fun h0 h1 => by
    show (if r.length = 0 then _ else if r.length = L - 1 then _ else _) = _
    rw [if_neg (by omega), if_neg h1]
  have jc2 : 0 < r.length → r.length = L - 1 → ordP 2 L r p → ∀ h', farE h h' → sSt h' T mm (es ++ [jn (r.getD (r.length - 1) 0) p]) (ms + msN T c [jn (r.getD (r.length - 1) 0) p]) (msD T c md [jn (r.getD (r.length - 1) 0) p]) → mCon l g n_M_addEdge (d + 1) [.inr (9, 0), .inl c, .inl p, .inl (h' 44 0 (Int.toNat 0))] h' (ptK h T c 2 L mm ms es md r p) := by
    intro h0 h1 ho h' f1 f2
    have hm1 := getD_mem (r := r) (j := 0) h0
    have r1 : h' 44 0 (Int.toNat 0) = ((r.getD 0 0 : Nat) : Int) := by
      rw [f1 _ _ _ (by simp)]
      exact er 0 h0
    rw [r1]
    have b0 := m1 (jn (r.getD (r.length - 1) 0) p)
    refine mCon_mono (s_addEdge p (r.getD 0 0) c T mm (ms + msN T c [jn (r.getD (r.length - 1) 0) p]) (es ++ [jn (r.getD (r.length - 1) 0) p]) (msD T c md [jn (r.getD (r.length - 1) 0) p]) hp (hr _ hm1) (fun z => hpr (z ▸ hm1)) (by simp; omega) (by omega) h' f2) ?_
    rintro v h2 ⟨rfl, g1, g2⟩
    unfold ptK
    rw [hneL h0 h1]
    refine ⟨?_, farE.tr (by rw [e.1, f2.1, List.length_append]; omega) f1 g1, fun _ => sSt_two g2⟩
    rw [mBc_congr]
    unfold okP
    rw [hneL h0 h1, hsum]
    exact ⟨fun z => ⟨ho, by omega⟩, fun z => by omega⟩
  refine ⟨fun z => ?_, fun z => ?_⟩
  · have h0 : 0 < r.length := by omega
    have g0 : h 44 0 (Int.toNat 0) = ((r.getD 0 0 : Nat) : Int) := er 0 h0
    refine mCall_is lc ?_
    refine ⟨fun y => ⟨fun _ => ⟨⟨by decide, by decide⟩, ⟨fun w => ?_, fun w => ⟨fun _ => ⟨⟨?_, ?_⟩, ?_⟩, fun x => absurd rfl x⟩⟩⟩, fun x => absurd x (by decide)⟩, fun y => ⟨fun _ => ⟨⟨by decide, by decide⟩, ⟨fun w => ?_, fun w => ⟨fun x => absurd x (by decide), fun _ => ⟨⟨by decide, by decide⟩, ⟨fun u => ?_, fun u => ⟨⟨?_, ?_⟩, ?_⟩⟩⟩⟩⟩⟩, fun x => absurd x (by decide)⟩⟩
    · rw [g0] at w
      have no : ¬ okP T c 2 L mm ms r p := fun y => by
        rcases y.1 with y1 | y1 <;> omega
      exact ⟨Or.inl rfl, by rw [mBc_f no], farE.rf, fun y => absurd y no⟩
    · rw [mWr_of ⟨by omega, by omega⟩]
      omega
    · rw [mWr_of ⟨by omega, by omega⟩]
      omega
    · rw [g0] at w
      rw [mWr_of ⟨by omega, by omega⟩] at y
      have hq : r.length ≠ L - 1 := by omega
      have hne := hneM h0 hq
      have okq : okP T c 2 L mm ms r p ↔ ms + msN T c [jn (r.getD (r.length - 1) 0) p] ≤ mm := by
        unfold okP
        rw [hne]
        exact ⟨fun y => y.2, fun y => ⟨Or.inr ⟨by omega, Or.inl hq⟩, y⟩⟩
      refine mCall_on2 (jc h0) ?_
      rintro v h' ⟨rfl, f1, f2⟩
      have f3 : okP T c 2 L mm ms r p → sSt h' T mm (es ++ newE 2 L r p) (ms + msN T c (newE 2 L r p)) (msD T c md (newE 2 L r p)) := fun _ => by
        rw [hne]
        exact f2
      refine ⟨fun y => ⟨Or.inl rfl, ?_, f1, f3⟩, fun y => ⟨fun _ => ⟨Or.inr rfl, ?_, f1, f3⟩, fun x => absurd rfl x⟩⟩
      · rw [mBc_f (fun w => mBc_eq0.mp y (okq.mp w))]
      · rw [mBc_t (okq.mpr (mBc_ne0.mp y))]
    · rw [g0] at w
      have no : ¬ okP T c 2 L mm ms r p := fun y => by
        rcases y.1 with y1 | y1 <;> omega
      exact ⟨Or.inl rfl, by rw [mBc_f no], farE.rf, fun y => absurd y no⟩
    · rw [mWr_of ⟨by omega, by omega⟩] at y
      rw [show h 44 0 (Int.toNat 1) = _ from er 1 (by omega)] at u
      have no : ¬ okP T c 2 L mm ms r p := fun y => by
        rcases y.1 with y1 | y1 <;> omega
      exact ⟨Or.inl rfl, by rw [mBc_f no], farE.rf, fun y => absurd y no⟩
    · rw [mWr_of ⟨by omega, by omega⟩]
      omega
    · rw [mWr_of ⟨by omega, by omega⟩]
      omega
    · rw [g0] at w
      rw [mWr_of ⟨by omega, by omega⟩] at y
      rw [show h 44 0 (Int.toNat 1) = _ from er 1 (by omega)] at u
      have hq : r.length = L - 1 := by omega
      have ho : ordP 2 L r p := Or.inr ⟨by omega, Or.inr (by omega)⟩
      refine mCall_on2 (jc h0) ?_
      rintro v h' ⟨rfl, f1, f2⟩
      refine ⟨fun y => ?_, fun y => ⟨fun x => absurd x (by decide), fun _ => ⟨⟨by decide, by decide⟩, ?_⟩⟩⟩
      · have no : ¬ okP T c 2 L mm ms r p := fun w => by
          have w2 := w.2
          rw [hneL h0 hq, hsum] at w2
          exact mBc_eq0.mp y (by omega)
        exact ⟨Or.inl rfl, by rw [mBc_f no], f1, fun y => absurd y no⟩
      · refine mCall_on2 (jc2 h0 hq ho h' f1 f2) ?_
        rintro v h2 ⟨rfl, g1, g2⟩
        refine ⟨fun y => ⟨Or.inl rfl, by rw [y], g1, g2⟩, fun y => ⟨Or.inr rfl, ?_, g1, g2⟩⟩
        rw [mBc_t (mBc_ne0.mp y)]
  · have hz : r.length = 0 := by omega
    have hne : newE 2 L r p = [] := if_pos hz
    have ok : okP T c 2 L mm ms r p := by
      unfold okP
      rw [hne]
      exact ⟨Or.inl hz, hle⟩
    refine ⟨Or.inr rfl, by rw [mBc_t ok], farE.rf, fun _ => ?_⟩
    rw [hne, List.append_nil]
    exact e
end Pts
