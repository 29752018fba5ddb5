section Pts
variable {l : Launch} {g : mG} {d : Nat}
theorem sSt_two {h : mMem} {T : Nat → Int} {c : Int} {mm ms : Nat} {es : List Nat} {md : Int} {a b : Nat} (e : sSt h T mm (es ++ [a] ++ [b]) (ms + msN T c [a] + msN T c [b]) (msD T c (msD T c md [a]) [b])) : sSt h T mm (es ++ [a, b]) (ms + msN T c [a, b]) (msD T c md [a, b]) := by
  have h1 : msN T c [a, b] = msN T c [a] + msN T c [b] := msN_app T c [a] [b]
  have h2 : msD T c md [a, b] = msD T c (msD T c md [a]) [b] := msD_app T c [a] [b] md
  rw [h1, h2, ← Nat.add_assoc]
  rw [List.append_assoc] at e
  exact e
/-- a book's points -/
theorem s_addPoint4 (c : Nat) (hc : c < 3) (T : Nat → Int) (L mm ms : Nat) (es : List Nat) (md : Int) (r : List Nat) (p : Nat) (hp : p < 12) (hr : ∀ x ∈ r, x < 12) (hpr : p ∉ r) (hl : r.length ≤ 7) (hes : es.length < 18) (hms : ms < 50) (hle : ms ≤ mm) (h : mMem) (e : sSt h T mm es ms md) (er : rowAt h r) (ek : h 40 0 c = 4) :
    mCon l g n_M_addPoint (d + 2) [.inr (9, 0), .inl c, .inl r.length, .inl p] h (ptK h T c 4 L mm ms es md r p) := by
  refine e_M_addPoint (fun hv hm => ?_)
  refine mGo_wp h_M_addPoint 120 [] ?_
  have t : ((c : Int)).toNat = c := Int.toNat_natCast c
  refine ⟨⟨by omega, by omega⟩, ?_⟩
  rw [t, ek]
  refine ⟨fun _ => ⟨fun _ => ⟨fun z => absurd rfl z, fun _ => ?_⟩, fun z => absurd z (by decide)⟩, fun z => absurd z (by decide)⟩
  have jc : 0 < r.length → mCon l g n_M_addEdge (d + 1) [.inr (9, 0), .inl c, .inl (h 44 0 (Int.toNat 0)), .inl p] h (fun v h' => v = some (.inl (mBc (ms + msN T c [jn (r.getD 0 0) p] ≤ mm))) ∧ farE h h' ∧ sSt h' T mm (es ++ [jn (r.getD 0 0) p]) (ms + msN T c [jn (r.getD 0 0) p]) (msD T c md [jn (r.getD 0 0) p])) := by
    intro h0
    have hm0 := getD_mem (r := r) (j := 0) h0
    rw [show h 44 0 (Int.toNat 0) = _ from er 0 h0]
    exact s_addEdge (r.getD 0 0) p c T mm ms es md (hr _ hm0) hp (fun z => hpr (z ▸ hm0)) (by omega) (by omega) h e
  have m1 : ∀ a : Nat, msN T c [a] ≤ 1 := fun a => by
    show (if T a = c then 0 else 1) + 0 ≤ 1
    split <;> omega
  have hsum : msN T c [jn (r.getD 0 0) p, jn (r.getD 1 0) p] = msN T c [jn (r.getD 0 0) p] + msN T c [jn (r.getD 1 0) p] := msN_app T c [_] [_]
  have hne2 : 2 ≤ r.length → newE 4 L r p = [jn (r.getD 0 0) p, jn (r.getD 1 0) p] := fun h0 => by
    show (if r.length = 0 then _ else if r.length = 1 then _ else _) = _
    rw [if_neg (by omega), if_neg (by omega)]
  have no2 : 2 ≤ r.length → mBc (ms + msN T c [jn (r.getD 0 0) p] ≤ mm) = 0 → ¬ okP T c 4 L mm ms r p := fun h0 hv y => by
    have y2 := y.2
    rw [hne2 h0, hsum] at y2
    exact mBc_eq0.mp hv (by omega)
  have jc2 : 2 ≤ r.length → ordP 4 L r p → ∀ h', farE h h' → sSt h' T mm (es ++ [jn (r.getD 0 0) p]) (ms + msN T c [jn (r.getD 0 0) p]) (msD T c md [jn (r.getD 0 0) p]) → mCon l g n_M_addEdge (d + 1) [.inr (9, 0), .inl c, .inl (h' 44 0 (Int.toNat 1)), .inl p] h' (ptK h T c 4 L mm ms es md r p) := by
    intro h0 ho h' f1 f2
    have hm1 := getD_mem (r := r) (j := 1) (by omega)
    have r1 : h' 44 0 (Int.toNat 1) = ((r.getD 1 0 : Nat) : Int) := by
      rw [f1 _ _ _ (by simp)]
      exact er 1 (by omega)
    rw [r1]
    have b0 := m1 (jn (r.getD 0 0) p)
    refine mCon_mono (s_addEdge (r.getD 1 0) p c T mm (ms + msN T c [jn (r.getD 0 0) p]) (es ++ [jn (r.getD 0 0) p]) (msD T c md [jn (r.getD 0 0) p]) (hr _ hm1) hp (fun z => hpr (z ▸ hm1)) (by simp; omega) (by omega) h' f2) ?_
    rintro v h2 ⟨rfl, g1, g2⟩
    unfold ptK
    rw [hne2 h0]
    refine ⟨?_, farE.tr (by rw [e.1, f2.1, List.length_append]; omega) f1 g1, fun _ => sSt_two g2⟩
    rw [mBc_congr]
    unfold okP
    rw [hne2 h0, hsum]
    exact ⟨fun z => ⟨ho, by omega⟩, fun z => by omega⟩
  refine ⟨fun z => ⟨fun z2 => ⟨fun z3 => ⟨⟨by decide, by decide⟩, ?_⟩, fun z3 => ⟨⟨?_, ?_⟩, ⟨fun z4 => ?_, fun z4 => ⟨⟨by decide, by decide⟩, ?_⟩⟩⟩⟩, fun z2 => ⟨⟨by decide, by decide⟩, ⟨fun z3 => ?_, fun z3 => ⟨⟨by decide, by decide⟩, ?_⟩⟩⟩⟩, fun z => ?_⟩
  · have ho : ordP 4 L r p := Or.inr (Or.inr (Or.inl (by omega)))
    refine mCall_on2 (jc (by omega)) ?_
    rintro v h' ⟨rfl, f1, f2⟩
    refine ⟨fun y => ?_, fun y => ⟨⟨by decide, by decide⟩, ?_⟩⟩
    · have no := no2 (by omega) y
      exact ⟨Or.inl rfl, by rw [mBc_f no], f1, fun y => absurd y no⟩
    · refine mCall_on2 (jc2 (by omega) ho h' f1 f2) ?_
      rintro v h2 ⟨rfl, g1, g2⟩
      refine ⟨fun y => ⟨Or.inl rfl, by rw [y], g1, g2⟩, fun y => ⟨Or.inr rfl, ?_, g1, g2⟩⟩
      rw [mBc_t (mBc_ne0.mp y)]
  · rw [mWr_of ⟨by omega, by omega⟩]
    omega
  · rw [mWr_of ⟨by omega, by omega⟩]
    omega
  · rw [mWr_of ⟨by omega, by omega⟩, show ((r.length : Int) - 1).toNat = r.length - 1 by omega, er (r.length - 1) (by omega)] at z4
    have no : ¬ okP T c 4 L mm ms r p := fun y => by
      rcases y.1 with y1 | y1 | y1 | y1 <;> omega
    exact ⟨Or.inl rfl, by rw [mBc_f no], farE.rf, fun y => absurd y no⟩
  · rw [mWr_of ⟨by omega, by omega⟩, show ((r.length : Int) - 1).toNat = r.length - 1 by omega, er (r.length - 1) (by omega)] at z4
    have ho : ordP 4 L r p := Or.inr (Or.inr (Or.inr ⟨by omega, by omega⟩))
    refine mCall_on2 (jc (by omega)) ?_
    rintro v h' ⟨rfl, f1, f2⟩
    refine ⟨fun y => ?_, fun y => ⟨⟨by decide, by decide⟩, ?_⟩⟩
    · have no := no2 (by omega) y
      exact ⟨Or.inl rfl, by rw [mBc_f no], f1, fun y => absurd y no⟩
    · refine mCall_on2 (jc2 (by omega) ho h' f1 f2) ?_
      rintro v h2 ⟨rfl, g1, g2⟩
      refine ⟨fun y => ⟨Or.inl rfl, by rw [y], g1, g2⟩, fun y => ⟨Or.inr rfl, ?_, g1, g2⟩⟩
      rw [mBc_t (mBc_ne0.mp y)]
  · rw [show h 44 0 (Int.toNat 0) = _ from er 0 (by omega)] at z3
    have no : ¬ okP T c 4 L mm ms r p := fun y => by
      rcases y.1 with y1 | y1 | y1 | y1 <;> omega
    exact ⟨Or.inl rfl, by rw [mBc_f no], farE.rf, fun y => absurd y no⟩
  · rw [show h 44 0 (Int.toNat 0) = _ from er 0 (by omega)] at z3
    have ho : ordP 4 L r p := Or.inr (Or.inl ⟨by omega, by omega⟩)
    have hne : newE 4 L r p = [jn (r.getD 0 0) p] := by
      show (if r.length = 0 then _ else if r.length = 1 then _ else _) = _
      rw [if_neg (by omega), if_pos (by omega)]
    have okq : okP T c 4 L mm ms r p ↔ ms + msN T c [jn (r.getD 0 0) p] ≤ mm := by
      unfold okP
      rw [hne]
      exact ⟨fun y => y.2, fun y => ⟨ho, y⟩⟩
    refine mCall_on2 (jc (by omega)) ?_
    rintro v h' ⟨rfl, f1, f2⟩
    have f3 : okP T c 4 L mm ms r p → sSt h' T mm (es ++ newE 4 L r p) (ms + msN T c (newE 4 L r p)) (msD T c md (newE 4 L r p)) := fun _ => by
      rw [hne]
      exact f2
    refine ⟨fun y => ⟨Or.inl rfl, ?_, f1, f3⟩, fun y => ⟨Or.inr rfl, ?_, f1, f3⟩⟩
    · rw [mBc_f (fun w => mBc_eq0.mp y (okq.mp w))]
    · rw [mBc_t (okq.mpr (mBc_ne0.mp y))]
  · have hz : r.length = 0 := by omega
    have hne : newE 4 L r p = [] := if_pos hz
    have ok : okP T c 4 L mm ms r p := by
      unfold okP
      rw [hne]
      exact ⟨Or.inl hz, hle⟩
    refine ⟨Or.inr rfl, by rw [mBc_t ok], farE.rf, fun _ => ?_⟩
    rw [hne, List.append_nil]
    exact e
end Pts
