theorem getD_mem {r : List Nat} {j : Nat} (hj : j < r.length) : r.getD j 0 ∈ r := by
  rw [List.getD_eq_getElem?_getD, List.getElem?_eq_getElem hj]
  exact List.getElem_mem hj
section Pts
variable {l : Launch} {g : mG} {d : Nat}
/-- a path's points -/
theorem s_addPoint5 (c : Nat) (hc : c < 3) (T : Nat → Int) (L mm ms : Nat) (es : List Nat) (md : Int) (r : List Nat) (p : Nat) (hp : p < 12) (hr : ∀ x ∈ r, x < 12) (hpr : p ∉ r) (hl : r.length ≤ 7) (hes : es.length < 18) (hms : ms < 50) (hle : ms ≤ mm) (h : mMem) (e : sSt h T mm es ms md) (er : rowAt h r) (ek : h 40 0 c = 5) (eL : h 41 0 c = L) (hL : 2 ≤ L ∧ L ≤ 6) :
    mCon l g n_M_addPoint (d + 2) [.inr (9, 0), .inl c, .inl r.length, .inl p] h (ptK h T c 5 L mm ms es md r p) := by
  refine e_M_addPoint (fun hv hm => ?_)
  refine mGo_wp h_M_addPoint 120 [] ?_
  have t : ((c : Int)).toNat = c := Int.toNat_natCast c
  refine ⟨⟨by omega, by omega⟩, ?_⟩
  rw [t, ek]
  refine ⟨fun _ => ⟨fun _ => ⟨fun _ => ?_, fun z => absurd z (by decide)⟩, fun z => absurd z (by decide)⟩, fun z => absurd z (by decide)⟩
  have lc : mCon l g n_M_lengthOf (d + 1) [.inr (9, 0), .inl (c : Int)] h (mIs (some (.inl (L : Int))) h) := by
    have q := c_M_lengthOf (l := l) (g := g) (d := d + 1) c hc 5 L (by omega) h ek eL
    unfold lenOf at q
    rw [if_neg (by decide), if_neg (by decide)] at q
    exact q
  have jc : 0 < r.length → ordP 5 L r p → mCon l g n_M_addEdge (d + 1) [.inr (9, 0), .inl c, .inl (h 44 0 (Int.toNat (mWr ((r.length : Int) - 1)))), .inl p] h (ptK h T c 5 L mm ms es md r p) := by
    intro h0 ho
    have hm0 := getD_mem (r := r) (j := r.length - 1) (by omega)
    have hne : newE 5 L r p = [jn (r.getD (r.length - 1) 0) p] := if_neg (by omega)
    rw [mWr_of ⟨by omega, by omega⟩, show ((r.length : Int) - 1).toNat = r.length - 1 by omega, er (r.length - 1) (by omega)]
    refine mCon_mono (s_addEdge (r.getD (r.length - 1) 0) p c T mm ms es md (hr _ hm0) hp (fun z => hpr (z ▸ hm0)) (by omega) (by omega) h e) ?_
    rintro v h' ⟨rfl, f1, f2⟩
    unfold ptK
    rw [hne]
    refine ⟨?_, f1, fun _ => f2⟩
    rw [mBc_congr]
    unfold okP
    rw [hne]
    exact ⟨fun z => ⟨ho, z⟩, fun z => z.2⟩
  refine ⟨fun z => ?_, fun z => ?_⟩
  · refine mCall_is lc ?_
    refine ⟨fun y => ⟨fun x => absurd rfl x, fun _ => ⟨fun _ => ⟨⟨?_, ?_⟩, ?_⟩, fun x => absurd rfl x⟩⟩, fun y => ⟨fun x => absurd rfl x, fun _ => ⟨fun x => absurd x (by decide), fun _ => ⟨⟨by decide, by decide⟩, ⟨fun w => ?_, fun w => ⟨⟨?_, ?_⟩, ?_⟩⟩⟩⟩⟩⟩
    · rw [mWr_of ⟨by omega, by omega⟩]
      omega
    · rw [mWr_of ⟨by omega, by omega⟩]
      omega
    · rw [mWr_of ⟨by omega, by omega⟩] at y
      refine mCall_on2 (jc (by omega) (Or.inr (Or.inl (by omega)))) ?_
      rintro v h' ⟨rfl, f1, f2⟩
      refine ⟨fun y => ⟨Or.inl rfl, by rw [y], f1, f2⟩, fun y => ⟨Or.inr rfl, ?_, f1, f2⟩⟩
      rw [mBc_t (mBc_ne0.mp y)]
    · rw [mWr_of ⟨by omega, by omega⟩] at y
      rw [show h 44 0 (Int.toNat 0) = _ from er 0 (by omega)] at w
      have no : ¬ okP T c 5 L mm ms r p := fun y => by
        rcases y.1 with y1 | y1 | y1 <;> omega
      exact ⟨Or.inl rfl, by rw [mBc_f no], farE.rf, fun y => absurd y no⟩
    · rw [mWr_of ⟨by omega, by omega⟩]
      omega
    · rw [mWr_of ⟨by omega, by omega⟩]
      omega
    · rw [show h 44 0 (Int.toNat 0) = _ from er 0 (by omega)] at w
      refine mCall_on2 (jc (by omega) (Or.inr (Or.inr (by omega)))) ?_
      rintro v h' ⟨rfl, f1, f2⟩
      refine ⟨fun y => ⟨Or.inl rfl, by rw [y], f1, f2⟩, fun y => ⟨Or.inr rfl, ?_, f1, f2⟩⟩
      rw [mBc_t (mBc_ne0.mp y)]
  · have hz : r.length = 0 := by omega
    have hne : newE 5 L r p = [] := if_pos hz
    have ok : okP T c 5 L mm ms r p := by
      unfold okP
      rw [hne]
      exact ⟨Or.inl hz, hle⟩
    refine ⟨Or.inr rfl, by rw [mBc_t ok], farE.rf, fun _ => ?_⟩
    rw [hne, List.append_nil]
    exact e
end Pts
