/-- the length of a row of a kind and size -/
def lenOf (k s : Int) : Int := if k = 3 then s + 1 else if k = 4 then s + 2 else s
def rowAt (h : mMem) (r : List Nat) : Prop := ∀ j, j < r.length → h 44 0 j = (r.getD j 0 : Nat)
/-- whether point p may follow -/
def okP (T : Nat → Int) (c : Int) (k L : Nat) (mm ms : Nat) (r : List Nat) (p : Nat) : Prop := ordP k L r p ∧ ms + msN T c (newE k L r p) ≤ mm
abbrev ptK (h : mMem) (T : Nat → Int) (c : Int) (k L mm ms : Nat) (es : List Nat) (md : Int) (r : List Nat) (p : Nat) : Option mRV → mMem → Prop := fun v h' => v = some (.inl (mBc (okP T c k L mm ms r p))) ∧ farE h h' ∧ (okP T c k L mm ms r p → sSt h' T mm (es ++ newE k L r p) (ms + msN T c (newE k L r p)) (msD T c md (newE k L r p)))
section Pts
variable {l : Launch} {g : mG} {d : Nat}
theorem c_M_lengthOf (c : Nat) (hc : c < 3) (k s : Int) (hs : 0 ≤ s ∧ s ≤ 6) (h : mMem) (e1 : h 40 0 c = k) (e2 : h 41 0 c = s) : mCon l g n_M_lengthOf d [.inr (9, 0), .inl c] h (mIs (some (.inl (lenOf k s))) h) := by
  refine e_M_lengthOf (fun hv hm => ?_)
  refine mGo_wp h_M_lengthOf 60 [] ?_
  have t : ((c : Int)).toNat = c := Int.toNat_natCast c
  unfold lenOf
  refine ⟨⟨by omega, by omega⟩, ⟨fun z => ⟨⟨by omega, by omega⟩, ⟨fun z2 => ⟨⟨by omega, by omega⟩, ?_, rfl⟩, fun z2 => ⟨⟨by omega, by omega⟩, ?_, rfl⟩⟩⟩, fun z => ⟨⟨by omega, by omega⟩, ?_, rfl⟩⟩⟩
  · rw [t, e1] at z z2
    rw [t, e2, if_neg z, if_neg z2]
  · rw [t, e1] at z z2
    rw [t, e2, if_neg z, if_pos z2, mWr_of ⟨by omega, by omega⟩]
  · rw [t, e1] at z
    rw [t, e2, if_pos z, mWr_of ⟨by omega, by omega⟩]
/-- a star's points -/
theorem s_addPoint3 (c : Nat) (hc : c < 3) (T : Nat → Int) (L mm ms : Nat) (es : List Nat) (md : Int) (r : List Nat) (p : Nat) (hp : p < 12) (hr : ∀ x ∈ r, x < 12) (hpr : p ∉ r) (hl : r.length ≤ 7) (hes : es.length < 18) (hms : ms < 50) (hle : ms ≤ mm) (h : mMem) (e : sSt h T mm es ms md) (er : rowAt h r) (ek : h 40 0 c = 3) :
    mCon l g n_M_addPoint (d + 2) [.inr (9, 0), .inl c, .inl r.length, .inl p] h (ptK h T c 3 L mm ms es md r p) := by
  refine e_M_addPoint (fun hv hm => ?_)
  refine mGo_wp h_M_addPoint 120 [] ?_
  have t : ((c : Int)).toNat = c := Int.toNat_natCast c
  refine ⟨⟨by omega, by omega⟩, ?_⟩
  rw [t, ek]
  refine ⟨fun _ => ⟨fun z => absurd rfl z, fun _ => ?_⟩, fun z => absurd z (by decide)⟩
  have jc : 0 < r.length → ordP 3 L r p → mCon l g n_M_addEdge (d + 1) [.inr (9, 0), .inl c, .inl (h 44 0 (Int.toNat 0)), .inl p] h (ptK h T c 3 L mm ms es md r p) := by
    intro h0 ho
    have hm0 : r.getD 0 0 ∈ r := by
      rw [List.getD_eq_getElem?_getD, List.getElem?_eq_getElem h0]
      exact List.getElem_mem h0
    have hne : newE 3 L r p = [jn (r.getD 0 0) p] := if_neg (by omega)
    rw [show h 44 0 (Int.toNat 0) = _ from er 0 h0]
    refine mCon_mono (s_addEdge (r.getD 0 0) p c T mm ms es md (hr _ hm0) hp (fun z => hpr (z ▸ hm0)) (by omega) (by omega) h e) ?_
    rintro v h' ⟨rfl, f1, f2⟩
    unfold ptK
    rw [hne]
    refine ⟨?_, f1, fun _ => f2⟩
    rw [mBc_congr]
    unfold okP
    rw [hne]
    exact ⟨fun z => ⟨ho, z⟩, fun z => z.2⟩
  refine ⟨fun z => ?_, fun z => ⟨fun z2 => ?_, fun z2 => ⟨⟨?_, ?_⟩, ⟨fun z3 => ?_, fun z3 => ?_⟩⟩⟩⟩
  · have hz : r.length = 0 := by omega
    have hne : newE 3 L r p = [] := if_pos hz
    have ok : okP T c 3 L mm ms r p := by
      unfold okP
      rw [hne]
      exact ⟨Or.inl hz, hle⟩
    refine ⟨Or.inr rfl, by rw [mBc_t ok], farE.rf, fun _ => ?_⟩
    rw [hne, List.append_nil]
    exact e
  · refine ⟨⟨by decide, by decide⟩, ?_⟩
    refine mCall_on2 (jc (by omega) (Or.inr (Or.inl (by omega)))) ?_
    rintro v h' ⟨rfl, f1, f2⟩
    refine ⟨fun y => ⟨Or.inl rfl, by rw [y], f1, f2⟩, fun y => ⟨Or.inr rfl, ?_, f1, f2⟩⟩
    rw [mBc_t (mBc_ne0.mp y)]
  · rw [mWr_of ⟨by omega, by omega⟩]
    omega
  · rw [mWr_of ⟨by omega, by omega⟩]
    omega
  · rw [mWr_of ⟨by omega, by omega⟩, show ((r.length : Int) - 1).toNat = r.length - 1 by omega, er (r.length - 1) (by omega)] at z3
    have no : ¬ okP T c 3 L mm ms r p := fun y => by
      rcases y.1 with y1 | y1 | y1 <;> omega
    exact ⟨Or.inl rfl, by rw [mBc_f no], farE.rf, fun y => absurd y no⟩
  · rw [mWr_of ⟨by omega, by omega⟩, show ((r.length : Int) - 1).toNat = r.length - 1 by omega, er (r.length - 1) (by omega)] at z3
    refine ⟨⟨by decide, by decide⟩, ?_⟩
    refine mCall_on2 (jc (by omega) (Or.inr (Or.inr (by omega)))) ?_
    rintro v h' ⟨rfl, f1, f2⟩
    refine ⟨fun y => ⟨Or.inl rfl, by rw [y], f1, f2⟩, fun y => ⟨Or.inr rfl, ?_, f1, f2⟩⟩
    rw [mBc_t (mBc_ne0.mp y)]
end Pts
