section Pts
variable {l : Launch} {g : mG} {d : Nat}
theorem take_succ_map (r : List Nat) (k p : Nat) (hk : k < r.length) : (r.take (k + 1)).map (fun q => jn q p) = (r.take k).map (fun q => jn q p) ++ [jn (r.getD k 0) p] := by
  rw [List.take_succ, List.map_append, List.getElem?_eq_getElem hk, List.getD_eq_getElem?_getD, List.getElem?_eq_getElem hk]
  rfl
theorem msN_take (T : Nat → Int) (c : Int) (r : List Nat) (k p : Nat) : msN T c ((r.take k).map (fun q => jn q p)) ≤ msN T c (r.map (fun q => jn q p)) := by
  have h := msN_app T c ((r.take k).map (fun q => jn q p)) ((r.drop k).map (fun q => jn q p))
  rw [← List.map_append, List.take_append_drop] at h
  omega
theorem msN_len (T : Nat → Int) (c : Int) : ∀ es : List Nat, msN T c es ≤ es.length
  | [] => Nat.le_refl 0
  | e :: es => by
    have := msN_len T c es
    show (if T e = c then 0 else 1) + msN T c es ≤ es.length + 1
    split <;> omega
/-- the points of one that is all joined -/
theorem s_addPoint1 (c : Nat) (hc : c < 3) (T : Nat → Int) (L mm ms : Nat) (es : List Nat) (md : Int) (r : List Nat) (p : Nat) (hp : p < 12) (hr : ∀ x ∈ r, x < 12) (hpr : p ∉ r) (hl : r.length ≤ 7) (hes : es.length + r.length ≤ 20) (hms : ms < 50) (hle : ms ≤ mm) (h : mMem) (e : sSt h T mm es ms md) (er : rowAt h r) (ek : h 40 0 c = 1) :
    mCon l g n_M_addPoint (d + 2) [.inr (9, 0), .inl c, .inl r.length, .inl p] h (ptK h T c 1 L mm ms es md r p) := by
  have hne : newE 1 L r p = r.map (fun q => jn q p) := rfl
  have fin0 : ∀ (k : Nat) (H : mMem), k ≤ r.length → farE h H → ¬ okP T c 1 L mm ms r p → mGo l g (mMt n_M_addPoint) (d + 2) 40 [some (.inr (9, 0)), some (.inl c), some (.inl r.length), some (.inl p), some (.inl 1), some (.inl 0), some (.inl k)] [] H (ptK h T c 1 L mm ms es md r p) := by
    intro k H hk f no
    refine mGo_wp h_M_addPoint 120 [] ?_
    have fin : (0 : Int) = 0 ∨ (0 : Int) = 1 := Or.inl rfl
    exact ⟨fun _ => ⟨fin, by rw [mBc_f no], f, fun y => absurd y no⟩, fun _ => ⟨fun _ => ⟨fin, by rw [mBc_f no], f, fun y => absurd y no⟩, fun x => absurd rfl x⟩⟩
  have loop : ordP 1 L r p → ∀ (n k : Nat) (H : mMem), k + n = r.length → farE h H → sSt H T mm (es ++ (r.take k).map (fun q => jn q p)) (ms + msN T c ((r.take k).map (fun q => jn q p))) (msD T c md ((r.take k).map (fun q => jn q p))) → ms + msN T c ((r.take k).map (fun q => jn q p)) ≤ mm → mGo l g (mMt n_M_addPoint) (d + 2) 40 [some (.inr (9, 0)), some (.inl c), some (.inl r.length), some (.inl p), some (.inl 1), some (.inl 1), some (.inl k)] [] H (ptK h T c 1 L mm ms es md r p) := by
    intro ho n
    induction n with
    | zero =>
      intro k H hk f es1 hle1
      refine mGo_wp h_M_addPoint 120 [] ?_
      refine ⟨fun _ => ?_, fun z => by omega⟩
      have : k = r.length := by omega
      subst this
      rw [List.take_length] at es1 hle1
      have ok : okP T c 1 L mm ms r p := ⟨ho, hle1⟩
      exact ⟨Or.inr rfl, by rw [mBc_t ok], f, fun _ => es1⟩
    | succ n ih =>
      intro k H hk f es1 hle1
      refine mGo_wp h_M_addPoint 120 [40] ?_
      have hk1 : k < r.length := by omega
      have hm0 := getD_mem (r := r) (j := k) hk1
      have rk : H 44 0 (Int.toNat (k : Int)) = ((r.getD k 0 : Nat) : Int) := by
        rw [Int.toNat_natCast, f _ _ _ (by simp)]
        exact er k hk1
      have hlen := msN_len T c ((r.take k).map (fun q => jn q p))
      rw [List.length_map, List.length_take] at hlen
      refine ⟨fun z => by omega, fun _ => ⟨fun x => absurd x (by decide), fun _ => ⟨⟨by omega, by omega⟩, ?_⟩⟩⟩
      have jc : mCon l g n_M_addEdge (d + 1) [.inr (9, 0), .inl c, .inl (H 44 0 (Int.toNat (k : Int))), .inl p] H (fun v h' => v = some (.inl (mBc (ms + msN T c ((r.take k).map (fun q => jn q p)) + msN T c [jn (r.getD k 0) p] ≤ mm))) ∧ farE H h' ∧ sSt h' T mm (es ++ (r.take k).map (fun q => jn q p) ++ [jn (r.getD k 0) p]) (ms + msN T c ((r.take k).map (fun q => jn q p)) + msN T c [jn (r.getD k 0) p]) (msD T c (msD T c md ((r.take k).map (fun q => jn q p))) [jn (r.getD k 0) p])) := by
        rw [rk]
        exact s_addEdge (r.getD k 0) p c T mm _ _ _ (hr _ hm0) hp (fun z => hpr (z ▸ hm0)) (by rw [List.length_append, List.length_map, List.length_take]; omega) (by omega) H es1
      refine mCall_on2 jc ?_
      rintro v h' ⟨rfl, f1, f2⟩
      have eN : msN T c ((r.take (k + 1)).map (fun q => jn q p)) = msN T c ((r.take k).map (fun q => jn q p)) + msN T c [jn (r.getD k 0) p] := by rw [take_succ_map r k p hk1, msN_app]
      have eD : msD T c md ((r.take (k + 1)).map (fun q => jn q p)) = msD T c (msD T c md ((r.take k).map (fun q => jn q p))) [jn (r.getD k 0) p] := by rw [take_succ_map r k p hk1, msD_app]
      show mGo l g _ _ 40 [_, _, _, _, _, some (.inl (mBc _)), some (.inl (mWr ((k : Int) + 1)))] [] h' _
      rw [mWr_of ⟨by omega, by omega⟩]
      by_cases hq : ms + msN T c ((r.take k).map (fun q => jn q p)) + msN T c [jn (r.getD k 0) p] ≤ mm
      · rw [mBc_t hq]
        refine ih (k + 1) h' (by omega) (farE.tr (by rw [e.1, es1.1, List.length_append]; omega) f f1) ?_ (by rw [eN]; omega)
        rw [eN, eD, take_succ_map r k p hk1, ← List.append_assoc, ← Nat.add_assoc]
        exact f2
      · rw [mBc_f hq]
        refine fin0 (k + 1) h' (by omega) (farE.tr (by rw [e.1, es1.1, List.length_append]; omega) f f1) (fun y => hq ?_)
        have y2 := y.2
        rw [hne] at y2
        have := msN_take T c r (k + 1) p
        omega
  refine e_M_addPoint (fun hv hm => ?_)
  refine mGo_wp h_M_addPoint 120 [40] ?_
  have t : ((c : Int)).toNat = c := Int.toNat_natCast c
  have e0 : sSt h T mm (es ++ (r.take 0).map (fun q => jn q p)) (ms + msN T c ((r.take 0).map (fun q => jn q p))) (msD T c md ((r.take 0).map (fun q => jn q p))) := by
    show sSt h T mm (es ++ []) (ms + 0) md
    rw [List.append_nil]
    exact e
  refine ⟨⟨by omega, by omega⟩, ?_⟩
  rw [t, ek]
  refine ⟨fun z => absurd rfl z, fun _ => ⟨fun z => ?_, fun z => ⟨⟨?_, ?_⟩, ⟨fun w => ?_, fun w => ?_⟩⟩⟩⟩
  · exact loop (Or.inl (by omega)) r.length 0 h (by omega) farE.rf e0 hle
  · rw [mWr_of ⟨by omega, by omega⟩]
    omega
  · rw [mWr_of ⟨by omega, by omega⟩]
    omega
  · rw [mWr_of ⟨by omega, by omega⟩, show ((r.length : Int) - 1).toNat = r.length - 1 by omega, er (r.length - 1) (by omega)] at w
    have no : ¬ okP T c 1 L mm ms r p := fun y => by
      rcases y.1 with y1 | y1 <;> omega
    exact fin0 0 h (by omega) farE.rf no
  · rw [mWr_of ⟨by omega, by omega⟩, show ((r.length : Int) - 1).toNat = r.length - 1 by omega, er (r.length - 1) (by omega)] at w
    exact loop (Or.inr (by omega)) r.length 0 h (by omega) farE.rf e0 hle
end Pts
