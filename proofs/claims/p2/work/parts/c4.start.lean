/-! what the start gives: the static tables, the classes, the array classes -/
theorem st_arr : ∀ t ∈ ([100, 101, 102, 103, 104] : List Nat), (Cond.arrayOf (.static "KeptColours" (mStn t) "[I") .int) ∈ flatC (Jvm.Cond.and given_1 narrow_1) ∧ (Cond.eq (.length (.static "KeptColours" (mStn t) "[I")) (.int (Int32.ofNat (mTab t).length))) ∈ flatC (Jvm.Cond.and given_1 narrow_1) := by decide +kernel
theorem st_elm : ∀ t ∈ ([100, 101, 102, 103, 104] : List Nat), ∀ j, j < (mTab t).length → (Cond.eq (.elem (.static "KeptColours" (mStn t) "[I") (.int (Int32.ofNat j))) (.int (Int32.ofInt ((mTab t).getD j 0)))) ∈ flatC (Jvm.Cond.and given_1 narrow_1) := by decide +kernel
theorem st_lay : ∀ t ∈ ([100, 101, 102, 103, 104] : List Nat), lw_tbl[([380, 382, 448, 412, 414] : List Nat).getD (t - 100) 0]? = some (.laysStatic "KeptColours" (mStn t) "[I") := by decide +kernel
theorem st_len : ∀ t ∈ ([100, 101, 102, 103, 104] : List Nat), (mTab t).length < 2 ^ 31 := by decide +kernel
theorem zwKC : lw_tbl[66]? = some (.initialized "KeptColours") := by decide +kernel
theorem st_tabs {s : State} {args : Array Value} (hgv : (Jvm.Cond.and given_1 narrow_1).before args s = true) (hts : ∀ w ∈ lw_tbl, w.before args s = true) : ∃ st : Nat → Nat, ∀ t ∈ ([100, 101, 102, 103, 104] : List Nat), va_Z "KeptColours" (mStn t) "[I" (.ref (st t)) (fun q => s.heap.size ≤ q) s s.heap ∧ va_T .int (st t) (mTab t).length (fun j => .int (Int32.ofInt ((mTab t).getD j 0))) (fun q => s.heap.size ≤ q) s s.heap := by
  have hs := flat_of_before _ hgv
  have hA : ∀ a : Nat, a < s.heap.size → ¬ (fun q => s.heap.size ≤ q) a := fun a h => by show ¬ s.heap.size ≤ a; omega
  have one : ∀ t, ∃ x : Nat, t ∈ ([100, 101, 102, 103, 104] : List Nat) → va_Z "KeptColours" (mStn t) "[I" (.ref x) (fun q => s.heap.size ≤ q) s s.heap ∧ va_T .int x (mTab t).length (fun j => .int (Int32.ofInt ((mTab t).getD j 0))) (fun q => s.heap.size ≤ q) s s.heap := by
    intro t
    by_cases ht : t ∈ ([100, 101, 102, 103, 104] : List Nat)
    · obtain ⟨h1, h2⟩ := st_arr t ht
      obtain ⟨x, hx, hT⟩ := va_Tof (args := args) (s := s) (tm := .static "KeptColours" (mStn t) "[I") (ty := .int) (N := (mTab t).length) (f := fun j => .int (Int32.ofInt ((mTab t).getD j 0))) (st_len t ht) (hs _ h1) (va_eqt (hs _ h2)) (fun j hj => va_eqt (hs _ (st_elm t ht j hj))) hA
      exact ⟨x, fun _ => ⟨va_Zof (hts _ (List.mem_of_getElem? (st_lay t ht))) (hts _ (List.mem_of_getElem? zwKC)) hx hA, hT⟩⟩
    · exact ⟨0, fun z => absurd z ht⟩
  exact ⟨fun t => Classical.choose (one t), fun t ht => Classical.choose_spec (one t) ht⟩
theorem st_cls : ∀ ci, ci < 10 → lw_tbl[([174, 137, 211, 292, 89, 161, 244, 273, 81, 816] : List Nat).getD ci 0]? = some (.instantiable (mRn ci) (mN ci)) := by decide +kernel
theorem st_arrs : lw_tbl[298]? = some (.arrayOver (.object "KeptColours$Net")) := by decide +kernel
theorem st_K {s : State} {args : Array Value} (hts : ∀ w ∈ lw_tbl, w.before args s = true) : ∃ (D : va_G) (cI cZ cN : ClassId), va_K D vwCl (c3T cI cZ cN) s ∧ mNst s ∧ va_AO "KeptColours$Net" s := by
  have one : ∀ ci, ∃ x : ClassId × (Nat → Nat), ci < 10 → u_Kn s (mRn ci) (mT ci) (mN ci) x.1 x.2 := by
    intro ci
    by_cases h : ci < 10
    · obtain ⟨a, b, hk⟩ := u_known (C := mRn ci) (T := mT ci) (N := mN ci) (n := mN ci) (ws := mWds) (fun w hw => hts w (List.mem_filter.mp hw).1) (cIn ci h) (hts _ (List.mem_of_getElem? (st_cls ci h)))
      exact ⟨(a, b), fun _ => hk⟩
    · exact ⟨((s.vm.findClass "").getD default, fun _ => 0), fun z => absurd z h⟩
  obtain ⟨cI, kI, pI, i1, i2, i3⟩ := Cond.arrayClass_spec (hts _ (List.mem_of_getElem? zw135))
  obtain ⟨cZ, kZ, pZ, z1, z2, z3⟩ := Cond.arrayClass_spec (hts _ (List.mem_of_getElem? zw971))
  obtain ⟨cmp, cN, kN, n1, n2, n3, n4, n5⟩ := Cond.arrayOver_spec (hts _ (List.mem_of_getElem? st_arrs))
  refine ⟨(fun ci => (Classical.choose (one ci)).1, fun ci => (Classical.choose (one ci)).2), cI, cZ, cN, ⟨fun c q hq => ?_, fun k q hq => ?_⟩, fun w hw hi => ?_, va_AO.of (hts _ (List.mem_of_getElem? st_arrs))⟩
  · have hc : c < 10 := (List.getElem?_eq_some_iff.mp hq).1
    rw [mCl_lt c hc] at hq
    have e := Option.some.inj hq
    rw [← e]
    exact Classical.choose_spec (one c) hc
  · have hk : k < 3 := (List.getElem?_eq_some_iff.mp hq).1
    rcases (show k = 0 ∨ k = 1 ∨ k = 2 by omega) with rfl | rfl | rfl
    · cases hq
      exact ⟨fun n z => ⟨fun k h => (by cases h), kI, i2, pI, i3⟩, i1⟩
    · cases hq
      exact ⟨fun n z => ⟨fun k h => (by cases h), kZ, z2, pZ, z3⟩, z1⟩
    · cases hq
      exact ⟨fun n z => ⟨fun k h => (by cases h), kN, n3, cmp, n4⟩, kN, cmp, n3, n4, n1, n5⟩
  · exact va_Nw.of (by cases w <;> first | (cases hi; done) | rfl) (hts w hw)
