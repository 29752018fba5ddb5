/-! what every call keeps -/
def sA (S : sS) : Prop := sOk S ∧ sOk2 S ∧ sOk3 S
theorem sA_to {S : sS} {N : nN} (o : sA S) (h1 : nOk N) (h2 : nOk2 N) : sA (sTo S N) := ⟨sOk_to o.1 h1, sOk2_to o.2.1 h2, fun z => absurd (show 0 < 0 from z) (by decide), o.2.2.2⟩
theorem sA_paint {S : sS} (o : sA S) (a b v : Int) : sA (spPaint S a b v).2 := by
  refine ⟨sOk_paint o.1 a b v, ?_⟩
  unfold spPaint
  split
  · exact ⟨sOk2_to o.2.1 o.2.1.1, fun z => absurd (show 0 < 0 from z) (by decide), o.2.2.2⟩
  · exact o.2
theorem sA_target {S : sS} (o : sA S) (q k s : Int) : sA (spTarget S q k s).2 := by
  refine ⟨sOk_target o.1 q k s, ?_⟩
  unfold spTarget
  split
  · next hq =>
    refine ⟨sOk2_to o.2.1 (fun hC => ?_), fun z => absurd (show 0 < 0 from z) (by decide), o.2.2.2⟩
    have hC : nC S.1 = 2 := hC
    have h2 := o.2.1.1 hC
    have hq2 : (2 : Nat) ≠ q.toNat := by
      have := hq.1
      omega
    exact ⟨(if_neg hq2).trans h2.1, (if_neg hq2).trans h2.2⟩
  · exact o.2
theorem sA_net {S : sS} (o : sA S) (n c : Int) : sA (spNet S n c).2 := by
  refine ⟨sOk_net o.1 n c, ?_⟩
  unfold spNet
  split
  · refine ⟨sOk2_to o.2.1 (fun hC => ?_), fun z => absurd (show 0 < 0 from z) (by decide), o.2.2.2⟩
    have hC : c.toNat = 2 := hC
    refine ⟨?_, ?_⟩
    · show (if c.toNat = 2 then tSet (nK S.1) 2 0 else nK S.1) 2 = 0
      rw [if_pos hC]
      exact if_pos rfl
    · show (if c.toNat = 2 then tSet (nS S.1) 2 0 else nS S.1) 2 = 0
      rw [if_pos hC]
      exact if_pos rfl
  · exact o.2
theorem sA_drop {S : sS} (o : sA S) : sA (spDrop S).2 := by
  refine ⟨sOk_drop o.1, ?_⟩
  unfold spDrop
  split
  · exact o.2
  · exact ⟨sOk2_to o.2.1 o.2.1.1, fun z => absurd (show 0 < 0 from z) (by decide), o.2.2.2⟩
theorem sA_forge {S : sS} (o : sA S) (i p : Int) : sA (spForge S i p).2 := by
  refine ⟨sOk_forge o.1 i p, ?_⟩
  unfold spForge
  split
  · exact o.2
  · split
    · next hq =>
      refine ⟨o.2.1, o.2.2.1, fun k hk => ?_⟩
      show 0 ≤ (if k = i.toNat then p else S.2.2.2.2.2.2 k) ∧ (if k = i.toNat then p else S.2.2.2.2.2.2 k) < 4096
      have := hq.2
      split
      · omega
      · exact o.2.2.2 k hk
    · exact o.2
theorem sA_undo {S : sS} (o : sA S) : sA (spUndo S).2 := by
  refine ⟨sOk_undo o.1, ?_⟩
  unfold spUndo
  cases hr : S.2.1.reverse with
  | nil => exact o.2
  | cons N r =>
    have hm : ∀ M ∈ N :: r, M ∈ S.2.1 := fun M hM => by
      rw [← hr] at hM
      exact List.mem_reverse.mp hM
    exact ⟨⟨o.2.1.2 N (hm N List.mem_cons_self), fun M hM => o.2.1.2 M (hm M (List.mem_cons_of_mem _ (List.mem_reverse.mp hM)))⟩, fun z => absurd (show 0 < 0 from z) (by decide), o.2.2.2⟩
theorem sA_turned {S : sS} (o : sA S) (t : Int) : sA (spTurned S t).2 := by
  refine ⟨sOk_turned o.1 t, ?_⟩
  unfold spTurned
  split
  · exact ⟨sOk2_to o.2.1 o.2.1.1, fun z => absurd (show 0 < 0 from z) (by decide), o.2.2.2⟩
  · exact o.2
theorem wkF_ok2 : ∀ (m : Nat) (N : nN), nOk2 N → nOk2 (wkF m N).2
  | 0, N, h => h
  | m + 1, N, h => by
    show nOk2 (if (bsN N).1 = 0 then (0, N) else ((wkF m (setN N (bsN N).2.1 (bsN N).2.2)).1 + 1, (wkF m (setN N (bsN N).2.1 (bsN N).2.2)).2) : Nat × nN).2
    split
    · exact h
    · exact wkF_ok2 m _ h
theorem sA_step {S : sS} (o : sA S) (n : Int) : sA (spStep S n).2 := by
  refine ⟨sOk_step o.1 n, ?_⟩
  unfold spStep
  split
  · split
    · exact ⟨sOk2_to o.2.1 (wkF_ok2 _ _ o.2.1.1), fun z => absurd (show 0 < 0 from z) (by decide), o.2.2.2⟩
    · exact o.2
  · exact o.2
theorem sA_listed {S : sS} (o : sA S) (n k : Int) : sA (spListed S n k).2 := by
  refine ⟨sOk_listed o.1 n k, ?_⟩
  unfold spListed
  split
  · split
    · exact o.2
    · split
      · exact o.2
      · exact ⟨sOk2_to o.2.1 o.2.1.1, fun z => absurd (show 0 < 0 from z) (by decide), o.2.2.2⟩
  · exact o.2
theorem sA_put {S : sS} (o : sA S) (k : Int) : sA (spPut S k).2 := by
  refine ⟨sOk_put o.1 k, ?_⟩
  unfold spPut
  split
  · split
    · exact o.2
    · split
      · exact o.2
      · exact ⟨sOk2_to o.2.1 o.2.1.1, fun z => absurd (show 0 < 0 from z) (by decide), o.2.2.2⟩
  · exact o.2
theorem sA_listedK {S : sS} (o : sA S) (n k : Int) : sA (spListedK S n k).2 := by
  have h1 := sA_listed o n k
  unfold spListed at h1
  unfold spListedK
  split
  · next z =>
    rw [if_pos z] at h1
    split
    · exact o
    · next y =>
      rw [if_neg y] at h1
      cases hx : (lvN (bL S.1 n.toNat))[k.toNat]? with
      | none => exact sA_to o o.1.1 o.2.1.1
      | some T =>
        rw [hx] at h1
        exact h1
  · exact o
theorem sA_putK {S : sS} (o : sA S) (k : Int) : sA (spPutK S k).2 := by
  have h1 := sA_put o k
  unfold spPut at h1
  unfold spPutK
  split
  · next z =>
    rw [if_pos z] at h1
    split
    · exact o
    · next y =>
      rw [if_neg y] at h1
      cases hx : (lvN (bP S.1))[k.toNat]? with
      | none => exact sA_to o o.1.1 o.2.1.1
      | some T =>
        rw [hx] at h1
        exact h1
  · exact o
theorem sA_fill {S : sS} (o : sA S) (n : Int) : sA (spFill S n).2 := by
  refine ⟨sOk_fill o.1 n, ?_⟩
  unfold spFill
  split
  · split
    · next T _ => exact ⟨sOk2_to (N := nSetT S.1 T) o.2.1 o.2.1.1, fun z => absurd (show 0 < 0 from z) (by decide), o.2.2.2⟩
    · split
      · exact o.2
      · exact o.2
  · exact o.2
theorem bitE_bd {N : nN} (o : nOk N) {x : eV} (hx : x ∈ eN N) : 0 ≤ bitE N (oN N) x ∧ bitE N (oN N) x < 4096 := by
  have ok := kds_ok N (oN N) (opM N) (fun i hi => (oN_mem hi).1) (Dg N (opM N) (oN N)) (opM N) 0 (nT N) (by omega) o x hx
  have h66 := js_le (nP N) (by have : nP N ≤ 12 := o.1.2; omega)
  have hb := ok.1.2.2.2.1 (oN N x.1) (by have := (oN_mem (N := N) ok.2.1).1; omega)
  have hC : nC N ≤ 3 := o.2.1.2
  have hb2 : x.2 (oN N x.1) < nC N := hb.2
  unfold bitE
  split
  · exact ⟨Int.le_refl 0, by decide⟩
  · next r rs hr =>
    have row := cpL_row ok.1 (c := (x.2 (oN N x.1)).toNat) (by omega) (mm := 0) (x := r) (by rw [hr]; exact List.mem_cons_self)
    have := bitR_lt r.1 row.2.2.2.1 r.1.length (Nat.le_refl _)
    omega
theorem prW_bd {N : nN} (o : nOk N) {P : (Nat → Int) × (Nat → Int) × (Nat → Int)} (h : ∀ i, i < 500 → 0 ≤ P.2.2 i ∧ P.2.2 i < 4096) : ∀ i, i < 500 → 0 ≤ (prW N P).2.2 i ∧ (prW N P).2.2 i < 4096 := by
  intro i hi
  show 0 ≤ pW P.2.2 (bitE N (oN N)) (eN N) (fR N 500).2.1 i ∧ pW P.2.2 (bitE N (oN N)) (eN N) (fR N 500).2.1 i < 4096
  by_cases hD : i < (fR N 500).2.1
  · have hl := fR_len N 500
    have hx := List.getElem?_eq_getElem (show i < (eN N).length by omega)
    rw [pW_in hD hx]
    exact bitE_bd o (List.getElem_mem _)
  · rw [pW_out hD]
    exact h i hi
theorem sA_prove {S : sS} (o : sA S) : sA (spProve S).2 := by
  refine ⟨sOk_prove o.1, ?_⟩
  have pb := prW_bd o.1.1 (P := S.2.2.2.2) o.2.2.2
  unfold spProve
  split
  · next hq =>
    split
    · exact ⟨o.2.1, o.2.2.1, pb⟩
    · refine ⟨o.2.1, fun _ => ?_, pb⟩
      show 0 < opM S.1
      by_cases h0 : opM S.1 = 0
      · have h1 : fR S.1 500 = frs S.1 (opM S.1) (oN S.1) 500 (opM S.1) 0 (nT S.1) 0 := if_pos hq.1
        have h2 : frs S.1 (opM S.1) (oN S.1) 500 (opM S.1) 0 (nT S.1) 0 = (1, 0, some (nT S.1)) := if_pos h0
        exact absurd (by rw [h1, h2]) hq.2
      · omega
  · exact ⟨o.2.1, o.2.2.1, pb⟩
