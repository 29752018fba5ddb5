/-! what stays right behind a call -/
theorem jn_js : ∀ p, p < 13 → ∀ a, a < p → ∀ b, b < p → a ≠ b → jn a b < js p := by decide +kernel
theorem hpush_mem {Ls : List nN} {N M : nN} (h : M ∈ hpush Ls N) : M ∈ Ls ∨ M = N := by
  unfold hpush at h
  split at h
  · rcases List.mem_append.mp h with z | z
    · exact Or.inl (List.mem_of_mem_tail z)
    · exact Or.inr (List.mem_singleton.mp z)
  · rcases List.mem_append.mp h with z | z
    · exact Or.inl z
    · exact Or.inr (List.mem_singleton.mp z)
theorem sOk_to {S : sS} {N : nN} (o : sOk S) (hN : nOk N) : sOk (sTo S N) := by
  refine ⟨hN, fun M hM => ?_, ?_, Nat.zero_le _⟩
  · rcases hpush_mem hM with z | z
    · exact o.2.1 M z
    · rw [z]; exact o.1
  · show (hpush S.2.1 S.1).length ≤ 6
    rw [(hpush_get (N := S.1) o.2.2.1).1]
    split <;> omega
theorem nOk_tone {N : nN} (o : nOk N) {k : Nat} {v : Int} (hk : k < js (nP N)) (hv : -1 ≤ v ∧ v < nC N) : nOk (nSetT N (tSet (nT N) k v)) := by
  obtain ⟨o1, o2, o3, o4, o5⟩ := o
  refine ⟨o1, o2, o3, fun j hj => ?_, fun j h1 h2 => ?_⟩
  · show -1 ≤ (if j = k then v else nT N j) ∧ (if j = k then v else nT N j) < nC N
    split
    · exact hv
    · exact o4 j hj
  · have h1 : js (nP N) ≤ j := h1
    show (if j = k then v else nT N j) = -1
    rw [if_neg (by omega)]
    exact o5 j h1 h2
theorem sOk_paint {S : sS} (o : sOk S) (a b v : Int) : sOk (spPaint S a b v).2 := by
  unfold spPaint
  split
  · next h =>
    have hp := o.1.1.2
    have hc := o.1.2.1.1
    refine sOk_to o (nOk_tone o.1 ?_ ?_)
    · exact jn_js (nP S.1) (by omega) a.toNat (by omega) b.toNat (by omega) (by omega)
    · omega
  · exact o
theorem sOk_target {S : sS} (o : sOk S) (q k s : Int) : sOk (spTarget S q k s).2 := by
  unfold spTarget
  split
  · next h =>
    obtain ⟨o1, o2, o3, o4, o5⟩ := o.1
    refine sOk_to o ⟨o1, o2, fun j hj => ?_, o4, o5⟩
    show szOk (if j = q.toNat then k else nK S.1 j) (if j = q.toNat then s else nS S.1 j)
    by_cases hq : j = q.toNat
    · rw [if_pos hq, if_pos hq]
      exact h.2.2
    · rw [if_neg hq, if_neg hq]
      exact o3 j hj
  · exact o
theorem sOk_net {S : sS} (o : sOk S) (n c : Int) : sOk (spNet S n c).2 := by
  unfold spNet
  split
  · next h =>
    obtain ⟨o1, o2, o3, o4, o5⟩ := o.1
    refine sOk_to o ⟨⟨?_, ?_⟩, ⟨?_, ?_⟩, fun j hj => ?_, fun j _ => ?_, fun j _ _ => rfl⟩
    · show 1 ≤ n.toNat
      omega
    · show n.toNat ≤ 12
      omega
    · show 2 ≤ c.toNat
      omega
    · show c.toNat ≤ 3
      omega
    · show szOk ((if c.toNat = 2 then tSet (nK S.1) 2 0 else nK S.1) j) ((if c.toNat = 2 then tSet (nS S.1) 2 0 else nS S.1) j)
      by_cases hc : c.toNat = 2
      · rw [if_pos hc, if_pos hc]
        show szOk (if j = 2 then 0 else nK S.1 j) (if j = 2 then 0 else nS S.1 j)
        by_cases hj2 : j = 2
        · rw [if_pos hj2, if_pos hj2]
          exact Or.inl ⟨rfl, rfl⟩
        · rw [if_neg hj2, if_neg hj2]
          exact o3 j hj
      · rw [if_neg hc, if_neg hc]
        exact o3 j hj
    · show -1 ≤ (-1 : Int) ∧ (-1 : Int) < (c.toNat : Int)
      omega
  · exact o
theorem js_step : ∀ p, p < 12 → js (p + 1) = js p + p := by decide +kernel
theorem sOk_drop {S : sS} (o : sOk S) : sOk (spDrop S).2 := by
  unfold spDrop
  split
  · exact o
  · next h =>
    obtain ⟨o1, o2, o3, o4, o5⟩ := o.1
    have hs := js_step (nP S.1 - 1) (by omega)
    rw [show nP S.1 - 1 + 1 = nP S.1 by omega] at hs
    refine sOk_to o ⟨⟨?_, ?_⟩, o2, o3, fun j hj => ?_, fun j h1 h2 => ?_⟩
    · show 1 ≤ nP S.1 - 1
      omega
    · show nP S.1 - 1 ≤ 12
      omega
    · show -1 ≤ (if js (nP S.1 - 1) ≤ j ∧ j < js (nP S.1 - 1) + (nP S.1 - 1) then -1 else nT S.1 j) ∧ (if js (nP S.1 - 1) ≤ j ∧ j < js (nP S.1 - 1) + (nP S.1 - 1) then -1 else nT S.1 j) < nC S.1
      split
      · omega
      · exact o4 j hj
    · have h1 : js (nP S.1 - 1) ≤ j := h1
      show (if js (nP S.1 - 1) ≤ j ∧ j < js (nP S.1 - 1) + (nP S.1 - 1) then -1 else nT S.1 j) = -1
      by_cases hq : j < js (nP S.1 - 1) + (nP S.1 - 1)
      · rw [if_pos ⟨h1, hq⟩]
      · rw [if_neg (fun z => hq z.2)]
        exact o5 j (by omega) h2
theorem sOk_forge {S : sS} (o : sOk S) (i p : Int) : sOk (spForge S i p).2 := by
  unfold spForge
  split
  · exact o
  · split
    · exact o
    · exact o
theorem sOk_undo {S : sS} (o : sOk S) : sOk (spUndo S).2 := by
  unfold spUndo
  cases hr : S.2.1.reverse with
  | nil => exact o
  | cons N r =>
    have hm : ∀ M ∈ N :: r, M ∈ S.2.1 := fun M hM => by
      rw [← hr] at hM
      exact List.mem_reverse.mp hM
    have hl : S.2.1.length = r.length + 1 := by
      rw [← List.length_reverse, hr]
      rfl
    refine ⟨o.2.1 N (hm N List.mem_cons_self), fun M hM => o.2.1 M (hm M (List.mem_cons_of_mem _ (List.mem_reverse.mp hM))), ?_, Nat.zero_le _⟩
    show r.reverse.length ≤ 6
    rw [List.length_reverse]
    have := o.2.2.1
    omega
