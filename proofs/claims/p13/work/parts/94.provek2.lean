/-! prove on the class's side, the whole of it -/
section KProve2
variable {l : Launch} {g : mG} {d : Nat}
theorem fR_go {N : nN} (hcl : nClear N) (hm : 0 < opM N) (most : Nat) : fR N most = gres N (opM N) (oN N) most 0 (eN N) := by
  have h1 : fR N most = frs N (opM N) (oN N) most (opM N) 0 (nT N) 0 := if_pos (qB_t hcl)
  have h2 : frs N (opM N) (oN N) most (opM N) 0 (nT N) 0 = gres N (opM N) (oN N) most 0 (eN N) := if_neg (by omega)
  rw [h1, h2]
theorem prW_0 {N : nN} (h : (fR N 500).2.1 = 0) (P : (Nat → Int) × (Nat → Int) × (Nat → Int)) : prW N P = P := by
  unfold prW
  rw [h]
  have : ∀ (f : Nat → Int) (v : eV → Int), pW f v (eN N) 0 = f := fun f v => funext (fun i => if_neg (by omega))
  rw [this, this, this]
theorem RC_proof {h h1 h' : mMem} {S : sS} (e : RC h S) (a : scrC h h1) (b : farQ2 h1 h') {P : Nat × (Nat → Int) × (Nat → Int) × (Nat → Int)} (hp : sPr h' P) : RC h' (S.1, S.2.1, S.2.2.1, P) := by
  have R1 := RC_scr e a
  have R2 : RC (fun t i k => if (t = 31 ∨ t = 32 ∨ t = 33) ∨ (t = 6 ∧ k = 3) then h1 t i k else h' t i k) S := RC_scr R1 (fun t i k z => by
    split
    · rfl
    · next y => exact b t i k (fun w => by
        rcases w with w | w | w | w | w | w | w
        · exact z (Or.inl w.1)
        · exact z (Or.inr (Or.inl w))
        · exact z (by omega)
        · exact z (by omega)
        · exact z (Or.inr (Or.inr (Or.inr (Or.inr (Or.inr (Or.inr ⟨by omega, w.2⟩))))))
        · exact y (by omega)
        · exact y (Or.inr w)))
  obtain ⟨b1, b2, b3, -⟩ := R2
  have q : ∀ (t : Nat) (i : Fin 8) (k : Nat), ¬ ((t = 31 ∨ t = 32 ∨ t = 33) ∨ (t = 6 ∧ k = 3)) → h' t i k = (fun t i k => if (t = 31 ∨ t = 32 ∨ t = 33) ∨ (t = 6 ∧ k = 3) then h1 t i k else h' t i k : mMem) t i k := fun t i k z => (if_neg z).symm
  refine ⟨isC_eq b1 (fun t k ht => q t 0 k (by omega)), hisC_eq b2 (q _ _ _ (by decide)) (q _ _ _ (by decide)) (fun t i k _ _ ht => q t i k (by omega)), (q _ _ _ (by decide)).trans b3, hp⟩
theorem s_K_prove (h : mMem) (S : sS) (o : sOk S) (e : RC h S) : mCon l g n_K_prove (d + 13) [.inr (8, 0)] h (fun r h' => r = some (.inl (spProve S).1) ∧ RC h' (spProve S).2 ∧ onlyC h h') := by
  refine e_K_prove (fun hv hm => ?_)
  refine mGo_wp h_K_prove 80 [] ?_
  refine mCall_on2 (c_Filling_begin S.1 o.1 h e.1) ?_
  rintro r h1 ⟨rfl, a1, a2, a3, a4, a5, f1⟩
  have R1 := RC_scr e f1
  have isO : mCon l g n_Filling_isOver (d + 12) [.inr (0, 0)] h1 (mIs (some (.inl (mBc (¬ (nClear S.1 ∧ 0 < opM S.1))))) h1) := by
    refine e_Filling_isOver (fun hv hm => ?_)
    refine mGo_wp h_Filling_isOver 40 [] ?_
    refine ⟨fun z => ⟨Or.inr rfl, ?_⟩, fun z => ⟨fun z2 => ⟨Or.inl rfl, ?_⟩, fun z2 => ⟨Or.inr rfl, ?_⟩⟩⟩
    · rw [a4] at z
      rw [mBc_t (fun w => mBc_ne0.mp z w.1)]
      exact ⟨rfl, rfl⟩
    · rw [a4] at z
      rw [a1.1] at z2
      rw [mBc_f (fun w => w ⟨Classical.not_not.mp (mBc_eq0.mp z), by omega⟩)]
      exact ⟨rfl, rfl⟩
    · rw [a1.1] at z2
      rw [mBc_t (fun w => by have := w.2; omega)]
      exact ⟨rfl, rfl⟩
  refine mCall_is isO ?_
  unfold spProve
  refine ⟨fun z => ?_, fun z => ?_⟩
  · have z := Classical.not_not.mp (mBc_eq0.mp z)
    refine mCall_on2 (mCon_lift (by omega) (c_Proof_make (d := d) S.1 o.1 z.1 z.2 h1 a1 a2 a5)) ?_
    rintro r h2 ⟨rfl, k2, k3, k4, f2⟩
    rw [← fR_go z.1 z.2] at k2 k3 k4 ⊢
    have fl := fR_len S.1 500
    have rows : ∀ i, i < 500 → h2 31 0 i = (prW S.1 S.2.2.2.2).1 i ∧ h2 32 0 i = (prW S.1 S.2.2.2.2).2.1 i ∧ h2 33 0 i = (prW S.1 S.2.2.2.2).2.2 i := by
      intro i hi
      by_cases hD : i < (fR S.1 500).2.1
      · have hx := List.getElem?_eq_getElem (show i < (eN S.1).length by omega)
        have q := k3 i _ hx (by omega)
        rw [Nat.zero_add] at q
        refine ⟨q.1.trans ?_, q.2.1.trans ?_, q.2.2.trans ?_⟩
        · exact (pW_in (v := fun x => (oN S.1 x.1 : Nat)) hD hx).symm
        · exact (pW_in (v := fun x => x.2 (oN S.1 x.1)) hD hx).symm
        · exact (pW_in (v := bitE S.1 (oN S.1)) hD hx).symm
      · have dd := R1.2.2.2.2 i hi
        rw [k4 31 i (by decide) (Or.inr (by omega)), k4 32 i (by decide) (Or.inr (by omega)), k4 33 i (by decide) (Or.inr (by omega))]
        refine ⟨dd.1.trans ?_, dd.2.1.trans ?_, dd.2.2.trans ?_⟩
        · exact (pW_out hD).symm
        · exact (pW_out hD).symm
        · exact (pW_out hD).symm
    have ol : onlyC h h2 := fun t i k ht => (f2 t i k (by omega)).trans (f1.only t i k ht)
    have bd := fR_bd S.1 500
    by_cases h1' : (fR S.1 500).1 = 1
    · rw [if_neg (fun y => y.2 h1')]
      rw [if_neg (by omega)] at k2
      refine ⟨?_, RC_proof e f1 f2 ⟨k2.trans R1.2.2.2.1, rows⟩, ol⟩
      unfold mkV
      rw [if_neg (by omega), if_pos h1']
    · rw [if_pos ⟨qB_t z.1, h1'⟩]
      by_cases hm1 : (fR S.1 500).1 = -1
      · rw [if_pos hm1]
        rw [if_neg (by omega)] at k2
        refine ⟨?_, RC_proof e f1 f2 ⟨k2.trans R1.2.2.2.1, rows⟩, ol⟩
        unfold mkV
        rw [if_neg (by omega), if_neg h1']
      · rw [if_neg hm1]
        rw [if_pos (by omega)] at k2
        refine ⟨?_, RC_proof e f1 f2 ⟨k2, rows⟩, ol⟩
        unfold mkV
        rw [if_pos (by omega)]
  · have z := mBc_ne0.mp z
    have key : ¬ (qB (nClear S.1) = true ∧ (fR S.1 500).1 ≠ 1) ∧ (fR S.1 500).2.1 = 0 := by
      by_cases hcl : nClear S.1
      · have h0 : opM S.1 = 0 := by
          by_cases y : 0 < opM S.1
          · exact absurd ⟨hcl, y⟩ z
          · omega
        have h1 : fR S.1 500 = frs S.1 (opM S.1) (oN S.1) 500 (opM S.1) 0 (nT S.1) 0 := if_pos (qB_t hcl)
        have h2 : frs S.1 (opM S.1) (oN S.1) 500 (opM S.1) 0 (nT S.1) 0 = (1, 0, some (nT S.1)) := if_pos h0
        rw [h1, h2]
        exact ⟨fun y => y.2 rfl, rfl⟩
      · have h1 : fR S.1 500 = (0, 0, none) := if_neg (qB_no hcl)
        rw [h1]
        exact ⟨fun y => qB_no hcl y.1, rfl⟩
    rw [if_neg key.1, prW_0 key.2]
    exact ⟨rfl, R1, f1.only⟩
end KProve2
