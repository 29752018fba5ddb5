/-- the rings in which a join is: the ways from one of its points to the other -/
theorem thr_ring (T : Nat → Int) (c : Int) (L n u v : Nat) (hk : kOk 2 L) (hn : n ≤ 12) (hu : u < n) (hv : v < n) (huv : u ≠ v) :
    thr T c 2 L n (jn u v) = SL n (L - 2) (fun y => iq (rg T c (v :: u :: y)) 1) := by
  have hL3 : L = 3 ∨ L = 4 ∨ L = 5 := by rcases hk with h | h | h | h | h <;> omega
  obtain ⟨j, hj⟩ : ∃ j, L = j + 1 := ⟨L - 1, by omega⟩
  rw [thr_SL]
  have e1 : SL n L (fun s => iq (acc T c 2 L [] s ∧ jn u v ∈ edg 2 L [] s) 1) = SL n L (fun s => iq (s.getD 1 0 < s.getD (s.length - 1) 0) (iq (mnF s) (iq (rg T c s) (gE (fun a b => iq (jn a b = jn u v) 1) (cl s))))) := by
    refine SL_congr L (fun s hs hx => ?_)
    have hx12 : ∀ x ∈ s, x < 12 := fun x h => by have := hx x h; omega
    rw [iq_and, ← iq_and (p := mnF s), ← iq_and (p := s.getD 1 0 < s.getD (s.length - 1) 0)]
    refine iq_congr2 ((ring_full hs (by omega)).trans ⟨fun z => ⟨z.2, z.1.2, z.1.1⟩, fun z => ⟨⟨z.2.2, z.2.1⟩, z.1⟩⟩) (fun z => ?_)
    rw [lS_nodup (acc_edg hk z hx12)]
    cases s with
    | nil => rfl
    | cons a t =>
      rw [edg_nil, ring_edg t [a] (by simp) (fun w => by rw [w] at hs; have hs : 1 = L := hs; omega) (by rw [← hs]; show 1 + t.length = t.length + 1; omega)]
      show lS _ (ce (cl (a :: t))) = _
      rw [lS_ce]
  rw [e1]
  have invX : ∀ (i : Nat) (s : List Nat), iq (rg T c (rti i s)) (gE (fun a b => iq (jn a b = jn u v) 1) (cl (rti i s))) = iq (rg T c s) (gE (fun a b => iq (jn a b = jn u v) 1) (cl s)) := fun i s => by rw [gE_rti, iq_congr (rg_rti i s)]
  have e2 : SL n L (fun s => iq (rg T c s) (gE (fun a b => iq (jn a b = jn u v) 1) (cl s))) = L * SL n L (fun s => iq (mnF s) (iq (rg T c s) (gE (fun a b => iq (jn a b = jn u v) 1) (cl s)))) := by
    rw [SL_congr L (G := fun s => sm (fun i => iq (mnF (rti i s)) (iq (rg T c (rti i s)) (gE (fun a b => iq (jn a b = jn u v) 1) (cl (rti i s))))) L) (fun s hs hx => ?_), ← SL_sm, hj]
    · rw [sm_congr (g := fun _ => SL n (j + 1) (fun s => iq (mnF s) (iq (rg T c s) (gE (fun a b => iq (jn a b = jn u v) 1) (cl s))))) (j + 1) (fun i _ => SL_rti n j (fun s => iq (mnF s) (iq (rg T c s) (gE (fun a b => iq (jn a b = jn u v) 1) (cl s)))) i), sm_const]
    · rw [sm_congr (g := fun i => iq (rg T c s) (gE (fun a b => iq (jn a b = jn u v) 1) (cl s)) * iq (mnF (rti i s)) 1) L (fun i _ => by rw [invX, iq_mul, Nat.mul_comm]), sm_mul]
      by_cases z : rg T c s
      · rw [mn_sum hL3 hs z.1, Nat.mul_one]
      · rw [iq_f z, Nat.zero_mul]
  have e3 : SL n L (fun s => iq (s.getD (s.length - 1) 0 < s.getD 1 0) (iq (mnF s) (iq (rg T c s) (gE (fun a b => iq (jn a b = jn u v) 1) (cl s))))) = SL n L (fun s => iq (s.getD 1 0 < s.getD (s.length - 1) 0) (iq (mnF s) (iq (rg T c s) (gE (fun a b => iq (jn a b = jn u v) 1) (cl s))))) := by
    rw [hj, ← SL_fr n j (fun s => iq (s.getD (s.length - 1) 0 < s.getD 1 0) (iq (mnF s) (iq (rg T c s) (gE (fun a b => iq (jn a b = jn u v) 1) (cl s)))))]
    refine SL_congr (j + 1) (fun s hs hx => ?_)
    rw [cl_fr, gE_rev, gE_congr (g := fun a b => iq (jn a b = jn u v) 1) (fun a b => by rw [jn_sym]), iq_congr (rg_fr s)]
    cases s with
    | nil => exact absurd hs (by show ¬ (0 = j + 1); omega)
    | cons a t =>
      have hs : t.length + 1 = j + 1 := hs
      have m1 : mnF (fr (a :: t)) ↔ mnF (a :: t) := ⟨fun h x hx => h x (List.mem_reverse.mpr hx), fun h x hx => h x (List.mem_reverse.mp hx)⟩
      have g1 : (fr (a :: t)).getD ((fr (a :: t)).length - 1) 0 = (a :: t).getD 1 0 := by
        show (a :: t.reverse).getD (t.reverse.length + 1 - 1) 0 = t.getD 0 0
        rw [List.length_reverse, Nat.add_sub_cancel, show t.length = (t.length - 1) + 1 by omega]
        show t.reverse.getD (t.length - 1) 0 = _
        rw [getD_rev (by omega), Nat.sub_self]
      have g2 : (fr (a :: t)).getD 1 0 = (a :: t).getD ((a :: t).length - 1) 0 := by
        show t.reverse.getD 0 0 = (a :: t).getD (t.length + 1 - 1) 0
        rw [getD_rev (by omega), Nat.add_sub_cancel, Nat.sub_zero, show (a :: t).getD t.length 0 = (a :: t).getD ((t.length - 1) + 1) 0 by rw [show t.length - 1 + 1 = t.length by omega]]
        rfl
      rw [g1, g2, iq_congr m1]
  have e4 : SL n L (fun s => iq (mnF s) (iq (rg T c s) (gE (fun a b => iq (jn a b = jn u v) 1) (cl s)))) = SL n L (fun s => iq (s.getD 1 0 < s.getD (s.length - 1) 0) (iq (mnF s) (iq (rg T c s) (gE (fun a b => iq (jn a b = jn u v) 1) (cl s))))) + SL n L (fun s => iq (s.getD (s.length - 1) 0 < s.getD 1 0) (iq (mnF s) (iq (rg T c s) (gE (fun a b => iq (jn a b = jn u v) 1) (cl s))))) := by
    rw [← SL_plus]
    refine SL_congr L (fun s hs hx => ?_)
    by_cases z : rg T c s
    · have hne := nodup_getD z.1 (i := 1) (j := s.length - 1) (by omega) (by omega)
      by_cases y : s.getD 1 0 < s.getD (s.length - 1) 0
      · rw [iq_t y, iq_f (p := s.getD (s.length - 1) 0 < s.getD 1 0) (by omega), Nat.add_zero]
      · rw [iq_f y, iq_t (p := s.getD (s.length - 1) 0 < s.getD 1 0) (by omega), Nat.zero_add]
    · rw [iq_f z, iq_zero, iq_zero, iq_zero]
  have e5 : SL n L (fun s => iq (rg T c s) (gE (fun a b => iq (jn a b = jn u v) 1) (cl s))) = L * SL n L (fun s => iq (rg T c s) (iq (jn (s.getD 0 0) (s.getD 1 0) = jn u v) 1)) := by
    rw [SL_congr L (G := fun s => sm (fun i => iq (rg T c (rti i s)) (iq (jn ((rti i s).getD 0 0) ((rti i s).getD 1 0) = jn u v) 1)) L) (fun s hs hx => ?_), ← SL_sm, hj]
    · rw [sm_congr (g := fun _ => SL n (j + 1) (fun s => iq (rg T c s) (iq (jn (s.getD 0 0) (s.getD 1 0) = jn u v) 1))) (j + 1) (fun i _ => SL_rti n j (fun s => iq (rg T c s) (iq (jn (s.getD 0 0) (s.getD 1 0) = jn u v) 1)) i), sm_const]
    · rw [ge_sum _ hL3 hs, ← sm_iq]
      exact sm_congr L (fun i _ => iq_congr (rg_rti i s).symm _)
  have e6 : SL n L (fun s => iq (rg T c s) (iq (jn (s.getD 0 0) (s.getD 1 0) = jn u v) 1)) = SL n L (fun s => iq (s.getD 0 0 = u ∧ s.getD 1 0 = v) (iq (rg T c s) 1)) + SL n L (fun s => iq (s.getD 0 0 = v ∧ s.getD 1 0 = u) (iq (rg T c s) 1)) := by
    rw [← SL_plus]
    refine SL_congr L (fun s hs hx => ?_)
    have h0 := hx _ (getD_mem (r := s) (j := 0) (by omega))
    have h1 := hx _ (getD_mem (r := s) (j := 1) (by omega))
    by_cases z : rg T c s
    · have hne := nodup_getD z.1 (i := 0) (j := 1) (by omega) (by omega)
      have q := jn_two (u := u) (v := v) (by omega) (by omega) (show s.getD 0 0 < 12 by omega) (show s.getD 1 0 < 12 by omega) huv hne
      rw [iq_t z, iq_t z, q]
    · rw [iq_f z, iq_f z, iq_zero, iq_zero]
  have hLL : L = L - 2 + 1 + 1 := by omega
  have e7 : SL n L (fun s => iq (s.getD 0 0 = u ∧ s.getD 1 0 = v) (iq (rg T c s) 1)) = SL n (L - 2) (fun y => iq (rg T c (u :: v :: y)) 1) := by
    conv => lhs; rw [hLL]
    exact SL_pick2 n (L - 2) hu hv (fun s => iq (rg T c s) 1)
  have e8 : SL n L (fun s => iq (s.getD 0 0 = v ∧ s.getD 1 0 = u) (iq (rg T c s) 1)) = SL n (L - 2) (fun y => iq (rg T c (v :: u :: y)) 1) := by
    conv => lhs; rw [hLL]
    exact SL_pick2 n (L - 2) hv hu (fun s => iq (rg T c s) 1)
  have e9 : SL n (L - 2) (fun y => iq (rg T c (u :: v :: y)) 1) = SL n (L - 2) (fun y => iq (rg T c (v :: u :: y)) 1) := by
    rw [← SL_rev n (L - 2) (fun y => iq (rg T c (v :: u :: y)) 1)]
    refine SL_congr _ (fun y _ _ => iq_congr ?_ 1)
    rw [← rg_fr (u :: v :: y), ← rg_rt (v :: u :: y.reverse)]
    have : fr (u :: v :: y) = rt (v :: u :: y.reverse) := by
      show u :: (v :: y).reverse = u :: y.reverse ++ [v]
      rw [List.reverse_cons]
      rfl
    rw [this]
  rw [e6, e7, e8, e9] at e5
  rw [e4, e3] at e2
  have hfin := e2.symm.trans e5
  have := Nat.eq_of_mul_eq_mul_left (show 0 < L by omega) hfin
  omega
