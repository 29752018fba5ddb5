/-! the model's look for walks: copies through joins, copies that one join is wanting to -/
theorem wS_congr {w w' : rE → Nat} : ∀ {xs : List rE}, (∀ x ∈ xs, w x = w' x) → wS w xs = wS w' xs
  | [], _ => rfl
  | x :: xs, h => by
    show w x + wS w xs = w' x + wS w' xs
    rw [h x List.mem_cons_self, wS_congr (fun y hy => h y (List.mem_cons_of_mem _ hy))]
theorem wS_filt (w : rE → Nat) (P : rE → Bool) : ∀ xs : List rE, wS w (xs.filter P) = wS (fun x => iq (P x = true) (w x)) xs
  | [] => rfl
  | x :: xs => by
    show _ = iq (P x = true) (w x) + wS _ xs
    by_cases h : P x = true
    · rw [List.filter_cons_of_pos h, iq_t h, ← wS_filt w P xs]
      rfl
    · rw [List.filter_cons_of_neg h, iq_f h, wS_filt w P xs, Nat.zero_add]
theorem rowsF_ok {k L n : Nat} (hk : kOk k L) (hn : n ≤ 12) : ∀ (j : Nat) (r es : List Nat) (x : rE), x ∈ rowsF k L n j r es → rOk k r es → rOk k x.1 x.2
  | 0, r, es, x, hx, o => by
    have : x = (r, es) := List.mem_singleton.mp hx
    subst this
    exact o
  | j + 1, r, es, x, hx, o => by
    obtain ⟨p, hp, h1⟩ := List.mem_flatMap.mp hx
    have hp2 : p < n := by
      have := List.mem_range'_1.mp hp
      omega
    split at h1
    · next hq =>
      obtain ⟨r1, r2⟩ := qB_iff.mp hq
      exact rowsF_ok hk hn j _ _ x h1 (rOk_add hk o (by omega) r1)
    · cases h1
/-- the join that is wanting -/
theorem msD_one {T : Nat → Int} {c : Int} : ∀ {es : List Nat} (m : Int), 1 ≤ msN T c es → ∃ e ∈ es, T e ≠ c ∧ msD T c m es = (e : Nat) ∧ msD T c 0 es = (e : Nat)
  | [], m, h => absurd h (by show ¬ (1 ≤ 0); omega)
  | e :: es, m, h => by
    have h : 1 ≤ (if T e = c then 0 else 1) + msN T c es := h
    by_cases h1 : 1 ≤ msN T c es
    · obtain ⟨x, hx, a, b, d⟩ := msD_one (es := es) (if T e = c then m else e) h1
      obtain ⟨x', hx', a', b', d'⟩ := msD_one (es := es) (if T e = c then 0 else e) h1
      refine ⟨x, List.mem_cons_of_mem _ hx, a, b, ?_⟩
      show msD T c (if T e = c then 0 else e) es = _
      rw [b', ← d', d]
    · have h2 : T e ≠ c := fun z => by rw [if_pos z] at h; omega
      have h3 : ∀ m', msD T c m' es = m' := by
        have h4 := msN0.mp (show msN T c es = 0 by omega)
        have gen : ∀ (l : List Nat) (m' : Int), (∀ x ∈ l, T x = c) → msD T c m' l = m' := by
          intro l
          induction l with
          | nil => intro m' _; rfl
          | cons a l ih =>
            intro m' hl
            show msD T c (if T a = c then m' else a) l = m'
            rw [if_pos (hl a List.mem_cons_self)]
            exact ih m' (fun x hx => hl x (List.mem_cons_of_mem _ hx))
        exact fun m' => gen es m' h4
      refine ⟨e, List.mem_cons_self, h2, ?_, ?_⟩
      · show msD T c (if T e = c then m else e) es = _
        rw [h3, if_neg h2]
      · show msD T c (if T e = c then 0 else e) es = _
        rw [h3, if_neg h2]
theorem thF_at : ∀ (es : List Nat) (F : Nat → Int) (k : Nat), es.Nodup → thF F es k = F k + (iq (k ∈ es) 1 : Nat)
  | [], F, k, _ => by
    rw [iq_f (by simp)]
    show F k = F k + 0
    omega
  | e :: es, F, k, h => by
    obtain ⟨h1, h2⟩ := List.nodup_cons.mp h
    show thF (tSet F e (F e + 1)) es k = _
    rw [thF_at es _ k h2]
    show (if k = e then F e + 1 else F k) + _ = _
    by_cases z : k = e
    · subst z
      rw [if_pos rfl, iq_f h1, iq_t List.mem_cons_self]
      omega
    · rw [if_neg z, iq_congr (p := k ∈ e :: es) (q := k ∈ es) ⟨fun y => (List.mem_cons.mp y).elim (fun w => absurd w z) id, fun y => List.mem_cons_of_mem _ y⟩]
abbrev aW : Type := Nat × Nat × (Nat → Int) × (Nat → Int)
noncomputable def stW (T : Nat → Int) (c : Int) (a : aW) (_ es : List Nat) : aW := if msN T c es = 1 then (a.1 + 1, a.2.1, tSet a.2.2.1 (msD T c 0 es).toNat (a.2.2.1 (msD T c 0 es).toNat + 1), a.2.2.2) else (a.1 + 1, a.2.1 + 1, a.2.2.1, thF a.2.2.2 es)
theorem goA_W (T : Nat → Int) (c : Int) (k : Nat) : ∀ (xs : List rE) (a : aW), (∀ x ∈ xs, x.2.Nodup) → (goA (fun _ : aW => False) (stW T c) a xs).2.2.1 k = a.2.2.1 k + (wS (fun x => iq (msN T c x.2 = 1 ∧ (msD T c 0 x.2).toNat = k) 1) xs : Nat) ∧ (goA (fun _ : aW => False) (stW T c) a xs).2.2.2 k = a.2.2.2 k + (wS (fun x => iq (msN T c x.2 ≠ 1 ∧ k ∈ x.2) 1) xs : Nat)
  | [], a, _ => ⟨by show a.2.2.1 k = a.2.2.1 k + 0; omega, by show a.2.2.2 k = a.2.2.2 k + 0; omega⟩
  | x :: xs, a, h => by
    have hn := h x List.mem_cons_self
    have ih := goA_W T c k xs (stW T c a x.1 x.2) (fun y hy => h y (List.mem_cons_of_mem _ hy))
    have e0 : goA (fun _ : aW => False) (stW T c) a (x :: xs) = goA (fun _ : aW => False) (stW T c) (stW T c a x.1 x.2) xs := if_neg (qB_no id)
    rw [e0, ih.1, ih.2]
    show (stW T c a x.1 x.2).2.2.1 k + _ = a.2.2.1 k + ((iq (msN T c x.2 = 1 ∧ (msD T c 0 x.2).toNat = k) 1 + wS _ xs : Nat) : Int) ∧ (stW T c a x.1 x.2).2.2.2 k + _ = a.2.2.2 k + ((iq (msN T c x.2 ≠ 1 ∧ k ∈ x.2) 1 + wS _ xs : Nat) : Int)
    unfold stW
    by_cases h1 : msN T c x.2 = 1
    · rw [if_pos h1, iq_f (p := msN T c x.2 ≠ 1 ∧ k ∈ x.2) (fun z => z.1 h1)]
      refine ⟨?_, by dsimp only; omega⟩
      show (if k = (msD T c 0 x.2).toNat then a.2.2.1 (msD T c 0 x.2).toNat + 1 else a.2.2.1 k) + _ = _
      by_cases h2 : (msD T c 0 x.2).toNat = k
      · rw [if_pos h2.symm, iq_t ⟨h1, h2⟩, h2]
        omega
      · rw [if_neg (fun z => h2 z.symm), iq_f (fun z => h2 z.2)]
        omega
    · rw [if_neg h1, iq_f (p := msN T c x.2 = 1 ∧ (msD T c 0 x.2).toNat = k) (fun z => h1 z.1)]
      refine ⟨by dsimp only; omega, ?_⟩
      show thF a.2.2.2 x.2 k + _ = _
      rw [thF_at _ _ _ hn, iq_congr (p := msN T c x.2 ≠ 1 ∧ k ∈ x.2) (q := k ∈ x.2) ⟨fun z => z.2, fun z => ⟨h1, z⟩⟩]
      omega
theorem cpL_rows {N : nN} (o : nOk N) {c : Nat} (hc : c < 3) (mm : Nat) : ∀ x ∈ cpL N c mm, x.2.Nodup := fun x hx => (cpL_row o hc hx).2.2.2.2.2.1
section Look2
variable {l : Launch} {g : mG} {d : Nat}
theorem look2 (c : Nat) (N : nN) (o : nOk N) (hc : c < 3) (h : mMem) (e : isM h N) (G0 F0 : Nat → Int) (s0 : Nat) (hs0 : s0 ≤ 200000000) (hG : ∀ k, 0 ≤ G0 k ∧ G0 k ≤ s0) (hF : ∀ k, 0 ≤ F0 k ∧ F0 k ≤ s0) (eG : ∀ k, k < 66 → h 48 0 k = G0 k) (eF : ∀ k, k < 66 → h 47 0 k = F0 k) :
    mCon l g n_M_look (d + 11) [.inr (9, 0), .inl c, .inl 2, .inl 1] h (fun v h' => v = none ∧ (∀ k, k < 66 → h' 48 0 k = G0 k + (wS (fun x => iq (msN (nT N) c x.2 = 1 ∧ (msD (nT N) c 0 x.2).toNat = k) 1) (cpL N c 1) : Nat)) ∧ (∀ k, k < 66 → h' 47 0 k = F0 k + (wS (fun x => iq (msN (nT N) c x.2 ≠ 1 ∧ k ∈ x.2) 1) (cpL N c 1) : Nat)) ∧ farX h h') := by
  have hsz := o.2.2.1 c hc
  have q := s_look (l := l) (g := g) (d := d) c hc N o.1.2 hsz 2 1 (by omega) h e
    (fun (a : aW) h' => h' 9 0 14 = a.2.1 ∧ h' 9 0 15 = 0 ∧ (∀ k, k < 66 → h' 48 0 k = a.2.2.1 k) ∧ (∀ k, k < 66 → h' 47 0 k = a.2.2.2 k) ∧ a.2.1 ≤ a.1 ∧ (∀ k, 0 ≤ a.2.2.1 k ∧ a.2.2.1 k ≤ a.1) ∧ (∀ k, 0 ≤ a.2.2.2 k ∧ a.2.2.2 k ≤ a.1))
    (fun _ => False) (stW (nT N) c) (fun a => a.1) 1000000000 (s0, 0, G0, F0)
    (fun a h1 h2 f z => ⟨(f _ _ _ (by decide)).trans z.1, (f _ _ _ (by decide)).trans z.2.1, fun k hk => (f _ _ _ (by omega)).trans (z.2.2.1 k hk), fun k hk => (f _ _ _ (by omega)).trans (z.2.2.2.1 k hk), z.2.2.2.2⟩) (fun a h1 z => by rw [z.2.1, mBc_f id])
    (fun k0 a h1 r es t1 f z _ hz o1 o2 S er ms => by
      obtain ⟨z1, z2, z3, z4, z5, z6, z7⟩ := z
      have hz : a.1 < 1000000000 := hz
      have hle := rOk_len (kOk_of hsz k0).1 o1 (Nat.le_of_eq o2)
      have hes := o1.2.2.1
      unfold stW
      by_cases hm : msN (nT N) c es = 1
      · rw [if_pos hm]
        obtain ⟨x, hx, a1, a2, a3⟩ := msD_one (T := nT N) (c := c) (es := es) (h 9 0 11) (by omega)
        have hx66 := rOk_66 o1 hx
        have b6 := z6 x
        refine mCon_mono (c_M_take2g (d := d + 1) h1 r.length x hx66 (a.2.2.1 x) ⟨by omega, by omega⟩ t1 (by rw [S.2.2.1, hm]; rfl) (by rw [S.2.2.2.1, a2]) (z3 x hx66)) ?_
        rintro v h2 ⟨rfl, rfl⟩
        rw [a3, Int.toNat_natCast]
        refine ⟨rfl, ⟨(mSet_no (by simp)).trans z1, (mSet_no (by simp)).trans z2, fun k hk => ?_, fun k hk => (mSet_no (by simp)).trans (z4 k hk), by show a.2.1 ≤ a.1 + 1; omega, fun k => ?_, fun k => by have := z7 k; show 0 ≤ a.2.2.2 k ∧ a.2.2.2 k ≤ ((a.1 + 1 : Nat) : Int); omega⟩, fun t i k y => mSet_no (fun w => y (by omega))⟩
        · show (if 48 = 48 ∧ (0 : Fin 8) = 0 ∧ k = x then _ else _) = (if k = x then _ else _)
          by_cases hq : k = x
          · rw [if_pos ⟨rfl, rfl, hq⟩, if_pos hq]
          · rw [if_neg (fun w => hq w.2.2), if_neg hq]
            exact z3 k hk
        · have := z6 k
          show 0 ≤ (if k = x then a.2.2.1 x + 1 else a.2.2.1 k) ∧ (if k = x then a.2.2.1 x + 1 else a.2.2.1 k) ≤ ((a.1 + 1 : Nat) : Int)
          split <;> omega
      · rw [if_neg hm]
        have e10 : h1 9 0 10 ≠ 1 := by rw [S.2.2.1]; omega
        refine mCon_mono (c_M_take2t (d := d + 1) h1 r.length a.2.1 (by omega) es a.2.2.2 (fun k => by have := z7 k; omega) (fun k hk => (z4 k hk).symm) (by omega) (fun x hx => rOk_66 o1 hx) t1 e10 z1 S.1 S.2.1) ?_
        rintro v h2 ⟨rfl, rfl⟩
        refine ⟨rfl, ⟨?_, ?_, fun k hk => ?_, fun k hk => ?_, by show a.2.1 + 1 ≤ a.1 + 1; omega, fun k => by have := z6 k; show 0 ≤ a.2.2.1 k ∧ a.2.2.1 k ≤ ((a.1 + 1 : Nat) : Int); omega, fun k => ?_⟩, fun t i k y => ?_⟩
        · rw [mSeg_ne (by decide), mSet_at]
        · rw [mSeg_ne (by decide), mSet_no (by simp)]
          exact z2
        · rw [mSeg_ne (by decide), mSet_no (by simp)]
          exact z3 k hk
        · exact mSeg_in0 hk
        · have b1 := z7 k
          have b2 := iq_le (k ∈ es) 1
          show 0 ≤ thF a.2.2.2 es k ∧ thF a.2.2.2 es k ≤ ((a.1 + 1 : Nat) : Int)
          rw [thF_at _ _ _ hes]
          omega
        · rw [mSeg_ne (by omega), mSet_no (fun w => y (by omega))])
    (fun a r es => by
      unfold stW
      split
      · exact Nat.le_refl _
      · exact Nat.le_refl _) (by show s0 + 35831808 ≤ 1000000000; omega) id (fun h1 f fk z1 z2 => ⟨z1, z2, fun k hk => (fk _ _ _ (by omega)).trans (eG k hk), fun k hk => (fk _ _ _ (by omega)).trans (eF k hk), Nat.zero_le _, hG, hF⟩)
  refine mCon_mono q ?_
  rintro v h' ⟨rfl, ⟨-, -, z3, z4, -⟩, f⟩
  refine ⟨rfl, fun k hk => ?_, fun k hk => ?_, f⟩
  · rw [z3 k hk, (goA_W (nT N) c k _ _ (cpL_rows o hc 1)).1]
  · rw [z4 k hk, (goA_W (nT N) c k _ _ (cpL_rows o hc 1)).2]
end Look2
/-- what one join is wanting to, what goes through it -/
theorem cp_through {N : nN} (o : nOk N) {c : Nat} (hc : c < 3) (k : Nat) : wS (fun x => iq (msN (nT N) c x.2 ≠ 1 ∧ k ∈ x.2) 1) (cpL N c 1) = thrK N (nT N) c k := by
  unfold cpL thrK
  by_cases h0 : nK N c = 0
  · rw [if_pos h0, if_pos h0]
    rfl
  · rw [if_neg h0, if_neg h0]
    unfold thr takesF
    rw [wS_filt, wS_filt]
    refine wS_congr (fun x _ => ?_)
    rw [← iq_and, ← iq_and]
    refine iq_congr ?_ 1
    simp only [decide_eq_true_eq]
    exact ⟨fun z => ⟨by omega, z.2.2⟩, fun z => ⟨by omega, by omega, z.2⟩⟩
theorem cp_gained {N : nN} (o : nOk N) {c : Nat} (hc : c < 3) (k : Nat) (hk : nT N k ≠ c) : wS (fun x => iq (msN (nT N) c x.2 = 1 ∧ (msD (nT N) c 0 x.2).toNat = k) 1) (cpL N c 1) = thrK N (tSet (nT N) k c) c k := by
  unfold cpL thrK
  by_cases h0 : nK N c = 0
  · rw [if_pos h0, if_pos h0]
    rfl
  · rw [if_neg h0, if_neg h0]
    have k1 : kOk (nkk N c) (nln N c) := (kOk_of (o.2.2.1 c hc) h0).1
    unfold thr takesF
    rw [wS_filt, wS_filt]
    refine wS_congr (fun x hx => ?_)
    have hnd := (rowsF_ok k1 o.1.2 _ _ _ x hx (rOk_nil _)).2.2.1
    rw [← iq_and, ← iq_and]
    refine iq_congr ?_ 1
    simp only [decide_eq_true_eq]
    have key : msN (tSet (nT N) k c) c x.2 = 0 ↔ ∀ y ∈ x.2, y ≠ k → nT N y = c := by
      rw [msN0]
      constructor
      · intro h y hy hne
        have := h y hy
        rw [show tSet (nT N) k c y = nT N y from if_neg hne] at this
        exact this
      · intro h y hy
        by_cases z : y = k
        · exact if_pos z
        · rw [show tSet (nT N) k c y = nT N y from if_neg z]
          exact h y hy z
    have one : ∀ (l : List Nat), l.Nodup → k ∈ l → (∀ y ∈ l, y ≠ k → nT N y = c) → msN (nT N) c l = 1 := by
      intro l
      induction l with
      | nil => intro _ h; exact (List.not_mem_nil h).elim
      | cons a l ih =>
        intro hn hm hy
        obtain ⟨n1, n2⟩ := List.nodup_cons.mp hn
        show (if nT N a = c then 0 else 1) + msN (nT N) c l = 1
        by_cases z : a = k
        · subst z
          rw [if_neg hk, msN0.mpr (fun y hy' => hy y (List.mem_cons_of_mem _ hy') (fun w => n1 (w ▸ hy')))]
        · rw [if_pos (hy a List.mem_cons_self z)]
          have := ih n2 ((List.mem_cons.mp hm).elim (fun w => absurd w.symm z) id) (fun y hy' => hy y (List.mem_cons_of_mem _ hy'))
          omega
    have uniq : ∀ (l : List Nat) (a b : Nat), l.Nodup → a ∈ l → b ∈ l → nT N a ≠ c → nT N b ≠ c → a ≠ b → 2 ≤ msN (nT N) c l := by
      intro l
      induction l with
      | nil => intro a b _ h; exact (List.not_mem_nil h).elim
      | cons y l ih =>
        intro a b hn ha hb h1 h2 hab
        obtain ⟨n1, n2⟩ := List.nodup_cons.mp hn
        show 2 ≤ (if nT N y = c then 0 else 1) + msN (nT N) c l
        have pos : ∀ z ∈ l, nT N z ≠ c → 1 ≤ msN (nT N) c l := fun z hz hne => by
          by_cases q : msN (nT N) c l = 0
          · exact absurd (msN0.mp q z hz) hne
          · omega
        rcases List.mem_cons.mp ha with ha' | ha'
        · rcases List.mem_cons.mp hb with hb' | hb'
          · exact absurd (ha'.trans hb'.symm) hab
          · rw [if_neg (ha' ▸ h1)]
            have := pos b hb' h2
            omega
        · rcases List.mem_cons.mp hb with hb' | hb'
          · rw [if_neg (hb' ▸ h2)]
            have := pos a ha' h1
            omega
          · have := ih a b n2 ha' hb' h1 h2 hab
            omega
    constructor
    · rintro ⟨-, h1, h2⟩
      obtain ⟨y, hy, a1, a2, a3⟩ := msD_one (T := nT N) (c := c) (es := x.2) 0 (by omega)
      rw [a3, Int.toNat_natCast] at h2
      subst h2
      refine ⟨?_, hy⟩
      have : msN (tSet (nT N) y c) c x.2 = 0 := by
        rw [key]
        intro z hz hne
        by_cases w : nT N z = c
        · exact w
        · have := uniq x.2 z y hnd hz hy w a1 hne
          omega
      omega
    · rintro ⟨h1, h2⟩
      have h3 := key.mp (by omega)
      have h4 := one x.2 hnd h2 h3
      obtain ⟨y, hy, a1, a2, a3⟩ := msD_one (T := nT N) (c := c) (es := x.2) 0 (by omega)
      refine ⟨by omega, h4, ?_⟩
      rw [a3, Int.toNat_natCast]
      by_cases z : y = k
      · exact z
      · exact absurd (h3 y hy z) a1
