/-! a copy that has just these points -/
noncomputable def mkT (T : bT) (U : Nat) : bT := fun k => if qB (U.testBit (jlo k) = true ∧ U.testBit (jhi k) = true) = true then T k else -1
theorem mkT_iff {T : bT} {U k : Nat} {c : Nat} : mkT T U k = (c : Nat) ↔ (U.testBit (jlo k) = true ∧ U.testBit (jhi k) = true) ∧ T k = (c : Nat) := by
  unfold mkT
  by_cases z : U.testBit (jlo k) = true ∧ U.testBit (jhi k) = true
  · rw [if_pos (qB_t z)]
    exact ⟨fun h => ⟨z, h⟩, fun h => h.2⟩
  · rw [if_neg (qB_no z)]
    exact ⟨fun h => by omega, fun h => absurd h.1 z⟩
theorem newE_has (k L : Nat) {r : List Nat} (hr : 1 ≤ r.length) (p : Nat) : ∃ q ∈ r, jn q p ∈ newE k L r p := by
  have h0 : r.getD 0 0 ∈ r := getD_mem (by omega)
  have hl : r.getD (r.length - 1) 0 ∈ r := getD_mem (by omega)
  have hn : ¬ r.length = 0 := by omega
  unfold newE
  split
  · exact ⟨_, h0, List.mem_map.mpr ⟨_, h0, rfl⟩⟩
  · rw [if_neg hn]
    exact ⟨_, h0, List.mem_singleton.mpr rfl⟩
  · rw [if_neg hn]
    split
    · exact ⟨_, h0, List.mem_singleton.mpr rfl⟩
    · exact ⟨_, h0, List.mem_cons_self⟩
  · rw [if_neg hn]
    exact ⟨_, hl, List.mem_singleton.mpr rfl⟩
  · rw [if_neg hn]
    split
    · exact ⟨_, hl, List.mem_cons_self⟩
    · exact ⟨_, hl, List.mem_singleton.mpr rfl⟩
def covd (r es : List Nat) : Prop := 2 ≤ r.length → ∀ p ∈ r, ∃ q ∈ r, q ≠ p ∧ jn q p ∈ es
theorem rows_cov (k L n : Nat) : ∀ (j : Nat) (r es : List Nat) (x : rE), x ∈ rowsF k L n j r es → covd r es → covd x.1 x.2
  | 0, r, es, x, hx, h => by
    have : x = (r, es) := List.mem_singleton.mp hx
    rw [this]
    exact h
  | j + 1, r, es, x, hx, h => by
    obtain ⟨p, hp, h1⟩ := List.mem_flatMap.mp hx
    split at h1
    · next hq =>
      have hq := qB_iff.mp hq
      refine rows_cov k L n j _ _ x h1 (fun h2 y hy => ?_)
      have hl : 1 ≤ r.length := by
        rw [List.length_append] at h2
        have : [p].length = 1 := rfl
        omega
      obtain ⟨q, hqr, hqe⟩ := newE_has k L hl p
      rcases List.mem_append.mp hy with hy | hy
      · by_cases h3 : 2 ≤ r.length
        · obtain ⟨w, hw, hwy, hwe⟩ := h h3 y hy
          exact ⟨w, List.mem_append_left _ hw, hwy, List.mem_append_left _ hwe⟩
        · have hyq : y = q := by
            obtain ⟨a, rfl⟩ := List.length_eq_one_iff.mp (show r.length = 1 by omega)
            rw [List.mem_singleton.mp hy, List.mem_singleton.mp hqr]
          refine ⟨p, List.mem_append_right _ (List.mem_singleton.mpr rfl), fun z => hq.1 (by rw [z]; exact hy), List.mem_append_right _ ?_⟩
          rw [jn_sym, hyq]
          exact hqe
      · have hy := List.mem_singleton.mp hy
        rw [hy]
        exact ⟨q, List.mem_append_left _ hqr, fun z => hq.1 (by rw [← z]; exact hqr), List.mem_append_right _ hqe⟩
    · cases h1
theorem bitR_mem (r : List Nat) : ∀ (j q : Nat), j ≤ r.length → ((bitR r j).testBit q = true ↔ ∃ i, i < j ∧ r.getD i 0 = q)
  | 0, q, _ => by
    refine ⟨fun z => ?_, fun z => ?_⟩
    · have z : (0 : Nat).testBit q = true := z
      rw [Nat.zero_testBit] at z
      cases z
    · obtain ⟨i, hi, -⟩ := z
      omega
  | j + 1, q, hj => by
    show (bitR r j ||| 2 ^ (r.getD j 0)).testBit q = true ↔ _
    rw [Nat.testBit_or, Bool.or_eq_true, bitR_mem r j q (by omega), Nat.testBit_two_pow, decide_eq_true_iff]
    refine ⟨fun z => ?_, fun z => ?_⟩
    · rcases z with ⟨i, hi, h⟩ | z
      · exact ⟨i, by omega, h⟩
      · exact ⟨j, by omega, z⟩
    · obtain ⟨i, hi, h⟩ := z
      by_cases hij : i = j
      · exact Or.inr (by rw [← hij]; exact h)
      · exact Or.inl ⟨i, by omega, h⟩
theorem bitR_all (r : List Nat) (q : Nat) : (bitR r r.length).testBit q = true ↔ q ∈ r := by
  rw [bitR_mem r r.length q (Nat.le_refl _)]
  refine ⟨fun z => ?_, fun z => ?_⟩
  · obtain ⟨i, hi, rfl⟩ := z
    exact getD_mem hi
  · obtain ⟨i, hi, h⟩ := List.getElem_of_mem z
    refine ⟨i, hi, ?_⟩
    rw [List.getD_eq_getElem?_getD, List.getElem?_eq_getElem hi]
    exact h
theorem lst_nodup : ∀ (r : List Nat) (C : Nat → Prop), r.Nodup → (∀ x ∈ r, C x ∧ x < 12) → (lst C 0 12).length = r.length + (lst (fun q => C q ∧ q ∉ r) 0 12).length
  | [], C, _, _ => by
    rw [List.length_nil, Nat.zero_add]
    exact lst_same (fun q _ => ⟨fun h => ⟨h, fun z => by cases z⟩, fun h => h.1⟩)
  | v :: r, C, hn, hC => by
    obtain ⟨h1, h2⟩ := List.nodup_cons.mp hn
    have hv := hC v List.mem_cons_self
    have ih := lst_nodup r (fun q => C q ∧ q ≠ v) h2 (fun x hx => ⟨⟨(hC x (List.mem_cons_of_mem _ hx)).1, fun z => h1 (by rw [← z]; exact hx)⟩, (hC x (List.mem_cons_of_mem _ hx)).2⟩)
    have e := lst_same (C := fun q => (C q ∧ q ≠ v) ∧ q ∉ r) (D := fun q => C q ∧ q ∉ v :: r) (n := 12) (fun q _ => ⟨fun h => ⟨h.1.1, fun z => (List.mem_cons.mp z).elim h.1.2 h.2⟩, fun h => ⟨⟨h.1, fun z => h.2 (by rw [z]; exact List.mem_cons_self)⟩, fun z => h.2 (List.mem_cons_of_mem _ z)⟩⟩)
    rw [lst_rem hv.2 hv.1, ih, e, List.length_cons]
    omega
theorem bc_row {r : List Nat} (hn : r.Nodup) (hr : ∀ x ∈ r, x < 12) : bc (bitR r r.length) = r.length := by
  rw [bc_lst (n := 12) (C := fun q => q ∈ r) (Nat.le_refl _) (fun q => bitR_all r q) hr, lst_nodup r (fun q => q ∈ r) hn (fun x hx => ⟨hx, hr x hx⟩)]
  have : (lst (fun q => q ∈ r ∧ q ∉ r) 0 12).length = 0 := by
    rw [List.length_eq_zero_iff]
    cases hl : lst (fun q => q ∈ r ∧ q ∉ r) 0 12 with
    | nil => rfl
    | cons a b =>
      have : a ∈ lst (fun q => q ∈ r ∧ q ∉ r) 0 12 := by rw [hl]; exact List.mem_cons_self
      exact absurd (lst_mem.mp this).2.1 (lst_mem.mp this).2.2
  omega
theorem row_is {r : List Nat} (hn : r.Nodup) (hr : ∀ x ∈ r, x < 12) {U : Nat} (hU : U < 4096) (hb : bc U = r.length) (hs : ∀ x ∈ r, U.testBit x = true) : bitR r r.length = U := by
  have h12 : ∀ q, U.testBit q = true → q < 12 := fun q h => by
    by_cases z : q < 12
    · exact z
    · have : U < 2 ^ q := Nat.lt_of_lt_of_le (show U < 2 ^ 12 from hU) (Nat.pow_le_pow_right (by decide) (by omega))
      rw [Nat.testBit_lt_two_pow this] at h
      cases h
  have e1 := bc_lst (x := U) (n := 12) (C := fun q => U.testBit q = true) (Nat.le_refl _) (fun q => Iff.rfl) h12
  have e2 := lst_nodup r (fun q => U.testBit q = true) hn (fun x hx => ⟨hs x hx, hr x hx⟩)
  refine Nat.eq_of_testBit_eq (fun q => ?_)
  have : (bitR r r.length).testBit q = true ↔ U.testBit q = true := by
    rw [bitR_all]
    refine ⟨hs q, fun h => ?_⟩
    by_cases z : q ∈ r
    · exact z
    · have := lst_pos (C := fun q => U.testBit q = true ∧ q ∉ r) (h12 q h) ⟨h, z⟩
      omega
  exact Bool.eq_iff_iff.mpr this
theorem wS_pos {w : rE → Nat} : ∀ {xs : List rE}, 0 < wS w xs ↔ ∃ x ∈ xs, 0 < w x
  | [] => ⟨fun z => absurd (show 0 < 0 from z) (by decide), fun ⟨x, hx, _⟩ => by cases hx⟩
  | y :: xs => by
    have ih := wS_pos (w := w) (xs := xs)
    show 0 < w y + wS w xs ↔ _
    refine ⟨fun z => ?_, fun z => ?_⟩
    · by_cases h : 0 < w y
      · exact ⟨y, List.mem_cons_self, h⟩
      · obtain ⟨x, hx, h⟩ := ih.mp (by omega)
        exact ⟨x, List.mem_cons_of_mem _ hx, h⟩
    · obtain ⟨x, hx, h⟩ := z
      rcases List.mem_cons.mp hx with rfl | hx
      · omega
      · have := ih.mpr ⟨x, hx, h⟩
        omega
/-- what the one who checks asks of a row -/
def justP (N : nN) (c e U : Nat) : Prop := ∃ x ∈ cpL N c 0, bitR x.1 x.1.length = U ∧ e ∈ x.2
theorem takes_mem {T : bT} {c : Int} {k L n : Nat} {x : rE} : x ∈ takesF T c 0 k L n L [] [] ↔ x ∈ rowsF k L n L [] [] ∧ ∀ e ∈ x.2, T e = c := by
  unfold takesF
  rw [List.mem_filter, decide_eq_true_iff, Nat.le_zero, msN0]
theorem just_ends {N : nN} (o : nOk N) {c e U : Nat} (hc : c < 3) (h : justP N c e U) : U.testBit (jlo e) = true ∧ U.testBit (jhi e) = true ∧ bc U = nln N c := by
  obtain ⟨x, hx, hb, he⟩ := h
  obtain ⟨h1, h2, h3, h4⟩ := cpL_row o hc hx
  obtain ⟨a, ha, b, hb2, hab, rfl⟩ := h4.2.2.2.1 e he
  have a12 := h4.1 a ha
  have b12 := h4.1 b hb2
  obtain ⟨j1, j2⟩ := jn_inj a a12 b b12 hab
  have ua := (bitR_all x.1 a).mpr ha
  have ub := (bitR_all x.1 b).mpr hb2
  rw [hb] at ua ub
  have hbc := bc_row h4.2.1 h4.1
  rw [hb, h1] at hbc
  refine ⟨?_, ?_, hbc⟩
  · rw [j1]
    by_cases z : a ≤ b
    · rw [Nat.min_eq_left z]; exact ua
    · rw [Nat.min_eq_right (by omega)]; exact ub
  · rw [j2]
    by_cases z : a ≤ b
    · rw [Nat.max_eq_right z]; exact ub
    · rw [Nat.max_eq_left (by omega)]; exact ua
theorem just_thr {N : nN} (o : nOk N) {c e U : Nat} (hc : c < 3) (hU : U < 4096) (hb : bc U = nln N c) : 0 < thrK N (mkT (nT N) U) c e ↔ justP N c e U := by
  unfold thrK justP cpL
  by_cases hk : nK N c = 0
  · rw [if_pos hk, if_pos hk]
    exact ⟨fun z => by omega, fun ⟨x, hx, _⟩ => by cases hx⟩
  · rw [if_neg hk, if_neg hk]
    have ko := (kOk_of (o.2.2.1 c hc) hk).1
    unfold thr
    rw [wS_pos]
    have hw : ∀ x : rE, 0 < iq (e ∈ x.2) 1 ↔ e ∈ x.2 := fun x => by
      by_cases z : e ∈ x.2
      · rw [iq_t z]; exact ⟨fun _ => z, fun _ => by decide⟩
      · rw [iq_f z]; exact ⟨fun w => by omega, fun w => absurd w z⟩
    refine ⟨fun ⟨x, hx, h⟩ => ?_, fun ⟨x, hx, h1, h2⟩ => ?_⟩
    · obtain ⟨x1, x2⟩ := takes_mem.mp hx
      have hx' : x ∈ takesF (nT N) c 0 (nkk N c) (nln N c) (nP N) (nln N c) [] [] := takes_mem.mpr ⟨x1, fun e he => (mkT_iff.mp (x2 e he)).2⟩
      have row := cpL_row o hc (mm := 0) (x := x) (by unfold cpL; rw [if_neg hk]; exact hx')
      refine ⟨x, hx', ?_, (hw x).mp h⟩
      refine row_is row.2.2.2.2.1 row.2.2.2.1 hU (by rw [hb, row.1]) (fun p hp => ?_)
      have cov := rows_cov _ _ _ _ _ _ x x1 (fun z => absurd z (by decide)) (by rw [row.1]; exact kOk_two ko) p hp
      obtain ⟨q, hq, hqp, hqe⟩ := cov
      have m := (mkT_iff.mp (x2 _ hqe)).1
      have p12 := row.2.2.2.1 p hp
      have q12 := row.2.2.2.1 q hq
      obtain ⟨j1, j2⟩ := jn_inj q q12 p p12 hqp
      rw [j1, j2] at m
      by_cases z : q ≤ p
      · rw [Nat.max_eq_right z] at m; exact m.2
      · rw [Nat.min_eq_right (by omega)] at m; exact m.1
    · refine ⟨x, takes_mem.mpr ⟨(takes_mem.mp hx).1, fun e' he' => ?_⟩, (hw x).mpr h2⟩
      have := just_ends o hc (e := e') (U := U) ⟨x, by unfold cpL; rw [if_neg hk]; exact hx, h1, he'⟩
      exact mkT_iff.mpr ⟨⟨this.1, this.2.1⟩, (takes_mem.mp hx).2 e' he'⟩
