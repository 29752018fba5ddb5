/-! the lists up to likeness: unseen is least -/
theorem takes_sub {T1 T : Nat → Int} {c : Int} {k L n : Nat} (h : ∀ x, T1 x = c → T x = c) (h0 : takesF T c 0 k L n L [] [] = []) : takesF T1 c 0 k L n L [] [] = [] := by
  cases hx : takesF T1 c 0 k L n L [] [] with
  | nil => rfl
  | cons x xs =>
    exfalso
    have h1 : x ∈ takesF T1 c 0 k L n L [] [] := by rw [hx]; exact List.mem_cons_self
    have h2 := takes_mem.mp h1
    have h3 : x ∈ takesF T c 0 k L n L [] [] := takes_mem.mpr ⟨h2.1, fun e he => h e (h2.2 e he)⟩
    rw [h0] at h3
    cases h3
theorem cpL_sub {N : nN} {T1 T : bT} {c : Nat} (h : ∀ x, T1 x = (c : Int) → T x = (c : Int)) (h0 : cpL (nSetT N T) c 0 = []) : cpL (nSetT N T1) c 0 = [] := by
  unfold cpL at h0 ⊢
  by_cases z : nK N c = 0
  · exact if_pos z
  · have h0 : (if nK N c = 0 then ([] : List rE) else takesF T c 0 (nkk N c) (nln N c) (nP N) (nln N c) [] []) = [] := h0
    show (if nK N c = 0 then ([] : List rE) else takesF T1 c 0 (nkk N c) (nln N c) (nP N) (nln N c) [] []) = []
    rw [if_neg z] at h0 ⊢
    exact takes_sub h h0
theorem lv_mem {N : nN} (m : Nat) : ∀ (j i : Nat) (T0 T : bT), i + j = m → (∀ q, i ≤ q → q < m → T0 q = -1) → nClear (nSetT N T0) → (T ∈ lv N id j i T0 ↔ (∀ k, ¬ (i ≤ k ∧ k < m) → T k = T0 k) ∧ (∀ k, i ≤ k → k < m → 0 ≤ T k ∧ T k < nC N) ∧ nClear (nSetT N T))
  | 0, i, T0, T, hm, hb, hc => by
    constructor
    · intro h
      rw [List.mem_singleton.mp h]
      exact ⟨fun _ _ => rfl, fun k h1 h2 => by omega, hc⟩
    · rintro ⟨h1, _, _⟩
      have : T = T0 := funext (fun k => h1 k (by omega))
      rw [this]
      exact List.mem_singleton.mpr rfl
  | j + 1, i, T0, T, hm, hb, hc => by
    have hbi := hb i (Nat.le_refl _) (by omega)
    have nb : ∀ c : Nat, ∀ q, i + 1 ≤ q → q < m → tSet T0 i (c : Int) q = -1 := fun c q h1 h2 => by
      show (if q = i then _ else T0 q) = -1
      rw [if_neg (by omega)]
      exact hb q (by omega) h2
    constructor
    · intro h
      obtain ⟨c, hc1, h1⟩ := List.mem_flatMap.mp h
      have hc2 : c < nC N := by
        have := List.mem_range'_1.mp hc1
        omega
      by_cases z : cpL (nSetT N (tSet T0 i (c : Nat))) c 0 = []
      · have h1 : T ∈ lv N id j (i + 1) (tSet T0 i (c : Nat)) := by
          rw [if_pos (qB_t (show cpL (nSetT N (tSet T0 (id i) (c : Nat))) c 0 = [] from z))] at h1
          exact h1
        have cl : nClear (nSetT N (tSet T0 i (c : Nat))) := clear_set (N := nSetT N T0) hc2 hbi hc z
        obtain ⟨a1, a2, a3⟩ := (lv_mem m j (i + 1) _ T (by omega) (nb c) cl).mp h1
        have hTi : T i = (c : Int) := by
          rw [a1 i (by omega)]
          exact if_pos rfl
        refine ⟨fun k hk => ?_, fun k h2 h3 => ?_, a3⟩
        · rw [a1 k (by omega)]
          exact if_neg (by omega)
        · by_cases y : k = i
          · rw [y, hTi]; omega
          · exact a2 k (by omega) h3
      · rw [if_neg (qB_no (show ¬ cpL (nSetT N (tSet T0 (id i) (c : Nat))) c 0 = [] from z))] at h1
        cases h1
    · rintro ⟨h1, h2, h3⟩
      have hTi := h2 i (Nat.le_refl _) (by omega)
      obtain ⟨c, hc1⟩ := Int.eq_ofNat_of_zero_le hTi.1
      have hc2 : c < nC N := by omega
      have z : cpL (nSetT N (tSet T0 i (c : Nat))) c 0 = [] := cpL_sub (T := T) (fun x hx => by
        have hx : (if x = i then ((c : Nat) : Int) else T0 x) = (c : Int) := hx
        by_cases y : x = i
        · rw [y]; exact hc1
        · rw [if_neg y] at hx
          by_cases w : i ≤ x ∧ x < m
          · rw [hb x w.1 w.2] at hx
            omega
          · rw [h1 x w]; exact hx) (h3 c hc2)
      have cl : nClear (nSetT N (tSet T0 i (c : Nat))) := clear_set (N := nSetT N T0) hc2 hbi hc z
      refine List.mem_flatMap.mpr ⟨c, List.mem_range'_1.mpr ⟨Nat.zero_le _, by omega⟩, ?_⟩
      rw [if_pos (qB_t (show cpL (nSetT N (tSet T0 (id i) (c : Nat))) c 0 = [] from z))]
      refine (lv_mem m j (i + 1) _ T (by omega) (nb c) cl).mpr ⟨fun k hk => ?_, fun k a b => h2 k (by omega) b, h3⟩
      show T k = if k = i then _ else T0 k
      by_cases y : k = i
      · rw [if_pos y, y]; exact hc1
      · rw [if_neg y]
        exact h1 k (by omega)
theorem lv_keys {N : nN} (hC : nC N ≤ 3) (m : Nat) : ∀ (j i : Nat) (T0 : bT), i + j = m → (∀ q, i ≤ q → q < m → T0 q = -1) → nClear (nSetT N T0) → List.Pairwise (fun T U : bT => kV T j i < kV U j i) (lv N id j i T0)
  | 0, i, T0, _, _, _ => List.pairwise_singleton _ _
  | j + 1, i, T0, hm, hb, hc => by
    have hbi := hb i (Nat.le_refl _) (by omega)
    have nb : ∀ c : Nat, ∀ q, i + 1 ≤ q → q < m → tSet T0 i (c : Int) q = -1 := fun c q h1 h2 => by
      show (if q = i then _ else T0 q) = -1
      rw [if_neg (by omega)]
      exact hb q (by omega) h2
    have blk : ∀ c T, c < nC N → T ∈ (if qB (cpL (nSetT N (tSet T0 (id i) (c : Nat))) c 0 = []) = true then lv N id j (i + 1) (tSet T0 (id i) (c : Nat)) else []) → T i = (c : Int) ∧ dg4 T j (i + 1) := by
      intro c T hc2 hT
      by_cases z : cpL (nSetT N (tSet T0 (id i) (c : Nat))) c 0 = []
      · rw [if_pos (qB_t z)] at hT
        have cl : nClear (nSetT N (tSet T0 i (c : Nat))) := clear_set (N := nSetT N T0) hc2 hbi hc z
        obtain ⟨a1, a2, a3⟩ := (lv_mem m j (i + 1) _ T (by omega) (nb c) cl).mp hT
        refine ⟨?_, fun k h1 h2 => ?_⟩
        · rw [a1 i (by omega)]
          exact if_pos rfl
        · have := a2 k h1 (by omega)
          omega
      · rw [if_neg (qB_no z)] at hT
        cases hT
    show List.Pairwise _ ((List.range' 0 (nC N)).flatMap _)
    rw [List.pairwise_flatMap]
    refine ⟨fun c hc1 => ?_, ?_⟩
    · have hc2 : c < nC N := by
        have := List.mem_range'_1.mp hc1
        omega
      by_cases z : cpL (nSetT N (tSet T0 (id i) (c : Nat))) c 0 = []
      · have cl : nClear (nSetT N (tSet T0 i (c : Nat))) := clear_set (N := nSetT N T0) hc2 hbi hc z
        have b := blk c
        rw [if_pos (qB_t z)] at b ⊢
        refine List.Pairwise.imp_of_mem ?_ (lv_keys hC m j (i + 1) _ (by omega) (nb c) cl)
        intro T U hT hU h
        have b1 := b T hc2 hT
        have b2 := b U hc2 hU
        show (T i + 1) * _ + kV T j (i + 1) < (U i + 1) * _ + kV U j (i + 1)
        rw [b1.1, b2.1]
        omega
      · rw [if_neg (qB_no z)]
        exact List.Pairwise.nil
    · refine List.Pairwise.imp_of_mem ?_ (List.pairwise_lt_range' (s := 0) (n := nC N) (step := 1))
      intro c c' hc1 hc1' hcc T hT U hU
      have b1 := blk c T (by have := List.mem_range'_1.mp hc1; omega) hT
      have b2 := blk c' U (by have := List.mem_range'_1.mp hc1'; omega) hU
      have k1 := kV_bd j (i + 1) b1.2
      have k2 := kV_bd j (i + 1) b2.2
      have hP : (0 : Int) ≤ ((4 ^ j : Nat) : Int) := Int.natCast_nonneg _
      show (T i + 1) * ((4 ^ j : Nat) : Int) + kV T j (i + 1) < (U i + 1) * ((4 ^ j : Nat) : Int) + kV U j (i + 1)
      rw [b1.1, b2.1]
      have a := Int.mul_le_mul_of_nonneg_right (show (c : Int) + 1 + 1 ≤ (c' : Int) + 1 by omega) hP
      rw [Int.add_mul ((c : Int) + 1) 1, Int.one_mul] at a
      omega
theorem hV_inj {C : Nat} (hC : 2 ≤ C ∧ C ≤ 3) {v u : Nat → Int} : ∀ (m k : Nat), (∀ i, k ≤ i → i < k + m → 0 ≤ v i ∧ v i < C) → (∀ i, k ≤ i → i < k + m → 0 ≤ u i ∧ u i < C) → hV C v m k = hV C u m k → ∀ i, k ≤ i → i < k + m → v i = u i
  | 0, k, _, _, _, i, h1, h2 => by omega
  | m + 1, k, hv, hu, h, i, h1, h2 => by
    have h : hV C v m (k + 1) * C + v k = hV C u m (k + 1) * C + u k := h
    have a := hv k (Nat.le_refl _) (by omega)
    have b := hu k (Nat.le_refl _) (by omega)
    have key : hV C v m (k + 1) = hV C u m (k + 1) ∧ v k = u k := by
      rcases (show C = 2 ∨ C = 3 by omega) with rfl | rfl
      · have h : hV 2 v m (k + 1) * 2 + v k = hV 2 u m (k + 1) * 2 + u k := h
        omega
      · have h : hV 3 v m (k + 1) * 3 + v k = hV 3 u m (k + 1) * 3 + u k := h
        omega
    by_cases y : i = k
    · rw [y]; exact key.2
    · exact hV_inj hC m (k + 1) (fun i a b => hv i (by omega) (by omega)) (fun i a b => hu i (by omega) (by omega)) key.1 i (by omega) (by omega)
theorem hV_congr {C : Nat} {v u : Nat → Int} : ∀ (m k : Nat), (∀ i, k ≤ i → i < k + m → v i = u i) → hV C v m k = hV C u m k
  | 0, _, _ => rfl
  | m + 1, k, h => by
    show hV C v m (k + 1) * C + v k = hV C u m (k + 1) * C + u k
    rw [h k (Nat.le_refl _) (by omega), hV_congr m (k + 1) (fun i a b => h i (by omega) (by omega))]
/-- one numbering behind another -/
def cmpN (t s : List Nat) : List Nat := s.map (fun q => t.getD q 0)
theorem getD_map {f : Nat → Nat} {s : List Nat} {i : Nat} (h : i < s.length) : (s.map f).getD i 0 = f (s.getD i 0) := by
  rw [List.getD_eq_getElem?_getD, List.getElem?_map, List.getElem?_eq_getElem h, List.getD_eq_getElem?_getD, List.getElem?_eq_getElem h]
  rfl
theorem num_inj {n : Nat} {t : List Nat} (o : numO n t) (hl : t.length = n) : ∀ a b, a < n → b < n → t.getD a 0 = t.getD b 0 → a = b := by
  intro a b ha hb h
  by_cases z : a = b
  · exact z
  · exact absurd h (nodup_ne o.1 (by omega) (by omega) z)
theorem cmp_num {n : Nat} {t s : List Nat} (ot : numO n t) (ht : t.length = n) (os : numO n s) (hs : s.length = n) : numO n (cmpN t s) ∧ (cmpN t s).length = n := by
  refine ⟨⟨map_nodup (num_inj ot ht) os.1 os.2, fun x hx => ?_⟩, by unfold cmpN; rw [List.length_map, hs]⟩
  obtain ⟨b, hb, e⟩ := List.mem_map.mp hx
  rw [← e]
  have := os.2 b hb
  exact ot.2 _ (getD_mem (by omega))
theorem vec_cmp {T W : bT} {n : Nat} (hn : n ≤ 12) {t s : List Nat} (ot : numO n t) (ht : t.length = n) (os : numO n s) (hs : s.length = n) (hW : ∀ k, k < js n → W k = vec T t k) : ∀ k, k < js n → vec W s k = vec T (cmpN t s) k := by
  intro k hk
  have hj := jhi_lt hn hk
  have ha := os.2 _ (getD_mem (r := s) (j := jlo k) (by omega))
  have hb := os.2 _ (getD_mem (r := s) (j := jhi k) (by omega))
  have hne := nodup_ne os.1 (a := jlo k) (b := jhi k) (by omega) (by omega) (by omega)
  have e1 : vec W s k = vec T t (jn (s.getD (jlo k) 0) (s.getD (jhi k) 0)) := hW _ (jn_js n (by omega) _ ha _ hb hne)
  have e2 : vec T (cmpN t s) k = T (jn (t.getD (s.getD (jlo k) 0) 0) (t.getD (s.getD (jhi k) 0) 0)) := by
    unfold vec tF cmpN
    rw [getD_map (by omega), getD_map (by omega)]
  rw [e1, e2]
  obtain ⟨j1, j2⟩ := jn_inj (s.getD (jlo k) 0) (by omega) (s.getD (jhi k) 0) (by omega) hne
  unfold vec tF
  rw [j1, j2]
  rcases Nat.lt_or_gt_of_ne hne with z | z
  · rw [Nat.min_eq_left (by omega), Nat.max_eq_right (by omega)]
  · rw [Nat.min_eq_right (by omega), Nat.max_eq_left (by omega), jn_sym]
theorem num_inv {n : Nat} {t : List Nat} (o : numO n t) (hl : t.length = n) : ∃ u : List Nat, (numO n u ∧ u.length = n) ∧ cmpN t u = List.range n := by
  have ex : ∀ q, ∃ i, q < n → i < n ∧ t.getD i 0 = q := fun q => by
    by_cases z : q < n
    · obtain ⟨i, hi, e⟩ := List.mem_iff_getElem.mp (num_all o hl q z)
      exact ⟨i, fun _ => ⟨by omega, by rw [List.getD_eq_getElem?_getD, List.getElem?_eq_getElem hi, ← e]; rfl⟩⟩
    · exact ⟨0, fun y => absurd y z⟩
  refine ⟨(List.range n).map (fun q => Classical.choose (ex q)), ⟨⟨map_nodup (n := n) (fun a b ha hb h => ?_) List.nodup_range (fun x hx => List.mem_range.mp hx), fun x hx => ?_⟩, by rw [List.length_map, List.length_range]⟩, ?_⟩
  · rw [← (Classical.choose_spec (ex a) ha).2, ← (Classical.choose_spec (ex b) hb).2, h]
  · obtain ⟨b, hb, e⟩ := List.mem_map.mp hx
    rw [← e]
    exact (Classical.choose_spec (ex b) (List.mem_range.mp hb)).1
  · unfold cmpN
    rw [List.map_map]
    refine (List.map_congr_left (g := id) (fun q hq => ?_)).trans (List.map_id _)
    exact (Classical.choose_spec (ex q) (List.mem_range.mp hq)).2
/-- what one numbering did, another undoes -/
theorem vec_inv {T : bT} {n : Nat} (hn : n ≤ 12) {t : List Nat} (o : numO n t) (hl : t.length = n) : ∃ u : List Nat, (numO n u ∧ u.length = n) ∧ ∀ W : bT, (∀ k, k < js n → W k = vec T t k) → ∀ k, k < js n → vec W u k = T k := by
  obtain ⟨u, hu, e⟩ := num_inv o hl
  refine ⟨u, hu, fun W hW k hk => ?_⟩
  rw [vec_cmp hn o hl hu.1 hu.2 hW k hk, e, vec_id hn hk]
