/-! the forms that are counted: unseen ones are those that none is lesser than -/
def cdN (C n : Nat) (T : bT) (t : List Nat) : Nat := (hV C (vec T t) (js n) 0).toNat
def mkAll (C n : Nat) (T : bT) (f : Nat → Int) : Nat → Int := (nums n n []).foldl (fun f t => tSet f (cdN C n T t) 1) f
abbrev aM := (Nat → Int) × Nat
def stM (C n : Nat) (a : aM) (T : bT) : aM := if a.1 (cdN C n T (List.range n)) = 0 then (mkAll C n T a.1, a.2 + 1) else a
def lsF (n : Nat) (T : bT) : Prop := ∃ t ∈ nums n n [], ky T n t < kV T (js n) 0
def totT (C n : Nat) (T : bT) : Prop := ∀ k, k < js n → 0 ≤ T k ∧ T k < C
theorem tot_vec {C n : Nat} {T : bT} {t : List Nat} (hn : n ≤ 12) (h : totT C n T) (o : numO n t) (hl : t.length = n) : ∀ k, k < js n → 0 ≤ vec T t k ∧ vec T t k < C := by
  intro k hk
  obtain ⟨e, he, h1⟩ := vec_in (T := T) o hn (p := n) (by omega) hk
  rw [h1]
  exact h e he
theorem cdN_lt {C n : Nat} {T : bT} {t : List Nat} (hn : n ≤ 12) (hb : C ^ js n ≤ 60000) (h : totT C n T) (o : numO n t) (hl : t.length = n) : cdN C n T t < 60000 ∧ ((cdN C n T t : Nat) : Int) = hV C (vec T t) (js n) 0 := by
  have q := hV_bd (C := C) (v := vec T t) (js n) 0 (fun i _ hi => tot_vec hn h o hl i (by omega))
  unfold cdN
  omega
theorem cdN_eq {C n : Nat} {T U : bT} {t s : List Nat} (h : ∀ k, k < js n → vec T t k = vec U s k) : cdN C n T t = cdN C n U s := by
  unfold cdN
  rw [hV_congr (js n) 0 (fun i _ hi => h i (by omega))]
theorem cdN_inj {C n : Nat} (hC : 2 ≤ C ∧ C ≤ 3) {T U : bT} {t s : List Nat} (hn : n ≤ 12) (hb : C ^ js n ≤ 60000) (h1 : totT C n T) (h2 : totT C n U) (o1 : numO n t) (l1 : t.length = n) (o2 : numO n s) (l2 : s.length = n) (h : cdN C n T t = cdN C n U s) : ∀ k, k < js n → vec T t k = vec U s k := by
  intro k hk
  have a := (cdN_lt hn hb h1 o1 l1).2
  have b := (cdN_lt hn hb h2 o2 l2).2
  exact hV_inj hC (js n) 0 (fun i _ hi => tot_vec hn h1 o1 l1 i (by omega)) (fun i _ hi => tot_vec hn h2 o2 l2 i (by omega)) (by omega) k (Nat.zero_le _) (by omega)
theorem mk_at (g : List Nat → Nat) (x : Nat) : ∀ (L : List (List Nat)) (f : Nat → Int), L.foldl (fun f t => tSet f (g t) 1) f x ≠ 0 ↔ (f x ≠ 0 ∨ ∃ t ∈ L, g t = x)
  | [], f => ⟨fun h => Or.inl h, fun h => h.elim id (fun ⟨t, ht, _⟩ => by cases ht)⟩
  | t :: L, f => by
    show L.foldl (fun f t => tSet f (g t) 1) (tSet f (g t) 1) x ≠ 0 ↔ _
    rw [mk_at g x L]
    have e : tSet f (g t) 1 x = if x = g t then 1 else f x := rfl
    rw [e]
    by_cases z : x = g t
    · rw [if_pos z]
      exact ⟨fun _ => Or.inr ⟨t, List.mem_cons_self, z.symm⟩, fun _ => Or.inl (by decide)⟩
    · rw [if_neg z]
      constructor
      · rintro (h | ⟨s, hs, h⟩)
        · exact Or.inl h
        · exact Or.inr ⟨s, List.mem_cons_of_mem _ hs, h⟩
      · rintro (h | ⟨s, hs, h⟩)
        · exact Or.inl h
        · rcases List.mem_cons.mp hs with rfl | y
          · exact absurd h.symm z
          · exact Or.inr ⟨s, y, h⟩
theorem seen_iff {C n : Nat} (hC : 2 ≤ C ∧ C ≤ 3) (hn : n ≤ 12) (hb : C ^ js n ≤ 60000) {L P rest : List bT} {T : bT} (p1 : ∀ T ∈ L, totT C n T) (p2 : ∀ T ∈ L, ∀ t ∈ nums n n [], ∃ U ∈ L, ∀ k, k < js n → U k = vec T t k) (p3 : List.Pairwise (fun T U : bT => kV T (js n) 0 < kV U (js n) 0) L) (hL : L = P ++ T :: rest) : (∃ U ∈ P, ∃ t ∈ nums n n [], cdN C n U t = cdN C n T (List.range n)) ↔ lsF n T := by
  have mT : T ∈ L := by rw [hL]; exact List.mem_append.mpr (Or.inr List.mem_cons_self)
  have mP : ∀ U ∈ P, U ∈ L := fun U hU => by rw [hL]; exact List.mem_append.mpr (Or.inl hU)
  rw [hL, List.pairwise_append] at p3
  obtain ⟨_, q2, q3⟩ := p3
  have idn := numO_id n
  constructor
  · rintro ⟨U, hU, t, ht, h⟩
    obtain ⟨o1, l1⟩ := nums_full.mp ht
    have e := cdN_inj hC hn hb (p1 U (mP U hU)) (p1 T mT) o1 l1 idn List.length_range h
    obtain ⟨u, hu, w⟩ := vec_inv (T := U) hn o1 l1
    have e2 := w T (fun k hk => ((e k hk).trans (vec_id hn hk)).symm)
    refine ⟨u, nums_full.mpr hu, ?_⟩
    have : ky T n u = kV U (js n) 0 := kV_congr _ _ (fun i _ hi => e2 i (by omega))
    rw [this]
    exact q3 U hU T List.mem_cons_self
  · rintro ⟨t, ht, h⟩
    obtain ⟨o1, l1⟩ := nums_full.mp ht
    obtain ⟨U, hU, e⟩ := p2 T mT t ht
    have hk : kV U (js n) 0 = ky T n t := kV_congr _ _ (fun i _ hi => e i (by omega))
    have hUP : U ∈ P := by
      rw [hL] at hU
      rcases List.mem_append.mp hU with w | w
      · exact w
      · rcases List.mem_cons.mp w with w | w
        · rw [w] at hk; omega
        · have := (List.pairwise_cons.mp q2).1 U w
          omega
    obtain ⟨u, hu, w⟩ := vec_inv (T := T) hn o1 l1
    have e2 := w U e
    exact ⟨U, hUP, u, nums_full.mpr hu, cdN_eq (fun k hk => (e2 k hk).trans (vec_id hn hk).symm)⟩
theorem seen_fold {C n : Nat} (hC : 2 ≤ C ∧ C ≤ 3) (hn : n ≤ 12) (hb : C ^ js n ≤ 60000) {L : List bT} (p1 : ∀ T ∈ L, totT C n T) (p2 : ∀ T ∈ L, ∀ t ∈ nums n n [], ∃ U ∈ L, ∀ k, k < js n → U k = vec T t k) (p3 : List.Pairwise (fun T U : bT => kV T (js n) 0 < kV U (js n) 0) L) : ∀ (rest P : List bT) (a : aM), L = P ++ rest → (∀ x, x < 60000 → (a.1 x ≠ 0 ↔ ∃ U ∈ P, ∃ t ∈ nums n n [], cdN C n U t = x)) → (rest.foldl (stM C n) a).2 = a.2 + (rest.filter (fun T => qB (¬ lsF n T))).length
  | [], P, a, _, _ => rfl
  | T :: rest, P, a, hL, hA => by
    have mT : T ∈ L := by rw [hL]; exact List.mem_append.mpr (Or.inr List.mem_cons_self)
    have idn := numO_id n
    have lt := (cdN_lt hn hb (p1 T mT) idn List.length_range).1
    have key := seen_iff hC hn hb p1 p2 p3 hL
    have hL2 : L = (P ++ [T]) ++ rest := by rw [hL, List.append_assoc]; rfl
    show (rest.foldl (stM C n) (stM C n a T)).2 = _
    have e : stM C n a T = if a.1 (cdN C n T (List.range n)) = 0 then (mkAll C n T a.1, a.2 + 1) else a := rfl
    by_cases z : a.1 (cdN C n T (List.range n)) = 0
    · have hls : ¬ lsF n T := fun y => ((hA _ lt).mpr (key.mpr y)) z
      rw [e, if_pos z, seen_fold hC hn hb p1 p2 p3 rest (P ++ [T]) _ hL2 (fun x hx => ?_), List.filter_cons_of_pos (p := fun T => qB (¬ lsF n T)) (qB_t hls), List.length_cons]
      · show a.2 + 1 + _ = _
        omega
      · show mkAll C n T a.1 x ≠ 0 ↔ _
        unfold mkAll
        rw [mk_at, hA x hx]
        constructor
        · rintro (⟨U, hU, h⟩ | ⟨t, ht, h⟩)
          · exact ⟨U, List.mem_append.mpr (Or.inl hU), h⟩
          · exact ⟨T, List.mem_append.mpr (Or.inr (List.mem_singleton.mpr rfl)), t, ht, h⟩
        · rintro ⟨U, hU, h⟩
          rcases List.mem_append.mp hU with w | w
          · exact Or.inl ⟨U, w, h⟩
          · rw [List.mem_singleton.mp w] at h
            exact Or.inr h
    · have hls : lsF n T := key.mp ((hA _ lt).mp z)
      rw [e, if_neg z, seen_fold hC hn hb p1 p2 p3 rest (P ++ [T]) _ hL2 (fun x hx => ?_), List.filter_cons_of_neg (p := fun T => qB (¬ lsF n T)) (fun y => (qB_iff.mp y) hls)]
      rw [hA x hx]
      constructor
      · rintro ⟨U, hU, h⟩
        exact ⟨U, List.mem_append.mpr (Or.inl hU), h⟩
      · rintro ⟨U, hU, t, ht, h⟩
        rcases List.mem_append.mp hU with w | w
        · exact ⟨U, w, t, ht, h⟩
        · rw [List.mem_singleton.mp w] at h
          obtain ⟨V, hV, s, hs, h2⟩ := (hA _ lt).mp z
          obtain ⟨o1, l1⟩ := nums_full.mp hs
          obtain ⟨o2, l2⟩ := nums_full.mp ht
          have mV : V ∈ L := by rw [hL]; exact List.mem_append.mpr (Or.inl hV)
          have e1 := cdN_inj hC hn hb (p1 V mV) (p1 T mT) o1 l1 idn List.length_range h2
          have e2 := vec_cmp (T := V) (W := T) hn o1 l1 o2 l2 (fun k hk => ((e1 k hk).trans (vec_id hn hk)).symm)
          exact ⟨V, hV, cmpN s t, nums_full.mpr (cmp_num o1 l1 o2 l2), by rw [← h]; exact (cdN_eq (fun k hk => e2 k hk)).symm⟩
/-- how many of them are first -/
noncomputable def nFst (N : nN) (p : Nat) : Nat := ((lvN (bL N p)).filter (fun T => qB (¬ lsF p T))).length
theorem lvN_mem {N : nN} (o : nOk N) {p : Nat} (hp : 1 ≤ p ∧ p ≤ 12) {T : bT} : T ∈ lvN (bL N p) ↔ (∀ k, ¬ (0 ≤ k ∧ k < js p) → T k = -1) ∧ (∀ k, 0 ≤ k → k < js p → 0 ≤ T k ∧ T k < nC N) ∧ nClear (nSetT (bL N p) T) := by
  rw [(lvN_bL o hp).1]
  exact lv_mem (js p) (js p) 0 _ T (by omega) (fun _ _ _ => rfl) (clear_bL o hp)
theorem nFst_fold {N : nN} (o : nOk N) {p : Nat} (hp : 1 ≤ p ∧ p ≤ 12) (hb : nC N ^ js p ≤ 60000) {f : Nat → Int} (hf : ∀ x, x < 60000 → f x = 0) : ((lvN (bL N p)).foldl (stM (nC N) p) (f, 0)).2 = nFst N p := by
  have q := seen_fold o.2.1 hp.2 hb (L := lvN (bL N p)) (fun T hT k hk => ((lvN_mem o hp).mp hT).2.1 k (Nat.zero_le _) hk) (fun T hT t ht => ?_) ?_ (lvN (bL N p)) [] (f, 0) rfl (fun x hx => ⟨fun z => absurd (hf x hx) z, fun ⟨U, hU, _⟩ => by cases hU⟩)
  · rw [q]
    show 0 + _ = _
    rw [Nat.zero_add]
    rfl
  · obtain ⟨a1, a2, a3⟩ := (lvN_mem o hp).mp hT
    obtain ⟨ot, lt⟩ := nums_full.mp ht
    have oT := lvN_ok (nOk_bL o hp) T hT
    refine ⟨fun k => if k < js p then vec T t k else -1, (lvN_mem o hp).mpr ⟨fun k hk => if_neg (by omega), fun k _ hk => ?_, ?_⟩, fun k hk => if_pos hk⟩
    · show 0 ≤ (if k < js p then vec T t k else -1) ∧ (if k < js p then vec T t k else -1) < _
      rw [if_pos hk]
      exact tot_vec hp.2 (fun k hk => a2 k (Nat.zero_le _) hk) ot lt k hk
    · refine clear_rnm (N := nSetT (bL N p) T) (f := fun q => t.getD q 0) oT rfl rfl rfl rfl ⟨fun a ha => ?_, num_inj ot lt, fun a b ha hb hab => ?_⟩ a3
      · have ha : a < p := ha
        exact ot.2 _ (getD_mem (by omega))
      · have ha : a < p := ha
        have hb : b < p := hb
        have hj := jn_js p (by omega) a ha b hb hab
        show (if jn a b < js p then vec T t (jn a b) else -1) = T (jn (t.getD a 0) (t.getD b 0))
        rw [if_pos hj]
        obtain ⟨j1, j2⟩ := jn_inj a (by omega) b (by omega) hab
        unfold vec tF
        rw [j1, j2]
        rcases Nat.lt_or_gt_of_ne hab with z | z
        · rw [Nat.min_eq_left (by omega), Nat.max_eq_right (by omega)]
        · rw [Nat.min_eq_right (by omega), Nat.max_eq_left (by omega), jn_sym]
  · rw [(lvN_bL o hp).1]
    have := o.2.1.2
    exact lv_keys (N := bL N p) (by show nC N ≤ 3; omega) (js p) (js p) 0 _ (by omega) (fun _ _ _ => rfl) (clear_bL o hp)
