/-! the class's giveNumber -/
theorem bitR_app (s x : List Nat) : ∀ j, j ≤ s.length → bitR (s ++ x) j = bitR s j
  | 0, _ => rfl
  | j + 1, h => by
    show bitR (s ++ x) j ||| 2 ^ ((s ++ x).getD j 0) = bitR s j ||| 2 ^ (s.getD j 0)
    rw [bitR_app s x j (by omega), getD_left (by omega)]
theorem bitR_snoc (s : List Nat) (c : Nat) : bitR (s ++ [c]) (s ++ [c]).length = bitR s s.length ||| 2 ^ c := by
  rw [app_len]
  show bitR (s ++ [c]) s.length ||| 2 ^ ((s ++ [c]).getD s.length 0) = _
  rw [bitR_app s [c] s.length (Nat.le_refl _), getD_app1]
def farU (p : Nat) (h h' : mMem) : Prop := ∀ (t : Nat) (i : Fin 8) (k : Nat), ¬ (t = 28 ∨ (t = 30 ∧ p ≤ k) ∨ (t = 2 ∧ (k = 1 ∨ k = 5 ∨ k = 7))) → h' t i k = h t i k
theorem farU.rf {p : Nat} {h : mMem} : farU p h h := fun _ _ _ _ => rfl
theorem farU.tr {p q : Nat} {h h1 h2 : mMem} (a : farU p h h1) (b : farU q h1 h2) (hpq : p ≤ q) : farU p h h2 := fun t j k z => (b t j k (fun y => z (by omega))).trans (a t j k z)
/-- the class's best so far at a prefix, as the fold over the numberings has it -/
def gR (h : mMem) (n : Nat) (s : List Nat) (T : bT) (o : Option Int × Nat) : Prop := (∀ k, k < js s.length → h 28 0 k = vec T s k) ∧ h 2 0 1 = mWr o.2 ∧ (match o.1 with
  | none => h 2 0 5 = (s.length : Int) - 1 ∧ o.2 = 0
  | some K => h 2 0 5 = (n : Int) - 1 ∧ dg4 (h 28 0) (js n) 0 ∧ kV (h 28 0) (js n) 0 = K)
theorem dg_vec {T : bT} {n m : Nat} {s : List Nat} (hn : n ≤ 12) (hT : ∀ k, k < js n → -1 ≤ T k ∧ T k ≤ 2) (o : numO n s) (hm : m ≤ s.length) : dg4 (vec T s) (js m) 0 := by
  intro i _ hi
  obtain ⟨e, he, h1⟩ := vec_in (T := T) o hn hm (show i < js m by omega)
  rw [h1]
  exact hT e he
theorem ext_cmp {T B : bT} {n j : Nat} (hn : n ≤ 12) {s : List Nat} {c : Nat} (o : numO n (s ++ [c])) (hj : s.length + 1 + j = n) (hT : ∀ k, k < js n → -1 ≤ T k ∧ T k ≤ 2) (hB : dg4 B (js n) 0) (hp : ∀ k, k < js s.length → B k = vec T s k) :
    (cpJ T B (s ++ [c]) s.length s.length 0 = -1 ∧ ∀ x ∈ (nums n j (s ++ [c])).map (ky T n), x < kV B (js n) 0) ∨ (cpJ T B (s ++ [c]) s.length s.length 0 = 0 ∧ ∀ k, k < js (s ++ [c]).length → B k = vec T (s ++ [c]) k) ∨ (cpJ T B (s ++ [c]) s.length s.length 0 = 1 ∧ ∀ x ∈ (nums n j (s ++ [c])).map (ky T n), kV B (js n) 0 < x) := by
  have hjs := js_next s.length (by omega)
  have hle : js (s.length + 1) ≤ js n := js_mono (by omega)
  have hpre : ∀ (x : List Nat) k, k < js s.length → vec T (s ++ [c] ++ x) k = B k := fun x k hk => by
    rw [List.append_assoc, vec_pre (by omega) (Nat.le_refl _) hk, hp k hk]
  have hpre0 : ∀ k, k < js s.length → vec T (s ++ [c]) k = B k := fun k hk => by
    rw [vec_pre (by omega) (Nat.le_refl _) hk, hp k hk]
  have key := cp_cm T B (s ++ [c]) s.length (by omega) s.length 0 (by omega)
  rw [Nat.add_zero] at key
  have hd1 : dg4 (vec T (s ++ [c])) (js s.length + s.length) 0 := by
    rw [← hjs]
    exact dg_vec hn hT o (by rw [app_len]; omega)
  have hd2 : dg4 B (js s.length + s.length) 0 := fun i h1 h2 => hB i h1 (by omega)
  have c1 := cm_key (v := vec T (s ++ [c])) (u := B) (js s.length + s.length) 0 hd1 hd2
  rw [cm_app, if_pos (cmv_eq _ _ (fun i _ hi => hpre0 i (by omega))), Nat.zero_add, ← key] at c1
  have full : ∀ t ∈ nums n j (s ++ [c]), (cmV (vec T t) B (js n) 0 = -1 ∧ ky T n t < kV B (js n) 0) ∨ (cmV (vec T t) B (js n) 0 = 0 ∧ ky T n t = kV B (js n) 0 ∧ ∀ i, 0 ≤ i → i < 0 + js n → vec T t i = B i) ∨ (cmV (vec T t) B (js n) 0 = 1 ∧ kV B (js n) 0 < ky T n t) := by
    intro t ht
    obtain ⟨h1, x, h2, h3⟩ := (nums_mem j (s ++ [c]) t o).mp ht
    refine cm_key (js n) 0 (dg_vec hn hT h1 ?_) hB
    rw [h2, List.length_append, app_len]
    omega
  have part : ∀ t ∈ nums n j (s ++ [c]), cpJ T B (s ++ [c]) s.length s.length 0 ≠ 0 → cmV (vec T t) B (js n) 0 = cpJ T B (s ++ [c]) s.length s.length 0 := by
    intro t ht hz
    obtain ⟨h1, x, h2, h3⟩ := (nums_mem j (s ++ [c]) t o).mp ht
    have e2 : cmV (vec T t) B s.length (js s.length) = cpJ T B (s ++ [c]) s.length s.length 0 := by
      have := cp_cm T B t s.length (by omega) s.length 0 (by omega)
      rw [Nat.add_zero] at this
      rw [← this, key]
      rw [cp_cm T B t s.length (by omega) s.length 0 (by omega), Nat.add_zero, h2]
      have cong : ∀ (m k : Nat), k + m = js s.length + s.length → cmV (vec T (s ++ [c] ++ x)) B m k = cmV (vec T (s ++ [c])) B m k := by
        intro m
        induction m with
        | zero => intro k _; rfl
        | succ m ih =>
          intro k hk
          show (if vec T (s ++ [c] ++ x) k < B k then -1 else if vec T (s ++ [c] ++ x) k = B k then cmV (vec T (s ++ [c] ++ x)) B m (k + 1) else 1) = (if vec T (s ++ [c]) k < B k then -1 else if vec T (s ++ [c]) k = B k then cmV (vec T (s ++ [c])) B m (k + 1) else 1)
          rw [ih (k + 1) (by omega), vec_pre (p := s.length + 1) (by omega) (by rw [app_len]; omega) (by omega)]
      exact cong _ _ (by omega)
    rw [show js n = js s.length + (s.length + (js n - js (s.length + 1))) by omega, cm_app, if_pos (cmv_eq _ _ (fun i _ hi => by rw [h2]; exact hpre x i (by omega))), Nat.zero_add, cm_app, e2, if_neg hz]
  rcases c1 with w | w | w
  · refine Or.inl ⟨w.1, fun x hx => ?_⟩
    obtain ⟨t, ht, rfl⟩ := List.mem_map.mp hx
    have q := part t ht (by rw [w.1]; decide)
    rw [w.1] at q
    rcases full t ht with y | y | y
    · exact y.2
    · rw [q] at y; exact absurd y.1 (by decide)
    · rw [q] at y; exact absurd y.1 (by decide)
  · refine Or.inr (Or.inl ⟨w.1, fun k hk => ?_⟩)
    rw [app_len, hjs] at hk
    exact (w.2.2 k (Nat.zero_le _) (by omega)).symm
  · refine Or.inr (Or.inr ⟨w.1, fun x hx => ?_⟩)
    obtain ⟨t, ht, rfl⟩ := List.mem_map.mp hx
    have q := part t ht (by rw [w.1]; decide)
    rw [w.1] at q
    rcases full t ht with y | y | y
    · rw [q] at y; exact absurd y.1 (by decide)
    · rw [q] at y; exact absurd y.1 (by decide)
    · exact y.2
theorem fSm_snoc {h : mMem} {T : bT} {s : List Nat} {c : Nat} (e : fSm h T s) : fSm (mSet h 30 0 s.length (c : Nat)) T (s ++ [c]) := by
  refine ⟨fun k hk => (mSet_no (by simp)).trans (e.1 k hk), fun i hi => ?_⟩
  rw [app_len] at hi
  by_cases z : i = s.length
  · subst z
    rw [mSet_at, getD_app1]
  · rw [mSet_no (fun y => z y.2.2), getD_left (by omega)]
    exact e.2 i (by omega)
theorem fSm_far {h h' : mMem} {T : bT} {s : List Nat} {p : Nat} (e : fSm h T s) (f : farU p h h') (hp : s.length ≤ p) : fSm h' T s := ⟨fun k hk => (f _ _ _ (by omega)).trans (e.1 k hk), fun i hi => (f _ _ _ (by omega)).trans (e.2 i hi)⟩
section Give
variable {l : Launch} {g : mG} {d : Nat}
theorem s_give0 (T : bT) (n : Nat) (hn : n ≤ 7) (hT : ∀ k, k < js n → -1 ≤ T k ∧ T k ≤ 2) : ∀ (j : Nat) (s : List Nat) (o : Option Int × Nat) (h : mMem), s.length + j = n → numO n s → h 2 0 2 = n → h 2 0 6 = 0 → fSm h T s → gR h n s T o →
    mCon l g n_Forms_giveNumber (d + 3 + j) [.inr (2, 0), .inl s.length, .inl (bitR s s.length : Nat)] h (fun v h' => v = none ∧ gR h' n s T (((nums n j s).map (ky T n)).foldl kst o) ∧ farU s.length h h') := by
  intro j
  induction j with
  | zero =>
    intro s o h hj oN e2 e6 eS R
    obtain ⟨r1, r2, r3⟩ := R
    refine e_Forms_giveNumber (fun hv hm => ?_)
    refine mGo_wp h_Forms_giveNumber 80 [] ?_
    refine ⟨fun z => by rw [e2] at z; omega, fun _ => ⟨rfl, ?_, fun t i k z => mSet_no (fun y => z (by omega))⟩⟩
    have hl : s.length = n := by omega
    have eB : ∀ k, k < js n → h 28 0 k = vec T s k := fun k hk => r1 k (by rw [hl]; exact hk)
    have hd : dg4 (h 28 0) (js n) 0 := fun i h1 h2 => by
      rw [eB i (by omega)]
      exact dg_vec (by omega) hT oN (by omega) i h1 h2
    have hk : kV (h 28 0) (js n) 0 = ky T n s := kV_congr _ _ (fun i _ hi => eB i (by omega))
    have hB : (mSet h 2 0 1 (mWr (h 2 0 1 + 1))) 28 0 = h 28 0 := funext (fun k => mSet_no (by simp))
    show gR (mSet h 2 0 1 (mWr (h 2 0 1 + 1))) n s T (kst o (ky T n s))
    obtain ⟨o1, o2⟩ := o
    cases o1 with
    | none =>
      have r3 : h 2 0 5 = (s.length : Int) - 1 ∧ o2 = 0 := r3
      have r2 : h 2 0 1 = mWr (o2 : Nat) := r2
      refine ⟨fun k hk => ?_, ?_, ?_, ?_, ?_⟩
      · rw [hB]; exact r1 k hk
      · rw [mSet_at, r2, r3.2]
        show mWr (mWr 0 + 1) = mWr 1
        exact mWr_add 0
      · rw [mSet_no (by simp), r3.1, hl]
      · rw [hB]; exact hd
      · rw [hB]; exact hk
    | some K =>
      have r3 : h 2 0 5 = (n : Int) - 1 ∧ dg4 (h 28 0) (js n) 0 ∧ kV (h 28 0) (js n) 0 = K := r3
      have r2 : h 2 0 1 = mWr (o2 : Nat) := r2
      have hK : ky T n s = K := by rw [← hk]; exact r3.2.2
      have hs : kst (some K, o2) (ky T n s) = (some K, o2 + 1) := by
        rw [hK]
        show (if K < K then _ else if K = K then _ else _) = _
        rw [if_neg (by omega), if_pos rfl]
      rw [hs]
      refine ⟨fun k hk => ?_, ?_, ?_, ?_, ?_⟩
      · rw [hB]; exact r1 k hk
      · rw [mSet_at, r2, mWr_add]
        rfl
      · rw [mSet_no (by simp)]; exact r3.1
      · rw [hB]; exact hd
      · rw [hB]; exact r3.2.2
  | succ j ih =>
    intro s o h hj oN e2 e6 eS R
    have hl7 : s.length < 7 := by omega
    have hbit := bitR_lt s (fun x hx => by have := oN.2 x hx; omega) s.length (Nat.le_refl _)
    have loop : ∀ (m c : Nat) (x4 : Option mRV) (o1 : Option Int × Nat) (h1 : mMem), c + m = n → gR h1 n s T o1 → farU s.length h h1 → ((((List.range' c m).flatMap (fun c => if c ∈ s then [] else nums n j (s ++ [c]))).map (ky T n)).foldl kst o1) = (((nums n (j + 1) s).map (ky T n)).foldl kst o) →
        mGo l g (mMt n_Forms_giveNumber) (d + 3 + j + 1) 21 [some (.inr (2, 0)), some (.inl (s.length : Nat)), some (.inl (bitR s s.length : Nat)), some (.inl (c : Nat)), x4] [] h1 (fun v h' => v = none ∧ gR h' n s T (((nums n (j + 1) s).map (ky T n)).foldl kst o) ∧ farU s.length h h') := by
      intro m
      induction m with
      | zero =>
        intro c x4 o1 h1 hc R1 f1 hA
        refine mGo_wp h_Forms_giveNumber 80 [21] ?_
        have a2 : h1 2 0 2 = n := (f1 _ _ _ (by omega)).trans e2
        refine ⟨fun _ => ⟨rfl, ?_, f1⟩, fun z => by rw [a2] at z; omega⟩
        rw [← hA]
        exact R1
      | succ m ihm =>
        intro c x4 o1 h1 hc R1 f1 hA
        have a2 : h1 2 0 2 = n := (f1 _ _ _ (by omega)).trans e2
        have nxt : ∀ (y4 : Option mRV) (o2 : Option Int × Nat) (h2 : mMem), gR h2 n s T o2 → farU s.length h h2 → ((((List.range' (c + 1) m).flatMap (fun c => if c ∈ s then [] else nums n j (s ++ [c]))).map (ky T n)).foldl kst o2) = (((nums n (j + 1) s).map (ky T n)).foldl kst o) →
            mGo l g (mMt n_Forms_giveNumber) (d + 3 + j + 1) 98 [some (.inr (2, 0)), some (.inl (s.length : Nat)), some (.inl (bitR s s.length : Nat)), some (.inl (c : Nat)), y4] [] h2 (fun v h' => v = none ∧ gR h' n s T (((nums n (j + 1) s).map (ky T n)).foldl kst o) ∧ farU s.length h h') := by
          intro y4 o2 h2 R2 f2 hA2
          refine mGo_wp h_Forms_giveNumber 80 [21] ?_
          show mGo l g _ _ 21 [_, _, _, some (.inl (mWr ((c : Int) + 1))), _] [] _ _
          rw [mWr_of ⟨by omega, by omega⟩]
          exact ihm (c + 1) _ o2 h2 (by omega) R2 f2 hA2
        rw [List.range'_succ, List.flatMap_cons, List.map_append, List.foldl_append] at hA
        refine mGo_wp h_Forms_giveNumber 80 [21, 98, 51] ?_
        refine ⟨fun z => by rw [a2] at z; omega, fun _ => ?_⟩
        have hba := bit_at _ c hbit (show c < 12 by omega)
        refine ⟨fun z => ?_, fun z => ?_⟩ <;> rw [hba] at z
        · have hcs : c ∈ s := by
            by_cases y : (bitR s s.length).testBit c = true
            · exact (bitR_all s c).mp y
            · rw [if_neg y] at z
              exact absurd rfl z
          rw [if_pos hcs] at hA
          exact nxt _ o1 h1 R1 f1 hA
        · have hcs : c ∉ s := fun y => by
            rw [if_pos ((bitR_all s c).mpr y)] at z
            exact absurd z (by decide)
          rw [if_neg hcs] at hA
          have oc := numO_snoc oN (show c < n by omega) hcs
          have hlen := app_len s c
          refine ⟨⟨by omega, by omega⟩, ?_⟩
          have e1S : fSm h1 T s := fSm_far eS f1 (Nat.le_refl _)
          have e2S := fSm_snoc (c := c) e1S
          have hB2 : (mSet h1 30 0 s.length (c : Nat)) 28 0 = h1 28 0 := funext (fun k => mSet_no (by simp))
          have f2 : farU s.length h (mSet h1 30 0 s.length (c : Nat)) := f1.tr (q := s.length) (fun t i k z => mSet_no (fun y => z (by omega))) (Nat.le_refl _)
          have cmp := c_Forms_compare (l := l) (g := g) (d := d + 1 + j) T (h1 28 0) n hn (s ++ [c]) oc s.length (by omega) (by omega) (h1 2 0 5) (mSet h1 30 0 s.length (c : Nat)) e2S (fun k _ => by rw [hB2]) (mSet_no (by simp))
          rw [Int.toNat_natCast]
          refine mCall_is (mCon_lift (by omega) cmp) ?_
          -- the way on with a lesser one, or an equal one
          have deep : ∀ (y4 : Int) (o2 : Option Int × Nat) (h2 : mMem), y4 ≤ 0 → h2 2 0 6 = 0 → h2 2 0 2 = n → fSm h2 T (s ++ [c]) → gR h2 n (s ++ [c]) T o2 → farU s.length h h2 → ((nums n j (s ++ [c])).map (ky T n)).foldl kst o2 = ((nums n j (s ++ [c])).map (ky T n)).foldl kst o1 →
              mGo l g (mMt n_Forms_giveNumber) (d + 3 + j + 1) 66 [some (.inr (2, 0)), some (.inl (s.length : Nat)), some (.inl (bitR s s.length : Nat)), some (.inl (c : Nat)), some (.inl y4)] [] h2 (fun v h' => v = none ∧ gR h' n s T (((nums n (j + 1) s).map (ky T n)).foldl kst o) ∧ farU s.length h h') := by
            intro y4 o2 h2 hy b6 b2 eS2 R2 f2 hA2
            have w1 : mWr ((s.length : Int) + 1) = ((s ++ [c]).length : Nat) := by rw [mWr_of ⟨by omega, by omega⟩, hlen]; omega
            have w2 : mOr ((bitR s s.length : Nat) : Int) (mShl 1 (c : Int)) = ((bitR (s ++ [c]) (s ++ [c]).length : Nat) : Int) := by
              have h2 : 2 ^ c < 2 ^ 12 := Nat.pow_lt_pow_right (by decide) (by omega)
              rw [mShl_1 _ (by omega), mOr_nat (by omega) (by omega), bitR_snoc]
            have call : mGo l g (mMt n_Forms_giveNumber) (d + 3 + j + 1) 81 [some (.inr (2, 0)), some (.inl (s.length : Nat)), some (.inl (bitR s s.length : Nat)), some (.inl (c : Nat)), some (.inl y4)] [] h2 (fun v h' => v = none ∧ gR h' n s T (((nums n (j + 1) s).map (ky T n)).foldl kst o) ∧ farU s.length h h') := by
              refine mGo_wp h_Forms_giveNumber 80 [98] ?_
              refine ⟨fun z => by omega, fun _ => ?_⟩
              have q := ih (s ++ [c]) o2 h2 (by omega) oc b2 b6 eS2 R2
              rw [← w1, ← w2] at q
              refine mCall_on2 q ?_
              rintro v h3 ⟨rfl, R3, f3⟩
              refine nxt _ _ h3 ⟨fun k hk => ?_, R3.2.1, ?_⟩ (f2.tr f3 (by omega)) (by rw [hA2]; exact hA)
              · rw [R3.1 k (by rw [hlen, js_next _ (by omega)]; omega), vec_pre (by omega) (Nat.le_refl _) hk]
              · have R33 := R3.2.2
                have hne := nums_ne (j := j) oc (by omega)
                revert R33
                cases hx : (((nums n j (s ++ [c])).map (ky T n)).foldl kst o2).1 with
                | none =>
                  exfalso
                  have some_ : ∀ (L : List Int) (o3 : Option Int × Nat), (o3.1 ≠ none ∨ L ≠ []) → (L.foldl kst o3).1 ≠ none := by
                    intro L
                    induction L with
                    | nil => intro o3 h3; exact h3.elim id (fun z => absurd rfl z)
                    | cons x L ihL =>
                      intro o3 _
                      refine ihL (kst o3 x) (Or.inl ?_)
                      unfold kst
                      cases hy : o3.1 with
                      | none => simp
                      | some y =>
                        show (if x < y then (some x, 1) else if x = y then (some y, o3.2 + 1) else o3).1 ≠ none
                        by_cases z1 : x < y
                        · rw [if_pos z1]; simp
                        · rw [if_neg z1]
                          by_cases z2 : x = y
                          · rw [if_pos z2]; simp
                          · rw [if_neg z2, hy]; simp
                  exact some_ _ o2 (Or.inr (fun z => hne (List.map_eq_nil_iff.mp z))) hx
                | some K => exact id
            refine mGo_wp h_Forms_giveNumber 80 [81] ?_
            refine ⟨fun _ => call, fun _ => ⟨fun _ => call, fun z => absurd b6 z⟩⟩
          have low : ∀ (o2 : Option Int × Nat), ((nums n j (s ++ [c])).map (ky T n)).foldl kst (none, 0) = ((nums n j (s ++ [c])).map (ky T n)).foldl kst o1 → 
              mGo l g (mMt n_Forms_giveNumber) (d + 3 + j + 1) 51 [some (.inr (2, 0)), some (.inl (s.length : Nat)), some (.inl (bitR s s.length : Nat)), some (.inl (c : Nat)), some (.inl (-1))] [] (mSet h1 30 0 s.length (c : Nat)) (fun v h' => v = none ∧ gR h' n s T (((nums n (j + 1) s).map (ky T n)).foldl kst o) ∧ farU s.length h h') := by
            intro o2 hA2
            refine mGo_wp h_Forms_giveNumber 80 [66] ?_
            refine ⟨fun z => absurd z (by decide), fun _ => ⟨Or.inr rfl, ?_⟩⟩
            have e3S : fSm (mSet (mSet h1 30 0 s.length (c : Nat)) 2 0 7 1) T (s ++ [c]) := ⟨fun k hk => (mSet_no (by simp)).trans (e2S.1 k hk), fun i hi => (mSet_no (by simp)).trans (e2S.2 i hi)⟩
            refine mCall_is (mCon_lift (by omega) (c_Forms_settle (d := d + 1 + j) T n hn (s ++ [c]) oc s.length (by omega) (by omega) _ e3S)) ?_
            have fX : farU s.length (mSet h1 30 0 s.length (c : Nat)) (mSet (mSet (mSeg (mSet (mSet h1 30 0 s.length (c : Nat)) 2 0 7 1) 28 0 (js s.length) s.length (fun a => tF T (s ++ [c]) a s.length)) 2 0 5 s.length) 2 0 1 0) := fun t i k z => by
              rw [mSet_no (fun y => z (by omega)), mSet_no (fun y => z (by omega)), mSeg_ne (fun y => z (by omega)), mSet_no (fun y => z (by omega))]
            refine deep (-1) (none, 0) _ (by decide) ((fX _ _ _ (by omega)).trans ((mSet_no (by simp)).trans ((f1 _ _ _ (by omega)).trans e6))) ((fX _ _ _ (by omega)).trans ((mSet_no (by simp)).trans a2)) ?_ ⟨fun k hk => ?_, ?_, ?_, rfl⟩ (f2.tr fX (Nat.le_refl _)) hA2
            · refine ⟨fun k hk => (fX _ _ _ (by omega)).trans (e2S.1 k hk), fun i hi => ?_⟩
              rw [mSet_no (by simp), mSet_no (by simp), mSeg_ne (by decide), mSet_no (by simp)]
              exact e2S.2 i hi
            · rw [mSet_no (by simp), mSet_no (by simp)]
              rw [hlen, js_next _ (by omega)] at hk
              by_cases y : k < js s.length
              · rw [mSeg_out (by omega), mSet_no (by simp), hB2, R1.1 k y, vec_pre (by omega) (Nat.le_refl _) y]
              · obtain ⟨a, ha⟩ : ∃ a, k = js s.length + a := ⟨k - js s.length, by omega⟩
                subst ha
                obtain ⟨j1, j2⟩ := jlo_js s.length (by omega) a (by omega)
                rw [mSeg_in (by omega)]
                unfold vec
                rw [j1, j2]
            · rw [mSet_at]
              exact (mWr_of ⟨by decide, by decide⟩).symm
            · show _ = (((s ++ [c]).length : Nat) : Int) - 1
              rw [mSet_no (by simp), mSet_at, hlen]
              omega
          obtain ⟨o11, o12⟩ := o1
          cases o11 with
          | none =>
            have R13 : h1 2 0 5 = (s.length : Int) - 1 ∧ o12 = 0 := R1.2.2
            have hst : ¬ ((s.length : Nat) : Int) ≤ h1 2 0 5 := by rw [R13.1]; omega
            rw [if_neg hst]
            have h00 : o12 = 0 := R13.2
            subst h00
            exact low (none, 0) rfl
          | some K =>
            have R13 : h1 2 0 5 = (n : Int) - 1 ∧ dg4 (h1 28 0) (js n) 0 ∧ kV (h1 28 0) (js n) 0 = K := R1.2.2
            have hst : ((s.length : Nat) : Int) ≤ h1 2 0 5 := by rw [R13.1]; omega
            rw [if_pos hst]
            rcases ext_cmp (B := h1 28 0) (j := j) (by omega) oc (by omega) hT R13.2.1 R1.1 with w | w | w
            · rw [w.1]
              refine low (none, 0) (fold_less (fun z => nums_ne (j := j) oc (by omega) (List.map_eq_nil_iff.mp z)) (fun x hx => ?_)).symm
              rw [← R13.2.2]
              exact w.2 x hx
            · rw [w.1]
              refine mGo_wp h_Forms_giveNumber 80 [66] ?_
              refine ⟨fun _ => ?_, fun z => absurd z (by decide)⟩
              refine deep 0 (some K, o12) _ (by decide) ((mSet_no (by simp)).trans ((f1 _ _ _ (by omega)).trans e6)) ((mSet_no (by simp)).trans a2) e2S ⟨fun k hk => ?_, (mSet_no (by simp)).trans R1.2.1, (mSet_no (by simp)).trans R13.1, ?_, ?_⟩ f2 rfl
              · rw [hB2]; exact w.2 k hk
              · rw [hB2]; exact R13.2.1
              · rw [hB2]; exact R13.2.2
            · rw [w.1]
              rw [fold_more (fun x hx => by rw [← R13.2.2]; exact w.2 x hx)] at hA
              have R4 : gR (mSet h1 30 0 s.length (c : Nat)) n s T (some K, o12) := ⟨fun k hk => by rw [hB2]; exact R1.1 k hk, (mSet_no (by simp)).trans R1.2.1, (mSet_no (by simp)).trans R13.1, by rw [hB2]; exact R13.2.1, by rw [hB2]; exact R13.2.2⟩
              have hB6 : (mSet h1 30 0 s.length ((c : Nat) : Int)) 2 0 6 = 0 := (mSet_no (by simp)).trans ((f1 _ _ _ (by omega)).trans e6)
              have c81 : mGo l g (mMt n_Forms_giveNumber) (d + 3 + j + 1) 81 [some (.inr (2, 0)), some (.inl (s.length : Nat)), some (.inl (bitR s s.length : Nat)), some (.inl (c : Nat)), some (.inl 1)] [] (mSet h1 30 0 s.length (c : Nat)) (fun v h' => v = none ∧ gR h' n s T (((nums n (j + 1) s).map (ky T n)).foldl kst o) ∧ farU s.length h h') := by
                refine mGo_wp h_Forms_giveNumber 80 [98] ?_
                exact ⟨fun _ => nxt _ _ _ R4 f2 hA, fun z => absurd z (by decide)⟩
              refine mGo_wp h_Forms_giveNumber 80 [81] ?_
              exact ⟨fun _ => ⟨fun _ => c81, fun _ => ⟨fun _ => c81, fun z => absurd hB6 z⟩⟩, fun z => absurd z (by decide)⟩
    refine e_Forms_giveNumber (fun hv hm => ?_)
    refine mGo_wp h_Forms_giveNumber 80 [21] ?_
    refine ⟨fun _ => ?_, fun z => by rw [e2] at z; omega⟩
    exact loop n 0 none o h (by omega) R farU.rf rfl
end Give
