/-! stars and books -/
theorem lst_sm (C : Nat → Prop) : ∀ n, (lst C 0 n).length = sm (fun q => iq (C q) 1) n
  | 0 => rfl
  | n + 1 => by
    rw [lst_app C 0 n 1, List.length_append, Nat.zero_add, lst_sm C n]
    show _ = sm (fun q => iq (C q) 1) n + iq (C n) 1
    by_cases z : C n
    · rw [lst_yes z, iq_t z]
      rfl
    · rw [lst_no z, iq_f z]
      rfl
theorem lst_rem {C : Nat → Prop} {n v : Nat} (hv : v < n) (hC : C v) : (lst C 0 n).length = (lst (fun q => C q ∧ q ≠ v) 0 n).length + 1 := by
  rw [lst_sm, lst_sm]
  have e := sm_pick (fun _ => 1) n hv
  rw [sm_congr (g := fun p => iq (C p ∧ p ≠ v) 1 + iq (p = v) 1) n (fun p _ => ?_), sm_plus, e]
  by_cases z : p = v
  · rw [iq_t z, iq_f (p := C p ∧ p ≠ v) (fun w => w.2 z), iq_t (p := C p) (by rw [z]; exact hC)]
  · rw [iq_f z, Nat.add_zero]
    exact iq_congr ⟨fun w => ⟨w, z⟩, fun w => w.1⟩ 1
theorem lst_same {C D : Nat → Prop} {n : Nat} (h : ∀ q, q < n → (C q ↔ D q)) : (lst C 0 n).length = (lst D 0 n).length := by
  rw [lst_sm, lst_sm]
  exact sm_congr n (fun q hq => iq_congr (h q hq) 1)
/-- the points joined with one; with both of two -/
noncomputable def dgN (T : Nat → Int) (c : Int) (n a : Nat) : Nat := (lst (fun q => q ≠ a ∧ adT T c a q) 0 n).length
noncomputable def cmN (T : Nat → Int) (c : Int) (n a b : Nat) : Nat := (lst (fun q => (q ≠ a ∧ adT T c a q) ∧ (q ≠ b ∧ adT T c b q)) 0 n).length
theorem takes_star (T : Nat → Int) (c : Int) (L n : Nat) (hk : kOk 3 L) : (takesF T c 0 3 L n L [] []).length = sm (fun m => bn (dgN T c n m) (L - 1)) n := by
  have hL : 2 ≤ L := by rcases hk with h | h | h | h | h <;> omega
  obtain ⟨j, hj⟩ : ∃ j, L = j + 1 := ⟨L - 1, by omega⟩
  have q := takes_w T c 3 L n j [] [] (fun _ => 1) rfl
  rw [wS_len, ← hj] at q
  rw [q]
  refine sm_congr n (fun m hm => ?_)
  have ok : m ∉ ([] : List Nat) ∧ okP T c 3 L 0 0 [] m := (cd_nil.mpr hm).2
  rw [iq_t ok, wS_len]
  have z := (takes_zero (T := T) (c := c) (n := n) (r := [] ++ [m]) (C := cdP T c 3 L n [m]) hk rfl (fun q => Iff.rfl) ([] ++ newE 3 L [] m) (by rw [newE_nil]; rfl)).1
  rw [show L - (([] : List Nat) ++ [m]).length = j by show L - 1 = j; omega] at z
  rw [z, show L - 1 = j by omega]
  refine congrArg (fun x => bn x j) (lst_same (fun q hq => ?_))
  rw [cd_star]
  exact ⟨fun w => w.2, fun w => ⟨hq, w⟩⟩
theorem bn_step {d s : Nat} (hs : 1 ≤ s) : bn (d + 1) s = bn d s + bn d (s - 1) := by
  obtain ⟨k, rfl⟩ : ∃ k, s = k + 1 := ⟨s - 1, by omega⟩
  rw [Nat.add_sub_cancel]
  show bn d k + bn d (k + 1) = _
  omega
theorem less_deg {T : Nat → Int} {c : Int} {n u v : Nat} (hc : c ≠ -1) (hn : n ≤ 12) (hu : u < n) (hv : v < n) (huv : u ≠ v) (hT : T (jn u v) = c) : dgN T c n u = dgN (tSet T (jn u v) (-1)) c n u + 1 := by
  unfold dgN
  rw [lst_rem (C := fun q => q ≠ u ∧ adT T c u q) hv ⟨fun z => huv z.symm, hT⟩]
  refine congrArg (· + 1) (lst_same (fun q hq => ?_))
  unfold adT
  rw [less_iff hc]
  constructor
  · rintro ⟨⟨w1, w2⟩, w3⟩
    exact ⟨w1, w2, jn_ne (by omega) (by omega) (by omega) (by omega) huv (fun z => w1 z.symm) (by omega)⟩
  · rintro ⟨w1, w2, w3⟩
    exact ⟨⟨w1, w2⟩, fun z => w3 (by rw [z])⟩
theorem thr_star (T : Nat → Int) (c : Int) (L n u v : Nat) (hk : kOk 3 L) (hc : c ≠ -1) (hn : n ≤ 12) (hu : u < n) (hv : v < n) (huv : u ≠ v) (hT : T (jn u v) = c) :
    thr T c 3 L n (jn u v) = bn (dgN T c n u - 1) (L - 2) + bn (dgN T c n v - 1) (L - 2) := by
  have hL : 2 ≤ L := by rcases hk with h | h | h | h | h <;> omega
  have t0 := takes_less T c 3 L n (jn u v) hc
  rw [takes_star T c L n hk, takes_star (tSet T (jn u v) (-1)) c L n hk] at t0
  have d1 := less_deg hc hn hu hv huv hT
  have d2 := less_deg (T := T) hc hn hv hu (fun z => huv z.symm) (by rw [jn_sym]; exact hT)
  rw [jn_sym v u] at d2
  have key : ∀ m, m < n → bn (dgN T c n m) (L - 1) = bn (dgN (tSet T (jn u v) (-1)) c n m) (L - 1) + (iq (m = u) (bn (dgN T c n u - 1) (L - 2)) + iq (m = v) (bn (dgN T c n v - 1) (L - 2))) := by
    intro m hm
    by_cases z : m = u
    · subst z
      rw [iq_t rfl, iq_f huv, d1, bn_step (by omega), Nat.add_sub_cancel, show L - 1 - 1 = L - 2 by omega]
      omega
    · by_cases y : m = v
      · subst y
        rw [iq_t rfl, iq_f z, d2, bn_step (by omega), Nat.add_sub_cancel, show L - 1 - 1 = L - 2 by omega]
        omega
      · rw [iq_f z, iq_f y]
        show _ = _ + 0
        refine congrArg (fun x => bn x (L - 1)) (lst_same (fun q hq => ?_))
        unfold adT
        rw [less_iff hc]
        exact ⟨fun w => ⟨w.1, w.2, jn_ne (by omega) (by omega) (by omega) (by omega) huv (fun x => w.1 x.symm) (by omega)⟩, fun w => ⟨w.1, w.2.1⟩⟩
  rw [sm_congr n key, sm_plus, sm_plus, sm_pick (fun _ => bn (dgN T c n u - 1) (L - 2)) n hu, sm_pick (fun _ => bn (dgN T c n v - 1) (L - 2)) n hv] at t0
  omega
theorem takes_book (T : Nat → Int) (c : Int) (L n : Nat) (hk : kOk 4 L) : (takesF T c 0 4 L n L [] []).length = sm (fun a => sm (fun b => iq (a < b ∧ adT T c a b) (bn (cmN T c n a b) (L - 2))) n) n := by
  have hL : 3 ≤ L := by rcases hk with h | h | h | h | h <;> omega
  obtain ⟨j, hj⟩ : ∃ j, L = j + 1 + 1 := ⟨L - 2, by omega⟩
  have q := takes_w T c 4 L n (j + 1) [] [] (fun _ => 1) rfl
  rw [wS_len, ← hj] at q
  rw [q]
  refine sm_congr n (fun a ha => ?_)
  have ok : a ∉ ([] : List Nat) ∧ okP T c 4 L 0 0 [] a := (cd_nil.mpr ha).2
  rw [iq_t ok, takes_w T c 4 L n j _ _ (fun _ => 1) (by rw [newE_nil]; rfl)]
  refine sm_congr n (fun b hb => ?_)
  have hcd : (b ∉ [] ++ [a] ∧ okP T c 4 L 0 0 ([] ++ [a]) b) ↔ (a < b ∧ adT T c a b) := by
    have w := cd_book0 (T := T) (c := c) (L := L) (n := n) (p := a) (q := b)
    constructor
    · intro z
      have := w.mp ⟨hb, z⟩
      exact ⟨this.2, this.1.2.2⟩
    · intro z
      exact (w.mpr ⟨⟨hb, by omega, z.2⟩, z.1⟩).2
  refine iq_congr2 hcd (fun w => ?_)
  have ms2 : msN T c ([] ++ newE 4 L [] a ++ newE 4 L ([] ++ [a]) b) = 0 := by
    have := w.2.2
    rw [newE_nil]
    show msN T c (newE 4 L ([] ++ [a]) b) = 0
    omega
  rw [wS_len]
  have z := (takes_zero (T := T) (c := c) (n := n) (r := [] ++ [a] ++ [b]) (C := cdP T c 4 L n [a, b]) hk rfl (fun q => Iff.rfl) _ ms2).1
  rw [show L - (([] : List Nat) ++ [a] ++ [b]).length = j by show L - 2 = j; omega] at z
  rw [z, show L - 2 = j by omega]
  refine congrArg (fun x => bn x j) (lst_same (fun q hq => ?_))
  rw [cd_book1]
  exact ⟨fun w => ⟨w.2, w.1.2⟩, fun w => ⟨⟨hq, w.2⟩, w.1⟩⟩
theorem cm_sym (T : Nat → Int) (c : Int) (n a b : Nat) : cmN T c n a b = cmN T c n b a := lst_same (fun q _ => ⟨fun w => ⟨w.2, w.1⟩, fun w => ⟨w.2, w.1⟩⟩)
/-- a join less: what two points have in common -/
theorem less_cm {T : Nat → Int} {c : Int} {n u v w : Nat} (hc : c ≠ -1) (hn : n ≤ 12) (hu : u < n) (hv : v < n) (hw : w < n) (huv : u ≠ v) (hwu : w ≠ u) (hwv : w ≠ v) (hT : T (jn u v) = c) :
    cmN T c n u w = cmN (tSet T (jn u v) (-1)) c n u w + iq (adT T c v w) 1 := by
  unfold cmN
  by_cases z : adT T c v w
  · rw [iq_t z, lst_rem (C := fun q => (q ≠ u ∧ adT T c u q) ∧ (q ≠ w ∧ adT T c w q)) hv ⟨⟨fun y => huv y.symm, hT⟩, fun y => hwv y.symm, adT_sym _ _ z⟩]
    refine congrArg (· + 1) (lst_same (fun q hq => ?_))
    unfold adT
    rw [less_iff hc, less_iff hc]
    constructor
    · rintro ⟨⟨⟨w1, w2⟩, w3, w4⟩, w5⟩
      exact ⟨⟨w1, w2, jn_ne (by omega) (by omega) (by omega) (by omega) huv (fun x => w1 x.symm) (by omega)⟩, w3, w4, jn_ne (by omega) (by omega) (by omega) (by omega) huv (fun x => w3 x.symm) (by omega)⟩
    · rintro ⟨⟨w1, w2, w3⟩, w4, w5, w6⟩
      exact ⟨⟨⟨w1, w2⟩, w4, w5⟩, fun x => w3 (by rw [x])⟩
  · rw [iq_f z, Nat.add_zero]
    refine lst_same (fun q hq => ?_)
    unfold adT
    rw [less_iff hc, less_iff hc]
    constructor
    · rintro ⟨⟨w1, w2⟩, w3, w4⟩
      refine ⟨⟨w1, w2, jn_ne (by omega) (by omega) (by omega) (by omega) huv (fun x => w1 x.symm) (fun x => ?_)⟩, w3, w4, jn_ne (by omega) (by omega) (by omega) (by omega) huv (fun x => w3 x.symm) (by omega)⟩
      have : q = v := by omega
      subst this
      exact z (adT_sym _ _ w4)
    · rintro ⟨⟨w1, w2, w3⟩, w4, w5, w6⟩
      exact ⟨⟨w1, w2⟩, w4, w5⟩
theorem thr_book (T : Nat → Int) (c : Int) (L n u v : Nat) (hk : kOk 4 L) (hc : c ≠ -1) (hn : n ≤ 12) (huv : u < v) (hv : v < n) (hT : T (jn u v) = c) :
    thr T c 4 L n (jn u v) = bn (cmN T c n u v) (L - 2) + sm (fun w => iq ((w ≠ u ∧ adT T c u w) ∧ (w ≠ v ∧ adT T c v w)) (bn (cmN T c n u w - 1) (L - 3) + bn (cmN T c n v w - 1) (L - 3))) n := by
  have hL : 3 ≤ L := by rcases hk with h | h | h | h | h <;> omega
  have hu : u < n := by omega
  have hne : u ≠ v := by omega
  have t0 := takes_less T c 4 L n (jn u v) hc
  rw [takes_book T c L n hk, takes_book (tSet T (jn u v) (-1)) c L n hk] at t0
  have hT2 : T (jn v u) = c := by rw [jn_sym]; exact hT
  -- one of the two and another point
  have one : ∀ x y, (x = u ∧ y = v) ∨ (x = v ∧ y = u) → ∀ w, w < n → w ≠ u → w ≠ v → iq (adT T c x w) (bn (cmN T c n x w) (L - 2)) = iq (adT (tSet T (jn u v) (-1)) c x w) (bn (cmN (tSet T (jn u v) (-1)) c n x w) (L - 2)) + iq (adT T c x w ∧ adT T c y w) (bn (cmN T c n x w - 1) (L - 3)) := by
    intro x y hxy w hw hwu hwv
    have hx : x < n := by omega
    have hxw : adT (tSet T (jn u v) (-1)) c x w ↔ adT T c x w := by
      unfold adT
      rw [less_iff hc]
      exact ⟨fun q => q.1, fun q => ⟨q, jn_ne (by omega) (by omega) (by omega) (by omega) hne (by omega) (by omega)⟩⟩
    have hcm : cmN T c n x w = cmN (tSet T (jn u v) (-1)) c n x w + iq (adT T c y w) 1 := by
      rcases hxy with ⟨rfl, rfl⟩ | ⟨rfl, rfl⟩
      · exact less_cm hc hn hu hv hw hne hwu hwv hT
      · have q := less_cm (T := T) hc hn hv hu hw (fun z => hne z.symm) hwv hwu hT2
        rw [jn_sym] at q
        exact q
    rw [iq_congr hxw, iq_and]
    by_cases z : adT T c x w
    · rw [iq_t z, iq_t z, iq_t z]
      by_cases z2 : adT T c y w
      · rw [iq_t z2] at hcm ⊢
        rw [hcm, bn_step (by omega), Nat.add_sub_cancel, show L - 2 - 1 = L - 3 by omega]
      · rw [iq_f z2] at hcm ⊢
        rw [hcm]
        rfl
    · rw [iq_f z, iq_f z, iq_f z]
  have same : ∀ a b, a < n → b < n → a ≠ b → a ≠ u → a ≠ v → b ≠ u → b ≠ v → iq (adT T c a b) (bn (cmN T c n a b) (L - 2)) = iq (adT (tSet T (jn u v) (-1)) c a b) (bn (cmN (tSet T (jn u v) (-1)) c n a b) (L - 2)) := by
    intro a b ha hb hab hau hav hbu hbv
    have e1 : cmN T c n a b = cmN (tSet T (jn u v) (-1)) c n a b := by
      refine lst_same (fun q hq => ?_)
      unfold adT
      rw [less_iff hc, less_iff hc]
      exact ⟨fun w => ⟨⟨w.1.1, w.1.2, jn_ne (by omega) (by omega) (by omega) (by omega) hne (fun x => w.1.1 x.symm) (by omega)⟩, w.2.1, w.2.2, jn_ne (by omega) (by omega) (by omega) (by omega) hne (fun x => w.2.1 x.symm) (by omega)⟩, fun w => ⟨⟨w.1.1, w.1.2.1⟩, w.2.1, w.2.2.1⟩⟩
    rw [e1]
    refine iq_congr ?_ _
    unfold adT
    rw [less_iff hc]
    exact ⟨fun w => ⟨w, jn_ne (by omega) (by omega) (by omega) (by omega) hne hab (by omega)⟩, fun w => w.1⟩
  have key : ∀ a, a < n → ∀ b, b < n → iq (a < b ∧ adT T c a b) (bn (cmN T c n a b) (L - 2)) = iq (a < b ∧ adT (tSet T (jn u v) (-1)) c a b) (bn (cmN (tSet T (jn u v) (-1)) c n a b) (L - 2)) + (iq (a = u) (iq (b = v) (bn (cmN T c n u v) (L - 2))) + (iq (a = u) (iq (u < b) (iq ((b ≠ u ∧ adT T c u b) ∧ (b ≠ v ∧ adT T c v b)) (bn (cmN T c n u b - 1) (L - 3)))) + iq (a = v) (iq (v < b) (iq ((b ≠ u ∧ adT T c u b) ∧ (b ≠ v ∧ adT T c v b)) (bn (cmN T c n v b - 1) (L - 3)))) + (iq (b = u) (iq (a < u) (iq ((a ≠ u ∧ adT T c u a) ∧ (a ≠ v ∧ adT T c v a)) (bn (cmN T c n u a - 1) (L - 3)))) + iq (b = v) (iq (a < v) (iq ((a ≠ u ∧ adT T c u a) ∧ (a ≠ v ∧ adT T c v a)) (bn (cmN T c n v a - 1) (L - 3))))))) := by
    intro a ha b hb
    rw [iq_and, iq_and]
    by_cases hab : a < b
    · rw [iq_t hab, iq_t hab]
      by_cases au : a = u
      · subst au
        rw [iq_t rfl, iq_t rfl, iq_f (p := a = v) (by omega), iq_f (p := b = a) (by omega), iq_t hab]
        by_cases bv : b = v
        · subst bv
          rw [iq_t rfl, iq_t rfl, iq_t (p := adT T c a b) hT, iq_f (p := adT (tSet T (jn a b) (-1)) c a b) (fun z => ((less_iff hc).mp z).2 rfl), iq_f (fun z => z.2.1 rfl), iq_f (p := (a ≠ a ∧ adT T c a a) ∧ a ≠ b ∧ adT T c b a) (fun z => z.1.1 rfl), iq_zero]
          omega
        · have q := one a v (Or.inl ⟨rfl, rfl⟩) b hb (by omega) bv
          rw [iq_f bv, iq_f bv, q, iq_congr (p := (b ≠ a ∧ adT T c a b) ∧ b ≠ v ∧ adT T c v b) (q := adT T c a b ∧ adT T c v b) ⟨fun z => ⟨z.1.2, z.2.2⟩, fun z => ⟨⟨by omega, z.1⟩, bv, z.2⟩⟩]
          omega
      · rw [iq_f au, iq_f au]
        by_cases av : a = v
        · subst av
          have q := one a u (Or.inr ⟨rfl, rfl⟩) b hb (by omega) (by omega)
          rw [iq_t rfl, iq_t hab, iq_f (p := b = u) (by omega), iq_f (p := b = a) (by omega), q, iq_congr (p := (b ≠ u ∧ adT T c u b) ∧ b ≠ a ∧ adT T c a b) (q := adT T c a b ∧ adT T c u b) ⟨fun z => ⟨z.2.2, z.1.2⟩, fun z => ⟨⟨by omega, z.2⟩, by omega, z.1⟩⟩]
          omega
        · rw [iq_f av]
          by_cases bu : b = u
          · subst bu
            have q := one b v (Or.inl ⟨rfl, rfl⟩) a ha au av
            rw [iq_t rfl, iq_t hab, iq_f (p := b = v) (by omega), cm_sym T c n a b, cm_sym (tSet T (jn b v) (-1)) c n a b, iq_congr (p := adT T c a b) (q := adT T c b a) ⟨adT_sym _ _, adT_sym _ _⟩, iq_congr (p := adT (tSet T (jn b v) (-1)) c a b) (q := adT (tSet T (jn b v) (-1)) c b a) ⟨adT_sym _ _, adT_sym _ _⟩, q, iq_congr (p := (a ≠ b ∧ adT T c b a) ∧ a ≠ v ∧ adT T c v a) (q := adT T c b a ∧ adT T c v a) ⟨fun z => ⟨z.1.2, z.2.2⟩, fun z => ⟨⟨by omega, z.1⟩, av, z.2⟩⟩]
            omega
          · rw [iq_f bu]
            by_cases bv : b = v
            · subst bv
              have q := one b u (Or.inr ⟨rfl, rfl⟩) a ha au av
              rw [iq_t rfl, iq_t hab, cm_sym T c n a b, cm_sym (tSet T (jn u b) (-1)) c n a b, iq_congr (p := adT T c a b) (q := adT T c b a) ⟨adT_sym _ _, adT_sym _ _⟩, iq_congr (p := adT (tSet T (jn u b) (-1)) c a b) (q := adT (tSet T (jn u b) (-1)) c b a) ⟨adT_sym _ _, adT_sym _ _⟩, q, iq_congr (p := (a ≠ u ∧ adT T c u a) ∧ a ≠ b ∧ adT T c b a) (q := adT T c b a ∧ adT T c u a) ⟨fun z => ⟨z.2.2, z.1.2⟩, fun z => ⟨⟨au, z.2⟩, by omega, z.1⟩⟩]
              omega
            · rw [iq_f bv]
              exact same a b ha hb (by omega) au av bu bv
    · rw [iq_f hab, iq_f hab]
      have z1 : iq (a = u) (iq (b = v) (bn (cmN T c n u v) (L - 2))) = 0 := by
        rw [← iq_and]; exact iq_f (by omega) _
      have z2 : iq (a = u) (iq (u < b) (iq ((b ≠ u ∧ adT T c u b) ∧ (b ≠ v ∧ adT T c v b)) (bn (cmN T c n u b - 1) (L - 3)))) = 0 := by
        rw [← iq_and]; exact iq_f (by omega) _
      have z3 : iq (a = v) (iq (v < b) (iq ((b ≠ u ∧ adT T c u b) ∧ (b ≠ v ∧ adT T c v b)) (bn (cmN T c n v b - 1) (L - 3)))) = 0 := by
        rw [← iq_and]; exact iq_f (by omega) _
      have z4 : iq (b = u) (iq (a < u) (iq ((a ≠ u ∧ adT T c u a) ∧ (a ≠ v ∧ adT T c v a)) (bn (cmN T c n u a - 1) (L - 3)))) = 0 := by
        rw [← iq_and]; exact iq_f (by omega) _
      have z5 : iq (b = v) (iq (a < v) (iq ((a ≠ u ∧ adT T c u a) ∧ (a ≠ v ∧ adT T c v a)) (bn (cmN T c n v a - 1) (L - 3)))) = 0 := by
        rw [← iq_and]; exact iq_f (by omega) _
      rw [z1, z2, z3, z4, z5]
  have e0 := sm_congr n (fun a ha => sm_congr n (key a ha))
  rw [e0] at t0
  have out : ∀ (x : Nat) (hx : x < n) (G : Nat → Nat), sm (fun a => sm (fun b => iq (a = x) (G b)) n) n = sm G n := fun x hx G => by
    rw [sm_congr (g := fun a => iq (a = x) (sm G n)) n (fun a _ => sm_iq _ _ _), sm_pick (fun _ => sm G n) n hx]
  have out2 : ∀ (x : Nat) (hx : x < n) (G : Nat → Nat), sm (fun a => sm (fun b => iq (b = x) (G a)) n) n = sm G n := fun x hx G =>
    sm_congr n (fun a _ => sm_pick (fun _ => G a) n hx)
  rw [sm_congr (g := fun a => sm (fun b => iq (a < b ∧ adT (tSet T (jn u v) (-1)) c a b) (bn (cmN (tSet T (jn u v) (-1)) c n a b) (L - 2))) n + (sm (fun b => iq (a = u) (iq (b = v) (bn (cmN T c n u v) (L - 2)))) n + (sm (fun b => iq (a = u) (iq (u < b) (iq ((b ≠ u ∧ adT T c u b) ∧ (b ≠ v ∧ adT T c v b)) (bn (cmN T c n u b - 1) (L - 3))))) n + sm (fun b => iq (a = v) (iq (v < b) (iq ((b ≠ u ∧ adT T c u b) ∧ (b ≠ v ∧ adT T c v b)) (bn (cmN T c n v b - 1) (L - 3))))) n + (sm (fun b => iq (b = u) (iq (a < u) (iq ((a ≠ u ∧ adT T c u a) ∧ (a ≠ v ∧ adT T c v a)) (bn (cmN T c n u a - 1) (L - 3))))) n + sm (fun b => iq (b = v) (iq (a < v) (iq ((a ≠ u ∧ adT T c u a) ∧ (a ≠ v ∧ adT T c v a)) (bn (cmN T c n v a - 1) (L - 3))))) n)))) n (fun a _ => by simp only [sm_plus]), sm_plus, sm_plus, sm_plus, sm_plus, sm_plus, out u hu (fun b => iq (b = v) (bn (cmN T c n u v) (L - 2))), out u hu (fun b => iq (u < b) (iq ((b ≠ u ∧ adT T c u b) ∧ (b ≠ v ∧ adT T c v b)) (bn (cmN T c n u b - 1) (L - 3)))), out v hv (fun b => iq (v < b) (iq ((b ≠ u ∧ adT T c u b) ∧ (b ≠ v ∧ adT T c v b)) (bn (cmN T c n v b - 1) (L - 3)))), out2 u hu (fun a => iq (a < u) (iq ((a ≠ u ∧ adT T c u a) ∧ (a ≠ v ∧ adT T c v a)) (bn (cmN T c n u a - 1) (L - 3)))), out2 v hv (fun a => iq (a < v) (iq ((a ≠ u ∧ adT T c u a) ∧ (a ≠ v ∧ adT T c v a)) (bn (cmN T c n v a - 1) (L - 3)))), sm_pick (fun _ => bn (cmN T c n u v) (L - 2)) n hv] at t0
  have halves : ∀ (x : Nat) (hx : x = u ∨ x = v), sm (fun w => iq (x < w) (iq ((w ≠ u ∧ adT T c u w) ∧ (w ≠ v ∧ adT T c v w)) (bn (cmN T c n x w - 1) (L - 3)))) n + sm (fun w => iq (w < x) (iq ((w ≠ u ∧ adT T c u w) ∧ (w ≠ v ∧ adT T c v w)) (bn (cmN T c n x w - 1) (L - 3)))) n = sm (fun w => iq ((w ≠ u ∧ adT T c u w) ∧ (w ≠ v ∧ adT T c v w)) (bn (cmN T c n x w - 1) (L - 3))) n := fun x hx => by
    rw [← sm_plus]
    refine sm_congr n (fun w _ => ?_)
    rcases Nat.lt_trichotomy x w with z | z | z
    · rw [iq_t z, iq_f (p := w < x) (by omega), Nat.add_zero]
    · subst z
      rw [iq_f (p := (x ≠ u ∧ adT T c u x) ∧ (x ≠ v ∧ adT T c v x)) (fun y => hx.elim y.1.1 y.2.1), iq_zero]
    · rw [iq_t z, iq_f (p := x < w) (by omega), Nat.zero_add]
  have h1 := halves u (Or.inl rfl)
  have h2 := halves v (Or.inr rfl)
  have h3 : sm (fun w => iq ((w ≠ u ∧ adT T c u w) ∧ (w ≠ v ∧ adT T c v w)) (bn (cmN T c n u w - 1) (L - 3) + bn (cmN T c n v w - 1) (L - 3))) n = sm (fun w => iq ((w ≠ u ∧ adT T c u w) ∧ (w ≠ v ∧ adT T c v w)) (bn (cmN T c n u w - 1) (L - 3))) n + sm (fun w => iq ((w ≠ u ∧ adT T c u w) ∧ (w ≠ v ∧ adT T c v w)) (bn (cmN T c n v w - 1) (L - 3))) n := by
    rw [← sm_plus]
    exact sm_congr n (fun w _ => iq_add _ _ _)
  rw [h3]
  omega
