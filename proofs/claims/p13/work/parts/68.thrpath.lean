theorem acc_rOk {T : Nat → Int} {c : Int} {k L : Nat} (hk : kOk k L) : ∀ (s r es : List Nat), acc T c k L r s → rOk k r es → (∀ x ∈ s, x < 12) → rOk k (r ++ s) (es ++ edg k L r s)
  | [], r, es, _, o, _ => by
    rw [List.append_nil]
    show rOk k r (es ++ [])
    rw [List.append_nil]
    exact o
  | p :: s, r, es, a, o, hx => by
    have q := acc_rOk hk s (r ++ [p]) (es ++ newE k L r p) a.2 (rOk_add hk o (hx p List.mem_cons_self) a.1.1) (fun x h => hx x (List.mem_cons_of_mem _ h))
    rw [List.append_assoc, List.append_assoc] at q
    exact q
theorem acc_edg {T : Nat → Int} {c : Int} {k L : Nat} (hk : kOk k L) {s : List Nat} (a : acc T c k L [] s) (hx : ∀ x ∈ s, x < 12) : (edg k L [] s).Nodup := (acc_rOk hk s [] [] a (rOk_nil k) hx).2.2.1
theorem acc_nil {T : Nat → Int} {c : Int} {k L a : Nat} {t : List Nat} : acc T c k L [] (a :: t) ↔ acc T c k L [a] t := by
  show ((a ∉ [] ∧ okP T c k L 0 0 [] a) ∧ acc T c k L [a] t) ↔ _
  refine ⟨fun h => h.2, fun h => ⟨⟨by simp, ok0.mpr ⟨ord_nil, ?_⟩⟩, h⟩⟩
  rw [newE_nil]
  exact fun e he => (List.not_mem_nil he).elim
theorem edg_nil {k L a : Nat} {t : List Nat} : edg k L [] (a :: t) = edg k L [a] t := by
  show newE k L [] a ++ edg k L [a] t = _
  rw [newE_nil]
  rfl
theorem getD_rev {s : List Nat} {i : Nat} (h : i < s.length) : s.reverse.getD i 0 = s.getD (s.length - 1 - i) 0 := by
  rw [List.getD_eq_getElem?_getD, List.getElem?_reverse h, ← List.getD_eq_getElem?_getD]
theorem gE_mem {f g : Nat → Nat → Nat} : ∀ {l : List Nat}, l.Nodup → (∀ a b, a ∈ l → b ∈ l → a ≠ b → f a b = g a b) → gE f l = gE g l
  | [], _, _ => rfl
  | [_], _, _ => rfl
  | a :: b :: s, hn, h => by
    obtain ⟨h1, h2⟩ := List.nodup_cons.mp hn
    show f a b + gE f (b :: s) = g a b + gE g (b :: s)
    rw [h a b List.mem_cons_self (List.mem_cons_of_mem _ List.mem_cons_self) (fun z => h1 (by rw [z]; exact List.mem_cons_self)), gE_mem h2 (fun x y hx hy => h x y (List.mem_cons_of_mem _ hx) (List.mem_cons_of_mem _ hy))]
theorem gE_sm (f : Nat → Nat → Nat) : ∀ l : List Nat, gE f l = sm (fun i => f (l.getD i 0) (l.getD (i + 1) 0)) (l.length - 1)
  | [] => rfl
  | [_] => rfl
  | a :: b :: s => by
    show f a b + gE f (b :: s) = sm _ (s.length + 1)
    rw [gE_sm f (b :: s), Nat.add_comm s.length 1, sm_add]
    show _ = 0 + f a b + _
    rw [Nat.zero_add]
    refine congrArg (f a b + ·) (sm_congr _ (fun i _ => ?_))
    rw [Nat.add_comm 1 i]
    rfl
theorem SL_pick2 (n m : Nat) {u v : Nat} (hu : u < n) (hv : v < n) (G : List Nat → Nat) : SL n (m + 1 + 1) (fun z => iq (z.getD 0 0 = u ∧ z.getD 1 0 = v) (G z)) = SL n m (fun y => G (u :: v :: y)) := by
  show sm (fun a => sm (fun b => SL n m (fun y => iq (a = u ∧ b = v) (G (a :: b :: y)))) n) n = _
  rw [sm_congr (g := fun a => iq (a = u) (sm (fun b => iq (b = v) (SL n m (fun y => G (a :: b :: y)))) n)) n (fun a _ => by
    rw [← sm_iq]
    refine sm_congr n (fun b _ => ?_)
    rw [SL_iq, iq_and]), sm_pick (fun a => sm (fun b => iq (b = v) (SL n m (fun y => G (a :: b :: y)))) n) n hu, sm_pick (fun b => SL n m (fun y => G (u :: b :: y))) n hv]
abbrev adT (T : Nat → Int) (c : Int) (a b : Nat) : Prop := T (jn a b) = c
theorem adT_sym {T : Nat → Int} {c : Int} (a b : Nat) (h : adT T c a b) : adT T c b a := by
  unfold adT
  rw [jn_sym]
  exact h
def rp (T : Nat → Int) (c : Int) (s : List Nat) : Prop := s.Nodup ∧ chn (adT T c) s
theorem rp_rev {T : Nat → Int} {c : Int} (s : List Nat) : rp T c s.reverse ↔ rp T c s := by
  unfold rp
  rw [chn_rev adT_sym, (List.reverse_perm s).nodup_iff]
theorem path_full {T : Nat → Int} {c : Int} {L : Nat} {s : List Nat} (hl : s.length = L) (hL : 2 ≤ L) : acc T c 5 L [] s ↔ rp T c s ∧ s.getD 0 0 < s.getD (s.length - 1) 0 := by
  cases s with
  | nil => exact absurd hl (by show ¬ (0 = L); omega)
  | cons a t =>
    cases t with
    | nil => exact absurd hl (by show ¬ (1 = L); omega)
    | cons b t =>
      rw [acc_nil, path_acc (b :: t) [a] (by simp) (by simp) (by rw [← hl]; show 1 + (t.length + 1) = t.length + 1 + 1; omega)]
      unfold rp
      constructor
      · rintro ⟨⟨h1, h2⟩, h3, h4⟩
        exact ⟨⟨List.nodup_cons.mpr ⟨fun z => h1 a z (by simp), h2⟩, h3⟩, h4⟩
      · rintro ⟨⟨h1, h2⟩, h3⟩
        obtain ⟨h4, h5⟩ := List.nodup_cons.mp h1
        exact ⟨⟨fun x hx z => h4 (by rw [← List.mem_singleton.mp z]; exact hx), h5⟩, h2, h3⟩
/-- the paths in which a join is, by its place -/
theorem thr_path (T : Nat → Int) (c : Int) (L n u v : Nat) (hk : kOk 5 L) (hn : n ≤ 12) (hu : u < n) (hv : v < n) (huv : u ≠ v) :
    thr T c 5 L n (jn u v) = sm (fun i => SL n i (fun x => SL n (L - 2 - i) (fun y => iq (rp T c (x ++ u :: v :: y)) 1))) (L - 1) := by
  have hL : 2 ≤ L := by rcases hk with h | h | h | h | h <;> omega
  rw [thr_SL]
  -- the sum over all paths, each twice
  have e1 : SL n L (fun s => iq (acc T c 5 L [] s ∧ jn u v ∈ edg 5 L [] s) 1) = SL n L (fun s => iq (s.getD 0 0 < s.getD (s.length - 1) 0) (iq (rp T c s) (gE (fun a b => iq (jn a b = jn u v) 1) s))) := by
    refine SL_congr L (fun s hs hx => ?_)
    have hx12 : ∀ x ∈ s, x < 12 := fun x h => by have := hx x h; omega
    rw [iq_and, ← iq_and (p := s.getD 0 0 < s.getD (s.length - 1) 0)]
    refine iq_congr2 ((path_full hs hL).trans ⟨fun z => ⟨z.2, z.1⟩, fun z => ⟨z.2, z.1⟩⟩) (fun z => ?_)
    rw [lS_nodup (acc_edg hk z hx12)]
    cases s with
    | nil => rfl
    | cons a t =>
      rw [edg_nil, path_edg t [a] (by simp)]
      show lS _ (ce (a :: t)) = _
      rw [lS_ce]
  rw [e1]
  have e2 : SL n L (fun s => iq (s.getD (s.length - 1) 0 < s.getD 0 0) (iq (rp T c s) (gE (fun a b => iq (jn a b = jn u v) 1) s))) = SL n L (fun s => iq (s.getD 0 0 < s.getD (s.length - 1) 0) (iq (rp T c s) (gE (fun a b => iq (jn a b = jn u v) 1) s))) := by
    rw [← SL_rev n L (fun s => iq (s.getD (s.length - 1) 0 < s.getD 0 0) (iq (rp T c s) (gE (fun a b => iq (jn a b = jn u v) 1) s)))]
    refine SL_congr L (fun s hs hx => ?_)
    rw [List.length_reverse, getD_rev (by omega), getD_rev (by omega), gE_rev, gE_congr (g := fun a b => iq (jn a b = jn u v) 1) (fun a b => by rw [jn_sym]), iq_congr (rp_rev s)]
    rw [show s.length - 1 - (s.length - 1) = 0 by omega, Nat.sub_zero]
  have e3 : SL n L (fun s => iq (rp T c s) (gE (fun a b => iq (jn a b = jn u v) 1) s)) = SL n L (fun s => iq (s.getD 0 0 < s.getD (s.length - 1) 0) (iq (rp T c s) (gE (fun a b => iq (jn a b = jn u v) 1) s))) + SL n L (fun s => iq (s.getD (s.length - 1) 0 < s.getD 0 0) (iq (rp T c s) (gE (fun a b => iq (jn a b = jn u v) 1) s))) := by
    rw [← SL_plus]
    refine SL_congr L (fun s hs hx => ?_)
    by_cases z : rp T c s
    · have hne := nodup_getD z.1 (i := 0) (j := s.length - 1) (by omega) (by omega)
      by_cases y : s.getD 0 0 < s.getD (s.length - 1) 0
      · rw [iq_t y, iq_f (p := s.getD (s.length - 1) 0 < s.getD 0 0) (by omega), Nat.add_zero]
      · rw [iq_f y, iq_t (p := s.getD (s.length - 1) 0 < s.getD 0 0) (by omega), Nat.zero_add]
    · rw [iq_f z]
      have q : ∀ p : Prop, iq p 0 = 0 := fun p => Nat.le_zero.mp (iq_le p 0)
      rw [q, q]
  have e4 : SL n L (fun s => iq (rp T c s) (gE (fun a b => iq (jn a b = jn u v) 1) s)) = SL n L (fun s => iq (rp T c s) (gE (fun a b => iq (a = u ∧ b = v) 1) s)) + SL n L (fun s => iq (rp T c s) (gE (fun a b => iq (a = v ∧ b = u) 1) s)) := by
    rw [← SL_plus]
    refine SL_congr L (fun s hs hx => ?_)
    rw [← iq_add, ← gE_plus]
    refine iq_congr2 Iff.rfl (fun z => gE_mem z.1 (fun a b ha hb hab => ?_))
    have h1 := hx a ha
    have h2 := hx b hb
    exact jn_two (by omega) (by omega) (by omega) (by omega) huv hab
  have e5 : SL n L (fun s => iq (rp T c s) (gE (fun a b => iq (a = v ∧ b = u) 1) s)) = SL n L (fun s => iq (rp T c s) (gE (fun a b => iq (a = u ∧ b = v) 1) s)) := by
    rw [← SL_rev n L (fun s => iq (rp T c s) (gE (fun a b => iq (a = v ∧ b = u) 1) s))]
    refine SL_congr L (fun s hs hx => ?_)
    rw [gE_rev, iq_congr (rp_rev s), gE_congr (g := fun a b => iq (a = u ∧ b = v) 1) (fun a b => iq_congr ⟨fun w => ⟨w.2, w.1⟩, fun w => ⟨w.2, w.1⟩⟩ 1)]
  have e6 : SL n L (fun s => iq (rp T c s) (gE (fun a b => iq (a = u ∧ b = v) 1) s)) = sm (fun i => SL n i (fun x => SL n (L - 2 - i) (fun y => iq (rp T c (x ++ u :: v :: y)) 1))) (L - 1) := by
    rw [SL_congr L (G := fun s => sm (fun i => iq (rp T c s) (iq (s.getD i 0 = u ∧ s.getD (i + 1) 0 = v) 1)) (L - 1)) (fun s hs hx => by rw [sm_iq, gE_sm, hs]), ← SL_sm]
    refine sm_congr (L - 1) (fun i hi => ?_)
    have hLi : L = i + (L - 2 - i + 1 + 1) := by omega
    conv => lhs; rw [hLi, SL_app]
    refine SL_congr i (fun x hxl hx => ?_)
    rw [← SL_pick2 n (L - 2 - i) hu hv (fun z => iq (rp T c (x ++ z)) 1)]
    refine SL_congr _ (fun z hz _ => ?_)
    have g1 : (x ++ z).getD i 0 = z.getD 0 0 := by
      have := getD_right (a := x) (b := z) (i := 0)
      rw [hxl] at this
      exact this
    have g2 : (x ++ z).getD (i + 1) 0 = z.getD 1 0 := by
      have := getD_right (a := x) (b := z) (i := 1)
      rw [hxl] at this
      exact this
    rw [g1, g2, ← iq_and, ← iq_and]
    exact iq_congr ⟨fun w => ⟨w.2, w.1⟩, fun w => ⟨w.2, w.1⟩⟩ 1
  omega
