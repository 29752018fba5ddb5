/-! rings -/
theorem ring_acc {T : Nat → Int} {c : Int} {L : Nat} (hL : 3 ≤ L) : ∀ (s r : List Nat), r ≠ [] → s ≠ [] → r.length + s.length = L → (acc T c 2 L r s ↔ ((∀ x ∈ s, x ∉ r) ∧ s.Nodup) ∧ chn (adT T c) (r.getD (r.length - 1) 0 :: s ++ [r.getD 0 0]) ∧ (∀ x ∈ s, r.getD 0 0 < x) ∧ (r ++ s).getD 1 0 < s.getD (s.length - 1) 0)
  | [], r, _, h, _ => absurd rfl h
  | [p], r, hr, _, hl => by
    have hlen : r.length ≠ 0 := fun z => hr (List.length_eq_zero_iff.mp z)
    have hl : r.length + 1 = L := hl
    have hne : newE 2 L r p = [jn (r.getD (r.length - 1) 0) p, jn p (r.getD 0 0)] := by
      show (if r.length = 0 then [] else if r.length = L - 1 then _ else _) = _
      rw [if_neg hlen, if_pos (by omega)]
    show ((p ∉ r ∧ okP T c 2 L 0 0 r p) ∧ True) ↔ _
    rw [ok0, hne, getD_left (by omega)]
    constructor
    · rintro ⟨⟨h1, h2, h3⟩, -⟩
      have h2 : r.length = 0 ∨ (r.getD 0 0 < p ∧ (r.length ≠ L - 1 ∨ r.getD 1 0 < p)) := h2
      refine ⟨⟨fun x hx => by rw [List.mem_singleton.mp hx]; exact h1, by simp⟩, ⟨h3 _ (by simp), h3 _ (by simp), trivial⟩, fun x hx => by rw [List.mem_singleton.mp hx]; omega, ?_⟩
      show r.getD 1 0 < p
      omega
    · rintro ⟨⟨h1, -⟩, ⟨h2, h2', -⟩, h3, h4⟩
      have h4 : r.getD 1 0 < p := h4
      refine ⟨⟨h1 p (by simp), Or.inr ⟨h3 p (by simp), Or.inr h4⟩, fun e he => ?_⟩, trivial⟩
      rcases List.mem_cons.mp he with rfl | y
      · exact h2
      · rw [List.mem_singleton.mp y]
        exact h2'
  | p :: q :: s, r, hr, _, hl => by
    have hlen : r.length ≠ 0 := fun z => hr (List.length_eq_zero_iff.mp z)
    have hl : r.length + (s.length + 1 + 1) = L := hl
    have hne : newE 2 L r p = [jn (r.getD (r.length - 1) 0) p] := by
      show (if r.length = 0 then [] else if r.length = L - 1 then _ else _) = _
      rw [if_neg hlen, if_neg (by omega)]
    have ih := ring_acc (T := T) (c := c) hL (q :: s) (r ++ [p]) (by simp) (by simp) (by rw [app_len]; show r.length + 1 + (s.length + 1) = L; omega)
    show ((p ∉ r ∧ okP T c 2 L 0 0 r p) ∧ acc T c 2 L (r ++ [p]) (q :: s)) ↔ _
    rw [ih, ok0, hne, app_len, lastD, getD_left (a := r) (b := [p]) (by omega), List.append_assoc r [p]]
    constructor
    · rintro ⟨⟨h1, h2, h3⟩, ⟨h4, h5⟩, h6, h7, h8⟩
      have h2 : r.length = 0 ∨ (r.getD 0 0 < p ∧ (r.length ≠ L - 1 ∨ r.getD 1 0 < p)) := h2
      refine ⟨⟨fun x hx => ?_, List.nodup_cons.mpr ⟨fun z => h4 p z (List.mem_append_right _ (by simp)), h5⟩⟩, ⟨h3 _ (by simp), h6⟩, fun x hx => ?_, h8⟩
      · rcases List.mem_cons.mp hx with rfl | y
        · exact h1
        · exact fun z => h4 x y (List.mem_append_left _ z)
      · rcases List.mem_cons.mp hx with rfl | y
        · omega
        · exact h7 x y
    · rintro ⟨⟨h1, h2⟩, ⟨h3, h4⟩, h5, h8⟩
      obtain ⟨h6, h7⟩ := List.nodup_cons.mp h2
      refine ⟨⟨h1 p List.mem_cons_self, Or.inr ⟨h5 p List.mem_cons_self, Or.inl (by omega)⟩, fun e he => by rw [List.mem_singleton.mp he]; exact h3⟩, ⟨fun x hx z => ?_, h7⟩, h4, fun x hx => h5 x (List.mem_cons_of_mem _ hx), h8⟩
      rcases List.mem_append.mp z with y | y
      · exact h1 x (List.mem_cons_of_mem _ hx) y
      · rw [List.mem_singleton.mp y] at hx
        exact h6 hx
theorem ring_edg {L : Nat} : ∀ (s r : List Nat), r ≠ [] → s ≠ [] → r.length + s.length = L → edg 2 L r s = ce (r.getD (r.length - 1) 0 :: s ++ [r.getD 0 0])
  | [], r, _, h, _ => absurd rfl h
  | [p], r, hr, _, hl => by
    have hlen : r.length ≠ 0 := fun z => hr (List.length_eq_zero_iff.mp z)
    have hl : r.length + 1 = L := hl
    have hne : newE 2 L r p = [jn (r.getD (r.length - 1) 0) p, jn p (r.getD 0 0)] := by
      show (if r.length = 0 then [] else if r.length = L - 1 then _ else _) = _
      rw [if_neg hlen, if_pos (by omega)]
    show newE 2 L r p ++ [] = _
    rw [hne]
    rfl
  | p :: q :: s, r, hr, _, hl => by
    have hlen : r.length ≠ 0 := fun z => hr (List.length_eq_zero_iff.mp z)
    have hl : r.length + (s.length + 1 + 1) = L := hl
    have hne : newE 2 L r p = [jn (r.getD (r.length - 1) 0) p] := by
      show (if r.length = 0 then [] else if r.length = L - 1 then _ else _) = _
      rw [if_neg hlen, if_neg (by omega)]
    show newE 2 L r p ++ edg 2 L (r ++ [p]) (q :: s) = _
    rw [hne, ring_edg (q :: s) (r ++ [p]) (by simp) (by simp) (by rw [app_len]; show r.length + 1 + (s.length + 1) = L; omega), app_len, lastD, getD_left (a := r) (b := [p]) (by omega)]
    rfl
def cl : List Nat → List Nat
  | [] => []
  | a :: t => a :: t ++ [a]
def rt : List Nat → List Nat
  | [] => []
  | a :: t => t ++ [a]
def fr : List Nat → List Nat
  | [] => []
  | a :: t => a :: t.reverse
def rti : Nat → List Nat → List Nat
  | 0, s => s
  | i + 1, s => rti i (rt s)
def rg (T : Nat → Int) (c : Int) (s : List Nat) : Prop := s.Nodup ∧ chn (adT T c) (cl s)
theorem rt_perm : ∀ s : List Nat, (rt s).Perm s
  | [] => List.Perm.refl _
  | a :: t => List.perm_append_comm (l₁ := t) (l₂ := [a])
theorem fr_perm : ∀ s : List Nat, (fr s).Perm s
  | [] => List.Perm.refl _
  | a :: t => (List.reverse_perm t).cons a
theorem rg_rt {T : Nat → Int} {c : Int} : ∀ s : List Nat, rg T c (rt s) ↔ rg T c s
  | [] => Iff.rfl
  | [_] => Iff.rfl
  | a :: b :: t => by
    unfold rg
    rw [(rt_perm (a :: b :: t)).nodup_iff]
    have e1 : cl (rt (a :: b :: t)) = (b :: t) ++ [a, b] := by
      show b :: (t ++ [a]) ++ [b] = _
      simp
    rw [e1, chn_snoc]
    show _ ↔ _ ∧ (adT T c a b ∧ chn (adT T c) (b :: t ++ [a]))
    exact ⟨fun h => ⟨h.1, h.2.2, h.2.1⟩, fun h => ⟨h.1, h.2.2, h.2.1⟩⟩
theorem cl_fr (s : List Nat) : cl (fr s) = (cl s).reverse := by
  cases s with
  | nil => rfl
  | cons a t =>
    show a :: t.reverse ++ [a] = (a :: t ++ [a]).reverse
    simp
theorem rg_fr {T : Nat → Int} {c : Int} (s : List Nat) : rg T c (fr s) ↔ rg T c s := by
  unfold rg
  rw [(fr_perm s).nodup_iff, cl_fr, chn_rev adT_sym]
theorem gE_rt (f : Nat → Nat → Nat) : ∀ s : List Nat, gE f (cl (rt s)) = gE f (cl s)
  | [] => rfl
  | [_] => rfl
  | a :: b :: t => by
    have e1 : cl (rt (a :: b :: t)) = (b :: t) ++ [a, b] := by
      show b :: (t ++ [a]) ++ [b] = _
      simp
    rw [e1, gE_snoc]
    show _ = f a b + gE f (b :: t ++ [a])
    omega
theorem rg_rti {T : Nat → Int} {c : Int} : ∀ (i : Nat) (s : List Nat), rg T c (rti i s) ↔ rg T c s
  | 0, s => Iff.rfl
  | i + 1, s => (rg_rti i (rt s)).trans (rg_rt s)
theorem gE_rti (f : Nat → Nat → Nat) : ∀ (i : Nat) (s : List Nat), gE f (cl (rti i s)) = gE f (cl s)
  | 0, s => rfl
  | i + 1, s => (gE_rti f i (rt s)).trans (gE_rt f s)
theorem SL_rt (n j : Nat) (F : List Nat → Nat) : SL n (j + 1) (fun s => F (rt s)) = SL n (j + 1) F := SL_rot n j F
theorem SL_fr (n j : Nat) (F : List Nat → Nat) : SL n (j + 1) (fun s => F (fr s)) = SL n (j + 1) F :=
  sm_congr n (fun p _ => SL_rev n j (fun s => F (p :: s)))
theorem SL_rti (n j : Nat) (F : List Nat → Nat) : ∀ i, SL n (j + 1) (fun s => F (rti i s)) = SL n (j + 1) F
  | 0 => rfl
  | i + 1 => (SL_rt n j (fun s => F (rti i s))).trans (SL_rti n j F i)
def mnF : List Nat → Prop
  | [] => True
  | a :: t => ∀ x ∈ t, a < x
theorem list3 : ∀ {s : List Nat}, s.length = 3 → ∃ a b c, s = [a, b, c]
  | [a, b, c], _ => ⟨a, b, c, rfl⟩
theorem list4 : ∀ {s : List Nat}, s.length = 4 → ∃ a b c e, s = [a, b, c, e]
  | [a, b, c, e], _ => ⟨a, b, c, e, rfl⟩
theorem list5 : ∀ {s : List Nat}, s.length = 5 → ∃ a b c e f, s = [a, b, c, e, f]
  | [a, b, c, e, f], _ => ⟨a, b, c, e, f, rfl⟩
theorem has_min : ∀ {s : List Nat}, s ≠ [] → ∃ m ∈ s, ∀ x ∈ s, m ≤ x
  | [], h => absurd rfl h
  | [a], _ => ⟨a, by simp, fun x hx => by rw [List.mem_singleton.mp hx]; exact Nat.le_refl _⟩
  | a :: b :: t, _ => by
    obtain ⟨m, hm, h⟩ := has_min (s := b :: t) (by simp)
    by_cases z : a ≤ m
    · refine ⟨a, List.mem_cons_self, fun x hx => ?_⟩
      rcases List.mem_cons.mp hx with rfl | y
      · exact Nat.le_refl _
      · have := h x y; omega
    · refine ⟨m, List.mem_cons_of_mem _ hm, fun x hx => ?_⟩
      rcases List.mem_cons.mp hx with rfl | y
      · omega
      · exact h x y
theorem mn_iff {s t : List Nat} {x m : Nat} (hp : (x :: t).Perm s) (hn : s.Nodup) (hm : m ∈ s) (h : ∀ y ∈ s, m ≤ y) : mnF (x :: t) ↔ x = m := by
  have hn2 := hp.nodup_iff.mpr hn
  obtain ⟨h1, h2⟩ := List.nodup_cons.mp hn2
  have hmx := hp.mem_iff.mpr hm
  constructor
  · intro z
    rcases List.mem_cons.mp hmx with y | y
    · exact y.symm
    · have a1 : x < m := z m y
      have a2 := h x (hp.mem_iff.mp List.mem_cons_self)
      omega
  · rintro rfl y hy
    have a1 := h y (hp.mem_iff.mp (List.mem_cons_of_mem _ hy))
    have a2 : x ≠ y := fun w => h1 (w ▸ hy)
    omega
theorem rti_perm : ∀ (i : Nat) (s : List Nat), (rti i s).Perm s
  | 0, s => List.Perm.refl _
  | i + 1, s => (rti_perm i (rt s)).trans (rt_perm s)
theorem mn_sum3 {a b c : Nat} (h : [a, b, c].Nodup) : sm (fun i => iq (mnF (rti i [a, b, c])) 1) 3 = 1 := by
  obtain ⟨m, hm, hle⟩ := has_min (s := [a, b, c]) (by simp)
  show 0 + iq (mnF [a, b, c]) 1 + iq (mnF [b, c, a]) 1 + iq (mnF [c, a, b]) 1 = 1
  rw [iq_congr (show mnF [a, b, c] ↔ a = m from mn_iff (rti_perm 0 [a, b, c]) h hm hle) 1, iq_congr (show mnF [b, c, a] ↔ b = m from mn_iff (rti_perm 1 [a, b, c]) h hm hle) 1, iq_congr (show mnF [c, a, b] ↔ c = m from mn_iff (rti_perm 2 [a, b, c]) h hm hle) 1]
  have q := lS_nodup (e := m) h
  rw [iq_t hm] at q
  have q : 1 = iq (a = m) 1 + (iq (b = m) 1 + (iq (c = m) 1 + 0)) := q
  omega
theorem mn_sum4 {a b c e : Nat} (h : [a, b, c, e].Nodup) : sm (fun i => iq (mnF (rti i [a, b, c, e])) 1) 4 = 1 := by
  obtain ⟨m, hm, hle⟩ := has_min (s := [a, b, c, e]) (by simp)
  show 0 + iq (mnF [a, b, c, e]) 1 + iq (mnF [b, c, e, a]) 1 + iq (mnF [c, e, a, b]) 1 + iq (mnF [e, a, b, c]) 1 = 1
  rw [iq_congr (show mnF [a, b, c, e] ↔ a = m from mn_iff (rti_perm 0 [a, b, c, e]) h hm hle) 1, iq_congr (show mnF [b, c, e, a] ↔ b = m from mn_iff (rti_perm 1 [a, b, c, e]) h hm hle) 1, iq_congr (show mnF [c, e, a, b] ↔ c = m from mn_iff (rti_perm 2 [a, b, c, e]) h hm hle) 1, iq_congr (show mnF [e, a, b, c] ↔ e = m from mn_iff (rti_perm 3 [a, b, c, e]) h hm hle) 1]
  have q := lS_nodup (e := m) h
  rw [iq_t hm] at q
  have q : 1 = iq (a = m) 1 + (iq (b = m) 1 + (iq (c = m) 1 + (iq (e = m) 1 + 0))) := q
  omega
theorem mn_sum5 {a b c e f : Nat} (h : [a, b, c, e, f].Nodup) : sm (fun i => iq (mnF (rti i [a, b, c, e, f])) 1) 5 = 1 := by
  obtain ⟨m, hm, hle⟩ := has_min (s := [a, b, c, e, f]) (by simp)
  show 0 + iq (mnF [a, b, c, e, f]) 1 + iq (mnF [b, c, e, f, a]) 1 + iq (mnF [c, e, f, a, b]) 1 + iq (mnF [e, f, a, b, c]) 1 + iq (mnF [f, a, b, c, e]) 1 = 1
  rw [iq_congr (show mnF [a, b, c, e, f] ↔ a = m from mn_iff (rti_perm 0 [a, b, c, e, f]) h hm hle) 1, iq_congr (show mnF [b, c, e, f, a] ↔ b = m from mn_iff (rti_perm 1 [a, b, c, e, f]) h hm hle) 1, iq_congr (show mnF [c, e, f, a, b] ↔ c = m from mn_iff (rti_perm 2 [a, b, c, e, f]) h hm hle) 1, iq_congr (show mnF [e, f, a, b, c] ↔ e = m from mn_iff (rti_perm 3 [a, b, c, e, f]) h hm hle) 1, iq_congr (show mnF [f, a, b, c, e] ↔ f = m from mn_iff (rti_perm 4 [a, b, c, e, f]) h hm hle) 1]
  have q := lS_nodup (e := m) h
  rw [iq_t hm] at q
  have q : 1 = iq (a = m) 1 + (iq (b = m) 1 + (iq (c = m) 1 + (iq (e = m) 1 + (iq (f = m) 1 + 0)))) := q
  omega
theorem ge_sum3 (g : Nat → Nat → Nat) (a b c : Nat) : gE g (cl [a, b, c]) = sm (fun i => g ((rti i [a, b, c]).getD 0 0) ((rti i [a, b, c]).getD 1 0)) 3 := by
  show g a b + (g b c + (g c a + 0)) = 0 + g a b + g b c + g c a
  omega
theorem ge_sum4 (g : Nat → Nat → Nat) (a b c e : Nat) : gE g (cl [a, b, c, e]) = sm (fun i => g ((rti i [a, b, c, e]).getD 0 0) ((rti i [a, b, c, e]).getD 1 0)) 4 := by
  show g a b + (g b c + (g c e + (g e a + 0))) = 0 + g a b + g b c + g c e + g e a
  omega
theorem ge_sum5 (g : Nat → Nat → Nat) (a b c e f : Nat) : gE g (cl [a, b, c, e, f]) = sm (fun i => g ((rti i [a, b, c, e, f]).getD 0 0) ((rti i [a, b, c, e, f]).getD 1 0)) 5 := by
  show g a b + (g b c + (g c e + (g e f + (g f a + 0)))) = 0 + g a b + g b c + g c e + g e f + g f a
  omega
theorem mn_sum {s : List Nat} {L : Nat} (hL : L = 3 ∨ L = 4 ∨ L = 5) (hs : s.length = L) (h : s.Nodup) : sm (fun i => iq (mnF (rti i s)) 1) L = 1 := by
  rcases hL with rfl | rfl | rfl
  · obtain ⟨a, b, c, rfl⟩ := list3 hs
    exact mn_sum3 h
  · obtain ⟨a, b, c, e, rfl⟩ := list4 hs
    exact mn_sum4 h
  · obtain ⟨a, b, c, e, f, rfl⟩ := list5 hs
    exact mn_sum5 h
theorem ge_sum (g : Nat → Nat → Nat) {s : List Nat} {L : Nat} (hL : L = 3 ∨ L = 4 ∨ L = 5) (hs : s.length = L) : gE g (cl s) = sm (fun i => g ((rti i s).getD 0 0) ((rti i s).getD 1 0)) L := by
  rcases hL with rfl | rfl | rfl
  · obtain ⟨a, b, c, rfl⟩ := list3 hs
    exact ge_sum3 g a b c
  · obtain ⟨a, b, c, e, rfl⟩ := list4 hs
    exact ge_sum4 g a b c e
  · obtain ⟨a, b, c, e, f, rfl⟩ := list5 hs
    exact ge_sum5 g a b c e f
theorem sm_const (x : Nat) : ∀ n, sm (fun _ => x) n = n * x
  | 0 => (Nat.zero_mul x).symm
  | n + 1 => by
    show sm (fun _ => x) n + x = (n + 1) * x
    rw [sm_const x n, Nat.add_mul, Nat.one_mul]
theorem iq_zero (p : Prop) : iq p 0 = 0 := Nat.le_zero.mp (iq_le p 0)
theorem iq_mul (p : Prop) (x : Nat) : iq p x = iq p 1 * x := by
  by_cases z : p
  · rw [iq_t z, iq_t z, Nat.one_mul]
  · rw [iq_f z, iq_f z, Nat.zero_mul]
theorem ring_full {T : Nat → Int} {c : Int} {L : Nat} {s : List Nat} (hl : s.length = L) (hL : 3 ≤ L) : acc T c 2 L [] s ↔ (rg T c s ∧ mnF s) ∧ s.getD 1 0 < s.getD (s.length - 1) 0 := by
  cases s with
  | nil => exact absurd hl (by show ¬ (0 = L); omega)
  | cons a t =>
    cases t with
    | nil => exact absurd hl (by show ¬ (1 = L); omega)
    | cons b t =>
      rw [acc_nil, ring_acc hL (b :: t) [a] (by simp) (by simp) (by rw [← hl]; show 1 + (t.length + 1) = t.length + 1 + 1; omega)]
      unfold rg
      constructor
      · rintro ⟨⟨h1, h2⟩, h3, h4, h5⟩
        exact ⟨⟨⟨List.nodup_cons.mpr ⟨fun z => h1 a z (by simp), h2⟩, h3⟩, h4⟩, h5⟩
      · rintro ⟨⟨⟨h1, h2⟩, h3⟩, h6⟩
        obtain ⟨h4, h5⟩ := List.nodup_cons.mp h1
        exact ⟨⟨fun x hx z => h4 (by rw [← List.mem_singleton.mp z]; exact hx), h5⟩, h2, h3, h6⟩
