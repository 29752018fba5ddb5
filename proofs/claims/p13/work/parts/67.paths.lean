/-! rows of consecutive points: paths and rings -/
theorem jn_sym (a b : Nat) : jn a b = jn b a := by
  unfold jn
  by_cases h1 : a < b
  · rw [if_pos h1, if_neg (by omega)]
  · by_cases h2 : b < a
    · rw [if_neg h1, if_pos h2]
    · have : a = b := by omega
      subst this
      rfl
def chn (A : Nat → Nat → Prop) : List Nat → Prop
  | [] => True
  | [_] => True
  | a :: b :: s => A a b ∧ chn A (b :: s)
def gE (f : Nat → Nat → Nat) : List Nat → Nat
  | [] => 0
  | [_] => 0
  | a :: b :: s => f a b + gE f (b :: s)
def ce : List Nat → List Nat
  | [] => []
  | [_] => []
  | a :: b :: s => jn a b :: ce (b :: s)
theorem chn_snoc (A : Nat → Nat → Prop) : ∀ (l : List Nat) (a b : Nat), chn A (l ++ [a, b]) ↔ chn A (l ++ [a]) ∧ A a b
  | [], a, b => ⟨fun h => ⟨trivial, h.1⟩, fun h => ⟨h.2, trivial⟩⟩
  | [x], a, b => ⟨fun h => ⟨⟨h.1, trivial⟩, h.2.1⟩, fun h => ⟨h.1.1, h.2, trivial⟩⟩
  | x :: y :: s, a, b => by
    have ih := chn_snoc A (y :: s) a b
    show (A x y ∧ chn A (y :: s ++ [a, b])) ↔ (A x y ∧ chn A (y :: s ++ [a])) ∧ A a b
    rw [ih]
    exact ⟨fun h => ⟨⟨h.1, h.2.1⟩, h.2.2⟩, fun h => ⟨h.1.1, h.1.2, h.2⟩⟩
theorem chn_rev {A : Nat → Nat → Prop} (hA : ∀ a b, A a b → A b a) : ∀ l : List Nat, chn A l.reverse ↔ chn A l
  | [] => Iff.rfl
  | [_] => Iff.rfl
  | a :: b :: s => by
    have ih := chn_rev hA (b :: s)
    have e : (a :: b :: s).reverse = s.reverse ++ [b, a] := by
      rw [List.reverse_cons, List.reverse_cons, List.append_assoc]
      rfl
    rw [e, chn_snoc]
    rw [List.reverse_cons] at ih
    rw [ih]
    exact ⟨fun h => ⟨hA _ _ h.2, h.1⟩, fun h => ⟨h.2, hA _ _ h.1⟩⟩
theorem gE_snoc (f : Nat → Nat → Nat) : ∀ (l : List Nat) (a b : Nat), gE f (l ++ [a, b]) = gE f (l ++ [a]) + f a b
  | [], a, b => by
    show f a b + 0 = 0 + f a b
    omega
  | [x], a, b => by
    show f x a + (f a b + 0) = f x a + 0 + f a b
    omega
  | x :: y :: s, a, b => by
    have ih := gE_snoc f (y :: s) a b
    show f x y + gE f (y :: s ++ [a, b]) = f x y + gE f (y :: s ++ [a]) + f a b
    rw [ih]
    omega
theorem gE_rev (f : Nat → Nat → Nat) : ∀ l : List Nat, gE f l.reverse = gE (fun a b => f b a) l
  | [] => rfl
  | [_] => rfl
  | a :: b :: s => by
    have ih := gE_rev f (b :: s)
    have e : (a :: b :: s).reverse = s.reverse ++ [b, a] := by
      rw [List.reverse_cons, List.reverse_cons, List.append_assoc]
      rfl
    rw [e, gE_snoc]
    rw [List.reverse_cons] at ih
    rw [ih]
    show _ = f b a + _
    omega
theorem gE_plus (f g : Nat → Nat → Nat) : ∀ l : List Nat, gE (fun a b => f a b + g a b) l = gE f l + gE g l
  | [] => rfl
  | [_] => rfl
  | a :: b :: s => by
    show f a b + g a b + gE (fun a b => f a b + g a b) (b :: s) = f a b + gE f (b :: s) + (g a b + gE g (b :: s))
    rw [gE_plus f g (b :: s)]
    omega
theorem gE_congr {f g : Nat → Nat → Nat} (h : ∀ a b, f a b = g a b) (l : List Nat) : gE f l = gE g l := by
  have : f = g := funext fun a => funext fun b => h a b
  rw [this]
def lS (f : Nat → Nat) : List Nat → Nat
  | [] => 0
  | x :: xs => f x + lS f xs
theorem lS_nodup {e : Nat} : ∀ {l : List Nat}, l.Nodup → iq (e ∈ l) 1 = lS (fun x => iq (x = e) 1) l
  | [], _ => iq_f (by simp) 1
  | x :: xs, h => by
    obtain ⟨h1, h2⟩ := List.nodup_cons.mp h
    have ih := lS_nodup (e := e) h2
    show _ = iq (x = e) 1 + lS (fun x => iq (x = e) 1) xs
    rw [← ih]
    by_cases z : x = e
    · rw [iq_t z, iq_t (by rw [z]; exact List.mem_cons_self), iq_f (fun y => h1 (z ▸ y))]
    · rw [iq_f z, Nat.zero_add]
      exact iq_congr ⟨fun y => (List.mem_cons.mp y).elim (fun w => absurd w.symm z) id, fun y => List.mem_cons_of_mem _ y⟩ 1
theorem lS_ce (f : Nat → Nat) : ∀ l : List Nat, lS f (ce l) = gE (fun a b => f (jn a b)) l
  | [] => rfl
  | [_] => rfl
  | a :: b :: s => by
    show f (jn a b) + lS f (ce (b :: s)) = f (jn a b) + _
    rw [lS_ce f (b :: s)]
/-- whether a join is that of two points -/
theorem jn_two {u v a b : Nat} (hu : u < 12) (hv : v < 12) (ha : a < 12) (hb : b < 12) (huv : u ≠ v) (hab : a ≠ b) : iq (jn a b = jn u v) 1 = iq (a = u ∧ b = v) 1 + iq (a = v ∧ b = u) 1 := by
  by_cases z : a = u ∧ b = v
  · rw [iq_t z, iq_t (by rw [z.1, z.2]), iq_f (fun w => huv (by omega))]
  · rw [iq_f z, Nat.zero_add]
    refine iq_congr ⟨fun w => ?_, fun w => by rw [w.1, w.2]; exact jn_sym v u⟩ 1
    rcases jn_inj2 ha hb hu hv hab huv w with y | y
    · exact absurd y z
    · exact y
/-! paths -/
theorem path_acc {T : Nat → Int} {c : Int} {L : Nat} : ∀ (s r : List Nat), r ≠ [] → s ≠ [] → r.length + s.length = L → (acc T c 5 L r s ↔ ((∀ x ∈ s, x ∉ r) ∧ s.Nodup) ∧ chn (fun a b => T (jn a b) = c) (r.getD (r.length - 1) 0 :: s) ∧ r.getD 0 0 < s.getD (s.length - 1) 0)
  | [], r, _, h, _ => absurd rfl h
  | [p], r, hr, _, hl => by
    have hlen : r.length ≠ 0 := fun z => hr (List.length_eq_zero_iff.mp z)
    have hl : r.length + 1 = L := hl
    have hne : newE 5 L r p = [jn (r.getD (r.length - 1) 0) p] := if_neg hlen
    show ((p ∉ r ∧ okP T c 5 L 0 0 r p) ∧ True) ↔ _
    rw [ok0, hne]
    constructor
    · rintro ⟨⟨h1, h2, h3⟩, -⟩
      have h2 : r.length = 0 ∨ r.length ≠ L - 1 ∨ r.getD 0 0 < p := h2
      refine ⟨⟨fun x hx => by rw [List.mem_singleton.mp hx]; exact h1, by simp⟩, ⟨h3 _ (by simp), trivial⟩, ?_⟩
      show r.getD 0 0 < p
      omega
    · rintro ⟨⟨h1, -⟩, ⟨h2, -⟩, h3⟩
      have h3 : r.getD 0 0 < p := h3
      exact ⟨⟨h1 p (by simp), Or.inr (Or.inr h3), fun e he => by rw [List.mem_singleton.mp he]; exact h2⟩, trivial⟩
  | p :: q :: s, r, hr, _, hl => by
    have hlen : r.length ≠ 0 := fun z => hr (List.length_eq_zero_iff.mp z)
    have hl : r.length + (s.length + 1 + 1) = L := hl
    have hne : newE 5 L r p = [jn (r.getD (r.length - 1) 0) p] := if_neg hlen
    have ih := path_acc (T := T) (c := c) (L := L) (q :: s) (r ++ [p]) (by simp) (by simp) (by rw [app_len]; show r.length + 1 + (s.length + 1) = L; omega)
    show ((p ∉ r ∧ okP T c 5 L 0 0 r p) ∧ acc T c 5 L (r ++ [p]) (q :: s)) ↔ _
    rw [ih, ok0, hne, app_len, lastD, getD_left (by omega)]
    constructor
    · rintro ⟨⟨h1, h2, h3⟩, ⟨h4, h5⟩, h6, h7⟩
      refine ⟨⟨fun x hx => ?_, List.nodup_cons.mpr ⟨fun z => h4 p z (List.mem_append_right _ (by simp)), h5⟩⟩, ⟨h3 _ (by simp), h6⟩, h7⟩
      rcases List.mem_cons.mp hx with rfl | y
      · exact h1
      · exact fun z => h4 x y (List.mem_append_left _ z)
    · rintro ⟨⟨h1, h2⟩, ⟨h3, h4⟩, h5⟩
      obtain ⟨h6, h7⟩ := List.nodup_cons.mp h2
      refine ⟨⟨h1 p List.mem_cons_self, Or.inr (Or.inl (by omega)), fun e he => by rw [List.mem_singleton.mp he]; exact h3⟩, ⟨fun x hx z => ?_, h7⟩, h4, h5⟩
      rcases List.mem_append.mp z with y | y
      · exact h1 x (List.mem_cons_of_mem _ hx) y
      · rw [List.mem_singleton.mp y] at hx
        exact h6 hx
theorem path_edg {L : Nat} : ∀ (s r : List Nat), r ≠ [] → edg 5 L r s = ce (r.getD (r.length - 1) 0 :: s)
  | [], r, _ => rfl
  | p :: s, r, hr => by
    have hlen : r.length ≠ 0 := fun z => hr (List.length_eq_zero_iff.mp z)
    have hne : newE 5 L r p = [jn (r.getD (r.length - 1) 0) p] := if_neg hlen
    show newE 5 L r p ++ edg 5 L (r ++ [p]) s = jn _ p :: ce (p :: s)
    rw [hne, path_edg s (r ++ [p]) (by simp), app_len, lastD]
    rfl
