/-! copies under another numbering of the points -/
theorem sm_pos {f : Nat → Nat} : ∀ {n}, 0 < sm f n ↔ ∃ i, i < n ∧ 0 < f i
  | 0 => ⟨fun h => absurd h (by show ¬ 0 < 0; omega), fun ⟨i, h, _⟩ => absurd h (by omega)⟩
  | n + 1 => by
    have ih := sm_pos (f := f) (n := n)
    show 0 < sm f n + f n ↔ _
    constructor
    · intro h
      by_cases z : 0 < f n
      · exact ⟨n, by omega, z⟩
      · obtain ⟨i, h1, h2⟩ := ih.mp (by omega)
        exact ⟨i, by omega, h2⟩
    · rintro ⟨i, h1, h2⟩
      by_cases z : i = n
      · subst z; omega
      · have := ih.mpr ⟨i, by omega, h2⟩
        omega
theorem iq_pos {p : Prop} {x : Nat} : 0 < iq p x ↔ p ∧ 0 < x := by
  by_cases z : p
  · rw [iq_t z]; exact ⟨fun h => ⟨z, h⟩, fun h => h.2⟩
  · rw [iq_f z]; exact ⟨fun h => absurd h (by omega), fun h => absurd h.1 z⟩
theorem SL_pos {n : Nat} : ∀ (j : Nat) {F : List Nat → Nat}, 0 < SL n j F ↔ ∃ s : List Nat, s.length = j ∧ (∀ x ∈ s, x < n) ∧ 0 < F s
  | 0, F => by
    show 0 < F [] ↔ _
    constructor
    · exact fun h => ⟨[], rfl, (fun x hx => by cases hx), h⟩
    · rintro ⟨s, h1, _, h2⟩
      rw [List.length_eq_zero_iff.mp h1] at h2
      exact h2
  | j + 1, F => by
    show 0 < sm (fun p => SL n j (fun s => F (p :: s))) n ↔ _
    rw [sm_pos]
    constructor
    · rintro ⟨p, hp, h⟩
      obtain ⟨s, h1, h2, h3⟩ := (SL_pos j).mp h
      refine ⟨p :: s, by rw [List.length_cons, h1], fun x hx => ?_, h3⟩
      rcases List.mem_cons.mp hx with rfl | y
      · exact hp
      · exact h2 x y
    · rintro ⟨s, h1, h2, h3⟩
      cases s with
      | nil => cases h1
      | cons p s =>
        exact ⟨p, h2 p List.mem_cons_self, (SL_pos j).mpr ⟨s, by rw [List.length_cons] at h1; omega, fun x hx => h2 x (List.mem_cons_of_mem _ hx), h3⟩⟩
theorem takes_acc {T : Nat → Int} {c : Int} {k L n : Nat} : takesF T c 0 k L n L [] [] ≠ [] ↔ ∃ s : List Nat, s.length = L ∧ (∀ x ∈ s, x < n) ∧ acc T c k L [] s := by
  have e := takes_SL T c k L n (fun _ => 1) L [] [] rfl
  rw [wS_len] at e
  have h1 : takesF T c 0 k L n L [] [] ≠ [] ↔ 0 < (takesF T c 0 k L n L [] []).length := by
    rw [List.length_pos_iff]
  rw [h1, e, SL_pos]
  constructor
  · rintro ⟨s, a, b, h⟩
    exact ⟨s, a, b, (iq_pos.mp h).1⟩
  · rintro ⟨s, a, b, h⟩
    exact ⟨s, a, b, iq_pos.mpr ⟨h, Nat.one_pos⟩⟩
/-- T' is T seen through f -/
def rnm (T' T : Nat → Int) (n : Nat) (f : Nat → Nat) : Prop := (∀ a, a < n → f a < n) ∧ (∀ a b, a < n → b < n → f a = f b → a = b) ∧ ∀ a b, a < n → b < n → a ≠ b → T' (jn a b) = T (jn (f a) (f b))
theorem map_nodup {f : Nat → Nat} {n : Nat} (hf : ∀ a b, a < n → b < n → f a = f b → a = b) : ∀ {s : List Nat}, s.Nodup → (∀ x ∈ s, x < n) → (s.map f).Nodup
  | [], _, _ => List.nodup_nil
  | a :: s, h, hx => by
    obtain ⟨h1, h2⟩ := List.nodup_cons.mp h
    refine List.nodup_cons.mpr ⟨fun z => ?_, map_nodup hf h2 (fun x hx' => hx x (List.mem_cons_of_mem _ hx'))⟩
    obtain ⟨b, hb, e⟩ := List.mem_map.mp z
    rw [hf b a (hx b (List.mem_cons_of_mem _ hb)) (hx a List.mem_cons_self) e] at hb
    exact h1 hb
theorem chn_map {T' T : Nat → Int} {c : Int} {n : Nat} {f : Nat → Nat} (r : rnm T' T n f) : ∀ {s : List Nat}, s.Nodup → (∀ x ∈ s, x < n) → chn (adT T' c) s → chn (adT T c) (s.map f)
  | [], _, _, _ => trivial
  | [_], _, _, _ => trivial
  | a :: b :: s, h, hx, hc => by
    obtain ⟨h1, h2⟩ := List.nodup_cons.mp h
    refine ⟨?_, chn_map r h2 (fun x hx' => hx x (List.mem_cons_of_mem _ hx')) hc.2⟩
    show T (jn (f a) (f b)) = c
    rw [← r.2.2 a b (hx a List.mem_cons_self) (hx b (by simp)) (fun z => h1 (by rw [z]; exact List.mem_cons_self))]
    exact hc.1
theorem bn_0 : ∀ d, bn d 0 = 1
  | 0 => rfl
  | _ + 1 => rfl
theorem bn_mono {d d' : Nat} (h : d ≤ d') (s : Nat) : bn d s ≤ bn d' s := by
  induction d' with
  | zero =>
    rw [Nat.le_zero.mp h]
    exact Nat.le_refl _
  | succ d' ih =>
    by_cases z : d = d' + 1
    · rw [z]; exact Nat.le_refl _
    · have := ih (by omega)
      cases s with
      | zero => rw [bn_0, bn_0]; exact Nat.le_refl _
      | succ s =>
        show _ ≤ bn d' s + bn d' (s + 1)
        omega
theorem lst_map_le {f : Nat → Nat} {n : Nat} (hf : ∀ a b, a < n → b < n → f a = f b → a = b) {C D : Nat → Prop} (h : ∀ q, q < n → C q → f q < n ∧ D (f q)) : (lst C 0 n).length ≤ (lst D 0 n).length := by
  have q := lst_nodn (n := n) ((lst C 0 n).map f) D (map_nodup hf (lst_nod _ _) (fun x hx => by have := (lst_mem.mp hx).1; omega)) (fun x hx => by
    obtain ⟨b, hb, e⟩ := List.mem_map.mp hx
    have w := lst_mem.mp hb
    have y := h b (by omega) w.2
    rw [← e]
    exact ⟨y.2, y.1⟩)
  rw [List.length_map] at q
  omega
theorem cq_ex {A : Nat → Nat → Prop} (hA : ∀ a b, A a b → A b a) {n : Nat} : ∀ (j : Nat) {C : Nat → Prop}, 0 < cq A n j C → ∃ r : List Nat, r.length = j ∧ r.Nodup ∧ (∀ x ∈ r, x < n ∧ C x) ∧ ∀ x ∈ r, ∀ y ∈ r, x ≠ y → A x y
  | 0, _, _ => ⟨[], rfl, List.nodup_nil, (fun x hx => by cases hx), (fun x hx => by cases hx)⟩
  | j + 1, C, h => by
    have h : 0 < sm (fun p => iq (C p) (cq A n j (fun q => C q ∧ A p q ∧ p < q))) n := h
    obtain ⟨p, hp, h1⟩ := sm_pos.mp h
    obtain ⟨hC, h2⟩ := iq_pos.mp h1
    obtain ⟨r, a1, a2, a3, a4⟩ := cq_ex hA j h2
    refine ⟨p :: r, by rw [List.length_cons, a1], List.nodup_cons.mpr ⟨fun z => ?_, a2⟩, fun x hx => ?_, fun x hx y hy hne => ?_⟩
    · have := (a3 p z).2.2.2
      omega
    · rcases List.mem_cons.mp hx with rfl | w
      · exact ⟨hp, hC⟩
      · exact ⟨(a3 x w).1, (a3 x w).2.1⟩
    · rcases List.mem_cons.mp hx with rfl | w
      · rcases List.mem_cons.mp hy with rfl | v
        · exact absurd rfl hne
        · exact (a3 y v).2.2.1
      · rcases List.mem_cons.mp hy with rfl | v
        · exact hA _ _ (a3 x w).2.2.1
        · exact a4 x w y v hne
theorem cq_of {A : Nat → Nat → Prop} {n : Nat} : ∀ (j : Nat) {C : Nat → Prop} (r : List Nat), r.length = j → r.Nodup → (∀ x ∈ r, x < n ∧ C x) → (∀ x ∈ r, ∀ y ∈ r, x ≠ y → A x y) → 0 < cq A n j C
  | 0, _, _, _, _, _, _ => Nat.one_pos
  | j + 1, C, r, h1, h2, h3, h4 => by
    obtain ⟨m, hm, hmin⟩ := has_min (s := r) (fun z => by rw [z] at h1; cases h1)
    show 0 < sm (fun p => iq (C p) (cq A n j (fun q => C q ∧ A p q ∧ p < q))) n
    refine sm_pos.mpr ⟨m, (h3 m hm).1, iq_pos.mpr ⟨(h3 m hm).2, ?_⟩⟩
    have mem : ∀ x ∈ r.erase m, x ∈ r ∧ x ≠ m := fun x hx => ⟨List.mem_of_mem_erase hx, fun z => by
      rw [z] at hx
      exact (List.Nodup.mem_erase_iff h2).mp hx |>.1 rfl⟩
    refine cq_of j (r.erase m) (by rw [List.length_erase_of_mem hm]; omega) (h2.erase m) (fun x hx => ?_) (fun x hx y hy hne => h4 x (mem x hx).1 y (mem y hy).1 hne)
    have w := mem x hx
    have := hmin x w.1
    exact ⟨(h3 x w.1).1, (h3 x w.1).2, h4 m hm x w.1 (fun z => w.2 z.symm), by have := w.2; omega⟩
theorem ring_cop {T : Nat → Int} {c : Int} {L n : Nat} (hL : L = 3 ∨ L = 4 ∨ L = 5) {r : List Nat} (hl : r.length = L) (hx : ∀ x ∈ r, x < n) (h : rg T c r) : takesF T c 0 2 L n L [] [] ≠ [] := by
  have q := mn_sum hL hl h.1
  obtain ⟨i, _, h2⟩ := sm_pos.mp (show 0 < sm (fun i => iq (mnF (rti i r)) 1) L by rw [q]; exact Nat.one_pos)
  have h2 := (iq_pos.mp h2).1
  have hp := rti_perm i r
  have h3 : rg T c (rti i r) := (rg_rti i r).mpr h
  have h4 : (rti i r).length = L := by rw [hp.length_eq, hl]
  have h5 : ∀ x ∈ rti i r, x < n := fun x hx' => hx x (hp.mem_iff.mp hx')
  have h6 : (fr (rti i r)).length = L := by rw [(fr_perm _).length_eq, h4]
  have h7 : ∀ x ∈ fr (rti i r), x < n := fun x hx' => h5 x ((fr_perm _).mem_iff.mp hx')
  have h8 : rg T c (fr (rti i r)) := (rg_fr _).mpr h3
  have h9 : mnF (fr (rti i r)) := by
    revert h2
    cases rti i r with
    | nil => exact id
    | cons a t => exact fun w x hx' => w x (List.mem_reverse.mp hx')
  rw [takes_acc]
  by_cases z : (rti i r).getD 1 0 < (rti i r).getD ((rti i r).length - 1) 0
  · exact ⟨_, h4, h5, (ring_full h4 (by omega)).mpr ⟨⟨h3, h2⟩, z⟩⟩
  · refine ⟨_, h6, h7, (ring_full h6 (by omega)).mpr ⟨⟨h8, h9⟩, ?_⟩⟩
    have nd := h3.1
    rcases hL with rfl | rfl | rfl
    · obtain ⟨a, b, e, w⟩ := list3 h4
      rw [w] at z nd ⊢
      show e < b
      have z : ¬ b < e := z
      have : b ≠ e := fun y => by subst y; simp at nd
      omega
    · obtain ⟨a, b, e, f, w⟩ := list4 h4
      rw [w] at z nd ⊢
      show f < b
      have z : ¬ b < f := z
      have : b ≠ f := fun y => by subst y; simp at nd
      omega
    · obtain ⟨a, b, e, f, g, w⟩ := list5 h4
      rw [w] at z nd ⊢
      show g < b
      have z : ¬ b < g := z
      have : b ≠ g := fun y => by subst y; simp at nd
      omega
theorem takes_rnm {T' T : Nat → Int} {c : Int} {k L n : Nat} {f : Nat → Nat} (hk : kOk k L) (r : rnm T' T n f) (h : takesF T' c 0 k L n L [] [] ≠ []) : takesF T c 0 k L n L [] [] ≠ [] := by
  have pos : ∀ U : Nat → Int, takesF U c 0 k L n L [] [] ≠ [] ↔ 0 < (takesF U c 0 k L n L [] []).length := fun U => by rw [List.length_pos_iff]
  obtain ⟨r1, r2, r3⟩ := r
  have r : rnm T' T n f := ⟨r1, r2, r3⟩
  have hk0 := hk
  rcases hk with ⟨rfl, hL⟩ | ⟨rfl, hL⟩ | ⟨rfl, hL⟩ | ⟨rfl, hL⟩ | ⟨rfl, hL⟩
  · rw [pos, takes_all T' c L n L [] [] rfl] at h
    rw [pos, takes_all T c L n L [] [] rfl]
    obtain ⟨s, a1, a2, a3, a4⟩ := cq_ex adT_sym L h
    refine cq_of L (s.map f) (by rw [List.length_map, a1]) (map_nodup r2 a2 (fun x hx => (a3 x hx).1)) (fun x hx => ?_) (fun x hx y hy hne => ?_)
    · obtain ⟨b, hb, e⟩ := List.mem_map.mp hx
      have : x < n := by rw [← e]; exact r1 b (a3 b hb).1
      exact ⟨this, this, by simp, Or.inl rfl, Nat.le_refl 0⟩
    · obtain ⟨b, hb, e⟩ := List.mem_map.mp hx
      obtain ⟨b2, hb2, e2⟩ := List.mem_map.mp hy
      subst e; subst e2
      have hbb : b ≠ b2 := fun z => hne (by rw [z])
      show T (jn (f b) (f b2)) = c
      rw [← r3 b b2 (a3 b hb).1 (a3 b2 hb2).1 hbb]
      exact a4 b hb b2 hb2 hbb
  · have hL3 : L = 3 ∨ L = 4 ∨ L = 5 := by omega
    obtain ⟨s, a1, a2, a3⟩ := takes_acc.mp h
    have a4 := ((ring_full a1 (by omega)).mp a3).1.1
    refine ring_cop hL3 (r := s.map f) (by rw [List.length_map, a1]) (fun x hx => ?_) ⟨map_nodup r2 a4.1 a2, ?_⟩
    · obtain ⟨b, hb, e⟩ := List.mem_map.mp hx
      rw [← e]
      exact r1 b (a2 b hb)
    · have tr : ∀ a b, a < n → b < n → a ≠ b → T' (jn a b) = c → T (jn (f a) (f b)) = c := fun a b ha hb hab w => by rw [← r3 a b ha hb hab]; exact w
      obtain ⟨nd, ch⟩ := a4
      rcases hL3 with rfl | rfl | rfl
      · obtain ⟨a, b, e, w⟩ := list3 a1
        subst w
        have ch : T' (jn a b) = c ∧ T' (jn b e) = c ∧ T' (jn e a) = c ∧ True := ch
        simp only [List.mem_cons, List.nodup_cons, List.not_mem_nil, or_false, forall_eq_or_imp, forall_eq, not_or] at a2 nd
        exact ⟨tr a b (by omega) (by omega) (by omega) ch.1, tr b e (by omega) (by omega) (by omega) ch.2.1, tr e a (by omega) (by omega) (by omega) ch.2.2.1, trivial⟩
      · obtain ⟨a, b, e, g, w⟩ := list4 a1
        subst w
        have ch : T' (jn a b) = c ∧ T' (jn b e) = c ∧ T' (jn e g) = c ∧ T' (jn g a) = c ∧ True := ch
        simp only [List.mem_cons, List.nodup_cons, List.not_mem_nil, or_false, forall_eq_or_imp, forall_eq, not_or] at a2 nd
        exact ⟨tr a b (by omega) (by omega) (by omega) ch.1, tr b e (by omega) (by omega) (by omega) ch.2.1, tr e g (by omega) (by omega) (by omega) ch.2.2.1, tr g a (by omega) (by omega) (by omega) ch.2.2.2.1, trivial⟩
      · obtain ⟨a, b, e, g, i, w⟩ := list5 a1
        subst w
        have ch : T' (jn a b) = c ∧ T' (jn b e) = c ∧ T' (jn e g) = c ∧ T' (jn g i) = c ∧ T' (jn i a) = c ∧ True := ch
        simp only [List.mem_cons, List.nodup_cons, List.not_mem_nil, or_false, forall_eq_or_imp, forall_eq, not_or] at a2 nd
        exact ⟨tr a b (by omega) (by omega) (by omega) ch.1, tr b e (by omega) (by omega) (by omega) ch.2.1, tr e g (by omega) (by omega) (by omega) ch.2.2.1, tr g i (by omega) (by omega) (by omega) ch.2.2.2.1, tr i a (by omega) (by omega) (by omega) ch.2.2.2.2.1, trivial⟩
  · rw [pos, takes_star T' c L n hk0, sm_pos] at h
    rw [pos, takes_star T c L n hk0, sm_pos]
    obtain ⟨m, hm, h1⟩ := h
    refine ⟨f m, r1 m hm, Nat.lt_of_lt_of_le h1 (bn_mono (lst_map_le r2 (fun q hq w => ⟨r1 q hq, fun z => w.1 (r2 q m hq hm z), ?_⟩)) _)⟩
    show T (jn (f m) (f q)) = c
    rw [← r3 m q hm hq (fun z => w.1 z.symm)]
    exact w.2
  · rw [pos, takes_book T' c L n hk0, sm_pos] at h
    rw [pos, takes_book T c L n hk0, sm_pos]
    obtain ⟨a, ha, h1⟩ := h
    obtain ⟨b, hb, h1⟩ := sm_pos.mp h1
    obtain ⟨⟨hab, h2⟩, h3⟩ := iq_pos.mp h1
    have hne : f a ≠ f b := fun z => by have := r2 a b ha hb z; omega
    have h4 : T (jn (f a) (f b)) = c := by rw [← r3 a b ha hb (by omega)]; exact h2
    have h5 : 0 < bn (cmN T c n (f a) (f b)) (L - 2) := by
      refine Nat.lt_of_lt_of_le h3 (bn_mono (lst_map_le r2 (fun q hq w => ⟨r1 q hq, ⟨fun z => w.1.1 (r2 q a hq ha z), ?_⟩, fun z => w.2.1 (r2 q b hq hb z), ?_⟩)) _)
      · show T (jn (f a) (f q)) = c
        rw [← r3 a q ha hq (fun z => w.1.1 z.symm)]
        exact w.1.2
      · show T (jn (f b) (f q)) = c
        rw [← r3 b q hb hq (fun z => w.2.1 z.symm)]
        exact w.2.2
    rcases Nat.lt_or_gt_of_ne hne with z | z
    · exact ⟨f a, r1 a ha, sm_pos.mpr ⟨f b, r1 b hb, iq_pos.mpr ⟨⟨z, h4⟩, h5⟩⟩⟩
    · exact ⟨f b, r1 b hb, sm_pos.mpr ⟨f a, r1 a ha, iq_pos.mpr ⟨⟨z, adT_sym _ _ h4⟩, by rw [cm_sym]; exact h5⟩⟩⟩
  · obtain ⟨s, a1, a2, a3⟩ := takes_acc.mp h
    have a4 := ((path_full a1 (by omega)).mp a3).1
    have b1 : (s.map f).length = L := by rw [List.length_map, a1]
    have b2 : ∀ x ∈ s.map f, x < n := fun x hx => by
      obtain ⟨b, hb, e⟩ := List.mem_map.mp hx
      rw [← e]
      exact r1 b (a2 b hb)
    have b3 : rp T c (s.map f) := ⟨map_nodup r2 a4.1 a2, chn_map r a4.1 a2 a4.2⟩
    rw [takes_acc]
    by_cases z : (s.map f).getD 0 0 < (s.map f).getD ((s.map f).length - 1) 0
    · exact ⟨_, b1, b2, (path_full b1 (by omega)).mpr ⟨b3, z⟩⟩
    · refine ⟨(s.map f).reverse, by rw [List.length_reverse, b1], fun x hx => b2 x (List.mem_reverse.mp hx), (path_full (by rw [List.length_reverse, b1]) (by omega)).mpr ⟨(rp_rev _).mpr b3, ?_⟩⟩
      have hne := nodup_ne b3.1 (a := 0) (b := (s.map f).length - 1) (by omega) (by omega) (by omega)
      rw [List.length_reverse, getD_rev (by omega), getD_rev (by omega), show (s.map f).length - 1 - ((s.map f).length - 1) = 0 by omega, show (s.map f).length - 1 - 0 = (s.map f).length - 1 by omega]
      omega
theorem clear_rnm {N M : nN} {f : Nat → Nat} (o : nOk N) (h1 : nP M = nP N) (h2 : nC M = nC N) (h3 : nK M = nK N) (h4 : nS M = nS N) (r : rnm (nT M) (nT N) (nP N) f) (h : nClear N) : nClear M := by
  intro c hc
  rw [h2] at hc
  have hC := o.2.1.2
  have q := h c hc
  unfold cpL at q ⊢
  have ek : nkk M c = nkk N c := by show (nK M c).toNat = (nK N c).toNat; rw [h3]
  have el : nln M c = nln N c := by show (lenOf (nK M c) (nS M c)).toNat = (lenOf (nK N c) (nS N c)).toNat; rw [h3, h4]
  rw [ek, el, h3, h1]
  by_cases z : nK N c = 0
  · rw [if_pos z]
  · rw [if_neg z] at q ⊢
    by_cases y : takesF (nT M) c 0 (nkk N c) (nln N c) (nP N) (nln N c) [] [] = []
    · exact y
    · exact absurd q (takes_rnm (kOk_of (o.2.2.1 c (by omega)) z).1 r y)
