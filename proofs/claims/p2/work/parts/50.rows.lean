/-! a proposition as a boolean; the rows of a kind, all of them, in order -/
noncomputable def qB (p : Prop) : Bool := @decide p (Classical.propDecidable p)
theorem qB_iff {p : Prop} : qB p = true ↔ p := @decide_eq_true_iff p (Classical.propDecidable p)
theorem qB_t {p : Prop} (h : p) : qB p = true := qB_iff.mpr h
theorem qB_f {p : Prop} (h : ¬ p) : qB p = false := by
  cases e : qB p with
  | false => rfl
  | true => exact absurd (qB_iff.mp e) h
theorem qB_no {p : Prop} (h : ¬ p) : ¬ qB p = true := fun z => h (qB_iff.mp z)
theorem qB_congr {p q : Prop} (h : p ↔ q) : qB p = qB q := by
  by_cases hp : p
  · rw [qB_t hp, qB_t (h.mp hp)]
  · rw [qB_f hp, qB_f (fun z => hp (h.mpr z))]
abbrev rE : Type := List Nat × List Nat
noncomputable def rowsF (k L n : Nat) : Nat → List Nat → List Nat → List rE
  | 0, r, es => [(r, es)]
  | j + 1, r, es => (List.range' 0 n).flatMap (fun p => if qB (p ∉ r ∧ ordP k L r p) = true then rowsF k L n j (r ++ [p]) (es ++ newE k L r p) else [])
noncomputable def takesF (T : Nat → Int) (c : Int) (mm k L n j : Nat) (r es : List Nat) : List rE := (rowsF k L n j r es).filter (fun x => decide (msN T c x.2 ≤ mm))
/-- the part of them with the next point from p on -/
noncomputable def takesP (T : Nat → Int) (c : Int) (mm k L n j : Nat) (r es : List Nat) (p m : Nat) : List rE := (List.range' p m).flatMap (fun p => if qB (p ∉ r ∧ okP T c k L mm (msN T c es) r p) = true then takesF T c mm k L n j (r ++ [p]) (es ++ newE k L r p) else [])
theorem rowsF_ms (T : Nat → Int) (c : Int) (k L n : Nat) : ∀ (j : Nat) (r es : List Nat) (x : rE), x ∈ rowsF k L n j r es → msN T c es ≤ msN T c x.2
  | 0, r, es, x, hx => by
    have : x = (r, es) := List.mem_singleton.mp hx
    rw [this]
    exact Nat.le_refl _
  | j + 1, r, es, x, hx => by
    obtain ⟨p, hp, h1⟩ := List.mem_flatMap.mp hx
    split at h1
    · have := rowsF_ms T c k L n j _ _ x h1
      rw [msN_app] at this
      omega
    · cases h1
theorem takesF_succ (T : Nat → Int) (c : Int) (mm k L n j : Nat) (r es : List Nat) : takesF T c mm k L n (j + 1) r es = takesP T c mm k L n j r es 0 n := by
  unfold takesF takesP
  show List.filter _ ((List.range' 0 n).flatMap _) = _
  rw [List.filter_flatMap]
  refine congrArg (fun f => (List.range' 0 n).flatMap f) (funext fun p => ?_)
  by_cases h1 : p ∉ r ∧ ordP k L r p
  · rw [if_pos (qB_t h1)]
    by_cases h2 : msN T c es + msN T c (newE k L r p) ≤ mm
    · rw [if_pos (qB_t ⟨h1.1, h1.2, h2⟩)]
      rfl
    · rw [if_neg (qB_no (fun z => h2 z.2.2))]
      refine List.filter_eq_nil_iff.mpr (fun x hx => ?_)
      have := rowsF_ms T c k L n j _ _ x hx
      rw [msN_app] at this
      simp only [decide_eq_true_eq]
      omega
  · rw [if_neg (qB_no h1), if_neg (qB_no (fun z => h1 ⟨z.1, z.2.1⟩))]
    rfl
theorem takesF_zero {T : Nat → Int} {c : Int} {mm k L n : Nat} {r es : List Nat} (h : msN T c es ≤ mm) : takesF T c mm k L n 0 r es = [(r, es)] := by
  show List.filter _ [(r, es)] = _
  rw [List.filter_cons_of_pos (by simpa using h)]
  rfl
theorem takesP_zero (T : Nat → Int) (c : Int) (mm k L n j : Nat) (r es : List Nat) (p : Nat) : takesP T c mm k L n j r es p 0 = [] := rfl
theorem takesP_no {T : Nat → Int} {c : Int} {mm k L n j : Nat} {r es : List Nat} {p m : Nat} (h : ¬ (p ∉ r ∧ okP T c k L mm (msN T c es) r p)) : takesP T c mm k L n j r es p (m + 1) = takesP T c mm k L n j r es (p + 1) m := by
  unfold takesP
  rw [List.range'_succ, List.flatMap_cons, if_neg (qB_no h), List.nil_append]
theorem takesP_yes {T : Nat → Int} {c : Int} {mm k L n j : Nat} {r es : List Nat} {p m : Nat} (h : p ∉ r ∧ okP T c k L mm (msN T c es) r p) : takesP T c mm k L n j r es p (m + 1) = takesF T c mm k L n j (r ++ [p]) (es ++ newE k L r p) ++ takesP T c mm k L n j r es (p + 1) m := by
  unfold takesP
  rw [List.range'_succ, List.flatMap_cons, if_pos (qB_t h)]
/-- rows taken one by one until a stop -/
noncomputable def goA {A : Type} (stop : A → Prop) (step : A → List Nat → List Nat → A) : A → List rE → A
  | a, [] => a
  | a, x :: xs => if qB (stop a) = true then a else goA stop step (step a x.1 x.2) xs
theorem goA_stop {A : Type} {stop : A → Prop} {step : A → List Nat → List Nat → A} {a : A} (h : stop a) : ∀ xs, goA stop step a xs = a
  | [] => rfl
  | x :: xs => by
    show (if qB (stop a) = true then a else _) = a
    rw [if_pos (qB_t h)]
theorem goA_app {A : Type} (stop : A → Prop) (step : A → List Nat → List Nat → A) : ∀ (xs ys : List rE) (a : A), goA stop step a (xs ++ ys) = goA stop step (goA stop step a xs) ys
  | [], ys, a => rfl
  | x :: xs, ys, a => by
    show (if qB (stop a) = true then a else _) = goA stop step (if qB (stop a) = true then a else _) ys
    by_cases h : stop a
    · rw [if_pos (qB_t h), if_pos (qB_t h), goA_stop h]
    · rw [if_neg (qB_no h), if_neg (qB_no h)]
      exact goA_app stop step xs ys _
/-! the joins that a point brings -/
theorem jn_inj2 {a b c e : Nat} (ha : a < 12) (hb : b < 12) (hc : c < 12) (he : e < 12) (h1 : a ≠ b) (h2 : c ≠ e) (h : jn a b = jn c e) : (a = c ∧ b = e) ∨ (a = e ∧ b = c) := by
  obtain ⟨x1, x2⟩ := jn_inj a ha b hb h1
  obtain ⟨y1, y2⟩ := jn_inj c hc e he h2
  rw [h] at x1 x2
  omega
theorem nodup_getD {r : List Nat} (h : r.Nodup) {i j : Nat} (hij : i < j) (hj : j < r.length) : r.getD i 0 ≠ r.getD j 0 := by
  have := (List.pairwise_iff_getElem.mp h) i j (by omega) hj hij
  rw [List.getD_eq_getElem?_getD, List.getD_eq_getElem?_getD, List.getElem?_eq_getElem (by omega), List.getElem?_eq_getElem hj]
  exact this
abbrev kOk (k L : Nat) : Prop := (k = 1 ∧ 2 ≤ L ∧ L ≤ 6) ∨ (k = 2 ∧ 3 ≤ L ∧ L ≤ 5) ∨ (k = 3 ∧ 2 ≤ L ∧ L ≤ 7) ∨ (k = 4 ∧ 3 ≤ L ∧ L ≤ 6) ∨ (k = 5 ∧ 2 ≤ L ∧ L ≤ 5)
theorem newE_mem {k L : Nat} (hk : kOk k L) {r : List Nat} {p e : Nat} (hr : ∀ x ∈ r, x < 12) (hp : p < 12) (he : e ∈ newE k L r p) : ∃ q ∈ r, e = jn q p := by
  rcases hk with ⟨rfl, -⟩ | ⟨rfl, -⟩ | ⟨rfl, -⟩ | ⟨rfl, -⟩ | ⟨rfl, -⟩
  · obtain ⟨q, hq, rfl⟩ := List.mem_map.mp (show e ∈ r.map (fun q => jn q p) from he)
    exact ⟨q, hq, rfl⟩
  · have he : e ∈ (if r.length = 0 then [] else if r.length = L - 1 then [jn (r.getD (r.length - 1) 0) p, jn p (r.getD 0 0)] else [jn (r.getD (r.length - 1) 0) p]) := he
    by_cases h0 : r.length = 0
    · rw [if_pos h0] at he; cases he
    · rw [if_neg h0] at he
      by_cases h1 : r.length = L - 1
      · rw [if_pos h1, List.mem_cons, List.mem_singleton] at he
        rcases he with rfl | rfl
        · exact ⟨_, getD_mem (by omega), rfl⟩
        · have hm := getD_mem (r := r) (j := 0) (by omega)
          exact ⟨_, hm, jn_comm _ hp _ (hr _ hm)⟩
      · rw [if_neg h1, List.mem_singleton] at he
        exact ⟨_, getD_mem (by omega), he⟩
  · have he : e ∈ (if r.length = 0 then [] else [jn (r.getD 0 0) p]) := he
    by_cases h0 : r.length = 0
    · rw [if_pos h0] at he; cases he
    · rw [if_neg h0, List.mem_singleton] at he
      exact ⟨_, getD_mem (by omega), he⟩
  · have he : e ∈ (if r.length = 0 then [] else if r.length = 1 then [jn (r.getD 0 0) p] else [jn (r.getD 0 0) p, jn (r.getD 1 0) p]) := he
    by_cases h0 : r.length = 0
    · rw [if_pos h0] at he; cases he
    · rw [if_neg h0] at he
      by_cases h1 : r.length = 1
      · rw [if_pos h1, List.mem_singleton] at he
        exact ⟨_, getD_mem (by omega), he⟩
      · rw [if_neg h1, List.mem_cons, List.mem_singleton] at he
        rcases he with rfl | rfl
        · exact ⟨_, getD_mem (by omega), rfl⟩
        · exact ⟨_, getD_mem (by omega), rfl⟩
  · have he : e ∈ (if r.length = 0 then [] else [jn (r.getD (r.length - 1) 0) p]) := he
    by_cases h0 : r.length = 0
    · rw [if_pos h0] at he; cases he
    · rw [if_neg h0, List.mem_singleton] at he
      exact ⟨_, getD_mem (by omega), he⟩
theorem nodup_two {a b : Nat} (h : a ≠ b) : ([a, b] : List Nat).Nodup := by
  rw [List.nodup_cons, List.mem_singleton]
  exact ⟨h, by simp⟩
theorem newE_nodup {k L : Nat} (hk : kOk k L) {r : List Nat} {p : Nat} (hr : ∀ x ∈ r, x < 12) (hp : p < 12) (hpr : p ∉ r) (hn : r.Nodup) : (newE k L r p).Nodup := by
  have two : ∀ a ∈ r, ∀ b ∈ r, a ≠ b → jn a p ≠ jn b p := fun a ha b hb hab z => by
    rcases jn_inj2 (hr a ha) hp (hr b hb) hp (fun y => hpr (y ▸ ha)) (fun y => hpr (y ▸ hb)) z with y | y
    · exact hab y.1
    · exact hpr (y.1 ▸ ha)
  rcases hk with ⟨rfl, -⟩ | ⟨rfl, hL, -⟩ | ⟨rfl, -⟩ | ⟨rfl, -⟩ | ⟨rfl, -⟩
  · show (r.map (fun q => jn q p)).Nodup
    rw [List.nodup_iff_pairwise_ne, List.pairwise_map]
    exact List.Pairwise.imp_of_mem (fun ha hb hne => two _ ha _ hb hne) hn
  · show (if r.length = 0 then [] else if r.length = L - 1 then [jn (r.getD (r.length - 1) 0) p, jn p (r.getD 0 0)] else [jn (r.getD (r.length - 1) 0) p]).Nodup
    split
    · exact List.nodup_nil
    · split
      · have hm := getD_mem (r := r) (j := 0) (by omega)
        rw [jn_comm p hp _ (hr _ hm)]
        exact nodup_two (two _ (getD_mem (by omega)) _ hm (fun z => nodup_getD hn (i := 0) (j := r.length - 1) (by omega) (by omega) z.symm))
      · simp
  · show (if r.length = 0 then [] else [jn (r.getD 0 0) p]).Nodup
    split
    · exact List.nodup_nil
    · simp
  · show (if r.length = 0 then [] else if r.length = 1 then [jn (r.getD 0 0) p] else [jn (r.getD 0 0) p, jn (r.getD 1 0) p]).Nodup
    split
    · exact List.nodup_nil
    · split
      · simp
      · exact nodup_two (two _ (getD_mem (by omega)) _ (getD_mem (by omega)) (nodup_getD hn (by omega) (by omega)))
  · show (if r.length = 0 then [] else [jn (r.getD (r.length - 1) 0) p]).Nodup
    split
    · exact List.nodup_nil
    · simp
theorem newE_len {k L : Nat} (hk : kOk k L) {r : List Nat} {p : Nat} : (k = 1 → (newE k L r p).length = r.length) ∧ (k ≠ 1 → (newE k L r p).length ≤ 2) := by
  rcases hk with ⟨rfl, -⟩ | ⟨rfl, -⟩ | ⟨rfl, -⟩ | ⟨rfl, -⟩ | ⟨rfl, -⟩
  · exact ⟨fun _ => List.length_map _, fun z => absurd rfl z⟩
  · refine ⟨fun z => absurd z (by decide), fun _ => ?_⟩
    show (if r.length = 0 then [] else if r.length = L - 1 then [jn (r.getD (r.length - 1) 0) p, jn p (r.getD 0 0)] else [jn (r.getD (r.length - 1) 0) p]).length ≤ 2
    split
    · simp
    · split <;> simp
  · refine ⟨fun z => absurd z (by decide), fun _ => ?_⟩
    show (if r.length = 0 then [] else [jn (r.getD 0 0) p]).length ≤ 2
    split <;> simp
  · refine ⟨fun z => absurd z (by decide), fun _ => ?_⟩
    show (if r.length = 0 then [] else if r.length = 1 then [jn (r.getD 0 0) p] else [jn (r.getD 0 0) p, jn (r.getD 1 0) p]).length ≤ 2
    split
    · simp
    · split <;> simp
  · refine ⟨fun z => absurd z (by decide), fun _ => ?_⟩
    show (if r.length = 0 then [] else [jn (r.getD (r.length - 1) 0) p]).length ≤ 2
    split <;> simp
def rOk (k : Nat) (r es : List Nat) : Prop := (∀ x ∈ r, x < 12) ∧ r.Nodup ∧ es.Nodup ∧ (∀ e ∈ es, ∃ a ∈ r, ∃ b ∈ r, a ≠ b ∧ e = jn a b) ∧ (k = 1 → 2 * es.length ≤ r.length * (r.length - 1)) ∧ (k ≠ 1 → es.length ≤ 2 * r.length)
theorem rOk_nil (k : Nat) : rOk k [] [] := ⟨fun _ h => (by cases h), List.nodup_nil, List.nodup_nil, fun _ h => (by cases h), fun _ => Nat.le_refl _, fun _ => Nat.le_refl _⟩
theorem rOk_add {k L : Nat} (hk : kOk k L) {r es : List Nat} {p : Nat} (o : rOk k r es) (hp : p < 12) (hpr : p ∉ r) : rOk k (r ++ [p]) (es ++ newE k L r p) := by
  obtain ⟨o1, o2, o3, o4, o5, o6⟩ := o
  refine ⟨fun x hx => ?_, ?_, ?_, fun e he => ?_, fun z => ?_, fun z => ?_⟩
  · rcases List.mem_append.mp hx with h | h
    · exact o1 x h
    · rw [List.mem_singleton.mp h]; exact hp
  · refine List.nodup_append.mpr ⟨o2, by simp, fun a ha b hb => ?_⟩
    rw [List.mem_singleton.mp hb]
    exact fun z => hpr (z ▸ ha)
  · refine List.nodup_append.mpr ⟨o3, newE_nodup hk o1 hp hpr o2, fun a ha b hb z => ?_⟩
    obtain ⟨x, hx, y, hy, hxy, e1⟩ := o4 a ha
    obtain ⟨q, hq, e2⟩ := newE_mem hk o1 hp hb
    rw [e1, e2] at z
    rcases jn_inj2 (o1 x hx) (o1 y hy) (o1 q hq) hp hxy (fun w => hpr (w ▸ hq)) z with w | w
    · exact hpr (w.2 ▸ hy)
    · exact hpr (w.1 ▸ hx)
  · rcases List.mem_append.mp he with h | h
    · obtain ⟨x, hx, y, hy, w⟩ := o4 e h
      exact ⟨x, List.mem_append_left _ hx, y, List.mem_append_left _ hy, w⟩
    · obtain ⟨q, hq, e2⟩ := newE_mem hk o1 hp h
      exact ⟨q, List.mem_append_left _ hq, p, List.mem_append_right _ (by simp), fun w => hpr (w ▸ hq), e2⟩
  · have h1 := o5 z
    have h2 := (newE_len hk (r := r) (p := p)).1 z
    rw [List.length_append, List.length_append, h2]
    show 2 * (es.length + r.length) ≤ (r.length + 1) * (r.length + 1 - 1)
    rw [Nat.add_sub_cancel]
    cases hl : r.length with
    | zero => rw [hl] at h1; omega
    | succ m =>
      rw [hl, Nat.add_sub_cancel] at h1
      have e1 : (m + 1) * m = m * m + m := by rw [Nat.add_mul]; omega
      have e2 : (m + 1 + 1) * (m + 1) = m * m + 3 * m + 2 := by
        rw [Nat.mul_add, Nat.add_mul, Nat.add_mul]; omega
      omega
  · have h1 := o6 z
    have h2 := (newE_len hk (r := r) (p := p)).2 z
    rw [List.length_append, List.length_append]
    show es.length + _ ≤ 2 * (r.length + 1)
    omega
theorem rOk_len {k L : Nat} (hk : kOk k L) {r es : List Nat} (o : rOk k r es) (hl : r.length ≤ L) : es.length ≤ 18 := by
  obtain ⟨o1, o2, o3, o4, o5, o6⟩ := o
  by_cases z : k = 1
  · have h1 := o5 z
    have hL : r.length ≤ 6 := by rcases hk with h | h | h | h | h <;> omega
    have : r.length * (r.length - 1) ≤ 6 * 5 := Nat.mul_le_mul hL (by omega)
    omega
  · have h1 := o6 z
    have hL : r.length ≤ 7 := by rcases hk with h | h | h | h | h <;> omega
    omega
theorem rOk_66 {k : Nat} {r es : List Nat} (o : rOk k r es) {e : Nat} (he : e ∈ es) : e < 66 := by
  obtain ⟨a, ha, b, hb, hab, rfl⟩ := o.2.2.2.1 e he
  exact jn_lt a (o.1 a ha) b (o.1 b hb) hab
