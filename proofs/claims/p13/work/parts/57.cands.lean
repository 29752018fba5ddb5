/-! candidates: what may follow a row, by kind -/
theorem msN0 {T : Nat → Int} {c : Int} : ∀ {es : List Nat}, msN T c es = 0 ↔ ∀ e ∈ es, T e = c
  | [] => ⟨fun _ _ he => (List.not_mem_nil he).elim, fun _ => rfl⟩
  | e :: es => by
    show (if T e = c then 0 else 1) + msN T c es = 0 ↔ _
    have ih := msN0 (T := T) (c := c) (es := es)
    constructor
    · intro h x hx
      have h1 : T e = c := by
        by_cases y : T e = c
        · exact y
        · rw [if_neg y] at h; omega
      rcases List.mem_cons.mp hx with rfl | hx
      · exact h1
      · exact ih.mp (by omega) x hx
    · intro h
      rw [if_pos (h e List.mem_cons_self), ih.mpr (fun x hx => h x (List.mem_cons_of_mem _ hx))]
theorem ok0 {T : Nat → Int} {c : Int} {k L : Nat} {r : List Nat} {q : Nat} : okP T c k L 0 0 r q ↔ ordP k L r q ∧ ∀ e ∈ newE k L r q, T e = c := by
  unfold okP
  rw [← msN0 (T := T) (c := c)]
  exact ⟨fun h => ⟨h.1, by omega⟩, fun h => ⟨h.1, by omega⟩⟩
abbrev cdP (T : Nat → Int) (c : Int) (k L n : Nat) (r : List Nat) (q : Nat) : Prop := q < n ∧ q ∉ r ∧ okP T c k L 0 0 r q
theorem app_len (r : List Nat) (p : Nat) : (r ++ [p]).length = r.length + 1 := by rw [List.length_append]; rfl
theorem lastD (r : List Nat) (p : Nat) : (r ++ [p]).getD (r.length + 1 - 1) 0 = p := by
  rw [Nat.add_sub_cancel]
  exact getD_app1 r p
theorem ord_nil {k L : Nat} {q : Nat} : ordP k L [] q := by
  unfold ordP
  split <;> exact Or.inl rfl
theorem newE_nil {k L : Nat} {q : Nat} : newE k L [] q = [] := by
  unfold newE
  split <;> rfl
theorem cd_nil {T : Nat → Int} {c : Int} {k L n : Nat} {q : Nat} : cdP T c k L n [] q ↔ q < n := by
  refine ⟨fun h => h.1, fun h => ⟨h, by simp, ok0.mpr ⟨ord_nil, ?_⟩⟩⟩
  rw [newE_nil]
  exact fun e he => by cases he
theorem cd_all {T : Nat → Int} {c : Int} {L n : Nat} {r : List Nat} {p q : Nat} (hp : cdP T c 1 L n r p) : cdP T c 1 L n (r ++ [p]) q ↔ (cdP T c 1 L n r q ∧ T (jn p q) = c) ∧ p < q := by
  have o1 : r.length = 0 ∨ r.getD (r.length - 1) 0 < p := (ok0.mp hp.2.2).1
  constructor
  · rintro ⟨h1, h2, h3⟩
    obtain ⟨h4, h5⟩ := ok0.mp h3
    have h4 : (r ++ [p]).length = 0 ∨ (r ++ [p]).getD ((r ++ [p]).length - 1) 0 < q := h4
    rw [app_len, lastD] at h4
    have h5 : ∀ e ∈ (r ++ [p]).map (fun x => jn x q), T e = c := h5
    have hpq : p < q := by omega
    refine ⟨⟨⟨h1, fun z => h2 (List.mem_append_left _ z), ok0.mpr ⟨?_, fun e he => ?_⟩⟩, ?_⟩, hpq⟩
    · show r.length = 0 ∨ r.getD (r.length - 1) 0 < q
      omega
    · have he : e ∈ r.map (fun x => jn x q) := he
      refine h5 e ?_
      rw [List.map_append]
      exact List.mem_append_left _ he
    · exact h5 _ (List.mem_map.mpr ⟨p, List.mem_append_right _ (by simp), rfl⟩)
  · rintro ⟨⟨⟨h1, h2, h3⟩, h4⟩, h5⟩
    refine ⟨h1, fun z => ?_, ok0.mpr ⟨?_, fun e he => ?_⟩⟩
    · rcases List.mem_append.mp z with y | y
      · exact h2 y
      · have := List.mem_singleton.mp y; omega
    · show (r ++ [p]).length = 0 ∨ (r ++ [p]).getD ((r ++ [p]).length - 1) 0 < q
      rw [app_len, lastD]
      omega
    · have he : e ∈ (r ++ [p]).map (fun x => jn x q) := he
      rw [List.map_append] at he
      rcases List.mem_append.mp he with y | y
      · exact (ok0.mp h3).2 e y
      · obtain ⟨x, hx, rfl⟩ := List.mem_map.mp y
        rw [List.mem_singleton.mp hx]
        exact h4
theorem cd_star {T : Nat → Int} {c : Int} {L n : Nat} {p q : Nat} : cdP T c 3 L n [p] q ↔ q < n ∧ q ≠ p ∧ T (jn p q) = c := by
  constructor
  · rintro ⟨h1, h2, h3⟩
    refine ⟨h1, fun z => h2 (by simp [z]), (ok0.mp h3).2 _ ?_⟩
    show jn p q ∈ [jn p q]
    simp
  · rintro ⟨h1, h2, h3⟩
    refine ⟨h1, fun z => h2 (List.mem_singleton.mp z), ok0.mpr ⟨Or.inr (Or.inl rfl), fun e he => ?_⟩⟩
    have he : e ∈ [jn p q] := he
    rw [List.mem_singleton.mp he]
    exact h3
theorem cd_book0 {T : Nat → Int} {c : Int} {L n : Nat} {p q : Nat} : cdP T c 4 L n [p] q ↔ (q < n ∧ q ≠ p ∧ T (jn p q) = c) ∧ p < q := by
  constructor
  · rintro ⟨h1, h2, h3⟩
    obtain ⟨h4, h5⟩ := ok0.mp h3
    have h4 : (1 = 0) ∨ (1 = 1 ∧ p < q) ∨ (1 = 2) ∨ (2 < 1 ∧ _) := h4
    refine ⟨⟨h1, fun z => h2 (by simp [z]), h5 _ ?_⟩, by omega⟩
    show jn p q ∈ [jn p q]
    simp
  · rintro ⟨⟨h1, h2, h3⟩, h4⟩
    refine ⟨h1, fun z => h2 (List.mem_singleton.mp z), ok0.mpr ⟨Or.inr (Or.inl ⟨rfl, h4⟩), fun e he => ?_⟩⟩
    have he : e ∈ [jn p q] := he
    rw [List.mem_singleton.mp he]
    exact h3
theorem cd_book1 {T : Nat → Int} {c : Int} {L n : Nat} {a p q : Nat} : cdP T c 4 L n [a, p] q ↔ (q < n ∧ q ≠ p ∧ T (jn p q) = c) ∧ (q ≠ a ∧ T (jn a q) = c) := by
  constructor
  · rintro ⟨h1, h2, h3⟩
    obtain ⟨h4, h5⟩ := ok0.mp h3
    have h5 : ∀ e ∈ [jn a q, jn p q], T e = c := h5
    exact ⟨⟨h1, fun z => h2 (by simp [z]), h5 _ (by simp)⟩, fun z => h2 (by simp [z]), h5 _ (by simp)⟩
  · rintro ⟨⟨h1, h2, h3⟩, h4, h5⟩
    refine ⟨h1, fun z => ?_, ok0.mpr ⟨Or.inr (Or.inr (Or.inl rfl)), fun e he => ?_⟩⟩
    · rcases List.mem_cons.mp z with y | y
      · exact h4 y
      · exact h2 (List.mem_singleton.mp y)
    · have he : e ∈ [jn a q, jn p q] := he
      rcases List.mem_cons.mp he with rfl | y
      · exact h5
      · rw [List.mem_singleton.mp y]
        exact h3
theorem cd_path {T : Nat → Int} {c : Int} {L n : Nat} {r : List Nat} {p q : Nat} : cdP T c 5 L n (r ++ [p]) q ↔ ((q < n ∧ T (jn p q) = c) ∧ q ∉ r ++ [p]) ∧ (r.length + 1 = L - 1 → (r ++ [p]).getD 0 0 < q) := by
  have hne : newE 5 L (r ++ [p]) q = [jn p q] := by
    show (if (r ++ [p]).length = 0 then [] else [jn ((r ++ [p]).getD ((r ++ [p]).length - 1) 0) q]) = _
    rw [app_len, if_neg (by omega), lastD]
  constructor
  · rintro ⟨h1, h2, h3⟩
    obtain ⟨h4, h5⟩ := ok0.mp h3
    rw [hne] at h5
    have h4 : (r ++ [p]).length = 0 ∨ (r ++ [p]).length ≠ L - 1 ∨ (r ++ [p]).getD 0 0 < q := h4
    rw [app_len] at h4
    exact ⟨⟨⟨h1, h5 _ (by simp)⟩, h2⟩, fun z => by omega⟩
  · rintro ⟨⟨⟨h1, h2⟩, h3⟩, h4⟩
    refine ⟨h1, h3, ok0.mpr ⟨?_, fun e he => ?_⟩⟩
    · show (r ++ [p]).length = 0 ∨ (r ++ [p]).length ≠ L - 1 ∨ (r ++ [p]).getD 0 0 < q
      rw [app_len]
      by_cases z : r.length + 1 = L - 1
      · exact Or.inr (Or.inr (h4 z))
      · exact Or.inr (Or.inl z)
    · rw [hne] at he
      rw [List.mem_singleton.mp he]
      exact h2
theorem cd_ringm {T : Nat → Int} {c : Int} {L n : Nat} {r : List Nat} {p q : Nat} (hL : r.length + 1 ≠ L - 1) : cdP T c 2 L n (r ++ [p]) q ↔ ((q < n ∧ T (jn p q) = c) ∧ (r ++ [p]).getD 0 0 < q) ∧ q ∉ r ++ [p] := by
  have hne : newE 2 L (r ++ [p]) q = [jn p q] := by
    show (if (r ++ [p]).length = 0 then [] else if (r ++ [p]).length = L - 1 then _ else [jn ((r ++ [p]).getD ((r ++ [p]).length - 1) 0) q]) = _
    rw [app_len, if_neg (by omega), if_neg hL, lastD]
  constructor
  · rintro ⟨h1, h2, h3⟩
    obtain ⟨h4, h5⟩ := ok0.mp h3
    rw [hne] at h5
    have h4 : (r ++ [p]).length = 0 ∨ ((r ++ [p]).getD 0 0 < q ∧ ((r ++ [p]).length ≠ L - 1 ∨ (r ++ [p]).getD 1 0 < q)) := h4
    rw [app_len] at h4
    exact ⟨⟨⟨h1, h5 _ (by simp)⟩, by omega⟩, h2⟩
  · rintro ⟨⟨⟨h1, h2⟩, h3⟩, h4⟩
    refine ⟨h1, h4, ok0.mpr ⟨?_, fun e he => ?_⟩⟩
    · show (r ++ [p]).length = 0 ∨ ((r ++ [p]).getD 0 0 < q ∧ ((r ++ [p]).length ≠ L - 1 ∨ (r ++ [p]).getD 1 0 < q))
      rw [app_len]
      exact Or.inr ⟨h3, Or.inl hL⟩
    · rw [hne] at he
      rw [List.mem_singleton.mp he]
      exact h2
theorem cd_ringl {T : Nat → Int} {c : Int} {L n : Nat} {r : List Nat} {p q : Nat} (hL : r.length + 1 = L - 1) : cdP T c 2 L n (r ++ [p]) q ↔ ((((q < n ∧ T (jn p q) = c) ∧ (r ++ [p]).getD 0 0 < q) ∧ q ∉ r ++ [p]) ∧ T (jn q ((r ++ [p]).getD 0 0)) = c) ∧ (r ++ [p]).getD 1 0 < q := by
  have hne : newE 2 L (r ++ [p]) q = [jn p q, jn q ((r ++ [p]).getD 0 0)] := by
    show (if (r ++ [p]).length = 0 then [] else if (r ++ [p]).length = L - 1 then [jn ((r ++ [p]).getD ((r ++ [p]).length - 1) 0) q, jn q ((r ++ [p]).getD 0 0)] else _) = _
    rw [app_len, if_neg (by omega), if_pos hL, lastD]
  constructor
  · rintro ⟨h1, h2, h3⟩
    obtain ⟨h4, h5⟩ := ok0.mp h3
    rw [hne] at h5
    have h4 : (r ++ [p]).length = 0 ∨ ((r ++ [p]).getD 0 0 < q ∧ ((r ++ [p]).length ≠ L - 1 ∨ (r ++ [p]).getD 1 0 < q)) := h4
    rw [app_len] at h4
    exact ⟨⟨⟨⟨⟨h1, h5 _ (by simp)⟩, by omega⟩, h2⟩, h5 _ (by simp)⟩, by omega⟩
  · rintro ⟨⟨⟨⟨⟨h1, h2⟩, h3⟩, h4⟩, h5⟩, h6⟩
    refine ⟨h1, h4, ok0.mpr ⟨?_, fun e he => ?_⟩⟩
    · show (r ++ [p]).length = 0 ∨ ((r ++ [p]).getD 0 0 < q ∧ ((r ++ [p]).length ≠ L - 1 ∨ (r ++ [p]).getD 1 0 < q))
      exact Or.inr ⟨h3, Or.inr h6⟩
    · rw [hne] at he
      rcases List.mem_cons.mp he with rfl | y
      · exact h2
      · rw [List.mem_singleton.mp y]
        exact h5
/-- the number of points up to which the finder goes one by one -/
def frK (k L : Nat) : Nat := if k = 3 then 1 else if k = 4 then 2 else L - 1
theorem ends_lt {s : List Nat} {q : Nat} (hp : List.Pairwise (· < ·) s) : (∀ x ∈ s, x < q) ↔ (s.length = 0 ∨ s.getD (s.length - 1) 0 < q) := by
  constructor
  · intro h
    by_cases z : s.length = 0
    · exact Or.inl z
    · exact Or.inr (h _ (getD_mem (by omega)))
  · intro h x hx
    obtain ⟨j, hj, rfl⟩ := List.getElem_of_mem hx
    rcases h with h | h
    · omega
    · by_cases e : j = s.length - 1
      · subst e
        rw [List.getD_eq_getElem?_getD, List.getElem?_eq_getElem hj] at h
        exact h
      · have := (List.pairwise_iff_getElem.mp hp) j (s.length - 1) hj (by omega) (by omega)
        rw [List.getD_eq_getElem?_getD, List.getElem?_eq_getElem (by omega)] at h
        exact Nat.lt_trans this h
