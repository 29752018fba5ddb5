/-! the numberings in their order, and the order of their vectors by keys -/
def cmV (v u : Nat → Int) : Nat → Nat → Int
  | 0, _ => 0
  | m + 1, k => if v k < u k then -1 else if v k = u k then cmV v u m (k + 1) else 1
def kV (v : Nat → Int) : Nat → Nat → Int
  | 0, _ => 0
  | m + 1, k => (v k + 1) * ((4 ^ m : Nat) : Int) + kV v m (k + 1)
def dg4 (v : Nat → Int) (m k : Nat) : Prop := ∀ i, k ≤ i → i < k + m → -1 ≤ v i ∧ v i ≤ 2
theorem kV_bd {v : Nat → Int} : ∀ (m k : Nat), dg4 v m k → 0 ≤ kV v m k ∧ kV v m k < ((4 ^ m : Nat) : Int)
  | 0, k, _ => ⟨Int.le_refl 0, by show (0 : Int) < ((4 ^ 0 : Nat) : Int); decide⟩
  | m + 1, k, h => by
    have ih := kV_bd m (k + 1) (fun i h1 h2 => h i (by omega) (by omega))
    have h1 := h k (Nat.le_refl _) (by omega)
    have hp : ((4 ^ (m + 1) : Nat) : Int) = 4 * ((4 ^ m : Nat) : Int) := by rw [Nat.pow_succ, Int.natCast_mul, Int.mul_comm]; rfl
    show 0 ≤ (v k + 1) * ((4 ^ m : Nat) : Int) + kV v m (k + 1) ∧ (v k + 1) * ((4 ^ m : Nat) : Int) + kV v m (k + 1) < _
    rw [hp]
    have hP : (0 : Int) ≤ ((4 ^ m : Nat) : Int) := Int.natCast_nonneg _
    have a1 := Int.mul_nonneg (show 0 ≤ v k + 1 by omega) hP
    have a2 := Int.mul_le_mul_of_nonneg_right (show v k + 1 ≤ 3 by omega) hP
    omega
theorem cm_key {v u : Nat → Int} : ∀ (m k : Nat), dg4 v m k → dg4 u m k → (cmV v u m k = -1 ∧ kV v m k < kV u m k) ∨ (cmV v u m k = 0 ∧ kV v m k = kV u m k ∧ ∀ i, k ≤ i → i < k + m → v i = u i) ∨ (cmV v u m k = 1 ∧ kV u m k < kV v m k)
  | 0, k, _, _ => Or.inr (Or.inl ⟨rfl, rfl, fun i h1 h2 => by omega⟩)
  | m + 1, k, h1, h2 => by
    have g1 : dg4 v m (k + 1) := fun i a b => h1 i (by omega) (by omega)
    have g2 : dg4 u m (k + 1) := fun i a b => h2 i (by omega) (by omega)
    have ih := cm_key m (k + 1) g1 g2
    have b1 := kV_bd m (k + 1) g1
    have b2 := kV_bd m (k + 1) g2
    have hP : (0 : Int) ≤ ((4 ^ m : Nat) : Int) := Int.natCast_nonneg _
    have e1 : kV v (m + 1) k = (v k + 1) * ((4 ^ m : Nat) : Int) + kV v m (k + 1) := rfl
    have e2 : kV u (m + 1) k = (u k + 1) * ((4 ^ m : Nat) : Int) + kV u m (k + 1) := rfl
    have e3 : cmV v u (m + 1) k = (if v k < u k then -1 else if v k = u k then cmV v u m (k + 1) else 1) := rfl
    rw [e1, e2, e3]
    by_cases z1 : v k < u k
    · rw [if_pos z1]
      have a := Int.mul_le_mul_of_nonneg_right (show v k + 1 + 1 ≤ u k + 1 by omega) hP
      rw [Int.add_mul (v k + 1) 1, Int.one_mul] at a
      exact Or.inl ⟨rfl, by omega⟩
    · rw [if_neg z1]
      by_cases z2 : v k = u k
      · rw [if_pos z2, z2]
        rcases ih with w | w | w
        · exact Or.inl ⟨w.1, by omega⟩
        · refine Or.inr (Or.inl ⟨w.1, by omega, fun i a b => ?_⟩)
          by_cases y : i = k
          · rw [y]; exact z2
          · exact w.2.2 i (by omega) (by omega)
        · exact Or.inr (Or.inr ⟨w.1, by omega⟩)
      · rw [if_neg z2]
        have a := Int.mul_le_mul_of_nonneg_right (show u k + 1 + 1 ≤ v k + 1 by omega) hP
        rw [Int.add_mul (u k + 1) 1, Int.one_mul] at a
        exact Or.inr (Or.inr ⟨rfl, by omega⟩)
theorem kV_congr {v u : Nat → Int} : ∀ (m k : Nat), (∀ i, k ≤ i → i < k + m → v i = u i) → kV v m k = kV u m k
  | 0, _, _ => rfl
  | m + 1, k, h => by
    show (v k + 1) * _ + kV v m (k + 1) = (u k + 1) * _ + kV u m (k + 1)
    rw [h k (Nat.le_refl _) (by omega), kV_congr m (k + 1) (fun i a b => h i (by omega) (by omega))]
theorem cm_app (v u : Nat → Int) (b : Nat) : ∀ (a k : Nat), cmV v u (a + b) k = if cmV v u a k = 0 then cmV v u b (k + a) else cmV v u a k
  | 0, k => by
    rw [Nat.zero_add, Nat.add_zero]
    exact (if_pos rfl).symm
  | a + 1, k => by
    have ih := cm_app v u b a (k + 1)
    rw [show a + 1 + b = (a + b) + 1 by omega]
    show (if v k < u k then -1 else if v k = u k then cmV v u (a + b) (k + 1) else 1) = if (if v k < u k then -1 else if v k = u k then cmV v u a (k + 1) else 1) = 0 then _ else (if v k < u k then -1 else if v k = u k then cmV v u a (k + 1) else 1)
    rw [ih, show k + 1 + a = k + (a + 1) by omega]
    by_cases z1 : v k < u k
    · simp only [if_pos z1]
      rfl
    · simp only [if_neg z1]
      by_cases z2 : v k = u k
      · simp only [if_pos z2]
      · simp only [if_neg z2]
        rfl
theorem cmv_eq {v u : Nat → Int} : ∀ (m k : Nat), (∀ i, k ≤ i → i < k + m → v i = u i) → cmV v u m k = 0
  | 0, _, _ => rfl
  | m + 1, k, h => by
    have e := h k (Nat.le_refl _) (by omega)
    show (if v k < u k then -1 else if v k = u k then cmV v u m (k + 1) else 1) = 0
    rw [if_neg (by omega), if_pos e, cmv_eq m (k + 1) (fun i a b => h i (by omega) (by omega))]
theorem cp_cm (T B : bT) (s : List Nat) (p : Nat) (hp : p < 12) : ∀ (m a : Nat), a + m = p → cpJ T B s p m a = cmV (vec T s) B m (js p + a)
  | 0, _, _ => rfl
  | m + 1, a, h => by
    obtain ⟨j1, j2⟩ := jlo_js p hp a (by omega)
    have e1 : vec T s (js p + a) = tF T s a p := by
      unfold vec
      rw [j1, j2]
    have e2 : jn a p = js p + a := jn_last p hp a (by omega)
    show (if tF T s a p < B (jn a p) then -1 else if tF T s a p = B (jn a p) then cpJ T B s p m (a + 1) else 1) = (if vec T s (js p + a) < B (js p + a) then -1 else if vec T s (js p + a) = B (js p + a) then cmV (vec T s) B m (js p + a + 1) else 1)
    rw [e1, e2, cp_cm T B s p hp m (a + 1) (by omega)]
    rfl
theorem ag_cm (T B : bT) (s : List Nat) (n : Nat) (hn : n ≤ 12) : ∀ (m b : Nat), b + m = n → agJ T B s m b = cmV (vec T s) B (js n - js b) (js b)
  | 0, b, h => by
    have : b = n := by omega
    subst this
    rw [Nat.sub_self]
    rfl
  | m + 1, b, h => by
    have hle : js (b + 1) ≤ js n := Nat.div_le_div_right (Nat.mul_le_mul (by omega) (by omega))
    have hnx := js_next b (by omega)
    show (if cpJ T B s b b 0 = 0 then agJ T B s m (b + 1) else cpJ T B s b b 0) = _
    rw [ag_cm T B s n hn m (b + 1) (by omega), cp_cm T B s b (by omega) b 0 (by omega), show js n - js b = b + (js n - js (b + 1)) by omega, cm_app, hnx, Nat.add_zero]
/-- the numberings that go on from s, j points more -/
def nums (n : Nat) : Nat → List Nat → List (List Nat)
  | 0, s => [s]
  | j + 1, s => (List.range' 0 n).flatMap (fun c => if c ∈ s then [] else nums n j (s ++ [c]))
theorem numO_snoc {n c : Nat} {s : List Nat} (o : numO n s) (hc : c < n) (h : c ∉ s) : numO n (s ++ [c]) := by
  refine ⟨List.nodup_append.mpr ⟨o.1, by simp, fun a ha b hb => ?_⟩, fun x hx => ?_⟩
  · rw [List.mem_singleton.mp hb]
    exact fun z => h (by rw [← z]; exact ha)
  · rcases List.mem_append.mp hx with w | w
    · exact o.2 x w
    · rw [List.mem_singleton.mp w]; exact hc
theorem nums_mem {n : Nat} : ∀ (j : Nat) (s t : List Nat), numO n s → (t ∈ nums n j s ↔ numO n t ∧ ∃ x, t = s ++ x ∧ x.length = j)
  | 0, s, t, o => by
    constructor
    · intro h
      rw [List.mem_singleton.mp h]
      exact ⟨o, [], (List.append_nil s).symm, rfl⟩
    · rintro ⟨h1, x, h2, h3⟩
      rw [List.length_eq_zero_iff.mp h3, List.append_nil] at h2
      rw [h2]
      exact List.mem_singleton.mpr rfl
  | j + 1, s, t, o => by
    constructor
    · intro h
      obtain ⟨c, hc, h1⟩ := List.mem_flatMap.mp h
      have hc2 : c < n := by
        have := List.mem_range'_1.mp hc
        omega
      by_cases z : c ∈ s
      · rw [if_pos z] at h1
        cases h1
      · rw [if_neg z] at h1
        obtain ⟨h2, x, h3, h4⟩ := (nums_mem j (s ++ [c]) t (numO_snoc o hc2 z)).mp h1
        exact ⟨h2, c :: x, by rw [h3, List.append_assoc]; rfl, by rw [List.length_cons, h4]⟩
    · rintro ⟨h1, x, h2, h3⟩
      cases x with
      | nil => cases h3
      | cons c x =>
        have ht : t = (s ++ [c]) ++ x := by rw [h2, List.append_assoc]; rfl
        have hc : c < n := h1.2 c (by rw [h2]; exact List.mem_append.mpr (Or.inr List.mem_cons_self))
        have hcs : c ∉ s := fun z => by
          have := h1.1
          rw [h2] at this
          exact (List.nodup_append.mp this).2.2 c z c List.mem_cons_self rfl
        refine List.mem_flatMap.mpr ⟨c, List.mem_range'_1.mpr ⟨Nat.zero_le _, by omega⟩, ?_⟩
        rw [if_neg hcs]
        exact (nums_mem j (s ++ [c]) t (numO_snoc o hc hcs)).mpr ⟨h1, x, ht, by
          rw [List.length_cons] at h3
          omega⟩
theorem lst_nodn {n : Nat} : ∀ (r : List Nat) (C : Nat → Prop), r.Nodup → (∀ x ∈ r, C x ∧ x < n) → (lst C 0 n).length = r.length + (lst (fun q => C q ∧ q ∉ r) 0 n).length
  | [], C, _, _ => by
    rw [List.length_nil, Nat.zero_add]
    exact lst_same (fun q _ => ⟨fun h => ⟨h, fun z => by cases z⟩, fun h => h.1⟩)
  | v :: r, C, hn, hC => by
    obtain ⟨h1, h2⟩ := List.nodup_cons.mp hn
    have hv := hC v List.mem_cons_self
    have ih := lst_nodn r (fun q => C q ∧ q ≠ v) h2 (fun x hx => ⟨⟨(hC x (List.mem_cons_of_mem _ hx)).1, fun z => h1 (by rw [← z]; exact hx)⟩, (hC x (List.mem_cons_of_mem _ hx)).2⟩)
    have e := lst_same (C := fun q => (C q ∧ q ≠ v) ∧ q ∉ r) (D := fun q => C q ∧ q ∉ v :: r) (n := n) (fun q _ => ⟨fun h => ⟨h.1.1, fun z => (List.mem_cons.mp z).elim h.1.2 h.2⟩, fun h => ⟨⟨h.1, fun z => h.2 (by rw [z]; exact List.mem_cons_self)⟩, fun z => h.2 (List.mem_cons_of_mem _ z)⟩⟩)
    rw [lst_rem hv.2 hv.1, ih, e, List.length_cons]
    omega
theorem lst_allT (n : Nat) : (lst (fun _ => True) 0 n).length = n := by
  have q := lst_from (C := fun _ => True) (a := 0) (b := n) (fun q hq => by omega) (fun _ _ _ => trivial)
  rw [Nat.zero_add] at q
  rw [q, List.length_range']
/-- a whole numbering has every point -/
theorem num_all {n : Nat} {s : List Nat} (o : numO n s) (hl : s.length = n) : ∀ q, q < n → q ∈ s := by
  intro q hq
  by_cases z : q ∈ s
  · exact z
  have h1 := lst_nodn (n := n) s (fun _ => True) o.1 (fun x hx => ⟨trivial, o.2 x hx⟩)
  rw [lst_allT, hl] at h1
  have h2 : q ∈ lst (fun q => True ∧ q ∉ s) 0 n := lst_mem.mpr ⟨⟨Nat.zero_le _, by omega⟩, trivial, z⟩
  rw [List.length_eq_zero_iff.mp (show (lst (fun q => True ∧ q ∉ s) 0 n).length = 0 by omega)] at h2
  cases h2
theorem num_le {n : Nat} {s : List Nat} (o : numO n s) : s.length ≤ n := by
  have h1 := lst_nodn (n := n) s (fun _ => True) o.1 (fun x hx => ⟨trivial, o.2 x hx⟩)
  rw [lst_allT] at h1
  omega
theorem lst_nod (C : Nat → Prop) (n : Nat) : (lst C 0 n).Nodup := by
  refine List.Pairwise.imp ?_ (lst_pair C n 0)
  intro a b h
  omega
theorem nums_ne {n : Nat} {j : Nat} {s : List Nat} (o : numO n s) (hj : s.length + j = n) : nums n j s ≠ [] := by
  have h1 := lst_nodn (n := n) s (fun _ => True) o.1 (fun x hx => ⟨trivial, o.2 x hx⟩)
  rw [lst_allT] at h1
  have q := (nums_mem j s (s ++ lst (fun q => True ∧ q ∉ s) 0 n) o).mpr ⟨⟨List.nodup_append.mpr ⟨o.1, lst_nod _ _, fun a ha b hb z => (lst_mem.mp hb).2.2 (by rw [← z]; exact ha)⟩, fun x hx => ?_⟩, _, rfl, by omega⟩
  · intro z
    rw [z] at q
    cases q
  · rcases List.mem_append.mp hx with w | w
    · exact o.2 x w
    · have := (lst_mem.mp w).1
      omega
theorem js_mono {a b : Nat} (h : a ≤ b) : js a ≤ js b := Nat.div_le_div_right (Nat.mul_le_mul h (by omega))
/-- of a join among the first p numbers only those count -/
theorem vec_pre {T : bT} {s x : List Nat} {p k : Nat} (hp : p ≤ 12) (hl : p ≤ s.length) (hk : k < js p) : vec T (s ++ x) k = vec T s k := by
  have h := jhi_lt hp hk
  unfold vec tF
  rw [getD_left (by omega), getD_left (by omega)]
theorem vec_in {T : bT} {n p k : Nat} {s : List Nat} (o : numO n s) (hn : n ≤ 12) (hp : p ≤ s.length) (hk : k < js p) : ∃ e, e < js n ∧ vec T s k = T e := by
  have h := jhi_lt (show p ≤ 12 by have := num_le o; omega) hk
  exact ⟨_, jn_js n (by omega) _ (o.2 _ (getD_mem (by omega))) _ (o.2 _ (getD_mem (by omega))) (nodup_ne o.1 (by omega) (by omega) (by omega)), rfl⟩
def ky (T : bT) (n : Nat) (s : List Nat) : Int := kV (vec T s) (js n) 0
def kst (o : Option Int × Nat) (x : Int) : Option Int × Nat := match o.1 with
  | none => (some x, 1)
  | some y => if x < y then (some x, 1) else if x = y then (some y, o.2 + 1) else o
theorem fold_less {K : Int} {w : Nat} {L : List Int} (h : L ≠ []) (hl : ∀ x ∈ L, x < K) : L.foldl kst (some K, w) = L.foldl kst (none, 0) := by
  cases L with
  | nil => exact absurd rfl h
  | cons x L =>
    show L.foldl kst (kst (some K, w) x) = L.foldl kst (kst (none, 0) x)
    have : kst (some K, w) x = (some x, 1) := if_pos (hl x List.mem_cons_self)
    rw [this]
    rfl
theorem fold_more {K : Int} {w : Nat} : ∀ {L : List Int}, (∀ x ∈ L, K < x) → L.foldl kst (some K, w) = (some K, w)
  | [], _ => rfl
  | x :: L, h => by
    show L.foldl kst (kst (some K, w) x) = _
    have hx := h x List.mem_cons_self
    have : kst (some K, w) x = (some K, w) := by
      show (if x < K then _ else if x = K then _ else _) = _
      rw [if_neg (by omega), if_neg (by omega)]
    rw [this]
    exact fold_more (fun y hy => h y (List.mem_cons_of_mem _ hy))
