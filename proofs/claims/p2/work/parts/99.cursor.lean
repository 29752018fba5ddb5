/-! check: the walk of a cursor along the rows -/
noncomputable def told (N : nN) (P : pRw) (m : Nat) (o : Nat → Nat) (u : Nat) (x : eV) : Prop := P.2.1 u = (o x.1 : Nat) ∧ P.2.2.1 u = x.2 (o x.1) ∧ (if P.2.2.2 u = 0 then x.1 + 1 < m else justP (nSetT N x.2) (x.2 (o x.1)).toNat (o x.1) (P.2.2.2 u).toNat)
noncomputable def cwx (N : nN) (P : pRw) (m : Nat) (o : Nat → Nat) : Nat → Nat → Option eV → Int
  | 0, _, none => 0
  | 0, u, some _ => 1 + (u : Nat)
  | _ + 1, u, none => 1 + (u : Nat)
  | n + 1, u, some x => if qB (told N P m o u x) = true then cwx N P m o n (u + 1) (nx (nC N) o (if P.2.2.2 u = 0 then x.1 + 1 else x.1) x.2) else 1 + (u : Nat)
noncomputable def upC (C : Nat) (o : Nat → Nat) : Nat → bT → Option eV
  | 0, _ => none
  | i + 1, T => nx C o i T
theorem nx_at (C : Nat) (o : Nat → Nat) (i : Nat) (T : bT) (hT : T (o i) = -1) (c : Nat) : nx C o i (tSet T (o i) ((c : Int) - 1)) = if c < C then some (i, tSet T (o i) (c : Nat)) else upC C o i T := by
  have hv : tSet T (o i) ((c : Int) - 1) (o i) = (c : Int) - 1 := if_pos rfl
  have e1 : tSet (tSet T (o i) ((c : Int) - 1)) (o i) (c : Nat) = tSet T (o i) (c : Nat) := tSet_tSet _ _ _ _
  have e2 : tSet (tSet T (o i) ((c : Int) - 1)) (o i) (-1) = T := by rw [tSet_tSet, tSet_self hT]
  cases i with
  | zero =>
    unfold nx
    rw [hv, Int.sub_add_cancel]
    by_cases z : c < C
    · rw [if_pos (by omega), if_pos z, e1]
    · rw [if_neg (by omega), if_neg z]
      rfl
  | succ i =>
    unfold nx
    rw [hv, Int.sub_add_cancel]
    by_cases z : c < C
    · rw [if_pos (by omega), if_pos z, e1]
    · rw [if_neg (by omega), if_neg z, e2]
      rfl
theorem nx_at1 (C : Nat) (o : Nat → Nat) (i : Nat) (T : bT) (hT : T (o i) = -1) (c : Nat) : nx C o i (tSet T (o i) (c : Nat)) = if c + 1 < C then some (i, tSet T (o i) ((c + 1 : Nat) : Int)) else upC C o i T := by
  have := nx_at C o i T hT (c + 1)
  rw [show (((c + 1 : Nat) : Int) - 1) = (c : Nat) by omega] at this
  exact this
theorem flw_cw (N : nN) (P : pRw) (m : Nat) (o : Nat → Nat) (hoj : ∀ i j, i < m → j < m → o i = o j → i = j) : ∀ (j i : Nat) (T : bT) (u : Nat), i + (j + 1) = m → (∀ a, i ≤ a → a < m → T (o a) = -1) → u ≤ P.1 →
    cwx N P m o (P.1 - u) u (nx (nC N) o i T) = (if (flw N P m o (j + 1) i T u).1 = true then cwx N P m o (P.1 - (flw N P m o (j + 1) i T u).2) (flw N P m o (j + 1) i T u).2 (upC (nC N) o i T) else 1 + ((flw N P m o (j + 1) i T u).2 : Nat)) := by
  intro j
  have one : ∀ (j i : Nat) (T : bT), i + (j + 1) = m → (∀ a, i ≤ a → a < m → T (o a) = -1) →
      (i + 1 < m → ∀ (T1 : bT) (u1 : Nat), (∀ a, i + 1 ≤ a → a < m → T1 (o a) = -1) → u1 ≤ P.1 → cwx N P m o (P.1 - u1) u1 (nx (nC N) o (i + 1) T1) = (if (flw N P m o j (i + 1) T1 u1).1 = true then cwx N P m o (P.1 - (flw N P m o j (i + 1) T1 u1).2) (flw N P m o j (i + 1) T1 u1).2 (upC (nC N) o (i + 1) T1) else 1 + ((flw N P m o j (i + 1) T1 u1).2 : Nat))) →
      ∀ (n c u : Nat), c + n = nC N → u ≤ P.1 → cwx N P m o (P.1 - u) u (if c < nC N then some (i, tSet T (o i) (c : Nat)) else upC (nC N) o i T) = (if (fl1 (fun c u => flS N P m o (fun u => flw N P m o j (i + 1) (tSet T (o i) (c : Nat)) u) i T c u) n c u).1 = true then cwx N P m o (P.1 - (fl1 (fun c u => flS N P m o (fun u => flw N P m o j (i + 1) (tSet T (o i) (c : Nat)) u) i T c u) n c u).2) (fl1 (fun c u => flS N P m o (fun u => flw N P m o j (i + 1) (tSet T (o i) (c : Nat)) u) i T c u) n c u).2 (upC (nC N) o i T) else 1 + ((fl1 (fun c u => flS N P m o (fun u => flw N P m o j (i + 1) (tSet T (o i) (c : Nat)) u) i T c u) n c u).2 : Nat)) := by
    intro j i T hij hb rec n
    have hTi := hb i (Nat.le_refl _) (by omega)
    induction n with
    | zero =>
      intro c u hc hu
      rw [if_neg (by omega)]
      exact (if_pos rfl).symm
    | succ n ihn =>
      intro c u hc hu
      rw [if_pos (by omega)]
      have FS : ∀ r : Bool × Nat, flS N P m o (fun u => flw N P m o j (i + 1) (tSet T (o i) (c : Nat)) u) i T c u = r → fl1 (fun c u => flS N P m o (fun u => flw N P m o j (i + 1) (tSet T (o i) (c : Nat)) u) i T c u) (n + 1) c u = (if r.1 = true then fl1 (fun c u => flS N P m o (fun u => flw N P m o j (i + 1) (tSet T (o i) (c : Nat)) u) i T c u) n (c + 1) r.2 else (false, r.2)) := fun r z => by
        rw [← z]
        rfl
      have hv : tSet T (o i) (c : Nat) (o i) = (c : Nat) := if_pos rfl
      by_cases hlt : u < P.1
      · obtain ⟨k, hk⟩ : ∃ k, P.1 - u = k + 1 := ⟨P.1 - u - 1, by omega⟩
        have hk1 : k = P.1 - (u + 1) := by omega
        rw [hk]
        show (if qB (told N P m o u (i, tSet T (o i) (c : Nat))) = true then cwx N P m o k (u + 1) (nx (nC N) o (if P.2.2.2 u = 0 then i + 1 else i) (tSet T (o i) (c : Nat))) else 1 + ((u : Nat) : Int)) = _
        have tIff : told N P m o u (i, tSet T (o i) (c : Nat)) ↔ (P.2.1 u = (o i : Nat) ∧ P.2.2.1 u = (c : Nat)) ∧ (if P.2.2.2 u = 0 then i + 1 < m else justP (nSetT N (tSet T (o i) (c : Nat))) c (o i) (P.2.2.2 u).toNat) := by
          show (P.2.1 u = (o i : Nat) ∧ P.2.2.1 u = tSet T (o i) (c : Nat) (o i) ∧ (if P.2.2.2 u = 0 then i + 1 < m else justP (nSetT N (tSet T (o i) (c : Nat))) (tSet T (o i) (c : Nat) (o i)).toNat (o i) (P.2.2.2 u).toNat)) ↔ _
          rw [hv, Int.toNat_natCast]
          exact ⟨fun ⟨a, b, c⟩ => ⟨⟨a, b⟩, c⟩, fun ⟨⟨a, b⟩, c⟩ => ⟨a, b, c⟩⟩
        by_cases hq : P.2.1 u = (o i : Nat) ∧ P.2.2.1 u = (c : Nat)
        · have hfl : flS N P m o (fun u => flw N P m o j (i + 1) (tSet T (o i) (c : Nat)) u) i T c u = (if P.2.2.2 u = 0 then (if i + 1 < m then flw N P m o j (i + 1) (tSet T (o i) (c : Nat)) (u + 1) else (false, u)) else if qB (justP (nSetT N (tSet T (o i) (c : Nat))) c (o i) (P.2.2.2 u).toNat) = true then (true, u + 1) else (false, u)) := if_pos (qB_t ⟨hlt, hq⟩)
          by_cases hB : P.2.2.2 u = 0
          · rw [if_pos hB] at hfl tIff ⊢
            by_cases hi1 : i + 1 < m
            · rw [if_pos hi1] at hfl
              rw [if_pos (qB_t (tIff.mpr ⟨hq, hi1⟩)), hk1, rec hi1 _ (u + 1) (fun a ha ham => by
                show (if o a = o i then _ else T (o a)) = -1
                rw [if_neg (fun w => by have := hoj a i ham (by omega) w; omega)]
                exact hb a (by omega) ham) (by omega), FS _ hfl]
              have bd := flw_bd N P m o j (i + 1) (tSet T (o i) (c : Nat)) (u + 1) (by omega)
              by_cases ok : (flw N P m o j (i + 1) (tSet T (o i) (c : Nat)) (u + 1)).1 = true
              · rw [if_pos ok, if_pos ok]
                show cwx N P m o _ _ (nx (nC N) o i (tSet T (o i) (c : Nat))) = _
                rw [nx_at1 (nC N) o i T hTi c]
                exact ihn (c + 1) _ (by omega) bd.2
              · rw [if_neg ok, if_neg ok]
                exact (if_neg (fun y => by cases y)).symm
            · rw [if_neg hi1] at hfl
              rw [if_neg (qB_no (fun w => hi1 (tIff.mp w).2)), FS _ hfl]
              rfl
          · rw [if_neg hB] at hfl tIff ⊢
            by_cases hj : justP (nSetT N (tSet T (o i) (c : Nat))) c (o i) (P.2.2.2 u).toNat
            · rw [if_pos (qB_t hj)] at hfl
              rw [if_pos (qB_t (tIff.mpr ⟨hq, hj⟩)), hk1, FS _ hfl, if_pos rfl, nx_at1 (nC N) o i T hTi c]
              exact ihn (c + 1) (u + 1) (by omega) (by omega)
            · rw [if_neg (qB_no hj)] at hfl
              rw [if_neg (qB_no (fun w => hj (tIff.mp w).2)), FS _ hfl]
              rfl
        · have hfl : flS N P m o (fun u => flw N P m o j (i + 1) (tSet T (o i) (c : Nat)) u) i T c u = (false, u) := if_neg (qB_no (fun w => hq w.2))
          rw [if_neg (qB_no (fun w => hq (tIff.mp w).1)), FS _ hfl]
          rfl
      · have hfl : flS N P m o (fun u => flw N P m o j (i + 1) (tSet T (o i) (c : Nat)) u) i T c u = (false, u) := if_neg (qB_no (fun w => hlt w.1))
        rw [FS _ hfl, show P.1 - u = 0 by omega]
        rfl
  have start : ∀ (i : Nat) (T : bT), T (o i) = -1 → nx (nC N) o i T = (if 0 < nC N then some (i, tSet T (o i) ((0 : Nat) : Int)) else upC (nC N) o i T) := fun i T h => by
    have := nx_at (nC N) o i T h 0
    rw [show (((0 : Nat) : Int) - 1) = -1 from rfl, tSet_self h] at this
    exact this
  induction j with
  | zero =>
    intro i T u hij hb hu
    rw [start i T (hb i (Nat.le_refl _) (by omega))]
    exact one 0 i T hij hb (fun z => by omega) (nC N) 0 u (by omega) hu
  | succ j ih =>
    intro i T u hij hb hu
    rw [start i T (hb i (Nat.le_refl _) (by omega))]
    exact one (j + 1) i T hij hb (fun _ T1 u1 h1 h2 => ih (i + 1) T1 u1 (by omega) h1 h2) (nC N) 0 u (by omega) hu
