/-! check: how far the rows of a proof follow the tries -/
noncomputable def fl1 (F : Nat → Nat → Bool × Nat) : Nat → Nat → Nat → Bool × Nat
  | 0, _, u => (true, u)
  | n + 1, c, u => if (F c u).1 = true then fl1 F n (c + 1) (F c u).2 else (false, (F c u).2)
abbrev pRw : Type := Nat × (Nat → Int) × (Nat → Int) × (Nat → Int)
noncomputable def flS (N : nN) (P : pRw) (m : Nat) (o : Nat → Nat) (rc : Nat → Bool × Nat) (i : Nat) (T : bT) (c u : Nat) : Bool × Nat :=
  if qB (u < P.1 ∧ P.2.1 u = (o i : Nat) ∧ P.2.2.1 u = (c : Nat)) = true then
    (if P.2.2.2 u = 0 then (if i + 1 < m then rc (u + 1) else (false, u))
     else if qB (justP (nSetT N (tSet T (o i) (c : Nat))) c (o i) (P.2.2.2 u).toNat) = true then (true, u + 1) else (false, u)) else (false, u)
noncomputable def flw (N : nN) (P : pRw) (m : Nat) (o : Nat → Nat) : Nat → Nat → bT → Nat → Bool × Nat
  | 0, _, _, u => (true, u)
  | j + 1, i, T, u => fl1 (fun c u => flS N P m o (fun u => flw N P m o j (i + 1) (tSet T (o i) (c : Nat)) u) i T c u) (nC N) 0 u
theorem fl1_bd {F : Nat → Nat → Bool × Nat} {s : Nat} (hF : ∀ c u, u ≤ s → u ≤ (F c u).2 ∧ (F c u).2 ≤ s) : ∀ (n c u : Nat), u ≤ s → u ≤ (fl1 F n c u).2 ∧ (fl1 F n c u).2 ≤ s
  | 0, c, u, h => ⟨Nat.le_refl _, h⟩
  | n + 1, c, u, h => by
    have h1 := hF c u h
    unfold fl1
    split
    · have := fl1_bd hF n (c + 1) (F c u).2 h1.2
      exact ⟨Nat.le_trans h1.1 this.1, this.2⟩
    · exact h1
theorem flS_bd {N : nN} {P : pRw} {m : Nat} {o : Nat → Nat} {rc : Nat → Bool × Nat} (hr : ∀ u, u ≤ P.1 → u ≤ (rc u).2 ∧ (rc u).2 ≤ P.1) (i : Nat) (T : bT) (c u : Nat) (h : u ≤ P.1) : u ≤ (flS N P m o rc i T c u).2 ∧ (flS N P m o rc i T c u).2 ≤ P.1 := by
  unfold flS
  split
  · next hq =>
    have hq := (qB_iff.mp hq).1
    split
    · split
      · have := hr (u + 1) (by omega)
        exact ⟨by omega, this.2⟩
      · exact ⟨Nat.le_refl _, h⟩
    · split
      · exact ⟨Nat.le_succ _, hq⟩
      · exact ⟨Nat.le_refl _, h⟩
  · exact ⟨Nat.le_refl _, h⟩
theorem flw_bd (N : nN) (P : pRw) (m : Nat) (o : Nat → Nat) : ∀ (j i : Nat) (T : bT) (u : Nat), u ≤ P.1 → u ≤ (flw N P m o j i T u).2 ∧ (flw N P m o j i T u).2 ≤ P.1
  | 0, _, _, u, h => ⟨Nat.le_refl _, h⟩
  | j + 1, i, T, u, h => fl1_bd (fun c u h => flS_bd (fun u h => flw_bd N P m o j (i + 1) _ u h) i T c u h) (nC N) 0 u h
section Follows
variable {l : Launch} {g : mG} {d : Nat}
def farL (h h' : mMem) : Prop := ∀ (t : Nat) (i : Fin 8) (k : Nat), ¬ (t = 42 ∨ (44 ≤ t ∧ t ≤ 48) ∨ (t = 9 ∧ ((9 ≤ k ∧ k ≤ 15) ∨ k = 17 ∨ k = 20 ∨ k = 21 ∨ k = 46))) → h' t i k = h t i k
theorem farL.rf {h : mMem} : farL h h := fun _ _ _ _ => rfl
theorem farL.tr {h h1 h2 : mMem} (a : farL h h1) (b : farL h1 h2) : farL h h2 := fun t j k z => (b t j k z).trans (a t j k z)
theorem farL.ofX {h h1 : mMem} (a : farX h h1) : farL h h1 := fun t j k z => a t j k (fun y => z (by omega))
abbrev fwK (N : nN) (T : bT) (r : Bool × Nat) (h : mMem) : Option mRV → mMem → Prop := fun v h' => v = some (.inl (mBc (r.1 = true))) ∧ h' 9 0 46 = (r.2 : Nat) ∧ (r.1 = true → isM h' (nSetT N T)) ∧ farL h h'
theorem s_follows (N : nN) (m : Nat) (o : Nat → Nat) (ho : opO N m o) (hmono : ∀ a b, a < b → b < m → o a < o b) (hP : nP N ≤ 12) (hC : 2 ≤ nC N ∧ nC N ≤ 3) (P : pRw) (hP1 : P.1 ≤ 500) (hPb : ∀ u, u < 500 → 0 ≤ P.2.2.2 u ∧ P.2.2.2 u < 4096) :
    ∀ (j i : Nat) (T : bT) (u : Nat) (h : mMem), i + (j + 1) = m → nOk (nSetT N T) → bareI N m o i T → isM h (nSetT N T) → sPm h P → h 9 0 46 = (u : Nat) → u ≤ P.1 →
    mCon l g n_M_follows (d + 13 + j) [.inr (9, 0)] h (fwK N T (flw N P m o (j + 1) i T u) h) := by
  have h66 := js_le (nP N) (by omega)
  have hm66 := ho.1
  -- one depth, over any contract of the depth below
  have one : ∀ (dd j i : Nat) (T : bT) (u : Nat) (h : mMem), d + 12 ≤ dd → i + (j + 1) = m → nOk (nSetT N T) → bareI N m o i T → isM h (nSetT N T) → sPm h P → h 9 0 46 = (u : Nat) → u ≤ P.1 →
      (i + 1 < m → ∀ (T1 : bT) (u1 : Nat) (h1 : mMem), nOk (nSetT N T1) → bareI N m o (i + 1) T1 → isM h1 (nSetT N T1) → sPm h1 P → h1 9 0 46 = (u1 : Nat) → u1 ≤ P.1 → mCon l g n_M_follows dd [.inr (9, 0)] h1 (fwK N T1 (flw N P m o j (i + 1) T1 u1) h1)) →
      mCon l g n_M_follows (dd + 1) [.inr (9, 0)] h (fwK N T (flw N P m o (j + 1) i T u) h) := by
    intro dd j i T u h hdd hij oT hb e eP e46 hu rec
    have him : i < m := by omega
    have hoi := ho.2.1 i him
    have hTi : T (o i) = -1 := (hb (o i) hoi).mpr ⟨i, Nat.le_refl _, him, rfl⟩
    have loop : ∀ (n c u1 : Nat) (x3 : Option mRV) (h1 : mMem), c + n = nC N → isM h1 (nSetT N T) → h1 9 0 46 = (u1 : Nat) → u1 ≤ P.1 → farL h h1 →
        mGo l g (mMt n_M_follows) (dd + 1) 7 [some (.inr (9, 0)), some (.inl (o i : Nat)), some (.inl c), x3] [] h1 (fwK N T (fl1 (fun c u => flS N P m o (fun u => flw N P m o j (i + 1) (tSet T (o i) (c : Nat)) u) i T c u) n c u1) h) := by
      intro n
      induction n with
      | zero =>
        intro c u1 x3 h1 hc e1 a46 hu1 f1
        refine mGo_wp h_M_follows 120 [7] ?_
        have e11 : h1 9 0 1 = ((nC N : Nat) : Int) := e1.2.1
        refine ⟨fun _ => ⟨Or.inr rfl, ?_, a46, fun _ => e1, f1⟩, fun z => by rw [e11] at z; omega⟩
        rw [mBc_t (show (fl1 (fun c u => flS N P m o (fun u => flw N P m o j (i + 1) (tSet T (o i) (c : Nat)) u) i T c u) 0 c u1).1 = true from rfl)]
      | succ n ihn =>
        intro c u1 x3 h1 hc e1 a46 hu1 f1
        have e11 : h1 9 0 1 = ((nC N : Nat) : Int) := e1.2.1
        have a43 : h1 9 0 43 = (P.1 : Nat) := (f1 _ _ _ (by decide)).trans eP.1
        have w3 : mWr (3 * h1 9 0 46) = ((3 * u1 : Nat) : Int) := by rw [a46, mWr_of ⟨by omega, by omega⟩]; omega
        have rows : ∀ q, q < 500 → h1 55 0 (3 * q) = P.2.1 q ∧ h1 55 0 (3 * q + 1) = P.2.2.1 q ∧ h1 55 0 (3 * q + 2) = P.2.2.2 q := fun q hq => by
          rw [f1 _ _ _ (by omega), f1 _ _ _ (by omega), f1 _ _ _ (by omega)]
          exact eP.2 q hq
        have FS : ∀ r : Bool × Nat, flS N P m o (fun u => flw N P m o j (i + 1) (tSet T (o i) (c : Nat)) u) i T c u1 = r → fl1 (fun c u => flS N P m o (fun u => flw N P m o j (i + 1) (tSet T (o i) (c : Nat)) u) i T c u) (n + 1) c u1 = (if r.1 = true then fl1 (fun c u => flS N P m o (fun u => flw N P m o j (i + 1) (tSet T (o i) (c : Nat)) u) i T c u) n (c + 1) r.2 else (false, r.2)) := fun r z => by
          rw [← z]
          rfl
        -- a failed step
        have badK : ∀ (h5 : mMem) (r : Bool × Nat), flS N P m o (fun u => flw N P m o j (i + 1) (tSet T (o i) (c : Nat)) u) i T c u1 = r → r.1 = false → h5 9 0 46 = (r.2 : Nat) → farL h h5 → fwK N T (fl1 (fun c u => flS N P m o (fun u => flw N P m o j (i + 1) (tSet T (o i) (c : Nat)) u) i T c u) (n + 1) c u1) h (some (.inl 0)) h5 := fun h5 r z z1 z2 z3 => by
          unfold fwK
          rw [FS r z, if_neg (by rw [z1]; decide)]
          exact ⟨by rw [mBc_f (show ¬ ((false : Bool) = true) by decide)], z2, (fun y => by cases y), z3⟩
        -- a good step, from 152 on
        have tail : ∀ (h5 : mMem) (u5 : Nat) (y3 : Option mRV), flS N P m o (fun u => flw N P m o j (i + 1) (tSet T (o i) (c : Nat)) u) i T c u1 = (true, u5) → isM h5 (nSetT N (tSet T (o i) (c : Nat))) → h5 9 0 46 = (u5 : Nat) → u5 ≤ P.1 → farL h h5 → mGo l g (mMt n_M_follows) (dd + 1) 152 [some (.inr (9, 0)), some (.inl (o i : Nat)), some (.inl c), y3] [] h5 (fwK N T (fl1 (fun c u => flS N P m o (fun u => flw N P m o j (i + 1) (tSet T (o i) (c : Nat)) u) i T c u) (n + 1) c u1) h) := by
          intro h5 u5 y3 z e5 b46 hu5 f5
          refine mGo_wp h_M_follows 120 [7] ?_
          refine ⟨⟨by omega, by omega⟩, ?_⟩
          show mGo l g _ _ 7 [_, _, some (.inl (mWr ((c : Int) + 1))), _] [] (mSet h5 42 0 (Int.toNat ((o i : Nat) : Int)) (-1)) _
          rw [Int.toNat_natCast, mWr_of ⟨by omega, by omega⟩, FS _ z, if_pos rfl]
          exact ihn (c + 1) u5 y3 _ (by omega) (isM_back e5 hTi) ((mSet_no (by simp)).trans b46) hu5 (f5.tr (fun t a q w => mSet_no (fun y => w (by omega))))
        have flno : ¬ (u1 < P.1 ∧ P.2.1 u1 = (o i : Nat) ∧ P.2.2.1 u1 = (c : Nat)) → flS N P m o (fun u => flw N P m o j (i + 1) (tSet T (o i) (c : Nat)) u) i T c u1 = (false, u1) := fun z => if_neg (qB_no z)
        refine mGo_wp h_M_follows 120 [7, 81] ?_
        refine ⟨fun z => by rw [e11] at z; omega, fun _ => ⟨fun z => ?_, fun z => ?_⟩⟩
        · rw [a46, a43] at z
          exact ⟨Or.inl rfl, badK h1 (false, u1) (flno (fun w => by have := w.1; omega)) rfl a46 f1⟩
        · rw [a46, a43] at z
          have hlt : u1 < P.1 := by omega
          have w31 : mWr (mWr (3 * h1 9 0 46) + 1) = ((3 * u1 + 1 : Nat) : Int) := by rw [w3, mWr_of ⟨by omega, by omega⟩]; omega
          obtain ⟨r1, r2, r3⟩ := rows u1 (by omega)
          refine ⟨⟨by rw [w3]; omega, by rw [w3]; omega⟩, ⟨fun z2 => ?_, fun z2 => ⟨⟨by rw [w31]; omega, by rw [w31]; omega⟩, ⟨fun z3 => ?_, fun z3 => ?_⟩⟩⟩⟩
          · rw [w3, Int.toNat_natCast, r1] at z2
            exact ⟨Or.inl rfl, badK h1 (false, u1) (flno (fun w => z2 w.2.1)) rfl a46 f1⟩
          · rw [w3, Int.toNat_natCast, r1] at z2
            rw [w31, Int.toNat_natCast, r2] at z3
            have hq : u1 < P.1 ∧ P.2.1 u1 = (o i : Nat) ∧ P.2.2.1 u1 = (c : Nat) := ⟨hlt, z2, z3⟩
            have w32 : mWr (mWr (3 * mSet h1 42 0 (Int.toNat ((o i : Nat) : Int)) (c : Int) 9 0 46) + 2) = ((3 * u1 + 2 : Nat) : Int) := by rw [mSet_no (by simp), w3, mWr_of ⟨by omega, by omega⟩]; omega
            refine ⟨⟨by omega, by omega⟩, ⟨by rw [w32]; omega, by rw [w32]; omega⟩, ?_⟩
            show mGo l g _ _ 81 [_, _, _, some (.inl (mSet h1 42 0 (Int.toNat ((o i : Nat) : Int)) (c : Int) 55 0 (Int.toNat (mWr (mWr (3 * mSet h1 42 0 (Int.toNat ((o i : Nat) : Int)) (c : Int) 9 0 46) + 2)))))] [] (mSet h1 42 0 (Int.toNat ((o i : Nat) : Int)) (c : Int)) _
            rw [w32, Int.toNat_natCast, Int.toNat_natCast, mSet_no (by simp), r3]
            have e2 : isM (mSet h1 42 0 (o i) (c : Int)) (nSetT N (tSet T (o i) (c : Nat))) := isM_tone e1 (o i) (c : Int)
            have o2 : nOk (nSetT N (tSet T (o i) (c : Nat))) := nOk_tone oT (k := o i) hoi ⟨by omega, by show (c : Int) < nC N; omega⟩
            have b46 : mSet h1 42 0 (o i) (c : Int) 9 0 46 = (u1 : Nat) := (mSet_no (by simp)).trans a46
            have f2 : farL h (mSet h1 42 0 (o i) (c : Int)) := f1.tr (fun t a q w => mSet_no (fun y => w (by omega)))
            have hfl : flS N P m o (fun u => flw N P m o j (i + 1) (tSet T (o i) (c : Nat)) u) i T c u1 = (if P.2.2.2 u1 = 0 then (if i + 1 < m then flw N P m o j (i + 1) (tSet T (o i) (c : Nat)) (u1 + 1) else (false, u1)) else if qB (justP (nSetT N (tSet T (o i) (c : Nat))) c (o i) (P.2.2.2 u1).toNat) = true then (true, u1 + 1) else (false, u1)) := if_pos (qB_t hq)
            have hPu := hPb u1 (by omega)
            refine mGo_wp h_M_follows 120 [152] ?_
            refine ⟨fun z4 => ?_, fun z4 => ?_⟩
            · rw [if_pos z4] at hfl
              have hb1 := bareI_next ho him hb c
              refine mCall_is (mCon_lift (show d + 1 ≤ dd by omega) (c_M_nextBare (d := d) N m o ho hmono (i + 1) _ o2 hb1 _ e2)) ?_
              by_cases hi1 : i + 1 < m
              · rw [if_pos hi1] at hfl ⊢
                refine ⟨fun _ => ?_, fun z => by omega⟩
                have w1 : mWr (mSet h1 42 0 (o i) (c : Int) 9 0 46 + 1) = ((u1 + 1 : Nat) : Int) := by rw [b46, mWr_of ⟨by omega, by omega⟩]; omega
                have f3 : farL (mSet h1 42 0 (o i) (c : Int)) (mSet (mSet h1 42 0 (o i) (c : Int)) 9 0 46 (mWr (mSet h1 42 0 (o i) (c : Int) 9 0 46 + 1))) := fun t a q w => mSet_no (fun y => w (by omega))
                have P3 : sPm (mSet (mSet h1 42 0 (o i) (c : Int)) 9 0 46 (mWr (mSet h1 42 0 (o i) (c : Int) 9 0 46 + 1))) P := by
                  refine ⟨((f2.tr f3) _ _ _ (by decide)).trans eP.1, fun q hq => ?_⟩
                  rw [(f2.tr f3) _ _ _ (by omega), (f2.tr f3) _ _ _ (by omega), (f2.tr f3) _ _ _ (by omega)]
                  exact eP.2 q hq
                refine mCall_on2 (rec hi1 _ (u1 + 1) _ o2 hb1 (isM_far9 e2 (by decide)) P3 ((mSet_at _ _ _ _ _).trans w1) (by omega)) ?_
                rintro r h5 ⟨rfl, p46, pM, f5⟩
                have bd := flw_bd N P m o j (i + 1) (tSet T (o i) (c : Nat)) (u1 + 1) (by omega)
                refine ⟨fun z5 => ?_, fun z5 => ?_⟩
                · have z5 := mBc_ne0.mp z5
                  exact tail h5 (flw N P m o j (i + 1) (tSet T (o i) (c : Nat)) (u1 + 1)).2 _ (by rw [hfl, ← z5]) (pM z5) p46 bd.2 (f2.tr (f3.tr f5))
                · have z5 := mBc_eq0.mp z5
                  exact ⟨Or.inl rfl, badK h5 _ hfl (by
                    cases hb : (flw N P m o j (i + 1) (tSet T (o i) (c : Nat)) (u1 + 1)).1 with
                    | false => rfl
                    | true => exact absurd hb z5) p46 (f2.tr (f3.tr f5))⟩
              · rw [if_neg hi1] at hfl ⊢
                refine ⟨fun z => absurd z (by decide), fun _ => ⟨Or.inl rfl, badK _ (false, u1) hfl rfl b46 f2⟩⟩
            · rw [if_neg z4] at hfl
              have e3 : isM (mSet (mSet (mSet h1 42 0 (o i) (c : Int)) 9 0 20 (P.2.2.2 u1)) 9 0 21 (o i : Nat)) (nSetT N (tSet T (o i) (c : Nat))) := isM_far9 (isM_far9 e2 (by decide)) (by decide)
              have f3 : farL (mSet h1 42 0 (o i) (c : Int)) (mSet (mSet (mSet h1 42 0 (o i) (c : Int)) 9 0 20 (P.2.2.2 u1)) 9 0 21 (o i : Nat)) := fun t a q w => by rw [mSet_no (fun y => w (by omega)), mSet_no (fun y => w (by omega))]
              refine mCall_on2 (mCon_lift (by omega) (look3 (d := d) c (by omega) (nSetT N (tSet T (o i) (c : Nat))) hP (o2.2.2.1 c (by omega)) (P.2.2.2 u1) (o i : Nat) _ e3 ((mSet_no (by simp)).trans (mSet_at _ _ _ _ _)) (mSet_at _ _ _ _ _))) ?_
              rintro r h5 ⟨rfl, p15, f5⟩
              have hj : (∃ x ∈ cpL (nSetT N (tSet T (o i) (c : Nat))) c 0, ((bitR x.1 x.1.length : Nat) : Int) = P.2.2.2 u1 ∧ ∃ e ∈ x.2, ((e : Nat) : Int) = (o i : Nat)) ↔ justP (nSetT N (tSet T (o i) (c : Nat))) c (o i) (P.2.2.2 u1).toNat := by
                refine ⟨fun ⟨x, hx, h1, e', he, h2⟩ => ⟨x, hx, by omega, ?_⟩, fun ⟨x, hx, h1, h2⟩ => ⟨x, hx, by omega, _, h2, rfl⟩⟩
                have : e' = o i := by omega
                rw [← this]
                exact he
              have e5 := isM_farX e3 f5
              have c46 : h5 9 0 46 = (u1 : Nat) := by
                rw [f5 _ _ _ (by decide), mSet_no (by simp), mSet_no (by simp)]
                exact b46
              have f25 := f2.tr (f3.tr (farL.ofX f5))
              refine ⟨fun z5 => ?_, fun z5 => ?_⟩
              · rw [p15] at z5
                rw [if_pos (qB_t (hj.mp (mBc_ne0.mp z5)))] at hfl
                have w1 : mWr (h5 9 0 46 + 1) = ((u1 + 1 : Nat) : Int) := by rw [c46, mWr_of ⟨by omega, by omega⟩]; omega
                exact tail (mSet h5 9 0 46 (mWr (h5 9 0 46 + 1))) (u1 + 1) _ hfl (isM_far9 e5 (by decide)) ((mSet_at _ _ _ _ _).trans w1) (by omega) (f25.tr (fun t a q w => mSet_no (fun y => w (by omega))))
              · rw [p15] at z5
                rw [if_neg (qB_no (fun w => mBc_eq0.mp z5 (hj.mpr w)))] at hfl
                exact ⟨Or.inl rfl, badK h5 (false, u1) hfl rfl c46 f25⟩
          · rw [w31, Int.toNat_natCast, r2] at z3
            exact ⟨Or.inl rfl, badK h1 (false, u1) (flno (fun w => z3 w.2.2)) rfl a46 f1⟩
    refine e_M_follows (fun hv hm => ?_)
    refine mGo_wp h_M_follows 120 [7] ?_
    refine mCall_is (mCon_lift (show d + 1 ≤ dd by omega) (c_M_nextBare (d := d) N m o ho hmono i T oT hb h e)) ?_
    rw [if_pos him]
    exact loop (nC N) 0 u none h (by omega) e e46 hu farL.rf
  intro j
  induction j with
  | zero =>
    intro i T u h hij oT hb e eP e46 hu
    exact one (d + 12) 0 i T u h (Nat.le_refl _) hij oT hb e eP e46 hu (fun z => by omega)
  | succ j ih =>
    intro i T u h hij oT hb e eP e46 hu
    exact one (d + 13 + j) (j + 1) i T u h (by omega) hij oT hb e eP e46 hu (fun _ T1 u1 h1 a1 a2 a3 a4 a5 a6 => ih (i + 1) T1 u1 h1 (by omega) a1 a2 a3 a4 a5 a6)
end Follows
