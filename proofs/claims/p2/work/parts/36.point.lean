/-- the model's search, as far as it is -/
def sSt (h : mMem) (T : Nat → Int) (mm : Nat) (es : List Nat) (ms : Nat) (md : Int) : Prop := h 9 0 9 = es.length ∧ (∀ k, k < es.length → h 45 0 k = es.getD k 0) ∧ h 9 0 10 = ms ∧ h 9 0 11 = md ∧ h 9 0 12 = mm ∧ ∀ k, k < 66 → h 42 0 k = T k
def farE (h h' : mMem) : Prop := ∀ (t : Nat) (i : Fin 8) (k : Nat), ¬ ((t = 45 ∧ h 9 0 9 ≤ (k : Int)) ∨ (t = 9 ∧ (k = 9 ∨ k = 10 ∨ k = 11))) → h' t i k = h t i k
theorem farE.rf {h : mMem} : farE h h := fun _ _ _ _ => rfl
theorem farE.tr {h h1 h2 : mMem} (le : h 9 0 9 ≤ h1 9 0 9) (a : farE h h1) (b : farE h1 h2) : farE h h2 := fun t i k z => (b t i k (fun y => z (y.imp_left (fun w => ⟨w.1, Int.le_trans le w.2⟩)))).trans (a t i k z)
theorem msN_app (T : Nat → Int) (c : Int) : ∀ (a b : List Nat), msN T c (a ++ b) = msN T c a + msN T c b
  | [], b => by show msN T c b = 0 + _; omega
  | e :: a, b => by
    show (if T e = c then 0 else 1) + msN T c (a ++ b) = (if T e = c then 0 else 1) + msN T c a + msN T c b
    rw [msN_app T c a b]
    omega
theorem msD_app (T : Nat → Int) (c : Int) : ∀ (a b : List Nat) (m : Int), msD T c m (a ++ b) = msD T c (msD T c m a) b
  | [], b, m => rfl
  | e :: a, b, m => msD_app T c a b _
noncomputable def mBc (p : Prop) : Int := @mB p (Classical.propDecidable p)
theorem mBc_01 (p : Prop) : mBc p = 0 ∨ mBc p = 1 := @mB_01 p (Classical.propDecidable p)
theorem mBc_t {p : Prop} (h : p) : mBc p = 1 := @mB_t p (Classical.propDecidable p) h
theorem mBc_f {p : Prop} (h : ¬ p) : mBc p = 0 := @mB_f p (Classical.propDecidable p) h
theorem mBc_of (p : Prop) [Decidable p] : mBc p = mB p := @mB_congr p p (Classical.propDecidable p) _ Iff.rfl
theorem mBc_congr {p q : Prop} (h : p ↔ q) : mBc p = mBc q := @mB_congr p q (Classical.propDecidable p) (Classical.propDecidable q) h
theorem mBc_eq0 {p : Prop} : mBc p = 0 ↔ ¬ p := @mB_eq0 p (Classical.propDecidable p)
theorem mBc_ne0 {p : Prop} : mBc p ≠ 0 ↔ p := @mB_ne0 p (Classical.propDecidable p)
section Pt
variable {l : Launch} {g : mG} {d : Nat}
theorem getD_app1 (es : List Nat) (e : Nat) : (es ++ [e]).getD es.length 0 = e := by
  rw [List.getD_eq_getElem?_getD, List.getElem?_append_right (Nat.le_refl _), Nat.sub_self]
  rfl
theorem getD_app2 (es : List Nat) (e k : Nat) (hk : k < es.length) : (es ++ [e]).getD k 0 = es.getD k 0 := by
  rw [List.getD_eq_getElem?_getD, List.getElem?_append_left hk, ← List.getD_eq_getElem?_getD]
/-- one join more -/
theorem s_addEdge (i j : Nat) (c : Int) (T : Nat → Int) (mm ms : Nat) (es : List Nat) (md : Int) (hi : i < 12) (hj : j < 12) (hij : i ≠ j) (hem : es.length < 20) (hms : ms < 100) (h : mMem) (e : sSt h T mm es ms md) :
    mCon l g n_M_addEdge (d + 1) [.inr (9, 0), .inl c, .inl i, .inl j] h (fun r h' => r = some (.inl (mBc (ms + msN T c [jn i j] ≤ mm))) ∧ farE h h' ∧ sSt h' T mm (es ++ [jn i j]) (ms + msN T c [jn i j]) (msD T c md [jn i j])) := by
  obtain ⟨a1, a2, a3, a4, a5, a6⟩ := e
  refine mCon_mono (c_M_addEdge i j c T es.length ms mm hi hj hij hem hms h a1 a3 a5 a6) ?_
  rintro v h' ⟨rfl, rfl⟩
  rw [mBc_of]
  refine ⟨rfl, fun t x k hz => ?_, ?_⟩
  · unfold mAE
    split
    · rw [mSet_no (fun z => hz (Or.inr ⟨z.1, Or.inl z.2.2⟩)), mSet_no (fun z => hz (Or.inl ⟨z.1, by rw [a1, z.2.2]; exact Int.le_refl _⟩))]
    · rw [mSet_no (fun z => hz (Or.inr ⟨z.1, Or.inr (Or.inr z.2.2)⟩)), mSet_no (fun z => hz (Or.inr ⟨z.1, Or.inr (Or.inl z.2.2)⟩)), mSet_no (fun z => hz (Or.inr ⟨z.1, Or.inl z.2.2⟩)), mSet_no (fun z => hz (Or.inl ⟨z.1, by rw [a1, z.2.2]; exact Int.le_refl _⟩))]
  · have hlen : (es ++ [jn i j]).length = es.length + 1 := by simp
    by_cases hT : T (jn i j) = c
    · have hN : msN T c [jn i j] = 0 := by show (if T (jn i j) = c then 0 else 1) + 0 = 0; rw [if_pos hT]
      have hD : msD T c md [jn i j] = md := by show (if T (jn i j) = c then md else _) = md; rw [if_pos hT]
      rw [hN, hD]
      unfold mAE
      rw [if_pos hT]
      refine ⟨?_, fun k hk => ?_, ?_, ?_, ?_, fun k hk => ?_⟩
      · rw [mSet_at, hlen]
      · rw [mSet_no (by simp)]
        by_cases hq : k = es.length
        · rw [hq, mSet_at, getD_app1]
        · rw [mSet_no (fun z => hq z.2.2), getD_app2 _ _ _ (by omega)]
          exact a2 k (by omega)
      · rw [mSet_no (by simp), mSet_no (by simp)]; exact a3
      · rw [mSet_no (by simp), mSet_no (by simp)]; exact a4
      · rw [mSet_no (by simp), mSet_no (by simp)]; exact a5
      · rw [mSet_no (by simp), mSet_no (by simp)]; exact a6 k hk
    · have hN : msN T c [jn i j] = 1 := by show (if T (jn i j) = c then 0 else 1) + 0 = 1; rw [if_neg hT]
      have hD : msD T c md [jn i j] = (jn i j : Nat) := by show (if T (jn i j) = c then md else _) = _; rw [if_neg hT]
      rw [hN, hD]
      unfold mAE
      rw [if_neg hT]
      refine ⟨?_, fun k hk => ?_, ?_, ?_, ?_, fun k hk => ?_⟩
      · rw [mSet_no (by simp), mSet_no (by simp), mSet_at, hlen]
      · rw [mSet_no (by simp), mSet_no (by simp), mSet_no (by simp)]
        by_cases hq : k = es.length
        · rw [hq, mSet_at, getD_app1]
        · rw [mSet_no (fun z => hq z.2.2), getD_app2 _ _ _ (by omega)]
          exact a2 k (by omega)
      · rw [mSet_no (by simp), mSet_at]
      · rw [mSet_at]
      · rw [mSet_no (by simp), mSet_no (by simp), mSet_no (by simp), mSet_no (by simp)]; exact a5
      · rw [mSet_no (by simp), mSet_no (by simp), mSet_no (by simp), mSet_no (by simp)]; exact a6 k hk
end Pt
