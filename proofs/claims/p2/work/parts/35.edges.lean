/-! the model's search for copies: what one point more brings -/
/-- the joins that point p brings to a row r, by the kind k and the length L of the whole row -/
def newE (k L : Nat) (r : List Nat) (p : Nat) : List Nat := match k with
  | 1 => r.map (fun q => jn q p)
  | 3 => if r.length = 0 then [] else [jn (r.getD 0 0) p]
  | 4 => if r.length = 0 then [] else if r.length = 1 then [jn (r.getD 0 0) p] else [jn (r.getD 0 0) p, jn (r.getD 1 0) p]
  | 5 => if r.length = 0 then [] else [jn (r.getD (r.length - 1) 0) p]
  | _ => if r.length = 0 then [] else if r.length = L - 1 then [jn (r.getD (r.length - 1) 0) p, jn p (r.getD 0 0)] else [jn (r.getD (r.length - 1) 0) p]
/-- whether the order lets point p follow -/
def ordP (k L : Nat) (r : List Nat) (p : Nat) : Prop := match k with
  | 1 => r.length = 0 ∨ r.getD (r.length - 1) 0 < p
  | 3 => r.length = 0 ∨ r.length = 1 ∨ r.getD (r.length - 1) 0 < p
  | 4 => r.length = 0 ∨ (r.length = 1 ∧ r.getD 0 0 < p) ∨ r.length = 2 ∨ (2 < r.length ∧ r.getD (r.length - 1) 0 < p)
  | 5 => r.length = 0 ∨ r.length ≠ L - 1 ∨ r.getD 0 0 < p
  | _ => r.length = 0 ∨ (r.getD 0 0 < p ∧ (r.length ≠ L - 1 ∨ r.getD 1 0 < p))
/-- how many joins of a list have not the colour c -/
def msN (T : Nat → Int) (c : Int) : List Nat → Nat
  | [] => 0
  | e :: es => (if T e = c then 0 else 1) + msN T c es
/-- the last of them, or what stood there -/
def msD (T : Nat → Int) (c : Int) (m : Int) : List Nat → Int
  | [] => m
  | e :: es => msD T c (if T e = c then m else e) es
/-- one join more in the model's search -/
def mAE (h : mMem) (T : Nat → Int) (c : Int) (em ms e : Nat) : mMem := if T e = c then mSet (mSet h 45 0 em e) 9 0 9 (em + 1 : Nat) else mSet (mSet (mSet (mSet h 45 0 em e) 9 0 9 (em + 1 : Nat)) 9 0 10 (ms + 1 : Nat)) 9 0 11 e
section Edges
variable {l : Launch} {g : mG} {d : Nat}
theorem c_M_addEdge (i j : Nat) (c : Int) (T : Nat → Int) (em ms mm : Nat) (hi : i < 12) (hj : j < 12) (hij : i ≠ j) (hem : em < 20) (hms : ms < 100) (h : mMem) (e1 : h 9 0 9 = em) (e2 : h 9 0 10 = ms) (e3 : h 9 0 12 = mm) (eT : ∀ k, k < 66 → h 42 0 k = T k) :
    mCon l g n_M_addEdge (d + 1) [.inr (9, 0), .inl c, .inl i, .inl j] h (mIs (some (.inl (mB (ms + msN T c [jn i j] ≤ mm)))) (mAE h T c em ms (jn i j))) := by
  refine e_M_addEdge (fun hv hm => ?_)
  refine mGo_wp h_M_addEdge 60 [28] ?_
  have hl := jn_lt i hi j hj hij
  have tail : ∀ (H : mMem) (x : Nat), H 9 0 10 = x → H 9 0 12 = mm → mGo l g (mMt n_M_addEdge) (d + 1) 55 [some (.inr (9, 0)), some (.inl c), some (.inl i), some (.inl j), some (.inl (jn i j : Nat))] [] H (mIs (some (.inl (mB (x ≤ mm)))) H) := by
    intro H x a b
    refine mGo_wp h_M_addEdge 60 [] ?_
    refine ⟨fun z => ?_, fun z => ?_⟩
    · rw [a, b] at z
      exact ⟨Or.inl rfl, by rw [mB_f (by omega)], rfl⟩
    · rw [a, b] at z
      exact ⟨Or.inr rfl, by rw [mB_t (by omega)], rfl⟩
  refine mCall_is (c_M_join i j hi hj h) ?_
  have w1 : mWr (mSet h 45 0 (Int.toNat (h 9 0 9)) ((jn i j : Nat) : Int) 9 0 9 + 1) = ((em + 1 : Nat) : Int) := by
    rw [mSet_no (by simp), e1, mWr_of ⟨by omega, by omega⟩]
    omega
  refine ⟨⟨by rw [e1]; omega, by rw [e1]; omega⟩, ?_⟩
  show mGo l g _ _ 28 [some (.inr (9, 0)), some (.inl c), some (.inl i), some (.inl j), some (.inl (jn i j : Nat))] [] (mSet (mSet h 45 0 (Int.toNat (h 9 0 9)) ((jn i j : Nat) : Int)) 9 0 9 (mWr (mSet h 45 0 (Int.toNat (h 9 0 9)) ((jn i j : Nat) : Int) 9 0 9 + 1))) _
  rw [w1, e1, Int.toNat_natCast]
  have rT : mSet (mSet h 45 0 em ((jn i j : Nat) : Int)) 9 0 9 ((em + 1 : Nat) : Int) 42 0 (Int.toNat ((jn i j : Nat) : Int)) = T (jn i j) := by
    rw [mSet_no (by simp), mSet_no (by simp), Int.toNat_natCast, eT _ hl]
  have r10 : mSet (mSet h 45 0 em ((jn i j : Nat) : Int)) 9 0 9 ((em + 1 : Nat) : Int) 9 0 10 = (ms : Int) := by
    rw [mSet_no (by simp), mSet_no (by simp), e2]
  have r12 : mSet (mSet h 45 0 em ((jn i j : Nat) : Int)) 9 0 9 ((em + 1 : Nat) : Int) 9 0 12 = (mm : Int) := by
    rw [mSet_no (by simp), mSet_no (by simp), e3]
  refine mGo_wp h_M_addEdge 60 [55] ?_
  refine ⟨⟨by omega, by omega⟩, ⟨fun z => ?_, fun z => ?_⟩⟩
  · rw [rT] at z
    have hN : msN T c [jn i j] = 0 := by
      show (if T (jn i j) = c then 0 else 1) + 0 = 0
      rw [if_pos z]
    rw [hN]
    unfold mAE
    rw [if_pos z]
    exact tail _ ms r10 r12
  · rw [rT] at z
    have hN : msN T c [jn i j] = 1 := by
      show (if T (jn i j) = c then 0 else 1) + 0 = 1
      rw [if_neg z]
    rw [hN]
    unfold mAE
    rw [if_neg z]
    have w2 : mWr (mSet (mSet h 45 0 em ((jn i j : Nat) : Int)) 9 0 9 ((em + 1 : Nat) : Int) 9 0 10 + 1) = ((ms + 1 : Nat) : Int) := by
      rw [r10, mWr_of ⟨by omega, by omega⟩]
      omega
    show mGo l g _ _ 55 _ [] (mSet (mSet (mSet (mSet h 45 0 em ((jn i j : Nat) : Int)) 9 0 9 ((em + 1 : Nat) : Int)) 9 0 10 (mWr (mSet (mSet h 45 0 em ((jn i j : Nat) : Int)) 9 0 9 ((em + 1 : Nat) : Int) 9 0 10 + 1))) 9 0 11 ((jn i j : Nat) : Int)) _
    rw [w2]
    refine tail _ (ms + 1) ?_ ?_
    · rw [mSet_no (by simp), mSet_at]
    · rw [mSet_no (by simp), mSet_no (by simp), r12]
end Edges
