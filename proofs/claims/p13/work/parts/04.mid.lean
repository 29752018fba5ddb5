/-! the middle machine: whole numbers and cells by tag; a step's meaning as a condition -/
abbrev mRef : Type := Nat × Fin 8
abbrev mRV : Type := Int ⊕ mRef
abbrev mMem : Type := Nat → Fin 8 → Nat → Int
abbrev mIns : Type := Nat × List Nat × List Int
abbrev mCode : Type := List (Nat × mIns × Nat)
abbrev mXs : Type := List (Option mRV)
abbrev mFd : Type := Option (Nat × Option (Fin 8))
abbrev mG : Type := va_G × (ClassId × ClassId × ClassId) × (mRef → Nat)
def mIr (x : Int) : Prop := -2147483648 ≤ x ∧ x < 2147483648
def mWr (x : Int) : Int := (Int32.ofInt x).toInt
theorem mIr_to (x : Int32) : mIr x.toInt := ⟨Int32.le_toInt x, Int32.toInt_lt x⟩
theorem mWr_ir (x : Int) : mIr (mWr x) := mIr_to _
theorem mTo {x : Int} (h : mIr x) : (Int32.ofInt x).toInt = x := Int32.toInt_ofInt_of_le h.1 h.2
theorem mWr_of {x : Int} (h : mIr x) : mWr x = x := mTo h
theorem mOf_wr (x : Int) : Int32.ofInt (mWr x) = Int32.ofInt x := Int32.ofInt_toInt _
theorem mInj {x y : Int} (hx : mIr x) (hy : mIr y) : Int32.ofInt x = Int32.ofInt y ↔ x = y := by
  rw [← Int32.toInt_inj, mTo hx, mTo hy]
theorem mLt {x y : Int} (hx : mIr x) (hy : mIr y) : Int32.ofInt x < Int32.ofInt y ↔ x < y := by
  rw [Int32.lt_iff_toInt_lt, mTo hx, mTo hy]
theorem mLe {x y : Int} (hx : mIr x) (hy : mIr y) : Int32.ofInt x ≤ Int32.ofInt y ↔ x ≤ y := by
  rw [Int32.le_iff_toInt_le, mTo hx, mTo hy]
theorem mNat {x : Int} (hx : mIr x) : (Int32.ofInt x).toNatClampNeg = x.toNat := Int32.toNatClampNeg_ofInt_of_le hx.1 hx.2
theorem mIn_of {x : Int} {n : Nat} (hx : mIr x) (h0 : 0 ≤ x) (h1 : x < n) : vp_in (Int32.ofInt x) n := by
  intro h
  rw [mNat hx] at h
  rcases h with h | h
  · have h2 : Int32.ofInt x < Int32.ofInt 0 := h
    rw [mLt hx ⟨by decide, by decide⟩] at h2
    omega
  · omega
def mDiv (a b : Int) : Int := (Int32.ofInt a / Int32.ofInt b).toInt
def mRem (a b : Int) : Int := (Int32.ofInt a - Int32.ofInt a / Int32.ofInt b * Int32.ofInt b).toInt
def mAnd (a b : Int) : Int := (Int32.ofInt a &&& Int32.ofInt b).toInt
def mOr (a b : Int) : Int := (Int32.ofInt a ||| Int32.ofInt b).toInt
def mXor (a b : Int) : Int := (Int32.ofInt a ^^^ Int32.ofInt b).toInt
def mShl (a b : Int) : Int := (Int32.ofInt a <<< (Int32.ofInt b &&& 31)).toInt
def mShr (a b : Int) : Int := (Int32.ofInt a >>> (Int32.ofInt b &&& 31)).toInt
def mUsh (a b : Int) : Int := ((Int32.ofInt a).toUInt32 >>> ((Int32.ofInt b).toUInt32 &&& Int32.toUInt32 31)).toInt32.toInt
/-- the shapes: an object of a class with its fields (none: a number), or an array (0 int, 1 boolean, 2 nets, 3 a table) and its length -/
def mSh (t : Nat) : (Nat × List mFd) ⊕ (Nat × Nat) := match t with
  | 0 => .inl (0, [some (4, some 1), none, some (1, some 0), some (5, some 0), some (27, some 0), none, none, none])
  | 1 => .inl (1, [some (24, some 0), none, none, none, some (25, some 0)])
  | 2 => .inl (2, [some (28, some 0), none, none, some (29, some 0), some (30, some 0), none, none, none])
  | 3 => .inl (3, [none, some (34, some 0), none])
  | 4 => .inl (4, [none, none, some (20, none), some (21, none), some (22, none), some (23, none)])
  | 5 => .inl (5, [none, some (26, some 0)])
  | 6 => .inl (6, [some (31, some 0), some (32, some 0), some (33, some 0), none, some (1, some 0), some (5, some 0)])
  | 7 => .inl (7, [some (5, some 0), none, none, none])
  | 8 => .inl (8, [some (4, some 0), some (1, some 0), some (0, some 0), some (2, some 0), some (6, some 0), some (7, some 0), some (3, some 0), none])
  | 9 => .inl (9, [none, none, some (40, some 0), some (41, some 0), some (42, some 0), some (43, some 0), none, some (44, some 0), some (45, some 0), none, none, none, none, none, none, none, some (46, some 0), none, some (47, some 0), some (48, some 0), none, none, some (49, some 0), none, none, none, some (50, some 0), none, some (51, some 0), none, some (52, some 0), some (53, some 0), none, none, none, none, none, some (54, some 0), none, none, none, none, some (55, some 0), none, none, none, none, some (56, some 0)])
  | 20 => .inr (0, 3) | 21 => .inr (0, 3) | 22 => .inr (0, 66) | 23 => .inr (0, 36)
  | 24 => .inr (0, 7) | 25 => .inr (0, 12) | 26 => .inr (0, 12) | 27 => .inr (0, 66)
  | 28 => .inr (0, 21) | 29 => .inr (0, 21) | 30 => .inr (0, 7)
  | 31 => .inr (0, 500) | 32 => .inr (0, 500) | 33 => .inr (0, 500) | 34 => .inr (2, 6)
  | 40 => .inr (0, 3) | 41 => .inr (0, 3) | 42 => .inr (0, 66) | 43 => .inr (0, 444) | 44 => .inr (0, 8) | 45 => .inr (0, 20) | 46 => .inr (0, 8) | 47 => .inr (0, 66) | 48 => .inr (0, 66) | 49 => .inr (0, 66) | 50 => .inr (0, 66)
  | 51 => .inr (1, 60000) | 52 => .inr (0, 12) | 53 => .inr (0, 66) | 54 => .inr (0, 12) | 55 => .inr (0, 1500) | 56 => .inr (0, 198)
  | 100 => .inr (3, 6) | 101 => .inr (3, 6) | 102 => .inr (3, 6) | 103 => .inr (3, 66) | 104 => .inr (3, 66)
  | _ => .inr (9, 0)
def mTab (t : Nat) : List Int := match t with
  | 100 => [0, 2, 3, 1, 1, 2]
  | 101 => [0, 6, 5, 6, 4, 5]
  | 102 => [0, 0, 0, 1, 2, 0]
  | 103 => [0, 0, 1, 0, 1, 2, 0, 1, 2, 3, 0, 1, 2, 3, 4, 0, 1, 2, 3, 4, 5, 0, 1, 2, 3, 4, 5, 6, 0, 1, 2, 3, 4, 5, 6, 7, 0, 1, 2, 3, 4, 5, 6, 7, 8, 0, 1, 2, 3, 4, 5, 6, 7, 8, 9, 0, 1, 2, 3, 4, 5, 6, 7, 8, 9, 10]
  | _ => [1, 2, 2, 3, 3, 3, 4, 4, 4, 4, 5, 5, 5, 5, 5, 6, 6, 6, 6, 6, 6, 7, 7, 7, 7, 7, 7, 7, 8, 8, 8, 8, 8, 8, 8, 8, 9, 9, 9, 9, 9, 9, 9, 9, 9, 10, 10, 10, 10, 10, 10, 10, 10, 10, 10, 11, 11, 11, 11, 11, 11, 11, 11, 11, 11, 11]
def mL : List mRef := ([4, 20, 21, 22, 23].flatMap fun t => [(t, 0), (t, 1), (t, 2), (t, 3), (t, 4), (t, 5), (t, 6), (t, 7)]) ++ ([0, 1, 2, 3, 5, 6, 7, 8, 9, 24, 25, 26, 27, 28, 29, 30, 31, 32, 33, 34, 40, 41, 42, 43, 44, 45, 46, 47, 48, 49, 50, 51, 52, 53, 54, 55, 56].map fun t => (t, 0))
def mLq : List mRef := mL ++ ([100, 101, 102, 103, 104].map fun t => (t, 0))
theorem mL_nodup : mL.Nodup := by decide +kernel
def mCv (ad : mRef → Nat) : mRV → Value
  | .inl x => .int (Int32.ofInt x)
  | .inr r => .ref (ad r)
def mFv (g : mG) (h : mMem) (r : mRef) (f : mFd) (k : Nat) : Value := match f with
  | none => .int (Int32.ofInt (h r.1 r.2 k))
  | some (t, none) => .ref (g.2.2 (t, r.2))
  | some (t, some i) => .ref (g.2.2 (t, i))
def mFs (g : mG) (h : mMem) (r : mRef) : List mFd → Nat → List Value
  | [], _ => []
  | f :: fs, k => mFv g h r f k :: mFs g h r fs (k + 1)
theorem mFs_get (g : mG) (h : mMem) (r : mRef) : ∀ (fs : List mFd) (k j : Nat), (mFs g h r fs k)[j]? = (fs[j]?).map (fun f => mFv g h r f (k + j))
  | [], k, j => by simp [mFs]
  | f :: fs, k, 0 => by simp [mFs]
  | f :: fs, k, j + 1 => by
    simp only [mFs, List.getElem?_cons_succ]
    rw [mFs_get g h r fs (k + 1) j]
    rw [show k + 1 + j = k + (j + 1) by omega]
theorem mFs_len (g : mG) (h : mMem) (r : mRef) : ∀ (fs : List mFd) (k : Nat), (mFs g h r fs k).length = fs.length
  | [], _ => rfl
  | f :: fs, k => by simp [mFs, mFs_len g h r fs (k + 1)]
def mNi (k : Nat) : Fin 8 := Fin.ofNat 8 (k + 2)
def mElt (g : mG) (h : mMem) (r : mRef) : va_E := match mSh r.1 with
  | .inl (ci, fs) => .inr (ci, mFs g h r fs 0)
  | .inr (0, n) => .inl (g.2.1.1, n, .inl (fun k => Int32.ofInt (h r.1 r.2 k)))
  | .inr (1, n) => .inl (g.2.1.2.1, n, .inl (fun k => Int32.ofInt (h r.1 r.2 k)))
  | .inr (_, n) => .inl (g.2.1.2.2, n, .inr (.inr (.inr (.inr (fun k => some (g.2.2 (4, mNi k)))))))
def mW (g : mG) (h : mMem) : va_W := mL.map (fun r => (g.2.2 r, mElt g h r))
def mTy (g : mG) : List (ClassId × FieldType) := [(g.2.1.1, .int), (g.2.1.2.1, .boolean), (g.2.1.2.2, .object "KeptColours$Net")]
def mA (g : mG) : Nat → Prop := fun q => ∃ r ∈ mL, q = g.2.2 r
def mIsN (w : Cond) : Bool := match w with
  | .fieldLinkNest .. => true
  | .methodLinkNest .. => true
  | _ => false
def mNst (U : State) : Prop := ∀ w ∈ lw_tbl, mIsN w = true → va_Nw w U
def mZ (g : mG) (U : State) (H : Heap) : Prop := mNst U ∧ ∀ t ∈ ([100, 101, 102, 103, 104] : List Nat), va_Z "KeptColours" (mStn t) "[I" (.ref (g.2.2 (t, 0))) (mA g) U H ∧ va_T .int (g.2.2 (t, 0)) (mTab t).length (fun j => .int (Int32.ofInt ((mTab t).getD j 0))) (mA g) U H
def mRep (g : mG) (h : mMem) (U : State) (H : Heap) : Prop := va_P g.1 vwCl (mW g h) H ∧ va_K g.1 vwCl (mTy g) U ∧ va_D (mA g) (mW g h) ∧ mZ g U H
def mV (v : mRV) : Prop := match v with
  | .inl x => mIr x
  | .inr r => r ∈ mLq
def mMok (h : mMem) : Prop := ∀ t i k, mIr (h t i k)
def mOk (xs : mXs) (st : List mRV) (h : mMem) : Prop := (∀ v, some v ∈ xs → mV v) ∧ (∀ v ∈ st, mV v) ∧ mMok h
def mSet (h : mMem) (t : Nat) (i : Fin 8) (k : Nat) (v : Int) : mMem := fun t' i' k' => if t' = t ∧ i' = i ∧ k' = k then v else h t' i' k'
def mCpy (h : mMem) (rs rd : mRef) (sp dp n : Nat) : mMem := fun t i k => if t = rd.1 ∧ i = rd.2 ∧ dp ≤ k ∧ k < dp + n then h rs.1 rs.2 (sp + (k - dp)) else h t i k
def mRm (d : Nat) : Room := { frames := d, cells := 0, slots := 0, locals := 100 * d }
def mWds : List Cond := lw_tbl.filter goodWord
def mWs (mi : mMi) : List Cond := .code mi.2.1 mi.2.2.1 mi.2.2.2.1 mi.2.2.2.2.1 :: mWds
def mLs (g : mG) (ls : Array Slot) (nL : Nat) (xs : mXs) : Prop := ls.size = nL ∧ xs.length = nL ∧ lv_wf ls ∧ ∀ (k : Nat) (v : mRV), xs[k]? = some (some v) → ls[k]? = some (Slot.val (mCv g.2.2 v))
def mQ (g : mG) (K : Option mRV → mMem → Prop) : Array Value → State → Outcome → State → Prop := fun _ st o t =>
  (∃ (v : Option mRV) (h : mMem), o = .returned (v.map (mCv g.2.2)) ∧ K v h ∧ (∀ w, v = some w → mV w) ∧ mMok h ∧ mRep g h t t.heap) ∧ va_F (mA g) st t
def mCon (l : Launch) (g : mG) (m d : Nat) (as : List mRV) (h : mMem) (K : Option mRV → mMem → Prop) : Prop :=
  (∀ a ∈ as, mV a) → mMok h → Met l (mMt m).2.1 (mWs (mMt m)) (mRm d) (va_Pc (as.map (mCv g.2.2)) (fun U => mRep g h U U.heap)) (mQ g K) 0 0 (mA g)
def mCx (p : Program) (s : State) (m : MethodId) (args : Array Value) (meth : Method) (c : Code) (mi : mMi) (g : mG) : Prop :=
  p.tables.exec = Jvm.exec ∧ c.code = mi.2.2.1 ∧ c.maxLocals = mi.2.2.2.1 ∧ meth.sig.returnType = mi.2.2.2.2.1 ∧ s.vm.findClass (mRn mi.1) = some m.cls ∧ (∀ w ∈ mWs mi, w.before args s = true) ∧ meth.locks = false ∧ va_K g.1 vwCl (mTy g) s ∧ mZ g s s.heap
def mGo (l : Launch) (g : mG) (mi : mMi) (d pc : Nat) (xs : mXs) (st : List mRV) (h : mMem) (K : Option mRV → mMem → Prop) : Prop :=
  ∀ (p : Program) (e : Env) (s : State) (m : MethodId) (args : Array Value) (below : List Frame) (meth : Method) (c : Code) (H : Heap) (locs : List Loc) (ls : Array Slot),
    mCx p s m args meth c mi g → va_P g.1 vwCl (mW g h) H → va_D (mA g) (mW g h) → va_S (mA g) s.heap H locs → mLs g ls mi.2.2.2.1 xs → mOk xs st h →
    W p l e (mRm d) s m args below meth c H locs 0 0 (MQ below (mQ g K) args s 0 0 (mA g)) (F0 m pc ls (st.map (mCv g.2.2)))
def mCall (l : Launch) (g : mG) (d m : Nat) (as : List mRV) (h : mMem) (K : Option mRV → mMem → Prop) : Prop := match d with
  | 0 => False
  | d' + 1 => mCon l g m d' as h K
def mCmp (c : Int) (a b : Int) : Prop := match c with
  | 0 => a = b
  | 1 => a ≠ b
  | 2 => a < b
  | 3 => b ≤ a
  | 4 => b < a
  | _ => a ≤ b
def mSwi (jp : Nat → Prop) (x : Int) : Int → List Nat → Prop
  | _, [] => True
  | lo, t :: ts => (x = lo → jp t) ∧ mSwi jp x (lo + 1) ts
def mBr (c : Nat) (a b : Int) (P Q : Prop) : Prop := match c with
  | 0 => (a = b → P) ∧ (a ≠ b → Q)
  | 1 => (a ≠ b → P) ∧ (a = b → Q)
  | 2 => (a < b → P) ∧ (b ≤ a → Q)
  | 3 => (b ≤ a → P) ∧ (a < b → Q)
  | 4 => (b < a → P) ∧ (a ≤ b → Q)
  | _ => (a ≤ b → P) ∧ (b < a → Q)
/-- what a step asks for -/
def mSem (d : Nat) (ι : mIns) (nx : mXs → List mRV → mMem → Prop) (jp : Nat → mXs → List mRV → mMem → Prop) (cl : Nat → List mRV → mMem → (Option mRV → mMem → Prop) → Prop) (rt : Option mRV → mMem → Prop) (xs : mXs) (st : List mRV) (h : mMem) : Prop :=
  match ι with
  | (0, [], [v]) => nx xs (.inl v :: st) h
  | (1, [k], []) => match xs[k]? with
    | some (some (.inl v)) => nx xs (.inl v :: st) h
    | _ => False
  | (16, [k], []) => match xs[k]? with
    | some (some (.inr v)) => nx xs (.inr v :: st) h
    | _ => False
  | (2, [k], []) => match st with
    | .inl v :: st => (match xs[k]? with
      | some _ => nx (xs.set k (some (.inl v))) st h
      | none => False)
    | _ => False
  | (15, [k], []) => match st with
    | .inr v :: st => (match xs[k]? with
      | some _ => nx (xs.set k (some (.inr v))) st h
      | none => False)
    | _ => False
  | (3, [k], [n]) => match xs[k]? with
    | some (some (.inl v)) => nx (xs.set k (some (.inl (mWr (v + n))))) st h
    | _ => False
  | (4, [], []) => match st with
    | .inl b :: .inl a :: st => nx xs (.inl (mWr (a + b)) :: st) h
    | _ => False
  | (5, [], []) => match st with
    | .inl b :: .inl a :: st => nx xs (.inl (mWr (a - b)) :: st) h
    | _ => False
  | (6, [], []) => match st with
    | .inl b :: .inl a :: st => nx xs (.inl (mWr (a * b)) :: st) h
    | _ => False
  | (7, [], []) => match st with
    | .inl b :: .inl a :: st => b ≠ 0 ∧ nx xs (.inl (mDiv a b) :: st) h
    | _ => False
  | (8, [], []) => match st with
    | .inl b :: .inl a :: st => b ≠ 0 ∧ nx xs (.inl (mRem a b) :: st) h
    | _ => False
  | (9, [], []) => match st with
    | .inl b :: .inl a :: st => nx xs (.inl (mAnd a b) :: st) h
    | _ => False
  | (10, [], []) => match st with
    | .inl b :: .inl a :: st => nx xs (.inl (mOr a b) :: st) h
    | _ => False
  | (11, [], []) => match st with
    | .inl b :: .inl a :: st => nx xs (.inl (mXor a b) :: st) h
    | _ => False
  | (12, [], []) => match st with
    | .inl b :: .inl a :: st => nx xs (.inl (mShl a b) :: st) h
    | _ => False
  | (13, [], []) => match st with
    | .inl b :: .inl a :: st => nx xs (.inl (mShr a b) :: st) h
    | _ => False
  | (14, [], []) => match st with
    | .inl b :: .inl a :: st => nx xs (.inl (mUsh a b) :: st) h
    | _ => False
  | (20, [t], []) => jp t xs st h
  | (21, [c, t], []) => match st with
    | .inl a :: st => mBr c a 0 (jp t xs st h) (nx xs st h)
    | _ => False
  | (22, [c, t], []) => match st with
    | .inl b :: .inl a :: st => mBr c a b (jp t xs st h) (nx xs st h)
    | _ => False
  | (23, df :: ts, [lo]) => match st with
    | .inl a :: st => mSwi (fun t => jp t xs st h) a lo ts ∧ ((a < lo ∨ lo + ts.length ≤ a) → jp df xs st h)
    | _ => False
  | (30, [ci, k], []) => match st with
    | .inr (t, i) :: st => match mSh t with
      | .inl (cj, fs) => bif cj == ci then (match fs[k]? with
        | some none => nx xs (.inl (h t i k) :: st) h
        | some (some (t', none)) => nx xs (.inr (t', i) :: st) h
        | some (some (t', some i')) => nx xs (.inr (t', i') :: st) h
        | none => False) else False
      | _ => False
    | _ => False
  | (31, [ci, k, z], []) => match st with
    | .inl v :: .inr (t, i) :: st => match mSh t with
      | .inl (cj, fs) => bif cj == ci then (match fs[k]? with
        | some none => bif z == 0 then nx xs st (mSet h t i k v) else ((v = 0 ∨ v = 1) ∧ nx xs st (mSet h t i k v))
        | _ => False) else False
      | _ => False
    | _ => False
  | (32, [t], []) => nx xs (.inr (t, 0) :: st) h
  | (33, [], []) => match st with
    | .inl x :: .inr (t, i) :: st => match mSh t with
      | .inr (0, n) => (0 ≤ x ∧ x < n) ∧ nx xs (.inl (h t i x.toNat) :: st) h
      | .inr (3, n) => (0 ≤ x ∧ x < n) ∧ nx xs (.inl ((mTab t).getD x.toNat 0) :: st) h
      | _ => False
    | _ => False
  | (34, [], []) => match st with
    | .inl v :: .inl x :: .inr (t, i) :: st => match mSh t with
      | .inr (0, n) => (0 ≤ x ∧ x < n) ∧ nx xs st (mSet h t i x.toNat v)
      | _ => False
    | _ => False
  | (35, [], []) => match st with
    | .inl x :: .inr (t, i) :: st => match mSh t with
      | .inr (1, n) => (0 ≤ x ∧ x < n) ∧ nx xs (.inl (h t i x.toNat) :: st) h
      | _ => False
    | _ => False
  | (36, [], []) => match st with
    | .inl v :: .inl x :: .inr (t, i) :: st => match mSh t with
      | .inr (1, n) => (0 ≤ x ∧ x < n) ∧ (v = 0 ∨ v = 1) ∧ nx xs st (mSet h t i x.toNat v)
      | _ => False
    | _ => False
  | (37, [], []) => match st with
    | .inl x :: .inr (t, _) :: st => match mSh t with
      | .inr (2, n) => (0 ≤ x ∧ x < n) ∧ nx xs (.inr (4, mNi x.toNat) :: st) h
      | _ => False
    | _ => False
  | (38, [], []) => match st with
    | .inr (t, _) :: st => match mSh t with
      | .inr (0, n) => nx xs (.inl n :: st) h
      | _ => False
    | _ => False
  | (40, [], []) => match st with
    | v :: st => nx xs (v :: v :: st) h
    | _ => False
  | (41, [], []) => match st with
    | v :: w :: st => nx xs (v :: w :: v :: w :: st) h
    | _ => False
  | (42, [], []) => match st with
    | _ :: st => nx xs st h
    | _ => False
  | (50, [m, n], []) => bif Nat.ble n st.length && Nat.ble st.length 8 then cl m (st.take n).reverse h (fun v h' => nx xs (v.toList ++ st.drop n) h') else False
  | (51, [m, n, ci], []) => bif Nat.ble n st.length && Nat.ble st.length 8 then (match (st.take n).reverse with
    | .inr (t, i) :: as => match mSh t with
      | .inl (cj, _) => bif cj == ci then cl m (.inr (t, i) :: as) h (fun v h' => nx xs (v.toList ++ st.drop n) h') else False
      | _ => False
    | _ => False) else False
  | (60, [], []) => match st with
    | [.inl v] => rt (some (.inl v)) h
    | _ => False
  | (62, [], []) => match st with
    | [.inl v] => (v = 0 ∨ v = 1) ∧ rt (some (.inl v)) h
    | _ => False
  | (61, [], []) => match st with
    | [] => rt none h
    | _ => False
  | (70, [], []) => match st with
    | .inl n :: .inl dp :: .inr (td, id) :: .inl sp :: .inr (ts, is) :: st => match mSh ts, mSh td with
      | .inr (0, ns), .inr (0, nd) => bif Nat.ble st.length 8 && Nat.ble 1 d then (0 ≤ sp ∧ 0 ≤ dp ∧ 0 ≤ n ∧ sp + n ≤ ns ∧ dp + n ≤ nd) ∧ nx xs st (mCpy h (ts, is) (td, id) sp.toNat dp.toNat n.toNat) else False
      | _, _ => False
    | _ => False
  | _ => False
def mJ (pc : Nat) (o : Int) : Option Nat := if 0 ≤ (pc : Int) + o then some ((pc : Int) + o).toNat else none
def mCc (c : ClassFile.Cond) : Nat := match c with
  | .eq => 0
  | .ne => 1
  | .lt => 2
  | .ge => 3
  | .gt => 4
  | .le => 5
/-- an instruction of the machine, by the tables -/
def mRes (mi : mMi) (pc : Nat) (ins : Instr) : Option mIns := match ins with
  | .iconst n => if -128 ≤ n ∧ n < 128 then some (0, [], [n]) else none
  | .bipush n => if -128 ≤ n ∧ n < 128 then some (0, [], [n]) else none
  | .sipush n => if -32768 ≤ n ∧ n < 32768 then some (0, [], [n]) else none
  | .ldc i => (mCl.find? (fun e => e.1 == mi.1 && e.2.1 == i)).bind (fun e => if -2147483648 ≤ e.2.2.1 ∧ e.2.2.1 < 2147483648 then some (0, [], [e.2.2.1]) else none)
  | .ldc_w i => (mCl.find? (fun e => e.1 == mi.1 && e.2.1 == i)).bind (fun e => if -2147483648 ≤ e.2.2.1 ∧ e.2.2.1 < 2147483648 then some (0, [], [e.2.2.1]) else none)
  | .iload_n k => some (1, [k.val], [])
  | .iload k => some (1, [k], [])
  | .aload_n k => some (16, [k.val], [])
  | .aload k => some (16, [k], [])
  | .istore_n k => some (2, [k.val], [])
  | .istore k => some (2, [k], [])
  | .astore_n k => some (15, [k.val], [])
  | .astore k => some (15, [k], [])
  | .iinc k n => some (3, [k], [n])
  | .iadd => some (4, [], [])
  | .isub => some (5, [], [])
  | .imul => some (6, [], [])
  | .idiv => some (7, [], [])
  | .irem => some (8, [], [])
  | .iand => some (9, [], [])
  | .ior => some (10, [], [])
  | .ixor => some (11, [], [])
  | .ishl => some (12, [], [])
  | .ishr => some (13, [], [])
  | .iushr => some (14, [], [])
  | .goto o => (mJ pc o).map (fun (t : Nat) => (20, [t], []))
  | .ifCond c o => (mJ pc o).map (fun (t : Nat) => (21, [mCc c, t], []))
  | .if_icmp c o => (mJ pc o).map (fun (t : Nat) => (22, [mCc c, t], []))
  | .tableswitch d lo hi os => if 0 ≤ (pc : Int) + d ∧ hi = lo + os.toList.length - 1 ∧ os.toList.all (fun o => decide (0 ≤ (pc : Int) + o)) = true then some (23, ((pc : Int) + d).toNat :: os.toList.map (fun o => ((pc : Int) + o).toNat), [lo]) else none
  | .getfield i => (mFl.find? (fun e => e.1 == mi.1 && e.2.1 == i)).map (fun e => (30, [e.2.2.1, e.2.2.2.1], []))
  | .putfield i => (mFl.find? (fun e => e.1 == mi.1 && e.2.1 == i)).bind (fun e => if (mT e.2.2.1 e.2.2.2.1).2.2.2 = false ∧ (mTyp e.2.2.1 e.2.2.2.1 = .int ∨ mTyp e.2.2.1 e.2.2.2.1 = .boolean) then some (31, [e.2.2.1, e.2.2.2.1, if mTyp e.2.2.1 e.2.2.2.1 = .int then 0 else 1], []) else none)
  | .getstatic i => (mSl.find? (fun e => e.1 == mi.1 && e.2.1 == i)).bind (fun e => if e.2.2.1 ∈ ([100, 101, 102, 103, 104] : List Nat) then some (32, [e.2.2.1], []) else none)
  | .iaload => some (33, [], [])
  | .iastore => some (34, [], [])
  | .baload => some (35, [], [])
  | .bastore => some (36, [], [])
  | .aaload => some (37, [], [])
  | .arraylength => some (38, [], [])
  | .dup => some (40, [], [])
  | .dup2 => some (41, [], [])
  | .pop => some (42, [], [])
  | .invokevirtual i => (mKl.find? (fun e => e.1 == mi.1 && e.2.1 == i)).bind (fun e => if e.2.2.2.1 = 0 ∧ e.2.2.1 < mMl.length then some (51, [e.2.2.1, (mMt e.2.2.1).2.2.2.2.2.2.2.2.2.2 + 1, (mMt e.2.2.1).1], []) else none)
  | .invokestatic i => match mKl.find? (fun e => e.1 == mi.1 && e.2.1 == i) with
    | some e => if (e.2.2.2.1 = 1 ∨ e.2.2.2.1 = 2) ∧ e.2.2.1 < mMl.length then some (50, [e.2.2.1, (mMt e.2.2.1).2.2.2.2.2.2.2.2.2.2], []) else none
    | none => (mAl.find? (fun e => e.1 == mi.1 && e.2.1 == i)).map (fun _ => (70, [], []))
  | .ireturn => match mi.2.2.2.2.1 with
    | some .int => some (60, [], [])
    | some .boolean => some (62, [], [])
    | _ => none
  | .return_ => match mi.2.2.2.2.1 with
    | none => some (61, [], [])
    | _ => none
  | _ => none
def mLn (ins : Instr) (n : Nat) : Bool := match ins with
  | .bipush _ => n == 2
  | .sipush _ => n == 3
  | .ldc _ => n == 2
  | .ldc_w _ => n == 3
  | .iload _ => n == 2
  | .aload _ => n == 2
  | .istore _ => n == 2
  | .astore _ => n == 2
  | .iinc _ _ => n == 3
  | .goto _ => n == 3
  | .ifCond _ _ => n == 3
  | .if_icmp _ _ => n == 3
  | .tableswitch _ _ _ _ => true
  | .getfield _ => n == 3
  | .putfield _ => n == 3
  | .getstatic _ => n == 3
  | .invokevirtual _ => n == 3
  | .invokestatic _ => n == 3
  | _ => n == 1
/-- a method's code as a list of resolved steps, row behind row -/
def mChk (mi : mMi) : mCode → Bool
  | [] => true
  | (pc, ι, len) :: r => (match decode mi.2.2.1 pc with
      | .ok (ins, n) => n == len && mLn ins len && decide (mRes mi pc ins = some ι)
      | _ => false) && (match r with
      | [] => true
      | (pc', _, _) :: _ => pc' == pc + len) && mChk mi r
