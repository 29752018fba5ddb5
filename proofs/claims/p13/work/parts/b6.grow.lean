/-! worlds that grow: the constructors' rows -/
abbrev c3T (cI cZ cN : ClassId) : List (ClassId × FieldType) := [(cI, .int), (cZ, .boolean), (cN, .object "KeptColours$Net")]
def cCx (p : Program) (s : State) (m : MethodId) (args : Array Value) (meth : Method) (c : Code) (ow : Nat) (cc : ByteArray) (nL : Nat) (D : va_G) (cI cZ cN : ClassId) : Prop :=
  p.tables.exec = Jvm.exec ∧ c.code = cc ∧ c.maxLocals = nL ∧ s.vm.findClass (mRn ow) = some m.cls ∧ (∀ w ∈ mWds, w.before args s = true) ∧ va_K D vwCl (c3T cI cZ cN) s ∧ mNst s ∧ va_AO "KeptColours$Net" s
def cGo (p : Program) (l : Launch) (e : Env) (R : Room) (s : State) (m : MethodId) (args : Array Value) (below : List Frame) (meth : Method) (c : Code) (A : Nat → Prop) (Q : State → Prop) (D : va_G) (nL : Nat) (ws : va_W) (cells slots pc : Nat) (lv : List (Nat × Value)) (st : List Value) : Prop :=
  ∀ (H : Heap) (locs : List Loc) (ls : Array Slot), va_P D vwCl ws H → va_D A ws → va_S A s.heap H locs → lv_has ls nL lv → W p l e R s m args below meth c H locs cells slots Q (F0 m pc ls st)
theorem cMem {n : Nat} {w : Cond} (h : lw_tbl[n]? = some w) (hg : goodWord w = true) : w ∈ mWds := List.mem_filter.mpr ⟨List.mem_of_getElem? h, hg⟩
theorem cIn (ci : Nat) (h : ci < 10) : ∀ w ∈ u_ws (mRn ci) (mT ci) (mN ci), w ∈ mWds := by
  intro w hw
  have h1 := mInX ci h w (by rw [mCl_lt ci h]; exact hw)
  refine List.mem_filter.mpr ⟨h1, ?_⟩
  obtain ⟨k, -, rfl⟩ := List.mem_map.mp hw
  unfold u_lay
  split <;> rfl
theorem cGood {w : Cond} (hw : w ∈ mWds) : GoodIn mWds (w :: mWds) := by
  intro x hx
  have key : x ∈ mWds := by
    rcases List.mem_cons.mp hx with rfl | h
    · exact hw
    · exact h
  exact ⟨key, good_of_word (mGd x key)⟩
section Grow
variable {p : Program} {l : Launch} {e : Env} {R : Room} {s : State} {m : MethodId} {args : Array Value} {below : List Frame} {meth : Method} {c : Code} {A : Nat → Prop} {Q : State → Prop} {D : va_G} {nL ow : Nat} {cc : ByteArray} {cI cZ cN : ClassId} {ws : va_W} {cells slots pc : Nat} {lv : List (Nat × Value)} {st : List Value}
theorem g_aload {k : Fin 4} {i j : Nat} {x : Nat} (C : cCx p s m args meth c ow cc nL D cI cZ cN) (hdg : decode cc pc = .ok (.aload_n k, 1)) (hi : (k : Nat) = i) (hj : lv[j]? = some (i, .ref x)) (kk : cGo p l e R s m args below meth c A Q D nL ws cells slots (pc + 1) lv (.ref x :: st)) : cGo p l e R s m args below meth c A Q D nL ws cells slots pc lv st := fun H locs ls P DD S L =>
  lv_aload_n C.1 C.2.1 hdg hi (lv_at L j hj) (kk H locs ls P DD S L)
theorem g_iload {k : Fin 4} {i j : Nat} {x : Int32} (C : cCx p s m args meth c ow cc nL D cI cZ cN) (hdg : decode cc pc = .ok (.iload_n k, 1)) (hi : (k : Nat) = i) (hj : lv[j]? = some (i, .int x)) (kk : cGo p l e R s m args below meth c A Q D nL ws cells slots (pc + 1) lv (.int x :: st)) : cGo p l e R s m args below meth c A Q D nL ws cells slots pc lv st := fun H locs ls P DD S L =>
  lv_iload_n C.1 C.2.1 hdg hi (lv_at L j hj) (kk H locs ls P DD S L)
theorem g_iconst {n : Int} {v : Int32} (C : cCx p s m args meth c ow cc nL D cI cZ cN) (hdg : decode cc pc = .ok (.iconst n, 1)) (hv : Int32.ofInt n = v) (kk : cGo p l e R s m args below meth c A Q D nL ws cells slots (pc + 1) lv (.int v :: st)) : cGo p l e R s m args below meth c A Q D nL ws cells slots pc lv st := fun H locs ls P DD S L =>
  lv_iconst C.1 C.2.1 hdg hv (kk H locs ls P DD S L)
theorem g_bipush {n : Int} {v : Int32} (C : cCx p s m args meth c ow cc nL D cI cZ cN) (hdg : decode cc pc = .ok (.bipush n, 2)) (hv : (Int8.ofInt n).toInt32 = v) (kk : cGo p l e R s m args below meth c A Q D nL ws cells slots (pc + 2) lv (.int v :: st)) : cGo p l e R s m args below meth c A Q D nL ws cells slots pc lv st := fun H locs ls P DD S L =>
  lv_bipush C.1 C.2.1 hdg hv (kk H locs ls P DD S L)
theorem g_sipush {n : Int} {v : Int32} (C : cCx p s m args meth c ow cc nL D cI cZ cN) (hdg : decode cc pc = .ok (.sipush n, 3)) (hv : (Int16.ofInt n).toInt32 = v) (kk : cGo p l e R s m args below meth c A Q D nL ws cells slots (pc + 3) lv (.int v :: st)) : cGo p l e R s m args below meth c A Q D nL ws cells slots pc lv st := fun H locs ls P DD S L =>
  lv_sipush C.1 C.2.1 hdg hv (kk H locs ls P DD S L)
theorem g_ldc {i n : Nat} {v : Int32} (C : cCx p s m args meth c ow cc nL D cI cZ cN) (hw : lw_tbl[n]? = some (.constant (mRn ow) i v)) (hdg : decode cc pc = .ok (.ldc i, 2)) (kk : cGo p l e R s m args below meth c A Q D nL ws cells slots (pc + 2) lv (.int v :: st)) : cGo p l e R s m args below meth c A Q D nL ws cells slots pc lv st := fun H locs ls P DD S L =>
  lv_ldc C.1 C.2.1 C.2.2.2.1 (C.2.2.2.2.1 _ (cMem hw rfl)) hdg (kk H locs ls P DD S L)
theorem g_dup {v : Value} (C : cCx p s m args meth c ow cc nL D cI cZ cN) (hdg : decode cc pc = .ok (.dup, 1)) (hv : v.category = 1) (kk : cGo p l e R s m args below meth c A Q D nL ws cells slots (pc + 1) lv (v :: v :: st)) : cGo p l e R s m args below meth c A Q D nL ws cells slots pc lv (v :: st) := fun H locs ls P DD S L =>
  lv_dup C.1 C.2.1 hdg hv (kk H locs ls P DD S L)
theorem g_astore {k : Fin 4} {i : Nat} {x : Nat} {lv' : List (Nat × Value)} (C : cCx p s m args meth c ow cc nL D cI cZ cN) (hdg : decode cc pc = .ok (.astore_n k, 1)) (hi : (k : Nat) = i) (hn : i < nL) (hl : (i, Value.ref x) :: lv.filter (fun q => !(q.1 == i) && !(q.1 + 1 == i && q.2.category == 2)) = lv') (kk : cGo p l e R s m args below meth c A Q D nL ws cells slots (pc + 1) lv' st) : cGo p l e R s m args below meth c A Q D nL ws cells slots pc lv (.ref x :: st) := fun H locs ls P DD S L =>
  lv_astore_n C.1 C.2.1 hdg hi L hn hl (fun ls' L' => kk H locs ls' P DD S L')
theorem g_istore {k : Fin 4} {i : Nat} {x : Int32} {lv' : List (Nat × Value)} (C : cCx p s m args meth c ow cc nL D cI cZ cN) (hdg : decode cc pc = .ok (.istore_n k, 1)) (hi : (k : Nat) = i) (hn : i < nL) (hl : (i, Value.int x) :: lv.filter (fun q => !(q.1 == i) && !(q.1 + 1 == i && q.2.category == 2)) = lv') (kk : cGo p l e R s m args below meth c A Q D nL ws cells slots (pc + 1) lv' st) : cGo p l e R s m args below meth c A Q D nL ws cells slots pc lv (.int x :: st) := fun H locs ls P DD S L =>
  lv_istore_n C.1 C.2.1 hdg hi L hn hl (fun ls' L' => kk H locs ls' P DD S L')
theorem g_iinc {i k : Nat} {n : Int} {x v : Int32} {lv' : List (Nat × Value)} (C : cCx p s m args meth c ow cc nL D cI cZ cN) (hdg : decode cc pc = .ok (.iinc i n, 3)) (hk : lv[k]? = some (i, .int x)) (hv : x + Int32.ofInt n = v) (hn : i < nL) (hl : (i, Value.int v) :: lv.filter (fun q => !(q.1 == i) && !(q.1 + 1 == i && q.2.category == 2)) = lv') (kk : cGo p l e R s m args below meth c A Q D nL ws cells slots (pc + 3) lv' st) : cGo p l e R s m args below meth c A Q D nL ws cells slots pc lv st := fun H locs ls P DD S L =>
  lv_iinc C.1 C.2.1 hdg L hk hv hn hl (fun ls' L' => kk H locs ls' P DD S L')
theorem g_goto {off : Int} {tgt : Nat} (C : cCx p s m args meth c ow cc nL D cI cZ cN) (hdg : decode cc pc = .ok (.goto off, 3)) (ht : (pc : Int) + off = (tgt : Int)) (kk : cGo p l e R s m args below meth c A Q D nL ws cells slots tgt lv st) : cGo p l e R s m args below meth c A Q D nL ws cells slots pc lv st := fun H locs ls P DD S L =>
  lv_goto C.1 C.2.1 hdg ht (kk H locs ls P DD S L)
theorem g_icmpge {x y : Int32} {off : Int} {tgt : Nat} (C : cCx p s m args meth c ow cc nL D cI cZ cN) (hdg : decode cc pc = .ok (.if_icmp .ge off, 3)) (ht : (pc : Int) + off = (tgt : Int)) (k1 : y ≤ x → cGo p l e R s m args below meth c A Q D nL ws cells slots tgt lv st) (k2 : ¬ y ≤ x → cGo p l e R s m args below meth c A Q D nL ws cells slots (pc + 3) lv st) : cGo p l e R s m args below meth c A Q D nL ws cells slots pc lv (.int y :: .int x :: st) := fun H locs ls P DD S L =>
  lv_icmp_ge C.1 C.2.1 hdg ht (fun z => k1 z H locs ls P DD S L) (fun z => k2 z H locs ls P DD S L)
theorem g_alen {a q0 n : Nat} {f : Nat → Int32} (C : cCx p s m args meth c ow cc nL D cI cZ cN) (ha : ws[q0]? = some (a, .inl (cI, n, .inl f))) (hdg : decode cc pc = .ok (.arraylength, 1)) (kk : cGo p l e R s m args below meth c A Q D nL ws cells slots (pc + 1) lv (.int (Int32.ofNat n) :: st)) : cGo p l e R s m args below meth c A Q D nL ws cells slots pc lv (.ref a :: st) := fun H locs ls P DD S L =>
  va_alen C.1 C.2.1 C.2.2.2.2.2.1 P q0 0 ha (ty := .int) rfl rfl hdg (kk H locs ls P DD S L)
theorem g_iast {a q0 n : Nat} {f : Nat → Int32} {i x : Int32} (C : cCx p s m args meth c ow cc nL D cI cZ cN) (ha : ws[q0]? = some (a, .inl (cI, n, .inl f))) (hin : vp_in i n) (hdg : decode cc pc = .ok (.iastore, 1)) (kk : cGo p l e R s m args below meth c A Q D nL (ws.set q0 (a, .inl (cI, n, .inl (upd f i.toNatClampNeg x)))) cells slots (pc + 1) lv st) : cGo p l e R s m args below meth c A Q D nL ws cells slots pc lv (.int x :: .int i :: .ref a :: st) := fun H locs ls P DD S L =>
  va_iast C.1 C.2.1 C.2.2.2.2.2.1 P DD S q0 0 ha rfl hin hdg (fun H1 locs1 P1 D1 S1 => kk H1 locs1 ls P1 D1 S1 L)
theorem g_astq {a q0 qk n v ci : Nat} {vs : List Value} {f : Nat → Option Nat} {i : Int32} (C : cCx p s m args meth c ow cc nL D cI cZ cN) (ha : ws[q0]? = some (a, .inl (cN, n, .inr (.inr (.inr (.inr f)))))) (hci : ci = 4) (hv : ws[qk]? = some (v, .inr (ci, vs))) (hin : vp_in i n) (hdg : decode cc pc = .ok (.aastore, 1)) (kk : cGo p l e R s m args below meth c A Q D nL (ws.set q0 (a, .inl (cN, n, .inr (.inr (.inr (.inr (va_up f i.toNatClampNeg (some v)))))))) cells slots (pc + 1) lv st) : cGo p l e R s m args below meth c A Q D nL ws cells slots pc lv (.ref v :: .int i :: .ref a :: st) := fun H locs ls P DD S L => by
  subst hci
  exact va_astq C.1 C.2.1 C.2.2.2.2.2.1 P DD S q0 2 qk 4 ha (r := (mRn 4, mT 4, mN 4)) rfl hv (mCl_lt 4 (by decide)) hin hdg (fun H1 locs1 P1 D1 S1 => kk H1 locs1 ls P1 D1 S1 L)
theorem g_get {a q0 ci k i n : Nat} {fs : List Value} {v : Value} (C : cCx p s m args meth c ow cc nL D cI cZ cN) (hl : (ow, i, ci, k, n) ∈ mFl) (he : ws[q0]? = some (a, .inr (ci, fs))) (hv : fs[k]? = some v) (hdg : decode cc pc = .ok (.getfield i, 3)) (kk : cGo p l e R s m args below meth c A Q D nL ws cells slots (pc + 3) lv (v :: st)) : cGo p l e R s m args below meth c A Q D nL ws cells slots pc lv (.ref a :: st) := fun H locs ls P DD S L => by
  obtain ⟨e1, e2, e3⟩ := mFl_ok _ hl
  exact va_get C.1 C.2.1 C.2.2.2.2.1 (cIn ci e2) C.2.2.2.1 C.2.2.2.2.2.1 P q0 he (mCl_lt ci e2) k e3 (C.2.2.2.2.1 _ (cMem e1 rfl)) (fun _ z => z) hv hdg (kk H locs ls P DD S L)
theorem g_put {a q0 ci k i n : Nat} {fs : List Value} {v : Value} (C : cCx p s m args meth c ow cc nL D cI cZ cN) (hl : (ow, i, ci, k, n) ∈ mFl) (hfin : (mT ci k).2.2.2 = false) (hty : narrow (mTyp ci k) v = v ∧ fits (mTyp ci k) v = true) (he : ws[q0]? = some (a, .inr (ci, fs))) (hk : k < fs.length) (hdg : decode cc pc = .ok (.putfield i, 3)) (kk : cGo p l e R s m args below meth c A Q D nL (ws.set q0 (a, .inr (ci, fs.set k v))) cells slots (pc + 3) lv st) : cGo p l e R s m args below meth c A Q D nL ws cells slots pc lv (v :: .ref a :: st) := fun H locs ls P DD S L => by
  obtain ⟨e1, e2, e3⟩ := mFl_ok _ hl
  exact va_put C.1 C.2.1 C.2.2.2.2.1 (cIn ci e2) (mTyp ci) (mTyX ci e2) (mNmX ci e2) C.2.2.2.1 C.2.2.2.2.2.1 P DD S q0 he (mCl_lt ci e2) k e3 (C.2.2.2.2.1 _ (cMem e1 rfl)) (fun _ z => z) hfin (mTyX ci e2 k e3) hty.1 hty.2 hk hdg (fun H1 locs1 P1 D1 S1 => kk H1 locs1 ls P1 D1 S1 L)
theorem g_putF {a q0 ci k i n : Nat} {fs : List Value} {v : Value} (C : cCx p s m args meth c ow cc nL D cI cZ cN) (hin2 : meth.name = "<init>") (hl : (ow, i, ci, k, n) ∈ mFl) (hfin : (mT ci k).2.2.2 = true) (hdc : (mT ci k).1 = mRn ow) (hty : narrow (mTyp ci k) v = v ∧ fits (mTyp ci k) v = true) (he : ws[q0]? = some (a, .inr (ci, fs))) (hk : k < fs.length) (hdg : decode cc pc = .ok (.putfield i, 3)) (kk : cGo p l e R s m args below meth c A Q D nL (ws.set q0 (a, .inr (ci, fs.set k v))) cells slots (pc + 3) lv st) : cGo p l e R s m args below meth c A Q D nL ws cells slots pc lv (v :: .ref a :: st) := fun H locs ls P DD S L => by
  obtain ⟨e1, e2, e3⟩ := mFl_ok _ hl
  exact va_putF C.1 C.2.1 C.2.2.2.2.1 (cIn ci e2) (mTyp ci) (mTyX ci e2) (mNmX ci e2) C.2.2.2.1 C.2.2.2.2.2.1 P DD S q0 he (mCl_lt ci e2) k e3 (C.2.2.2.2.1 _ (cMem e1 rfl)) (fun _ z => z) hfin hin2 hdc (mTyX ci e2 k e3) hty.1 hty.2 hk hdg (fun H1 locs1 P1 D1 S1 => kk H1 locs1 ls P1 D1 S1 L)
theorem cSame {cA cB : ClassId} {nm : String} (h1 : s.vm.findClass nm = some cA) (h2 : s.vm.findClass nm = some cB) : cA = cB := Option.some.inj (h1.symm.trans h2)
theorem g_newi {N' z : Nat} {n : Int32} (C : cCx p s m args meth c ow cc nL D cI cZ cN) (hA : ∀ q, s.heap.size ≤ q → A q) (hw : lw_tbl[z]? = some (.arrayClass .int)) (hn : ¬ n < 0) (hN : n.toNatClampNeg = N') (hb : N' ≤ 60000) (hc : cells + 1 ≤ R.cells) (hs : slots + N' ≤ R.slots) (hdg : decode cc pc = .ok (.newarray .int, 2)) (kk : ∀ q : Nat, cGo p l e R s m args below meth c A Q D nL (ws ++ [(q, .inl (cI, N', .inl (fun _ => 0)))]) (cells + 1) (slots + N') (pc + 2) lv (.ref q :: st)) : cGo p l e R s m args below meth c A Q D nL ws cells slots pc lv (.int n :: st) := fun H locs ls P DD S L => by
  refine va_newa C.1 C.2.1 (atype := .int) (C.2.2.2.2.1 _ (cMem hw rfl)) (ty := .int) rfl C.2.2.2.2.2.1 P DD S hA (a0 := (N', .inl (fun _ => 0))) (fun cA => rfl) hn hN (by show N' * 4 ≤ 536870912; omega) hc hs hdg (fun q cA H1 K1 P1 D1 S1 => ?_)
  have e : cA = cI := cSame (K1.2 3 (cA, .int) rfl).2 (C.2.2.2.2.2.1.2 0 (cI, .int) rfl).2
  subst e
  exact kk q H1 locs ls P1 D1 S1 L
theorem g_newz {N' z : Nat} {n : Int32} (C : cCx p s m args meth c ow cc nL D cI cZ cN) (hA : ∀ q, s.heap.size ≤ q → A q) (hw : lw_tbl[z]? = some (.arrayClass .boolean)) (hn : ¬ n < 0) (hN : n.toNatClampNeg = N') (hb : N' ≤ 60000) (hc : cells + 1 ≤ R.cells) (hs : slots + N' ≤ R.slots) (hdg : decode cc pc = .ok (.newarray .boolean, 2)) (kk : ∀ q : Nat, cGo p l e R s m args below meth c A Q D nL (ws ++ [(q, .inl (cZ, N', .inl (fun _ => 0)))]) (cells + 1) (slots + N') (pc + 2) lv (.ref q :: st)) : cGo p l e R s m args below meth c A Q D nL ws cells slots pc lv (.int n :: st) := fun H locs ls P DD S L => by
  refine va_newa C.1 C.2.1 (atype := .boolean) (C.2.2.2.2.1 _ (cMem hw rfl)) (ty := .boolean) rfl C.2.2.2.2.2.1 P DD S hA (a0 := (N', .inl (fun _ => 0))) (fun cA => rfl) hn hN (by show N' * 1 ≤ 536870912; omega) hc hs hdg (fun q cA H1 K1 P1 D1 S1 => ?_)
  have e : cA = cZ := cSame (K1.2 3 (cA, .boolean) rfl).2 (C.2.2.2.2.2.1.2 1 (cZ, .boolean) rfl).2
  subst e
  exact kk q H1 locs ls P1 D1 S1 L
theorem g_newq {N' z2 i : Nat} {n : Int32} (C : cCx p s m args meth c ow cc nL D cI cZ cN) (hA : ∀ q, s.heap.size ≤ q → A q) (hw2 : lw_tbl[z2]? = some (.classLink (mRn ow) i "KeptColours$Net")) (hn : ¬ n < 0) (hN : n.toNatClampNeg = N') (hb : N' ≤ 60000) (hc : cells + 1 ≤ R.cells) (hs : slots + N' ≤ R.slots) (hdg : decode cc pc = .ok (.anewarray i, 3)) (kk : ∀ q : Nat, cGo p l e R s m args below meth c A Q D nL (ws ++ [(q, .inl (cN, N', .inr (.inr (.inr (.inr (fun _ => none))))))]) (cells + 1) (slots + N') (pc + 3) lv (.ref q :: st)) : cGo p l e R s m args below meth c A Q D nL ws cells slots pc lv (.int n :: st) := fun H locs ls P DD S L => by
  refine va_newq C.1 C.2.1 C.2.2.2.1 (C.2.2.2.2.1 _ (cMem hw2 rfl)) C.2.2.2.2.2.2.2 C.2.2.2.2.2.1 P DD S hA hn hN (by omega) hc hs hdg (fun q cA H1 K1 P1 D1 S1 => ?_)
  obtain ⟨_, _, _, _, _, f1⟩ := (K1.2 3 (cA, .object "KeptColours$Net") rfl).2
  obtain ⟨_, _, _, _, _, f2⟩ := (C.2.2.2.2.2.1.2 2 (cN, .object "KeptColours$Net") rfl).2
  have e : cA = cN := cSame f1 f2
  subst e
  exact kk q H1 locs ls P1 D1 S1 L
theorem g_new {ci i z1 z2 z3 : Nat} {fs : List Value} (C : cCx p s m args meth c ow cc nL D cI cZ cN) (hA : ∀ q, s.heap.size ≤ q → A q) (hci : ci < 10) (hw1 : lw_tbl[z1]? = some (.classLink (mRn ow) i (mRn ci))) (hw2 : lw_tbl[z2]? = some (.instantiable (mRn ci) (mN ci))) (hw3 : lw_tbl[z3]? = some (.initialized (mRn ci))) (hfs : ∀ j, j < mN ci → defaultValue (mTyp ci j) = vp_V fs j) (hc : cells + 1 ≤ R.cells) (hs : slots + mN ci ≤ R.slots) (hdg : decode cc pc = .ok (.new i, 3)) (kk : ∀ q : Nat, cGo p l e R s m args below meth c A Q D nL (ws ++ [(q, .inr (ci, fs))]) (cells + 1) (slots + mN ci) (pc + 3) lv (.ref q :: st)) : cGo p l e R s m args below meth c A Q D nL ws cells slots pc lv st := fun H locs ls P DD S L =>
  va_new C.1 C.2.1 C.2.2.2.2.1 (cIn ci hci) (mTyp ci) (mTyX ci hci) C.2.2.2.1 (C.2.2.2.2.1 _ (cMem hw1 rfl)) (C.2.2.2.2.1 _ (cMem hw2 rfl)) (C.2.2.2.2.1 _ (cMem hw3 rfl)) C.2.2.2.2.2.1 P DD S hA (mCl_lt ci hci) hfs hc hs hdg (fun q H1 P1 D1 S1 => kk q H1 locs ls P1 D1 S1 L)
theorem g_obj {a i z1 z2 z3 : Nat} (C : cCx p s m args meth c ow cc nL D cI cZ cN) (hw1 : lw_tbl[z1]? = some (.methodLink (mRn ow) i objectInit)) (hw2 : lw_tbl[z2]? = some (.instanceMethod objectInit)) (hw3 : lw_tbl[z3]? = some (.code objectInit ⟨#[0xb1]⟩ 1 none)) (hdg : decode cc pc = .ok (.invokespecial i, 3)) (hf : 1 ≤ R.frames) (hlo : (st.map fun v => v.category).sum + 12 ≤ R.locals) (kk : cGo p l e R s m args below meth c A Q D nL ws cells slots (pc + 3) lv st) : cGo p l e R s m args below meth c A Q D nL ws cells slots pc lv (.ref a :: st) := fun H locs ls P DD S L => by
  refine W.objInit C.1 C.2.1 C.2.2.2.1 (C.2.2.2.2.1 _ (cMem hw1 rfl)) (C.2.2.2.2.1 _ (cMem hw2 rfl)) (C.2.2.2.2.1 _ (cMem hw3 rfl)) rfl (by rw [C.2.2.1]; exact L.1) rfl hdg hf (by show 2 * 0 + _ + 12 ≤ _; omega) ?_
  exact W.eq (g2 := F0 m (pc + 3) ls st) rfl (kk H locs ls P DD S L)
end Grow
