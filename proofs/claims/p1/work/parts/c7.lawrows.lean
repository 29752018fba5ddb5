/-! the law's body: what begins it is the kit's skeleton, then rows -/
/-! THE CLAIM OUT OF ONE WALK OF THE LAW'S BODY. Your part is whole_start (and what it stands on); all else here is the same for every law, but numbers. -/
def R_law : String := "KeptColoursLaw"
def lw_P (b : Addr) (xs : List Int32) (args : Array Value) (s : State) : Prop := args = #[.ref b] ∧ s.IntsAt b xs ∧ xs.length ≤ 4 ∧ (Jvm.Cond.and given_1 narrow_1).before args s = true
def lw_Q (_ : Array Value) (s : State) (o : Outcome) (t : State) : Prop := o = .returned (some (.int 1)) ∧ Framed s o t [] 600000 7302249
def lw_Z (below : List Frame) (a : Array Value) (s : State) : State → Prop := fun t => ∃ o, t.status = .running ∧ Ended t below o ∧ lw_Q a s o t
/-- the law's own end, with 1 on the stack, nothing written that was there before, its room as the claim has it -/
theorem lw_ret {p : Program} {l : Launch} {e : Env} {s : State} {m : MethodId} {below : List Frame} {meth : Method} {c : Code} {b : Nat} (hx : p.tables.exec = Jvm.exec) (hb : c.code = code) (hr : meth.sig.returnType = ret) (hlocks : meth.locks = false) {pc : Nat} {H : Heap} {ls : Array Slot} (hdg : decode code pc = .ok (.ireturn, 1)) : W p l e room_1 s m #[Value.ref b] below meth c H [] 600000 7302249 (lw_Z below #[Value.ref b] s) (F0 m pc ls [.int 1]) := by
  intro T hT X
  obtain ⟨fs, hret, hrun, hended, hW, hframe⟩ := X.leave (v := some (.int 1)) (hlocks := hlocks) (fun h => by rw [hr] at h; cases h)
  have hmeth' : T.vm.method? m = some meth := X.method'
  refine ⟨T.setFrames fs, ?_, .returned (some (.int 1)), hrun, hended, rfl, ⟨_, rfl⟩, hW, hframe⟩
  jvm_step X.here [X.here.top, hx, hb, hdg, hmeth', hr, ret, narrow_b1]
  (try refine ⟨rfl, ?_⟩); (try refine ⟨rfl, ?_⟩)
  first | (intro acts; rw [hret _ acts rfl rfl rfl]) | rw [hret _ _ rfl rfl rfl]
  exact Steps.refl _
/-- what holds at the law's entry: the machine, the code, the tables' words (any of lw_tbl by 'hts w (by decide +kernel)'), the script of L ints xs at the cell b, what the Statement gives of the start (any of its parts by flat_of_before) -/
def lw_At (p : Program) (s : State) (m : MethodId) (meth : Method) (c : Code) (b L : Nat) (xs : Nat → Int32) : Prop :=
  p.tables.exec = Jvm.exec ∧ c.code = code ∧ meth.sig.returnType = ret ∧ c.maxLocals = 4 ∧ s.vm.findClass R_law = some m.cls ∧ (∀ w ∈ lw_tbl, w.before #[Value.ref b] s = true) ∧ va_X b L xs s s.heap ∧ b < s.heap.size ∧ meth.locks = false ∧ (Jvm.Cond.and given_1 narrow_1).before #[Value.ref b] s = true
def lCx (p : Program) (_l : Launch) (_e : Env) (s : State) (m : MethodId) (_below : List Frame) (meth : Method) (c : Code) (b L : Nat) (xs : Nat → Int32) (g : mG) : Prop := lw_At p s m meth c b L xs ∧ va_K g.1 vwCl (mTy g) s ∧ mZ g s s.heap ∧ ∀ q, mA g q → s.heap.size ≤ q
def lGo (p : Program) (l : Launch) (e : Env) (s : State) (m : MethodId) (below : List Frame) (meth : Method) (c : Code) (b : Nat) (g : mG) (k : Nat) (h : mMem) (pc : Nat) (st : List Value) : Prop :=
  ∀ (H : Heap) (locs : List Loc) (ls : Array Slot), va_P g.1 vwCl (mW g h) H → va_D (mA g) (mW g h) → va_S (fun q => s.heap.size ≤ q) s.heap H locs → lv_has ls 4 [(0, .ref b), (1, .ref (g.2.2 (8, 0))), (2, .ref (g.2.2 (9, 0))), (3, .int (Int32.ofInt (k : Int)))] → W p l e room_1 s m #[Value.ref b] below meth c H locs 77 65260 (lw_Z below #[Value.ref b] s) (F0 m pc ls st)
theorem la_ok {r : mRef} {as : List mRV} (hr : r ∈ mLq) (h : ∀ a ∈ as, mV a) : ∀ a ∈ (.inr r :: as : List mRV), mV a := by
  intro a ha
  rcases List.mem_cons.mp ha with rfl | z
  · exact hr
  · exact h a z
theorem la_args0 : ∀ a ∈ ([] : List mRV), mV a := fun a h => by cases h
theorem la_args1 (x : Int) {z : Int32} (hx : x = z.toInt := by rfl) : ∀ a ∈ ([.inl x] : List mRV), mV a := by
  intro a ha
  rw [List.mem_singleton.mp ha, hx]
  exact mIr_to _
theorem la_args2 (x y : Int) {z w : Int32} (hx : x = z.toInt := by rfl) (hy : y = w.toInt := by rfl) : ∀ a ∈ ([.inl x, .inl y] : List mRV), mV a := by
  intro a ha
  rcases List.mem_cons.mp ha with rfl | q
  · rw [hx]; exact mIr_to _
  · exact la_args1 y hy a q
theorem la_args3 (x y u : Int) {z w v : Int32} (hx : x = z.toInt := by rfl) (hy : y = w.toInt := by rfl) (hu : u = v.toInt := by rfl) : ∀ a ∈ ([.inl x, .inl y, .inl u] : List mRV), mV a := by
  intro a ha
  rcases List.mem_cons.mp ha with rfl | q
  · rw [hx]; exact mIr_to _
  · exact la_args2 y u hy hu a q
section LawRows
variable {p : Program} {l : Launch} {e : Env} {s : State} {m : MethodId} {below : List Frame} {meth : Method} {c : Code} {b L k : Nat} {xs : Nat → Int32} {g : mG} {h : mMem} {pc : Nat} {st : List Value}
theorem la_self (C : lCx p l e s m below meth c b L xs g) (hd : decode code pc = .ok (.aload_n 1, 1)) (kk : lGo p l e s m below meth c b g k h (pc + 1) (.ref (g.2.2 (8, 0)) :: st)) : lGo p l e s m below meth c b g k h pc st := fun H locs ls P D S V =>
  lv_aload_n C.1.1 C.1.2.1 hd rfl (lv_at V 1 rfl) (kk H locs ls P D S V)
theorem la_twin (C : lCx p l e s m below meth c b L xs g) (hd : decode code pc = .ok (.aload_n 2, 1)) (kk : lGo p l e s m below meth c b g k h (pc + 1) (.ref (g.2.2 (9, 0)) :: st)) : lGo p l e s m below meth c b g k h pc st := fun H locs ls P D S V =>
  lv_aload_n C.1.1 C.1.2.1 hd rfl (lv_at V 2 rfl) (kk H locs ls P D S V)
theorem la_eq {x : Int32} {off : Int} (C : lCx p l e s m below meth c b L xs g) (hd : decode code pc = .ok (.if_icmp .eq off, 3)) (ht : (pc : Int) + off = ((908 : Nat) : Int)) (kk : lGo p l e s m below meth c b g k h 908 st) : lGo p l e s m below meth c b g k h pc (.int x :: .int x :: st) := fun H locs ls P D S V =>
  lv_icmp_eq C.1.1 C.1.2.1 hd ht (fun _ => kk H locs ls P D S V) (fun z => absurd rfl z)
theorem la_pop {x : Int32} (C : lCx p l e s m below meth c b L xs g) (hd : decode code pc = .ok (.pop, 1)) (kk : lGo p l e s m below meth c b g k h (pc + 1) st) : lGo p l e s m below meth c b g k h pc (.int x :: st) := fun H locs ls P D S V =>
  lv_pop C.1.1 C.1.2.1 hd rfl (kk H locs ls P D S V)
theorem la_goto {off : Int} {tgt : Nat} (C : lCx p l e s m below meth c b L xs g) (hd : decode code pc = .ok (.goto off, 3)) (ht : (pc : Int) + off = (tgt : Int)) (kk : lGo p l e s m below meth c b g k h tgt st) : lGo p l e s m below meth c b g k h pc st := fun H locs ls P D S V =>
  lv_goto C.1.1 C.1.2.1 hd ht (kk H locs ls P D S V)
theorem la_sum (k j : Nat) : Int32.ofInt (k : Int) + Int32.ofInt (j : Int) = Int32.ofInt ((k + j : Nat) : Int) := by
  rw [← Int32.ofInt_add]
  rfl
theorem la_at {x : Nat} (C : lCx p l e s m below meth c b L xs g) (hL : L ≤ 2048) (hx : x < L) {H : Heap} {locs : List Loc} {ls : Array Slot} (S : va_S (fun q => s.heap.size ≤ q) s.heap H locs) (hd : decode code pc = .ok (.iaload, 1)) (kk : W p l e room_1 s m #[Value.ref b] below meth c H locs 77 65260 (lw_Z below #[Value.ref b] s) (F0 m (pc + 1) ls (.int (Int32.ofInt (xs x).toInt) :: st))) : W p l e room_1 s m #[Value.ref b] below meth c H locs 77 65260 (lw_Z below #[Value.ref b] s) (F0 m pc ls (.int (Int32.ofInt (x : Int)) :: .ref b :: st)) := by
  obtain ⟨hx1, hb, hr, hml, hown, hts, hX, hbl, hlocks, hgv⟩ := C.1
  have hir : mIr (x : Int) := ⟨by omega, by omega⟩
  refine va_sld hx1 hb hX hbl (by show ¬ s.heap.size ≤ b; omega) S (mIn_of hir (by omega) (by omega)) hd ?_
  rw [mNat hir, Int.toNat_natCast, ← Int32.ofInt_toInt (xs x)]
  exact kk
theorem la_arg {j : Nat} (C : lCx p l e s m below meth c b L xs g) (hL : L ≤ 2048) (hj : k + j < L) (d1 : decode code pc = .ok (.aload_n 0, 1)) (d2 : decode code (pc + 1) = .ok (.iload_n 3, 1)) (d3 : decode code (pc + 2) = .ok (.iconst (j : Int), 1)) (d4 : decode code (pc + 3) = .ok (.iadd, 1)) (d5 : decode code (pc + 4) = .ok (.iaload, 1))
    (kk : lGo p l e s m below meth c b g k h (pc + 5) (.int (Int32.ofInt (xs (k + j)).toInt) :: st)) : lGo p l e s m below meth c b g k h pc st := fun H locs ls P D S V => by
  have hx := C.1.1
  have hb := C.1.2.1
  refine lv_aload_n hx hb d1 rfl (lv_at V 0 rfl) ?_
  refine lv_iload_n hx hb d2 rfl (lv_at V 3 rfl) ?_
  refine lv_iconst hx hb d3 rfl ?_
  refine lv_iadd hx hb d4 ?_
  rw [la_sum k j]
  exact la_at C hL hj S d5 (kk H locs ls P D S V)
theorem la_call {i m' d z : Nat} {r : mRef} {as : List mRV} {rest : List Value} {fs : List mFd} {Kc : Option mRV → mMem → Prop} (C : lCx p l e s m below meth c b L xs g) (hd : decode code pc = .ok (.invokevirtual i, 3)) (hz : (10, i, m', 0, z) ∈ mKl) (hm : m' < mMl.length) (hn : as.length = (mMt m').2.2.2.2.2.2.2.2.2.2) (hsh : mSh r.1 = .inl ((mMt m').1, fs)) (h8 : (rest.map fun v => v.category).sum ≤ 8) (hok : ∀ a ∈ (.inr r :: as : List mRV), mV a) (ok : mMok h) (hdm : d ≤ 800)
    (hc : mCon l g m' d (.inr r :: as) h Kc) (kk : ∀ (v : Option mRV) (h1 : mMem), Kc v h1 → mMok h1 → lGo p l e s m below meth c b g k h1 (pc + 3) ((v.map (mCv g.2.2)).toList ++ rest)) : lGo p l e s m below meth c b g k h pc ((as.map (mCv g.2.2)).reverse ++ .ref (g.2.2 r) :: rest) := fun H locs ls P D S V => by
  obtain ⟨⟨hx, hb, hr, hml, hown, hts, hX, hbl, hlocks, hgv⟩, hK, hZ, hAg⟩ := C
  have hmem := mMt_mem hm
  have hM := hc hok ok
  generalize hnn : (mMt m').2.2.2.2.2.2.2.2.2.2 = n at *
  obtain ⟨hi1, hi2, hi3⟩ := mMl_init _ hmem
  have hcls := mMl_cls _ hmem
  have hdesc := mMl_desc _ hmem
  rw [hnn] at hdesc
  have htw : ∀ w ∈ mWds, w.before #[Value.ref b] s = true := fun w hw => hts w (List.mem_filter.mp hw).1
  have hfit : (8 : Nat) + ((mMt m').2.2.2.1 + 11) + (mRm d).locals ≤ room_1.locals := by
    have : ∀ e ∈ mMl, e.2.2.2.1 ≤ 80 := by decide +kernel
    have h80 := this _ hmem
    have h84 : room_1.locals = 84000 := rfl
    rw [h84]
    show 8 + ((mMt m').2.2.2.1 + 11) + 100 * d ≤ 84000
    omega
  have hfr : (mRm d).frames + 1 ≤ room_1.frames := by
    have h20 : room_1.frames = 2048 := rfl
    rw [h20]
    show d + 1 ≤ 2048
    omega
  have S2 : ∀ a : Nat, a < s.heap.size → ¬ mA g a → H[a]? = s.heap[a]? := fun a h1 _ => S.2.1 a h1 (by show ¬ s.heap.size ≤ a; omega)
  obtain ⟨hL, hci, -, -⟩ := mObj (hok _ List.mem_cons_self) hsh
  obtain ⟨q, hq⟩ := List.getElem?_of_mem hL
  have hrecv := va_recv hK P (mCl_lt _ hci) (q0 := q) (a := g.2.2 r) (fs := mFs g h r fs 0) (by rw [mW_at hq, mElt_o hsh])
  have hpre : PreV s H (mMt m').2.1.cls (g.2.2 r) (va_Pc (((.inr r :: as : List mRV)).map (mCv g.2.2)) (fun U => mRep g h U U.heap)) (as.map (mCv g.2.2)) :=
    ⟨fun a U q mk z => ⟨z.1, mRep_call z.2⟩, by rw [hi2]; exact hrecv, fun U hU hW => ⟨rfl, by
      subst hU
      exact ⟨P, va_K.moved hW.alike hK, D, mZ_warm hW (mZ_kept hZ S2)⟩⟩⟩
  have hown2 : s.vm.findClass (mRn 10) = some m.cls := hown
  have fin : va_Run p l e room_1 s m #[Value.ref b] below meth c H locs 77 65260 0 0 (F0 m pc ls ((as.map (mCv g.2.2)).reverse ++ .ref (g.2.2 r) :: rest)) rest (mQ g Kc (Value.ref (g.2.2 r) :: as.map (mCv g.2.2)).toArray) (mA g) := by
    rcases mKl_ok _ hz with ⟨z1, z2, z3⟩ | ⟨z1, z2, z3⟩ | ⟨z1, z2, z3⟩
    · rcases mMl_kind _ hmem with ⟨-, y2, y3⟩ | ⟨y1, -⟩
      · refine va_runV (own := mRn 10) (Ts := mWds) (nL := 4) (C := (mMt m').2.1.cls) (bytes := (mMt m').2.2.1) (maxL := (mMt m').2.2.2.1) (ret := (mMt m').2.2.2.2.1) ⟨hx, hb, hml, hown2, htw⟩ hM ⟨callB_of (ws' := mWds) n htw (cGood (cMem (mMl_code _ hmem) rfl)) rfl rfl rfl (htw _ (cMem hi1 rfl)) (htw _ (cMem z3 rfl)) ⟨hcls.2.1, hcls.2.2, hdesc⟩ ⟨hfr, hfit⟩, htw _ (cMem y2 rfl), htw _ (cMem y3 rfl)⟩ hpre rfl (by rw [List.length_map]; exact hn) V.1 rfl (lv_room h8) hd ⟨by decide, by decide⟩
      · exact absurd (z2.symm.trans y1) (by decide)
    · exact absurd (show (0 : Nat) = 1 from z1) (by decide)
    · exact absurd (show (0 : Nat) = 2 from z1) (by decide)
  intro T hT X
  obtain ⟨v, st₀, t, T', L', h0, X', hL', e1, e2, ⟨⟨w, h1, hv, hKc, hwv, hok1, hrep⟩, hz1, hk1⟩, stp⟩ := fin T hT X
  cases hv
  rw [h0] at hz1 hk1
  obtain ⟨t2, a1, b1⟩ := kk w h1 hKc hok1 T'.heap (locs ++ L') ls (by rw [e1]; exact hrep.1) hrep.2.2.1 ⟨Nat.le_trans S.1 (by rw [e1]; exact hz1), fun q q1 q2 => by
      have q3 : ¬ mA g q := fun y => q2 (hAg q y)
      rw [e1, hk1 q (Nat.lt_of_lt_of_le q1 S.1) q3]
      exact S.2.1 q q1 q2, fun q hq => by
      rcases List.mem_append.mp hq with z | z
      · exact S.2.2 q z
      · exact hAg _ (hL' q z)⟩ V T' rfl X'
  exact ⟨t2, stp t2 a1, b1⟩
end LawRows
theorem spListed_ans (S : sS) (n k : Int) : (spListedK S n k).1 = (spListed S n k).1 := by
  unfold spListedK spListed
  split
  · split
    · rfl
    · cases (lvN (bL S.1 n.toNat))[k.toNat]? <;> rfl
  · rfl
theorem spPut_ans (S : sS) (k : Int) : (spPutK S k).1 = (spPut S k).1 := by
  unfold spPutK spPut
  split
  · split
    · rfl
    · cases (lvN (bP S.1))[k.toNat]? <;> rfl
  · rfl
