/-! calls, returns, entry; the meaning of a step is sound -/
theorem mNst_warm {s U : State} (hW : s.WarmedH U.vm) (h : mNst s) : mNst U := by
  intro w hw hi
  have h1 := h w hw hi
  cases w <;> first | (cases hi; done) | exact va_Nw.warmF hW h1 | exact va_Nw.warmM hW h1
theorem mNst_same {s U : State} (hv : s.vm = U.vm) (h : mNst s) : mNst U := by
  intro w hw hi
  have h1 := h w hw hi
  cases w <;> first | (cases hi; done) | exact va_Nw.same rfl hv h1
theorem mZ_warm {g : mG} {s U : State} {H : Heap} (hW : s.WarmedH U.vm) (h : mZ g s H) : mZ g U H :=
  ⟨mNst_warm hW h.1, fun t ht => ⟨va_Z.moved hW.alike (h.2 t ht).1, va_T.moved hW.alike (h.2 t ht).2⟩⟩
theorem mZ_kept {g : mG} {U : State} {H H1 : Heap} (h : mZ g U H) (hq : ∀ a : Nat, a < H.size → ¬ mA g a → H1[a]? = H[a]?) : mZ g U H1 :=
  ⟨h.1, fun t ht => ⟨va_Z.kept (h.2 t ht).1 hq, va_T.kept (h.2 t ht).2 hq⟩⟩
theorem mRep_call {g : mG} {h : mMem} {U : State} {q : JFrame} {mk : MethodId} {a : Array Value} (r : mRep g h U U.heap) : mRep g h (U.calling q mk a) (U.calling q mk a).heap :=
  ⟨r.1, va_K.moved (u := U) (U := U.calling q mk a) (Vm.Alike.refl U.vm) r.2.1, r.2.2.1, mNst_same (s := U) (U := U.calling q mk a) rfl r.2.2.2.1, fun t ht => ⟨va_Z.moved (u := U) (U := U.calling q mk a) (Vm.Alike.refl U.vm) (r.2.2.2.2 t ht).1, va_T.moved (u := U) (U := U.calling q mk a) (Vm.Alike.refl U.vm) (r.2.2.2.2 t ht).2⟩⟩
theorem mCats (ad : mRef → Nat) : ∀ st : List mRV, ((st.map (mCv ad)).map fun v => v.category).sum = st.length
  | [] => rfl
  | v :: st => by simp only [List.map_cons, List.sum_cons, mCat, mCats ad st, List.length_cons]; omega
section Snd
variable {l : Launch} {g : mG} {mi : mMi} {d pc : Nat} {K : Option mRV → mMem → Prop} {xs : mXs} {st : List mRV} {h : mMem}
theorem mRep_of {p : Program} {s t : State} {m : MethodId} {args : Array Value} {meth : Method} {c : Code} {H : Heap} {locs : List Loc} (C : mCx p s m args meth c mi g) (P : va_P g.1 vwCl (mW g h) H) (D : va_D (mA g) (mW g h)) (S : va_S (mA g) s.heap H locs) (ht : t.heap = H) (hW : s.WarmedH t.vm) : mRep g h t t.heap := by
  obtain ⟨hx, hb, hml, hr, hown, hts, hlk, hK, hZ⟩ := C
  subst ht
  exact ⟨P, va_K.moved hW.alike hK, D, mZ_warm hW (mZ_kept hZ (fun a h1 h2 => S.2.1 a h1 h2))⟩
/-- behind a call -/
theorem mCall_on {p : Program} {e : Env} {s : State} {m : MethodId} {args : Array Value} {below : List Frame} {meth : Method} {c : Code} {H : Heap} {locs : List Loc} {ls : Array Slot} {Q : State → Prop} {R : Room} {Kc : Option mRV → mMem → Prop} {rest stk : List Value} {a : Array Value}
    (hr : va_Run p l e R s m args below meth c H locs 0 0 0 0 (F0 m pc ls stk) rest (mQ g Kc a) (mA g)) (S : va_S (mA g) s.heap H locs)
    (kk : ∀ (v : Option mRV) (h1 : mMem) (H1 : Heap) (locs1 : List Loc), Kc v h1 → (∀ w, v = some w → mV w) → mMok h1 → va_P g.1 vwCl (mW g h1) H1 → va_D (mA g) (mW g h1) → va_S (mA g) s.heap H1 locs1 → W p l e R s m args below meth c H1 locs1 0 0 Q (F0 m (pc + 3) ls ((v.map (mCv g.2.2)).toList ++ rest))) : W p l e R s m args below meth c H locs 0 0 Q (F0 m pc ls stk) := by
  intro T hT X
  obtain ⟨v, st₀, t, T', L, h0, X', hL, e1, e2, ⟨⟨w, h1, hv, hKc, hwv, hok, hrep⟩, hz, hk⟩, stp⟩ := hr T hT X
  cases hv
  rw [h0] at hz hk
  obtain ⟨t2, a1, b1⟩ := kk w h1 T'.heap (locs ++ L) hKc hwv hok (by rw [e1]; exact hrep.1) hrep.2.2.1
    ⟨Nat.le_trans S.1 (by rw [e1]; exact hz), fun q q1 q2 => by rw [e1, hk q (Nat.lt_of_lt_of_le q1 S.1) q2]; exact S.2.1 q q1 q2, fun q hq => by
      rcases List.mem_append.mp hq with z | z
      · exact S.2.2 q z
      · exact hL q z⟩ T' rfl X'
  exact ⟨t2, stp t2 a1, b1⟩
theorem mTake_ok {n : Nat} (O : mOk xs st h) : ∀ a ∈ (st.take n).reverse, mV a := fun a ha => O.2.1 a (List.mem_of_mem_take (List.mem_reverse.mp ha))
theorem mOk.ret {n : Nat} {v : Option mRV} {h1 : mMem} (O : mOk xs st h) (hv : ∀ w, v = some w → mV w) (hok : mMok h1) : mOk xs (v.toList ++ st.drop n) h1 := by
  refine ⟨O.1, fun w hw => ?_, hok⟩
  rcases List.mem_append.mp hw with z | z
  · exact hv w (Option.mem_toList.mp z)
  · exact O.2.1 w (List.mem_of_mem_drop z)
theorem mStk (ad : mRef → Nat) (n : Nat) (hn : n ≤ st.length) : st.map (mCv ad) = (((st.take n).reverse).map (mCv ad)).reverse ++ (st.drop n).map (mCv ad) := by
  rw [← List.map_reverse, List.reverse_reverse, ← List.map_append, List.take_append_drop]
theorem mRet_map (ad : mRef → Nat) (v : Option mRV) (n : Nat) : (v.toList ++ st.drop n).map (mCv ad) = (v.map (mCv ad)).toList ++ (st.drop n).map (mCv ad) := by
  cases v <;> simp
theorem r_static {i m' : Nat} (hd : decode mi.2.2.1 pc = .ok (.invokestatic i, 3)) (hl : ∃ k z, (k = 1 ∨ k = 2) ∧ (mi.1, i, m', k, z) ∈ mKl) (hm : m' < mMl.length) (hn : (mMt m').2.2.2.2.2.2.2.2.2.2 ≤ st.length) (hs : st.length ≤ 8)
    {Kc : Option mRV → mMem → Prop} (hkc : ∀ v h', Kc v h' → mGo l g mi d (pc + 3) xs (v.toList ++ st.drop (mMt m').2.2.2.2.2.2.2.2.2.2) h' K) (hc : mCall l g d m' (st.take (mMt m').2.2.2.2.2.2.2.2.2.2).reverse h Kc) : mGo l g mi d pc xs st h K := by
  intro p e s m args below meth c H locs ls C P D S L O
  obtain ⟨hx, hb, hml, hr, hown, hts, hlk, hK, hZ⟩ := id C
  cases d with
  | zero => exact hc.elim
  | succ d =>
    have hmem := mMt_mem hm
    have hM := hc (mTake_ok O) O.2.2
    generalize hnn : (mMt m').2.2.2.2.2.2.2.2.2.2 = n at *
    obtain ⟨k, z, hk, hz⟩ := hl
    obtain ⟨hi1, hi2, hi3⟩ := mMl_init _ hmem
    have hcls := mMl_cls _ hmem
    have hdesc := mMl_desc _ hmem
    rw [hnn] at hdesc
    have hfit : (8 : Nat) + ((mMt m').2.2.2.1 + 11) + (mRm d).locals ≤ (mRm (d + 1)).locals := by
      have : ∀ e ∈ mMl, e.2.2.2.1 ≤ 80 := by decide +kernel
      have h80 := this _ hmem
      show 8 + ((mMt m').2.2.2.1 + 11) + 100 * d ≤ 100 * (d + 1)
      omega
    have hpre : PreS s H (va_Pc (((st.take n).reverse).map (mCv g.2.2)) (fun U => mRep g h U U.heap)) (((st.take n).reverse).map (mCv g.2.2)) :=
      ⟨fun a U q mk z => ⟨z.1, mRep_call z.2⟩, fun U hU hW => ⟨rfl, mRep_of C P D S hU hW⟩⟩
    have hW8 : 2 * (F0 m pc ls (st.map (mCv g.2.2))).monitorRoom + (((st.drop n).map (mCv g.2.2)).map fun v => v.category).sum ≤ 8 := lv_room (by rw [mCats, List.length_drop]; omega)
    have hlen : (((st.take n).reverse).map (mCv g.2.2)).length = n := by rw [List.length_map, List.length_reverse, List.length_take]; omega
    have fin : va_Run p l e (mRm (d + 1)) s m args below meth c H locs 0 0 0 0 (F0 m pc ls (st.map (mCv g.2.2))) ((st.drop n).map (mCv g.2.2)) (mQ g Kc (((st.take n).reverse).map (mCv g.2.2)).toArray) (mA g) := by
      rcases mKl_ok _ hz with ⟨z1, -, -⟩ | ⟨z1, z2, z3⟩ | ⟨z1, z2, z3⟩
      · exact absurd z1 (by rcases hk with rfl | rfl <;> simp)
      · rcases mMl_kind _ hmem with ⟨y1, -⟩ | ⟨-, y2⟩
        · exact absurd (y1.symm.trans z2) (by decide)
        refine va_runS (own := mRn mi.1) (Ts := mWs mi) (nL := mi.2.2.2.1) ⟨hx, hb, hml, hown, hts⟩ hM (va_cwS (ws' := mWds) n hts ?_ rfl rfl rfl ⟨hcls.2.1, hcls.2.2, hdesc⟩ ⟨Nat.le_refl _, hfit⟩) hpre rfl hlen L.1 (mStk g.2.2 n hn) hW8 hd ⟨Nat.le_refl _, Nat.le_refl _⟩
        intro w hw
        rcases List.mem_append.mp hw with hw | hw
        · have key : w ∈ mWs mi ∧ goodWord w = true := by
            rcases List.mem_cons.mp hw with rfl | hw
            · exact ⟨mMem_w z3 rfl, rfl⟩
            rcases List.mem_cons.mp hw with rfl | hw
            · exact ⟨mMem_w y2 rfl, rfl⟩
            rcases List.mem_cons.mp hw with rfl | hw
            · exact ⟨mMem_w hi1 rfl, rfl⟩
            cases hw
          exact ⟨key.1, good_of_word key.2⟩
        · exact mGoodIn hmem w hw
      · rcases mMl_kind _ hmem with ⟨y1, -⟩ | ⟨-, y2⟩
        · exact absurd (y1.symm.trans z2) (by decide)
        exact va_runSN (own := mRn mi.1) (Ts := mWs mi) (nL := mi.2.2.2.1) ⟨hx, hb, hml, hown, hts⟩ hM ⟨va_cnB (Ts := mWs mi) (ws' := mWds) n hts (mGoodIn hmem) rfl rfl rfl (hZ.1 _ (List.mem_of_getElem? z3) rfl) (hts _ (mMem_w hi1 rfl)) ⟨hcls.2.1, hcls.2.2, hdesc⟩ ⟨Nat.le_refl _, hfit⟩, hts _ (mMem_w y2 rfl), trivial⟩ hpre rfl hlen L.1 (mStk g.2.2 n hn) hW8 hd ⟨Nat.le_refl _, Nat.le_refl _⟩
    refine mCall_on fin S (fun v h1 H1 locs1 hq hv hok P1 D1 S1 => ?_)
    have hW := hkc v h1 hq p e s m args below meth c H1 locs1 ls C P1 D1 S1 L (O.ret hv hok)
    rw [mRet_map] at hW
    exact hW
theorem r_virtual {i m' : Nat} {r : mRef} {as : List mRV} {fs : List mFd} (hd : decode mi.2.2.1 pc = .ok (.invokevirtual i, 3)) (hl : ∃ z, (mi.1, i, m', 0, z) ∈ mKl) (hm : m' < mMl.length) (hn : (mMt m').2.2.2.2.2.2.2.2.2.2 + 1 ≤ st.length) (hs : st.length ≤ 8)
    (ha : (st.take ((mMt m').2.2.2.2.2.2.2.2.2.2 + 1)).reverse = .inr r :: as) (hsh : mSh r.1 = .inl ((mMt m').1, fs))
    {Kc : Option mRV → mMem → Prop} (hkc : ∀ v h', Kc v h' → mGo l g mi d (pc + 3) xs (v.toList ++ st.drop ((mMt m').2.2.2.2.2.2.2.2.2.2 + 1)) h' K) (hc : mCall l g d m' (.inr r :: as) h Kc) : mGo l g mi d pc xs st h K := by
  intro p e s m args below meth c H locs ls C P D S L O
  obtain ⟨hx, hb, hml, hr, hown, hts, hlk, hK, hZ⟩ := id C
  cases d with
  | zero => exact hc.elim
  | succ d =>
    have hmem := mMt_mem hm
    have hok := mTake_ok (n := (mMt m').2.2.2.2.2.2.2.2.2.2 + 1) O
    rw [ha] at hok
    have hM := hc hok O.2.2
    have hstk := mStk g.2.2 ((mMt m').2.2.2.2.2.2.2.2.2.2 + 1) hn
    have hlen : as.length = (mMt m').2.2.2.2.2.2.2.2.2.2 := by
      have := congrArg List.length ha
      rw [List.length_reverse, List.length_take, List.length_cons] at this
      omega
    rw [ha] at hstk
    generalize hnn : (mMt m').2.2.2.2.2.2.2.2.2.2 = n at *
    obtain ⟨z, hz⟩ := hl
    obtain ⟨hi1, hi2, hi3⟩ := mMl_init _ hmem
    have hcls := mMl_cls _ hmem
    have hdesc := mMl_desc _ hmem
    rw [hnn] at hdesc
    have hfit : (8 : Nat) + ((mMt m').2.2.2.1 + 11) + (mRm d).locals ≤ (mRm (d + 1)).locals := by
      have : ∀ e ∈ mMl, e.2.2.2.1 ≤ 80 := by decide +kernel
      have h80 := this _ hmem
      show 8 + ((mMt m').2.2.2.1 + 11) + 100 * d ≤ 100 * (d + 1)
      omega
    obtain ⟨hL, hci, -, -⟩ := mObj (hok _ List.mem_cons_self) hsh
    obtain ⟨q, hq⟩ := List.getElem?_of_mem hL
    have hrecv := va_recv hK P (mCl_lt _ hci) (q0 := q) (a := g.2.2 r) (fs := mFs g h r fs 0) (by rw [mW_at hq, mElt_o hsh])
    have hpre : PreV s H (mMt m').2.1.cls (g.2.2 r) (va_Pc (((.inr r :: as : List mRV)).map (mCv g.2.2)) (fun U => mRep g h U U.heap)) (as.map (mCv g.2.2)) :=
      ⟨fun a U q mk z => ⟨z.1, mRep_call z.2⟩, by rw [hi2]; exact hrecv, fun U hU hW => ⟨rfl, mRep_of C P D S hU hW⟩⟩
    have hW8 : 2 * (F0 m pc ls (st.map (mCv g.2.2))).monitorRoom + (((st.drop (n + 1)).map (mCv g.2.2)).map fun v => v.category).sum ≤ 8 := lv_room (by rw [mCats, List.length_drop]; omega)
    have fin : va_Run p l e (mRm (d + 1)) s m args below meth c H locs 0 0 0 0 (F0 m pc ls (st.map (mCv g.2.2))) ((st.drop (n + 1)).map (mCv g.2.2)) (mQ g Kc (Value.ref (g.2.2 r) :: as.map (mCv g.2.2)).toArray) (mA g) := by
      rcases mKl_ok _ hz with ⟨z1, z2, z3⟩ | ⟨z1, z2, z3⟩ | ⟨z1, z2, z3⟩
      · rcases mMl_kind _ hmem with ⟨-, y2, y3⟩ | ⟨y1, -⟩
        · refine va_runV (own := mRn mi.1) (Ts := mWs mi) (nL := mi.2.2.2.1) (C := (mMt m').2.1.cls) ⟨hx, hb, hml, hown, hts⟩ hM (cwV (ws' := mWds) n hts ?_ rfl rfl rfl ⟨rfl, hcls.2.1, hcls.2.2, hdesc⟩ ⟨Nat.le_refl _, hfit⟩) hpre rfl (by rw [List.length_map]; exact hlen) L.1 ?_ hW8 hd ⟨Nat.le_refl _, Nat.le_refl _⟩
          · intro w hw
            rcases List.mem_append.mp hw with hw | hw
            · have key : w ∈ mWs mi ∧ goodWord w = true := by
                rcases List.mem_cons.mp hw with rfl | hw
                · exact ⟨mMem_w z3 rfl, rfl⟩
                rcases List.mem_cons.mp hw with rfl | hw
                · exact ⟨mMem_w y2 rfl, rfl⟩
                rcases List.mem_cons.mp hw with rfl | hw
                · exact ⟨mMem_w y3 rfl, rfl⟩
                rcases List.mem_cons.mp hw with rfl | hw
                · exact ⟨mMem_w hi1 rfl, rfl⟩
                cases hw
              exact ⟨key.1, good_of_word key.2⟩
            · exact mGoodIn hmem w hw
          · show st.map (mCv g.2.2) = _
            rw [hstk]
            simp [mCv]
        · exact absurd (z2.symm.trans y1) (by decide)
      · exact absurd (show (0 : Nat) = 1 from z1) (by decide)
      · exact absurd (show (0 : Nat) = 2 from z1) (by decide)
    refine mCall_on fin S (fun v h1 H1 locs1 hq hv hok P1 D1 S1 => ?_)
    have hW := hkc v h1 hq p e s m args below meth c H1 locs1 ls C P1 D1 S1 L (O.ret hv hok)
    rw [mRet_map] at hW
    exact hW
theorem r_iret {v : Int} (hd : decode mi.2.2.1 pc = .ok (.ireturn, 1)) (hz : mi.2.2.2.2.1 = some .int ∨ (mi.2.2.2.2.1 = some .boolean ∧ (v = 0 ∨ v = 1))) (k : K (some (.inl v)) h) : mGo l g mi d pc xs [.inl v] h K := by
  intro p e s m args below meth c H locs ls C P D S L O
  obtain ⟨hx, hb, hml, hr, hown, hts, hlk, hK, hZ⟩ := id C
  have fin : ∀ t : State, t.heap = H → s.WarmedH t.vm → mQ g K args s (.returned (some (.int (Int32.ofInt v)))) t := fun t ht hW =>
    ⟨⟨some (.inl v), h, rfl, k, fun w hw => by cases hw; exact O.top, O.2.2, mRep_of C P D S ht hW⟩, S.F ht⟩
  rcases hz with z | ⟨z, zz⟩
  · exact W.zret (ty := .int) hx hb (hr.trans z) rfl fin (fun q hq => S.2.2 q hq) hd hlk
  · exact W.zret (ty := .boolean) hx hb (hr.trans z) (by rcases zz with rfl | rfl <;> rfl) fin (fun q hq => S.2.2 q hq) hd hlk
theorem r_ret (hd : decode mi.2.2.1 pc = .ok (.return_, 1)) (hz : mi.2.2.2.2.1 = none) (k : K none h) : mGo l g mi d pc xs [] h K := by
  intro p e s m args below meth c H locs ls C P D S L O
  obtain ⟨hx, hb, hml, hr, hown, hts, hlk, hK, hZ⟩ := id C
  exact W.vret hx hb (hr.trans hz) (fun t ht hW => ⟨⟨none, h, rfl, k, fun w hw => (by cases hw), O.2.2, mRep_of C P D S ht hW⟩, S.F ht⟩) (fun q hq => S.2.2 q hq) hd hlk
end Snd
/-! the entry -/
theorem mSl_val (ad : mRef → Nat) : ∀ as : List mRV, lg_sl (as.map (mCv ad)) = as.map (fun v => Slot.val (mCv ad v))
  | [] => rfl
  | v :: as => by
    have h1 := mSl_val ad as
    unfold lg_sl at h1 ⊢
    rw [List.map_cons, List.flatMap_cons, h1, mCat]
    rfl
theorem mArgs_mem (ad : mRef → Nat) : ∀ (as : List mRV) (i k : Nat) (v : mRV), as[k]? = some v → (i + k, mCv ad v) ∈ lv_args i (as.map (mCv ad))
  | [], i, k, v, h => by simp at h
  | a :: as, i, 0, v, h => by
    simp at h
    subst h
    exact List.mem_cons_self
  | a :: as, i, k + 1, v, h => by
    simp only [List.getElem?_cons_succ] at h
    have h1 := mArgs_mem ad as (i + 1) k v h
    simp only [List.map_cons, lv_args, mCat]
    refine List.mem_cons_of_mem _ ?_
    rw [show i + (k + 1) = i + 1 + k by omega]
    exact h1
def mXs0 (as : List mRV) (n : Nat) : mXs := as.map some ++ List.replicate (n - as.length) none
theorem mCon_of {l : Launch} {g : mG} {m d : Nat} {as : List mRV} {h : mMem} {K : Option mRV → mMem → Prop} (hm : m < mMl.length) (hl : as.length ≤ (mMt m).2.2.2.1)
    (k : (∀ a ∈ as, mV a) → mMok h → mGo l g (mMt m) d 0 (mXs0 as (mMt m).2.2.2.1) [] h K) : mCon l g m d as h K := by
  intro hv hok
  have hmem := mMt_mem hm
  obtain ⟨hi1, hi2, hi3⟩ := mMl_init _ hmem
  refine va_MetF (cc := (mMt m).2.2.1) (maxL := (mMt m).2.2.2.1) (ret := (mMt m).2.2.2.2.1) (ws' := mWds) (mMl_cls _ hmem).1 rfl ?_
  intro p e s mm args below meth c s₁ B hml hP
  obtain ⟨rfl, hrep⟩ := hP
  have hts := atoms_spec (ws := mWs (mMt m)) B.pre
  have hown : s.vm.findClass (mMt m).2.1.cls = some mm.cls := findClass_of_methodNamed B.named
  rw [hi2] at hown
  have C : mCx p s mm (as.map (mCv g.2.2)).toArray meth c (mMt m) g := ⟨B.exec, B.bytes, hml, B.returns, hown, hts, B.notSynchronized, hrep.2.1, hrep.2.2.2⟩
  have hen := lv_entry (as.map (mCv g.2.2)) (n := (mMt m).2.2.2.1) (by rw [mSl_val, List.length_map]; exact hl)
  rw [lg_entry_eq]
  have L : mLs g ((lg_sl (as.map (mCv g.2.2)) ++ List.replicate ((mMt m).2.2.2.1 - (lg_sl (as.map (mCv g.2.2))).length) Slot.unset).toArray) (mMt m).2.2.2.1 (mXs0 as (mMt m).2.2.2.1) := by
    refine ⟨hen.1, ?_, hen.2.1, fun k v hk => ?_⟩
    · unfold mXs0
      rw [List.length_append, List.length_map, List.length_replicate]
      omega
    · have hk2 : as[k]? = some v := by
        unfold mXs0 at hk
        by_cases hlt : k < as.length
        · rw [List.getElem?_append_left (by rw [List.length_map]; exact hlt), List.getElem?_map] at hk
          cases hq : as[k]? with
          | none => rw [hq] at hk; cases hk
          | some w => rw [hq] at hk; cases hk; rfl
        · rw [List.getElem?_append_right (by rw [List.length_map]; omega), List.getElem?_replicate] at hk
          split at hk <;> cases hk
      have := mArgs_mem g.2.2 as 0 k v hk2
      rw [Nat.zero_add] at this
      exact hen.2.2 _ this
  have hxs : ∀ v, some v ∈ mXs0 as (mMt m).2.2.2.1 → mV v := by
    intro v hv2
    unfold mXs0 at hv2
    rcases List.mem_append.mp hv2 with z | z
    · obtain ⟨a, ha, e⟩ := List.mem_map.mp z
      have e2 := Option.some.inj e
      rw [← e2]
      exact hv a ha
    · cases (List.mem_replicate.mp z).2
  exact k hv hok p e s mm _ below meth c s.heap [] _ C hrep.1 hrep.2.2.1 va_S.rf L ⟨hxs, fun v hv2 => (by cases hv2), hok⟩
