section Snd
variable {l : Launch} {g : mG} {mi : mMi} {d pc : Nat} {K : Option mRV → mMem → Prop} {xs : mXs} {st : List mRV} {h : mMem}

theorem r_iconst {v : Int} (hd : decode mi.2.2.1 pc = .ok (.iconst v, 1)) (hv : mIr v) (k : mGo l g mi d (pc + 1) xs (.inl v :: st) h K) : mGo l g mi d pc xs st h K := by
  intro p e s m args below meth c H locs ls C P D S L O
  obtain ⟨hx, hb, hml, hr, hown, hts, hlk, hK, hZ⟩ := id C
  exact lv_iconst hx hb hd rfl (k p e s m args below meth c H locs ls C P D S L (O.push hv))
theorem r_bipush {v : Int} (hd : decode mi.2.2.1 pc = .ok (.bipush v, 2)) (h8 : -128 ≤ v ∧ v < 128) (hv : mIr v) (k : mGo l g mi d (pc + 2) xs (.inl v :: st) h K) : mGo l g mi d pc xs st h K := by
  intro p e s m args below meth c H locs ls C P D S L O
  obtain ⟨hx, hb, hml, hr, hown, hts, hlk, hK, hZ⟩ := id C
  exact lv_bipush hx hb hd (Int32.toInt_inj.mp (by rw [mTo hv, Int8.toInt_toInt32, Int8.toInt_ofInt_of_le h8.1 (by omega)])) (k p e s m args below meth c H locs ls C P D S L (O.push hv))
theorem r_sipush {v : Int} (hd : decode mi.2.2.1 pc = .ok (.sipush v, 3)) (h8 : -32768 ≤ v ∧ v < 32768) (hv : mIr v) (k : mGo l g mi d (pc + 3) xs (.inl v :: st) h K) : mGo l g mi d pc xs st h K := by
  intro p e s m args below meth c H locs ls C P D S L O
  obtain ⟨hx, hb, hml, hr, hown, hts, hlk, hK, hZ⟩ := id C
  exact lv_sipush hx hb hd (Int32.toInt_inj.mp (by rw [mTo hv, Int16.toInt_toInt32, Int16.toInt_ofInt_of_le h8.1 (by omega)])) (k p e s m args below meth c H locs ls C P D S L (O.push hv))
theorem r_ldc {v : Int} {i : Nat} (hd : decode mi.2.2.1 pc = .ok (.ldc i, 2)) (hc : Cond.constant (mRn mi.1) i (Int32.ofInt v) ∈ mWs mi) (hv : mIr v) (k : mGo l g mi d (pc + 2) xs (.inl v :: st) h K) : mGo l g mi d pc xs st h K := by
  intro p e s m args below meth c H locs ls C P D S L O
  obtain ⟨hx, hb, hml, hr, hown, hts, hlk, hK, hZ⟩ := id C
  exact lv_ldc hx hb hown (hts _ hc) hd (k p e s m args below meth c H locs ls C P D S L (O.push hv))
theorem r_ldcw {v : Int} {i : Nat} (hd : decode mi.2.2.1 pc = .ok (.ldc_w i, 3)) (hc : Cond.constant (mRn mi.1) i (Int32.ofInt v) ∈ mWs mi) (hv : mIr v) (k : mGo l g mi d (pc + 3) xs (.inl v :: st) h K) : mGo l g mi d pc xs st h K := by
  intro p e s m args below meth c H locs ls C P D S L O
  obtain ⟨hx, hb, hml, hr, hown, hts, hlk, hK, hZ⟩ := id C
  exact lv_ldcw hx hb hown (hts _ hc) hd (k p e s m args below meth c H locs ls C P D S L (O.push hv))
theorem r_iload_n {k : Fin 4} {v : Int} (hd : decode mi.2.2.1 pc = .ok (.iload_n k, 1)) (hk : xs[k.val]? = some (some (.inl v))) (kk : mGo l g mi d (pc + 1) xs (.inl v :: st) h K) : mGo l g mi d pc xs st h K := by
  intro p e s m args below meth c H locs ls C P D S L O
  obtain ⟨hx, hb, hml, hr, hown, hts, hlk, hK, hZ⟩ := id C
  exact lv_iload_n hx hb hd rfl (L.2.2.2 k.val _ hk) (kk p e s m args below meth c H locs ls C P D S L (O.push (O.loc hk)))
theorem r_iload {k : Nat} {v : Int} (hd : decode mi.2.2.1 pc = .ok (.iload k, 2)) (hk : xs[k]? = some (some (.inl v))) (kk : mGo l g mi d (pc + 2) xs (.inl v :: st) h K) : mGo l g mi d pc xs st h K := by
  intro p e s m args below meth c H locs ls C P D S L O
  obtain ⟨hx, hb, hml, hr, hown, hts, hlk, hK, hZ⟩ := id C
  exact lv_iload hx hb hd (L.2.2.2 k _ hk) (kk p e s m args below meth c H locs ls C P D S L (O.push (O.loc hk)))
theorem r_aload_n {k : Fin 4} {v : mRef} (hd : decode mi.2.2.1 pc = .ok (.aload_n k, 1)) (hk : xs[k.val]? = some (some (.inr v))) (kk : mGo l g mi d (pc + 1) xs (.inr v :: st) h K) : mGo l g mi d pc xs st h K := by
  intro p e s m args below meth c H locs ls C P D S L O
  obtain ⟨hx, hb, hml, hr, hown, hts, hlk, hK, hZ⟩ := id C
  exact lv_aload_n hx hb hd rfl (L.2.2.2 k.val _ hk) (kk p e s m args below meth c H locs ls C P D S L (O.push (O.loc hk)))
theorem r_aload {k : Nat} {v : mRef} (hd : decode mi.2.2.1 pc = .ok (.aload k, 2)) (hk : xs[k]? = some (some (.inr v))) (kk : mGo l g mi d (pc + 2) xs (.inr v :: st) h K) : mGo l g mi d pc xs st h K := by
  intro p e s m args below meth c H locs ls C P D S L O
  obtain ⟨hx, hb, hml, hr, hown, hts, hlk, hK, hZ⟩ := id C
  exact lv_aload hx hb hd (L.2.2.2 k _ hk) (kk p e s m args below meth c H locs ls C P D S L (O.push (O.loc hk)))
theorem r_istore_n {k : Fin 4} {v : Int} (hd : decode mi.2.2.1 pc = .ok (.istore_n k, 1)) (hk0 : k.val < xs.length) (kk : mGo l g mi d (pc + 1) (xs.set k.val (some (.inl v))) st h K) : mGo l g mi d pc xs (.inl v :: st) h K := by
  intro p e s m args below meth c H locs ls C P D S L O
  obtain ⟨hx, hb, hml, hr, hown, hts, hlk, hK, hZ⟩ := id C
  have hk : k.val < mi.2.2.2.1 := L.2.1 ▸ hk0
  exact lv_istore_n hx hb hd rfl (mLv_has L) hk rfl (fun ls' hl' => kk p e s m args below meth c H locs ls' C P D S (mLs_store (v := .inl v) L.2.1 hl') (O.pop.setx O.top))
theorem r_istore {k : Nat} {v : Int} (hd : decode mi.2.2.1 pc = .ok (.istore k, 2)) (hk0 : k < xs.length) (kk : mGo l g mi d (pc + 2) (xs.set k (some (.inl v))) st h K) : mGo l g mi d pc xs (.inl v :: st) h K := by
  intro p e s m args below meth c H locs ls C P D S L O
  obtain ⟨hx, hb, hml, hr, hown, hts, hlk, hK, hZ⟩ := id C
  have hk : k < mi.2.2.2.1 := L.2.1 ▸ hk0
  exact lv_istore hx hb hd (mLv_has L) hk rfl (fun ls' hl' => kk p e s m args below meth c H locs ls' C P D S (mLs_store (v := .inl v) L.2.1 hl') (O.pop.setx O.top))
theorem r_astore_n {k : Fin 4} {v : mRef} (hd : decode mi.2.2.1 pc = .ok (.astore_n k, 1)) (hk0 : k.val < xs.length) (kk : mGo l g mi d (pc + 1) (xs.set k.val (some (.inr v))) st h K) : mGo l g mi d pc xs (.inr v :: st) h K := by
  intro p e s m args below meth c H locs ls C P D S L O
  obtain ⟨hx, hb, hml, hr, hown, hts, hlk, hK, hZ⟩ := id C
  have hk : k.val < mi.2.2.2.1 := L.2.1 ▸ hk0
  exact lv_astore_n hx hb hd rfl (mLv_has L) hk rfl (fun ls' hl' => kk p e s m args below meth c H locs ls' C P D S (mLs_store (v := .inr v) L.2.1 hl') (O.pop.setx O.top))
theorem r_astore {k : Nat} {v : mRef} (hd : decode mi.2.2.1 pc = .ok (.astore k, 2)) (hk0 : k < xs.length) (kk : mGo l g mi d (pc + 2) (xs.set k (some (.inr v))) st h K) : mGo l g mi d pc xs (.inr v :: st) h K := by
  intro p e s m args below meth c H locs ls C P D S L O
  obtain ⟨hx, hb, hml, hr, hown, hts, hlk, hK, hZ⟩ := id C
  have hk : k < mi.2.2.2.1 := L.2.1 ▸ hk0
  exact lv_astore hx hb hd (mLv_has L) hk rfl (fun ls' hl' => kk p e s m args below meth c H locs ls' C P D S (mLs_store (v := .inr v) L.2.1 hl') (O.pop.setx O.top))
theorem r_iinc {k : Nat} {n v : Int} (hd : decode mi.2.2.1 pc = .ok (.iinc k n, 3)) (hk : xs[k]? = some (some (.inl v))) (kk : mGo l g mi d (pc + 3) (xs.set k (some (.inl (mWr (v + n))))) st h K) : mGo l g mi d pc xs st h K := by
  intro p e s m args below meth c H locs ls C P D S L O
  obtain ⟨hx, hb, hml, hr, hown, hts, hlk, hK, hZ⟩ := id C
  have hk0 : k < mi.2.2.2.1 := L.2.1 ▸ (List.getElem?_eq_some_iff.mp hk).1
  obtain ⟨q, hq⟩ := List.getElem?_of_mem (mLv_mem (g := g) hk)
  exact lv_iinc hx hb hd (mLv_has L) hq (v := Int32.ofInt (mWr (v + n))) (by rw [mOf_wr, Int32.ofInt_add]) hk0 rfl (fun ls' hl' => kk p e s m args below meth c H locs ls' C P D S (mLs_store (v := .inl (mWr (v + n))) L.2.1 hl') (O.setx (mWr_ir _)))
theorem r_iadd {a b : Int} (hd : decode mi.2.2.1 pc = .ok (.iadd, 1)) (kk : mGo l g mi d (pc + 1) xs (.inl (mWr (a + b)) :: st) h K) : mGo l g mi d pc xs (.inl b :: .inl a :: st) h K := by
  intro p e s m args below meth c H locs ls C P D S L O
  obtain ⟨hx, hb, hml, hr, hown, hts, hlk, hK, hZ⟩ := id C
  have hW := kk p e s m args below meth c H locs ls C P D S L (O.pop.pop.push (mIr_to _))
  refine lv_iadd hx hb hd ?_
  have hv : Int32.ofInt (mWr (a + b)) = _ := (mOf_wr _).trans (Int32.ofInt_add a b)
  rw [← hv]
  exact hW
theorem r_isub {a b : Int} (hd : decode mi.2.2.1 pc = .ok (.isub, 1)) (kk : mGo l g mi d (pc + 1) xs (.inl (mWr (a - b)) :: st) h K) : mGo l g mi d pc xs (.inl b :: .inl a :: st) h K := by
  intro p e s m args below meth c H locs ls C P D S L O
  obtain ⟨hx, hb, hml, hr, hown, hts, hlk, hK, hZ⟩ := id C
  have hW := kk p e s m args below meth c H locs ls C P D S L (O.pop.pop.push (mIr_to _))
  refine lv_isub hx hb hd ?_
  have hv : Int32.ofInt (mWr (a - b)) = _ := (mOf_wr _).trans (Int32.ofInt_sub a b)
  rw [← hv]
  exact hW
theorem r_imul {a b : Int} (hd : decode mi.2.2.1 pc = .ok (.imul, 1)) (kk : mGo l g mi d (pc + 1) xs (.inl (mWr (a * b)) :: st) h K) : mGo l g mi d pc xs (.inl b :: .inl a :: st) h K := by
  intro p e s m args below meth c H locs ls C P D S L O
  obtain ⟨hx, hb, hml, hr, hown, hts, hlk, hK, hZ⟩ := id C
  have hW := kk p e s m args below meth c H locs ls C P D S L (O.pop.pop.push (mIr_to _))
  refine lv_imul hx hb hd ?_
  have hv : Int32.ofInt (mWr (a * b)) = _ := (mOf_wr _).trans (Int32.ofInt_mul a b)
  rw [← hv]
  exact hW
theorem r_iand {a b : Int} (hd : decode mi.2.2.1 pc = .ok (.iand, 1)) (kk : mGo l g mi d (pc + 1) xs (.inl (mAnd a b) :: st) h K) : mGo l g mi d pc xs (.inl b :: .inl a :: st) h K := by
  intro p e s m args below meth c H locs ls C P D S L O
  obtain ⟨hx, hb, hml, hr, hown, hts, hlk, hK, hZ⟩ := id C
  have hW := kk p e s m args below meth c H locs ls C P D S L (O.pop.pop.push (mIr_to _))
  refine lv_iand hx hb hd ?_
  have hv : Int32.ofInt (mAnd a b) = _ := Int32.ofInt_toInt _
  rw [← hv]
  exact hW
theorem r_ior {a b : Int} (hd : decode mi.2.2.1 pc = .ok (.ior, 1)) (kk : mGo l g mi d (pc + 1) xs (.inl (mOr a b) :: st) h K) : mGo l g mi d pc xs (.inl b :: .inl a :: st) h K := by
  intro p e s m args below meth c H locs ls C P D S L O
  obtain ⟨hx, hb, hml, hr, hown, hts, hlk, hK, hZ⟩ := id C
  have hW := kk p e s m args below meth c H locs ls C P D S L (O.pop.pop.push (mIr_to _))
  refine lv_ior hx hb hd ?_
  have hv : Int32.ofInt (mOr a b) = _ := Int32.ofInt_toInt _
  rw [← hv]
  exact hW
theorem r_ixor {a b : Int} (hd : decode mi.2.2.1 pc = .ok (.ixor, 1)) (kk : mGo l g mi d (pc + 1) xs (.inl (mXor a b) :: st) h K) : mGo l g mi d pc xs (.inl b :: .inl a :: st) h K := by
  intro p e s m args below meth c H locs ls C P D S L O
  obtain ⟨hx, hb, hml, hr, hown, hts, hlk, hK, hZ⟩ := id C
  have hW := kk p e s m args below meth c H locs ls C P D S L (O.pop.pop.push (mIr_to _))
  refine lv_ixor hx hb hd ?_
  have hv : Int32.ofInt (mXor a b) = _ := Int32.ofInt_toInt _
  rw [← hv]
  exact hW
theorem r_ishl {a b : Int} (hd : decode mi.2.2.1 pc = .ok (.ishl, 1)) (kk : mGo l g mi d (pc + 1) xs (.inl (mShl a b) :: st) h K) : mGo l g mi d pc xs (.inl b :: .inl a :: st) h K := by
  intro p e s m args below meth c H locs ls C P D S L O
  obtain ⟨hx, hb, hml, hr, hown, hts, hlk, hK, hZ⟩ := id C
  have hW := kk p e s m args below meth c H locs ls C P D S L (O.pop.pop.push (mIr_to _))
  refine lv_ishl hx hb hd ?_
  have hv : Int32.ofInt (mShl a b) = _ := Int32.ofInt_toInt _
  rw [← hv]
  exact hW
theorem r_ishr {a b : Int} (hd : decode mi.2.2.1 pc = .ok (.ishr, 1)) (kk : mGo l g mi d (pc + 1) xs (.inl (mShr a b) :: st) h K) : mGo l g mi d pc xs (.inl b :: .inl a :: st) h K := by
  intro p e s m args below meth c H locs ls C P D S L O
  obtain ⟨hx, hb, hml, hr, hown, hts, hlk, hK, hZ⟩ := id C
  have hW := kk p e s m args below meth c H locs ls C P D S L (O.pop.pop.push (mIr_to _))
  refine lv_ishr hx hb hd ?_
  have hv : Int32.ofInt (mShr a b) = _ := Int32.ofInt_toInt _
  rw [← hv]
  exact hW
theorem r_iushr {a b : Int} (hd : decode mi.2.2.1 pc = .ok (.iushr, 1)) (kk : mGo l g mi d (pc + 1) xs (.inl (mUsh a b) :: st) h K) : mGo l g mi d pc xs (.inl b :: .inl a :: st) h K := by
  intro p e s m args below meth c H locs ls C P D S L O
  obtain ⟨hx, hb, hml, hr, hown, hts, hlk, hK, hZ⟩ := id C
  have hW := kk p e s m args below meth c H locs ls C P D S L (O.pop.pop.push (mIr_to _))
  exact lv_iushr hx hb hd (v := Int32.ofInt (mUsh a b)) (Int32.ofInt_toInt _).symm hW
theorem r_idiv {a b : Int} (hd : decode mi.2.2.1 pc = .ok (.idiv, 1)) (hn : b ≠ 0) (kk : mGo l g mi d (pc + 1) xs (.inl (mDiv a b) :: st) h K) : mGo l g mi d pc xs (.inl b :: .inl a :: st) h K := by
  intro p e s m args below meth c H locs ls C P D S L O
  obtain ⟨hx, hb, hml, hr, hown, hts, hlk, hK, hZ⟩ := id C
  have hW := kk p e s m args below meth c H locs ls C P D S L (O.pop.pop.push (mIr_to _))
  refine lv_idiv hx hb hd (fun q => hn ((mInj O.top ⟨by decide, by decide⟩).mp q)) ?_
  have hv : Int32.ofInt (mDiv a b) = _ := Int32.ofInt_toInt _
  rw [← hv]
  exact hW
theorem r_irem {a b : Int} (hd : decode mi.2.2.1 pc = .ok (.irem, 1)) (hn : b ≠ 0) (kk : mGo l g mi d (pc + 1) xs (.inl (mRem a b) :: st) h K) : mGo l g mi d pc xs (.inl b :: .inl a :: st) h K := by
  intro p e s m args below meth c H locs ls C P D S L O
  obtain ⟨hx, hb, hml, hr, hown, hts, hlk, hK, hZ⟩ := id C
  have hW := kk p e s m args below meth c H locs ls C P D S L (O.pop.pop.push (mIr_to _))
  refine lv_irem hx hb hd (fun q => hn ((mInj O.top ⟨by decide, by decide⟩).mp q)) ?_
  have hv : Int32.ofInt (mRem a b) = _ := Int32.ofInt_toInt _
  rw [← hv]
  exact hW
theorem r_goto {o : Int} {t : Nat} (hd : decode mi.2.2.1 pc = .ok (.goto o, 3)) (ht : (pc : Int) + o = (t : Int)) (kk : mGo l g mi d t xs st h K) : mGo l g mi d pc xs st h K := by
  intro p e s m args below meth c H locs ls C P D S L O
  obtain ⟨hx, hb, hml, hr, hown, hts, hlk, hK, hZ⟩ := id C
  exact lv_goto hx hb hd ht (kk p e s m args below meth c H locs ls C P D S L O)
theorem r_if_eq {a o : Int} {t : Nat} (hd : decode mi.2.2.1 pc = .ok (.ifCond .eq o, 3)) (ht : (pc : Int) + o = (t : Int)) (k1 : mCmp 0 a 0 → mGo l g mi d t xs st h K) (k2 : ¬ mCmp 0 a 0 → mGo l g mi d (pc + 3) xs st h K) : mGo l g mi d pc xs (.inl a :: st) h K := by
  intro p e s m args below meth c H locs ls C P D S L O
  obtain ⟨hx, hb, hml, hr, hown, hts, hlk, hK, hZ⟩ := id C
  have hz : mIr 0 := ⟨by decide, by decide⟩
  have hiff := (mInj (show mIr a from O.top) hz)
  exact lv_if_eq hx hb hd ht (fun q => k1 (hiff.mp q) p e s m args below meth c H locs ls C P D S L O.pop) (fun q => k2 (fun z => q (hiff.mpr z)) p e s m args below meth c H locs ls C P D S L O.pop)
theorem r_icmp_eq {a b o : Int} {t : Nat} (hd : decode mi.2.2.1 pc = .ok (.if_icmp .eq o, 3)) (ht : (pc : Int) + o = (t : Int)) (k1 : mCmp 0 a b → mGo l g mi d t xs st h K) (k2 : ¬ mCmp 0 a b → mGo l g mi d (pc + 3) xs st h K) : mGo l g mi d pc xs (.inl b :: .inl a :: st) h K := by
  intro p e s m args below meth c H locs ls C P D S L O
  obtain ⟨hx, hb, hml, hr, hown, hts, hlk, hK, hZ⟩ := id C
  have hiff := (mInj (show mIr a from O.pop.top) (show mIr b from O.top))
  exact lv_icmp_eq hx hb hd ht (fun q => k1 (hiff.mp q) p e s m args below meth c H locs ls C P D S L O.pop.pop) (fun q => k2 (fun z => q (hiff.mpr z)) p e s m args below meth c H locs ls C P D S L O.pop.pop)
theorem r_if_ne {a o : Int} {t : Nat} (hd : decode mi.2.2.1 pc = .ok (.ifCond .ne o, 3)) (ht : (pc : Int) + o = (t : Int)) (k1 : mCmp 1 a 0 → mGo l g mi d t xs st h K) (k2 : ¬ mCmp 1 a 0 → mGo l g mi d (pc + 3) xs st h K) : mGo l g mi d pc xs (.inl a :: st) h K := by
  intro p e s m args below meth c H locs ls C P D S L O
  obtain ⟨hx, hb, hml, hr, hown, hts, hlk, hK, hZ⟩ := id C
  have hz : mIr 0 := ⟨by decide, by decide⟩
  have hiff := (not_congr (mInj (show mIr a from O.top) hz))
  exact lv_if_ne hx hb hd ht (fun q => k1 (hiff.mp q) p e s m args below meth c H locs ls C P D S L O.pop) (fun q => k2 (fun z => hiff.mpr z q) p e s m args below meth c H locs ls C P D S L O.pop)
theorem r_icmp_ne {a b o : Int} {t : Nat} (hd : decode mi.2.2.1 pc = .ok (.if_icmp .ne o, 3)) (ht : (pc : Int) + o = (t : Int)) (k1 : mCmp 1 a b → mGo l g mi d t xs st h K) (k2 : ¬ mCmp 1 a b → mGo l g mi d (pc + 3) xs st h K) : mGo l g mi d pc xs (.inl b :: .inl a :: st) h K := by
  intro p e s m args below meth c H locs ls C P D S L O
  obtain ⟨hx, hb, hml, hr, hown, hts, hlk, hK, hZ⟩ := id C
  have hiff := (not_congr (mInj (show mIr a from O.pop.top) (show mIr b from O.top)))
  exact lv_icmp_ne hx hb hd ht (fun q => k1 (hiff.mp q) p e s m args below meth c H locs ls C P D S L O.pop.pop) (fun q => k2 (fun z => hiff.mpr z q) p e s m args below meth c H locs ls C P D S L O.pop.pop)
theorem r_if_lt {a o : Int} {t : Nat} (hd : decode mi.2.2.1 pc = .ok (.ifCond .lt o, 3)) (ht : (pc : Int) + o = (t : Int)) (k1 : mCmp 2 a 0 → mGo l g mi d t xs st h K) (k2 : ¬ mCmp 2 a 0 → mGo l g mi d (pc + 3) xs st h K) : mGo l g mi d pc xs (.inl a :: st) h K := by
  intro p e s m args below meth c H locs ls C P D S L O
  obtain ⟨hx, hb, hml, hr, hown, hts, hlk, hK, hZ⟩ := id C
  have hz : mIr 0 := ⟨by decide, by decide⟩
  have hiff := (mLt (show mIr a from O.top) hz)
  exact lv_if_lt hx hb hd ht (fun q => k1 (hiff.mp q) p e s m args below meth c H locs ls C P D S L O.pop) (fun q => k2 (fun z => q (hiff.mpr z)) p e s m args below meth c H locs ls C P D S L O.pop)
theorem r_icmp_lt {a b o : Int} {t : Nat} (hd : decode mi.2.2.1 pc = .ok (.if_icmp .lt o, 3)) (ht : (pc : Int) + o = (t : Int)) (k1 : mCmp 2 a b → mGo l g mi d t xs st h K) (k2 : ¬ mCmp 2 a b → mGo l g mi d (pc + 3) xs st h K) : mGo l g mi d pc xs (.inl b :: .inl a :: st) h K := by
  intro p e s m args below meth c H locs ls C P D S L O
  obtain ⟨hx, hb, hml, hr, hown, hts, hlk, hK, hZ⟩ := id C
  have hiff := (mLt (show mIr a from O.pop.top) (show mIr b from O.top))
  exact lv_icmp_lt hx hb hd ht (fun q => k1 (hiff.mp q) p e s m args below meth c H locs ls C P D S L O.pop.pop) (fun q => k2 (fun z => q (hiff.mpr z)) p e s m args below meth c H locs ls C P D S L O.pop.pop)
theorem r_if_ge {a o : Int} {t : Nat} (hd : decode mi.2.2.1 pc = .ok (.ifCond .ge o, 3)) (ht : (pc : Int) + o = (t : Int)) (k1 : mCmp 3 a 0 → mGo l g mi d t xs st h K) (k2 : ¬ mCmp 3 a 0 → mGo l g mi d (pc + 3) xs st h K) : mGo l g mi d pc xs (.inl a :: st) h K := by
  intro p e s m args below meth c H locs ls C P D S L O
  obtain ⟨hx, hb, hml, hr, hown, hts, hlk, hK, hZ⟩ := id C
  have hz : mIr 0 := ⟨by decide, by decide⟩
  have hiff := (mLe hz (show mIr a from O.top))
  exact lv_if_ge hx hb hd ht (fun q => k1 (hiff.mp q) p e s m args below meth c H locs ls C P D S L O.pop) (fun q => k2 (fun z => q (hiff.mpr z)) p e s m args below meth c H locs ls C P D S L O.pop)
theorem r_icmp_ge {a b o : Int} {t : Nat} (hd : decode mi.2.2.1 pc = .ok (.if_icmp .ge o, 3)) (ht : (pc : Int) + o = (t : Int)) (k1 : mCmp 3 a b → mGo l g mi d t xs st h K) (k2 : ¬ mCmp 3 a b → mGo l g mi d (pc + 3) xs st h K) : mGo l g mi d pc xs (.inl b :: .inl a :: st) h K := by
  intro p e s m args below meth c H locs ls C P D S L O
  obtain ⟨hx, hb, hml, hr, hown, hts, hlk, hK, hZ⟩ := id C
  have hiff := (mLe (show mIr b from O.top) (show mIr a from O.pop.top))
  exact lv_icmp_ge hx hb hd ht (fun q => k1 (hiff.mp q) p e s m args below meth c H locs ls C P D S L O.pop.pop) (fun q => k2 (fun z => q (hiff.mpr z)) p e s m args below meth c H locs ls C P D S L O.pop.pop)
theorem r_if_gt {a o : Int} {t : Nat} (hd : decode mi.2.2.1 pc = .ok (.ifCond .gt o, 3)) (ht : (pc : Int) + o = (t : Int)) (k1 : mCmp 4 a 0 → mGo l g mi d t xs st h K) (k2 : ¬ mCmp 4 a 0 → mGo l g mi d (pc + 3) xs st h K) : mGo l g mi d pc xs (.inl a :: st) h K := by
  intro p e s m args below meth c H locs ls C P D S L O
  obtain ⟨hx, hb, hml, hr, hown, hts, hlk, hK, hZ⟩ := id C
  have hz : mIr 0 := ⟨by decide, by decide⟩
  have hiff := (mLt hz (show mIr a from O.top))
  exact lv_if_gt hx hb hd ht (fun q => k1 (hiff.mp q) p e s m args below meth c H locs ls C P D S L O.pop) (fun q => k2 (fun z => q (hiff.mpr z)) p e s m args below meth c H locs ls C P D S L O.pop)
theorem r_icmp_gt {a b o : Int} {t : Nat} (hd : decode mi.2.2.1 pc = .ok (.if_icmp .gt o, 3)) (ht : (pc : Int) + o = (t : Int)) (k1 : mCmp 4 a b → mGo l g mi d t xs st h K) (k2 : ¬ mCmp 4 a b → mGo l g mi d (pc + 3) xs st h K) : mGo l g mi d pc xs (.inl b :: .inl a :: st) h K := by
  intro p e s m args below meth c H locs ls C P D S L O
  obtain ⟨hx, hb, hml, hr, hown, hts, hlk, hK, hZ⟩ := id C
  have hiff := (mLt (show mIr b from O.top) (show mIr a from O.pop.top))
  exact lv_icmp_gt hx hb hd ht (fun q => k1 (hiff.mp q) p e s m args below meth c H locs ls C P D S L O.pop.pop) (fun q => k2 (fun z => q (hiff.mpr z)) p e s m args below meth c H locs ls C P D S L O.pop.pop)
theorem r_if_le {a o : Int} {t : Nat} (hd : decode mi.2.2.1 pc = .ok (.ifCond .le o, 3)) (ht : (pc : Int) + o = (t : Int)) (k1 : mCmp 5 a 0 → mGo l g mi d t xs st h K) (k2 : ¬ mCmp 5 a 0 → mGo l g mi d (pc + 3) xs st h K) : mGo l g mi d pc xs (.inl a :: st) h K := by
  intro p e s m args below meth c H locs ls C P D S L O
  obtain ⟨hx, hb, hml, hr, hown, hts, hlk, hK, hZ⟩ := id C
  have hz : mIr 0 := ⟨by decide, by decide⟩
  have hiff := (mLe (show mIr a from O.top) hz)
  exact lv_if_le hx hb hd ht (fun q => k1 (hiff.mp q) p e s m args below meth c H locs ls C P D S L O.pop) (fun q => k2 (fun z => q (hiff.mpr z)) p e s m args below meth c H locs ls C P D S L O.pop)
theorem r_icmp_le {a b o : Int} {t : Nat} (hd : decode mi.2.2.1 pc = .ok (.if_icmp .le o, 3)) (ht : (pc : Int) + o = (t : Int)) (k1 : mCmp 5 a b → mGo l g mi d t xs st h K) (k2 : ¬ mCmp 5 a b → mGo l g mi d (pc + 3) xs st h K) : mGo l g mi d pc xs (.inl b :: .inl a :: st) h K := by
  intro p e s m args below meth c H locs ls C P D S L O
  obtain ⟨hx, hb, hml, hr, hown, hts, hlk, hK, hZ⟩ := id C
  have hiff := (mLe (show mIr a from O.pop.top) (show mIr b from O.top))
  exact lv_icmp_le hx hb hd ht (fun q => k1 (hiff.mp q) p e s m args below meth c H locs ls C P D S L O.pop.pop) (fun q => k2 (fun z => q (hiff.mpr z)) p e s m args below meth c H locs ls C P D S L O.pop.pop)
theorem r_sw {a df lo hi : Int} {os : Array Int} {len : Nat} (hd : decode mi.2.2.1 pc = .ok (.tableswitch df lo hi os, len)) (hdf : 0 ≤ (pc : Int) + df) (hhi : hi = lo + os.toList.length - 1) (hos : ∀ o ∈ os.toList, 0 ≤ (pc : Int) + o)
    (k1 : ∀ (i : Nat) (o : Int), os.toList[i]? = some o → a = lo + i → mGo l g mi d ((pc : Int) + o).toNat xs st h K) (k2 : (a < lo ∨ lo + os.toList.length ≤ a) → mGo l g mi d ((pc : Int) + df).toNat xs st h K) : mGo l g mi d pc xs (.inl a :: st) h K := by
  intro p e s m args below meth c H locs ls C P D S L O
  obtain ⟨hx, hb, hml, hr, hown, hts, hlk, hK, hZ⟩ := id C
  have ha : mIr a := O.top
  by_cases hc : a < lo ∨ lo + os.toList.length ≤ a
  · exact lv_tableOut hx hb hd (by rw [mTo ha]; omega) (tgt := ((pc : Int) + df).toNat) (by omega) (k2 hc p e s m args below meth c H locs ls C P D S L O.pop)
  · have hl : (a - lo).toNat < os.toList.length := by omega
    have hg : os.toList[(a - lo).toNat]? = some os.toList[(a - lo).toNat] := List.getElem?_eq_getElem hl
    have h0 := hos _ (List.mem_of_getElem? hg)
    refine lv_tableIn hx hb hd (by rw [mTo ha]; omega) (by rw [mTo ha]; omega) (off := os.toList[(a - lo).toNat]) (tgt := ((pc : Int) + os.toList[(a - lo).toNat]).toNat) (by rw [mTo ha, ← Array.getElem?_toList]; exact hg) (by omega) ?_
    exact k1 (a - lo).toNat _ hg (by omega) p e s m args below meth c H locs ls C P D S L O.pop
theorem r_dup {v : mRV} (hd : decode mi.2.2.1 pc = .ok (.dup, 1)) (kk : mGo l g mi d (pc + 1) xs (v :: v :: st) h K) : mGo l g mi d pc xs (v :: st) h K := by
  intro p e s m args below meth c H locs ls C P D S L O
  obtain ⟨hx, hb, hml, hr, hown, hts, hlk, hK, hZ⟩ := id C
  exact lv_dup hx hb hd (mCat _ _) (kk p e s m args below meth c H locs ls C P D S L (O.push O.top))
theorem r_dup2 {v w : mRV} (hd : decode mi.2.2.1 pc = .ok (.dup2, 1)) (kk : mGo l g mi d (pc + 1) xs (v :: w :: v :: w :: st) h K) : mGo l g mi d pc xs (v :: w :: st) h K := by
  intro p e s m args below meth c H locs ls C P D S L O
  obtain ⟨hx, hb, hml, hr, hown, hts, hlk, hK, hZ⟩ := id C
  exact lv_dup2_11 hx hb hd (mCat _ _) (mCat _ _) (kk p e s m args below meth c H locs ls C P D S L ((O.push O.pop.top).push O.top))
theorem r_pop {v : mRV} (hd : decode mi.2.2.1 pc = .ok (.pop, 1)) (kk : mGo l g mi d (pc + 1) xs st h K) : mGo l g mi d pc xs (v :: st) h K := by
  intro p e s m args below meth c H locs ls C P D S L O
  obtain ⟨hx, hb, hml, hr, hown, hts, hlk, hK, hZ⟩ := id C
  exact lv_pop hx hb hd (mCat _ _) (kk p e s m args below meth c H locs ls C P D S L O.pop)
end Snd
