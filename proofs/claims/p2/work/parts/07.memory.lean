section Snd
variable {l : Launch} {g : mG} {mi : mMi} {d pc : Nat} {K : Option mRV → mMem → Prop} {xs : mXs} {st : List mRV} {h : mMem}
theorem mObj {r : mRef} {ci : Nat} {fs : List mFd} (hr : r ∈ mLq) (hs : mSh r.1 = .inl (ci, fs)) : r ∈ mL ∧ ci < 10 ∧ fs.length = mN ci ∧ ∀ f ∈ fs, match f with
      | none => True
      | some (t, none) => (t, r.2) ∈ mLq
      | some (t, some i) => (t, i) ∈ mLq := by
  have h1 := mIn_L hr (fun n q => by rw [hs] at q; cases q)
  have h2 := mShape_ok r h1
  rw [hs] at h2
  simp only [Bool.and_eq_true, decide_eq_true_eq, List.all_eq_true] at h2
  refine ⟨h1, h2.1.1, h2.1.2, fun f hf => ?_⟩
  have h3 := h2.2 f hf
  match f, h3 with
  | none, _ => trivial
  | some (t, none), h3 => exact of_decide_eq_true h3
  | some (t, some i), h3 => exact of_decide_eq_true h3
theorem mElt_o {r : mRef} {ci : Nat} {fs : List mFd} (hs : mSh r.1 = .inl (ci, fs)) : mElt g h r = .inr (ci, mFs g h r fs 0) := by unfold mElt; rw [hs]
theorem mElt_i {r : mRef} {n : Nat} (hs : mSh r.1 = .inr (0, n)) : mElt g h r = .inl (g.2.1.1, n, .inl (fun k => Int32.ofInt (h r.1 r.2 k))) := by unfold mElt; rw [hs]; rfl
theorem mElt_z {r : mRef} {n : Nat} (hs : mSh r.1 = .inr (1, n)) : mElt g h r = .inl (g.2.1.2.1, n, .inl (fun k => Int32.ofInt (h r.1 r.2 k))) := by unfold mElt; rw [hs]; rfl
theorem mElt_q {r : mRef} {n : Nat} (hs : mSh r.1 = .inr (2, n)) : mElt g h r = .inl (g.2.1.2.2, n, .inr (.inr (.inr (.inr (fun k => some (g.2.2 (4, mNi k))))))) := by unfold mElt; rw [hs]; rfl
theorem r_getf {r : mRef} {ci k i : Nat} {fs : List mFd} {f : mFd} {v : mRV} (hd : decode mi.2.2.1 pc = .ok (.getfield i, 3)) (hl : ∃ n, (mi.1, i, ci, k, n) ∈ mFl) (hs : mSh r.1 = .inl (ci, fs)) (hf : fs[k]? = some f)
    (hv : mCv g.2.2 v = mFv g h r f k) (hvk : mOk xs (.inr r :: st) h → mV v) (kk : mGo l g mi d (pc + 3) xs (v :: st) h K) : mGo l g mi d pc xs (.inr r :: st) h K := by
  intro p e s m args below meth c H locs ls C P D S L O
  obtain ⟨hx, hb, hml, hr, hown, hts, hlk, hK, hZ⟩ := id C
  obtain ⟨hL, hci, hlen, -⟩ := mObj (show r ∈ mLq from O.top) hs
  obtain ⟨q, hq⟩ := List.getElem?_of_mem hL
  obtain ⟨n, hn⟩ := hl
  obtain ⟨e1, -, e3⟩ := mFl_ok _ hn
  have hW := kk p e s m args below meth c H locs ls C P D S L (O.pop.push (hvk O))
  have he : (mW g h)[q]? = some (g.2.2 r, .inr (ci, mFs g h r fs 0)) := by rw [mW_at hq, mElt_o hs]
  refine va_get hx hb hts (mIn_w ci hci) hown hK P q he (mCl_lt ci hci) k e3 (hts _ (mMem_w e1 rfl)) (fun _ z => z) (v := mCv g.2.2 v) ?_ hd hW
  rw [mFs_get, hf, hv, Nat.zero_add]
  rfl
theorem r_putf {r : mRef} {ci k i : Nat} {fs : List mFd} {v : Int} (hd : decode mi.2.2.1 pc = .ok (.putfield i, 3)) (hl : ∃ n, (mi.1, i, ci, k, n) ∈ mFl) (hfin : (mT ci k).2.2.2 = false) (hty : mTyp ci k = .int ∨ (mTyp ci k = .boolean ∧ (v = 0 ∨ v = 1))) (hs : mSh r.1 = .inl (ci, fs)) (hf : fs[k]? = some none)
    (kk : mGo l g mi d (pc + 3) xs st (mSet h r.1 r.2 k v) K) : mGo l g mi d pc xs (.inl v :: .inr r :: st) h K := by
  intro p e s m args below meth c H locs ls C P D S L O
  obtain ⟨hx, hb, hml, hr, hown, hts, hlk, hK, hZ⟩ := id C
  obtain ⟨hL, hci, hlen, -⟩ := mObj (show r ∈ mLq from O.pop.top) hs
  obtain ⟨q, hq⟩ := List.getElem?_of_mem hL
  obtain ⟨n, hn⟩ := hl
  obtain ⟨e1, -, e3⟩ := mFl_ok _ hn
  have he : (mW g h)[q]? = some (g.2.2 r, .inr (ci, mFs g h r fs 0)) := by rw [mW_at hq, mElt_o hs]
  have hnf : narrow (mTyp ci k) (.int (Int32.ofInt v)) = .int (Int32.ofInt v) ∧ fits (mTyp ci k) (.int (Int32.ofInt v)) = true := by
    rcases hty with q | ⟨q, rfl | rfl⟩ <;> rw [q] <;> exact ⟨rfl, rfl⟩
  have hset : (mW g h).set q (g.2.2 r, .inr (ci, (mFs g h r fs 0).set k (.int (Int32.ofInt v)))) = mW g (mSet h r.1 r.2 k v) := by
    rw [← mW_set hq (fun r' hne => mSet_ne (k := k) (v := v) hne), mElt_o hs, mFs_set fs 0 hf, Nat.zero_add]
  refine va_put (v := .int (Int32.ofInt v)) hx hb hts (mIn_w ci hci) (mTyp ci) (mTyX ci hci) (mNmX ci hci) hown hK P D S q he (mCl_lt ci hci) k e3 (hts _ (mMem_w e1 rfl)) (fun _ z => z) hfin (mTyX ci hci k e3) hnf.1 hnf.2 (by rw [mFs_len, hlen]; exact e3) hd (fun H1 locs1 P1 D1 S1 => ?_)
  rw [hset] at P1 D1
  exact kk p e s m args below meth c H1 locs1 ls C P1 D1 S1 L (O.pop.pop.mem (mMok_set O.2.2 O.top))
theorem r_gets {t i : Nat} (hd : decode mi.2.2.1 pc = .ok (.getstatic i, 3)) (hl : ∃ z n, (mi.1, i, t, z, n) ∈ mSl) (ht : t ∈ ([100, 101, 102, 103, 104] : List Nat)) (kk : mGo l g mi d (pc + 3) xs (.inr (t, 0) :: st) h K) : mGo l g mi d pc xs st h K := by
  intro p e s m args below meth c H locs ls C P D S L O
  obtain ⟨hx, hb, hml, hr, hown, hts, hlk, hK, hZ⟩ := id C
  have hq : ((t, 0) : mRef) ∈ mLq := List.mem_append_right _ (List.mem_map.mpr ⟨t, ht, rfl⟩)
  have hW := kk p e s m args below meth c H locs ls C P D S L (O.push hq)
  obtain ⟨z, n, hn⟩ := hl
  rcases mSl_ok _ hn with ⟨-, e1⟩ | ⟨-, e1⟩
  · exact va_gets hx hb (hZ.2 t ht).1 S hown (hts _ (mMem_w e1 rfl)) (fun _ z => z) hd hW
  · exact va_getsN hx hb (hZ.2 t ht).1 S hown (va_Nw.use rfl (hZ.1 _ (List.mem_of_getElem? e1) rfl)) (fun _ z => z) hd hW
theorem mArr {r : mRef} {k n : Nat} (hr : r ∈ mLq) (hs : mSh r.1 = .inr (k, n)) (hk : k < 3) : r ∈ mL ∧ n < 65536 := by
  have h1 := mIn_L hr (fun n q => by rw [hs] at q; cases q; omega)
  have h2 := mShape_ok r h1
  rw [hs] at h2
  simp only [Bool.and_eq_true, decide_eq_true_eq] at h2
  exact ⟨h1, h2.2⟩
theorem r_iald {r : mRef} {x : Int} {n : Nat} (hd : decode mi.2.2.1 pc = .ok (.iaload, 1)) (hs : mSh r.1 = .inr (0, n)) (hx0 : 0 ≤ x) (hx1 : x < n) (kk : mGo l g mi d (pc + 1) xs (.inl (h r.1 r.2 x.toNat) :: st) h K) : mGo l g mi d pc xs (.inl x :: .inr r :: st) h K := by
  intro p e s m args below meth c H locs ls C P D S L O
  obtain ⟨hx, hb, hml, hr, hown, hts, hlk, hK, hZ⟩ := id C
  obtain ⟨hL, -⟩ := mArr (show r ∈ mLq from O.pop.top) hs (by decide)
  obtain ⟨q, hq⟩ := List.getElem?_of_mem hL
  have hW := kk p e s m args below meth c H locs ls C P D S L (O.pop.pop.push (O.2.2 _ _ _))
  refine va_iald hx hb hK P q 0 (cA := g.2.1.1) (n := n) (f := fun k => Int32.ofInt (h r.1 r.2 k)) (by rw [mW_at hq, mElt_i hs]) rfl (mIn_of O.top hx0 hx1) hd ?_
  rw [mNat (show mIr x from O.top)]
  exact hW
theorem r_zald {r : mRef} {x : Int} {n : Nat} (hd : decode mi.2.2.1 pc = .ok (.baload, 1)) (hs : mSh r.1 = .inr (1, n)) (hx0 : 0 ≤ x) (hx1 : x < n) (kk : mGo l g mi d (pc + 1) xs (.inl (h r.1 r.2 x.toNat) :: st) h K) : mGo l g mi d pc xs (.inl x :: .inr r :: st) h K := by
  intro p e s m args below meth c H locs ls C P D S L O
  obtain ⟨hx, hb, hml, hr, hown, hts, hlk, hK, hZ⟩ := id C
  obtain ⟨hL, -⟩ := mArr (show r ∈ mLq from O.pop.top) hs (by decide)
  obtain ⟨q, hq⟩ := List.getElem?_of_mem hL
  have hW := kk p e s m args below meth c H locs ls C P D S L (O.pop.pop.push (O.2.2 _ _ _))
  refine va_zald hx hb hK P q 1 (cA := g.2.1.2.1) (n := n) (f := fun k => Int32.ofInt (h r.1 r.2 k)) (by rw [mW_at hq, mElt_z hs]) rfl (mIn_of O.top hx0 hx1) hd ?_
  rw [mNat (show mIr x from O.top)]
  exact hW
theorem r_tald {r : mRef} {x : Int} {n : Nat} (hd : decode mi.2.2.1 pc = .ok (.iaload, 1)) (hs : mSh r.1 = .inr (3, n)) (hx0 : 0 ≤ x) (hx1 : x < n) (kk : mGo l g mi d (pc + 1) xs (.inl ((mTab r.1).getD x.toNat 0) :: st) h K) : mGo l g mi d pc xs (.inl x :: .inr r :: st) h K := by
  intro p e s m args below meth c H locs ls C P D S L O
  obtain ⟨hx, hb, hml, hr, hown, hts, hlk, hK, hZ⟩ := id C
  obtain ⟨ht, h0, hn⟩ := mIn_T (show r ∈ mLq from O.pop.top) hs
  have hall : ∀ t ∈ ([100, 101, 102, 103, 104] : List Nat), ∀ v ∈ mTab t, -2147483648 ≤ v ∧ v < 2147483648 := by decide
  have hlt : x.toNat < (mTab r.1).length := by omega
  have hir : mIr ((mTab r.1).getD x.toNat 0) := by
    rw [List.getD_eq_getElem?_getD, List.getElem?_eq_getElem hlt]
    exact hall _ ht _ (List.getElem_mem hlt)
  have hW := kk p e s m args below meth c H locs ls C P D S L (O.pop.pop.push hir)
  have hr0 : r = (r.1, 0) := Prod.ext rfl h0
  have hT := (hZ.2 r.1 ht).2
  rw [← hr0] at hT
  exact va_ti hx hb hT S (mIn_of O.top hx0 (hn ▸ hx1)) (by rw [mNat (show mIr x from O.top)]; rfl) hd hW
theorem r_aald {r : mRef} {x : Int} {n : Nat} (hd : decode mi.2.2.1 pc = .ok (.aaload, 1)) (hs : mSh r.1 = .inr (2, n)) (hx0 : 0 ≤ x) (hx1 : x < n) (kk : mGo l g mi d (pc + 1) xs (.inr (4, mNi x.toNat) :: st) h K) : mGo l g mi d pc xs (.inl x :: .inr r :: st) h K := by
  intro p e s m args below meth c H locs ls C P D S L O
  obtain ⟨hx, hb, hml, hr, hown, hts, hlk, hK, hZ⟩ := id C
  obtain ⟨hL, -⟩ := mArr (show r ∈ mLq from O.pop.top) hs (by decide)
  obtain ⟨q, hq⟩ := List.getElem?_of_mem hL
  have hW := kk p e s m args below meth c H locs ls C P D S L (O.pop.pop.push (mNet_in _))
  refine va_aldq hx hb hK P q 2 (cA := g.2.1.2.2) (n := n) (f := fun k => some (g.2.2 (4, mNi k))) (by rw [mW_at hq, mElt_q hs]) rfl (mIn_of O.top hx0 hx1) hd ?_
  rw [mNat (show mIr x from O.top)]
  exact hW
theorem r_alen {r : mRef} {n : Nat} (hd : decode mi.2.2.1 pc = .ok (.arraylength, 1)) (hs : mSh r.1 = .inr (0, n)) (kk : mGo l g mi d (pc + 1) xs (.inl (n : Int) :: st) h K) : mGo l g mi d pc xs (.inr r :: st) h K := by
  intro p e s m args below meth c H locs ls C P D S L O
  obtain ⟨hx, hb, hml, hr, hown, hts, hlk, hK, hZ⟩ := id C
  obtain ⟨hL, hn⟩ := mArr (show r ∈ mLq from O.top) hs (by decide)
  obtain ⟨q, hq⟩ := List.getElem?_of_mem hL
  have hW := kk p e s m args below meth c H locs ls C P D S L (O.pop.push (show mIr (n : Int) from ⟨by omega, by omega⟩))
  exact va_alen hx hb hK P q 0 (cA := g.2.1.1) (x := (n, .inl (fun k => Int32.ofInt (h r.1 r.2 k)))) (by rw [mW_at hq, mElt_i hs]) rfl rfl hd hW
theorem mUpd {t : Nat} {i : Fin 8} {k : Nat} {v : Int} : upd (fun j => Int32.ofInt (h t i j)) k (Int32.ofInt v) = fun j => Int32.ofInt (mSet h t i k v t i j) := by
  funext j
  unfold upd mSet
  by_cases hj : j = k
  · rw [if_pos hj, if_pos ⟨rfl, rfl, hj⟩]
  · rw [if_neg hj, if_neg (fun z => hj z.2.2)]
theorem r_iast {r : mRef} {x v : Int} {n : Nat} (hd : decode mi.2.2.1 pc = .ok (.iastore, 1)) (hs : mSh r.1 = .inr (0, n)) (hx0 : 0 ≤ x) (hx1 : x < n) (kk : mGo l g mi d (pc + 1) xs st (mSet h r.1 r.2 x.toNat v) K) : mGo l g mi d pc xs (.inl v :: .inl x :: .inr r :: st) h K := by
  intro p e s m args below meth c H locs ls C P D S L O
  obtain ⟨hx, hb, hml, hr, hown, hts, hlk, hK, hZ⟩ := id C
  obtain ⟨hL, -⟩ := mArr (show r ∈ mLq from O.pop.pop.top) hs (by decide)
  obtain ⟨q, hq⟩ := List.getElem?_of_mem hL
  have hxr : mIr x := O.pop.top
  have hset : (mW g h).set q (g.2.2 r, .inl (g.2.1.1, n, .inl (upd (fun k => Int32.ofInt (h r.1 r.2 k)) (Int32.ofInt x).toNatClampNeg (Int32.ofInt v)))) = mW g (mSet h r.1 r.2 x.toNat v) := by
    rw [← mW_set hq (fun r' hne => mSet_ne (k := x.toNat) (v := v) hne), mElt_i hs, mNat hxr, mUpd]
  refine va_iast hx hb hK P D S q 0 (cA := g.2.1.1) (n := n) (f := fun k => Int32.ofInt (h r.1 r.2 k)) (by rw [mW_at hq, mElt_i hs]) rfl (mIn_of hxr hx0 hx1) hd (fun H1 locs1 P1 D1 S1 => ?_)
  rw [hset] at P1 D1
  exact kk p e s m args below meth c H1 locs1 ls C P1 D1 S1 L (O.pop.pop.pop.mem (mMok_set O.2.2 O.top))
theorem r_zast {r : mRef} {x v : Int} {n : Nat} (hd : decode mi.2.2.1 pc = .ok (.bastore, 1)) (hs : mSh r.1 = .inr (1, n)) (hx0 : 0 ≤ x) (hx1 : x < n) (hv : v = 0 ∨ v = 1) (kk : mGo l g mi d (pc + 1) xs st (mSet h r.1 r.2 x.toNat v) K) : mGo l g mi d pc xs (.inl v :: .inl x :: .inr r :: st) h K := by
  intro p e s m args below meth c H locs ls C P D S L O
  obtain ⟨hx, hb, hml, hr, hown, hts, hlk, hK, hZ⟩ := id C
  obtain ⟨hL, -⟩ := mArr (show r ∈ mLq from O.pop.pop.top) hs (by decide)
  obtain ⟨q, hq⟩ := List.getElem?_of_mem hL
  have hxr : mIr x := O.pop.top
  have hvn : vp_nar .boolean (Int32.ofInt v) = Int32.ofInt v := by rcases hv with rfl | rfl <;> rfl
  have hset : (mW g h).set q (g.2.2 r, .inl (g.2.1.2.1, n, .inl (upd (fun k => Int32.ofInt (h r.1 r.2 k)) (Int32.ofInt x).toNatClampNeg (vp_nar .boolean (Int32.ofInt v))))) = mW g (mSet h r.1 r.2 x.toNat v) := by
    rw [← mW_set hq (fun r' hne => mSet_ne (k := x.toNat) (v := v) hne), mElt_z hs, mNat hxr, hvn, mUpd]
  refine va_zast hx hb hK P D S q 1 (cA := g.2.1.2.1) (n := n) (f := fun k => Int32.ofInt (h r.1 r.2 k)) (by rw [mW_at hq, mElt_z hs]) rfl (mIn_of hxr hx0 hx1) hd (fun H1 locs1 P1 D1 S1 => ?_)
  rw [hset] at P1 D1
  exact kk p e s m args below meth c H1 locs1 ls C P1 D1 S1 L (O.pop.pop.pop.mem (mMok_set O.2.2 O.top))
theorem mCpy_ne {rs rd r' : mRef} {sp dp n : Nat} (hne : r' ≠ rd) : ∀ j, mCpy h rs rd sp dp n r'.1 r'.2 j = h r'.1 r'.2 j := by
  intro j
  unfold mCpy
  rw [if_neg]
  rintro ⟨a, b, -⟩
  exact hne (Prod.ext a b)
theorem r_copy {rs rd : mRef} {sp dp n : Int} {i ns nd : Nat} (hd : decode mi.2.2.1 pc = .ok (.invokestatic i, 3)) (hl : ∃ z, (mi.1, i, z) ∈ mAl) (hss : mSh rs.1 = .inr (0, ns)) (hsd : mSh rd.1 = .inr (0, nd)) (h1 : 0 ≤ sp) (h2 : 0 ≤ dp) (h3 : 0 ≤ n) (h4 : sp + n ≤ ns) (h5 : dp + n ≤ nd) (hst : st.length ≤ 8)
    (kk : mGo l g mi (d + 1) (pc + 3) xs st (mCpy h rs rd sp.toNat dp.toNat n.toNat) K) : mGo l g mi (d + 1) pc xs (.inl n :: .inl dp :: .inr rd :: .inl sp :: .inr rs :: st) h K := by
  intro p e s m args below meth c H locs ls C P D S L O
  obtain ⟨hx, hb, hml, hr, hown, hts, hlk, hK, hZ⟩ := id C
  obtain ⟨hLs, -⟩ := mArr (show rs ∈ mLq from O.pop.pop.pop.pop.top) hss (by decide)
  obtain ⟨hLd, -⟩ := mArr (show rd ∈ mLq from O.pop.pop.top) hsd (by decide)
  obtain ⟨qs, hqs⟩ := List.getElem?_of_mem hLs
  obtain ⟨qd, hqd⟩ := List.getElem?_of_mem hLd
  have rn : mIr n := O.top
  have rdp : mIr dp := O.pop.top
  have rsp : mIr sp := O.pop.pop.pop.top
  obtain ⟨z, hz⟩ := hl
  have nn : ∀ {x : Int}, mIr x → 0 ≤ x → ¬ Int32.ofInt x < 0 := fun hx h0 q => by
    have q2 : Int32.ofInt _ < Int32.ofInt 0 := q
    rw [mLt hx ⟨by decide, by decide⟩] at q2
    omega
  have hset : (mW g h).set qd (g.2.2 rd, .inl (g.2.1.1, nd, .inl (va_cpy (fun k => Int32.ofInt (h rs.1 rs.2 k)) (fun k => Int32.ofInt (h rd.1 rd.2 k)) (Int32.ofInt sp).toNatClampNeg (Int32.ofInt dp).toNatClampNeg (Int32.ofInt n).toNatClampNeg))) = mW g (mCpy h rs rd sp.toNat dp.toNat n.toNat) := by
    have hf : va_cpy (fun k => Int32.ofInt (h rs.1 rs.2 k)) (fun k => Int32.ofInt (h rd.1 rd.2 k)) sp.toNat dp.toNat n.toNat = fun k => Int32.ofInt (mCpy h rs rd sp.toNat dp.toNat n.toNat rd.1 rd.2 k) := by
      funext k
      unfold va_cpy mCpy
      by_cases hk : dp.toNat ≤ k ∧ k < dp.toNat + n.toNat
      · rw [if_pos hk, if_pos ⟨rfl, rfl, hk⟩]
      · rw [if_neg hk, if_neg (fun z => hk z.2.2)]
    rw [← mW_set hqd (fun r' hne => mCpy_ne hne), mElt_i hsd, mNat rsp, mNat rdp, mNat rn, hf]
  have hcat : (((st.map (mCv g.2.2)).map fun v => v.category).sum) ≤ 8 := by
    have : ∀ st : List mRV, ((st.map (mCv g.2.2)).map fun v => v.category).sum = st.length := by
      intro st
      induction st with
      | nil => rfl
      | cons v st ih => simp only [List.map_cons, List.sum_cons, mCat, ih, List.length_cons]; omega
    rw [this]; exact hst
  have hin := fun w (hw : (lw_tbl.contains w && goodWord w) = true) => hts w (List.mem_cons_of_mem _ (List.mem_filter.mpr ⟨List.contains_iff_mem.mp (Bool.and_eq_true_iff.mp hw).1, (Bool.and_eq_true_iff.mp hw).2⟩))
  refine va_copyi hx hb (hml.trans L.1.symm) hown (hts _ (mMem_w (mAl_ok _ hz) rfl)) (hin _ (by decide +kernel)) (hin _ (by decide +kernel)) (hin _ (by decide +kernel)) hK P D S qs qd 0 0 (c0 := g.2.1.1) (c1 := g.2.1.1) (n0 := ns) (n1 := nd) (f := fun k => Int32.ofInt (h rs.1 rs.2 k)) (g := fun k => Int32.ofInt (h rd.1 rd.2 k)) (ty := .int) (by rw [mW_at hqs, mElt_i hss]) (by rw [mW_at hqd, mElt_i hsd]) rfl rfl rfl (nn rsp h1) (nn rdp h2) (nn rn h3) (by rw [mNat rsp, mNat rn]; omega) (by rw [mNat rdp, mNat rn]; omega) (fun _ _ => rfl) ?_ ?_ hd (fun H1 locs1 P1 D1 S1 => ?_)
  · show 1 ≤ d + 1
    omega
  · show _ ≤ 100 * (d + 1)
    have : nativeFrameWords "java/lang/System" "arraycopy" 5 ≤ 40 := by decide +kernel
    omega
  · rw [hset] at P1 D1
    exact kk p e s m args below meth c H1 locs1 ls C P1 D1 S1 L (O.pop.pop.pop.pop.pop.mem (mMok_cpy O.2.2))
end Snd
