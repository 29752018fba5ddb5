/-! Arrays.fill and the model's bareAll over small worlds -/
def filF (n : Nat) (v : Int32) : Nat → Int32 := fun k => if k < n then v else 0
theorem fil_0 (v : Int32) : filF 0 v = fun _ => 0 := rfl
theorem fil_upd (k : Nat) (v : Int32) : upd (filF k v) k v = filF (k + 1) v := by
  funext j
  unfold upd filF
  by_cases z : j = k
  · rw [if_pos z, if_pos (by omega)]
  · rw [if_neg z]
    by_cases y : j < k
    · rw [if_pos y, if_pos (by omega)]
    · rw [if_neg y, if_neg (by omega)]
theorem dJf_0 : decode prog_15_method_103_code 0 = .ok (.iconst 0, 1) := by decide +kernel
theorem dJf_1 : decode prog_15_method_103_code 1 = .ok (.istore_n 2, 1) := by decide +kernel
theorem dJf_2 : decode prog_15_method_103_code 2 = .ok (.aload_n 0, 1) := by decide +kernel
theorem dJf_3 : decode prog_15_method_103_code 3 = .ok (.arraylength, 1) := by decide +kernel
theorem dJf_4 : decode prog_15_method_103_code 4 = .ok (.istore_n 3, 1) := by decide +kernel
theorem dJf_5 : decode prog_15_method_103_code 5 = .ok (.iload_n 2, 1) := by decide +kernel
theorem dJf_6 : decode prog_15_method_103_code 6 = .ok (.iload_n 3, 1) := by decide +kernel
theorem dJf_7 : decode prog_15_method_103_code 7 = .ok (.if_icmp .ge 13, 3) := by decide +kernel
theorem dJf_10 : decode prog_15_method_103_code 10 = .ok (.aload_n 0, 1) := by decide +kernel
theorem dJf_11 : decode prog_15_method_103_code 11 = .ok (.iload_n 2, 1) := by decide +kernel
theorem dJf_12 : decode prog_15_method_103_code 12 = .ok (.iload_n 1, 1) := by decide +kernel
theorem dJf_13 : decode prog_15_method_103_code 13 = .ok (.iastore, 1) := by decide +kernel
theorem dJf_14 : decode prog_15_method_103_code 14 = .ok (.iinc 2 1, 3) := by decide +kernel
theorem dJf_17 : decode prog_15_method_103_code 17 = .ok (.goto (-12), 3) := by decide +kernel
theorem dJf_20 : decode prog_15_method_103_code 20 = .ok (.return_, 1) := by decide +kernel
theorem dMb_0 : decode prog_11_method_2_code 0 = .ok (.iconst 0, 1) := by decide +kernel
theorem dMb_1 : decode prog_11_method_2_code 1 = .ok (.istore_n 1, 1) := by decide +kernel
theorem dMb_2 : decode prog_11_method_2_code 2 = .ok (.iload_n 1, 1) := by decide +kernel
theorem dMb_3 : decode prog_11_method_2_code 3 = .ok (.bipush 66, 2) := by decide +kernel
theorem dMb_5 : decode prog_11_method_2_code 5 = .ok (.if_icmp .ge 16, 3) := by decide +kernel
theorem dMb_8 : decode prog_11_method_2_code 8 = .ok (.aload_n 0, 1) := by decide +kernel
theorem dMb_9 : decode prog_11_method_2_code 9 = .ok (.getfield 23, 3) := by decide +kernel
theorem dMb_12 : decode prog_11_method_2_code 12 = .ok (.iload_n 1, 1) := by decide +kernel
theorem dMb_13 : decode prog_11_method_2_code 13 = .ok (.iconst (-1), 1) := by decide +kernel
theorem dMb_14 : decode prog_11_method_2_code 14 = .ok (.iastore, 1) := by decide +kernel
theorem dMb_15 : decode prog_11_method_2_code 15 = .ok (.iinc 1 1, 3) := by decide +kernel
theorem dMb_18 : decode prog_11_method_2_code 18 = .ok (.goto (-16), 3) := by decide +kernel
theorem dMb_21 : decode prog_11_method_2_code 21 = .ok (.return_, 1) := by decide +kernel
theorem ofI_succ (k : Nat) : Int32.ofInt (k : Int) + Int32.ofInt 1 = Int32.ofInt ((k + 1 : Nat) : Int) := by
  rw [← Int32.ofInt_add]
  rfl
theorem c_fill (l : Launch) (D : va_G) (cI cZ cN : ClassId) (a : Nat) (v : Int32) : cCon l ⟨"java/util/Arrays", "fill", "([II)V"⟩ prog_15_method_103_code 4 { frames := 1, cells := 0, slots := 0, locals := 20 } D cI cZ cN [.ref a, .int v] [(a, .inl (cI, 66, .inl (fun _ => 0)))] (fun _ : Unit => [(a, .inl (cI, 66, .inl (filF 66 v)))]) 0 0 := by
  refine cCon_of (ow := 13) (by decide +kernel) rfl (Nat.le_of_ble_eq_true rfl) (fun p e s m below meth c A hA0 C hin hr hlk hA => ?_)
  show cGo p l e _ s m _ below meth c A _ D _ [(a, .inl (cI, 66, .inl (fun _ => 0)))] 0 0 0 [(0, .ref a), (1, .int v)] []
  refine g_iconst (v := 0) C dJf_0 (by decide) ?_
  refine g_istore (lv' := [(2, .int 0), (0, .ref a), (1, .int v)]) C dJf_1 rfl (by decide) rfl ?_
  refine g_aload C dJf_2 rfl (j := 1) rfl ?_
  refine g_alen (q0 := 0) C rfl dJf_3 ?_
  refine g_istore (lv' := [(3, .int (Int32.ofNat 66)), (2, .int 0), (0, .ref a), (1, .int v)]) C dJf_4 rfl (by decide) rfl ?_
  have loop : ∀ (mm k : Nat), k + mm = 66 → cGo p l e { frames := 1, cells := 0, slots := 0, locals := 20 } s m ([.ref a, .int v] : List Value).toArray below meth c A (MQ below (cPost D [(a, .inl (cI, 66, .inl (fun _ => 0)))] (fun _ : Unit => [(a, .inl (cI, 66, .inl (filF 66 v)))]) s.heap.size) ([.ref a, .int v] : List Value).toArray s 0 0 A) D 4 [(a, .inl (cI, 66, .inl (filF k v)))] 0 0 5 [(2, .int (Int32.ofInt (k : Int))), (3, .int (Int32.ofInt 66)), (0, .ref a), (1, .int v)] [] := by
    intro mm
    induction mm with
    | zero =>
      intro k hk
      refine g_iload C dJf_5 rfl (j := 0) rfl ?_
      refine g_iload C dJf_6 rfl (j := 1) rfl ?_
      refine g_icmpge (tgt := 20) C dJf_7 (by decide) (fun _ => ?_) (fun z => absurd ((mLe (x := 66) (y := (k : Int)) ⟨by decide, by decide⟩ ⟨by omega, by omega⟩).mpr (by omega)) z)
      have : k = 66 := by omega
      subst this
      exact g_vret () C hA0 hr hlk rfl dJf_20
    | succ mm ih =>
      intro k hk
      have hir : mIr (k : Int) := ⟨by omega, by omega⟩
      refine g_iload C dJf_5 rfl (j := 0) rfl ?_
      refine g_iload C dJf_6 rfl (j := 1) rfl ?_
      refine g_icmpge (tgt := 20) C dJf_7 (by decide) (fun z => absurd ((mLe (x := 66) (y := (k : Int)) ⟨by decide, by decide⟩ hir).mp z) (by omega)) (fun _ => ?_)
      refine g_aload C dJf_10 rfl (j := 2) rfl ?_
      refine g_iload C dJf_11 rfl (j := 0) rfl ?_
      refine g_iload C dJf_12 rfl (j := 3) rfl ?_
      refine g_iast (q0 := 0) C rfl (mIn_of hir (by omega) (by omega)) dJf_13 ?_
      show cGo p l e _ s m _ below meth c A _ D _ [(a, .inl (cI, 66, .inl (upd (filF k v) (Int32.ofInt (k : Int)).toNatClampNeg v)))] _ _ _ _ _
      rw [mNat hir, Int.toNat_natCast, fil_upd]
      refine g_iinc (v := Int32.ofInt ((k + 1 : Nat) : Int)) (k := 0) (lv' := [(2, .int (Int32.ofInt ((k + 1 : Nat) : Int))), (3, .int (Int32.ofInt 66)), (0, .ref a), (1, .int v)]) C dJf_14 rfl (ofI_succ k) (by decide) rfl ?_
      refine g_goto (tgt := 5) C dJf_17 (by decide) ?_
      exact ih (k + 1) (by omega)
  exact fun H locs ls P DD S L => loop 66 0 rfl H locs ls P DD S (lv_sub L [1, 0, 2, 3] rfl)
theorem c_bareAll (l : Launch) (D : va_G) (cI cZ cN : ClassId) (h0 a : Nat) (fs : List Value) (hf : fs[4]? = some (.ref a)) : cCon l ⟨"KeptColoursModel", "bareAll", "()V"⟩ prog_11_method_2_code 2 { frames := 1, cells := 0, slots := 0, locals := 20 } D cI cZ cN [.ref h0] [(h0, .inr (9, fs)), (a, .inl (cI, 66, .inl (fun _ => 0)))] (fun _ : Unit => [(h0, .inr (9, fs)), (a, .inl (cI, 66, .inl (filF 66 (-1))))]) 0 0 := by
  refine cCon_of (ow := 9) (by decide +kernel) rfl (Nat.le_of_ble_eq_true rfl) (fun p e s m below meth c A hA0 C hin hr hlk hA => ?_)
  show cGo p l e _ s m _ below meth c A _ D _ [(h0, .inr (9, fs)), (a, .inl (cI, 66, .inl (fun _ => 0)))] 0 0 0 [(0, .ref h0)] []
  refine g_iconst (v := 0) C dMb_0 (by decide) ?_
  refine g_istore (lv' := [(1, .int 0), (0, .ref h0)]) C dMb_1 rfl (by decide) rfl ?_
  have loop : ∀ (mm k : Nat), k + mm = 66 → cGo p l e { frames := 1, cells := 0, slots := 0, locals := 20 } s m ([.ref h0] : List Value).toArray below meth c A (MQ below (cPost D [(h0, .inr (9, fs)), (a, .inl (cI, 66, .inl (fun _ => 0)))] (fun _ : Unit => [(h0, .inr (9, fs)), (a, .inl (cI, 66, .inl (filF 66 (-1))))]) s.heap.size) ([.ref h0] : List Value).toArray s 0 0 A) D 2 [(h0, .inr (9, fs)), (a, .inl (cI, 66, .inl (filF k (-1))))] 0 0 2 [(1, .int (Int32.ofInt (k : Int))), (0, .ref h0)] [] := by
    intro mm
    induction mm with
    | zero =>
      intro k hk
      refine g_iload C dMb_2 rfl (j := 0) rfl ?_
      refine g_bipush (v := Int32.ofInt 66) C dMb_3 (by decide) ?_
      refine g_icmpge (tgt := 21) C dMb_5 (by decide) (fun _ => ?_) (fun z => absurd ((mLe (x := 66) (y := (k : Int)) ⟨by decide, by decide⟩ ⟨by omega, by omega⟩).mpr (by omega)) z)
      have : k = 66 := by omega
      subst this
      exact g_vret () C hA0 hr hlk rfl dMb_21
    | succ mm ih =>
      intro k hk
      have hir : mIr (k : Int) := ⟨by omega, by omega⟩
      refine g_iload C dMb_2 rfl (j := 0) rfl ?_
      refine g_bipush (v := Int32.ofInt 66) C dMb_3 (by decide) ?_
      refine g_icmpge (tgt := 21) C dMb_5 (by decide) (fun z => absurd ((mLe (x := 66) (y := (k : Int)) ⟨by decide, by decide⟩ hir).mp z) (by omega)) (fun _ => ?_)
      refine g_aload C dMb_8 rfl (j := 1) rfl ?_
      refine g_get (q0 := 0) (ci := 9) (k := 4) (n := 830) C (by decide +kernel) rfl hf dMb_9 ?_
      refine g_iload C dMb_12 rfl (j := 0) rfl ?_
      refine g_iconst (v := -1) C dMb_13 (by decide) ?_
      refine g_iast (q0 := 1) C rfl (mIn_of hir (by omega) (by omega)) dMb_14 ?_
      show cGo p l e _ s m _ below meth c A _ D _ [(h0, .inr (9, fs)), (a, .inl (cI, 66, .inl (upd (filF k (-1)) (Int32.ofInt (k : Int)).toNatClampNeg (-1))))] _ _ _ _ _
      rw [mNat hir, Int.toNat_natCast, fil_upd]
      refine g_iinc (v := Int32.ofInt ((k + 1 : Nat) : Int)) (k := 0) (lv' := [(1, .int (Int32.ofInt ((k + 1 : Nat) : Int))), (0, .ref h0)]) C dMb_15 rfl (ofI_succ k) (by decide) rfl ?_
      refine g_goto (tgt := 2) C dMb_18 (by decide) ?_
      exact ih (k + 1) (by omega)
  exact loop 66 0 rfl
