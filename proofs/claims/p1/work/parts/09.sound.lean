/-! the meaning of a step is sound; so is the walk -/
theorem mFind {α : Type} {l : List α} {f : α → Bool} {a : α} (h : l.find? f = some a) : a ∈ l ∧ f a = true := ⟨List.mem_of_find?_eq_some h, List.find?_some h⟩
section Snd
variable {l : Launch} {g : mG} {mi : mMi} {d pc len : Nat} {K : Option mRV → mMem → Prop} {xs : mXs} {st : List mRV} {h : mMem} {nx : mXs → List mRV → mMem → Prop} {jp : Nat → mXs → List mRV → mMem → Prop}
theorem mSwi_at {J : Nat → Prop} {x : Int} : ∀ (ts : List Nat) (lo : Int), mSwi J x lo ts → ∀ (i : Nat) (t : Nat), ts[i]? = some t → x = lo + i → J t
  | [], _, _, i, t, h1, _ => by simp at h1
  | a :: ts, lo, H, 0, t, h1, h2 => by
    simp at h1
    subst h1
    exact H.1 (by omega)
  | a :: ts, lo, H, i + 1, t, h1, h2 => by
    simp only [List.getElem?_cons_succ] at h1
    exact mSwi_at ts (lo + 1) H.2 i t h1 (by omega)
theorem s_iconst {v : Int} (hd : decode mi.2.2.1 pc = .ok (.iconst v, len)) (hln : mLn (.iconst v) len = true) {ι : mIns} (hr : mRes mi pc (.iconst v) = some ι) (hn : ∀ xs st h, nx xs st h → mGo l g mi d (pc + len) xs st h K) (hj : ∀ t xs st h, jp t xs st h → mGo l g mi d t xs st h K) (H : mSem d ι nx jp (mCall l g d) K xs st h) : mGo l g mi d pc xs st h K := by
  obtain rfl : len = 1 := by simpa [mLn] using hln
  by_cases h8 : -128 ≤ v ∧ v < 128
  · rw [show mRes mi pc (.iconst v) = some (0, [], [v]) from if_pos h8] at hr
    cases hr
    exact r_iconst hd ⟨by omega, by omega⟩ (hn _ _ _ H)
  · rw [show mRes mi pc (.iconst v) = none from if_neg h8] at hr
    cases hr
theorem s_bipush {v : Int} (hd : decode mi.2.2.1 pc = .ok (.bipush v, len)) (hln : mLn (.bipush v) len = true) {ι : mIns} (hr : mRes mi pc (.bipush v) = some ι) (hn : ∀ xs st h, nx xs st h → mGo l g mi d (pc + len) xs st h K) (hj : ∀ t xs st h, jp t xs st h → mGo l g mi d t xs st h K) (H : mSem d ι nx jp (mCall l g d) K xs st h) : mGo l g mi d pc xs st h K := by
  obtain rfl : len = 2 := by simpa [mLn] using hln
  by_cases h8 : -128 ≤ v ∧ v < 128
  · rw [show mRes mi pc (.bipush v) = some (0, [], [v]) from if_pos h8] at hr
    cases hr
    exact r_bipush hd h8 ⟨by omega, by omega⟩ (hn _ _ _ H)
  · rw [show mRes mi pc (.bipush v) = none from if_neg h8] at hr
    cases hr
theorem s_sipush {v : Int} (hd : decode mi.2.2.1 pc = .ok (.sipush v, len)) (hln : mLn (.sipush v) len = true) {ι : mIns} (hr : mRes mi pc (.sipush v) = some ι) (hn : ∀ xs st h, nx xs st h → mGo l g mi d (pc + len) xs st h K) (hj : ∀ t xs st h, jp t xs st h → mGo l g mi d t xs st h K) (H : mSem d ι nx jp (mCall l g d) K xs st h) : mGo l g mi d pc xs st h K := by
  obtain rfl : len = 3 := by simpa [mLn] using hln
  by_cases h8 : -32768 ≤ v ∧ v < 32768
  · rw [show mRes mi pc (.sipush v) = some (0, [], [v]) from if_pos h8] at hr
    cases hr
    exact r_sipush hd h8 ⟨by omega, by omega⟩ (hn _ _ _ H)
  · rw [show mRes mi pc (.sipush v) = none from if_neg h8] at hr
    cases hr
theorem s_ldc {i : Nat} (hd : decode mi.2.2.1 pc = .ok (.ldc i, len)) (hln : mLn (.ldc i) len = true) {ι : mIns} (hr : mRes mi pc (.ldc i) = some ι) (hn : ∀ xs st h, nx xs st h → mGo l g mi d (pc + len) xs st h K) (hj : ∀ t xs st h, jp t xs st h → mGo l g mi d t xs st h K) (H : mSem d ι nx jp (mCall l g d) K xs st h) : mGo l g mi d pc xs st h K := by
  obtain rfl : len = 2 := by simpa [mLn] using hln
  obtain ⟨e, he, hr⟩ := Option.bind_eq_some_iff.mp (show Option.bind _ _ = some ι from hr)
  obtain ⟨hm, hf⟩ := mFind he
  split at hr
  · next hi =>
    cases hr
    simp only [Bool.and_eq_true, beq_iff_eq] at hf
    have hc := mCl_ok e hm
    rw [hf.1, hf.2] at hc
    exact r_ldc hd (mMem_w hc rfl) hi (hn _ _ _ H)
  · cases hr
theorem s_ldc_w {i : Nat} (hd : decode mi.2.2.1 pc = .ok (.ldc_w i, len)) (hln : mLn (.ldc_w i) len = true) {ι : mIns} (hr : mRes mi pc (.ldc_w i) = some ι) (hn : ∀ xs st h, nx xs st h → mGo l g mi d (pc + len) xs st h K) (hj : ∀ t xs st h, jp t xs st h → mGo l g mi d t xs st h K) (H : mSem d ι nx jp (mCall l g d) K xs st h) : mGo l g mi d pc xs st h K := by
  obtain rfl : len = 3 := by simpa [mLn] using hln
  obtain ⟨e, he, hr⟩ := Option.bind_eq_some_iff.mp (show Option.bind _ _ = some ι from hr)
  obtain ⟨hm, hf⟩ := mFind he
  split at hr
  · next hi =>
    cases hr
    simp only [Bool.and_eq_true, beq_iff_eq] at hf
    have hc := mCl_ok e hm
    rw [hf.1, hf.2] at hc
    exact r_ldcw hd (mMem_w hc rfl) hi (hn _ _ _ H)
  · cases hr
theorem s_iload_n {k : Fin 4} (hd : decode mi.2.2.1 pc = .ok (.iload_n k, len)) (hln : mLn (.iload_n k) len = true) {ι : mIns} (hr : mRes mi pc (.iload_n k) = some ι) (hn : ∀ xs st h, nx xs st h → mGo l g mi d (pc + len) xs st h K) (hj : ∀ t xs st h, jp t xs st h → mGo l g mi d t xs st h K) (H : mSem d ι nx jp (mCall l g d) K xs st h) : mGo l g mi d pc xs st h K := by
  obtain rfl : len = 1 := by simpa [mLn] using hln
  cases hr
  have H : (match xs[k.val]? with | some (some (.inl v)) => nx xs (.inl v :: st) h | _ => False) := H
  split at H
  · next v hv => exact r_iload_n hd hv (hn _ _ _ H)
  · exact H.elim
theorem s_iload {k : Nat} (hd : decode mi.2.2.1 pc = .ok (.iload k, len)) (hln : mLn (.iload k) len = true) {ι : mIns} (hr : mRes mi pc (.iload k) = some ι) (hn : ∀ xs st h, nx xs st h → mGo l g mi d (pc + len) xs st h K) (hj : ∀ t xs st h, jp t xs st h → mGo l g mi d t xs st h K) (H : mSem d ι nx jp (mCall l g d) K xs st h) : mGo l g mi d pc xs st h K := by
  obtain rfl : len = 2 := by simpa [mLn] using hln
  cases hr
  have H : (match xs[k]? with | some (some (.inl v)) => nx xs (.inl v :: st) h | _ => False) := H
  split at H
  · next v hv => exact r_iload hd hv (hn _ _ _ H)
  · exact H.elim
theorem s_aload_n {k : Fin 4} (hd : decode mi.2.2.1 pc = .ok (.aload_n k, len)) (hln : mLn (.aload_n k) len = true) {ι : mIns} (hr : mRes mi pc (.aload_n k) = some ι) (hn : ∀ xs st h, nx xs st h → mGo l g mi d (pc + len) xs st h K) (hj : ∀ t xs st h, jp t xs st h → mGo l g mi d t xs st h K) (H : mSem d ι nx jp (mCall l g d) K xs st h) : mGo l g mi d pc xs st h K := by
  obtain rfl : len = 1 := by simpa [mLn] using hln
  cases hr
  have H : (match xs[k.val]? with | some (some (.inr v)) => nx xs (.inr v :: st) h | _ => False) := H
  split at H
  · next v hv => exact r_aload_n hd hv (hn _ _ _ H)
  · exact H.elim
theorem s_aload {k : Nat} (hd : decode mi.2.2.1 pc = .ok (.aload k, len)) (hln : mLn (.aload k) len = true) {ι : mIns} (hr : mRes mi pc (.aload k) = some ι) (hn : ∀ xs st h, nx xs st h → mGo l g mi d (pc + len) xs st h K) (hj : ∀ t xs st h, jp t xs st h → mGo l g mi d t xs st h K) (H : mSem d ι nx jp (mCall l g d) K xs st h) : mGo l g mi d pc xs st h K := by
  obtain rfl : len = 2 := by simpa [mLn] using hln
  cases hr
  have H : (match xs[k]? with | some (some (.inr v)) => nx xs (.inr v :: st) h | _ => False) := H
  split at H
  · next v hv => exact r_aload hd hv (hn _ _ _ H)
  · exact H.elim
theorem s_istore_n {k : Fin 4} (hd : decode mi.2.2.1 pc = .ok (.istore_n k, len)) (hln : mLn (.istore_n k) len = true) {ι : mIns} (hr : mRes mi pc (.istore_n k) = some ι) (hn : ∀ xs st h, nx xs st h → mGo l g mi d (pc + len) xs st h K) (hj : ∀ t xs st h, jp t xs st h → mGo l g mi d t xs st h K) (H : mSem d ι nx jp (mCall l g d) K xs st h) : mGo l g mi d pc xs st h K := by
  obtain rfl : len = 1 := by simpa [mLn] using hln
  cases hr
  rcases st with _ | ⟨v | v, st⟩ <;> first | exact False.elim H | skip
  cases hv : xs[k.val]? with
  | none =>
    have H : (match xs[k.val]? with | some _ => nx (xs.set k.val (some (.inl v))) st h | none => False) := H
    rw [hv] at H
    exact H.elim
  | some w =>
    have H : (match xs[k.val]? with | some _ => nx (xs.set k.val (some (.inl v))) st h | none => False) := H
    rw [hv] at H
    exact r_istore_n hd (List.getElem?_eq_some_iff.mp hv).1 (hn _ _ _ H)
theorem s_istore {k : Nat} (hd : decode mi.2.2.1 pc = .ok (.istore k, len)) (hln : mLn (.istore k) len = true) {ι : mIns} (hr : mRes mi pc (.istore k) = some ι) (hn : ∀ xs st h, nx xs st h → mGo l g mi d (pc + len) xs st h K) (hj : ∀ t xs st h, jp t xs st h → mGo l g mi d t xs st h K) (H : mSem d ι nx jp (mCall l g d) K xs st h) : mGo l g mi d pc xs st h K := by
  obtain rfl : len = 2 := by simpa [mLn] using hln
  cases hr
  rcases st with _ | ⟨v | v, st⟩ <;> first | exact False.elim H | skip
  cases hv : xs[k]? with
  | none =>
    have H : (match xs[k]? with | some _ => nx (xs.set k (some (.inl v))) st h | none => False) := H
    rw [hv] at H
    exact H.elim
  | some w =>
    have H : (match xs[k]? with | some _ => nx (xs.set k (some (.inl v))) st h | none => False) := H
    rw [hv] at H
    exact r_istore hd (List.getElem?_eq_some_iff.mp hv).1 (hn _ _ _ H)
theorem s_astore_n {k : Fin 4} (hd : decode mi.2.2.1 pc = .ok (.astore_n k, len)) (hln : mLn (.astore_n k) len = true) {ι : mIns} (hr : mRes mi pc (.astore_n k) = some ι) (hn : ∀ xs st h, nx xs st h → mGo l g mi d (pc + len) xs st h K) (hj : ∀ t xs st h, jp t xs st h → mGo l g mi d t xs st h K) (H : mSem d ι nx jp (mCall l g d) K xs st h) : mGo l g mi d pc xs st h K := by
  obtain rfl : len = 1 := by simpa [mLn] using hln
  cases hr
  rcases st with _ | ⟨v | v, st⟩ <;> first | exact False.elim H | skip
  cases hv : xs[k.val]? with
  | none =>
    have H : (match xs[k.val]? with | some _ => nx (xs.set k.val (some (.inr v))) st h | none => False) := H
    rw [hv] at H
    exact H.elim
  | some w =>
    have H : (match xs[k.val]? with | some _ => nx (xs.set k.val (some (.inr v))) st h | none => False) := H
    rw [hv] at H
    exact r_astore_n hd (List.getElem?_eq_some_iff.mp hv).1 (hn _ _ _ H)
theorem s_astore {k : Nat} (hd : decode mi.2.2.1 pc = .ok (.astore k, len)) (hln : mLn (.astore k) len = true) {ι : mIns} (hr : mRes mi pc (.astore k) = some ι) (hn : ∀ xs st h, nx xs st h → mGo l g mi d (pc + len) xs st h K) (hj : ∀ t xs st h, jp t xs st h → mGo l g mi d t xs st h K) (H : mSem d ι nx jp (mCall l g d) K xs st h) : mGo l g mi d pc xs st h K := by
  obtain rfl : len = 2 := by simpa [mLn] using hln
  cases hr
  rcases st with _ | ⟨v | v, st⟩ <;> first | exact False.elim H | skip
  cases hv : xs[k]? with
  | none =>
    have H : (match xs[k]? with | some _ => nx (xs.set k (some (.inr v))) st h | none => False) := H
    rw [hv] at H
    exact H.elim
  | some w =>
    have H : (match xs[k]? with | some _ => nx (xs.set k (some (.inr v))) st h | none => False) := H
    rw [hv] at H
    exact r_astore hd (List.getElem?_eq_some_iff.mp hv).1 (hn _ _ _ H)
theorem s_iinc {k : Nat} {n : Int} (hd : decode mi.2.2.1 pc = .ok (.iinc k n, len)) (hln : mLn (.iinc k n) len = true) {ι : mIns} (hr : mRes mi pc (.iinc k n) = some ι) (hn : ∀ xs st h, nx xs st h → mGo l g mi d (pc + len) xs st h K) (hj : ∀ t xs st h, jp t xs st h → mGo l g mi d t xs st h K) (H : mSem d ι nx jp (mCall l g d) K xs st h) : mGo l g mi d pc xs st h K := by
  obtain rfl : len = 3 := by simpa [mLn] using hln
  cases hr
  have H : (match xs[k]? with | some (some (.inl v)) => nx (xs.set k (some (.inl (mWr (v + n))))) st h | _ => False) := H
  split at H
  · next v hv => exact r_iinc hd hv (hn _ _ _ H)
  · exact H.elim
theorem s_iadd (hd : decode mi.2.2.1 pc = .ok (.iadd, len)) (hln : mLn (.iadd) len = true) {ι : mIns} (hr : mRes mi pc (.iadd) = some ι) (hn : ∀ xs st h, nx xs st h → mGo l g mi d (pc + len) xs st h K) (hj : ∀ t xs st h, jp t xs st h → mGo l g mi d t xs st h K) (H : mSem d ι nx jp (mCall l g d) K xs st h) : mGo l g mi d pc xs st h K := by
  obtain rfl : len = 1 := by simpa [mLn] using hln
  cases hr
  rcases st with _ | ⟨b | b, _ | ⟨a | a, st⟩⟩ <;> first | exact False.elim H | exact r_iadd hd (hn _ _ _ H)
theorem s_isub (hd : decode mi.2.2.1 pc = .ok (.isub, len)) (hln : mLn (.isub) len = true) {ι : mIns} (hr : mRes mi pc (.isub) = some ι) (hn : ∀ xs st h, nx xs st h → mGo l g mi d (pc + len) xs st h K) (hj : ∀ t xs st h, jp t xs st h → mGo l g mi d t xs st h K) (H : mSem d ι nx jp (mCall l g d) K xs st h) : mGo l g mi d pc xs st h K := by
  obtain rfl : len = 1 := by simpa [mLn] using hln
  cases hr
  rcases st with _ | ⟨b | b, _ | ⟨a | a, st⟩⟩ <;> first | exact False.elim H | exact r_isub hd (hn _ _ _ H)
theorem s_imul (hd : decode mi.2.2.1 pc = .ok (.imul, len)) (hln : mLn (.imul) len = true) {ι : mIns} (hr : mRes mi pc (.imul) = some ι) (hn : ∀ xs st h, nx xs st h → mGo l g mi d (pc + len) xs st h K) (hj : ∀ t xs st h, jp t xs st h → mGo l g mi d t xs st h K) (H : mSem d ι nx jp (mCall l g d) K xs st h) : mGo l g mi d pc xs st h K := by
  obtain rfl : len = 1 := by simpa [mLn] using hln
  cases hr
  rcases st with _ | ⟨b | b, _ | ⟨a | a, st⟩⟩ <;> first | exact False.elim H | exact r_imul hd (hn _ _ _ H)
theorem s_iand (hd : decode mi.2.2.1 pc = .ok (.iand, len)) (hln : mLn (.iand) len = true) {ι : mIns} (hr : mRes mi pc (.iand) = some ι) (hn : ∀ xs st h, nx xs st h → mGo l g mi d (pc + len) xs st h K) (hj : ∀ t xs st h, jp t xs st h → mGo l g mi d t xs st h K) (H : mSem d ι nx jp (mCall l g d) K xs st h) : mGo l g mi d pc xs st h K := by
  obtain rfl : len = 1 := by simpa [mLn] using hln
  cases hr
  rcases st with _ | ⟨b | b, _ | ⟨a | a, st⟩⟩ <;> first | exact False.elim H | exact r_iand hd (hn _ _ _ H)
theorem s_ior (hd : decode mi.2.2.1 pc = .ok (.ior, len)) (hln : mLn (.ior) len = true) {ι : mIns} (hr : mRes mi pc (.ior) = some ι) (hn : ∀ xs st h, nx xs st h → mGo l g mi d (pc + len) xs st h K) (hj : ∀ t xs st h, jp t xs st h → mGo l g mi d t xs st h K) (H : mSem d ι nx jp (mCall l g d) K xs st h) : mGo l g mi d pc xs st h K := by
  obtain rfl : len = 1 := by simpa [mLn] using hln
  cases hr
  rcases st with _ | ⟨b | b, _ | ⟨a | a, st⟩⟩ <;> first | exact False.elim H | exact r_ior hd (hn _ _ _ H)
theorem s_ixor (hd : decode mi.2.2.1 pc = .ok (.ixor, len)) (hln : mLn (.ixor) len = true) {ι : mIns} (hr : mRes mi pc (.ixor) = some ι) (hn : ∀ xs st h, nx xs st h → mGo l g mi d (pc + len) xs st h K) (hj : ∀ t xs st h, jp t xs st h → mGo l g mi d t xs st h K) (H : mSem d ι nx jp (mCall l g d) K xs st h) : mGo l g mi d pc xs st h K := by
  obtain rfl : len = 1 := by simpa [mLn] using hln
  cases hr
  rcases st with _ | ⟨b | b, _ | ⟨a | a, st⟩⟩ <;> first | exact False.elim H | exact r_ixor hd (hn _ _ _ H)
theorem s_ishl (hd : decode mi.2.2.1 pc = .ok (.ishl, len)) (hln : mLn (.ishl) len = true) {ι : mIns} (hr : mRes mi pc (.ishl) = some ι) (hn : ∀ xs st h, nx xs st h → mGo l g mi d (pc + len) xs st h K) (hj : ∀ t xs st h, jp t xs st h → mGo l g mi d t xs st h K) (H : mSem d ι nx jp (mCall l g d) K xs st h) : mGo l g mi d pc xs st h K := by
  obtain rfl : len = 1 := by simpa [mLn] using hln
  cases hr
  rcases st with _ | ⟨b | b, _ | ⟨a | a, st⟩⟩ <;> first | exact False.elim H | exact r_ishl hd (hn _ _ _ H)
theorem s_ishr (hd : decode mi.2.2.1 pc = .ok (.ishr, len)) (hln : mLn (.ishr) len = true) {ι : mIns} (hr : mRes mi pc (.ishr) = some ι) (hn : ∀ xs st h, nx xs st h → mGo l g mi d (pc + len) xs st h K) (hj : ∀ t xs st h, jp t xs st h → mGo l g mi d t xs st h K) (H : mSem d ι nx jp (mCall l g d) K xs st h) : mGo l g mi d pc xs st h K := by
  obtain rfl : len = 1 := by simpa [mLn] using hln
  cases hr
  rcases st with _ | ⟨b | b, _ | ⟨a | a, st⟩⟩ <;> first | exact False.elim H | exact r_ishr hd (hn _ _ _ H)
theorem s_iushr (hd : decode mi.2.2.1 pc = .ok (.iushr, len)) (hln : mLn (.iushr) len = true) {ι : mIns} (hr : mRes mi pc (.iushr) = some ι) (hn : ∀ xs st h, nx xs st h → mGo l g mi d (pc + len) xs st h K) (hj : ∀ t xs st h, jp t xs st h → mGo l g mi d t xs st h K) (H : mSem d ι nx jp (mCall l g d) K xs st h) : mGo l g mi d pc xs st h K := by
  obtain rfl : len = 1 := by simpa [mLn] using hln
  cases hr
  rcases st with _ | ⟨b | b, _ | ⟨a | a, st⟩⟩ <;> first | exact False.elim H | exact r_iushr hd (hn _ _ _ H)
theorem s_idiv (hd : decode mi.2.2.1 pc = .ok (.idiv, len)) (hln : mLn (.idiv) len = true) {ι : mIns} (hr : mRes mi pc (.idiv) = some ι) (hn : ∀ xs st h, nx xs st h → mGo l g mi d (pc + len) xs st h K) (hj : ∀ t xs st h, jp t xs st h → mGo l g mi d t xs st h K) (H : mSem d ι nx jp (mCall l g d) K xs st h) : mGo l g mi d pc xs st h K := by
  obtain rfl : len = 1 := by simpa [mLn] using hln
  cases hr
  rcases st with _ | ⟨b | b, _ | ⟨a | a, st⟩⟩ <;> first | exact False.elim H | exact r_idiv hd H.1 (hn _ _ _ H.2)
theorem s_irem (hd : decode mi.2.2.1 pc = .ok (.irem, len)) (hln : mLn (.irem) len = true) {ι : mIns} (hr : mRes mi pc (.irem) = some ι) (hn : ∀ xs st h, nx xs st h → mGo l g mi d (pc + len) xs st h K) (hj : ∀ t xs st h, jp t xs st h → mGo l g mi d t xs st h K) (H : mSem d ι nx jp (mCall l g d) K xs st h) : mGo l g mi d pc xs st h K := by
  obtain rfl : len = 1 := by simpa [mLn] using hln
  cases hr
  rcases st with _ | ⟨b | b, _ | ⟨a | a, st⟩⟩ <;> first | exact False.elim H | exact r_irem hd H.1 (hn _ _ _ H.2)
theorem s_goto {o : Int} (hd : decode mi.2.2.1 pc = .ok (.goto o, len)) (hln : mLn (.goto o) len = true) {ι : mIns} (hr : mRes mi pc (.goto o) = some ι) (hn : ∀ xs st h, nx xs st h → mGo l g mi d (pc + len) xs st h K) (hj : ∀ t xs st h, jp t xs st h → mGo l g mi d t xs st h K) (H : mSem d ι nx jp (mCall l g d) K xs st h) : mGo l g mi d pc xs st h K := by
  obtain rfl : len = 3 := by simpa [mLn] using hln
  obtain ⟨t, ht, hr⟩ := Option.map_eq_some_iff.mp (show Option.map _ _ = some ι from hr)
  cases hr
  unfold mJ at ht
  split at ht
  · cases ht
    exact r_goto hd (by omega) (hj _ _ _ _ H)
  · cases ht
theorem s_ifCond {c : ClassFile.Cond} {o : Int} (hd : decode mi.2.2.1 pc = .ok (.ifCond c o, len)) (hln : mLn (.ifCond c o) len = true) {ι : mIns} (hr : mRes mi pc (.ifCond c o) = some ι) (hn : ∀ xs st h, nx xs st h → mGo l g mi d (pc + len) xs st h K) (hj : ∀ t xs st h, jp t xs st h → mGo l g mi d t xs st h K) (H : mSem d ι nx jp (mCall l g d) K xs st h) : mGo l g mi d pc xs st h K := by
  obtain rfl : len = 3 := by simpa [mLn] using hln
  have hr2 : (mJ pc o).map (fun (t : Nat) => ((21, [mCc c, t], []) : mIns)) = some ι := hr
  obtain ⟨t, ht, hr3⟩ := Option.map_eq_some_iff.mp hr2
  subst hr3
  have hto : (pc : Int) + o = (t : Int) := by
    unfold mJ at ht
    split at ht
    · cases ht
      omega
    · cases ht
  rcases st with _ | ⟨a | a, st⟩ <;> first | exact False.elim H | skip
  cases c
  case eq => exact r_if_eq hd hto (fun q => hj _ _ _ _ (H.1 q)) (fun q => hn _ _ _ (H.2 q))
  case ne => exact r_if_ne hd hto (fun q => hj _ _ _ _ (H.1 q)) (fun q => hn _ _ _ (H.2 (Classical.not_not.mp q)))
  case lt => exact r_if_lt hd hto (fun q => hj _ _ _ _ (H.1 q)) (fun q => hn _ _ _ (H.2 (Int.not_lt.mp q)))
  case ge => exact r_if_ge hd hto (fun q => hj _ _ _ _ (H.1 q)) (fun q => hn _ _ _ (H.2 (Int.not_le.mp q)))
  case gt => exact r_if_gt hd hto (fun q => hj _ _ _ _ (H.1 q)) (fun q => hn _ _ _ (H.2 (Int.not_lt.mp q)))
  case le => exact r_if_le hd hto (fun q => hj _ _ _ _ (H.1 q)) (fun q => hn _ _ _ (H.2 (Int.not_le.mp q)))
theorem s_if_icmp {c : ClassFile.Cond} {o : Int} (hd : decode mi.2.2.1 pc = .ok (.if_icmp c o, len)) (hln : mLn (.if_icmp c o) len = true) {ι : mIns} (hr : mRes mi pc (.if_icmp c o) = some ι) (hn : ∀ xs st h, nx xs st h → mGo l g mi d (pc + len) xs st h K) (hj : ∀ t xs st h, jp t xs st h → mGo l g mi d t xs st h K) (H : mSem d ι nx jp (mCall l g d) K xs st h) : mGo l g mi d pc xs st h K := by
  obtain rfl : len = 3 := by simpa [mLn] using hln
  have hr2 : (mJ pc o).map (fun (t : Nat) => ((22, [mCc c, t], []) : mIns)) = some ι := hr
  obtain ⟨t, ht, hr3⟩ := Option.map_eq_some_iff.mp hr2
  subst hr3
  have hto : (pc : Int) + o = (t : Int) := by
    unfold mJ at ht
    split at ht
    · cases ht
      omega
    · cases ht
  rcases st with _ | ⟨b | b, _ | ⟨a | a, st⟩⟩ <;> first | exact False.elim H | skip
  cases c
  case eq => exact r_icmp_eq hd hto (fun q => hj _ _ _ _ (H.1 q)) (fun q => hn _ _ _ (H.2 q))
  case ne => exact r_icmp_ne hd hto (fun q => hj _ _ _ _ (H.1 q)) (fun q => hn _ _ _ (H.2 (Classical.not_not.mp q)))
  case lt => exact r_icmp_lt hd hto (fun q => hj _ _ _ _ (H.1 q)) (fun q => hn _ _ _ (H.2 (Int.not_lt.mp q)))
  case ge => exact r_icmp_ge hd hto (fun q => hj _ _ _ _ (H.1 q)) (fun q => hn _ _ _ (H.2 (Int.not_le.mp q)))
  case gt => exact r_icmp_gt hd hto (fun q => hj _ _ _ _ (H.1 q)) (fun q => hn _ _ _ (H.2 (Int.not_lt.mp q)))
  case le => exact r_icmp_le hd hto (fun q => hj _ _ _ _ (H.1 q)) (fun q => hn _ _ _ (H.2 (Int.not_le.mp q)))
theorem s_tableswitch {df : Int} {lo : Int} {hi : Int} {os : Array Int} (hd : decode mi.2.2.1 pc = .ok (.tableswitch df lo hi os, len)) (hln : mLn (.tableswitch df lo hi os) len = true) {ι : mIns} (hr : mRes mi pc (.tableswitch df lo hi os) = some ι) (hn : ∀ xs st h, nx xs st h → mGo l g mi d (pc + len) xs st h K) (hj : ∀ t xs st h, jp t xs st h → mGo l g mi d t xs st h K) (H : mSem d ι nx jp (mCall l g d) K xs st h) : mGo l g mi d pc xs st h K := by
  by_cases hc : 0 ≤ (pc : Int) + df ∧ hi = lo + os.toList.length - 1 ∧ os.toList.all (fun o => decide (0 ≤ (pc : Int) + o)) = true
  · rw [show mRes mi pc (.tableswitch df lo hi os) = some (23, ((pc : Int) + df).toNat :: os.toList.map (fun o => ((pc : Int) + o).toNat), [lo]) from if_pos hc] at hr
    cases hr
    rcases st with _ | ⟨a | a, st⟩ <;> first | exact False.elim H | skip
    obtain ⟨H1, H2⟩ := H
    refine r_sw hd hc.1 hc.2.1 (fun o ho => of_decide_eq_true (List.all_eq_true.mp hc.2.2 o ho)) (fun i o hi ha => ?_) (fun q => hj _ _ _ _ (H2 (by rw [List.length_map]; exact q)))
    exact hj _ _ _ _ (mSwi_at _ _ H1 i ((pc : Int) + o).toNat (by rw [List.getElem?_map, hi]; rfl) ha)
  · rw [show mRes mi pc (.tableswitch df lo hi os) = none from if_neg hc] at hr
    cases hr
theorem s_getfield {i : Nat} (hd : decode mi.2.2.1 pc = .ok (.getfield i, len)) (hln : mLn (.getfield i) len = true) {ι : mIns} (hr : mRes mi pc (.getfield i) = some ι) (hn : ∀ xs st h, nx xs st h → mGo l g mi d (pc + len) xs st h K) (hj : ∀ t xs st h, jp t xs st h → mGo l g mi d t xs st h K) (H : mSem d ι nx jp (mCall l g d) K xs st h) : mGo l g mi d pc xs st h K := by
  obtain rfl : len = 3 := by simpa [mLn] using hln
  obtain ⟨e, he, hr⟩ := Option.map_eq_some_iff.mp (show Option.map _ _ = some ι from hr)
  cases hr
  obtain ⟨hm, hf⟩ := mFind he
  obtain ⟨ow, ix, ci, k, z⟩ := e
  simp only [Bool.and_eq_true, beq_iff_eq] at hf
  obtain ⟨rfl, rfl⟩ := hf
  rcases st with _ | ⟨r | ⟨rt, ri⟩, st⟩ <;> first | exact False.elim H | skip
  have H : (match mSh rt with
        | .inl (cj, fs) => bif cj == ci then (match fs[k]? with
          | some none => nx xs (.inl (h rt ri k) :: st) h
          | some (some (t, none)) => nx xs (.inr (t, ri) :: st) h
          | some (some (t, some i)) => nx xs (.inr (t, i) :: st) h
          | none => False) else False
        | _ => False) := H
  split at H
  · next cj fs hs =>
    by_cases hc : cj = ci
    · subst hc
      rw [beq_self_eq_true, cond_true] at H
      split at H
      · next hk => exact r_getf (r := (rt, ri)) (v := .inl (h rt ri k)) hd ⟨z, hm⟩ hs hk rfl (fun O => O.2.2 _ _ _) (hn _ _ _ H)
      · next t hk => exact r_getf (r := (rt, ri)) (v := .inr (t, ri)) hd ⟨z, hm⟩ hs hk rfl (fun O => (mObj (show ((rt, ri) : mRef) ∈ mLq from O.top) hs).2.2.2 _ (List.mem_of_getElem? hk)) (hn _ _ _ H)
      · next t i hk => exact r_getf (r := (rt, ri)) (v := .inr (t, i)) hd ⟨z, hm⟩ hs hk rfl (fun O => (mObj (show ((rt, ri) : mRef) ∈ mLq from O.top) hs).2.2.2 _ (List.mem_of_getElem? hk)) (hn _ _ _ H)
      · exact H.elim
    · rw [beq_eq_false_iff_ne.mpr hc, cond_false] at H
      exact H.elim
  · exact H.elim
theorem s_putfield {i : Nat} (hd : decode mi.2.2.1 pc = .ok (.putfield i, len)) (hln : mLn (.putfield i) len = true) {ι : mIns} (hr : mRes mi pc (.putfield i) = some ι) (hn : ∀ xs st h, nx xs st h → mGo l g mi d (pc + len) xs st h K) (hj : ∀ t xs st h, jp t xs st h → mGo l g mi d t xs st h K) (H : mSem d ι nx jp (mCall l g d) K xs st h) : mGo l g mi d pc xs st h K := by
  obtain rfl : len = 3 := by simpa [mLn] using hln
  obtain ⟨e, he, hr2⟩ := Option.bind_eq_some_iff.mp (show Option.bind _ _ = some ι from hr)
  clear hr
  obtain ⟨hm, hf⟩ := mFind he
  obtain ⟨ow, ix, ci, k, z⟩ := e
  simp only [Bool.and_eq_true, beq_iff_eq] at hf
  obtain ⟨rfl, rfl⟩ := hf
  dsimp only at hr2
  by_cases hc0 : (mT ci k).2.2.2 = false ∧ (mTyp ci k = .int ∨ mTyp ci k = .boolean)
  · rw [if_pos hc0] at hr2
    have hι := Option.some.inj hr2
    rcases st with _ | ⟨v | v, _ | ⟨r | ⟨rt, ri⟩, st⟩⟩ <;> (subst hι) <;> first | exact False.elim H | skip
    have H : (match mSh rt with
        | .inl (cj, fs) => bif cj == ci then (match fs[k]? with
          | some none => bif (if mTyp ci k = .int then 0 else 1) == 0 then nx xs st (mSet h rt ri k v) else ((v = 0 ∨ v = 1) ∧ nx xs st (mSet h rt ri k v))
          | _ => False) else False
        | _ => False) := H
    split at H
    · next cj fs hs =>
      by_cases hc : cj = ci
      · subst hc
        rw [beq_self_eq_true, cond_true] at H
        split at H
        · next hk =>
          rcases hc0.2 with ht | ht
          · rw [if_pos ht] at H
            exact r_putf (r := (rt, ri)) hd ⟨z, hm⟩ hc0.1 (Or.inl ht) hs hk (hn _ _ _ H)
          · rw [if_neg (by rw [ht]; exact fun q => by cases q)] at H
            exact r_putf (r := (rt, ri)) hd ⟨z, hm⟩ hc0.1 (Or.inr ⟨ht, H.1⟩) hs hk (hn _ _ _ H.2)
        · exact H.elim
      · rw [beq_eq_false_iff_ne.mpr hc, cond_false] at H
        exact H.elim
    · exact H.elim
  · rw [if_neg hc0] at hr2
    cases hr2
theorem s_getstatic {i : Nat} (hd : decode mi.2.2.1 pc = .ok (.getstatic i, len)) (hln : mLn (.getstatic i) len = true) {ι : mIns} (hr : mRes mi pc (.getstatic i) = some ι) (hn : ∀ xs st h, nx xs st h → mGo l g mi d (pc + len) xs st h K) (hj : ∀ t xs st h, jp t xs st h → mGo l g mi d t xs st h K) (H : mSem d ι nx jp (mCall l g d) K xs st h) : mGo l g mi d pc xs st h K := by
  obtain rfl : len = 3 := by simpa [mLn] using hln
  obtain ⟨e, he, hr2⟩ := Option.bind_eq_some_iff.mp (show Option.bind _ _ = some ι from hr)
  clear hr
  obtain ⟨hm, hf⟩ := mFind he
  obtain ⟨ow, ix, t, k, z⟩ := e
  simp only [Bool.and_eq_true, beq_iff_eq] at hf
  obtain ⟨rfl, rfl⟩ := hf
  dsimp only at hr2
  by_cases hc : t ∈ ([100, 101, 102, 103, 104] : List Nat)
  · rw [if_pos hc] at hr2
    cases hr2
    exact r_gets hd ⟨k, z, hm⟩ hc (hn _ _ _ H)
  · rw [if_neg hc] at hr2
    cases hr2
theorem s_iaload (hd : decode mi.2.2.1 pc = .ok (.iaload, len)) (hln : mLn (.iaload) len = true) {ι : mIns} (hr : mRes mi pc (.iaload) = some ι) (hn : ∀ xs st h, nx xs st h → mGo l g mi d (pc + len) xs st h K) (hj : ∀ t xs st h, jp t xs st h → mGo l g mi d t xs st h K) (H : mSem d ι nx jp (mCall l g d) K xs st h) : mGo l g mi d pc xs st h K := by
  obtain rfl : len = 1 := by simpa [mLn] using hln
  cases hr
  rcases st with _ | ⟨x | x, _ | ⟨r | ⟨rt, ri⟩, st⟩⟩ <;> first | exact False.elim H | skip
  have H : (match mSh rt with
        | .inr (0, n) => (0 ≤ x ∧ x < n) ∧ nx xs (.inl (h rt ri x.toNat) :: st) h
        | .inr (3, n) => (0 ≤ x ∧ x < n) ∧ nx xs (.inl ((mTab rt).getD x.toNat 0) :: st) h
        | _ => False) := H
  split at H
  · next n hs => exact r_iald (r := (rt, ri)) hd hs H.1.1 H.1.2 (hn _ _ _ H.2)
  · next n hs => exact r_tald (r := (rt, ri)) hd hs H.1.1 H.1.2 (hn _ _ _ H.2)
  · exact H.elim
theorem s_baload (hd : decode mi.2.2.1 pc = .ok (.baload, len)) (hln : mLn (.baload) len = true) {ι : mIns} (hr : mRes mi pc (.baload) = some ι) (hn : ∀ xs st h, nx xs st h → mGo l g mi d (pc + len) xs st h K) (hj : ∀ t xs st h, jp t xs st h → mGo l g mi d t xs st h K) (H : mSem d ι nx jp (mCall l g d) K xs st h) : mGo l g mi d pc xs st h K := by
  obtain rfl : len = 1 := by simpa [mLn] using hln
  cases hr
  rcases st with _ | ⟨x | x, _ | ⟨r | ⟨rt, ri⟩, st⟩⟩ <;> first | exact False.elim H | skip
  have H : (match mSh rt with
        | .inr (1, n) => (0 ≤ x ∧ x < n) ∧ nx xs (.inl (h rt ri x.toNat) :: st) h
        | _ => False) := H
  split at H
  · next n hs => exact r_zald (r := (rt, ri)) hd hs H.1.1 H.1.2 (hn _ _ _ H.2)
  · exact H.elim
theorem s_aaload (hd : decode mi.2.2.1 pc = .ok (.aaload, len)) (hln : mLn (.aaload) len = true) {ι : mIns} (hr : mRes mi pc (.aaload) = some ι) (hn : ∀ xs st h, nx xs st h → mGo l g mi d (pc + len) xs st h K) (hj : ∀ t xs st h, jp t xs st h → mGo l g mi d t xs st h K) (H : mSem d ι nx jp (mCall l g d) K xs st h) : mGo l g mi d pc xs st h K := by
  obtain rfl : len = 1 := by simpa [mLn] using hln
  cases hr
  rcases st with _ | ⟨x | x, _ | ⟨r | ⟨rt, ri⟩, st⟩⟩ <;> first | exact False.elim H | skip
  have H : (match mSh rt with
        | .inr (2, n) => (0 ≤ x ∧ x < n) ∧ nx xs (.inr (4, mNi x.toNat) :: st) h
        | _ => False) := H
  split at H
  · next n hs => exact r_aald (r := (rt, ri)) hd hs H.1.1 H.1.2 (hn _ _ _ H.2)
  · exact H.elim
theorem s_arraylength (hd : decode mi.2.2.1 pc = .ok (.arraylength, len)) (hln : mLn (.arraylength) len = true) {ι : mIns} (hr : mRes mi pc (.arraylength) = some ι) (hn : ∀ xs st h, nx xs st h → mGo l g mi d (pc + len) xs st h K) (hj : ∀ t xs st h, jp t xs st h → mGo l g mi d t xs st h K) (H : mSem d ι nx jp (mCall l g d) K xs st h) : mGo l g mi d pc xs st h K := by
  obtain rfl : len = 1 := by simpa [mLn] using hln
  cases hr
  rcases st with _ | ⟨r | ⟨rt, ri⟩, st⟩ <;> first | exact False.elim H | skip
  have H : (match mSh rt with
        | .inr (0, n) => nx xs (.inl n :: st) h
        | _ => False) := H
  split at H
  · next n hs => exact r_alen (r := (rt, ri)) hd hs (hn _ _ _ H)
  · exact H.elim
theorem s_iastore (hd : decode mi.2.2.1 pc = .ok (.iastore, len)) (hln : mLn (.iastore) len = true) {ι : mIns} (hr : mRes mi pc (.iastore) = some ι) (hn : ∀ xs st h, nx xs st h → mGo l g mi d (pc + len) xs st h K) (hj : ∀ t xs st h, jp t xs st h → mGo l g mi d t xs st h K) (H : mSem d ι nx jp (mCall l g d) K xs st h) : mGo l g mi d pc xs st h K := by
  obtain rfl : len = 1 := by simpa [mLn] using hln
  cases hr
  rcases st with _ | ⟨v | v, _ | ⟨x | x, _ | ⟨r | ⟨rt, ri⟩, st⟩⟩⟩ <;> first | exact False.elim H | skip
  have H : (match mSh rt with
        | .inr (0, n) => (0 ≤ x ∧ x < n) ∧ nx xs st (mSet h rt ri x.toNat v)
        | _ => False) := H
  split at H
  · next n hs => exact r_iast (r := (rt, ri)) hd hs H.1.1 H.1.2 (hn _ _ _ H.2)
  · exact H.elim
theorem s_bastore (hd : decode mi.2.2.1 pc = .ok (.bastore, len)) (hln : mLn (.bastore) len = true) {ι : mIns} (hr : mRes mi pc (.bastore) = some ι) (hn : ∀ xs st h, nx xs st h → mGo l g mi d (pc + len) xs st h K) (hj : ∀ t xs st h, jp t xs st h → mGo l g mi d t xs st h K) (H : mSem d ι nx jp (mCall l g d) K xs st h) : mGo l g mi d pc xs st h K := by
  obtain rfl : len = 1 := by simpa [mLn] using hln
  cases hr
  rcases st with _ | ⟨v | v, _ | ⟨x | x, _ | ⟨r | ⟨rt, ri⟩, st⟩⟩⟩ <;> first | exact False.elim H | skip
  have H : (match mSh rt with
        | .inr (1, n) => (0 ≤ x ∧ x < n) ∧ (v = 0 ∨ v = 1) ∧ nx xs st (mSet h rt ri x.toNat v)
        | _ => False) := H
  split at H
  · next n hs => exact r_zast (r := (rt, ri)) hd hs H.1.1 H.1.2 H.2.1 (hn _ _ _ H.2.2)
  · exact H.elim
theorem s_dup (hd : decode mi.2.2.1 pc = .ok (.dup, len)) (hln : mLn (.dup) len = true) {ι : mIns} (hr : mRes mi pc (.dup) = some ι) (hn : ∀ xs st h, nx xs st h → mGo l g mi d (pc + len) xs st h K) (hj : ∀ t xs st h, jp t xs st h → mGo l g mi d t xs st h K) (H : mSem d ι nx jp (mCall l g d) K xs st h) : mGo l g mi d pc xs st h K := by
  obtain rfl : len = 1 := by simpa [mLn] using hln
  cases hr
  rcases st with _ | ⟨v, st⟩
  · exact False.elim H
  · exact r_dup hd (hn _ _ _ H)
theorem s_dup2 (hd : decode mi.2.2.1 pc = .ok (.dup2, len)) (hln : mLn (.dup2) len = true) {ι : mIns} (hr : mRes mi pc (.dup2) = some ι) (hn : ∀ xs st h, nx xs st h → mGo l g mi d (pc + len) xs st h K) (hj : ∀ t xs st h, jp t xs st h → mGo l g mi d t xs st h K) (H : mSem d ι nx jp (mCall l g d) K xs st h) : mGo l g mi d pc xs st h K := by
  obtain rfl : len = 1 := by simpa [mLn] using hln
  cases hr
  rcases st with _ | ⟨v, _ | ⟨w, st⟩⟩
  · exact False.elim H
  · exact False.elim H
  · exact r_dup2 hd (hn _ _ _ H)
theorem s_pop (hd : decode mi.2.2.1 pc = .ok (.pop, len)) (hln : mLn (.pop) len = true) {ι : mIns} (hr : mRes mi pc (.pop) = some ι) (hn : ∀ xs st h, nx xs st h → mGo l g mi d (pc + len) xs st h K) (hj : ∀ t xs st h, jp t xs st h → mGo l g mi d t xs st h K) (H : mSem d ι nx jp (mCall l g d) K xs st h) : mGo l g mi d pc xs st h K := by
  obtain rfl : len = 1 := by simpa [mLn] using hln
  cases hr
  rcases st with _ | ⟨v, st⟩
  · exact False.elim H
  · exact r_pop hd (hn _ _ _ H)
theorem s_invokevirtual {i : Nat} (hd : decode mi.2.2.1 pc = .ok (.invokevirtual i, len)) (hln : mLn (.invokevirtual i) len = true) {ι : mIns} (hr : mRes mi pc (.invokevirtual i) = some ι) (hn : ∀ xs st h, nx xs st h → mGo l g mi d (pc + len) xs st h K) (hj : ∀ t xs st h, jp t xs st h → mGo l g mi d t xs st h K) (H : mSem d ι nx jp (mCall l g d) K xs st h) : mGo l g mi d pc xs st h K := by
  obtain rfl : len = 3 := by simpa [mLn] using hln
  obtain ⟨e, he, hr2⟩ := Option.bind_eq_some_iff.mp (show Option.bind _ _ = some ι from hr)
  clear hr
  obtain ⟨hm, hf⟩ := mFind he
  obtain ⟨ow, ix, m', k, z⟩ := e
  simp only [Bool.and_eq_true, beq_iff_eq] at hf
  obtain ⟨rfl, rfl⟩ := hf
  dsimp only at hr2
  by_cases hc : k = 0 ∧ m' < mMl.length
  · rw [if_pos hc] at hr2
    obtain ⟨rfl, hlt⟩ := hc
    have hι := Option.some.inj hr2
    subst hι
    generalize hnn : (mMt m').2.2.2.2.2.2.2.2.2.2 = n at *
    have H : (bif Nat.ble (n + 1) st.length && Nat.ble st.length 8 then (match (st.take (n + 1)).reverse with
      | .inr (rt, ri) :: as => match mSh rt with
        | .inl (cj, _) => bif cj == (mMt m').1 then mCall l g d m' (.inr (rt, ri) :: as) h (fun v h' => nx xs (v.toList ++ st.drop (n + 1)) h') else False
        | _ => False
      | _ => False) else False) := H
    by_cases hb : Nat.ble (n + 1) st.length && Nat.ble st.length 8
    · rw [hb, cond_true] at H
      simp only [Bool.and_eq_true, Nat.ble_eq] at hb
      split at H
      · next rt ri as ha =>
        split at H
        · next cj fs hs =>
          by_cases hcj : cj = (mMt m').1
          · subst hcj
            rw [beq_self_eq_true, cond_true] at H
            subst hnn
            exact r_virtual (r := (rt, ri)) hd ⟨z, hm⟩ hlt hb.1 hb.2 ha hs (fun v h' q => hn _ _ _ q) H
          · rw [beq_eq_false_iff_ne.mpr hcj, cond_false] at H
            exact H.elim
        · exact H.elim
      · exact H.elim
    · rw [Bool.not_eq_true] at hb
      rw [hb, cond_false] at H
      exact H.elim
  · rw [if_neg hc] at hr2
    cases hr2
theorem s_invokestatic {i : Nat} (hd : decode mi.2.2.1 pc = .ok (.invokestatic i, len)) (hln : mLn (.invokestatic i) len = true) {ι : mIns} (hr : mRes mi pc (.invokestatic i) = some ι) (hn : ∀ xs st h, nx xs st h → mGo l g mi d (pc + len) xs st h K) (hj : ∀ t xs st h, jp t xs st h → mGo l g mi d t xs st h K) (H : mSem d ι nx jp (mCall l g d) K xs st h) : mGo l g mi d pc xs st h K := by
  obtain rfl : len = 3 := by simpa [mLn] using hln
  have hr2 : (match mKl.find? (fun e => e.1 == mi.1 && e.2.1 == i) with
      | some e => if (e.2.2.2.1 = 1 ∨ e.2.2.2.1 = 2) ∧ e.2.2.1 < mMl.length then some (50, [e.2.2.1, (mMt e.2.2.1).2.2.2.2.2.2.2.2.2.2], []) else none
      | none => (mAl.find? (fun e => e.1 == mi.1 && e.2.1 == i)).map (fun _ => (70, [], []))) = some ι := hr
  clear hr
  split at hr2
  · next e he =>
    obtain ⟨hm, hf⟩ := mFind he
    obtain ⟨ow, ix, m', k, z⟩ := e
    simp only [Bool.and_eq_true, beq_iff_eq] at hf
    obtain ⟨rfl, rfl⟩ := hf
    dsimp only at hr2
    by_cases hc : (k = 1 ∨ k = 2) ∧ m' < mMl.length
    · rw [if_pos hc] at hr2
      have hι := Option.some.inj hr2
      subst hι
      generalize hnn : (mMt m').2.2.2.2.2.2.2.2.2.2 = n at *
      have H : (bif Nat.ble n st.length && Nat.ble st.length 8 then mCall l g d m' (st.take n).reverse h (fun v h' => nx xs (v.toList ++ st.drop n) h') else False) := H
      by_cases hb : Nat.ble n st.length && Nat.ble st.length 8
      · rw [hb, cond_true] at H
        simp only [Bool.and_eq_true, Nat.ble_eq] at hb
        subst hnn
        exact r_static hd ⟨k, z, hc.1, hm⟩ hc.2 hb.1 hb.2 (fun v h' q => hn _ _ _ q) H
      · rw [Bool.not_eq_true] at hb
        rw [hb, cond_false] at H
        exact H.elim
    · rw [if_neg hc] at hr2
      cases hr2
  · obtain ⟨e, he, hr3⟩ := Option.map_eq_some_iff.mp hr2
    subst hr3
    obtain ⟨hm, hf⟩ := mFind he
    obtain ⟨ow, ix, z⟩ := e
    simp only [Bool.and_eq_true, beq_iff_eq] at hf
    obtain ⟨rfl, rfl⟩ := hf
    rcases st with _ | ⟨n | n, _ | ⟨dp | dp, _ | ⟨rd | ⟨rdt, rdi⟩, _ | ⟨sp | sp, _ | ⟨rs | ⟨rst, rsi⟩, st⟩⟩⟩⟩⟩ <;> first | exact False.elim H | skip
    have H : (match mSh rst, mSh rdt with
        | .inr (0, ns), .inr (0, nd) => bif Nat.ble st.length 8 && Nat.ble 1 d then (0 ≤ sp ∧ 0 ≤ dp ∧ 0 ≤ n ∧ sp + n ≤ ns ∧ dp + n ≤ nd) ∧ nx xs st (mCpy h (rst, rsi) (rdt, rdi) sp.toNat dp.toNat n.toNat) else False
        | _, _ => False) := H
    split at H
    · next ns nd h1 h2 =>
      by_cases hb : Nat.ble st.length 8 && Nat.ble 1 d
      · rw [hb, cond_true] at H
        simp only [Bool.and_eq_true, Nat.ble_eq] at hb
        obtain ⟨⟨a1, a2, a3, a4, a5⟩, H2⟩ := H
        obtain ⟨d', rfl⟩ : ∃ d', d = d' + 1 := ⟨d - 1, by omega⟩
        exact r_copy (rs := (rst, rsi)) (rd := (rdt, rdi)) hd ⟨z, hm⟩ h1 h2 a1 a2 a3 a4 a5 hb.1 (hn _ _ _ H2)
      · rw [Bool.not_eq_true] at hb
        rw [hb, cond_false] at H
        exact H.elim
    · exact H.elim
theorem s_ireturn (hd : decode mi.2.2.1 pc = .ok (.ireturn, len)) (hln : mLn (.ireturn) len = true) {ι : mIns} (hr : mRes mi pc (.ireturn) = some ι) (hn : ∀ xs st h, nx xs st h → mGo l g mi d (pc + len) xs st h K) (hj : ∀ t xs st h, jp t xs st h → mGo l g mi d t xs st h K) (H : mSem d ι nx jp (mCall l g d) K xs st h) : mGo l g mi d pc xs st h K := by
  obtain rfl : len = 1 := by simpa [mLn] using hln
  have hr : (match mi.2.2.2.2.1 with
      | some .int => some (60, [], [])
      | some .boolean => some (62, [], [])
      | _ => none) = some ι := hr
  split at hr
  · next hz =>
    cases hr
    rcases st with _ | ⟨v | v, _ | ⟨a, st⟩⟩ <;> first | exact False.elim H | exact r_iret hd (Or.inl hz) H
  · next hz =>
    cases hr
    rcases st with _ | ⟨v | v, _ | ⟨a, st⟩⟩ <;> first | exact False.elim H | exact r_iret hd (Or.inr ⟨hz, H.1⟩) H.2
  · cases hr
theorem s_return_ (hd : decode mi.2.2.1 pc = .ok (.return_, len)) (hln : mLn (.return_) len = true) {ι : mIns} (hr : mRes mi pc (.return_) = some ι) (hn : ∀ xs st h, nx xs st h → mGo l g mi d (pc + len) xs st h K) (hj : ∀ t xs st h, jp t xs st h → mGo l g mi d t xs st h K) (H : mSem d ι nx jp (mCall l g d) K xs st h) : mGo l g mi d pc xs st h K := by
  obtain rfl : len = 1 := by simpa [mLn] using hln
  have hr : (match mi.2.2.2.2.1 with
      | none => some (61, [], [])
      | _ => none) = some ι := hr
  split at hr
  · next hz =>
    cases hr
    rcases st with _ | ⟨v, st⟩
    · exact r_ret hd hz H
    · exact False.elim H
  · cases hr
theorem mSem_ok (ins : Instr) (hd : decode mi.2.2.1 pc = .ok (ins, len)) (hln : mLn ins len = true) {ι : mIns} (hr : mRes mi pc ins = some ι) (hn : ∀ xs st h, nx xs st h → mGo l g mi d (pc + len) xs st h K) (hj : ∀ t xs st h, jp t xs st h → mGo l g mi d t xs st h K) (H : mSem d ι nx jp (mCall l g d) K xs st h) : mGo l g mi d pc xs st h K := by
  cases ins
  case iconst v => exact s_iconst hd hln hr hn hj H
  case bipush v => exact s_bipush hd hln hr hn hj H
  case sipush v => exact s_sipush hd hln hr hn hj H
  case ldc i => exact s_ldc hd hln hr hn hj H
  case ldc_w i => exact s_ldc_w hd hln hr hn hj H
  case iload_n k => exact s_iload_n hd hln hr hn hj H
  case iload k => exact s_iload hd hln hr hn hj H
  case aload_n k => exact s_aload_n hd hln hr hn hj H
  case aload k => exact s_aload hd hln hr hn hj H
  case istore_n k => exact s_istore_n hd hln hr hn hj H
  case istore k => exact s_istore hd hln hr hn hj H
  case astore_n k => exact s_astore_n hd hln hr hn hj H
  case astore k => exact s_astore hd hln hr hn hj H
  case iinc k n => exact s_iinc hd hln hr hn hj H
  case iadd => exact s_iadd hd hln hr hn hj H
  case isub => exact s_isub hd hln hr hn hj H
  case imul => exact s_imul hd hln hr hn hj H
  case iand => exact s_iand hd hln hr hn hj H
  case ior => exact s_ior hd hln hr hn hj H
  case ixor => exact s_ixor hd hln hr hn hj H
  case ishl => exact s_ishl hd hln hr hn hj H
  case ishr => exact s_ishr hd hln hr hn hj H
  case iushr => exact s_iushr hd hln hr hn hj H
  case idiv => exact s_idiv hd hln hr hn hj H
  case irem => exact s_irem hd hln hr hn hj H
  case goto o => exact s_goto hd hln hr hn hj H
  case ifCond c o => exact s_ifCond hd hln hr hn hj H
  case if_icmp c o => exact s_if_icmp hd hln hr hn hj H
  case tableswitch df lo hi os => exact s_tableswitch hd hln hr hn hj H
  case getfield i => exact s_getfield hd hln hr hn hj H
  case putfield i => exact s_putfield hd hln hr hn hj H
  case getstatic i => exact s_getstatic hd hln hr hn hj H
  case iaload => exact s_iaload hd hln hr hn hj H
  case baload => exact s_baload hd hln hr hn hj H
  case aaload => exact s_aaload hd hln hr hn hj H
  case arraylength => exact s_arraylength hd hln hr hn hj H
  case iastore => exact s_iastore hd hln hr hn hj H
  case bastore => exact s_bastore hd hln hr hn hj H
  case dup => exact s_dup hd hln hr hn hj H
  case dup2 => exact s_dup2 hd hln hr hn hj H
  case pop => exact s_pop hd hln hr hn hj H
  case invokevirtual i => exact s_invokevirtual hd hln hr hn hj H
  case invokestatic i => exact s_invokestatic hd hln hr hn hj H
  case ireturn => exact s_ireturn hd hln hr hn hj H
  case return_ => exact s_return_ hd hln hr hn hj H
  all_goals (cases hr)
end Snd
