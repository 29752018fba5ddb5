/-! every public call, one form (written by genlaw.py) -/
def uK (h : mMem) (a : Int) (S2 : sS) : Option mRV → mMem → Prop := fun r h2 => r = some (.inl a) ∧ RC h2 S2 ∧ onlyC h h2
def uM (h : mMem) (a : Int) (S2 : sS) : Option mRV → mMem → Prop := fun r h2 => r = some (.inl a) ∧ RM h2 S2 ∧ onlyM h h2
section Uni
variable {l : Launch} {g : mG}
theorem u_K_net (h : mMem) (S : sS) (o : sA S) (e : RC h S) (a1 a2 : Int) : mCon l g n_K_net 100 [.inr (8, 0), .inl a1, .inl a2] h (uK h ((spNet S a1 a2).1) ((spNet S a1 a2).2)) := mCon_lift (by omega) (s_K_net (d := 0) h S o.1 e a1 a2)
theorem u_M_net (h : mMem) (S : sS) (o : sA S) (e : RM h S) (a1 a2 : Int) : mCon l g n_M_net 100 [.inr (9, 0), .inl a1, .inl a2] h (uM h ((spNet S a1 a2).1) ((spNet S a1 a2).2)) := mCon_lift (by omega) (s_M_net (d := 0) h S o.1 e a1 a2)
theorem u_K_target (h : mMem) (S : sS) (o : sA S) (e : RC h S) (a1 a2 a3 : Int) : mCon l g n_K_target 100 [.inr (8, 0), .inl a1, .inl a2, .inl a3] h (uK h ((spTarget S a1 a2 a3).1) ((spTarget S a1 a2 a3).2)) := mCon_lift (by omega) (s_K_target (d := 0) h S o.1 e a1 a2 a3)
theorem u_M_target (h : mMem) (S : sS) (o : sA S) (e : RM h S) (a1 a2 a3 : Int) : mCon l g n_M_target 100 [.inr (9, 0), .inl a1, .inl a2, .inl a3] h (uM h ((spTarget S a1 a2 a3).1) ((spTarget S a1 a2 a3).2)) := mCon_lift (by omega) (s_M_target (d := 0) h S o.1 e a1 a2 a3)
theorem u_K_paint (h : mMem) (S : sS) (o : sA S) (e : RC h S) (a1 a2 a3 : Int) : mCon l g n_K_paint 100 [.inr (8, 0), .inl a1, .inl a2, .inl a3] h (uK h ((spPaint S a1 a2 a3).1) ((spPaint S a1 a2 a3).2)) := mCon_lift (by omega) (s_K_paint (d := 0) h S o.1 e a1 a2 a3)
theorem u_M_paint (h : mMem) (S : sS) (o : sA S) (e : RM h S) (a1 a2 a3 : Int) : mCon l g n_M_paint 100 [.inr (9, 0), .inl a1, .inl a2, .inl a3] h (uM h ((spPaint S a1 a2 a3).1) ((spPaint S a1 a2 a3).2)) := mCon_lift (by omega) (s_M_paint (d := 0) h S o.1 e a1 a2 a3)
theorem u_K_colour (h : mMem) (S : sS) (o : sA S) (e : RC h S) (a1 a2 : Int) : mCon l g n_K_colour 100 [.inr (8, 0), .inl a1, .inl a2] h (uK h (spColour S.1 a1 a2) (S)) := mCon_mono (mCon_lift (by omega) (c_K_colour (d := 0) a1 a2 S.1 h o.1.1 e.1)) (by
  rintro v h2 ⟨rfl, rfl⟩
  exact ⟨rfl, e, onlyC.rf⟩)
theorem u_M_colour (h : mMem) (S : sS) (o : sA S) (e : RM h S) (a1 a2 : Int) : mCon l g n_M_colour 100 [.inr (9, 0), .inl a1, .inl a2] h (uM h (spColour S.1 a1 a2) (S)) := mCon_mono (mCon_lift (by omega) (c_M_colour (d := 0) a1 a2 S.1 h o.1.1 e.1)) (by
  rintro v h2 ⟨rfl, rfl⟩
  exact ⟨rfl, e, onlyM.rf⟩)
theorem u_K_aim (h : mMem) (S : sS) (o : sA S) (e : RC h S) (a1 a2 : Int) : mCon l g n_K_aim 100 [.inr (8, 0), .inl a1, .inl a2] h (uK h (spAim S.1 a1 a2) (S)) := mCon_mono (mCon_lift (by omega) (c_K_aim (d := 0) a1 a2 S.1 h o.1.1 e.1)) (by
  rintro v h2 ⟨rfl, rfl⟩
  exact ⟨rfl, e, onlyC.rf⟩)
theorem u_M_aim (h : mMem) (S : sS) (o : sA S) (e : RM h S) (a1 a2 : Int) : mCon l g n_M_aim 100 [.inr (9, 0), .inl a1, .inl a2] h (uM h (spAim S.1 a1 a2) (S)) := mCon_mono (mCon_lift (by omega) (c_M_aim (d := 0) a1 a2 S.1 h o.1.1 e.1)) (by
  rintro v h2 ⟨rfl, rfl⟩
  exact ⟨rfl, e, onlyM.rf⟩)
theorem u_K_isOf (h : mMem) (S : sS) (o : sA S) (e : RC h S) (a1 a2 : Int) : mCon l g n_K_isOf 100 [.inr (8, 0), .inl a1, .inl a2] h (uK h (spIsOf S.1 a1 a2) (S)) := mCon_mono (mCon_lift (by omega) (c_K_isOf (d := 0) a1 a2 S.1 h o.1.1 e.1)) (by
  rintro v h2 ⟨rfl, rfl⟩
  exact ⟨rfl, e, onlyC.rf⟩)
theorem u_M_isOf (h : mMem) (S : sS) (o : sA S) (e : RM h S) (a1 a2 : Int) : mCon l g n_M_isOf 100 [.inr (9, 0), .inl a1, .inl a2] h (uM h (spIsOf S.1 a1 a2) (S)) := mCon_mono (mCon_lift (by omega) (c_M_isOf (d := 0) a1 a2 S.1 h o.1.1 e.1)) (by
  rintro v h2 ⟨rfl, rfl⟩
  exact ⟨rfl, e, onlyM.rf⟩)
theorem u_K_clear (h : mMem) (S : sS) (o : sA S) (e : RC h S) : mCon l g n_K_clear 100 [.inr (8, 0)] h (uK h (spClear S.1) (S)) := mCon_lift (by omega) (s_K_clear (d := 0) h S o.1 e)
theorem u_M_clear (h : mMem) (S : sS) (o : sA S) (e : RM h S) : mCon l g n_M_clear 100 [.inr (9, 0)] h (uM h (spClear S.1) (S)) := mCon_lift (by omega) (s_M_clear (d := 0) h S o.1 e)
theorem u_K_copies (h : mMem) (S : sS) (o : sA S) (e : RC h S) (a1 : Int) : mCon l g n_K_copies 100 [.inr (8, 0), .inl a1] h (uK h (spCopies S.1 a1) (S)) := mCon_lift (by omega) (s_K_copies (d := 0) a1 h S o.1 e)
theorem u_M_copies (h : mMem) (S : sS) (o : sA S) (e : RM h S) (a1 : Int) : mCon l g n_M_copies 100 [.inr (9, 0), .inl a1] h (uM h (spCopies S.1 a1) (S)) := mCon_lift (by omega) (s_M_copies (d := 0) a1 h S o.1 e)
theorem u_K_copy (h : mMem) (S : sS) (o : sA S) (e : RC h S) (a1 a2 : Int) : mCon l g n_K_copy 100 [.inr (8, 0), .inl a1, .inl a2] h (uK h (spCopy S.1 a1 a2) (S)) := mCon_lift (by omega) (s_K_copy (d := 0) a1 a2 h S o.1 e)
theorem u_M_copy (h : mMem) (S : sS) (o : sA S) (e : RM h S) (a1 a2 : Int) : mCon l g n_M_copy 100 [.inr (9, 0), .inl a1, .inl a2] h (uM h (spCopy S.1 a1 a2) (S)) := mCon_lift (by omega) (s_M_copy (d := 0) a1 a2 h S o.1 e)
theorem u_K_degree (h : mMem) (S : sS) (o : sA S) (e : RC h S) (a1 a2 : Int) : mCon l g n_K_degree 100 [.inr (8, 0), .inl a1, .inl a2] h (uK h (spDegree S.1 a1 a2) (S)) := mCon_mono (mCon_lift (by omega) (c_K_degree (d := 0) a1 a2 S.1 h o.1.1 e.1)) (by
  rintro v h2 ⟨rfl, rfl⟩
  exact ⟨rfl, e, onlyC.rf⟩)
theorem u_M_degree (h : mMem) (S : sS) (o : sA S) (e : RM h S) (a1 a2 : Int) : mCon l g n_M_degree 100 [.inr (9, 0), .inl a1, .inl a2] h (uM h (spDegree S.1 a1 a2) (S)) := mCon_mono (mCon_lift (by omega) (c_M_degree (d := 0) a1 a2 S.1 h o.1.1 e.1)) (by
  rintro v h2 ⟨rfl, rfl⟩
  exact ⟨rfl, e, onlyM.rf⟩)
theorem u_K_triangles (h : mMem) (S : sS) (o : sA S) (e : RC h S) : mCon l g n_K_triangles 100 [.inr (8, 0)] h (uK h (((nTri S.1 : Nat) : Int)) (S)) := mCon_mono (mCon_lift (by omega) (c_K_triangles (d := 0) S.1 o.1.1 h e.1)) (by
  rintro v h2 ⟨rfl, rfl⟩
  exact ⟨rfl, e, onlyC.rf⟩)
theorem u_M_triangles (h : mMem) (S : sS) (o : sA S) (e : RM h S) : mCon l g n_M_triangles 100 [.inr (9, 0)] h (uM h (((nTri S.1 : Nat) : Int)) (S)) := mCon_mono (mCon_lift (by omega) (c_M_triangles (d := 0) S.1 o.1.1 h e.1)) (by
  rintro v h2 ⟨rfl, rfl⟩
  exact ⟨rfl, e, onlyM.rf⟩)
theorem u_K_least (h : mMem) (S : sS) (o : sA S) (e : RC h S) (a1 : Int) : mCon l g n_K_least 100 [.inr (8, 0), .inl a1] h (uK h (spLeast a1) (S)) := mCon_mono (mCon_lift (by omega) (c_K_least (d := 0) a1 h)) (by
  rintro v h2 ⟨rfl, rfl⟩
  exact ⟨rfl, e, onlyC.rf⟩)
theorem u_M_least (h : mMem) (S : sS) (o : sA S) (e : RM h S) (a1 : Int) : mCon l g n_M_least 100 [.inr (9, 0), .inl a1] h (uM h (spLeast a1) (S)) := mCon_mono (mCon_lift (by omega) (c_M_least (d := 0) a1 h)) (by
  rintro v h2 ⟨rfl, rfl⟩
  exact ⟨rfl, e, onlyM.rf⟩)
theorem u_K_turned (h : mMem) (S : sS) (o : sA S) (e : RC h S) (a1 : Int) : mCon l g n_K_turned 100 [.inr (8, 0), .inl a1] h (uK h ((spTurned S a1).1) ((spTurned S a1).2)) := mCon_lift (by omega) (s_K_turned (d := 0) a1 h S o.1 e)
theorem u_M_turned (h : mMem) (S : sS) (o : sA S) (e : RM h S) (a1 : Int) : mCon l g n_M_turned 100 [.inr (9, 0), .inl a1] h (uM h ((spTurned S a1).1) ((spTurned S a1).2)) := mCon_lift (by omega) (s_M_turned (d := 0) a1 h S o.1 e)
theorem u_K_turns (h : mMem) (S : sS) (o : sA S) (e : RC h S) (a1 : Int) : mCon l g n_K_turns 100 [.inr (8, 0), .inl a1] h (uK h (spTurns S.1 a1) (S)) := mCon_lift (by omega) (s_K_turns (d := 0) a1 h S o.1 e)
theorem u_M_turns (h : mMem) (S : sS) (o : sA S) (e : RM h S) (a1 : Int) : mCon l g n_M_turns 100 [.inr (9, 0), .inl a1] h (uM h (spTurns S.1 a1) (S)) := mCon_lift (by omega) (s_M_turns (d := 0) a1 h S o.1 e)
theorem u_K_list (h : mMem) (S : sS) (o : sA S) (e : RC h S) (a1 a2 : Int) : mCon l g n_K_list 100 [.inr (8, 0), .inl a1, .inl a2] h (uK h (spList S a1 a2) (S)) := mCon_lift (by omega) (s_K_list (d := 0) a1 a2 h S o.1 o.2.1 e)
theorem u_M_list (h : mMem) (S : sS) (o : sA S) (e : RM h S) (a1 a2 : Int) : mCon l g n_M_list 100 [.inr (9, 0), .inl a1, .inl a2] h (uM h (spList S a1 a2) (S)) := mCon_lift (by omega) (s_M_list (d := 0) a1 a2 h S o.1 e)
theorem u_K_listed (h : mMem) (S : sS) (o : sA S) (e : RC h S) (a1 a2 : Int) : mCon l g n_K_listed 100 [.inr (8, 0), .inl a1, .inl a2] h (uK h ((spListedK S a1 a2).1) ((spListedK S a1 a2).2)) := mCon_lift (by omega) (s_K_listed (d := 0) a1 a2 h S o.1 o.2.1 e)
theorem u_M_listed (h : mMem) (S : sS) (o : sA S) (e : RM h S) (a1 a2 : Int) : mCon l g n_M_listed 100 [.inr (9, 0), .inl a1, .inl a2] h (uM h ((spListed S a1 a2).1) ((spListed S a1 a2).2)) := mCon_lift (by omega) (s_M_listed (d := 0) a1 a2 h S o.1 e)
theorem u_K_form (h : mMem) (S : sS) (o : sA S) (e : RC h S) (a1 : Int) : mCon l g n_K_form 100 [.inr (8, 0), .inl a1] h (uK h (spForm S.1 a1) (S)) := mCon_lift (by omega) (s_K_form (d := 0) a1 h S o.1 e)
theorem u_M_form (h : mMem) (S : sS) (o : sA S) (e : RM h S) (a1 : Int) : mCon l g n_M_form 100 [.inr (9, 0), .inl a1] h (uM h (spForm S.1 a1) (S)) := mCon_lift (by omega) (s_M_form (d := 0) a1 h S o.1 e)
theorem u_K_same (h : mMem) (S : sS) (o : sA S) (e : RC h S) : mCon l g n_K_same 100 [.inr (8, 0)] h (uK h (spSame S.1) (S)) := mCon_lift (by omega) (s_K_same (d := 0) h S o.1 e)
theorem u_M_same (h : mMem) (S : sS) (o : sA S) (e : RM h S) : mCon l g n_M_same 100 [.inr (9, 0)] h (uM h (spSame S.1) (S)) := mCon_lift (by omega) (s_M_same (d := 0) h S o.1 e)
theorem u_K_puts (h : mMem) (S : sS) (o : sA S) (e : RC h S) : mCon l g n_K_puts 100 [.inr (8, 0)] h (uK h (spPuts S.1) (S)) := mCon_lift (by omega) (s_K_puts (d := 0) h S o.1 e)
theorem u_M_puts (h : mMem) (S : sS) (o : sA S) (e : RM h S) : mCon l g n_M_puts 100 [.inr (9, 0)] h (uM h (spPuts S.1) (S)) := mCon_lift (by omega) (s_M_puts (d := 0) h S o.1 e)
theorem u_K_put (h : mMem) (S : sS) (o : sA S) (e : RC h S) (a1 : Int) : mCon l g n_K_put 100 [.inr (8, 0), .inl a1] h (uK h ((spPutK S a1).1) ((spPutK S a1).2)) := mCon_lift (by omega) (s_K_put (d := 0) a1 h S o.1 e)
theorem u_M_put (h : mMem) (S : sS) (o : sA S) (e : RM h S) (a1 : Int) : mCon l g n_M_put 100 [.inr (9, 0), .inl a1] h (uM h ((spPut S a1).1) ((spPut S a1).2)) := mCon_lift (by omega) (s_M_put (d := 0) a1 h S o.1 e)
theorem u_K_drop (h : mMem) (S : sS) (o : sA S) (e : RC h S) : mCon l g n_K_drop 100 [.inr (8, 0)] h (uK h ((spDrop S).1) ((spDrop S).2)) := mCon_lift (by omega) (s_K_drop (d := 0) h S o.1 e)
theorem u_M_drop (h : mMem) (S : sS) (o : sA S) (e : RM h S) : mCon l g n_M_drop 100 [.inr (9, 0)] h (uM h ((spDrop S).1) ((spDrop S).2)) := mCon_lift (by omega) (s_M_drop (d := 0) h S o.1 e)
theorem u_K_fill (h : mMem) (S : sS) (o : sA S) (e : RC h S) (a1 : Int) : mCon l g n_K_fill 100 [.inr (8, 0), .inl a1] h (uK h ((spFill S a1).1) ((spFill S a1).2)) := mCon_lift (by omega) (s_K_fill (d := 0) a1 h S o.1 e)
theorem u_M_fill (h : mMem) (S : sS) (o : sA S) (e : RM h S) (a1 : Int) : mCon l g n_M_fill 100 [.inr (9, 0), .inl a1] h (uM h ((spFill S a1).1) ((spFill S a1).2)) := mCon_lift (by omega) (s_M_fill (d := 0) a1 h S o.1 e)
theorem u_K_tries (h : mMem) (S : sS) (o : sA S) (e : RC h S) : mCon l g n_K_tries 100 [.inr (8, 0)] h (uK h (S.2.2.1) (S)) := mCon_mono (mCon_lift (by omega) (c_K_tries (d := 0) h)) (by
  rintro v h2 ⟨rfl, rfl⟩
  exact ⟨by rw [e.2.2.1], e, onlyC.rf⟩)
theorem u_M_tries (h : mMem) (S : sS) (o : sA S) (e : RM h S) : mCon l g n_M_tries 100 [.inr (9, 0)] h (uM h (S.2.2.1) (S)) := mCon_mono (mCon_lift (by omega) (c_M_tries (d := 0) h)) (by
  rintro v h2 ⟨rfl, rfl⟩
  exact ⟨by rw [e.2.2.1], e, onlyM.rf⟩)
theorem u_K_prove (h : mMem) (S : sS) (o : sA S) (e : RC h S) : mCon l g n_K_prove 100 [.inr (8, 0)] h (uK h ((spProve S).1) ((spProve S).2)) := mCon_lift (by omega) (s_K_prove (d := 0) h S o.1 e)
theorem u_M_prove (h : mMem) (S : sS) (o : sA S) (e : RM h S) : mCon l g n_M_prove 100 [.inr (9, 0)] h (uM h ((spProve S).1) ((spProve S).2)) := mCon_lift (by omega) (s_M_prove (d := 0) h S o.1 e)
theorem u_K_row (h : mMem) (S : sS) (o : sA S) (e : RC h S) (a1 a2 : Int) : mCon l g n_K_row 100 [.inr (8, 0), .inl a1, .inl a2] h (uK h (spRow S a1 a2) (S)) := mCon_mono (mCon_lift (by omega) (s_K_row (d := 0) h S o.1 e a1 a2)) (by
  rintro v h2 ⟨rfl, rfl⟩
  exact ⟨rfl, e, onlyC.rf⟩)
theorem u_M_row (h : mMem) (S : sS) (o : sA S) (e : RM h S) (a1 a2 : Int) : mCon l g n_M_row 100 [.inr (9, 0), .inl a1, .inl a2] h (uM h (spRow S a1 a2) (S)) := mCon_mono (mCon_lift (by omega) (s_M_row (d := 0) h S o.1 e a1 a2)) (by
  rintro v h2 ⟨rfl, rfl⟩
  exact ⟨rfl, e, onlyM.rf⟩)
theorem u_K_forge (h : mMem) (S : sS) (o : sA S) (e : RC h S) (a1 a2 : Int) : mCon l g n_K_forge 100 [.inr (8, 0), .inl a1, .inl a2] h (uK h ((spForge S a1 a2).1) ((spForge S a1 a2).2)) := mCon_lift (by omega) (s_K_forge (d := 0) h S o.1 e a1 a2)
theorem u_M_forge (h : mMem) (S : sS) (o : sA S) (e : RM h S) (a1 a2 : Int) : mCon l g n_M_forge 100 [.inr (9, 0), .inl a1, .inl a2] h (uM h ((spForge S a1 a2).1) ((spForge S a1 a2).2)) := mCon_lift (by omega) (s_M_forge (d := 0) h S o.1 e a1 a2)
theorem u_K_check (h : mMem) (S : sS) (o : sA S) (e : RC h S) : mCon l g n_K_check 100 [.inr (8, 0)] h (uK h (spCheck S) (S)) := mCon_lift (by omega) (s_K_check (d := 0) h S o.1 o.2.2 e)
theorem u_M_check (h : mMem) (S : sS) (o : sA S) (e : RM h S) : mCon l g n_M_check 100 [.inr (9, 0)] h (uM h (spCheck S) (S)) := mCon_lift (by omega) (s_M_check (d := 0) h S o.1 o.2.2 e)
theorem u_K_step (h : mMem) (S : sS) (o : sA S) (e : RC h S) (a1 : Int) : mCon l g n_K_step 100 [.inr (8, 0), .inl a1] h (uK h ((spStep S a1).1) ((spStep S a1).2)) := mCon_lift (by omega) (s_K_step (d := 0) a1 h S o.1 e)
theorem u_M_step (h : mMem) (S : sS) (o : sA S) (e : RM h S) (a1 : Int) : mCon l g n_M_step 100 [.inr (9, 0), .inl a1] h (uM h ((spStep S a1).1) ((spStep S a1).2)) := mCon_lift (by omega) (s_M_step (d := 0) a1 h S o.1 e)
theorem u_K_undo (h : mMem) (S : sS) (o : sA S) (e : RC h S) : mCon l g n_K_undo 100 [.inr (8, 0)] h (uK h ((spUndo S).1) ((spUndo S).2)) := mCon_lift (by omega) (s_K_undo (d := 0) h S o.1 e)
theorem u_M_undo (h : mMem) (S : sS) (o : sA S) (e : RM h S) : mCon l g n_M_undo 100 [.inr (9, 0)] h (uM h ((spUndo S).1) ((spUndo S).2)) := mCon_lift (by omega) (s_M_undo (d := 0) h S o.1 e)
theorem u_K_count (h : mMem) (S : sS) (o : sA S) (e : RC h S) (a1 : Int) : mCon l g n_K_count 100 [.inr (8, 0), .inl a1] h (uK h (spCount S a1) (S)) := mCon_lift (by omega) (s_K_count (d := 0) a1 h S o.1 e)
theorem u_M_count (h : mMem) (S : sS) (o : sA S) (e : RM h S) (a1 : Int) : mCon l g n_M_count 100 [.inr (9, 0), .inl a1] h (uM h (spCount S a1) (S)) := mCon_lift (by omega) (s_M_count (d := 0) a1 h S o.1 e)
end Uni
