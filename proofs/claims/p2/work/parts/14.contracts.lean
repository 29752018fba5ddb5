/-! contracts: fewer, weaker, deeper -/
theorem mMet_mono {l : Launch} {y : MethodName} {ws : List Cond} {rm : Room} {Pc : Array Value → State → Prop} {Qc Qd : Array Value → State → Outcome → State → Prop} {mc ms : Nat} {free : Addr → Prop} (h : Met l y ws rm Pc Qc mc ms free) (hq : ∀ a st o t, Qc a st o t → Qd a st o t) : Met l y ws rm Pc Qd mc ms free :=
  MetFree.mono h (fun _ _ q => q) (fun _ _ _ _ _ q => q) (fun a s o s' _ q => ⟨hq a s o s' q.1, q.2⟩)
theorem mCon_mono {l : Launch} {g : mG} {m d : Nat} {as : List mRV} {h : mMem} {K K' : Option mRV → mMem → Prop} (hc : mCon l g m d as h K) (hk : ∀ v h', K v h' → K' v h') : mCon l g m d as h K' := fun hv hm =>
  mMet_mono (hc hv hm) (fun _ _ _ _ ⟨⟨v, h', e1, e2, e3⟩, e4⟩ => ⟨⟨v, h', e1, hk v h' e2, e3⟩, e4⟩)
theorem mRoom_mono {s : State} {pl : Platform} {r r' : Room} (hf : r.frames ≤ r'.frames) (hl : r.locals ≤ r'.locals) (hc : r.cells ≤ r'.cells) (hs : r.slots ≤ r'.slots) (h : s.hasRoom pl r' = true) : s.hasRoom pl r = true := by
  simp only [State.hasRoom, Bool.and_eq_true, decide_eq_true_eq] at h ⊢
  obtain ⟨⟨⟨⟨y, a, b, c, d, e⟩, f⟩, g⟩, i⟩ := h
  exact ⟨⟨⟨⟨by omega, by omega, by omega, by omega, by omega, e⟩, by omega⟩, by omega⟩, i⟩
theorem mRoom_le {s : State} {pl : Platform} {d d' : Nat} (hd : d ≤ d') (h : s.hasRoom pl (mRm d') = true) : s.hasRoom pl (mRm d) = true :=
  mRoom_mono (r := mRm d) (r' := mRm d') hd (Nat.mul_le_mul_left 100 hd) (Nat.le_refl _) (Nat.le_refl _) h
theorem mCon_lift {l : Launch} {g : mG} {m d d' : Nat} {as : List mRV} {h : mMem} {K : Option mRV → mMem → Prop} (hd : d ≤ d') (hc : mCon l g m d as h K) : mCon l g m d' as h K := by
  intro hv hm p e ha hcs hk s mm args below hfr happ hP hK
  obtain ⟨a1, a2, a3, a4, a5, a6, a7, a8⟩ := (Spec.appliesLoose_iff hfr).mp happ
  exact hc hv hm p e ha hcs hk s mm args below hfr ((Spec.appliesLoose_iff hfr).mpr ⟨a1, a2, a3, a4, a5, a6, mRoom_le hd a7, a8⟩) hP hK
/-- the answer v, the memory h -/
def mIs (v : Option mRV) (h : mMem) : Option mRV → mMem → Prop := fun r h1 => r = v ∧ h1 = h
theorem mCall_on2 {l : Launch} {g : mG} {m d : Nat} {as : List mRV} {h : mMem} {K Kc : Option mRV → mMem → Prop} (hc : mCon l g m d as h K) (k : ∀ v h', K v h' → Kc v h') : mCall l g (d + 1) m as h Kc := mCon_mono hc k
theorem mCall_is {l : Launch} {g : mG} {m d : Nat} {as : List mRV} {h h' : mMem} {v : Option mRV} {Kc : Option mRV → mMem → Prop} (hc : mCon l g m d as h (mIs v h')) (k : Kc v h') : mCall l g (d + 1) m as h Kc :=
  mCall_on2 hc (fun _ _ ⟨e1, e2⟩ => by rw [e1, e2]; exact k)
