theorem wl_iff {T : Nat → Int} {c : Int} {goal : Nat} : ∀ (s tk : List Nat) (a : Nat), wl T c goal tk a s ↔ ((∀ x ∈ s, x ∉ tk) ∧ s.Nodup) ∧ chn (adT T c) (a :: s ++ [goal])
  | [], tk, a => ⟨fun h => ⟨⟨fun x hx => (List.not_mem_nil hx).elim, List.nodup_nil⟩, h, trivial⟩, fun h => h.2.1⟩
  | p :: s, tk, a => by
    show ((adT T c a p ∧ p ∉ tk) ∧ wl T c goal (p :: tk) p s) ↔ ((∀ x ∈ p :: s, x ∉ tk) ∧ (p :: s).Nodup) ∧ (adT T c a p ∧ chn (adT T c) (p :: s ++ [goal]))
    rw [wl_iff s (p :: tk) p]
    constructor
    · rintro ⟨⟨h1, h2⟩, ⟨h3, h4⟩, h5⟩
      refine ⟨⟨fun x hx => ?_, List.nodup_cons.mpr ⟨fun z => h3 p z List.mem_cons_self, h4⟩⟩, h1, h5⟩
      rcases List.mem_cons.mp hx with rfl | y
      · exact h2
      · exact fun z => h3 x y (List.mem_cons_of_mem _ z)
    · rintro ⟨⟨h1, h2⟩, h3, h4⟩
      obtain ⟨h5, h6⟩ := List.nodup_cons.mp h2
      refine ⟨⟨h3, h1 p List.mem_cons_self⟩, ⟨fun x hx z => ?_, h6⟩, h4⟩
      rcases List.mem_cons.mp z with rfl | y
      · exact h5 hx
      · exact h1 x (List.mem_cons_of_mem _ hx) y
theorem arm_iff {T : Nat → Int} {c : Int} : ∀ (s tk : List Nat) (a : Nat), arm T c tk a s ↔ ((∀ x ∈ s, x ∉ tk) ∧ s.Nodup) ∧ chn (adT T c) (a :: s)
  | [], tk, a => ⟨fun _ => ⟨⟨fun x hx => (List.not_mem_nil hx).elim, List.nodup_nil⟩, trivial⟩, fun _ => trivial⟩
  | p :: s, tk, a => by
    show ((adT T c a p ∧ p ∉ tk) ∧ arm T c (p :: tk) p s) ↔ ((∀ x ∈ p :: s, x ∉ tk) ∧ (p :: s).Nodup) ∧ (adT T c a p ∧ chn (adT T c) (p :: s))
    rw [arm_iff s (p :: tk) p]
    constructor
    · rintro ⟨⟨h1, h2⟩, ⟨h3, h4⟩, h5⟩
      refine ⟨⟨fun x hx => ?_, List.nodup_cons.mpr ⟨fun z => h3 p z List.mem_cons_self, h4⟩⟩, h1, h5⟩
      rcases List.mem_cons.mp hx with rfl | y
      · exact h2
      · exact fun z => h3 x y (List.mem_cons_of_mem _ z)
    · rintro ⟨⟨h1, h2⟩, h3, h4⟩
      obtain ⟨h5, h6⟩ := List.nodup_cons.mp h2
      refine ⟨⟨h3, h1 p List.mem_cons_self⟩, ⟨fun x hx z => ?_, h6⟩, h4⟩
      rcases List.mem_cons.mp z with rfl | y
      · exact h5 hx
      · exact h1 x (List.mem_cons_of_mem _ hx) y
theorem chn_mid {A : Nat → Nat → Prop} (hA : ∀ a b, A a b → A b a) : ∀ (x : List Nat) (u : Nat) (z : List Nat), chn A (x.reverse ++ u :: z) ↔ chn A (u :: x) ∧ chn A (u :: z)
  | [], u, z => ⟨fun h => ⟨trivial, h⟩, fun h => h.2⟩
  | p :: s, u, z => by
    rw [List.reverse_cons, List.append_assoc]
    show chn A (s.reverse ++ p :: u :: z) ↔ (A u p ∧ chn A (p :: s)) ∧ chn A (u :: z)
    rw [chn_mid hA s p (u :: z)]
    show chn A (p :: s) ∧ (A p u ∧ chn A (u :: z)) ↔ _
    exact ⟨fun h => ⟨⟨hA _ _ h.2.1, h.1⟩, h.2.2⟩, fun h => ⟨h.1.2, hA _ _ h.1.1, h.2⟩⟩
theorem thr_ring2 (T : Nat → Int) (c : Int) (L n u v : Nat) (hk : kOk 2 L) (hn : n ≤ 12) (hu : u < n) (hv : v < n) (huv : u ≠ v) (hT : adT T c u v) : thr T c 2 L n (jn u v) = bw T c n v [u, v] u (L - 2) := by
  rw [thr_ring T c L n u v hk hn hu hv huv]
  refine SL_congr _ (fun y _ _ => iq_congr ?_ 1)
  rw [wl_iff]
  show ((v :: u :: y).Nodup ∧ (adT T c v u ∧ chn (adT T c) (u :: y ++ [v]))) ↔ _
  rw [List.nodup_cons, List.nodup_cons]
  constructor
  · rintro ⟨⟨h1, h2, h3⟩, h4, h5⟩
    refine ⟨⟨fun x hx z => ?_, h3⟩, h5⟩
    rcases List.mem_cons.mp z with rfl | w
    · exact h2 hx
    · rw [List.mem_singleton.mp w] at hx
      exact h1 (List.mem_cons_of_mem _ hx)
  · rintro ⟨⟨h1, h2⟩, h3⟩
    refine ⟨⟨fun z => ?_, fun z => h1 u z (by simp), h2⟩, adT_sym _ _ hT, h3⟩
    rcases List.mem_cons.mp z with w | w
    · exact huv w.symm
    · exact h1 v w (by simp)
theorem thr_path2 (T : Nat → Int) (c : Int) (L n u v : Nat) (hk : kOk 5 L) (hn : n ≤ 12) (hu : u < n) (hv : v < n) (huv : u ≠ v) (hT : adT T c u v) : thr T c 5 L n (jn u v) = sm (fun i => aR T c n i (L - 2 - i) u v [u, v]) (L - 1) := by
  rw [thr_path T c L n u v hk hn hu hv huv]
  refine sm_congr (L - 1) (fun i _ => ?_)
  unfold aR
  rw [← SL_rev n i (fun x => SL n (L - 2 - i) (fun y => iq (rp T c (x ++ u :: v :: y)) 1))]
  refine SL_congr i (fun x _ _ => ?_)
  rw [← SL_iq]
  refine SL_congr _ (fun y _ _ => ?_)
  rw [← iq_and]
  refine iq_congr ?_ 1
  unfold rp
  rw [arm_iff, arm_iff, chn_mid adT_sym, List.nodup_append, List.nodup_cons, List.nodup_cons, (List.reverse_perm x).nodup_iff]
  show _ ∧ (chn (adT T c) (u :: x) ∧ (adT T c u v ∧ chn (adT T c) (v :: y))) ↔ _
  constructor
  · rintro ⟨⟨h1, ⟨h2, h3, h4⟩, h5⟩, h6, h7, h8⟩
    refine ⟨⟨⟨fun q hq z => ?_, h1⟩, h6⟩, ⟨fun q hq z => ?_, h4⟩, h8⟩
    · rcases List.mem_cons.mp z with w | w
      · exact h5 q (List.mem_reverse.mpr hq) u List.mem_cons_self w
      · exact h5 q (List.mem_reverse.mpr hq) v (List.mem_cons_of_mem _ List.mem_cons_self) (List.mem_singleton.mp w)
    · rcases List.mem_append.mp z with w | w
      · exact h5 q w q (List.mem_cons_of_mem _ (List.mem_cons_of_mem _ hq)) rfl
      · rcases List.mem_cons.mp w with rfl | w
        · exact h2 (List.mem_cons_of_mem _ hq)
        · rw [List.mem_singleton.mp w] at hq
          exact h3 hq
  · rintro ⟨⟨⟨h1, h2⟩, h3⟩, ⟨h4, h5⟩, h6⟩
    refine ⟨⟨h2, ⟨fun z => ?_, fun z => h4 v z (List.mem_append_right _ (by simp)), h5⟩, fun a ha b hb z => ?_⟩, h3, hT, h6⟩
    · rcases List.mem_cons.mp z with w | w
      · exact huv w
      · exact h4 u w (List.mem_append_right _ (by simp))
    · subst z
      rcases List.mem_cons.mp hb with w | w
      · exact h1 a (List.mem_reverse.mp ha) (by simp [w])
      · rcases List.mem_cons.mp w with w | w
        · exact h1 a (List.mem_reverse.mp ha) (by simp [w])
        · exact h4 a w (List.mem_append_left _ ha)
theorem jhi_lt {n e : Nat} (hn : n ≤ 12) (he : e < js n) : jlo e < jhi e ∧ jhi e < n ∧ e < 66 ∧ jn (jlo e) (jhi e) = e := by
  have h66 := js_le n (by omega)
  obtain ⟨-, -, h3, h4, h5⟩ := jlo_tab e (by omega)
  refine ⟨h3, ?_, by omega, h5⟩
  by_cases z : jhi e < n
  · exact z
  · have := jn_ge n (by omega) (jlo e) (by omega) (jhi e) h4 (by omega) (by omega)
    omega
noncomputable def thrK (N : nN) (T : Nat → Int) (c e : Nat) : Nat := if nK N c = 0 then 0 else thr T c (nkk N c) (nln N c) (nP N) e
section Out3
variable {l : Launch} {g : mG} {d : Nat}
theorem c_Outward_countFrom (i : Fin 8) (N : nN) (o : nOk N) (e c : Nat) (he : e < js (nP N)) (hc : c < 3) (hTc : nT N e = c) (T2 : Nat → Int) (hT2 : T2 e = c) (fb : farB T2 (nP N)) (B : Nat → Prop) (hB : oB T2 c (nP N) B) (hu : B (jlo e)) (hv : B (jhi e)) (h : mMem) (eC : isC h i N) (eO : oSt h T2 c (nP N) B) :
    mCon l g n_Outward_countFrom (d + 12) [.inr (5, 0), .inr (4, i), .inl e] h (mIs (some (.inl (thrK N T2 c e : Nat))) h) := by
  obtain ⟨j1, j2, j3, j4⟩ := jhi_lt o.1.2 he
  have hn := o.1.2
  obtain ⟨t1, t2, -⟩ := jlo_tab e j3
  have te : ((e : Int)).toNat = e := Int.toNat_natCast e
  have rt : h 22 i ((e : Int)).toNat = (c : Int) := by rw [te, eC.2.2.2.2.1 e j3, hTc]
  have tc : (h 22 i ((e : Int)).toNat).toNat = c := by rw [rt]; exact Int.toNat_natCast c
  have rs : h 21 i (h 22 i ((e : Int)).toNat).toNat = nS N c := by rw [tc, eC.2.2.2.1 c hc]
  have rk : h 20 i (h 22 i ((e : Int)).toNat).toNat = nK N c := by rw [tc, eC.2.2.1 c hc]
  have hsz := o.2.2.1 c hc
  have hT : adT T2 c (jlo e) (jhi e) := by
    unfold adT
    rw [j4]
    exact hT2
  have hcne : ((c : Nat) : Int) ≠ -1 := by omega
  have hlu : (mTab 103).getD ((e : Int)).toNat 0 = (jlo e : Int) := by rw [te, t1]
  have hhv : (mTab 104).getD ((e : Int)).toNat 0 = (jhi e : Int) := by rw [te, t2]
  refine e_Outward_countFrom (fun hv' hm => ?_)
  refine mGo_wp h_Outward_countFrom 120 [26] ?_
  refine ⟨⟨by omega, by omega⟩, ⟨by omega, by omega⟩, ⟨by omega, by omega⟩, ⟨by rw [rt]; omega, by rw [rt]; omega⟩, ?_⟩
  show mGo l g (mMt n_Outward_countFrom) (d + 12) 26 [some (.inr (5, 0)), some (.inr (4, i)), some (.inl (e : Int)), some (.inl ((mTab 103).getD ((e : Int)).toNat 0)), some (.inl ((mTab 104).getD ((e : Int)).toNat 0)), some (.inl (h 21 i (h 22 i ((e : Int)).toNat).toNat))] [] h _
  rw [hlu, hhv, rs]
  refine mGo_wp h_Outward_countFrom 120 [] ?_
  refine ⟨⟨by omega, by omega⟩, ⟨by rw [rt]; omega, by rw [rt]; omega⟩, ?_⟩
  rw [rk]
  unfold thrK
  have eu : h 26 0 (Int.toNat (jlo e : Int)) = nr T2 c (jlo e) := by rw [Int.toNat_natCast, eO.2 _ hu]
  have ev : h 26 0 (Int.toNat (jhi e : Int)) = nr T2 c (jhi e) := by rw [Int.toNat_natCast, eO.2 _ hv]
  obtain ⟨w1, w2, w3⟩ := two_bits (u := jlo e) (v := jhi e) (by omega) (by omega)
  by_cases h0 : nK N c = 0
  · rw [if_pos h0, h0]
    exact ⟨⟨fun z => absurd z (by decide), fun z => absurd z (by decide), fun z => absurd z (by decide), fun z => absurd z (by decide), fun z => absurd z (by decide), trivial⟩, fun _ => ⟨rfl, rfl⟩⟩
  · rw [if_neg h0]
    obtain ⟨k1, k2, k3, k4, k5⟩ := kOk_of hsz h0
    have k1 : kOk (nkk N c) (nln N c) := k1
    obtain ⟨s, hs⟩ : ∃ s : Nat, nS N c = (s : Int) := ⟨(nS N c).toNat, by omega⟩
    rw [hs]
    have hlen : ((nln N c : Nat) : Int) = lenOf (nK N c) s := by rw [← hs]; exact k3
    unfold lenOf at hlen
    rcases hsz with ⟨q1, -⟩ | ⟨q1, q2, q3⟩ | ⟨q1, q2, q3⟩ | ⟨q1, q2, q3⟩ | ⟨q1, q2, q3⟩ | ⟨q1, q2, q3⟩
    · exact absurd q1 h0
    · have qk : nkk N c = 1 := by unfold nkk; rw [q1]; rfl
      rw [q1, if_neg (by decide), if_neg (by decide)] at hlen
      have hl : nln N c = s := by omega
      rw [qk, hl] at k1
      rw [q1, qk, hl]
      refine ⟨⟨fun _ => ⟨⟨by omega, by omega⟩, ⟨by omega, by omega⟩, ?_⟩, fun z => absurd z (by decide), fun z => absurd z (by decide), fun z => absurd z (by decide), fun z => absurd z (by decide), trivial⟩, fun z => absurd z (by decide)⟩
      obtain ⟨z, a1, a2, a3⟩ := and_and (nr_lt T2 c (jlo e)) (nr_lt T2 c (jhi e))
      have wz : mAnd (h 26 0 (Int.toNat (jlo e : Int))) (h 26 0 (Int.toNat (jhi e : Int))) = (z : Int) := by rw [eu, ev, a1]
      have ws : mWr ((s : Int) - 2) = ((s - 2 : Nat) : Int) := by rw [mWr_of ⟨by omega, by omega⟩]; omega
      have q := c_allJoined (l := l) (g := g) (d := d + 6) T2 c (nP N) hn fb B hB h eO (s - 2) (by omega) (fun q => (q < nP N ∧ adT T2 c (jlo e) q ∧ q ≠ jlo e) ∧ adT T2 c (jhi e) q ∧ q ≠ jhi e) z a2 (fun q => by
        rw [a3, near_bit hn fb (show jlo e < 12 by omega), near_bit hn fb (show jhi e < 12 by omega)]
        exact ⟨fun w => ⟨⟨w.1.1.1, w.1.1.2, w.1.2⟩, w.2.1.2, w.2.2⟩, fun w => ⟨⟨⟨w.1.1, w.1.2.1⟩, w.1.2.2⟩, ⟨w.1.1, w.2.1⟩, w.2.2⟩⟩) (fun q hq => hB.2 (jlo e) q hu hq.1.1 hq.1.2.2 hq.1.2.1)
      rw [← wz, ← ws] at q
      refine mCall_is (mCon_lift (by omega) q) ?_
      refine ⟨?_, rfl⟩
      have ht := thr_all T2 c s (nP N) (jlo e) (jhi e) k1 hcne hn (by omega) j2 (by omega) hT
      rw [j4] at ht
      rw [ht]
    · have qk : nkk N c = 2 := by unfold nkk; rw [q1]; rfl
      rw [q1, if_neg (by decide), if_neg (by decide)] at hlen
      have hl : nln N c = s := by omega
      rw [qk, hl] at k1
      rw [q1, qk, hl]
      refine ⟨⟨fun z => absurd z (by decide), fun _ => ?_, fun z => absurd z (by decide), fun z => absurd z (by decide), fun z => absurd z (by decide), trivial⟩, fun z => absurd z (by decide)⟩
      have ws : mWr ((s : Int) - 2) = ((s - 3 + 1 : Nat) : Int) := by rw [mWr_of ⟨by omega, by omega⟩]; omega
      have q := c_between (l := l) (g := g) (d := d + 6) T2 c (nP N) hn fb B hB (jhi e) hv h eO (s - 3) (by omega) [jlo e, jhi e] (jlo e) (2 ^ jlo e ||| 2 ^ jhi e) hu (by simp) (by simp) w2 w3
      rw [← w1, ← ws] at q
      refine mCall_is (mCon_lift (by omega) q) ?_
      refine ⟨?_, rfl⟩
      have ht := thr_ring2 T2 c s (nP N) (jlo e) (jhi e) k1 hn (by omega) j2 (by omega) hT
      rw [j4] at ht
      rw [ht, show s - 2 = s - 3 + 1 by omega]
    · have qk : nkk N c = 3 := by unfold nkk; rw [q1]; rfl
      rw [q1, if_pos rfl] at hlen
      have hl : nln N c = s + 1 := by omega
      rw [qk, hl] at k1
      rw [q1, qk, hl]
      refine ⟨⟨fun z => absurd z (by decide), fun z => absurd z (by decide), fun _ => ?_, fun z => absurd z (by decide), fun z => absurd z (by decide), trivial⟩, fun z => absurd z (by decide)⟩
      have d1 : 1 ≤ dgN T2 c (nP N) (jlo e) := lst_pos (v := jhi e) j2 ⟨by omega, hT⟩
      have d2 : 1 ≤ dgN T2 c (nP N) (jhi e) := lst_pos (v := jlo e) (by omega) ⟨by omega, adT_sym _ _ hT⟩
      refine mCall_is (mCon_lift (by omega) (c_stars (d := d) T2 c (nP N) hn fb B hB h eO (jlo e) s hu (by omega) d1)) ?_
      refine mCall_is (mCon_lift (by omega) (c_stars (d := d) T2 c (nP N) hn fb B hB h eO (jhi e) s hv (by omega) d2)) ?_
      have l1 := lst_le (fun q => q ≠ jlo e ∧ adT T2 c (jlo e) q) (nP N)
      have l2 := lst_le (fun q => q ≠ jhi e ∧ adT T2 c (jhi e) q) (nP N)
      have l1 : dgN T2 c (nP N) (jlo e) ≤ nP N := l1
      have l2 : dgN T2 c (nP N) (jhi e) ≤ nP N := l2
      have b1 := bn_le (dgN T2 c (nP N) (jlo e) - 1) (by omega) (s - 1) (by omega)
      have b2 := bn_le (dgN T2 c (nP N) (jhi e) - 1) (by omega) (s - 1) (by omega)
      refine ⟨?_, rfl⟩
      have ht := thr_star T2 c (s + 1) (nP N) (jlo e) (jhi e) k1 hcne hn (by omega) j2 (by omega) hT
      rw [j4] at ht
      rw [ht, mWr_of ⟨by omega, by omega⟩, show s + 1 - 2 = s - 1 by omega]
      rfl
    · have qk : nkk N c = 4 := by unfold nkk; rw [q1]; rfl
      rw [q1, if_neg (by decide), if_pos rfl] at hlen
      have hl : nln N c = s + 2 := by omega
      rw [qk, hl] at k1
      rw [q1, qk, hl]
      refine ⟨⟨fun z => absurd z (by decide), fun z => absurd z (by decide), fun z => absurd z (by decide), fun _ => ?_, fun z => absurd z (by decide), trivial⟩, fun z => absurd z (by decide)⟩
      refine mCall_is (mCon_lift (by omega) (c_books (d := d) T2 c (nP N) hn fb B hB h eO (jlo e) (jhi e) s hu hv (by omega) (by omega) hT)) ?_
      refine ⟨?_, rfl⟩
      have ht := thr_book T2 c (s + 2) (nP N) (jlo e) (jhi e) k1 hcne hn j1 j2 hT
      rw [j4, Nat.add_sub_cancel, show s + 2 - 3 = s - 1 by omega] at ht
      rw [ht]
    · have qk : nkk N c = 5 := by unfold nkk; rw [q1]; rfl
      rw [q1, if_neg (by decide), if_neg (by decide)] at hlen
      have hl : nln N c = s := by omega
      rw [qk, hl] at k1
      rw [q1, qk, hl]
      refine ⟨⟨fun z => absurd z (by decide), fun z => absurd z (by decide), fun z => absurd z (by decide), fun z => absurd z (by decide), fun _ => ?_, trivial⟩, fun z => absurd z (by decide)⟩
      have ws : mWr ((s : Int) - 2) = ((s - 2 : Nat) : Int) := by rw [mWr_of ⟨by omega, by omega⟩]; omega
      have q := c_paths (l := l) (g := g) (d := d) T2 c (nP N) hn fb B hB h eO (jlo e) (jhi e) (s - 2) hu hv (by omega)
      rw [← ws] at q
      refine mCall_is q ?_
      refine ⟨?_, rfl⟩
      have ht := thr_path2 T2 c s (nP N) (jlo e) (jhi e) k1 hn (by omega) j2 (by omega) hT
      rw [j4] at ht
      rw [ht, show s - 2 + 1 = s - 1 by omega]
def farO (h h' : mMem) : Prop := ∀ (t : Nat) (i : Fin 8) (k : Nat), ¬ (t = 5 ∨ t = 26) → h' t i k = h t i k
theorem farO.rf {h : mMem} : farO h h := fun _ _ _ _ => rfl
theorem farO.tr {h h1 h2 : mMem} (a : farO h h1) (b : farO h1 h2) : farO h h2 := fun t i k z => (b t i k z).trans (a t i k z)
theorem isC_farO {h h' : mMem} {i : Fin 8} {N : nN} (e : isC h i N) (f : farO h h') : isC h' i N := isC_eq e (fun t k ht => f t i k (by omega))
theorem scrC.ofO {h h1 : mMem} (a : farO h h1) : scrC h h1 := fun t i k z => a t i k (fun y => z (by omega))
theorem c_Outward_lookAt (i : Fin 8) (N : nN) (e c : Nat) (he : e < 66) (hc : c < 3) (hTc : nT N e = c) (h : mMem) (eC : isC h i N) : mCon l g n_Outward_lookAt (d + 2) [.inr (5, 0), .inr (4, i), .inl e] h (fun v h' => v = none ∧ h' 5 0 0 = nP N ∧ (∀ q, q < 12 → h' 26 0 q = nr (nT N) c q) ∧ farO h h') := by
  refine e_Outward_lookAt (fun hv hm => ?_)
  refine mGo_wp h_Outward_lookAt 40 [] ?_
  have te : ((e : Int)).toNat = e := Int.toNat_natCast e
  have rt : mSet h 5 0 0 (h 4 i 0) 22 i ((e : Int)).toNat = (c : Int) := by rw [mSet_no (by simp), te, eC.2.2.2.2.1 e he, hTc]
  refine ⟨⟨by omega, by omega⟩, ?_⟩
  refine mCall_is (show mCon l g n_Net_copyNears (d + 1) [.inr (4, i), .inl (mSet h 5 0 0 (h 4 i 0) 22 i ((e : Int)).toNat), .inr (26, 0)] (mSet h 5 0 0 (h 4 i 0)) (mIs none (mCpy (mSet h 5 0 0 (h 4 i 0)) (23, i) (26, 0) (c * 12) 0 12)) by rw [rt]; exact c_Net_copyNears i c 26 hc (Or.inr rfl) _) ?_
  refine ⟨rfl, ?_, fun q hq => ?_, fun t a k z => ?_⟩
  · show (if _ then _ else _) = _
    rw [if_neg (by decide), mSet_at, eC.1]
  · show (if _ then _ else _) = _
    rw [if_pos ⟨rfl, rfl, by omega, by omega⟩, mSet_no (by simp)]
    exact eC.2.2.2.2.2 c hc q hq
  · show (if _ then _ else _) = _
    rw [if_neg (fun w => z (Or.inr w.1)), mSet_no (fun w => z (Or.inl w.1))]
/-- the copies through a join of a net -/
noncomputable def thrN (N : nN) (e : Nat) : Nat := if nT N e = -1 then 0 else thrK N (nT N) (nT N e).toNat e
theorem c_Outward_howMany (i : Fin 8) (N : nN) (o : nOk N) (e : Nat) (he : e < js (nP N)) (h : mMem) (eC : isC h i N) : mCon l g n_Outward_howMany (d + 13) [.inr (5, 0), .inr (4, i), .inl e] h (fun v h' => v = some (.inl (thrN N e : Nat)) ∧ farO h h') := by
  obtain ⟨j1, j2, j3, j4⟩ := jhi_lt o.1.2 he
  have te : ((e : Int)).toNat = e := Int.toNat_natCast e
  have rt : h 22 i ((e : Int)).toNat = nT N e := by rw [te, eC.2.2.2.2.1 e j3]
  have hb := o.2.2.2.1 e j3
  have hC := o.2.1.2
  refine e_Outward_howMany (fun hv hm => ?_)
  refine mGo_wp h_Outward_howMany 40 [] ?_
  unfold thrN
  refine ⟨⟨by omega, by omega⟩, ⟨fun z => ?_, fun z => ?_⟩⟩
  · rw [rt] at z
    rw [if_neg z]
    obtain ⟨c, hc⟩ : ∃ c : Nat, nT N e = (c : Int) := ⟨(nT N e).toNat, by omega⟩
    rw [hc, Int.toNat_natCast]
    refine mCall_on2 (mCon_lift (by omega) (c_Outward_lookAt (d := d) i N e c j3 (by omega) hc h eC)) ?_
    rintro v h1 ⟨rfl, e1, e2, f⟩
    refine mCall_is (c_Outward_countFrom i N o e c he (by omega) hc (nT N) hc o.2.2.2.2 (fun p => p < nP N) ⟨fun p hp => hp, fun p q _ hq _ _ => hq⟩ (by omega) j2 h1 (isC_farO eC f) ⟨e1, fun p hp => e2 p (by have := o.1.2; omega)⟩) ?_
    exact ⟨rfl, f⟩
  · rw [rt] at z
    rw [if_pos z]
    exact ⟨rfl, farO.rf⟩
end Out3
