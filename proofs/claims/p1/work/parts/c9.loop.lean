/-! the law's loop -/
theorem la_and (x : Int32) : ∃ t : Nat, t < 32 ∧ (x &&& 31).toInt = (t : Int) := by
  have e : (x &&& 31).toInt = ((x &&& 31).toBitVec.toNat : Int) := by
    show (x &&& 31).toBitVec.toInt = _
    refine BitVec.toInt_eq_toNat_of_lt ?_
    have : (x &&& 31).toBitVec.toNat ≤ 31 := by
      rw [Int32.toBitVec_and, BitVec.toNat_and]
      exact Nat.and_le_right
    omega
  refine ⟨(x &&& 31).toBitVec.toNat, ?_, e⟩
  have : (x &&& 31).toBitVec.toNat ≤ 31 := by
    rw [Int32.toBitVec_and, BitVec.toNat_and]
    exact Nat.and_le_right
  omega
theorem la_len (n : Nat) : Int32.ofNat n = Int32.ofInt (n : Int) := rfl
def S0 : sS := ((6, 2, fun _ => 0, fun _ => 0, fun _ => -1), [], 0, 0, fun _ => 0, fun _ => 0, fun _ => 0)
theorem nr_bare0 : ∀ c, c < 3 → ∀ q, q < 12 → nr (fun _ => -1) c q = 0 := by decide +kernel
theorem fil_m1 {k : Nat} (hk : k < 66) : (filF 66 (-1) k).toInt = -1 := by
  unfold filF
  rw [if_pos hk]
  rfl
theorem S0_RC : RC hF S0 := by
  refine ⟨⟨rfl, rfl, fun k _ => rfl, fun k _ => rfl, fun k hk => fil_m1 hk, fun c hc q hq => ?_⟩, ⟨0, by decide, rfl, rfl, by decide, fun e N h => by cases h⟩, rfl, rfl, fun i _ => ⟨rfl, rfl, rfl⟩⟩
  show (0 : Int) = ((nr (fun _ => -1) c q : Nat) : Int)
  rw [nr_bare0 c hc q hq]
  rfl
theorem S0_RM : RM hF S0 := ⟨⟨rfl, rfl, fun k _ => rfl, fun k _ => rfl, fun k hk => fil_m1 hk⟩, ⟨rfl, by decide, fun e N h => by cases h⟩, rfl, rfl, fun i _ => ⟨rfl, rfl, rfl⟩⟩
theorem S0_ok : sA S0 := by
  refine ⟨⟨⟨⟨by decide, by decide⟩, ⟨by decide, by decide⟩, fun k _ => Or.inl ⟨rfl, rfl⟩, fun k _ => ⟨Int.le_refl _, ?_⟩, fun k _ _ => rfl⟩, (fun M h => by cases h), by decide, by decide⟩, ⟨fun _ => ⟨rfl, rfl⟩, (fun M h => by cases h)⟩, (fun z => absurd (show 0 < 0 from z) (by decide)), fun i _ => ⟨?_, ?_⟩⟩
  · show (-1 : Int) < 2
    decide
  · show (0 : Int) ≤ 0
    decide
  · show (0 : Int) < 4096
    decide
theorem hF_ok : mMok hF := by
  intro t i k
  unfold hF
  split
  · split <;> exact ⟨by decide, by decide⟩
  · split <;> exact ⟨by decide, by decide⟩
  · exact mIr_to _
  · exact mIr_to _
  · exact ⟨by decide, by decide⟩
section LawLoop
variable {p : Program} {l : Launch} {e : Env} {s : State} {m : MethodId} {below : List Frame} {meth : Method} {c : Code} {b L : Nat} {xs : Nat → Int32} {g : mG}
theorem la_loop (C : lCx p l e s m below meth c b L xs g) (hL4 : L ≤ 4) : ∀ (k : Nat) (h : mMem) (S : sS), k = 0 → sA S → RC h S → RM h S → mMok h → lGo p l e s m below meth c b g k h 18 [] := by
  have hL : L ≤ 2048 := by omega
  have hx := C.1.1
  have hb := C.1.2.1
  have test : ∀ (k : Nat) (h : mMem), k ≤ L → (k + 4 ≤ L → lGo p l e s m below meth c b g k h 26 []) → lGo p l e s m below meth c b g k h 18 [] := by
    intro k h hk go H locs ls P D S V
    obtain ⟨-, -, hr, hml, hown, hts, hX, hbl, hlocks, hgv⟩ := C.1
    have hs : Int32.ofNat L - Int32.ofInt 4 = Int32.ofInt ((L : Int) - 4) := by
      rw [la_len, ← Int32.ofInt_sub]
    have hcmp := mLt (x := (L : Int) - 4) (y := (k : Int)) ⟨by omega, by omega⟩ ⟨by omega, by omega⟩
    refine lv_iload_n hx hb dL_18 rfl (lv_at V 3 rfl) ?_
    refine lv_aload_n hx hb dL_19 rfl (lv_at V 0 rfl) ?_
    refine va_slen hx hb hX hbl (by show ¬ s.heap.size ≤ b; omega) S dL_20 ?_
    refine lv_iconst (v := Int32.ofInt 4) hx hb dL_21 rfl ?_
    refine lv_isub hx hb dL_22 ?_
    rw [hs]
    refine lv_icmp_gt (tgt := 914) hx hb dL_23 (by decide) (fun z => ?_) (fun z => ?_)
    · refine lv_iconst (v := 1) hx hb dL_914 (by decide) ?_
      refine va_forget (fun q hq => S.2.2 q hq) ?_
      refine W.widen (k := 600000) (n := 7302249) (by decide) (by decide) ?_
      exact lw_ret hx hb hr hlocks dL_915
    · have z2 : ¬ (L : Int) - 4 < (k : Int) := fun y => z (hcmp.mpr y)
      exact go (by omega) H locs ls P D S V
  intro k h S hk0 oK eC eM ok
  refine test k h (by omega) (fun hk => ?_)
  have back : ∀ (h2 : mMem) (S2 Z2 : sS), sA S2 → sA Z2 → RC h2 S2 → RM h2 Z2 → mMok h2 → lGo p l e s m below meth c b g k h2 908 [] := by
    intro h2 S2 Z2 o2 z2 eC2 eM2 ok2 H locs ls P D S V
    refine lv_iinc (v := Int32.ofInt ((k + 4 : Nat) : Int)) (k := 3) (lv' := [(3, .int (Int32.ofInt ((k + 4 : Nat) : Int))), (0, .ref b), (1, .ref (g.2.2 (8, 0))), (2, .ref (g.2.2 (9, 0)))]) hx hb dL_908 V rfl (la_sum k 4) (by decide) rfl (fun ls2 V2 => ?_)
    refine lv_goto (tgt := 18) hx hb dL_911 (by decide) ?_
    exact test (k + 4) h2 (by omega) (fun z => by omega) H locs ls2 P D S (lv_sub V2 [1, 2, 3, 0] rfl)
  intro H locs ls P D S2 V
  refine lv_aload_n hx hb dL_26 rfl (lv_at V 0 rfl) ?_
  refine lv_iload_n hx hb dL_27 rfl (lv_at V 3 rfl) ?_
  refine la_at C hL (by omega) S2 dL_28 ?_
  refine lv_bipush (v := 31) hx hb dL_29 (by decide) ?_
  refine lv_iand hx hb dL_31 ?_
  obtain ⟨t, ht, et⟩ := la_and (Int32.ofInt (xs k).toInt)
  generalize Int32.ofInt (xs k).toInt &&& 31 = v at et ⊢
  by_cases z : t < 30
  · rcases (show t = 0 ∨ t = 1 ∨ t = 2 ∨ t = 3 ∨ t = 4 ∨ t = 5 ∨ t = 6 ∨ t = 7 ∨ t = 8 ∨ t = 9 ∨ t = 10 ∨ t = 11 ∨ t = 12 ∨ t = 13 ∨ t = 14 ∨ t = 15 ∨ t = 16 ∨ t = 17 ∨ t = 18 ∨ t = 19 ∨ t = 20 ∨ t = 21 ∨ t = 22 ∨ t = 23 ∨ t = 24 ∨ t = 25 ∨ t = 26 ∨ t = 27 ∨ t = 28 ∨ t = 29 by omega) with rfl | rfl | rfl | rfl | rfl | rfl | rfl | rfl | rfl | rfl | rfl | rfl | rfl | rfl | rfl | rfl | rfl | rfl | rfl | rfl | rfl | rfl | rfl | rfl | rfl | rfl | rfl | rfl | rfl | rfl
    · exact lv_tableIn (off := 136) (tgt := 168) hx hb dL_32 (by rw [et]; decide) (by rw [et]; decide) (by rw [et]; rfl) (by decide) (la_c0 C hL hk oK oK eC eM ok back H locs ls P D S2 V)
    · exact lv_tableIn (off := 169) (tgt := 201) hx hb dL_32 (by rw [et]; decide) (by rw [et]; decide) (by rw [et]; rfl) (by decide) (la_c1 C hL hk oK oK eC eM ok back H locs ls P D S2 V)
    · exact lv_tableIn (off := 212) (tgt := 244) hx hb dL_32 (by rw [et]; decide) (by rw [et]; decide) (by rw [et]; rfl) (by decide) (la_c2 C hL hk oK oK eC eM ok back H locs ls P D S2 V)
    · exact lv_tableIn (off := 255) (tgt := 287) hx hb dL_32 (by rw [et]; decide) (by rw [et]; decide) (by rw [et]; rfl) (by decide) (la_c3 C hL hk oK oK eC eM ok back H locs ls P D S2 V)
    · exact lv_tableIn (off := 288) (tgt := 320) hx hb dL_32 (by rw [et]; decide) (by rw [et]; decide) (by rw [et]; rfl) (by decide) (la_c4 C hL hk oK oK eC eM ok back H locs ls P D S2 V)
    · exact lv_tableIn (off := 321) (tgt := 353) hx hb dL_32 (by rw [et]; decide) (by rw [et]; decide) (by rw [et]; rfl) (by decide) (la_c5 C hL hk oK oK eC eM ok back H locs ls P D S2 V)
    · exact lv_tableIn (off := 354) (tgt := 386) hx hb dL_32 (by rw [et]; decide) (by rw [et]; decide) (by rw [et]; rfl) (by decide) (la_c6 C hL hk oK oK eC eM ok back H locs ls P D S2 V)
    · exact lv_tableIn (off := 367) (tgt := 399) hx hb dL_32 (by rw [et]; decide) (by rw [et]; decide) (by rw [et]; rfl) (by decide) (la_c7 C hL hk oK oK eC eM ok back H locs ls P D S2 V)
    · exact lv_tableIn (off := 390) (tgt := 422) hx hb dL_32 (by rw [et]; decide) (by rw [et]; decide) (by rw [et]; rfl) (by decide) (la_c8 C hL hk oK oK eC eM ok back H locs ls P D S2 V)
    · exact lv_tableIn (off := 423) (tgt := 455) hx hb dL_32 (by rw [et]; decide) (by rw [et]; decide) (by rw [et]; rfl) (by decide) (la_c9 C hL hk oK oK eC eM ok back H locs ls P D S2 V)
    · exact lv_tableIn (off := 456) (tgt := 488) hx hb dL_32 (by rw [et]; decide) (by rw [et]; decide) (by rw [et]; rfl) (by decide) (la_c10 C hL hk oK oK eC eM ok back H locs ls P D S2 V)
    · exact lv_tableIn (off := 469) (tgt := 501) hx hb dL_32 (by rw [et]; decide) (by rw [et]; decide) (by rw [et]; rfl) (by decide) (la_c11 C hL hk oK oK eC eM ok back H locs ls P D S2 V)
    · exact lv_tableIn (off := 492) (tgt := 524) hx hb dL_32 (by rw [et]; decide) (by rw [et]; decide) (by rw [et]; rfl) (by decide) (la_c12 C hL hk oK oK eC eM ok back H locs ls P D S2 V)
    · exact lv_tableIn (off := 515) (tgt := 547) hx hb dL_32 (by rw [et]; decide) (by rw [et]; decide) (by rw [et]; rfl) (by decide) (la_c13 C hL hk oK oK eC eM ok back H locs ls P D S2 V)
    · exact lv_tableIn (off := 538) (tgt := 570) hx hb dL_32 (by rw [et]; decide) (by rw [et]; decide) (by rw [et]; rfl) (by decide) (la_c14 C hL hk oK oK eC eM ok back H locs ls P D S2 V)
    · exact lv_tableIn (off := 571) (tgt := 603) hx hb dL_32 (by rw [et]; decide) (by rw [et]; decide) (by rw [et]; rfl) (by decide) (la_c15 C hL hk oK oK eC eM ok back H locs ls P D S2 V)
    · exact lv_tableIn (off := 604) (tgt := 636) hx hb dL_32 (by rw [et]; decide) (by rw [et]; decide) (by rw [et]; rfl) (by decide) (la_c16 C hL hk oK oK eC eM ok back H locs ls P D S2 V)
    · exact lv_tableIn (off := 627) (tgt := 659) hx hb dL_32 (by rw [et]; decide) (by rw [et]; decide) (by rw [et]; rfl) (by decide) (la_c17 C hL hk oK oK eC eM ok back H locs ls P D S2 V)
    · exact lv_tableIn (off := 640) (tgt := 672) hx hb dL_32 (by rw [et]; decide) (by rw [et]; decide) (by rw [et]; rfl) (by decide) (la_c18 C hL hk oK oK eC eM ok back H locs ls P D S2 V)
    · exact lv_tableIn (off := 653) (tgt := 685) hx hb dL_32 (by rw [et]; decide) (by rw [et]; decide) (by rw [et]; rfl) (by decide) (la_c19 C hL hk oK oK eC eM ok back H locs ls P D S2 V)
    · exact lv_tableIn (off := 676) (tgt := 708) hx hb dL_32 (by rw [et]; decide) (by rw [et]; decide) (by rw [et]; rfl) (by decide) (la_c20 C hL hk oK oK eC eM ok back H locs ls P D S2 V)
    · exact lv_tableIn (off := 689) (tgt := 721) hx hb dL_32 (by rw [et]; decide) (by rw [et]; decide) (by rw [et]; rfl) (by decide) (la_c21 C hL hk oK oK eC eM ok back H locs ls P D S2 V)
    · exact lv_tableIn (off := 712) (tgt := 744) hx hb dL_32 (by rw [et]; decide) (by rw [et]; decide) (by rw [et]; rfl) (by decide) (la_c22 C hL hk oK oK eC eM ok back H locs ls P D S2 V)
    · exact lv_tableIn (off := 725) (tgt := 757) hx hb dL_32 (by rw [et]; decide) (by rw [et]; decide) (by rw [et]; rfl) (by decide) (la_c23 C hL hk oK oK eC eM ok back H locs ls P D S2 V)
    · exact lv_tableIn (off := 738) (tgt := 770) hx hb dL_32 (by rw [et]; decide) (by rw [et]; decide) (by rw [et]; rfl) (by decide) (la_c24 C hL hk oK oK eC eM ok back H locs ls P D S2 V)
    · exact lv_tableIn (off := 771) (tgt := 803) hx hb dL_32 (by rw [et]; decide) (by rw [et]; decide) (by rw [et]; rfl) (by decide) (la_c25 C hL hk oK oK eC eM ok back H locs ls P D S2 V)
    · exact lv_tableIn (off := 804) (tgt := 836) hx hb dL_32 (by rw [et]; decide) (by rw [et]; decide) (by rw [et]; rfl) (by decide) (la_c26 C hL hk oK oK eC eM ok back H locs ls P D S2 V)
    · exact lv_tableIn (off := 817) (tgt := 849) hx hb dL_32 (by rw [et]; decide) (by rw [et]; decide) (by rw [et]; rfl) (by decide) (la_c27 C hL hk oK oK eC eM ok back H locs ls P D S2 V)
    · exact lv_tableIn (off := 840) (tgt := 872) hx hb dL_32 (by rw [et]; decide) (by rw [et]; decide) (by rw [et]; rfl) (by decide) (la_c28 C hL hk oK oK eC eM ok back H locs ls P D S2 V)
    · exact lv_tableIn (off := 853) (tgt := 885) hx hb dL_32 (by rw [et]; decide) (by rw [et]; decide) (by rw [et]; rfl) (by decide) (la_c29 C hL hk oK oK eC eM ok back H locs ls P D S2 V)
  · refine lv_tableOut (tgt := 908) hx hb dL_32 (Or.inr (by rw [et]; omega)) (by decide) ?_
    exact back h S S oK oK eC eM ok H locs ls P D S2 V
end LawLoop
