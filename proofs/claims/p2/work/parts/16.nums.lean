/-! numbers -/
def mB (p : Prop) [Decidable p] : Int := if p then 1 else 0
theorem mB_01 (p : Prop) [Decidable p] : mB p = 0 ∨ mB p = 1 := by
  unfold mB
  split
  · exact Or.inr rfl
  · exact Or.inl rfl
theorem mB_t {p : Prop} [Decidable p] (h : p) : mB p = 1 := if_pos h
theorem mB_f {p : Prop} [Decidable p] (h : ¬ p) : mB p = 0 := if_neg h
theorem mB_eq0 {p : Prop} [Decidable p] : mB p = 0 ↔ ¬ p := by
  unfold mB
  split
  · next h => exact ⟨fun q => by omega, fun q => absurd h q⟩
  · next h => exact ⟨fun _ => h, fun _ => rfl⟩
theorem mB_ne0 {p : Prop} [Decidable p] : mB p ≠ 0 ↔ p := by
  rw [ne_eq, mB_eq0, Classical.not_not]
theorem mB_congr {p q : Prop} [Decidable p] [Decidable q] (h : p ↔ q) : mB p = mB q := by
  by_cases hp : p
  · rw [mB_t hp, mB_t (h.mp hp)]
  · rw [mB_f hp, mB_f (fun z => hp (h.mpr z))]
theorem mDiv_of {a b : Int} (ha : mIr a) (hb : mIr b) (h0 : 0 ≤ a) (h1 : 0 < b) : mDiv a b = a / b := by
  unfold mDiv
  rw [Int32.toInt_div, mTo ha, mTo hb, Int.tdiv_eq_ediv_of_nonneg h0]
  have h2 : 0 ≤ a / b := Int.ediv_nonneg h0 (Int.le_of_lt h1)
  have h3 : a / b ≤ a := Int.ediv_le_self b h0
  have h4 := ha.2
  exact Int.bmod_eq_of_le (by omega) (by omega)
theorem mRem_of {a b : Int} (ha : mIr a) (hb : mIr b) (h0 : 0 ≤ a) (h1 : 0 < b) : mRem a b = a % b := by
  have hd := mDiv_of ha hb h0 h1
  have e : Int32.ofInt a / Int32.ofInt b = Int32.ofInt (a / b) := by
    apply Int32.toInt_inj.mp
    have h2 : 0 ≤ a / b := Int.ediv_nonneg h0 (Int.le_of_lt h1)
    have h3 : a / b ≤ a := Int.ediv_le_self b h0
    have h4 := ha.2
    rw [mTo ⟨by omega, by omega⟩]
    exact hd
  unfold mRem
  rw [e, ← Int32.ofInt_mul, ← Int32.ofInt_sub]
  have h5 := Int.emod_def a b
  have h6 := Int.emod_nonneg a (Int.ne_of_gt h1)
  have h7 := Int.emod_lt_of_pos a h1
  have h8 := hb.2
  rw [Int.mul_comm (a / b) b, ← h5]
  exact mTo ⟨by omega, by omega⟩
theorem mSet_at (h : mMem) (t : Nat) (i : Fin 8) (k : Nat) (v : Int) : mSet h t i k v t i k = v := if_pos ⟨rfl, rfl, rfl⟩
theorem mSet_no {h : mMem} {t : Nat} {i : Fin 8} {k : Nat} {v : Int} {t' : Nat} {i' : Fin 8} {k' : Nat} (hn : ¬ (t' = t ∧ i' = i ∧ k' = k)) : mSet h t i k v t' i' k' = h t' i' k' := if_neg hn
/-- the number of a join -/
def jn (i j : Nat) : Nat := if i < j then j * (j - 1) / 2 + i else i * (i - 1) / 2 + j
theorem jn_calc1 : ∀ i : Nat, i < 12 → ∀ j : Nat, j < 12 → i < j → mWr (mDiv (mWr ((j : Int) * mWr ((j : Int) - 1))) 2 + (i : Int)) = ((jn i j : Nat) : Int) := by decide +kernel
theorem jn_calc2 : ∀ i : Nat, i < 12 → ∀ j : Nat, j < 12 → ¬ i < j → mWr (mDiv (mWr ((i : Int) * mWr ((i : Int) - 1))) 2 + (j : Int)) = ((jn i j : Nat) : Int) := by decide +kernel
theorem jn_lt : ∀ i, i < 12 → ∀ j, j < 12 → i ≠ j → jn i j < 66 := by decide +kernel
def js (p : Nat) : Nat := p * (p - 1) / 2
theorem js_calc : ∀ p : Nat, p < 13 → mDiv (mWr ((p : Int) * mWr ((p : Int) - 1))) 2 = ((js p : Nat) : Int) := by decide +kernel
theorem js_le : ∀ p, p < 13 → js p ≤ 66 := by decide +kernel
/-- a power, no further than above 60000 -/
def pw (b : Nat) : Nat → Nat
  | 0 => 1
  | e + 1 => if pw b e ≤ 60000 then pw b e * b else pw b e
theorem pw_le (b : Nat) (hb : b ≤ 3) : ∀ e, pw b e ≤ 180000
  | 0 => show 1 ≤ 180000 by decide
  | e + 1 => by
    have := pw_le b hb e
    unfold pw
    split
    · next h =>
      have h1 : pw b e * b ≤ 60000 * 3 := Nat.mul_le_mul h hb
      omega
    · omega
theorem pw_stop (b : Nat) {e : Nat} (h : 60000 < pw b e) : ∀ k, pw b (e + k) = pw b e
  | 0 => rfl
  | k + 1 => by
    show (if pw b (e + k) ≤ 60000 then _ else pw b (e + k)) = _
    rw [pw_stop b h k, if_neg (by omega)]
/-- choosing -/
def chI (f : Int) : Nat → Int
  | 0 => 1
  | i + 1 => chI f i * (f - i) / (i + 1)
theorem chI_bd : ∀ f, f < 13 → ∀ s, s < 8 → 0 ≤ chI (f : Nat) s ∧ chI (f : Nat) s ≤ 1000 ∧ 0 ≤ chI (f : Nat) s * ((f : Int) - s) + (if f < s then 1 else 0) := by decide +kernel
