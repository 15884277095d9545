/-! Numbers of the machine as whole numbers within their bounds -/
abbrev i3 (z : Int) : Int32 := Int32.ofInt z
abbrev i6 (z : Int) : Int64 := Int64.ofInt z
def r3 (z : Int) : Prop := -2147483648 ≤ z ∧ z ≤ 2147483647
def r6 (z : Int) : Prop := -9223372036854775808 ≤ z ∧ z ≤ 9223372036854775807
theorem i3_t {a : Int} (h : r3 a) : (i3 a).toInt = a := Int32.toInt_ofInt_of_le (by have := h.1; omega) (by have := h.2; omega)
theorem i6_t {a : Int} (h : r6 a) : (i6 a).toInt = a := Int64.toInt_ofInt_of_le (by have := h.1; omega) (by have := h.2; omega)
theorem i3_of (x : Int32) : x = i3 x.toInt ∧ r3 x.toInt := ⟨(Int32.ofInt_toInt x).symm, by have := x.le_toInt; have := x.toInt_lt; constructor <;> omega⟩
theorem i6_of (x : Int64) : x = i6 x.toInt ∧ r6 x.toInt := ⟨(Int64.ofInt_toInt x).symm, by have := x.le_toInt; have := x.toInt_lt; constructor <;> omega⟩
theorem i3_add (a b : Int) : i3 a + i3 b = i3 (a + b) := (Int32.ofInt_add a b).symm
theorem i3_sub (a b : Int) : i3 a - i3 b = i3 (a - b) := (Int32.ofInt_sub a b).symm
theorem i3_mul (a b : Int) : i3 a * i3 b = i3 (a * b) := (Int32.ofInt_mul a b).symm
theorem i3_neg (a : Int) : -i3 a = i3 (-a) := (Int32.ofInt_neg a).symm
theorem i6_add (a b : Int) : i6 a + i6 b = i6 (a + b) := (Int64.ofInt_add a b).symm
theorem i6_sub (a b : Int) : i6 a - i6 b = i6 (a - b) := (Int64.ofInt_sub a b).symm
theorem i6_mul (a b : Int) : i6 a * i6 b = i6 (a * b) := (Int64.ofInt_mul a b).symm
theorem i6_neg (a : Int) : -i6 a = i6 (-a) := (Int64.ofInt_neg a).symm
theorem i3_lt {a b : Int} (ha : r3 a) (hb : r3 b) : i3 a < i3 b ↔ a < b := by rw [Int32.lt_iff_toInt_lt, i3_t ha, i3_t hb]
theorem i3_le {a b : Int} (ha : r3 a) (hb : r3 b) : i3 a ≤ i3 b ↔ a ≤ b := by rw [Int32.le_iff_toInt_le, i3_t ha, i3_t hb]
theorem i3_eq {a b : Int} (ha : r3 a) (hb : r3 b) : i3 a = i3 b ↔ a = b := by rw [← Int32.toInt_inj, i3_t ha, i3_t hb]
theorem i6_lt {a b : Int} (ha : r6 a) (hb : r6 b) : i6 a < i6 b ↔ a < b := by rw [Int64.lt_iff_toInt_lt, i6_t ha, i6_t hb]
theorem i6_le {a b : Int} (ha : r6 a) (hb : r6 b) : i6 a ≤ i6 b ↔ a ≤ b := by rw [Int64.le_iff_toInt_le, i6_t ha, i6_t hb]
theorem i6_eq {a b : Int} (ha : r6 a) (hb : r6 b) : i6 a = i6 b ↔ a = b := by rw [← Int64.toInt_inj, i6_t ha, i6_t hb]
theorem tdiv_r {a b : Int} {M : Int} (hM : 0 < M) (ha : -M ≤ a ∧ a ≤ M - 1) (hb : b ≠ 0) (hmb : ¬ (a = -M ∧ b = -1)) : -M ≤ a.tdiv b ∧ a.tdiv b ≤ M - 1 := by
  have h1 := Int.natAbs_tdiv_le_natAbs a b
  by_cases hx : a = -M
  · have hb1 : b ≠ -1 := fun h => hmb ⟨hx, h⟩
    by_cases hb2 : b = 1
    · rw [hb2, Int.tdiv_one]; omega
    · have hab : 2 ≤ b.natAbs := by omega
      have : (a.tdiv b).natAbs ≤ a.natAbs / 2 := by
        rw [Int.natAbs_tdiv]
        exact Nat.div_le_div_left hab (by decide)
      omega
  · omega
theorem i3_div {a b : Int} (ha : r3 a) (hb : r3 b) (h0 : b ≠ 0) (hm : ¬ (a = -2147483648 ∧ b = -1)) : i3 a / i3 b = i3 (a.tdiv b) ∧ r3 (a.tdiv b) := by
  have hr : r3 (a.tdiv b) := by
    have := tdiv_r (M := 2147483648) (by decide) ⟨ha.1, by have := ha.2; omega⟩ h0 hm
    exact ⟨this.1, by omega⟩
  refine ⟨Int32.toInt_inj.mp ?_, hr⟩
  rw [Int32.toInt_div, i3_t ha, i3_t hb, i3_t hr]
  exact Int.bmod_eq_of_le (by have := hr.1; omega) (by have := hr.2; omega)
theorem i6_div {a b : Int} (ha : r6 a) (hb : r6 b) (h0 : b ≠ 0) (hm : ¬ (a = -9223372036854775808 ∧ b = -1)) : i6 a / i6 b = i6 (a.tdiv b) ∧ r6 (a.tdiv b) := by
  have hr : r6 (a.tdiv b) := by
    have := tdiv_r (M := 9223372036854775808) (by decide) ⟨ha.1, by have := ha.2; omega⟩ h0 hm
    exact ⟨this.1, by omega⟩
  refine ⟨Int64.toInt_inj.mp ?_, hr⟩
  rw [Int64.toInt_div, i6_t ha, i6_t hb, i6_t hr]
  exact Int.bmod_eq_of_le (by have := hr.1; omega) (by have := hr.2; omega)
theorem i3_rem {a b : Int} (ha : r3 a) (hb : r3 b) (h0 : b ≠ 0) (hm : ¬ (a = -2147483648 ∧ b = -1)) : i3 a - i3 a / i3 b * i3 b = i3 (a.tmod b) := by
  rw [(i3_div ha hb h0 hm).1, i3_mul, i3_sub]
  congr 1
  have := Int.tmod_add_mul_tdiv a b
  have e : a.tdiv b * b = b * a.tdiv b := Int.mul_comm _ _
  omega
theorem i6_rem {a b : Int} (ha : r6 a) (hb : r6 b) (h0 : b ≠ 0) (hm : ¬ (a = -9223372036854775808 ∧ b = -1)) : i6 a - i6 a / i6 b * i6 b = i6 (a.tmod b) := by
  rw [(i6_div ha hb h0 hm).1, i6_mul, i6_sub]
  congr 1
  have := Int.tmod_add_mul_tdiv a b
  have e : a.tdiv b * b = b * a.tdiv b := Int.mul_comm _ _
  omega
theorem i36 {a : Int} (h : r3 a) : (i3 a).toInt64 = i6 a := by
  refine Int64.toInt_inj.mp ?_
  rw [Int32.toInt_toInt64, i3_t h, i6_t ⟨by have := h.1; omega, by have := h.2; omega⟩]
theorem i63 (a : Int) : (i6 a).toInt32 = i3 a := Int64.toInt32_ofInt
theorem i3_nat {a : Int} (h : r3 a) : (i3 a).toNatClampNeg = a.toNat := by
  show (i3 a).toInt.toNat = a.toNat
  rw [i3_t h]
theorem lg_c (a b : Int) (ha : r6 a) (hb : r6 b) : lg_cmp (i6 a) (i6 b) = if b < a then 1 else if a = b then 0 else -1 := by
  unfold lg_cmp
  have h1 : (i6 a > i6 b) ↔ b < a := i6_lt hb ha
  have h2 := i6_eq ha hb
  by_cases g : b < a
  · rw [if_pos (h1.mpr g), if_pos g]
  · rw [if_neg (fun h => g (h1.mp h)), if_neg g]
    by_cases g2 : a = b
    · rw [if_pos (h2.mpr g2), if_pos g2]
    · rw [if_neg (fun h => g2 (h2.mp h)), if_neg g2]
theorem lc_eq {a b : Int} (ha : r6 a) (hb : r6 b) : lg_cmp (i6 a) (i6 b) = 0 ↔ a = b := by
  rw [lg_c a b ha hb]
  by_cases g : b < a
  · rw [if_pos g]; constructor
    · intro h; exact absurd h (by decide)
    · intro h; omega
  · rw [if_neg g]
    by_cases g2 : a = b
    · rw [if_pos g2]; simp [g2]
    · rw [if_neg g2]; constructor
      · intro h; exact absurd h (by decide)
      · intro h; exact absurd h g2
theorem lc_le {a b : Int} (ha : r6 a) (hb : r6 b) : lg_cmp (i6 a) (i6 b) ≤ 0 ↔ a ≤ b := by
  rw [lg_c a b ha hb]
  by_cases g : b < a
  · rw [if_pos g]; constructor
    · intro h; exact absurd h (by decide)
    · intro h; omega
  · rw [if_neg g]
    by_cases g2 : a = b
    · rw [if_pos g2]; constructor
      · intro _; omega
      · intro _; decide
    · rw [if_neg g2]; constructor
      · intro _; omega
      · intro _; decide
theorem lc_lt {a b : Int} (ha : r6 a) (hb : r6 b) : lg_cmp (i6 a) (i6 b) < 0 ↔ a < b := by
  rw [lg_c a b ha hb]
  by_cases g : b < a
  · rw [if_pos g]; constructor
    · intro h; exact absurd h (by decide)
    · intro h; omega
  · rw [if_neg g]
    by_cases g2 : a = b
    · rw [if_pos g2]; constructor
      · intro h; exact absurd h (by decide)
      · intro h; omega
    · rw [if_neg g2]; constructor
      · intro _; omega
      · intro _; decide
theorem lc_ge {a b : Int} (ha : r6 a) (hb : r6 b) : 0 ≤ lg_cmp (i6 a) (i6 b) ↔ b ≤ a := by
  have h := lc_lt ha hb
  have e : (0 : Int32) ≤ lg_cmp (i6 a) (i6 b) ↔ ¬ lg_cmp (i6 a) (i6 b) < 0 := by rw [Int32.le_iff_toInt_le, Int32.lt_iff_toInt_lt]; omega
  rw [e, h]; omega
theorem lc_gt {a b : Int} (ha : r6 a) (hb : r6 b) : 0 < lg_cmp (i6 a) (i6 b) ↔ b < a := by
  have h := lc_le ha hb
  have e : (0 : Int32) < lg_cmp (i6 a) (i6 b) ↔ ¬ lg_cmp (i6 a) (i6 b) ≤ 0 := by rw [Int32.le_iff_toInt_le, Int32.lt_iff_toInt_lt]; omega
  rw [e, h]; omega
theorem vin_i3 {a : Int} {n : Nat} (h0 : 0 ≤ a) (h : a < n) (hn : n < 2147483648) : vin (i3 a) n := by
  have hr : r3 a := ⟨by omega, by omega⟩
  intro g
  rcases g with g | g
  · have : i3 a < i3 0 := g
    rw [i3_lt hr ⟨by decide, by decide⟩] at this
    omega
  · rw [i3_nat hr] at g; omega
theorem if_t {α : Type} {c : Prop} [Decidable c] {a b : α} (h : c) : (if c then a else b) = a := if_pos h
theorem if_f {α : Type} {c : Prop} [Decidable c] {a b : α} (h : ¬ c) : (if c then a else b) = b := if_neg h
