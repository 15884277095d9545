/-! What the small functions answer -/
theorem r3_0 : r3 0 := ⟨by decide, by decide⟩
theorem r6_0 : r6 0 := ⟨by decide, by decide⟩
theorem z6 : (0 : Int64) = i6 0 := rfl
theorem z3 : (0 : Int32) = i3 0 := rfl
theorem c_le0 {a : Int} (h : r3 a) : (0 : Int32) ≤ i3 a ↔ 0 ≤ a := i3_le r3_0 h
theorem c_lt0 {a : Int} (h : r3 a) : i3 a < (0 : Int32) ↔ a < 0 := i3_lt h r3_0
theorem c_gt0 {a : Int} (h : r3 a) : (0 : Int32) < i3 a ↔ 0 < a := i3_lt r3_0 h
theorem c_ge0 {a : Int} (h : r3 a) : i3 a ≤ (0 : Int32) ↔ a ≤ 0 := i3_le h r3_0
theorem c_eq0 {a : Int} (h : r3 a) : i3 a = (0 : Int32) ↔ a = 0 := i3_eq h r3_0
theorem d_eq0 {a : Int} (h : r6 a) : i6 a = (0 : Int64) ↔ a = 0 := i6_eq h r6_0
theorem l_eq0 {a : Int} (h : r6 a) : lg_cmp (i6 a) (0 : Int64) = 0 ↔ a = 0 := by rw [z6]; exact lc_eq h r6_0
theorem l_le0 {a : Int} (h : r6 a) : lg_cmp (i6 a) (0 : Int64) ≤ 0 ↔ a ≤ 0 := by rw [z6]; exact lc_le h r6_0
theorem l_lt0 {a : Int} (h : r6 a) : lg_cmp (i6 a) (0 : Int64) < 0 ↔ a < 0 := by rw [z6]; exact lc_lt h r6_0
theorem l_ge0 {a : Int} (h : r6 a) : (0 : Int32) ≤ lg_cmp (i6 a) (0 : Int64) ↔ 0 ≤ a := by rw [z6]; exact lc_ge h r6_0
theorem l_gt0 {a : Int} (h : r6 a) : (0 : Int32) < lg_cmp (i6 a) (0 : Int64) ↔ 0 < a := by rw [z6]; exact lc_gt h r6_0
theorem sg32 (x y : Int32) : (0 : Int32) ≤ (x ^^^ y) ↔ (x.toInt < 0 ↔ y.toInt < 0) := by
  rw [Int32.le_iff_toInt_le]
  have hm : ∀ z : Int32, z.toInt < 0 ↔ z.toBitVec.msb = true := by
    intro z
    rw [BitVec.msb_eq_toInt]
    show z.toInt < 0 ↔ decide (z.toInt < 0) = true
    rw [decide_eq_true_iff]
  have h1 := hm (x ^^^ y)
  rw [Int32.toBitVec_xor, BitVec.msb_xor] at h1
  have e0 : (0 : Int32).toInt = 0 := rfl
  rw [e0]
  have h2 := hm x
  have h3 := hm y
  cases hx : x.toBitVec.msb <;> cases hy : y.toBitVec.msb <;> rw [hx] at h1 h2 <;> rw [hy] at h1 h3 <;> simp at h1 h2 h3 <;> omega
theorem sg64 (x y : Int64) : (0 : Int32) ≤ lg_cmp (x ^^^ y) 0 ↔ (x.toInt < 0 ↔ y.toInt < 0) := by
  rw [lg_cmp_ge, Int64.le_iff_toInt_le]
  have hm : ∀ z : Int64, z.toInt < 0 ↔ z.toBitVec.msb = true := by
    intro z
    rw [BitVec.msb_eq_toInt]
    show z.toInt < 0 ↔ decide (z.toInt < 0) = true
    rw [decide_eq_true_iff]
  have h1 := hm (x ^^^ y)
  rw [Int64.toBitVec_xor, BitVec.msb_xor] at h1
  have e0 : (0 : Int64).toInt = 0 := rfl
  rw [e0]
  have h2 := hm x
  have h3 := hm y
  cases hx : x.toBitVec.msb <;> cases hy : y.toBitVec.msb <;> rw [hx] at h1 h2 <;> rw [hy] at h1 h3 <;> simp at h1 h2 h3 <;> omega
theorem absI_s (F : Nat) {a : Int} (h : r3 a) : f_absI F (i3 a) = some (i3 a.natAbs) := by
  unfold f_absI
  by_cases g : 0 ≤ a
  · rw [if_t ((c_le0 h).mpr g)]
    congr 2; omega
  · rw [if_f (fun q => g ((c_le0 h).mp q)), i3_neg]
    congr 2; omega
theorem absJ_s (F : Nat) {a : Int} (h : r6 a) : f_absJ F (i6 a) = some (i6 a.natAbs) := by
  unfold f_absJ
  by_cases g : 0 ≤ a
  · rw [if_t ((l_ge0 h).mpr g)]
    congr 2; omega
  · rw [if_f (fun q => g ((l_ge0 h).mp q)), i6_neg]
    congr 2; omega
theorem minI_s (F : Nat) {a b : Int} (ha : r3 a) (hb : r3 b) : f_minI F (i3 a) (i3 b) = some (i3 (if b < a then b else a)) := by
  unfold f_minI
  by_cases g : b < a
  · rw [if_t ((i3_lt hb ha).mpr g), if_t g]
  · rw [if_f (fun q => g ((i3_lt hb ha).mp q)), if_f g]
theorem maxI_s (F : Nat) {a b : Int} (ha : r3 a) (hb : r3 b) : f_maxI F (i3 a) (i3 b) = some (i3 (if a < b then b else a)) := by
  unfold f_maxI
  by_cases g : a < b
  · rw [if_t ((i3_lt ha hb).mpr g), if_t g]
  · rw [if_f (fun q => g ((i3_lt ha hb).mp q)), if_f g]
/-- the remainder by the sign of a -/
theorem tmod_pos {a b : Int} (hb : 0 < b) : (0 ≤ a → a.tmod b = a % b) ∧ (a < 0 → a.tmod b = 0 → a % b = 0) ∧ (a < 0 → a.tmod b ≠ 0 → a.tmod b + b = a % b) ∧ -b < a.tmod b ∧ a.tmod b < b := by
  have e := Int.tmod_add_mul_tdiv a b
  have hem : a % b = a.tmod b % b := by
    have : a % b = (a.tmod b + b * a.tdiv b) % b := by rw [e]
    rw [this, Int.add_mul_emod_self_left]
  have hlt : a.tmod b < b := Int.tmod_lt_of_pos a hb
  have hgt : -b < a.tmod b := by
    have := Int.tmod_lt_of_pos (-a) hb
    rw [Int.neg_tmod] at this; omega
  refine ⟨fun h => ?_, fun h h0 => ?_, fun h h0 => ?_, hgt, hlt⟩
  · have h1 := Int.tmod_nonneg b h
    rw [hem, Int.emod_eq_of_lt h1 hlt]
  · rw [hem, h0]; simp
  · have h1 : a.tmod b < 0 := by
      have := Int.tmod_nonneg b (show 0 ≤ -a by omega)
      rw [Int.neg_tmod] at this
      omega
    have h2 : a.tmod b % b = (a.tmod b + b) % b := by rw [Int.add_emod_right]
    rw [hem, h2, Int.emod_eq_of_lt (by omega) (by omega)]
theorem fmodI_s (F : Nat) {a b : Int} (ha : r3 a) (hb : r3 b) (h : 0 < b) : f_fmodI F (i3 a) (i3 b) = some (i3 (a % b)) := by
  unfold f_fmodI
  have hb0 : ¬ i3 b = 0 := fun q => by have := (c_eq0 hb).mp q; omega
  obtain ⟨t1, t2, t3, t4, t5⟩ := tmod_pos (a := a) h
  rw [if_t hb0, i3_rem ha hb (by omega) (by omega)]
  have hr : r3 (a.tmod b) := ⟨by have := hb.2; omega, by have := hb.2; omega⟩
  have hs := sg32 (i3 a) (i3 b)
  rw [i3_t ha, i3_t hb] at hs
  show (if (0 : Int32) ≤ (i3 a ^^^ i3 b) then some (i3 (a.tmod b)) else if i3 (a.tmod b) = 0 then some (i3 (a.tmod b)) else some (i3 (a.tmod b) + i3 b)) = _
  by_cases g : 0 ≤ a
  · rw [if_t (hs.mpr (by omega)), t1 g]
  · rw [if_f (fun q => by have := hs.mp q; omega)]
    by_cases g2 : a.tmod b = 0
    · rw [if_t ((c_eq0 hr).mpr g2), t2 (by omega) g2, g2]
    · rw [if_f (fun q => g2 ((c_eq0 hr).mp q)), i3_add, t3 (by omega) g2]
theorem fmodJ_s (F : Nat) {a b : Int} (ha : r6 a) (hb : r6 b) (h : 0 < b) : f_fmodJ F (i6 a) (i6 b) = some (i6 (a % b)) := by
  unfold f_fmodJ
  have hb0 : ¬ i6 b = 0 := fun q => by have := (d_eq0 hb).mp q; omega
  obtain ⟨t1, t2, t3, t4, t5⟩ := tmod_pos (a := a) h
  rw [if_t hb0, i6_rem ha hb (by omega) (by omega)]
  have hr : r6 (a.tmod b) := ⟨by have := hb.2; omega, by have := hb.2; omega⟩
  have hs := sg64 (i6 a) (i6 b)
  rw [i6_t ha, i6_t hb] at hs
  show (if (0 : Int32) ≤ lg_cmp (i6 a ^^^ i6 b) 0 then some (i6 (a.tmod b)) else if lg_cmp (i6 (a.tmod b)) 0 = 0 then some (i6 (a.tmod b)) else some (i6 (a.tmod b) + i6 b)) = _
  by_cases g : 0 ≤ a
  · rw [if_t (hs.mpr (by omega)), t1 g]
  · rw [if_f (fun q => by have := hs.mp q; omega)]
    by_cases g2 : a.tmod b = 0
    · rw [if_t ((l_eq0 hr).mpr g2), t2 (by omega) g2, g2]
    · rw [if_f (fun q => g2 ((l_eq0 hr).mp q)), i6_add, t3 (by omega) g2]
theorem fdivI_s (F : Nat) {a b : Int} (ha : r3 a) (hb : r3 b) (h : 0 < b) : f_fdivI F (i3 a) (i3 b) = some (i3 (a / b)) := by
  unfold f_fdivI
  have hb0 : ¬ i3 b = 0 := fun q => by have := (c_eq0 hb).mp q; omega
  obtain ⟨t1, t2, t3, t4, t5⟩ := tmod_pos (a := a) h
  have hdv := i3_div ha hb (by omega) (by omega)
  rw [if_t hb0, hdv.1]
  have hs := sg32 (i3 a) (i3 b)
  rw [i3_t ha, i3_t hb] at hs
  have e := Int.tmod_add_mul_tdiv a b
  have e2 := Int.emod_add_mul_ediv a b
  show (if (0 : Int32) ≤ (i3 a ^^^ i3 b) then some (i3 (a.tdiv b)) else if i3 (a.tdiv b) * i3 b = i3 a then some (i3 (a.tdiv b)) else some (i3 (a.tdiv b) - 1)) = _
  by_cases g : 0 ≤ a
  · rw [if_t (hs.mpr (by omega))]
    have := t1 g
    have : b * a.tdiv b = b * (a / b) := by omega
    rw [Int.eq_of_mul_eq_mul_left (by omega) this]
  · rw [if_f (fun q => by have := hs.mp q; omega), i3_mul]
    have e3 : a.tdiv b * b = b * a.tdiv b := Int.mul_comm _ _
    have ht : a.tmod b ≤ 0 := by
      have := Int.tmod_nonneg b (show 0 ≤ -a by omega)
      rw [Int.neg_tmod] at this
      omega
    have hr : r3 (a.tdiv b * b) := ⟨by have := ha.1; omega, by have := hb.2; omega⟩
    by_cases g2 : a.tmod b = 0
    · rw [if_t ((i3_eq hr ha).mpr (by omega))]
      have := t2 (by omega) g2
      have : b * a.tdiv b = b * (a / b) := by omega
      rw [Int.eq_of_mul_eq_mul_left (by omega) this]
    · rw [if_f (fun q => by have := (i3_eq hr ha).mp q; omega)]
      have := t3 (by omega) g2
      have : b * (a.tdiv b - 1) = b * (a / b) := by rw [Int.mul_sub]; omega
      rw [← Int.eq_of_mul_eq_mul_left (by omega) this]
      show some (i3 (a.tdiv b) - i3 1) = _
      rw [i3_sub]
theorem i3_c (n : Nat) : (OfNat.ofNat n : Int32) = i3 n := by
  show Int32.ofNat n = Int32.ofInt n
  rw [Int32.ofInt_eq_ofNat]
theorem gcd_end (F n : Nat) {x w : Nat} (hw : w < 1000000) : f_gcd_L13 F (n + 1) (i3 x) (i3 (0 : Nat)) (i3 w) = some (i3 x) := by
  rw [f_gcd_L13]
  have h1 : ¬ (1000000 : Int32) ≤ i3 w := fun q => by
    have := (i3_le (a := 1000000) (b := w) ⟨by decide, by decide⟩ ⟨by omega, by omega⟩).mp q; omega
  rw [if_f h1, if_t (show i3 ((0 : Nat) : Int) = 0 from rfl)]
theorem gcd_step (F n : Nat) {x y w : Nat} (hx : x < 2147483648) (hy : y < 2147483648) (h0 : 0 < y) (hw : w < 1000000) : f_gcd_L13 F (n + 1) (i3 x) (i3 y) (i3 w) = f_gcd_L13 F n (i3 y) (i3 (x % y : Nat)) (i3 (w + 1 : Nat)) := by
  rw [f_gcd_L13]
  have h1 : ¬ (1000000 : Int32) ≤ i3 w := fun q => by
    have := (i3_le (a := 1000000) (b := w) ⟨by decide, by decide⟩ ⟨by omega, by omega⟩).mp q; omega
  have h2 : ¬ i3 (y : Int) = 0 := fun q => by
    have := (c_eq0 (a := y) ⟨by omega, by omega⟩).mp q; omega
  rw [if_f h1, if_f h2, if_t h2, i3_rem ⟨by omega, by omega⟩ ⟨by omega, by omega⟩ (by omega) (by omega)]
  have e1 : (x : Int).tmod y = ((x % y : Nat) : Int) := by
    rw [(tmod_pos (a := x) (b := y) (by omega)).1 (by omega)]; rfl
  rw [e1]
  show f_gcd_L13 F n (i3 y) (i3 ((x % y : Nat) : Int)) (i3 w + i3 1) = _
  rw [i3_add]; rfl
theorem gcdL_s (F : Nat) : ∀ (k x y w n : Nat), y < 2 ^ k → x < 2147483648 → y < 2147483648 → w + 2 * k < 1000000 → 2 * k + 1 ≤ n → f_gcd_L13 F n (i3 x) (i3 y) (i3 w) = some (i3 (Nat.gcd x y)) := by
  intro k
  induction k with
  | zero =>
    intro x y w n hk hx hy hw hn
    have : y = 0 := by simpa using hk
    subst this
    obtain ⟨n', rfl⟩ : ∃ n', n = n' + 1 := ⟨n - 1, by omega⟩
    rw [gcd_end F n' (by omega), Nat.gcd_zero_right]
  | succ k ih =>
    intro x y w n hk hx hy hw hn
    obtain ⟨n', rfl⟩ : ∃ n', n = n' + 1 := ⟨n - 1, by omega⟩
    rcases Nat.eq_zero_or_pos y with h0 | h0
    · subst h0
      rw [gcd_end F n' (by omega), Nat.gcd_zero_right]
    · have hz : x % y < y := Nat.mod_lt x h0
      rw [gcd_step F n' hx hy h0 (by omega)]
      obtain ⟨n'', rfl⟩ : ∃ n'', n' = n'' + 1 := ⟨n' - 1, by omega⟩
      have hg : Nat.gcd x y = Nat.gcd y (x % y) := by rw [Nat.gcd_comm x y, Nat.gcd_rec y x, Nat.gcd_comm]
      rcases Nat.eq_zero_or_pos (x % y) with h1 | h1
      · rw [h1, gcd_end F n'' (by omega), hg, h1, Nat.gcd_zero_right]
      · rw [gcd_step F n'' hy (by omega) h1 (by omega)]
        have hz2 : y % (x % y) < x % y := Nat.mod_lt _ h1
        have hk2 : y % (x % y) < 2 ^ k := by
          have e1 := Nat.div_add_mod y (x % y)
          have q1 : 1 ≤ y / (x % y) := (Nat.le_div_iff_mul_le h1).mpr (by omega)
          have q2 : (x % y) * 1 ≤ (x % y) * (y / (x % y)) := Nat.mul_le_mul_left _ q1
          have e2 : 2 ^ (k + 1) = 2 * 2 ^ k := by rw [Nat.pow_succ, Nat.mul_comm]
          omega
        rw [ih (x % y) (y % (x % y)) (w + 1 + 1) n'' hk2 (by omega) (by omega) (by omega) (by omega), hg]
        congr 3
        rw [Nat.gcd_comm y (x % y), Nat.gcd_rec (x % y) y, Nat.gcd_comm]
theorem gcd_s (F : Nat) (hF : 100 ≤ F) {a b : Int} (ha : r3 a) (hb : r3 b) (ha' : a ≠ -2147483648) (hb' : b ≠ -2147483648) : f_gcd F (i3 a) (i3 b) = some (i3 (Int.gcd a b)) := by
  unfold f_gcd
  rw [absI_s F ha, absI_s F hb]
  simp only [Option.bind_some]
  have h1 := ha.1; have h2 := ha.2; have h3 := hb.1; have h4 := hb.2
  have e0 : (0 : Int32) = i3 (0 : Nat) := rfl
  rw [e0, gcdL_s F 31 a.natAbs b.natAbs 0 F (by omega) (by omega) (by omega) (by omega) (by omega)]
  rfl
theorem bez (m n : Nat) : ∃ x y : Int, x * m + y * n = (Nat.gcd m n : Nat) := by
  induction m, n using Nat.gcd.induction with
  | H0 n => exact ⟨0, 1, by rw [Nat.gcd_zero_left]; omega⟩
  | H1 m n hm ih =>
    obtain ⟨x, y, h⟩ := ih
    rw [Nat.gcd_rec m n, ← h]
    refine ⟨y - x * (n / m : Nat), x, ?_⟩
    have e : ((n : Nat) : Int) = m * (n / m : Nat) + (n % m : Nat) := by
      have := Nat.div_add_mod n m
      omega
    have e2 : x * (n : Int) = x * (m * (n / m : Nat) + (n % m : Nat)) := by rw [← e]
    rw [e2]; grind
theorem bezI (a b : Int) : ∃ x y : Int, x * a + y * b = (Int.gcd a b : Nat) := by
  obtain ⟨x, y, h⟩ := bez a.natAbs b.natAbs
  have ha : ∃ s : Int, ((a.natAbs : Nat) : Int) = s * a := by
    rcases Int.natAbs_eq a with h | h
    · exact ⟨1, by omega⟩
    · exact ⟨-1, by omega⟩
  have hb : ∃ s : Int, ((b.natAbs : Nat) : Int) = s * b := by
    rcases Int.natAbs_eq b with h | h
    · exact ⟨1, by omega⟩
    · exact ⟨-1, by omega⟩
  obtain ⟨s, hs⟩ := ha
  obtain ⟨t, ht⟩ := hb
  refine ⟨x * s, y * t, ?_⟩
  show _ = ((Nat.gcd a.natAbs b.natAbs : Nat) : Int)
  rw [← h, hs, ht]; grind
theorem prim_iff {a b c : Int} : prim a b c ↔ Int.gcd (Int.gcd a b) c = 1 := by
  constructor
  · rintro ⟨x, y, z, h⟩
    have h1 : ((Int.gcd (Int.gcd a b) c : Nat) : Int) ∣ 1 := by
      have d1 : ((Int.gcd (Int.gcd a b) c : Nat) : Int) ∣ (Int.gcd a b : Int) := Int.gcd_dvd_left _ _
      have d2 : ((Int.gcd (Int.gcd a b) c : Nat) : Int) ∣ c := Int.gcd_dvd_right _ _
      have d3 := Int.dvd_trans d1 (Int.gcd_dvd_left a b)
      have d4 := Int.dvd_trans d1 (Int.gcd_dvd_right a b)
      rw [← h]
      exact Int.dvd_add (Int.dvd_add (Int.dvd_mul_of_dvd_right d3) (Int.dvd_mul_of_dvd_right d4)) (Int.dvd_mul_of_dvd_right d2)
    have := Int.le_of_dvd (by decide) h1
    have : Int.gcd (Int.gcd a b) c ≠ 0 := fun h0 => by rw [h0] at h1; simp at h1
    omega
  · intro h
    obtain ⟨x, y, e1⟩ := bezI a b
    obtain ⟨u, v, e2⟩ := bezI (Int.gcd a b) c
    rw [h, ← e1] at e2
    exact ⟨u * x, u * y, v, by have : ((1 : Nat) : Int) = 1 := rfl
                               rw [this] at e2; rw [← e2]; grind⟩
