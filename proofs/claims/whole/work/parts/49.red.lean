/-! isReduced of both, step of the reference; the reduced forms of the code are those of the theory -/
def redI (D R : Int) (f : FT) : Prop := (D < 0 → dred f) ∧ (0 < D → 0 < f.2.1 ∧ f.2.1 ≤ R ∧ R < 2 * (f.1.natAbs : Int) + f.2.1 ∧ 2 * (f.1.natAbs : Int) - f.2.1 ≤ R)
theorem fred_of_win {D R : Int} (hR : isRoot D R) (hns : ∀ x : Int, x * x ≠ D) {f : FT} (hD : fdisc f = D) (h1 : 0 < f.2.1) (h2 : f.2.1 ≤ R) (h3 : R < 2 * (f.1.natAbs : Int) + f.2.1) (h4 : 2 * (f.1.natAbs : Int) - f.2.1 ≤ R) : fred f := by
  obtain ⟨a, b, c⟩ := f
  obtain ⟨r0, r1, r2⟩ := hR
  simp only [fdisc] at *
  have sqle : ∀ x : Int, 0 ≤ x → x ≤ R → x * x < D := by
    intro x h0 h
    have : x * x ≤ R * R := Int.mul_le_mul h h h0 r0
    have := hns x
    omega
  have q1 := sqle b (by omega) h2
  have hA0 : (0 : Int) ≤ a.natAbs := by omega
  have hA : (a.natAbs : Int) = a ∨ (a.natAbs : Int) = -a := by omega
  generalize (a.natAbs : Int) = A at *
  have q2 : D < (2 * A + b) * (2 * A + b) := by
    have : (R + 1) * (R + 1) ≤ (2 * A + b) * (2 * A + b) := Int.mul_le_mul (by omega) (by omega) (by omega) (by omega)
    omega
  have q3 : 0 ≤ 2 * A - b → (2 * A - b) * (2 * A - b) < D := fun h => sqle _ h h4
  have hac : a * c < 0 := by
    have : 4 * a * c = 4 * (a * c) := by grind
    omega
  have hAA : A * A = a * a := by rcases hA with h | h <;> rw [h] <;> grind
  have hApos : 0 < A := by
    rcases Int.lt_or_gt_of_ne (show a ≠ 0 from fun h => by rw [h] at hac; simp at hac) with h | h <;> omega
  have key : ∀ C : Int, 0 < C → A * C = -(a * c) → C < A + b ∧ A - b < C := by
    intro C hC he
    constructor
    · have e1 : (2 * A + b) * (2 * A + b) - b * b = 4 * (A * (A + b)) := by grind
      have e2 : A * C < A * (A + b) := by
        have : 4 * a * c = 4 * (a * c) := by grind
        omega
      exact Int.lt_of_mul_lt_mul_left e2 (by omega)
    · by_cases g : 0 ≤ 2 * A - b
      · have := q3 g
        have e1 : (2 * A - b) * (2 * A - b) - b * b = 4 * (A * (A - b)) := by grind
        have e2 : A * (A - b) < A * C := by
          have : 4 * a * c = 4 * (a * c) := by grind
          omega
        exact Int.lt_of_mul_lt_mul_left e2 (by omega)
      · omega
  rcases Int.lt_or_gt_of_ne (show a ≠ 0 from fun h => by rw [h] at hac; simp at hac) with h | h
  · have hc : 0 < c := by
      by_cases g : 0 < c
      · exact g
      · have := Int.mul_nonneg_of_nonpos_of_nonpos (show a ≤ 0 by omega) (show c ≤ 0 by omega); omega
    have hAe : A = -a := by omega
    have := key c hc (by rw [hAe]; grind)
    exact ⟨Or.inr ⟨h, hc⟩, by simp only; omega, by simp only; omega⟩
  · have hc : c < 0 := by
      by_cases g : c < 0
      · exact g
      · have := Int.mul_nonneg (show 0 ≤ a by omega) (show 0 ≤ c by omega); omega
    have hAe : A = a := by omega
    have := key (-c) (by omega) (by rw [hAe]; grind)
    exact ⟨Or.inl ⟨h, hc⟩, by simp only; omega, by simp only; omega⟩
theorem redI_fred {D R : Int} (hR : isRoot D R) (hns : ∀ x : Int, x * x ≠ D) (h0 : 0 < D) {f : FT} (hD : fdisc f = D) : redI D R f ↔ fred f := by
  constructor
  · intro h
    obtain ⟨h1, h2, h3, h4⟩ := h.2 h0
    exact fred_of_win hR hns hD h1 h2 h3 h4
  · intro h
    obtain ⟨w1, w2, w3, -, -⟩ := fred_win hR hns h hD
    exact ⟨fun g => by omega, fun _ => ⟨by have := h.2.1; have := h.2.2; omega, w1, w2, w3⟩⟩
theorem redI_dred {D R : Int} (h0 : D < 0) {f : FT} : redI D R f ↔ dred f := ⟨fun h => h.1 h0, fun h => ⟨fun _ => h, fun g => by omega⟩⟩
theorem isRed_s (F : Nat) {D R a b c : Int} (hD : bd 1048576 D) (hD0 : D ≠ 0) (hR0 : 0 ≤ R) (hR1 : R < 2048) (ha : bd 4294967296 a) (hb : bd 4294967296 b) (hc : bd 4294967296 c) :
    (redI D R (a, b, c) → f_isRed F (i3 D) (i3 R) (i6 a) (i6 b) (i6 c) = some 1) ∧ (¬ redI D R (a, b, c) → f_isRed F (i3 D) (i3 R) (i6 a) (i6 b) (i6 c) = some 0) := by
  have hD1 := hD.1; have hD2 := hD.2; have a1 := ha.1; have a2 := ha.2; have b1 := hb.1; have b2 := hb.2; have c1 := hc.1; have c2 := hc.2
  have ra : r6 a := ⟨by omega, by omega⟩
  have rb : r6 b := ⟨by omega, by omega⟩
  have rc : r6 c := ⟨by omega, by omega⟩
  have hD3 : r3 D := ⟨by omega, by omega⟩
  unfold f_isRed
  by_cases g : 0 ≤ D
  · have hp : 0 < D := by omega
    rw [if_t ((c_le0 hD3).mpr g), absJ_s F ra, i36 (a := R) ⟨by omega, by omega⟩]
    simp only [Option.bind_some]
    have e2 : (2 : Int64) * i6 ((a.natAbs : Nat) : Int) = i6 (2 * (a.natAbs : Int)) := by rw [c2_s, i6_mul]
    show (_ → bnd ((2 : Int64) * i6 ((a.natAbs : Nat) : Int)) _ = _) ∧ (_ → bnd ((2 : Int64) * i6 ((a.natAbs : Nat) : Int)) _ = _)
    rw [e2]
    simp only [bnd]
    rw [i6_add, i6_sub]
    have hiff : redI D R (a, b, c) ↔ (0 < b ∧ b ≤ R ∧ R < 2 * (a.natAbs : Int) + b ∧ 2 * (a.natAbs : Int) - b ≤ R) := ⟨fun h => h.2 hp, fun h => ⟨fun q => by omega, fun _ => h⟩⟩
    have k1 := l_le0 rb
    have k2 := lc_gt (a := b) (b := R) rb ⟨by omega, by omega⟩
    have k3 := lc_le (a := 2 * (a.natAbs : Int) + b) (b := R) ⟨by omega, by omega⟩ ⟨by omega, by omega⟩
    have k4 := lc_gt (a := 2 * (a.natAbs : Int) - b) (b := R) ⟨by omega, by omega⟩ ⟨by omega, by omega⟩
    rw [hiff]
    refine ⟨fun h => ?_, fun h => ?_⟩
    · rw [if_f (fun q => by have := k1.mp q; omega), if_f (fun q => by have := k2.mp q; omega), if_f (fun q => by have := k3.mp q; omega), if_f (fun q => by have := k4.mp q; omega)]
    · by_cases q1 : b ≤ 0
      · rw [if_t (k1.mpr q1)]
      · rw [if_f (fun q => q1 (k1.mp q))]
        by_cases q2 : R < b
        · rw [if_t (k2.mpr q2)]
        · rw [if_f (fun q => q2 (k2.mp q))]
          by_cases q3 : 2 * (a.natAbs : Int) + b ≤ R
          · rw [if_t (k3.mpr q3)]
          · rw [if_f (fun q => q3 (k3.mp q)), if_t (k4.mpr (by omega))]
  · have hn : D < 0 := by omega
    rw [if_f (fun q => g ((c_le0 hD3).mp q)), absJ_s F rb]
    simp only [Option.bind_some]
    rw [i6_neg]
    have k1 := lc_gt (a := ((b.natAbs : Nat) : Int)) (b := a) ⟨by omega, by omega⟩ ra
    have k2 := lc_gt (a := a) (b := c) ra rc
    have k3 := l_ge0 rb
    have k4 := lc_ge (a := -b) (b := a) ⟨by omega, by omega⟩ ra
    have k5 := lc_ge (a := a) (b := c) ra rc
    have hiff : redI D R (a, b, c) ↔ (-a ≤ b ∧ b ≤ a ∧ a ≤ c ∧ (0 ≤ b ∨ (-b < a ∧ a < c))) := redI_dred hn
    rw [hiff]
    refine ⟨fun h => ?_, fun h => ?_⟩
    · rw [if_f (fun q => by have := k1.mp q; omega), if_f (fun q => by have := k2.mp q; omega)]
      by_cases q3 : 0 ≤ b
      · rw [if_t (k3.mpr q3)]
      · rw [if_f (fun q => q3 (k3.mp q)), if_f (fun q => by have := k4.mp q; omega), if_f (fun q => by have := k5.mp q; omega)]
    · by_cases q1 : a < (b.natAbs : Nat)
      · rw [if_t (k1.mpr q1)]
      · rw [if_f (fun q => q1 (k1.mp q))]
        by_cases q2 : c < a
        · rw [if_t (k2.mpr q2)]
        · rw [if_f (fun q => q2 (k2.mp q)), if_f (fun q => by have := k3.mp q; omega)]
          by_cases q4 : a ≤ -b
          · rw [if_t (k4.mpr q4)]
          · rw [if_f (fun q => q4 (k4.mp q)), if_t (k5.mpr (by omega))]
