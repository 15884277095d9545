/-! D above 0: equivalent forms with a above 0, c below 0 lie on one chain of steps -/
abbrev FT : Type := Int × Int × Int
def fdisc (f : FT) : Int := f.2.1 * f.2.1 - 4 * f.1 * f.2.2
def fact (f : FT) (p q r u : Int) : FT := (f.1 * p * p + f.2.1 * p * r + f.2.2 * r * r, 2 * f.1 * p * q + f.2.1 * (p * u + q * r) + 2 * f.2.2 * r * u, f.1 * q * q + f.2.1 * q * u + f.2.2 * u * u)
def friv (f : FT) : Prop := 0 < f.1 ∧ f.2.2 < 0
def itr {α : Type} (g : α → α) : Nat → α → α
  | 0, x => x
  | k + 1, x => itr g k (g x)
theorem itr_add {α : Type} (g : α → α) (j k : Nat) (x : α) : itr g (j + k) x = itr g k (itr g j x) := by
  induction j generalizing x with
  | zero => rw [Nat.zero_add]; rfl
  | succ j ih => rw [show j + 1 + k = (j + k) + 1 by omega]; exact ih (g x)
theorem itr_succ {α : Type} (g : α → α) (k : Nat) (x : α) : itr g (k + 1) x = g (itr g k x) := by
  rw [itr_add g k 1]; rfl
def tau (f : FT) : FT := if 0 < f.1 + f.2.1 + f.2.2 then (f.1 + f.2.1 + f.2.2, f.2.1 + 2 * f.2.2, f.2.2) else (f.1, f.2.1 + 2 * f.1, f.1 + f.2.1 + f.2.2)
theorem fsum_ne {f : FT} (hns : ∀ x : Int, x * x ≠ fdisc f) : f.1 + f.2.1 + f.2.2 ≠ 0 := by
  intro h
  refine hns (f.1 - f.2.2) ?_
  have : f.2.1 = -(f.1 + f.2.2) := by omega
  simp only [fdisc]; rw [this]; grind
theorem fdisc_tau (f : FT) : fdisc (tau f) = fdisc f := by
  unfold tau
  split <;> simp only [fdisc] <;> grind
theorem friv_tau {f : FT} (h : friv f) (hns : ∀ x : Int, x * x ≠ fdisc f) : friv (tau f) := by
  unfold tau
  have := fsum_ne hns
  split
  · exact ⟨by assumption, h.2⟩
  · exact ⟨h.1, by show f.1 + f.2.1 + f.2.2 < 0; omega⟩
theorem quad_pos {a b c x y : Int} (ha : 0 < a) (hb : 0 < b) (hc : 0 < c) (hx : 0 ≤ x) (hy : 0 ≤ y) (h : ¬ (x = 0 ∧ y = 0)) : 0 < a * x * x + b * x * y + c * y * y := by
  have h1 : 0 ≤ b * x * y := Int.mul_nonneg (Int.mul_nonneg (Int.le_of_lt hb) hx) hy
  by_cases hx0 : x = 0
  · have hy0 : 0 < y := by omega
    have : 0 < c * y * y := Int.mul_pos (Int.mul_pos hc hy0) hy0
    rw [hx0] at h1 ⊢
    have e : a * 0 * 0 = 0 := by simp
    rw [e]; omega
  · have hx1 : 0 < x := by omega
    have : 0 < a * x * x := Int.mul_pos (Int.mul_pos ha hx1) hx1
    have : 0 ≤ c * y * y := Int.mul_nonneg (Int.mul_nonneg (Int.le_of_lt hc) hy) hy
    omega
theorem riv_chain : ∀ (N : Nat) (f : FT) (p q r u : Int), 0 ≤ p → 0 ≤ q → 0 ≤ r → 0 ≤ u → p + q + r + u ≤ N → p * u - q * r = 1 → friv f → (∀ x : Int, x * x ≠ fdisc f) → friv (fact f p q r u) → ∃ m, itr tau m f = fact f p q r u := by
  intro N
  induction N with
  | zero =>
    intro f p q r u hp hq hr hu hN hd
    have : p = 0 := by omega
    have : q = 0 := by omega
    subst p; subst q; simp at hd
  | succ N ih =>
    intro f p q r u hp hq hr hu hN hd hf hns hg
    have hs := fsum_ne hns
    -- the first factor
    have hp1 : p ≠ 0 ∨ r ≠ 0 := by
      by_cases h : p = 0
      · right; intro h2; rw [h, h2] at hd; simp at hd
      · exact Or.inl h
    by_cases hI : q = 0 ∧ r = 0
    · obtain ⟨rfl, rfl⟩ := hI
      have h1 : p * u = 1 := by omega
      have hp2 : p = 1 := by
        have := Int.le_of_dvd (by decide : (0 : Int) < 1) ⟨u, h1.symm⟩
        have : p ≠ 0 := fun h => by rw [h] at h1; simp at h1
        omega
      subst hp2
      have hu2 : u = 1 := by omega
      subst hu2
      refine ⟨0, ?_⟩
      obtain ⟨a, b, c⟩ := f
      show (a, b, c) = _
      simp [fact]
    · -- rows: either the second is at least the first, or the other way round
      have hrow : (p ≤ r ∧ q ≤ u) ∨ (r ≤ p ∧ u ≤ q) := by
        by_cases h1 : p ≤ r
        · by_cases h2 : q ≤ u
          · exact Or.inl ⟨h1, h2⟩
          · exfalso
            have e1 : p * u ≤ r * u := Int.mul_le_mul_of_nonneg_right h1 hu
            have e2 : r * u ≤ r * q := Int.mul_le_mul_of_nonneg_left (by omega) hr
            have e3 : r * q = q * r := Int.mul_comm _ _
            omega
        · by_cases h2 : u ≤ q
          · exact Or.inr ⟨by omega, h2⟩
          · exfalso
            apply hI
            -- r ≤ p - 1, q ≤ u - 1
            have e1 : q * r ≤ (u - 1) * r := Int.mul_le_mul_of_nonneg_right (by omega) hr
            have e2 : (u - 1) * r ≤ (u - 1) * (p - 1) := Int.mul_le_mul_of_nonneg_left (by omega) (by omega)
            have e3 : (u - 1) * (p - 1) = p * u - p - u + 1 := by grind
            have : p + u ≤ 2 := by omega
            constructor <;> omega
      by_cases hpos : 0 < f.1 + f.2.1 + f.2.2
      · -- the step is (x, x + y)
        have ht : tau f = (f.1 + f.2.1 + f.2.2, f.2.1 + 2 * f.2.2, f.2.2) := if_pos hpos
        rcases hrow with ⟨h1, h2⟩ | ⟨h1, h2⟩
        · have e : fact (tau f) p q (r - p) (u - q) = fact f p q r u := by
            rw [ht]
            simp only [fact]
            refine Prod.ext (by simp only; grind) (Prod.ext (by simp only; grind) (by simp only; grind))
          have hpq : p ≠ 0 ∨ q ≠ 0 := by
            by_cases h : p = 0
            · right; intro h2; rw [h, h2] at hd; simp at hd
            · exact Or.inl h
          obtain ⟨m, hm⟩ := ih (tau f) p q (r - p) (u - q) hp hq (by omega) (by omega) (by omega) (by grind) (friv_tau hf hns) (by rw [fdisc_tau]; exact hns) (by rw [e]; exact hg)
          exact ⟨m + 1, by rw [← e, ← hm]; rfl⟩
        · exfalso
          have hb : 0 < f.2.1 + 2 * f.1 := by have := hf.1; have := hf.2; omega
          have := quad_pos hf.1 hb hpos (x := q - u) (y := u) (by omega) hu (by
            rintro ⟨h3, h4⟩
            have : q = 0 := by omega
            rw [this, h4] at hd; simp at hd)
          have e : f.1 * (q - u) * (q - u) + (f.2.1 + 2 * f.1) * (q - u) * u + (f.1 + f.2.1 + f.2.2) * u * u = f.1 * q * q + f.2.1 * q * u + f.2.2 * u * u := by grind
          rw [e] at this
          have h5 : f.1 * q * q + f.2.1 * q * u + f.2.2 * u * u < 0 := hg.2
          omega
      · have hneg : f.1 + f.2.1 + f.2.2 < 0 := by omega
        have ht : tau f = (f.1, f.2.1 + 2 * f.1, f.1 + f.2.1 + f.2.2) := if_neg hpos
        rcases hrow with ⟨h1, h2⟩ | ⟨h1, h2⟩
        · exfalso
          have hb : 0 < -(f.2.1 + 2 * f.2.2) := by have := hf.1; have := hf.2; omega
          have := quad_pos (a := -(f.1 + f.2.1 + f.2.2)) (c := -f.2.2) (by omega) hb (by have := hf.2; omega) (x := p) (y := r - p) hp (by omega) (by
            rintro ⟨h3, h4⟩
            have : r = 0 := by omega
            rw [this, h3] at hd; simp at hd)
          have e : -(f.1 + f.2.1 + f.2.2) * p * p + -(f.2.1 + 2 * f.2.2) * p * (r - p) + -f.2.2 * (r - p) * (r - p) = -(f.1 * p * p + f.2.1 * p * r + f.2.2 * r * r) := by grind
          rw [e] at this
          have h5 : 0 < f.1 * p * p + f.2.1 * p * r + f.2.2 * r * r := hg.1
          omega
        · have e : fact (tau f) (p - r) (q - u) r u = fact f p q r u := by
            rw [ht]
            simp only [fact]
            refine Prod.ext (by simp only; grind) (Prod.ext (by simp only; grind) (by simp only; grind))
          have hru : r ≠ 0 ∨ u ≠ 0 := by
            by_cases h : r = 0
            · right; intro h2; rw [h, h2] at hd; simp at hd
            · exact Or.inl h
          obtain ⟨m, hm⟩ := ih (tau f) (p - r) (q - u) r u (by omega) (by omega) hr hu (by omega) (by grind) (friv_tau hf hns) (by rw [fdisc_tau]; exact hns) (by rw [e]; exact hg)
          exact ⟨m + 1, by rw [← e, ← hm]; rfl⟩
/-- a positive and a negative value in the first quadrant -/
theorem quad_slope {a b c x y z w : Int} (ha : 0 < a) (hc : c < 0) (hx : 0 < x) (hy : 0 < y) (hz : 0 < z) (hw : 0 < w) (h1 : 0 < a * x * x + b * x * y + c * y * y) (h2 : a * z * z + b * z * w + c * w * w < 0) : z * y < x * w := by
  have e : (z * w) * (a * x * x + b * x * y + c * y * y) - (x * y) * (a * z * z + b * z * w + c * w * w) = (x * w - z * y) * (a * x * z - c * y * w) := by grind
  have p1 : 0 < (z * w) * (a * x * x + b * x * y + c * y * y) := Int.mul_pos (Int.mul_pos hz hw) h1
  have p2 : 0 < (x * y) * -(a * z * z + b * z * w + c * w * w) := Int.mul_pos (Int.mul_pos hx hy) (by omega)
  have p3 : 0 < a * x * z - c * y * w := by
    have q1 : 0 < a * x * z := Int.mul_pos (Int.mul_pos ha hx) hz
    have q2 : 0 < (-c) * y * w := Int.mul_pos (Int.mul_pos (by omega) hy) hw
    have q3 : (-c) * y * w = -(c * y * w) := by grind
    omega
  have p4 : 0 < (x * w - z * y) * (a * x * z - c * y * w) := by
    rw [← e]
    have : (x * y) * -(a * z * z + b * z * w + c * w * w) = -((x * y) * (a * z * z + b * z * w + c * w * w)) := by grind
    omega
  by_cases h : z * y < x * w
  · exact h
  · have := Int.mul_nonpos_of_nonpos_of_nonneg (show x * w - z * y ≤ 0 by omega) (Int.le_of_lt p3)
    omega
