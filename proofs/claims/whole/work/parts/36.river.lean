theorem fact_neg (f : FT) (p q r u : Int) : fact f (-p) (-q) (-r) (-u) = fact f p q r u := by
  simp only [fact]
  refine Prod.ext (by simp only; grind) (Prod.ext (by simp only; grind) (by simp only; grind))
theorem fact_inv {f : FT} {p q r u : Int} (hd : p * u - q * r = 1) : fact (fact f p q r u) u (-q) (-r) p = f := by
  obtain ⟨a, b, c⟩ := f
  have hx : ∀ x : Int, x = x * (p * u - q * r) * (p * u - q * r) := fun x => by rw [hd]; grind
  simp only [fact]
  refine Prod.ext ?_ (Prod.ext ?_ ?_)
  · show _ = a; rw [hx a]; simp only; grind
  · show _ = b; rw [hx b]; simp only; grind
  · show _ = c; rw [hx c]; simp only; grind
theorem fdisc_fact {f : FT} {p q r u : Int} (hd : p * u - q * r = 1) : fdisc (fact f p q r u) = fdisc f := by
  have : fdisc (fact f p q r u) = fdisc f * ((p * u - q * r) * (p * u - q * r)) := by simp only [fdisc, fact]; grind
  rw [this, hd]; grind
theorem riv_pos {f : FT} {p q r u : Int} (hp : 0 < p) (hd : p * u - q * r = 1) (hf : friv f) (hns : ∀ x : Int, x * x ≠ fdisc f) (hg : friv (fact f p q r u)) : (∃ m, itr tau m f = fact f p q r u) ∨ ∃ m, itr tau m (fact f p q r u) = f := by
  obtain ⟨a, b, c⟩ := f
  have ha : 0 < a := hf.1
  have hc : c < 0 := hf.2
  have g1 : 0 < a * p * p + b * p * r + c * r * r := hg.1
  have g2 : a * q * q + b * q * u + c * u * u < 0 := hg.2
  have hu0 : u ≠ 0 := by
    intro h
    rw [h] at g2
    have : a * q * q = a * (q * q) := Int.mul_assoc _ _ _
    have h2 : 0 ≤ a * (q * q) := Int.mul_nonneg (Int.le_of_lt ha) (by rcases Int.le_total 0 q with h | h; exact Int.mul_nonneg h h; exact Int.mul_nonneg_of_nonpos_of_nonpos h h)
    simp at g2
    omega
  have hu : 0 < u := by
    by_cases h : 0 < u
    · exact h
    · exfalso
      have hun : u < 0 := by omega
      have hpu : p * u < 0 := Int.mul_neg_of_pos_of_neg hp hun
      have hqr : q * r < 0 := by omega
      by_cases hr : 0 < r
      · have hq : q < 0 := by
          by_cases h : q < 0
          · exact h
          · have := Int.mul_nonneg (Int.not_lt.mp h) (Int.le_of_lt hr); omega
        have := quad_slope (b := b) ha hc hp hr (z := -q) (w := -u) (by omega) (by omega) g1 (by
          have e : a * -q * -q + b * -q * -u + c * -u * -u = a * q * q + b * q * u + c * u * u := by grind
          rw [e]; exact g2)
        have e1 : -q * r = -(q * r) := by grind
        have e2 : p * -u = -(p * u) := by grind
        omega
      · have hr0 : r ≠ 0 := fun h => by rw [h] at hqr; simp at hqr
        have hq : 0 < q := by
          by_cases h : 0 < q
          · exact h
          · have := Int.mul_nonneg_of_nonpos_of_nonpos (Int.not_lt.mp h) (show r ≤ 0 by omega); omega
        have := quad_slope (b := -b) ha hc hp (y := -r) (by omega) (z := q) (w := -u) hq (by omega) (by
          have e : a * p * p + -b * p * -r + c * -r * -r = a * p * p + b * p * r + c * r * r := by grind
          rw [e]; exact g1) (by
          have e : a * q * q + -b * q * -u + c * -u * -u = a * q * q + b * q * u + c * u * u := by grind
          rw [e]; exact g2)
        have e1 : q * -r = -(q * r) := by grind
        have e2 : p * -u = -(p * u) := by grind
        omega
  have hpu : 1 ≤ p * u := by have := Int.mul_pos hp hu; omega
  by_cases h1 : 0 ≤ q ∧ 0 ≤ r
  · left
    exact riv_chain (p + q + r + u).toNat (a, b, c) p q r u (Int.le_of_lt hp) h1.1 h1.2 (Int.le_of_lt hu) (by omega) hd hf hns hg
  · right
    have hq : q ≤ 0 := by
      by_cases h : q ≤ 0
      · exact h
      · have hr : r < 0 := by omega
        have := Int.mul_neg_of_pos_of_neg (show 0 < q by omega) hr
        omega
    have hr : r ≤ 0 := by
      by_cases h : r ≤ 0
      · exact h
      · have hq2 : q < 0 := by omega
        have := Int.mul_neg_of_neg_of_pos hq2 (show 0 < r by omega)
        omega
    have hi := fact_inv (f := (a, b, c)) hd
    obtain ⟨m, hm⟩ := riv_chain (p + -q + -r + u).toNat (fact (a, b, c) p q r u) u (-q) (-r) p (Int.le_of_lt hu) (by omega) (by omega) (Int.le_of_lt hp) (by omega) (by grind) hg (by rw [fdisc_fact hd]; exact hns) (by rw [hi]; exact hf)
    exact ⟨m, by rw [hm, hi]⟩
theorem riv_any {f : FT} {p q r u : Int} (hd : p * u - q * r = 1) (hf : friv f) (hns : ∀ x : Int, x * x ≠ fdisc f) (hg : friv (fact f p q r u)) : (∃ m, itr tau m f = fact f p q r u) ∨ ∃ m, itr tau m (fact f p q r u) = f := by
  have hp0 : p ≠ 0 := by
    intro h
    have g1 : 0 < f.1 * p * p + f.2.1 * p * r + f.2.2 * r * r := hg.1
    rw [h] at g1
    have h2 : 0 ≤ (-f.2.2) * (r * r) := Int.mul_nonneg (by have := hf.2; omega) (by rcases Int.le_total 0 r with h | h; exact Int.mul_nonneg h h; exact Int.mul_nonneg_of_nonpos_of_nonpos h h)
    have e : (-f.2.2) * (r * r) = -(f.2.2 * r * r) := by grind
    simp at g1
    omega
  rcases Int.lt_or_gt_of_ne hp0 with h | h
  · have := riv_pos (f := f) (p := -p) (q := -q) (r := -r) (u := -u) (by omega) (by grind) hf hns (by rw [fact_neg]; exact hg)
    rw [fact_neg] at this
    exact this
  · exact riv_pos h hd hf hns hg
/-! Reduced forms: a c below 0, b above |a + c| -/
def fred (f : FT) : Prop := ((0 < f.1 ∧ f.2.2 < 0) ∨ (f.1 < 0 ∧ 0 < f.2.2)) ∧ 0 < f.1 + f.2.1 + f.2.2 ∧ f.1 - f.2.1 + f.2.2 < 0
/-- the next form of the cycle: from (a, b, c) to (c, b', c'), b' like -b modulo 2 c and the greatest such not above R -/
def rho (R : Int) (f : FT) : FT :=
  let k := if f.2.2 < 0 then -((R + f.2.1) / (2 * -f.2.2)) else (R + f.2.1) / (2 * f.2.2)
  (f.2.2, -f.2.1 + 2 * f.2.2 * k, f.1 - f.2.1 * k + f.2.2 * k * k)
/-- R is the whole root of D -/
def isRoot (D R : Int) : Prop := 0 ≤ R ∧ R * R ≤ D ∧ D < (R + 1) * (R + 1)
/-- of a reduced form: b is at most R, 2 |a| + b above it, 2 |a| - b not above it -/
theorem fred_win {D R : Int} (hR : isRoot D R) (hns : ∀ x : Int, x * x ≠ D) {f : FT} (hf : fred f) (hD : fdisc f = D) : f.2.1 ≤ R ∧ R < 2 * f.1.natAbs + f.2.1 ∧ (2 * f.1.natAbs : Int) - f.2.1 ≤ R ∧ R < 2 * f.2.2.natAbs + f.2.1 ∧ (2 * f.2.2.natAbs : Int) - f.2.1 ≤ R := by
  obtain ⟨a, b, c⟩ := f
  obtain ⟨hs, h1, h2⟩ := hf
  obtain ⟨r0, r1, r2⟩ := hR
  simp only [fdisc] at hD h1 h2 hs ⊢
  have hb : 0 < b := by omega
  -- x x < D gives x ≤ R; D < x x gives R < x, for x at least 0
  have up : ∀ x : Int, 0 ≤ x → x * x < D → x ≤ R := by
    intro x hx h
    by_cases g : x ≤ R
    · exact g
    · have : (R + 1) * (R + 1) ≤ x * x := Int.mul_le_mul (by omega) (by omega) (by omega) hx
      omega
  have lo : ∀ x : Int, 0 ≤ x → D < x * x → R < x := by
    intro x hx h
    by_cases g : R < x
    · exact g
    · have : x * x ≤ R * R := Int.mul_le_mul (by omega) (by omega) hx r0
      omega
  rcases hs with ⟨ha, hc⟩ | ⟨ha, hc⟩
  · have hac : 0 < a * (-c) := Int.mul_pos ha (by omega)
    have e0 : a * -c = -(a * c) := by grind
    have ea : (a.natAbs : Int) = a := by omega
    have ec : (c.natAbs : Int) = -c := by omega
    rw [ea, ec]
    have t1 : 0 < a * (a + b + c) := Int.mul_pos ha (by omega)
    have t2 : 0 < a * (b - a - c) := Int.mul_pos ha (by omega)
    have t3 : 0 < (-c) * (a + b + c) := Int.mul_pos (by omega) (by omega)
    have t4 : 0 < (-c) * (b - a - c) := Int.mul_pos (by omega) (by omega)
    refine ⟨up b (by omega) (by grind), lo _ (by omega) (by grind), ?_, lo _ (by omega) (by grind), ?_⟩
    · by_cases g : 0 ≤ 2 * a - b
      · exact up _ g (by grind)
      · omega
    · by_cases g : 0 ≤ 2 * -c - b
      · exact up _ g (by grind)
      · omega
  · have hac : 0 < (-a) * c := Int.mul_pos (by omega) hc
    have ea : (a.natAbs : Int) = -a := by omega
    have ec : (c.natAbs : Int) = c := by omega
    rw [ea, ec]
    have t1 : 0 < (-a) * (a + b + c) := Int.mul_pos (by omega) (by omega)
    have t2 : 0 < (-a) * (b - a - c) := Int.mul_pos (by omega) (by omega)
    have t3 : 0 < c * (a + b + c) := Int.mul_pos (by omega) (by omega)
    have t4 : 0 < c * (b - a - c) := Int.mul_pos (by omega) (by omega)
    refine ⟨up b (by omega) (by grind), lo _ (by omega) (by grind), ?_, lo _ (by omega) (by grind), ?_⟩
    · by_cases g : 0 ≤ 2 * -a - b
      · exact up _ g (by grind)
      · omega
    · by_cases g : 0 ≤ 2 * c - b
      · exact up _ g (by grind)
      · omega
