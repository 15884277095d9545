/-! D below 0: equivalent reduced forms are the same -/
def dred (f : FT) : Prop := -f.1 ≤ f.2.1 ∧ f.2.1 ≤ f.1 ∧ f.1 ≤ f.2.2 ∧ (0 ≤ f.2.1 ∨ (-f.2.1 < f.1 ∧ f.1 < f.2.2))
theorem def_le {f : FT} {p q r u : Int} (ha : 0 < f.1) (hf : dred f) (hd : p * u - q * r = 1) (hg : dred (fact f p q r u)) (hle : (fact f p q r u).1 ≤ f.1) (ha' : 0 < (fact f p q r u).1) : fact f p q r u = f := by
  have hdisc := fdisc_fact (f := f) hd
  obtain ⟨a, b, c⟩ := f
  obtain ⟨f1, f2, f3, f4⟩ := hf
  have ea : (fact (a, b, c) p q r u).1 = a * p * p + b * p * r + c * r * r := rfl
  have eb : (fact (a, b, c) p q r u).2.1 = 2 * a * p * q + b * (p * u + q * r) + 2 * c * r * u := rfl
  have hle2 : a * p * p + b * p * r + c * r * r ≤ a := hle
  have hle := hle2
  generalize hG : fact (a, b, c) p q r u = G at *
  obtain ⟨a', b', c'⟩ := G
  obtain ⟨g1, g2, g3, g4⟩ := hg
  simp only [fdisc] at *
  have hbw : -a' < b' := by omega
  have hbw0 : -a < b := by omega
  by_cases hr : r = 0
  · subst hr
    have hpu : p * u = 1 := by omega
    have hpp : p * p = 1 := by
      have h1 : p ∣ 1 := ⟨u, hpu.symm⟩
      have h2 := Int.le_of_dvd (by decide) h1
      have h3 := Int.le_of_dvd (by decide) (Int.neg_dvd.mpr h1)
      have : p = 1 ∨ p = -1 := by
        have : p ≠ 0 := fun h => by rw [h] at hpu; simp at hpu
        omega
      rcases this with h | h <;> rw [h] <;> rfl
    have ea2 : a' = a := by
      rw [ea]
      have : a * p * p = a * (p * p) := Int.mul_assoc _ _ _
      rw [this, hpp]; simp
    have eb2 : b' - b = 2 * a * (p * q) := by
      rw [eb]
      have : b * (p * u + q * 0) = b := by rw [hpu]; simp
      rw [this]; grind
    have : b' - b = 0 := dvd_win (m := 2 * a) ⟨_, eb2⟩ (by omega) (by omega)
    have hb : b' = b := by omega
    subst ea2; subst hb
    have : 4 * a' * c' = 4 * a' * c := by omega
    have hc : c' = c := Int.eq_of_mul_eq_mul_left (by omega) this
    rw [hc]
  · by_cases hp : p = 0
    · subst hp
      have hqr : q * r = -1 := by omega
      have hrr : r * r = 1 := by
        have h0 : r * -q = -(q * r) := by grind
        have h1 : r ∣ 1 := ⟨-q, by omega⟩
        have h2 := Int.le_of_dvd (by decide) h1
        have h3 := Int.le_of_dvd (by decide) (Int.neg_dvd.mpr h1)
        have : r = 1 ∨ r = -1 := by omega
        rcases this with h | h <;> rw [h] <;> rfl
      have ea2 : a' = c := by
        rw [ea]
        have : c * r * r = c * (r * r) := Int.mul_assoc _ _ _
        rw [this, hrr]; simp
      have eca : a * 0 * 0 + b * 0 * r + c * r * r = c := by
        have : c * r * r = c * (r * r) := Int.mul_assoc _ _ _
        rw [this, hrr]; simp
      rw [eca] at hle
      have hca : c = a := by omega
      subst hca
      subst ea2
      have hb0 : 0 ≤ b := by omega
      have eb2 : b + b' = 2 * a' * (r * u) := by
        rw [eb]
        have : b * (0 * u + q * r) = -b := by rw [hqr]; grind
        rw [this]; grind
      have hb : b' = b := by
        by_cases hk : r * u = 0
        · rw [hk] at eb2
          have hbb : b' = -b := by omega
          have : b' * b' = b * b := by rw [hbb]; grind
          have : 4 * a' * c' = 4 * a' * a' := by omega
          have hc : c' = a' := Int.eq_of_mul_eq_mul_left (by omega) this
          omega
        · have hk1 : r * u = 1 := by
            have k1 : 0 < r * u := by
              by_cases g : 0 < r * u
              · exact g
              · have : 2 * a' * (r * u) ≤ 2 * a' * -1 := Int.mul_le_mul_of_nonneg_left (by omega) (by omega)
                omega
            have k2 : r * u < 2 := by
              by_cases g : r * u < 2
              · exact g
              · have : 2 * a' * 2 ≤ 2 * a' * (r * u) := Int.mul_le_mul_of_nonneg_left (by omega) (by omega)
                omega
            omega
          rw [hk1] at eb2
          omega
      subst hb
      have : 4 * a' * c' = 4 * a' * a' := by omega
      have hc : c' = a' := Int.eq_of_mul_eq_mul_left (by omega) this
      rw [hc]
    · -- both not 0
      have hP : 1 ≤ (p.natAbs : Int) := by omega
      have hQ : 1 ≤ (r.natAbs : Int) := by omega
      generalize hPe : (p.natAbs : Int) = P at *
      generalize hQe : (r.natAbs : Int) = Q at *
      have pp : p * p = P * P := by rw [← hPe]; exact (Int.natAbs_mul_self' p).symm
      have rr : r * r = Q * Q := by rw [← hQe]; exact (Int.natAbs_mul_self' r).symm
      have hPQ : 1 ≤ P * Q := by have := Int.mul_pos (show 0 < P by omega) (show 0 < Q by omega); omega
      have hpr : p * r = P * Q ∨ p * r = -(P * Q) := by
        rcases Int.natAbs_eq p with h | h <;> rcases Int.natAbs_eq r with h' | h' <;> rw [hPe] at h <;> rw [hQe] at h' <;> rw [h, h']
        · left; rfl
        · right; grind
        · right; grind
        · left; grind
      have hbpr : -(a * (P * Q)) ≤ b * (p * r) ∧ (b * (p * r) = -(a * (P * Q)) → b = a ∨ b = -a) := by
        rcases hpr with h | h <;> rw [h]
        · have e1 : 0 ≤ (a + b) * (P * Q) := Int.mul_nonneg (by omega) (by omega)
          have e2 : (a + b) * (P * Q) = a * (P * Q) + b * (P * Q) := by grind
          refine ⟨by omega, fun h => Or.inr ?_⟩
          have e3 : (P * Q) * (a + b) = 0 := by rw [Int.mul_comm]; omega
          rcases Int.mul_eq_zero.mp e3 with g | g <;> omega
        · have e1 : 0 ≤ (a - b) * (P * Q) := Int.mul_nonneg (by omega) (by omega)
          have e2 : (a - b) * (P * Q) = a * (P * Q) - b * (P * Q) := by grind
          have e4 : b * -(P * Q) = -(b * (P * Q)) := by grind
          refine ⟨by omega, fun h => Or.inl ?_⟩
          have e3 : (P * Q) * (a - b) = 0 := by rw [Int.mul_comm]; omega
          rcases Int.mul_eq_zero.mp e3 with g | g <;> omega
      have ev : a * p * p + b * p * r + c * r * r = a * (P * P) + b * (p * r) + c * (Q * Q) := by rw [← pp, ← rr]; grind
      rw [ev] at ea hle2
      have hsq : 0 ≤ (P - Q) * (P - Q) := by
        rcases Int.le_total 0 (P - Q) with h | h
        · exact Int.mul_nonneg h h
        · exact Int.mul_nonneg_of_nonpos_of_nonpos h h
      have hQQ : 1 ≤ Q * Q := by have := Int.mul_pos (show 0 < Q by omega) (show 0 < Q by omega); omega
      have s1 : 0 ≤ a * ((P - Q) * (P - Q)) := Int.mul_nonneg (by omega) hsq
      have s2 : 0 ≤ (c - a) * (Q * Q) := Int.mul_nonneg (by omega) (by omega)
      have s3 : a * 1 ≤ a * (P * Q) := Int.mul_le_mul_of_nonneg_left hPQ (by omega)
      have tot : a * (P * P) + b * (p * r) + c * (Q * Q) = a * ((P - Q) * (P - Q)) + a * (P * Q) + (c - a) * (Q * Q) + (b * (p * r) + a * (P * Q)) := by grind
      have hba := hbpr.2 (by omega)
      have hca : c = a := by
        have : (c - a) * (Q * Q) = 0 := by omega
        rcases Int.mul_eq_zero.mp this with g | g <;> omega
      have haa : a' = a := by omega
      subst hca
      have hb : b = c := by omega
      subst hb
      subst haa
      have hcc : c' = a' := by
        have h1 : b' * b' ≤ a' * a' := by
          rcases Int.le_total 0 b' with h | h
          · exact Int.mul_le_mul g2 g2 h (by omega)
          · have := Int.mul_le_mul (show -b' ≤ a' by omega) (show -b' ≤ a' by omega) (by omega) (show 0 ≤ a' by omega)
            have e : -b' * -b' = b' * b' := by grind
            omega
        have h2 : 4 * a' * c' ≤ 4 * a' * a' := by
          have : 4 * a' * a' = 4 * (a' * a') := by grind
          have : a' * a' - 4 * a' * a' = -(3 * (a' * a')) := by grind
          omega
        have := Int.le_of_mul_le_mul_left h2 (by omega)
        omega
      subst hcc
      have hb0 : 0 ≤ b' := by omega
      have hbb : b' * b' = c' * c' := by omega
      have hb' : b' = c' := by
        have e : (b' - c') * (b' + c') = 0 := by
          have : (b' - c') * (b' + c') = b' * b' - c' * c' := by grind
          omega
        rcases Int.mul_eq_zero.mp e with g | g <;> omega
      rw [hb']
theorem def_same {f g : FT} (ha : 0 < f.1) (ha' : 0 < g.1) (hf : dred f) (hg : dred g) (h : fm_eqv f.1 f.2.1 f.2.2 g.1 g.2.1 g.2.2) : f = g := by
  obtain ⟨p, q, r, u, hd, h1, h2, h3⟩ := h
  have e : g = fact f p q r u := Prod.ext h1 (Prod.ext h2 h3)
  rcases Int.le_total g.1 f.1 with h | h
  · rw [e] at h hg ⊢
    exact (def_le ha hf hd hg h (by rw [← e]; exact ha')).symm
  · have e2 : fact g u (-q) (-r) p = f := by rw [e]; exact fact_inv hd
    have := def_le (p := u) (q := -q) (r := -r) (u := p) ha' hg (by grind) (by rw [e2]; exact hf) (by rw [e2]; exact h) (by rw [e2]; exact ha)
    rw [e2] at this; exact this
