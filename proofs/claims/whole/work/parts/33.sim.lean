/-! Proper equivalence of forms, and similarity of their modules -/
def fm_eqv (a b c a' b' c' : Int) : Prop := ∃ p q r u : Int, p * u - q * r = 1 ∧ a' = a * p * p + b * p * r + c * r * r ∧ b' = 2 * a * p * q + b * (p * u + q * r) + 2 * c * r * u ∧ c' = a * q * q + b * q * u + c * u * u
theorem fm_refl (a b c : Int) : fm_eqv a b c a b c := ⟨1, 0, 0, 1, by grind, by grind, by grind, by grind⟩
theorem fm_symm {a b c a' b' c' : Int} (h : fm_eqv a b c a' b' c') : fm_eqv a' b' c' a b c := by
  obtain ⟨p, q, r, u, h0, h1, h2, h3⟩ := h
  have hd : ∀ x : Int, x = x * (p * u - q * r) * (p * u - q * r) := fun x => by rw [h0]; grind
  refine ⟨u, -q, -r, p, by grind, ?_, ?_, ?_⟩
  · rw [hd a, h1, h2, h3]; grind
  · rw [hd b, h1, h2, h3]; grind
  · rw [hd c, h1, h2, h3]; grind
theorem fm_trans {a b c a' b' c' a'' b'' c'' : Int} (h : fm_eqv a b c a' b' c') (h' : fm_eqv a' b' c' a'' b'' c'') : fm_eqv a b c a'' b'' c'' := by
  obtain ⟨p, q, r, u, h0, h1, h2, h3⟩ := h
  obtain ⟨p', q', r', u', g0, g1, g2, g3⟩ := h'
  refine ⟨p * p' + q * r', p * q' + q * u', r * p' + u * r', r * q' + u * u', ?_, ?_, ?_, ?_⟩
  · have : (p * p' + q * r') * (r * q' + u * u') - (p * q' + q * u') * (r * p' + u * r') = (p * u - q * r) * (p' * u' - q' * r') := by grind
    rw [this, h0, g0]; rfl
  · rw [g1, h1, h2, h3]; grind
  · rw [g2, h1, h2, h3]; grind
  · rw [g3, h1, h2, h3]; grind
theorem fm_disc {a b c a' b' c' : Int} (h : fm_eqv a b c a' b' c') : b' * b' - 4 * a' * c' = b * b - 4 * a * c := by
  obtain ⟨p, q, r, u, h0, h1, h2, h3⟩ := h
  have : b' * b' - 4 * a' * c' = (b * b - 4 * a * c) * ((p * u - q * r) * (p * u - q * r)) := by rw [h1, h2, h3]; grind
  rw [this, h0]; grind
theorem fm_prim {a b c a' b' c' : Int} (h : fm_eqv a b c a' b' c') (hp : prim a b c) : prim a' b' c' := by
  obtain ⟨p, q, r, u, h0, h1, h2, h3⟩ := fm_symm h
  obtain ⟨x, y, z, e⟩ := hp
  rw [h1, h2, h3] at e
  exact ⟨x * p * p + y * (2 * p * q) + z * q * q, x * p * r + y * (p * u + q * r) + z * q * u, x * r * r + y * (2 * r * u) + z * u * u, by rw [← e]; grind⟩
/-- steps: x, y to -y, x; and x, y to x + k y, y -/
theorem fm_S (a b c : Int) : fm_eqv a b c c (-b) a := ⟨0, -1, 1, 0, by grind, by grind, by grind, by grind⟩
theorem fm_T (a b c k : Int) : fm_eqv a b c a (b + 2 * a * k) (a * k * k + b * k + c) := ⟨1, k, 0, 1, by grind, by grind, by grind, by grind⟩
/-- similar modules, with the sign of the norms -/
def fsim (s n a t a' t' : Int) : Prop := ∃ x y : QE, 0 < qN s n x * qN s n y * (a * a') ∧ sc s n x (qJ a t) = sc s n y (qJ a' t')
theorem fsim_of {s n a t c a' t' c' : Int} (ha : a ≠ 0) (ha' : a' ≠ 0) (hc : a * c = t * t + s * t - n) (h : fm_eqv a (s + 2 * t) c a' (s + 2 * t') c') : fsim s n a t a' t' := by
  obtain ⟨p, q, r, u, h0, h1, h2, h3⟩ := h
  have ht : t' = a * p * q + c * r * u + t + 2 * t * q * r + s * q * r := by
    have : p * u + q * r = 1 + 2 * (q * r) := by omega
    rw [this] at h2
    have e : 2 * t' = 2 * (a * p * q + c * r * u + t + 2 * t * q * r + s * q * r) := by grind
    omega
  -- a' (q a + u (w + t)) = (p a + r (w + t)) (w + t')
  have key : ∀ X Y : Int, qm s n (a', 0) (X * (p * a + r * t) + Y * (q * a + u * t), X * r + Y * u) = qm s n (p * a + r * t, r) (X * a' + Y * t', Y) := by
    intro X Y
    refine qe_ext ?_ ?_
    · simp only [qm]
      have k1 : a' * (q * a + u * t) = (p * a + r * t) * t' + n * r := by
        rw [ht, h1]
        have hn : n = t * t + s * t - a * c := by omega
        rw [hn]
        have hd : ∀ x : Int, x * (p * u - q * r) = x := fun x => by rw [h0, Int.mul_one]
        have e1 := hd (a * c * r)
        have e2 := hd (a * p * t)
        have e3 := hd (r * t * t)
        grind
      have k2 : a' * (Y * (q * a + u * t)) = Y * ((p * a + r * t) * t' + n * r) := by rw [← k1]; grind
      grind
    · simp only [qm]
      have k1 : a' * u = (p * a + r * t) + r * t' + s * r := by
        rw [ht, h1]
        have hd : ∀ x : Int, x * (p * u - q * r) = x := fun x => by rw [h0, Int.mul_one]
        have e1 := hd (a * p)
        have e2 := hd (r * t)
        have e3 := hd (s * r)
        grind
      have k2 : a' * (Y * u) = Y * ((p * a + r * t) + r * t' + s * r) := by rw [← k1]; grind
      grind
  refine ⟨(a', 0), (p * a + r * t, r), ?_, ?_⟩
  · have e1 : qN s n (p * a + r * t, r) = a * a' := by
      simp only [qN]; rw [h1]
      have : r * r * (a * c) = r * r * (t * t + s * t - n) := by rw [hc]
      grind
    rw [e1, qN_int]
    have : a' * a' * (a * a') * (a * a') = (a * a' * a') * (a * a' * a') := by grind
    rw [this]
    have hne : a * a' * a' ≠ 0 := Int.mul_ne_zero (Int.mul_ne_zero ha ha') ha'
    rcases Int.lt_or_gt_of_ne hne with h | h
    · exact Int.mul_pos_of_neg_of_neg h h
    · exact Int.mul_pos h h
  · refine pr_ext ?_ ?_
    · rintro z ⟨w, ⟨x, hx⟩, rfl⟩
      -- w = x a + y (w + t), y = w.2
      refine ⟨((x * u - w.2 * q) * a' + (w.2 * p - x * r) * t', w.2 * p - x * r), ⟨x * u - w.2 * q, by grind⟩, ?_⟩
      rw [← key]
      congr 1
      have hd : ∀ x : Int, x * (p * u - q * r) = x := fun x => by rw [h0, Int.mul_one]
      have e1 := hd (x * a)
      have e2 := hd (w.2 * t)
      have e3 := hd w.2
      refine qe_ext ?_ ?_
      · show w.1 = _
        have : w.1 = x * a + w.2 * t := by grind
        rw [this]; grind
      · show w.2 = _; grind
    · rintro z ⟨w, ⟨x, hx⟩, rfl⟩
      have hw : w = (x * a' + w.2 * t', w.2) := qe_ext (by show w.1 = _; grind) rfl
      rw [hw]
      refine ⟨_, ?_, (key x w.2).symm⟩
      exact ⟨x * p + w.2 * q, by grind⟩
def qB (s n : Int) (u v : QE) : Int := 2 * (u.1 * v.1) + s * (u.1 * v.2 + u.2 * v.1) - 2 * n * (u.2 * v.2)
def qdt (u v : QE) : Int := u.1 * v.2 - u.2 * v.1
theorem qB_mul (s n : Int) (x u v : QE) : qB s n (qm s n x u) (qm s n x v) = qN s n x * qB s n u v := by
  simp only [qB, qm, qN]; grind
theorem qdt_mul (s n : Int) (x u v : QE) : qdt (qm s n x u) (qm s n x v) = qN s n x * qdt u v := by
  simp only [qdt, qm, qN]; grind
theorem fsim_eqv {s n a t c a' t' c' : Int} (hc : a * c = t * t + s * t - n) (hc' : a' * c' = t' * t' + s * t' - n) (h : fsim s n a t a' t') : fm_eqv a (s + 2 * t) c a' (s + 2 * t') c' := by
  obtain ⟨x, y, hpos, he⟩ := h
  have m1 : sc s n x (qJ a t) (qm s n y (a', 0)) := by rw [he]; exact ⟨(a', 0), ⟨1, by simp⟩, rfl⟩
  have m2 : sc s n x (qJ a t) (qm s n y (t', 1)) := by rw [he]; exact ⟨(t', 1), ⟨0, by simp⟩, rfl⟩
  have m3 : sc s n y (qJ a' t') (qm s n x (a, 0)) := by rw [← he]; exact ⟨(a, 0), ⟨1, by simp⟩, rfl⟩
  have m4 : sc s n y (qJ a' t') (qm s n x (t, 1)) := by rw [← he]; exact ⟨(t, 1), ⟨0, by simp⟩, rfl⟩
  obtain ⟨z1, ⟨p, hp⟩, e1⟩ := m1
  obtain ⟨z2, ⟨q, hq⟩, e2⟩ := m2
  obtain ⟨y1, ⟨p', hp'⟩, e3⟩ := m3
  obtain ⟨y2, ⟨q', hq'⟩, e4⟩ := m4
  obtain ⟨z11, r⟩ := z1
  obtain ⟨z21, u⟩ := z2
  obtain ⟨y11, r'⟩ := y1
  obtain ⟨y21, u'⟩ := y2
  have f1 : z11 = p * a + r * t := by simp only at hp; grind
  have f2 : z21 = q * a + u * t := by simp only at hq; grind
  have f3 : y11 = p' * a' + r' * t' := by simp only at hp'; grind
  have f4 : y21 = q' * a' + u' * t' := by simp only at hq'; grind
  subst f1; subst f2; subst f3; subst f4
  -- determinants
  have d1 : qN s n y * a' = qN s n x * (a * (p * u - q * r)) := by
    have := qdt_mul s n y (a', 0) (t', 1)
    rw [e1, e2, qdt_mul] at this
    simp only [qdt] at this
    grind
  have d2 : qN s n x * a = qN s n y * (a' * (p' * u' - q' * r')) := by
    have := qdt_mul s n x (a, 0) (t, 1)
    rw [e3, e4, qdt_mul] at this
    simp only [qdt] at this
    grind
  generalize hK : qN s n x * a = K at *
  generalize hK' : qN s n y * a' = K' at *
  generalize hE : p * u - q * r = E at *
  generalize hE' : p' * u' - q' * r' = E' at *
  have d1' : K' = K * E := by rw [d1, ← hK]; grind
  have d2' : K = K' * E' := by rw [d2, ← hK']; grind
  have hKK : 0 < K * K' := by
    have : qN s n x * qN s n y * (a * a') = K * K' := by rw [← hK, ← hK']; grind
    rw [this] at hpos; exact hpos
  have hK0 : K ≠ 0 := fun h0 => by rw [h0, Int.zero_mul] at hKK; omega
  have hEE : E * E' = 1 := by
    have : K * (E * E') = K * 1 := by rw [Int.mul_one, ← Int.mul_assoc, ← d1', ← d2']
    exact Int.eq_of_mul_eq_mul_left hK0 this
  have hEpos : 0 < E := by
    rw [d1', ← Int.mul_assoc] at hKK
    have hsq : 0 < K * K := by
      rcases Int.lt_or_gt_of_ne hK0 with h | h
      · exact Int.mul_pos_of_neg_of_neg h h
      · exact Int.mul_pos h h
    by_cases h : 0 < E
    · exact h
    · have := Int.mul_nonpos_of_nonneg_of_nonpos (Int.le_of_lt hsq) (Int.not_lt.mp h)
      omega
  have hE1 : E = 1 := by
    have := Int.le_of_dvd (by decide : (0 : Int) < 1) ⟨E', hEE.symm⟩
    omega
  have hKe : K' = K := by rw [d1', hE1, Int.mul_one]
  refine ⟨p, q, r, u, by rw [hE, hE1], ?_, ?_, ?_⟩
  · have := congrArg (qN s n) e1
    rw [qN_mul, qN_mul, qN_int] at this
    have h1 : K * a' = K * (a * p * p + (s + 2 * t) * p * r + c * r * r) := by
      have e : qN s n (p * a + r * t, r) = a * (a * p * p + (s + 2 * t) * p * r + c * r * r) := by
        simp only [qN]
        have : r * r * (a * c) = r * r * (t * t + s * t - n) := by rw [hc]
        grind
      rw [e] at this
      calc K * a' = K' * a' := by rw [hKe]
        _ = qN s n y * (a' * a') := by rw [← hK']; grind
        _ = qN s n x * (a * (a * p * p + (s + 2 * t) * p * r + c * r * r)) := this
        _ = K * (a * p * p + (s + 2 * t) * p * r + c * r * r) := by rw [← hK]; grind
    exact Int.eq_of_mul_eq_mul_left hK0 h1
  · have := qB_mul s n y (a', 0) (t', 1)
    rw [e1, e2, qB_mul] at this
    have h1 : K * (s + 2 * t') = K * (2 * a * p * q + (s + 2 * t) * (p * u + q * r) + 2 * c * r * u) := by
      have g1 : qB s n (a', 0) (t', 1) = a' * (s + 2 * t') := by simp only [qB]; grind
      have g2 : qB s n (p * a + r * t, r) (q * a + u * t, u) = a * (2 * a * p * q + (s + 2 * t) * (p * u + q * r) + 2 * c * r * u) := by
        simp only [qB]
        have : r * u * (a * c) = r * u * (t * t + s * t - n) := by rw [hc]
        grind
      rw [g1, g2] at this
      calc K * (s + 2 * t') = K' * (s + 2 * t') := by rw [hKe]
        _ = qN s n y * (a' * (s + 2 * t')) := by rw [← hK']; grind
        _ = qN s n x * (a * (2 * a * p * q + (s + 2 * t) * (p * u + q * r) + 2 * c * r * u)) := this.symm
        _ = K * (2 * a * p * q + (s + 2 * t) * (p * u + q * r) + 2 * c * r * u) := by rw [← hK]; grind
    exact Int.eq_of_mul_eq_mul_left hK0 h1
  · have := congrArg (qN s n) e2
    rw [qN_mul, qN_mul] at this
    have h1 : K * c' = K * (a * q * q + (s + 2 * t) * q * u + c * u * u) := by
      have e : qN s n (q * a + u * t, u) = a * (a * q * q + (s + 2 * t) * q * u + c * u * u) := by
        simp only [qN]
        have : u * u * (a * c) = u * u * (t * t + s * t - n) := by rw [hc]
        grind
      have e' : qN s n (t', 1) = a' * c' := by simp only [qN]; rw [hc']; grind
      rw [e, e'] at this
      calc K * c' = K' * c' := by rw [hKe]
        _ = qN s n y * (a' * c') := by rw [← hK']; grind
        _ = qN s n x * (a * (a * q * q + (s + 2 * t) * q * u + c * u * u)) := this
        _ = K * (a * q * q + (s + 2 * t) * q * u + c * u * u) := by rw [← hK]; grind
    exact Int.eq_of_mul_eq_mul_left hK0 h1
