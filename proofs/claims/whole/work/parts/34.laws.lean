/-! Laws of composition up to proper equivalence -/
def isFm (s n a t c : Int) : Prop := a ≠ 0 ∧ a * c = t * t + s * t - n ∧ prim a (s + 2 * t) c
/-- (a3, t3, c3) is composed of (a1, t1, c1) and (a2, t2, c2) -/
def cmp3 (s n a1 t1 a2 t2 a3 t3 c3 : Int) : Prop := ∃ e p1 p2 q r k1 k2 k : Int, cmpd s n a1 t1 a2 t2 e p1 p2 q r t3 k1 k2 k ∧ a3 = p1 * p2 ∧ c3 = e * k + k1 * k2
theorem cmp3_comm {s n a1 t1 a2 t2 a3 t3 c3 : Int} (h : cmp3 s n a1 t1 a2 t2 a3 t3 c3) : cmp3 s n a2 t2 a1 t1 a3 t3 c3 := by
  obtain ⟨e, p1, p2, q, r, k1, k2, k, ⟨h1, h2, h3, h4, h5, h6, h7⟩, rfl, rfl⟩ := h
  exact ⟨e, p2, p1, q, r, k2, k1, k, ⟨h2, h1, by rw [← h3]; omega, by rw [← h4, Int.mul_comm t2], h6, h5, by rw [h7, Int.mul_comm p1]⟩, Int.mul_comm _ _, by rw [Int.mul_comm k1]⟩
theorem cmp3_fm {s n a1 t1 c1 a2 t2 c2 a3 t3 c3 : Int} (h : cmp3 s n a1 t1 a2 t2 a3 t3 c3) (f1 : isFm s n a1 t1 c1) (f2 : isFm s n a2 t2 c2) : isFm s n a3 t3 c3 := by
  obtain ⟨e, p1, p2, q, r, k1, k2, k, h, rfl, rfl⟩ := h
  have hq1 : p1 ≠ 0 := fun h0 => f1.1 (by rw [h.1, h0, Int.mul_zero])
  have hq2 : p2 ≠ 0 := fun h0 => f2.1 (by rw [h.2.1, h0, Int.mul_zero])
  exact ⟨Int.mul_ne_zero hq1 hq2, cmpd_c h, cmpd_prim h f1.1 f2.1 f1.2.1 f2.2.1 f1.2.2 f2.2.2⟩
/-- the product of the modules -/
theorem cmp3_mm {s n a1 t1 c1 a2 t2 c2 a3 t3 c3 : Int} (h : cmp3 s n a1 t1 a2 t2 a3 t3 c3) (f1 : isFm s n a1 t1 c1) (f2 : isFm s n a2 t2 c2) : ∃ e : Int, e ≠ 0 ∧ e * e * a3 = a1 * a2 ∧ mm s n (qJ a1 t1) (qJ a2 t2) = sc s n (e, 0) (qJ a3 t3) := by
  obtain ⟨e, p1, p2, q, r, k1, k2, k, h, rfl, rfl⟩ := h
  refine ⟨e, fun h0 => f1.1 (by rw [h.1, h0, Int.zero_mul]), ?_, cmpd_eq h f1.1 f2.1 f1.2.1 f2.2.1 f1.2.2 f2.2.2⟩
  rw [h.1, h.2.1]; grind
theorem sq_pos' {x : Int} (h : x ≠ 0) : 0 < x * x := by
  rcases Int.lt_or_gt_of_ne h with h | h
  · exact Int.mul_pos_of_neg_of_neg h h
  · exact Int.mul_pos h h
theorem pos_of_sq {x y : Int} (h : 0 < x * y * (y * y)) (hy : 0 < y * y) : 0 < x * y := by
  by_cases h1 : 0 < x * y
  · exact h1
  · have := Int.mul_nonpos_of_nonpos_of_nonneg (Int.not_lt.mp h1) (Int.le_of_lt hy)
    omega
/-- the product depends on the classes alone -/
theorem cmp3_wd {s n a1 t1 c1 a2 t2 c2 a3 t3 c3 b1 u1 d1 b2 u2 d2 b3 u3 d3 : Int} (h : cmp3 s n a1 t1 a2 t2 a3 t3 c3) (f1 : isFm s n a1 t1 c1) (f2 : isFm s n a2 t2 c2)
    (h' : cmp3 s n b1 u1 b2 u2 b3 u3 d3) (g1 : isFm s n b1 u1 d1) (g2 : isFm s n b2 u2 d2)
    (e1 : fm_eqv a1 (s + 2 * t1) c1 b1 (s + 2 * u1) d1) (e2 : fm_eqv a2 (s + 2 * t2) c2 b2 (s + 2 * u2) d2) : fm_eqv a3 (s + 2 * t3) c3 b3 (s + 2 * u3) d3 := by
  have f3 := cmp3_fm h f1 f2
  have g3 := cmp3_fm h' g1 g2
  obtain ⟨e, he, hae, E⟩ := cmp3_mm h f1 f2
  obtain ⟨e', he', hae', E'⟩ := cmp3_mm h' g1 g2
  obtain ⟨x, x', px, X⟩ := fsim_of f1.1 g1.1 f1.2.1 e1
  obtain ⟨y, y', py, Y⟩ := fsim_of f2.1 g2.1 f2.2.1 e2
  refine fsim_eqv f3.2.1 g3.2.1 ⟨qm s n (qm s n x y) (e, 0), qm s n (qm s n x' y') (e', 0), ?_, ?_⟩
  · simp only [qN_mul, qN_int]
    have : qN s n x * qN s n y * (e * e) * (qN s n x' * qN s n y' * (e' * e')) * (a3 * b3) = (qN s n x * qN s n x' * (a1 * b1)) * (qN s n y * qN s n y' * (a2 * b2)) := by
      have h1 : qN s n x * qN s n y * (e * e) * (qN s n x' * qN s n y' * (e' * e')) * (a3 * b3) = qN s n x * qN s n y * (qN s n x' * qN s n y') * ((e * e * a3) * (e' * e' * b3)) := by grind
      rw [h1, hae, hae']; grind
    rw [this]; exact Int.mul_pos px py
  · rw [← sc_sc, ← E, ← mm_sc2, X, Y, mm_sc2, E', sc_sc]
theorem cmp3_assoc {s n a1 t1 c1 a2 t2 c2 a3 t3 c3 a4 t4 c4 a5 t5 c5 a6 t6 c6 a7 t7 c7 : Int} (f1 : isFm s n a1 t1 c1) (f2 : isFm s n a2 t2 c2) (f3 : isFm s n a3 t3 c3)
    (h12 : cmp3 s n a1 t1 a2 t2 a4 t4 c4) (h43 : cmp3 s n a4 t4 a3 t3 a5 t5 c5) (h23 : cmp3 s n a2 t2 a3 t3 a6 t6 c6) (h16 : cmp3 s n a1 t1 a6 t6 a7 t7 c7) : fm_eqv a5 (s + 2 * t5) c5 a7 (s + 2 * t7) c7 := by
  have f4 := cmp3_fm h12 f1 f2
  have f5 := cmp3_fm h43 f4 f3
  have f6 := cmp3_fm h23 f2 f3
  have f7 := cmp3_fm h16 f1 f6
  obtain ⟨e, he, hae, E⟩ := cmp3_mm h12 f1 f2
  obtain ⟨e', he', hae', E'⟩ := cmp3_mm h43 f4 f3
  obtain ⟨d, hd, had, G⟩ := cmp3_mm h23 f2 f3
  obtain ⟨d', hd', had', G'⟩ := cmp3_mm h16 f1 f6
  refine fsim_eqv f5.2.1 f7.2.1 ⟨(e * e', 0), (d * d', 0), ?_, ?_⟩
  · rw [qN_int, qN_int]
    have h1 : e * e' * (e * e') * (d * d' * (d * d')) * (a5 * a7) = (e * e * (e' * e' * a5)) * (d * d * (d' * d' * a7)) := by grind
    have h2 : e * e * (e' * e' * a5) = a1 * a2 * a3 := by rw [hae', ← hae]; grind
    have h3 : d * d * (d' * d' * a7) = a1 * (a2 * a3) := by rw [had', ← had]; grind
    rw [h1, h2, h3]
    have : a1 * a2 * a3 * (a1 * (a2 * a3)) = (a1 * a2 * a3) * (a1 * a2 * a3) := by grind
    rw [this]
    exact sq_pos' (Int.mul_ne_zero (Int.mul_ne_zero f1.1 f2.1) f3.1)
  · have L : sc s n (e * e', 0) (qJ a5 t5) = mm s n (mm s n (qJ a1 t1) (qJ a2 t2)) (qJ a3 t3) := by
      rw [← qm_int s n e e', ← sc_sc, ← E', ← mm_sc, ← E]
    have M : sc s n (d * d', 0) (qJ a7 t7) = mm s n (qJ a1 t1) (mm s n (qJ a2 t2) (qJ a3 t3)) := by
      rw [← qm_int s n d d', ← sc_sc, ← G', G, mm_comm s n (qJ a1 t1) (sc s n (d, 0) (qJ a6 t6)), mm_sc, mm_comm s n (qJ a6 t6)]
    rw [L, M, mm_assoc]
/-- the principal form is neutral -/
theorem cmp3_one {s n a1 t1 c1 t0 c0 a3 t3 c3 : Int} (f1 : isFm s n a1 t1 c1) (f0 : isFm s n 1 t0 c0) (h : cmp3 s n a1 t1 1 t0 a3 t3 c3) : fm_eqv a3 (s + 2 * t3) c3 a1 (s + 2 * t1) c1 := by
  have f3 := cmp3_fm h f1 f0
  obtain ⟨e, he, hae, E⟩ := cmp3_mm h f1 f0
  have hall : qJ 1 t0 = qAll := pr_ext (fun _ _ => trivial) (fun z _ => Int.one_dvd _)
  rw [hall, mm_all (qJ_mod _ _) (qJ_idl ⟨_, f1.2.1.symm⟩)] at E
  refine fsim_eqv f3.2.1 f1.2.1 ⟨(e, 0), (1, 0), ?_, ?_⟩
  · rw [qN_int, qN_int]
    have : e * e * (1 * 1) * (a3 * a1) = (e * e * a3) * a1 := by grind
    rw [this, hae]
    have : a1 * 1 * a1 = a1 * a1 := by grind
    rw [this]; exact sq_pos' f1.1
  · rw [← E]
    exact pr_ext (fun z hz => ⟨z, hz, (qm_one s n z).symm⟩) (by rintro z ⟨w, hw, rfl⟩; rw [qm_one]; exact hw)
/-- a form and its opposite -/
theorem cmp3_inv {s n a1 t1 c1 t0 c0 a3 t3 c3 : Int} (f1 : isFm s n a1 t1 c1) (f0 : isFm s n 1 t0 c0) (h : cmp3 s n a1 t1 a1 (-s - t1) a3 t3 c3) : fm_eqv a3 (s + 2 * t3) c3 1 (s + 2 * t0) c0 := by
  have f1' : isFm s n a1 (-s - t1) c1 := ⟨f1.1, by rw [f1.2.1]; grind, by obtain ⟨x, y, z, e⟩ := f1.2.2; exact ⟨x, -y, z, by rw [← e]; grind⟩⟩
  have f3 := cmp3_fm h f1 f1'
  obtain ⟨e, he, hae, E⟩ := cmp3_mm h f1 f1'
  have hall : qJ 1 t0 = qAll := pr_ext (fun _ _ => trivial) (fun z _ => Int.one_dvd _)
  rw [mm_conj f1.2.1 f1.2.2] at E
  refine fsim_eqv f3.2.1 f0.2.1 ⟨(e, 0), (a1, 0), ?_, ?_⟩
  · rw [qN_int, qN_int]
    have : e * e * (a1 * a1) * (a3 * 1) = (e * e * a3) * (a1 * a1) := by grind
    rw [this, hae]; exact Int.mul_pos (sq_pos' f1.1) (sq_pos' f1.1)
  · rw [hall, E]
/-- a composed form, by any numbers u, v, w with u p1 + v p2 + w q = 1 -/
theorem cmpd_make {s n a1 t1 c1 a2 t2 c2 e p1 p2 q r u v w : Int} (he : e ≠ 0) (hc1 : a1 * c1 = t1 * t1 + s * t1 - n) (hc2 : a2 * c2 = t2 * t2 + s * t2 - n) (h1 : a1 = e * p1) (h2 : a2 = e * p2) (h3 : s + t1 + t2 = e * q) (h4 : t1 * t2 + n = e * r)
    (hb : u * p1 + v * p2 + w * q = 1) : cmpd s n a1 t1 a2 t2 e p1 p2 q r (u * p1 * t2 + v * p2 * t1 + w * r) (u * (t2 - t1) - w * c1) (v * (t1 - t2) - w * c2) (u * c2 + v * c1) := by
  have r1 : r - q * t1 = -(p1 * c1) := by
    refine Int.eq_of_mul_eq_mul_left he ?_
    have : e * (r - q * t1) = e * r - e * q * t1 := by grind
    rw [this, ← h4, ← h3]
    have : e * -(p1 * c1) = -(a1 * c1) := by rw [h1]; grind
    rw [this, hc1]; grind
  have r2 : r - q * t2 = -(p2 * c2) := by
    refine Int.eq_of_mul_eq_mul_left he ?_
    have : e * (r - q * t2) = e * r - e * q * t2 := by grind
    rw [this, ← h4, ← h3]
    have : e * -(p2 * c2) = -(a2 * c2) := by rw [h2]; grind
    rw [this, hc2]; grind
  have b : ∀ x : Int, x * (u * p1 + v * p2 + w * q) = x := fun x => by rw [hb, Int.mul_one]
  refine ⟨h1, h2, h3, h4, ?_, ?_, ?_⟩
  · have := b t1
    have e3 : w * r = w * (q * t1 - p1 * c1) := by rw [show r = q * t1 - p1 * c1 by omega]
    grind
  · have := b t2
    have e3 : w * r = w * (q * t2 - p2 * c2) := by rw [show r = q * t2 - p2 * c2 by omega]
    grind
  · have := b r
    have e3 : u * p1 * r = u * p1 * (q * t2 - p2 * c2) := by rw [show r = q * t2 - p2 * c2 by omega]
    have e4 : v * p2 * r = v * p2 * (q * t1 - p1 * c1) := by rw [show r = q * t1 - p1 * c1 by omega]
    grind
