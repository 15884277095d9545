/-! compose of the class is a composition of forms -/
def sg (D : Int) : Int := D % 2
def nn (D : Int) : Int := (D - D % 2) / 4
def tt (D b : Int) : Int := (b - D % 2) / 2
/-- h is in the product of the classes of f and g -/
def cmpl (D : Int) (f g h : FT) : Prop := ∃ t3 c3 : Int, cmp3 (sg D) (nn D) f.1 (tt D f.2.1) g.1 (tt D g.2.1) h.1 t3 c3 ∧ fm_eqv h.1 (sg D + 2 * t3) c3 h.1 h.2.1 h.2.2
theorem D_sn {D R : Int} (hO : okD D R) : D = 4 * nn D + sg D ∧ sg D * sg D = sg D ∧ (sg D = 0 ∨ sg D = 1) := by
  have h := hO.1.2.2.1
  unfold nn sg
  rcases Int.emod_two_eq D with q | q
  · refine ⟨by omega, by rw [q]; rfl, Or.inl q⟩
  · refine ⟨by omega, by rw [q]; rfl, Or.inr q⟩
theorem fm_of {D R : Int} (hO : okD D R) {f : FT} (hf : okF D f) : isFm (sg D) (nn D) f.1 (tt D f.2.1) f.2.2 ∧ sg D + 2 * tt D f.2.1 = f.2.1 := by
  obtain ⟨h1, h2, h3⟩ := D_sn hO
  have hp := disc_par hf.1
  have hb : sg D + 2 * tt D f.2.1 = f.2.1 := by unfold sg tt; omega
  refine ⟨⟨a_ne hO.1.2.2.2 hf.1, ?_, by rw [hb]; exact hf.2.1⟩, hb⟩
  have hd := hf.1
  simp only [fdisc] at hd
  generalize tt D f.2.1 = t at *
  rw [← hb] at hd
  have e : (sg D + 2 * t) * (sg D + 2 * t) = sg D * sg D + 4 * (t * t + sg D * t) := by grind
  rw [e, h2] at hd
  have e2 : 4 * f.1 * f.2.2 = 4 * (f.1 * f.2.2) := by grind
  omega
theorem cmpl_wd {D R : Int} (hO : okD D R) {f g h f' g' h' : FT} (hf : okF D f) (hg : okF D g) (hf' : okF D f') (hg' : okF D g') (c : cmpl D f g h) (c' : cmpl D f' g' h') (e1 : fm_eqv f.1 f.2.1 f.2.2 f'.1 f'.2.1 f'.2.2) (e2 : fm_eqv g.1 g.2.1 g.2.2 g'.1 g'.2.1 g'.2.2) : fm_eqv h.1 h.2.1 h.2.2 h'.1 h'.2.1 h'.2.2 := by
  obtain ⟨t3, c3, q1, q2⟩ := c
  obtain ⟨t3', c3', q1', q2'⟩ := c'
  have F1 := fm_of hO hf
  have G1 := fm_of hO hg
  have F2 := fm_of hO hf'
  have G2 := fm_of hO hg'
  have := cmp3_wd q1 F1.1 G1.1 q1' F2.1 G2.1 (by rw [F1.2, F2.2]; exact e1) (by rw [G1.2, G2.2]; exact e2)
  exact fm_trans (fm_trans (fm_symm q2) this) q2'
theorem tdiv_ex {x e p : Int} (he : e ≠ 0) (h : x = e * p) : x.tdiv e = p := by rw [h, Int.mul_tdiv_cancel_left _ he]
theorem compose_s (F : Nat) (hF : 1000000 ≤ F) {D R : Int} (hO : okD D R) {f g : FT} (hf : okF D f) (hg : okF D g) (ba1 : bd 1023 f.1) (bb1 : bd 1023 f.2.1) (ba2 : bd 1023 g.1) (bb2 : bd 1023 g.2.1) (zg z1 z2 : Int64) :
    ∃ (h : FT) (x y z : Int64), f_compose F (i3 D) (i6 f.1) (i6 f.2.1) (i6 f.2.2) (i6 g.1) (i6 g.2.1) (i6 g.2.2) zg z1 z2 = some (i6 h.1, i6 h.2.1, i6 h.2.2, x, y, z) ∧ okF D h ∧ Bd h ∧ cmpl D f g h := by
  obtain ⟨hD0, hss, hs01⟩ := D_sn hO
  have hD1 := hO.1.1; have hD2 := hO.1.2.1
  obtain ⟨⟨na1, hc1, hp1⟩, hb1⟩ := fm_of hO hf
  obtain ⟨⟨na2, hc2, hp2⟩, hb2⟩ := fm_of hO hg
  have hdf := hf.1
  have hdg := hg.1
  have hpos1 := hf.2.2
  have hpos2 := hg.2.2
  have IFf : isFm (sg D) (nn D) f.1 (tt D f.2.1) f.2.2 := ⟨na1, hc1, hp1⟩
  have IFg : isFm (sg D) (nn D) g.1 (tt D g.2.1) g.2.2 := ⟨na2, hc2, hp2⟩
  unfold cmpl
  generalize tt D f.2.1 = t1 at *
  generalize tt D g.2.1 = t2 at *
  generalize hs : sg D = s at *
  generalize hn : nn D = n at *
  obtain ⟨a1, b1, c1⟩ := f
  obtain ⟨a2, b2, c2⟩ := g
  simp only at *
  have a1l := ba1.1; have a1u := ba1.2; have b1l := bb1.1; have b1u := bb1.2
  have a2l := ba2.1; have a2u := ba2.2; have b2l := bb2.1; have b2u := bb2.2
  -- the two solutions
  obtain ⟨p, q, S1, S1e, pb, qb⟩ := solve_s F hF (x := a1) (y := a2) (by unfold ab; omega) (by unfold ab; omega)
  have hm : b1 + b2 = 2 * (s + t1 + t2) := by omega
  have hg0 : (Int.gcd a1 a2 : Int) ≤ 1023 := by
    have := Int.gcd_le_natAbs_left (a := a1) (b := a2) na1
    omega
  obtain ⟨u', w, S2, S2e, ub, wb⟩ := solve_s F hF (x := (Int.gcd a1 a2 : Nat)) (y := s + t1 + t2) (by unfold ab; omega) (by unfold ab; omega)
  have d0 : ((Int.gcd (Int.gcd a1 a2 : Nat) (s + t1 + t2) : Nat) : Int) ∣ (Int.gcd a1 a2 : Nat) := Int.gcd_dvd_left _ _
  have dm : ((Int.gcd (Int.gcd a1 a2 : Nat) (s + t1 + t2) : Nat) : Int) ∣ (s + t1 + t2) := Int.gcd_dvd_right _ _
  have da1 := Int.dvd_trans d0 (Int.gcd_dvd_left a1 a2)
  have da2 := Int.dvd_trans d0 (Int.gcd_dvd_right a1 a2)
  have hgne : Int.gcd a1 a2 ≠ 0 := fun h => by rw [Int.gcd_eq_zero_iff] at h; exact na1 h.1
  have he0 : (0 : Int) < ((Int.gcd (Int.gcd a1 a2 : Nat) (s + t1 + t2) : Nat) : Int) := by
    have h2 := Int.gcd_pos_of_ne_zero_left (s + t1 + t2) (show ((Int.gcd a1 a2 : Nat) : Int) ≠ 0 by omega)
    omega
  have he1 : ((Int.gcd (Int.gcd a1 a2 : Nat) (s + t1 + t2) : Nat) : Int) ≤ 1023 := by
    have := Int.le_of_dvd (by omega) d0
    omega
  unfold f_compose
  rw [S1]
  simp only [Option.bind_some]
  have em : (i6 b1 + i6 b2) / 2 = i6 (s + t1 + t2) := by
    rw [i6_add, c2_s, (i6_div (a := b1 + b2) (b := 2) ⟨by omega, by omega⟩ ⟨by decide, by decide⟩ (by decide) (by omega)).1, tdiv_ex (by decide) hm]
  rw [em, S2]
  simp only [Option.bind_some]
  generalize ((Int.gcd (Int.gcd a1 a2 : Nat) (s + t1 + t2) : Nat) : Int) = e at *
  obtain ⟨p1, hp1e⟩ := da1
  obtain ⟨p2, hp2e⟩ := da2
  obtain ⟨q0, hq0⟩ := dm
  have ne : ¬ i6 e = 0 := fun h => by have := (d_eq0 (a := e) ⟨by omega, by omega⟩).mp h; omega
  have nle : ¬ lg_cmp (i6 e) 0 = 0 := fun h => by have := (l_eq0 (a := e) ⟨by omega, by omega⟩).mp h; omega
  have hr : t1 * t2 + n = e * (t1 * q0 - p1 * c1) := by
    have h1 : n = t1 * t1 + s * t1 - a1 * c1 := by omega
    have h2 : e * (t1 * q0 - p1 * c1) = t1 * (e * q0) - (e * p1) * c1 := by grind
    rw [h2, ← hq0, ← hp1e, h1]; grind
  have hbz : u' * p * p1 + u' * q * p2 + w * q0 = 1 := by
    have h1 : e * (u' * p * p1 + u' * q * p2 + w * q0) = e * 1 := by
      have h2 : e * (u' * p * p1 + u' * q * p2 + w * q0) = u' * (p * (e * p1) + q * (e * p2)) + w * (e * q0) := by grind
      rw [h2, ← hp1e, ← hp2e, ← hq0, S1e, S2e, Int.mul_one]
    exact Int.eq_of_mul_eq_mul_left (by omega) h1
  have CM := cmpd_make (by omega) hc1 hc2 hp1e hp2e hq0 hr hbz
  generalize hT : u' * p * p1 * t2 + u' * q * p2 * t1 + w * (t1 * q0 - p1 * c1) = T at CM
  generalize (u' * p * (t2 - t1) - w * c1) = k1 at CM
  generalize (u' * q * (t1 - t2) - w * c2) = k2 at CM
  generalize (u' * p * c2 + u' * q * c1) = k at CM
  have C3 : cmp3 s n a1 t1 a2 t2 (p1 * p2) T (e * k + k1 * k2) := ⟨e, p1, p2, q0, _, k1, k2, k, CM, rfl, rfl⟩
  have IF3 := cmp3_fm C3 IFf IFg
  -- the numerator
  have hY : b1 * b2 + D = 2 * (s * (s + t1 + t2) + 2 * (t1 * t2 + n)) := by
    rw [← hb1, ← hb2, hD0]
    have : s * (s + t1 + t2) = s + s * t1 + s * t2 := by
      have : s * (s + t1 + t2) = s * s + s * t1 + s * t2 := by grind
      rw [this, hss]
    rw [this]
    have e3 : (s + 2 * t1) * (s + 2 * t2) = s * s + 2 * (s * t1) + 2 * (s * t2) + 4 * (t1 * t2) := by grind
    rw [e3, hss]; omega
  have hX : u' * p * a1 * b2 + u' * q * a2 * b1 + w * (s * (s + t1 + t2) + 2 * (t1 * t2 + n)) = e * (s + 2 * T) := by
    rw [hr, hq0, hp1e, hp2e, ← hb1, ← hb2, ← hT]
    have h1 : e * (s * (u' * p * p1 + u' * q * p2 + w * q0)) = e * s := by rw [hbz, Int.mul_one]
    grind
  have bp1 : bd 1023 p1 := by
    have h1 : ab a1 = ab e * ab p1 := by rw [hp1e, ab_mul]
    have h2 : 1 * ab p1 ≤ ab e * ab p1 := Int.mul_le_mul_of_nonneg_right (by unfold ab; omega) (ab_nn p1)
    exact ab_bd.mp (by have : ab a1 ≤ 1023 := ab_bd.mpr ⟨a1l, a1u⟩; omega)
  have bp2 : bd 1023 p2 := by
    have h1 : ab a2 = ab e * ab p2 := by rw [hp2e, ab_mul]
    have h2 : 1 * ab p2 ≤ ab e * ab p2 := Int.mul_le_mul_of_nonneg_right (by unfold ab; omega) (ab_nn p2)
    exact ab_bd.mp (by have : ab a2 ≤ 1023 := ab_bd.mpr ⟨a2l, a2u⟩; omega)
  have bA := mul_bd bp1 bp2 (by decide) (by decide)
  have u1 := ab_bd.mp ub; have w1 := ab_bd.mp wb; have p1' := ab_bd.mp pb; have q1' := ab_bd.mp qb
  have bX1 := mul_bd (mul_bd (mul_bd u1 p1' (by decide) (by decide)) ⟨a1l, a1u⟩ (by decide) (by decide)) ⟨b2l, b2u⟩ (by decide) (by decide)
  have bX2 := mul_bd (mul_bd (mul_bd u1 q1' (by decide) (by decide)) ⟨a2l, a2u⟩ (by decide) (by decide)) ⟨b1l, b1u⟩ (by decide) (by decide)
  have bbb := mul_bd (x := b1) (y := b2) ⟨b1l, b1u⟩ ⟨b2l, b2u⟩ (by decide) (by decide)
  have bY : bd 2000000 (s * (s + t1 + t2) + 2 * (t1 * t2 + n)) := ⟨by have := bbb.1; omega, by have := bbb.2; omega⟩
  have bX3 := mul_bd w1 bY (by decide) (by decide)
  have hXr : bd 100000000000000 (e * (s + 2 * T)) := by
    rw [← hX]
    exact ⟨by have := bX1.1; have := bX2.1; have := bX3.1; omega, by have := bX1.2; have := bX2.2; have := bX3.2; omega⟩
  have hBr : bd 100000000000000 (s + 2 * T) := by
    have h1 : ab (e * (s + 2 * T)) ≤ 100000000000000 := ab_bd.mpr hXr
    rw [ab_mul] at h1
    have h2 : 1 * ab (s + 2 * T) ≤ ab e * ab (s + 2 * T) := Int.mul_le_mul_of_nonneg_right (by unfold ab; omega) (ab_nn _)
    exact ab_bd.mp (by omega)
  have xl := hXr.1; have xu := hXr.2; have tl := hBr.1; have tu := hBr.2; have al := bA.1; have au := bA.2
  have e1 : i6 a1 / i6 e = i6 p1 := by rw [(i6_div (a := a1) (b := e) ⟨by omega, by omega⟩ ⟨by omega, by omega⟩ (by omega) (by omega)).1, tdiv_ex (by omega) hp1e]
  have e2 : i6 a2 / i6 e = i6 p2 := by rw [(i6_div (a := a2) (b := e) ⟨by omega, by omega⟩ ⟨by omega, by omega⟩ (by omega) (by omega)).1, tdiv_ex (by omega) hp2e]
  have e3 : ((i6 b1 * i6 b2) + (i3 D).toInt64) / 2 = i6 (s * (s + t1 + t2) + 2 * (t1 * t2 + n)) := by
    rw [i6_mul, i36 (a := D) ⟨by omega, by omega⟩, i6_add, c2_s, hY, (i6_div (b := 2) ⟨by have := bY.1; omega, by have := bY.2; omega⟩ ⟨by decide, by decide⟩ (by decide) (by have := bY.1; omega)).1, tdiv_ex (by decide) rfl]
  have hA0 : p1 * p2 ≠ 0 := IF3.1
  rw [if_f nle, i6_mul, i6_mul, e1, e2, i6_mul p1 p2, e3]
  show ∃ (h : FT) (x y z : Int64), (if ¬ i6 e = 0 then (if ¬ i6 e = 0 then (if ¬ i6 e = 0 then bnd (((((i6 (u' * p) * i6 a1) * i6 b2) + ((i6 (u' * q) * i6 a2) * i6 b1)) + (i6 w * i6 (s * (s + t1 + t2) + 2 * (t1 * t2 + n)))) / i6 e) (fun v17_10 => (if (lg_cmp (i6 (p1 * p2)) 0) = 0 then some (i6 a1, i6 b1, i6 c1, i6 e, i6 u', i6 w) else Option.bind (f_absJ F (i6 (p1 * p2))) (fun r_11 => Option.bind (f_fmodJ F v17_10 (2 * r_11)) (fun r_12 => (if ¬ (4 * i6 (p1 * p2)) = 0 then Option.bind (f_Form_set F (i6 (p1 * p2)) r_12 (((r_12 * r_12) - (i3 D).toInt64) / (4 * i6 (p1 * p2)))) (fun (u_a1_13, u_b1_14, u_c1_15) => some (u_a1_13, u_b1_14, u_c1_15, i6 e, i6 u', i6 w)) else none))))) else none) else none) else none) = _ ∧ _
  rw [if_t ne, if_t ne, if_t ne, i6_mul, i6_mul, i6_mul, i6_mul, i6_mul, i6_add, i6_add, hX, (i6_div (a := e * (s + 2 * T)) (b := e) ⟨by omega, by omega⟩ ⟨by omega, by omega⟩ (by omega) (by omega)).1, tdiv_ex (show e ≠ 0 by omega) rfl]
  generalize hAe : p1 * p2 = A at *
  generalize hCe : e * k + k1 * k2 = C at *
  generalize hBe : s + 2 * T = B at *
  have nA : ¬ lg_cmp (i6 A) 0 = 0 := fun h => hA0 ((l_eq0 (a := A) ⟨by omega, by omega⟩).mp h)
  have hmn := Int.emod_nonneg B (show 2 * (A.natAbs : Int) ≠ 0 by omega)
  have hml := Int.emod_lt_of_pos B (show 0 < 2 * (A.natAbs : Int) by omega)
  have n4 : ¬ i6 (4 * A) = 0 := fun h => by have := (d_eq0 (a := 4 * A) ⟨by omega, by omega⟩).mp h; omega
  -- b is like B modulo 2 A
  obtain ⟨j, hj⟩ : ∃ j, B % (2 * (A.natAbs : Int)) = B + 2 * A * j := by
    have h1 := Int.emod_add_mul_ediv B (2 * (A.natAbs : Int))
    rcases Int.lt_or_gt_of_ne hA0 with h | h
    · refine ⟨B / (2 * (A.natAbs : Int)), ?_⟩
      have e4 : (2 * (A.natAbs : Int)) = -(2 * A) := by omega
      rw [e4] at h1 ⊢
      have e5 : -(2 * A) * (B / -(2 * A)) = -(2 * A * (B / -(2 * A))) := by grind
      omega
    · refine ⟨-(B / (2 * (A.natAbs : Int))), ?_⟩
      have e4 : (2 * (A.natAbs : Int)) = 2 * A := by omega
      rw [e4] at h1 ⊢
      have e5 : 2 * A * -(B / (2 * A)) = -(2 * A * (B / (2 * A))) := by grind
      omega
  have hdis : B * B - 4 * A * C = D := by
    have h1 := IF3.2.1
    have h2 : B * B = s * s + 4 * (T * T + s * T) := by rw [← hBe]; grind
    have h3 : 4 * A * C = 4 * (A * C) := by grind
    rw [h2, h3, h1, hss]; omega
  have hform : fm_eqv A B C A (B + 2 * A * j) (A * j * j + B * j + C) := fm_T A B C j
  have hdb := fm_disc hform
  rw [hdis] at hdb
  generalize hb : B % (2 * (A.natAbs : Int)) = b at *
  rw [← hj] at hform hdb
  generalize hc : A * j * j + B * j + C = c at *
  have hbc : b * b - D = 4 * A * c := by omega
  have bbd : bd 2100000 b := ⟨by omega, by omega⟩
  have bbs := sq_le bbd
  have bb0 : 0 ≤ b * b := by
    rcases Int.le_total 0 b with h | h
    · exact Int.mul_nonneg h h
    · exact Int.mul_nonneg_of_nonpos_of_nonpos h h
  have hr4 : r6 (4 * A * c) := by rw [← hbc]; exact ⟨by omega, by omega⟩
  have cb : bd 2147483648 c := by
    have hN : (1 : Int) ≤ (A.natAbs : Int) := by omega
    have hbA : b * b ≤ (2 * (A.natAbs : Int)) * (2 * (A.natAbs : Int)) := Int.mul_le_mul (by omega) (by omega) hmn (by omega)
    have e5 : (2 * (A.natAbs : Int)) * (2 * (A.natAbs : Int)) = 4 * ((A.natAbs : Int) * (A.natAbs : Int)) := by grind
    have e6 : 4 * A * c = 4 * (A * c) := by grind
    have := abs_mul_le (x := A) (y := c) (M := (A.natAbs : Int) * (A.natAbs : Int) + 262145) (by omega) (by omega)
    have h7 : (A.natAbs : Int) * (A.natAbs : Int) ≤ (A.natAbs : Int) * 1100000 := Int.mul_le_mul_of_nonneg_left (by omega) (by omega)
    have h8 : (A.natAbs : Int) * (c.natAbs : Int) ≤ (A.natAbs : Int) * 1400000 := by
      have : (A.natAbs : Int) * 1400000 = (A.natAbs : Int) * 1100000 + (A.natAbs : Int) * 300000 := by grind
      omega
    have := Int.le_of_mul_le_mul_left h8 (by omega)
    exact ⟨by omega, by omega⟩
  refine ⟨(A, b, c), i6 e, i6 u', i6 w, ?_, ⟨hdb, ?_, ?_⟩, ⟨⟨by simp only; omega, by simp only; omega⟩, ⟨by simp only; omega, by simp only; omega⟩, cb⟩, T, C, C3, by rw [hBe]; exact hform⟩
  · show (if (lg_cmp (i6 A) 0) = 0 then some (i6 a1, i6 b1, i6 c1, i6 e, i6 u', i6 w) else Option.bind (f_absJ F (i6 A)) (fun r_11 => Option.bind (f_fmodJ F (i6 B) (2 * r_11)) (fun r_12 => (if ¬ (4 * i6 A) = 0 then Option.bind (f_Form_set F (i6 A) r_12 (((r_12 * r_12) - (i3 D).toInt64) / (4 * i6 A))) (fun (u_a1_13, u_b1_14, u_c1_15) => some (u_a1_13, u_b1_14, u_c1_15, i6 e, i6 u', i6 w)) else none)))) = _
    rw [if_f nA, absJ_s F ⟨by omega, by omega⟩]
    simp only [Option.bind_some]
    rw [c2_s, i6_mul, fmodJ_s F ⟨by omega, by omega⟩ ⟨by omega, by omega⟩ (by omega), hb]
    simp only [Option.bind_some]
    rw [c4_s, i6_mul, if_t n4, i6_mul, i36 (a := D) ⟨by omega, by omega⟩, i6_sub, hbc, (i6_div (a := 4 * A * c) (b := 4 * A) hr4 ⟨by omega, by omega⟩ (by omega) (by omega)).1, Int.mul_tdiv_cancel_left _ (show 4 * A ≠ 0 by omega)]
    rfl
  · exact fm_prim hform (by rw [← hBe]; exact IF3.2.2)
  · intro hneg
    have q1 := hpos1 hneg
    have q2 := hpos2 hneg
    have r1 : 0 < p1 := by
      by_cases h : 0 < p1
      · exact h
      · have := Int.mul_nonpos_of_nonneg_of_nonpos (show 0 ≤ e by omega) (Int.not_lt.mp h); omega
    have r2 : 0 < p2 := by
      by_cases h : 0 < p2
      · exact h
      · have := Int.mul_nonpos_of_nonneg_of_nonpos (show 0 ≤ e by omega) (Int.not_lt.mp h); omega
    show 0 < A
    rw [← hAe]; exact Int.mul_pos r1 r2
