/-! The reference: products and inverses -/
theorem mbeName_s (F : Nat) {D R : Int} (hO : okD D R) {N : Nat} {gm : Nat → FT} {Bf Bm : Nat → Int32} (hT : isTb D R N gm Bf Bm) {cl : Nat} {fm : Nat → FT} {Bk Bn : Nat → Int32} (hG : isGt cl fm N gm Bk Bn) (hcl : cl ≤ 1908) {k : Nat} (hk : k < cl) : f_m_beName F (i6 D) Bf Bm Bn (i3 (k : Int)) = some (i6 (fm k).1, i6 (fm k).2.1, i6 (fm k).2.2) ∧ isRf D R (fm k) := by
  have hNN := tb_few hO hT
  obtain ⟨q, hq, q1, q2⟩ := hG.2 k hk
  have hrf : isRf D R (fm k) := by rw [← q2]; exact (hT.2.2 _).mpr ⟨q, hq, rfl⟩
  have hb := rf_bd hO hrf
  have := hb.1.1; have := hb.1.2; have := hb.2.1.1; have := hb.2.1.2
  refine ⟨?_, hrf⟩
  have hBn : Bn (i3 (k : Int)).toNatClampNeg = i3 (q : Int) := by rw [nn_n (by omega)]; exact q1
  have hBf : (Bf (i3 (q : Int)).toNatClampNeg).toInt64 = i6 (fm k).1 := by rw [nn_n (by omega), (hT.1 q hq).1, q2, i36 ⟨by omega, by omega⟩]
  have hBm : (Bm (i3 (q : Int)).toNatClampNeg).toInt64 = i6 (fm k).2.1 := by rw [nn_n (by omega), (hT.1 q hq).2, q2, i36 ⟨by omega, by omega⟩]
  have hd : (fm k).2.1 * (fm k).2.1 - 4 * (fm k).1 * (fm k).2.2 = D := hrf.1.1
  unfold f_m_beName
  rw [if_t (nn_v (by omega) (by omega)), hBn, if_t (nn_v (by omega) (by omega)), if_t (nn_v (by omega) (by omega)), if_t (nn_v (by omega) (by omega)), hBf, hBm, mbe_s F ⟨by have := hO.1.1; omega, by have := hO.1.2.1; omega⟩ ⟨by omega, by omega⟩ (a_ne hO.1.2.2.2 hrf.1.1) ⟨by omega, by omega⟩ (by omega : (fm k).2.1 * (fm k).2.1 - D = 4 * (fm k).1 * (fm k).2.2)]
  rfl
theorem tmod_dvd {x m : Int} : x.tmod m = 0 ↔ m ∣ x := ⟨Int.dvd_of_tmod_eq_zero, fun h => Int.tmod_eq_zero_of_dvd h⟩
theorem tmod_bd {x m M : Int} (hm : bd M m) (h0 : m ≠ 0) : bd M (x.tmod m) := by
  have h3 := Int.natAbs_tmod x m
  have h4 : x.natAbs % m.natAbs < m.natAbs := Nat.mod_lt _ (by omega)
  have := hm.1; have := hm.2
  constructor <;> omega
theorem mtL_s (F : Nat) {b1 b2 q0 e p1 p2 v : Int} (hb1 : bd 1023 b1) (hb2 : bd 1023 b2) (he : 0 < e) (he1 : e ≤ 1023) (hq : bd 1023 q0) (hqe : bd 2046 (e * q0)) (hp1 : bd 1023 p1) (hp2 : bd 1023 p2) (h10 : p1 ≠ 0) (h20 : p2 ≠ 0) (hA : bd 1046529 (p1 * p2)) (hA0 : p1 * p2 ≠ 0) (hv : bd 8388608 v) {j : Nat} (hj : j ≤ 1023) (hs : 2 * p2 ∣ b1 + 2 * (p1.natAbs : Int) * j - b2 ∧ 2 * (p1 * p2) ∣ q0 * (b1 + 2 * (p1.natAbs : Int) * j) - v) : ∀ (d i n : Nat), i + d = j → d + 1 ≤ n →
    ∃ i', i' ≤ j ∧ (2 * p2 ∣ b1 + 2 * (p1.natAbs : Int) * i' - b2 ∧ 2 * (p1 * p2) ∣ q0 * (b1 + 2 * (p1.natAbs : Int) * i') - v) ∧ f_m_times_L111 F (i6 b2) (i6 (e * q0)) (i6 e) (i6 (p1 * p2)) (i6 v) (i6 (2 * p1)) (i6 (2 * p2)) n (i6 (b1 + 2 * (p1.natAbs : Int) * i)) = some (i6 (b1 + 2 * (p1.natAbs : Int) * i')) := by
  have := hb1.1; have := hb1.2; have := hb2.1; have := hb2.2; have := hp1.1; have := hp1.2; have := hp2.1; have := hp2.2; have := hA.1; have := hA.2; have := hv.1; have := hv.2; have := hqe.1; have := hqe.2
  have n17 : ¬ i6 (2 * p2) = 0 := fun q => by have := (d_eq0 (a := 2 * p2) ⟨by omega, by omega⟩).mp q; omega
  have n9 : ¬ i6 e = 0 := fun q => by have := (d_eq0 (a := e) ⟨by omega, by omega⟩).mp q; omega
  have n2 : ¬ i6 (2 * (p1 * p2)) = 0 := fun q => by have := (d_eq0 (a := 2 * (p1 * p2)) ⟨by omega, by omega⟩).mp q; omega
  have hdiv : i6 (e * q0) / i6 e = i6 q0 := by rw [(i6_div (a := e * q0) (b := e) ⟨by omega, by omega⟩ ⟨by omega, by omega⟩ (by omega) (by omega)).1, Int.mul_tdiv_cancel_left _ (by omega)]
  have yb : ∀ i : Nat, i ≤ 1024 → bd 2200000 (b1 + 2 * (p1.natAbs : Int) * i) := by
    intro i hi
    have h1 : (p1.natAbs : Int) * i ≤ 1023 * 1024 := Int.mul_le_mul (by omega) (by omega) (by omega) (by omega)
    have h2 : 0 ≤ (p1.natAbs : Int) * i := Int.mul_nonneg (by omega) (by omega)
    rw [Int.mul_assoc]
    constructor <;> omega
  intro d
  induction d with
  | zero =>
    intro i n hi hn
    obtain ⟨n', rfl⟩ : ∃ n', n = n' + 1 := ⟨n - 1, by omega⟩
    have : i = j := by omega
    subst this
    have hy := yb i (by omega)
    refine ⟨i, Nat.le_refl _, hs, ?_⟩
    generalize b1 + 2 * (p1.natAbs : Int) * i = y at *
    have := hy.1; have := hy.2
    have hqy := mul_bd hq hy (by decide) (by decide)
    have := hqy.1; have := hqy.2
    rw [f_m_times_L111, if_t n17, i6_sub, i6_rem (a := y - b2) (b := 2 * p2) ⟨by omega, by omega⟩ ⟨by omega, by omega⟩ (by omega) (by omega), tmod_dvd.mpr hs.1, if_t (by decide), if_t n9, c2_s, i6_mul, if_t n2, hdiv, i6_mul, i6_sub, i6_rem (a := q0 * y - v) (b := 2 * (p1 * p2)) ⟨by omega, by omega⟩ ⟨by omega, by omega⟩ (by omega) (by omega), tmod_dvd.mpr hs.2, if_t (by decide)]
  | succ d ih =>
    intro i n hi hn
    obtain ⟨n', rfl⟩ : ∃ n', n = n' + 1 := ⟨n - 1, by omega⟩
    have hy := yb i (by omega)
    obtain ⟨i', k1, k2, k3⟩ := ih (i + 1) n' (by omega) (by omega)
    have eS : ∀ x : Option Int64, x = some (i6 (b1 + 2 * (p1.natAbs : Int) * i)) ∨ x = f_m_times_L111 F (i6 b2) (i6 (e * q0)) (i6 e) (i6 (p1 * p2)) (i6 v) (i6 (2 * p1)) (i6 (2 * p2)) n' (i6 (b1 + 2 * (p1.natAbs : Int) * (i + 1 : Nat))) → True := fun _ _ => trivial
    have hsz : f_m_size F (i6 (2 * p1)) = some (i6 (2 * (p1.natAbs : Int))) := by
      rw [msize_s F (a := 2 * p1) ⟨by omega, by omega⟩ (by omega)]; congr 2; omega
    have enext : i6 (b1 + 2 * (p1.natAbs : Int) * i) + i6 (2 * (p1.natAbs : Int)) = i6 (b1 + 2 * (p1.natAbs : Int) * (i + 1 : Nat)) := by
      rw [i6_add]; congr 1; push_cast; grind
    by_cases c1 : 2 * p2 ∣ b1 + 2 * (p1.natAbs : Int) * i - b2
    · by_cases c2 : 2 * (p1 * p2) ∣ q0 * (b1 + 2 * (p1.natAbs : Int) * i) - v
      · refine ⟨i, by omega, ⟨c1, c2⟩, ?_⟩
        generalize b1 + 2 * (p1.natAbs : Int) * i = y at *
        have := hy.1; have := hy.2
        have hqy := mul_bd hq hy (by decide) (by decide)
        have := hqy.1; have := hqy.2
        rw [f_m_times_L111, if_t n17, i6_sub, i6_rem (a := y - b2) (b := 2 * p2) ⟨by omega, by omega⟩ ⟨by omega, by omega⟩ (by omega) (by omega), tmod_dvd.mpr c1, if_t (by decide), if_t n9, c2_s, i6_mul, if_t n2, hdiv, i6_mul, i6_sub, i6_rem (a := q0 * y - v) (b := 2 * (p1 * p2)) ⟨by omega, by omega⟩ ⟨by omega, by omega⟩ (by omega) (by omega), tmod_dvd.mpr c2, if_t (by decide)]
      · refine ⟨i', k1, k2, ?_⟩
        rw [← k3]
        rw [← enext]
        generalize b1 + 2 * (p1.natAbs : Int) * i = y at *
        have := hy.1; have := hy.2
        have hqy := mul_bd hq hy (by decide) (by decide)
        have := hqy.1; have := hqy.2
        have htm := tmod_bd (x := q0 * y - v) (m := 2 * (p1 * p2)) (M := 2093058) ⟨by omega, by omega⟩ (by omega)
        have := htm.1; have := htm.2
        conv => lhs; rw [f_m_times_L111, if_t n17, i6_sub, i6_rem (a := y - b2) (b := 2 * p2) ⟨by omega, by omega⟩ ⟨by omega, by omega⟩ (by omega) (by omega), tmod_dvd.mpr c1, if_t (by decide), if_t n9, c2_s, i6_mul, if_t n2, hdiv, i6_mul, i6_sub, i6_rem (a := q0 * y - v) (b := 2 * (p1 * p2)) ⟨by omega, by omega⟩ ⟨by omega, by omega⟩ (by omega) (by omega), if_f (fun q => c2 (tmod_dvd.mp ((l_eq0 (a := (q0 * y - v).tmod (2 * (p1 * p2))) ⟨by omega, by omega⟩).mp q))), hsz]
        rfl
    · refine ⟨i', k1, k2, ?_⟩
      rw [← k3]
      rw [← enext]
      generalize b1 + 2 * (p1.natAbs : Int) * i = y at *
      have := hy.1; have := hy.2
      have htm := tmod_bd (x := y - b2) (m := 2 * p2) (M := 2046) ⟨by omega, by omega⟩ (by omega)
      have := htm.1; have := htm.2
      conv => lhs; rw [f_m_times_L111, if_t n17, i6_sub, i6_rem (a := y - b2) (b := 2 * p2) ⟨by omega, by omega⟩ ⟨by omega, by omega⟩ (by omega) (by omega), if_f (fun q => c1 (tmod_dvd.mp ((l_eq0 (a := (y - b2).tmod (2 * p2)) ⟨by omega, by omega⟩).mp q))), hsz]
      rfl
theorem small_c {A y D c : Int} (hA : 1 ≤ A) (hA2 : A ≤ 1046529) (hy : bd (1023 + 2 * A) y) (hD : bd 1048576 D) {a : Int} (ha : (a.natAbs : Int) = A) (h : y * y - D = 4 * a * c) : bd 2147483648 c := by
  have h1 := mul_bd hy hy (by omega) (by omega)
  have e1 : (1023 + 2 * A) * (1023 + 2 * A) = 1046529 + 4092 * A + 4 * (A * A) := by grind
  rw [e1] at h1
  have h2 : A * A ≤ 1046529 * A := Int.mul_le_mul_of_nonneg_right hA2 (by omega)
  have := h1.1; have := h1.2; have := hD.1; have := hD.2
  have hc : c.natAbs ≤ 1571329 := by
    apply Decidable.byContradiction
    intro hh
    have h3 : ((4 * a * c).natAbs : Int) = 4 * (A * (c.natAbs : Int)) := by
      rw [Int.natAbs_mul, Int.natAbs_mul]
      push_cast
      rw [← ha]
      grind
    have h4 : A * 1571330 ≤ A * (c.natAbs : Int) := Int.mul_le_mul_of_nonneg_left (by omega) (by omega)
    rw [← h] at h3
    omega
  constructor <;> omega
theorem mtimes_s (F : Nat) (hF : 10000000 ≤ F) {D R : Int} (hO : okD D R) {mw : Int64} (hw : isMw D R mw) {N : Nat} {gm : Nat → FT} {Bf Bm : Nat → Int32} (hT : isTb D R N gm Bf Bm) {cl : Nat} {fm : Nat → FT} {Bk Bn : Nat → Int32} (hG : isGt cl fm N gm Bk Bn) (hcl : cl ≤ 1908) {i j : Nat} (hi : i < cl) (hj : j < cl) :
    ∃ (k : Nat) (x y z : Int64), isPd D cl fm i j k ∧ f_m_times F (i6 D) mw (i3 N) Bf Bm Bk Bn (i3 (i : Int)) (i3 (j : Int)) = some (i3 (k : Int), x, y, z) := by
  obtain ⟨hD0, hss, hs01⟩ := D_sn hO
  have hD1 := hO.1.1; have hD2 := hO.1.2.1
  obtain ⟨n1, r1⟩ := mbeName_s F hO hT hG hcl hi
  obtain ⟨n2, r2⟩ := mbeName_s F hO hT hG hcl hj
  unfold f_m_times
  rw [n1]
  simp only [Option.bind_some]
  rw [n2]
  simp only [Option.bind_some]
  have IFf := (fm_of hO r1.1).1
  have IFg := (fm_of hO r2.1).1
  obtain ⟨⟨na1, hc1, hp1⟩, hb1⟩ := fm_of hO r1.1
  obtain ⟨⟨na2, hc2, hp2⟩, hb2⟩ := fm_of hO r2.1
  obtain ⟨ba1, bb1, -⟩ := rf_bd hO r1
  obtain ⟨ba2, bb2, -⟩ := rf_bd hO r2
  have hpos1 := r1.1.2.2
  have hpos2 := r2.1.2.2
  have hgoal : ∀ (k : Nat), isPd D cl fm i j k ↔ (k < cl ∧ ∃ h : FT, okF D h ∧ cmpl D (fm i) (fm j) h ∧ fm_eqv h.1 h.2.1 h.2.2 (fm k).1 (fm k).2.1 (fm k).2.2) := fun k => Iff.rfl
  simp only [hgoal, cmpl]
  generalize tt D (fm i).2.1 = t1 at *
  generalize tt D (fm j).2.1 = t2 at *
  generalize hs : sg D = s at *
  generalize hn : nn D = n at *
  generalize (fm i).1 = a1 at *
  generalize (fm i).2.1 = b1 at *
  generalize (fm i).2.2 = c1 at *
  generalize (fm j).1 = a2 at *
  generalize (fm j).2.1 = b2 at *
  generalize (fm j).2.2 = c2 at *
  have a1l := ba1.1; have a1u := ba1.2; have b1l := bb1.1; have b1u := bb1.2
  have a2l := ba2.1; have a2u := ba2.2; have b2l := bb2.1; have b2u := bb2.2
  have hm : b1 + b2 = 2 * (s + t1 + t2) := by omega
  have em : (i6 b1 + i6 b2) / 2 = i6 (s + t1 + t2) := by
    rw [i6_add, c2_s, (i6_div (a := b1 + b2) (b := 2) ⟨by omega, by omega⟩ ⟨by decide, by decide⟩ (by decide) (by omega)).1, tdiv_ex (by decide) hm]
  have hg0 : (Int.gcd a1 a2 : Int) ≤ 1023 := by
    have := Int.gcd_le_natAbs_left (a := a1) (b := a2) na1
    omega
  rw [em, mcom_s F (a := a1) (b := a2) ⟨by omega, by omega⟩ ⟨by omega, by omega⟩ ⟨by omega, by omega⟩ ⟨by omega, by omega⟩ (by omega)]
  simp only [Option.bind_some, bnd]
  rw [mcom_s F (a := ((Int.gcd a1 a2 : Nat) : Int)) (b := s + t1 + t2) ⟨by omega, by omega⟩ ⟨by omega, by omega⟩ ⟨by omega, by omega⟩ ⟨by omega, by omega⟩ (by omega)]
  simp only [Option.bind_some]
  obtain ⟨pp, qq, S1e⟩ := bezI a1 a2
  obtain ⟨u', w, S2e⟩ := bezI (Int.gcd a1 a2 : Nat) (s + t1 + t2)
  have d0 : ((Int.gcd (Int.gcd a1 a2 : Nat) (s + t1 + t2) : Nat) : Int) ∣ (Int.gcd a1 a2 : Nat) := Int.gcd_dvd_left _ _
  have dm : ((Int.gcd (Int.gcd a1 a2 : Nat) (s + t1 + t2) : Nat) : Int) ∣ (s + t1 + t2) := Int.gcd_dvd_right _ _
  have da1 := Int.dvd_trans d0 (Int.gcd_dvd_left a1 a2)
  have da2 := Int.dvd_trans d0 (Int.gcd_dvd_right a1 a2)
  have hgne : Int.gcd a1 a2 ≠ 0 := fun h => by rw [Int.gcd_eq_zero_iff] at h; exact na1 h.1
  have he0 : (0 : Int) < ((Int.gcd (Int.gcd a1 a2 : Nat) (s + t1 + t2) : Nat) : Int) := by
    have h2 := Int.gcd_pos_of_ne_zero_left (s + t1 + t2) (show ((Int.gcd a1 a2 : Nat) : Int) ≠ 0 by omega)
    omega
  have he1 : ((Int.gcd (Int.gcd a1 a2 : Nat) (s + t1 + t2) : Nat) : Int) ≤ 1023 := by
    have := Int.le_of_dvd (by omega) d0
    omega
  generalize ((Int.gcd (Int.gcd a1 a2 : Nat) (s + t1 + t2) : Nat) : Int) = e at *
  obtain ⟨p1, hp1e⟩ := da1
  obtain ⟨p2, hp2e⟩ := da2
  obtain ⟨q0, hq0⟩ := dm
  have ne : ¬ i6 e = 0 := fun h => by have := (d_eq0 (a := e) ⟨by omega, by omega⟩).mp h; omega
  have hr : t1 * t2 + n = e * (t1 * q0 - p1 * c1) := by
    have h1 : n = t1 * t1 + s * t1 - a1 * c1 := by omega
    have h2 : e * (t1 * q0 - p1 * c1) = t1 * (e * q0) - (e * p1) * c1 := by grind
    rw [h2, ← hq0, ← hp1e, h1]; grind
  have hbz : u' * pp * p1 + u' * qq * p2 + w * q0 = 1 := by
    have h1 : e * (u' * pp * p1 + u' * qq * p2 + w * q0) = e * 1 := by
      have h2 : e * (u' * pp * p1 + u' * qq * p2 + w * q0) = u' * (pp * (e * p1) + qq * (e * p2)) + w * (e * q0) := by grind
      rw [h2, ← hp1e, ← hp2e, ← hq0, S1e, S2e, Int.mul_one]
    exact Int.eq_of_mul_eq_mul_left (by omega) h1
  have CM := cmpd_make (by omega) hc1 hc2 hp1e hp2e hq0 hr hbz
  generalize (u' * pp * p1 * t2 + u' * qq * p2 * t1 + w * (t1 * q0 - p1 * c1)) = T0 at CM
  generalize (u' * pp * (t2 - t1) - w * c1) = k1 at CM
  generalize (u' * qq * (t1 - t2) - w * c2) = k2 at CM
  generalize (u' * pp * c2 + u' * qq * c1) = k0 at CM
  obtain ⟨-, -, -, -, m5, m6, m7⟩ := CM
  generalize hrr : t1 * q0 - p1 * c1 = r at *
  have hY : b1 * b2 + D = 2 * (e * (s * q0 + 2 * r)) := by
    have h1 : s * (s + t1 + t2) = s + s * t1 + s * t2 := by
      have : s * (s + t1 + t2) = s * s + s * t1 + s * t2 := by grind
      rw [this, hss]
    have e3 : (s + 2 * t1) * (s + 2 * t2) = s * s + 2 * (s * t1) + 2 * (s * t2) + 4 * (t1 * t2) := by grind
    have h2 : e * (s * q0 + 2 * r) = s * (e * q0) + 2 * (e * r) := by grind
    rw [h2, ← hq0, ← hr, ← hb1, ← hb2, hD0, e3, hss, h1]; omega
  have bp : ∀ {x p : Int}, bd 1023 x → x = e * p → bd 1023 p := by
    intro x p hx hxp
    have h1 : ab x = ab e * ab p := by rw [hxp, ab_mul]
    have h2 : 1 * ab p ≤ ab e * ab p := Int.mul_le_mul_of_nonneg_right (by unfold ab; omega) (ab_nn p)
    exact ab_bd.mp (by have : ab x ≤ 1023 := ab_bd.mpr hx; omega)
  have bp1 := bp ba1 hp1e
  have bp2 := bp ba2 hp2e
  have bq0 : bd 1023 q0 := bp (x := s + t1 + t2) ⟨by omega, by omega⟩ hq0
  have p10 : p1 ≠ 0 := fun h => na1 (by rw [hp1e, h, Int.mul_zero])
  have p20 : p2 ≠ 0 := fun h => na2 (by rw [hp2e, h, Int.mul_zero])
  have bA := mul_bd bp1 bp2 (by decide) (by decide)
  have hA0 : p1 * p2 ≠ 0 := Int.mul_ne_zero p10 p20
  have bbb := mul_bd bb1 bb2 (by decide) (by decide)
  have x1 := bp1.1; have x2 := bp1.2; have x3 := bp2.1; have x4 := bp2.2; have x5 := bA.1; have x6 := bA.2; have x7 := bbb.1; have x8 := bbb.2; have x9 := bq0.1; have x10 := bq0.2
  have bv : bd 8388608 (s * q0 + 2 * r) := by
    have h1 : ab (s * q0 + 2 * r) * ab e = ab (e * (s * q0 + 2 * r)) := by rw [ab_mul, Int.mul_comm]
    have h2 : ab (s * q0 + 2 * r) * 1 ≤ ab (s * q0 + 2 * r) * ab e := Int.mul_le_mul_of_nonneg_left (by unfold ab; omega) (ab_nn _)
    have h3 : ab (e * (s * q0 + 2 * r)) ≤ 8388608 := by unfold ab; omega
    exact ab_bd.mp (by omega)
  have ed1 : i6 a1 / i6 e = i6 p1 := by rw [(i6_div (a := a1) (b := e) ⟨by omega, by omega⟩ ⟨by omega, by omega⟩ (by omega) (by omega)).1, tdiv_ex (by omega) hp1e]
  have ed2 : i6 a2 / i6 e = i6 p2 := by rw [(i6_div (a := a2) (b := e) ⟨by omega, by omega⟩ ⟨by omega, by omega⟩ (by omega) (by omega)).1, tdiv_ex (by omega) hp2e]
  have ev13 : ((i6 b1 * i6 b2 + i6 D) / 2) / i6 e = i6 (s * q0 + 2 * r) := by
    rw [i6_mul, i6_add, c2_s, (i6_div (a := b1 * b2 + D) (b := 2) ⟨by omega, by omega⟩ ⟨by decide, by decide⟩ (by decide) (by omega)).1, tdiv_ex (by decide) hY, (i6_div (a := e * (s * q0 + 2 * r)) (b := e) ⟨by omega, by omega⟩ ⟨by omega, by omega⟩ (by omega) (by omega)).1, Int.mul_tdiv_cancel_left _ (by omega)]
  have ev15 : 2 * i6 a1 / i6 e = i6 (2 * p1) := by
    rw [c2_s, i6_mul, (i6_div (a := 2 * a1) (b := e) ⟨by omega, by omega⟩ ⟨by omega, by omega⟩ (by omega) (by omega)).1, tdiv_ex (p := 2 * p1) (by omega) (by rw [hp1e]; grind)]
  have ev17 : 2 * i6 a2 / i6 e = i6 (2 * p2) := by
    rw [c2_s, i6_mul, (i6_div (a := 2 * a2) (b := e) ⟨by omega, by omega⟩ ⟨by omega, by omega⟩ (by omega) (by omega)).1, tdiv_ex (p := 2 * p2) (by omega) (by rw [hp2e]; grind)]
  -- a solution within the first |p2| steps
  obtain ⟨σ, hσ, hσ2⟩ : ∃ σ : Int, (p1.natAbs : Int) = σ * p1 ∧ σ * σ = 1 := by
    rcases Int.lt_or_gt_of_ne p10 with h | h
    · exact ⟨-1, by omega, rfl⟩
    · exact ⟨1, by omega, rfl⟩
  obtain ⟨τ, hτ⟩ : ∃ τ : Int, (p2.natAbs : Int) = τ * p2 := by
    rcases Int.lt_or_gt_of_ne p20 with h | h
    · exact ⟨-1, by omega⟩
    · exact ⟨1, by omega⟩
  have hPn : (0 : Int) < p2.natAbs := by omega
  have hj0 := Int.emod_nonneg (σ * k1) (show (p2.natAbs : Int) ≠ 0 by omega)
  have hj1 := Int.emod_lt_of_pos (σ * k1) hPn
  have hj2 := Int.mul_ediv_add_emod (σ * k1) (p2.natAbs : Int)
  obtain ⟨J, hJ⟩ : ∃ J : Nat, (J : Int) = (σ * k1) % (p2.natAbs : Int) := ⟨((σ * k1) % (p2.natAbs : Int)).toNat, by omega⟩
  generalize hZ : (σ * k1) / (p2.natAbs : Int) = Z at *
  have hT1 : t1 + (p1.natAbs : Int) * J = T0 - (p1 * p2) * (σ * τ * Z) := by
    have h1 : (J : Int) = σ * k1 - (p2.natAbs : Int) * Z := by omega
    have h2 : T0 = t1 + p1 * k1 := by omega
    rw [h1, h2, hσ, hτ]
    have h3 : σ * p1 * (σ * k1 - τ * p2 * Z) = (σ * σ) * (p1 * k1) - p1 * p2 * (σ * τ * Z) := by grind
    rw [h3, hσ2]; omega
  have hsol : 2 * p2 ∣ b1 + 2 * (p1.natAbs : Int) * J - b2 ∧ 2 * (p1 * p2) ∣ q0 * (b1 + 2 * (p1.natAbs : Int) * J) - (s * q0 + 2 * r) := by
    have e1 : b1 + 2 * (p1.natAbs : Int) * J = s + 2 * (t1 + (p1.natAbs : Int) * J) := by rw [← hb1]; grind
    rw [e1, hT1]
    constructor
    · refine ⟨k2 - p1 * (σ * τ * Z), ?_⟩
      rw [← hb2]
      have : T0 = t2 + p2 * k2 := by omega
      rw [this]; grind
    · refine ⟨k0 - q0 * (σ * τ * Z), ?_⟩
      have h1 : q0 * (s + 2 * (T0 - p1 * p2 * (σ * τ * Z))) - (s * q0 + 2 * r) = 2 * (q0 * T0 - r) - 2 * (p1 * p2) * (q0 * (σ * τ * Z)) := by grind
      rw [h1, m7]; grind
  obtain ⟨i', l1, ⟨l2, l3⟩, l4⟩ := mtL_s F (e := e) bb1 bb2 he0 he1 bq0 (by rw [← hq0]; exact ⟨by omega, by omega⟩) bp1 bp2 p10 p20 bA hA0 bv (j := J) (by omega) hsol J 0 F (by omega) (by omega)
  have l4' : f_m_times_L111 F (i6 b2) (i6 (s + t1 + t2)) (i6 e) (i6 (p1 * p2)) (i6 (s * q0 + 2 * r)) (i6 (2 * p1)) (i6 (2 * p2)) F (i6 b1) = some (i6 (b1 + 2 * (p1.natAbs : Int) * i')) := by
    rw [hq0, ← l4]; congr 2; simp
  -- what it makes
  obtain ⟨g2, hg2⟩ := l2
  obtain ⟨g3, hg3⟩ := l3
  generalize hTT : t1 + (p1.natAbs : Int) * i' = T at *
  have ey : b1 + 2 * (p1.natAbs : Int) * i' = s + 2 * T := by rw [← hb1, ← hTT]; grind
  have C : cmpd s n a1 t1 a2 t2 e p1 p2 q0 r T (σ * i') g2 g3 := by
    refine ⟨hp1e, hp2e, hq0, hr, ?_, ?_, ?_⟩
    · rw [← hTT, hσ]; grind
    · rw [ey] at hg2
      have : 2 * (T - t2) = 2 * (p2 * g2) := by rw [show 2 * (T - t2) = s + 2 * T - b2 by omega, hg2]; grind
      omega
    · rw [ey] at hg3
      have : 2 * (q0 * T - r) = 2 * (p1 * p2 * g3) := by
        have h1 : q0 * (s + 2 * T) - (s * q0 + 2 * r) = 2 * (q0 * T - r) := by grind
        rw [← h1, hg3]; grind
      omega
  have C3 : cmp3 s n a1 t1 a2 t2 (p1 * p2) T (e * g3 + (σ * i') * g2) := ⟨e, p1, p2, q0, _, _, _, _, C, rfl, rfl⟩
  have IF3 := cmp3_fm C3 IFf IFg
  have hcc := cmpd_c C
  have hyD : (s + 2 * T) * (s + 2 * T) - D = 4 * (p1 * p2) * (e * g3 + (σ * i') * g2) := by
    have h1 : (s + 2 * T) * (s + 2 * T) = s * s + 4 * (T * T + s * T) := by grind
    have h2 : 4 * (p1 * p2) * (e * g3 + (σ * i') * g2) = 4 * (p1 * p2 * (e * g3 + (σ * i') * g2)) := by grind
    rw [h1, hss, h2, hcc, hD0]; omega
  generalize (e * g3 + (σ * i') * g2) = c3 at *
  have hAabs : ((p1 * p2).natAbs : Int) = (p1.natAbs : Int) * (p2.natAbs : Int) := by rw [Int.natAbs_mul]; push_cast; rfl
  have hyb : bd (1023 + 2 * ((p1 * p2).natAbs : Int)) (s + 2 * T) := by
    rw [← ey, hAabs]
    have h1 : (p1.natAbs : Int) * i' ≤ (p1.natAbs : Int) * (p2.natAbs : Int) := Int.mul_le_mul_of_nonneg_left (by omega) (by omega)
    have h2 : 0 ≤ (p1.natAbs : Int) * i' := Int.mul_nonneg (by omega) (by omega)
    rw [Int.mul_assoc]
    constructor <;> omega
  have hcb := small_c (A := ((p1 * p2).natAbs : Int)) (by omega) (by omega) hyb ⟨by omega, by omega⟩ rfl hyD
  have y1 := hyb.1; have y2 := hyb.2
  have hok : okF D (p1 * p2, s + 2 * T, c3) := by
    refine ⟨?_, IF3.2.2, fun hneg => ?_⟩
    · simp only [fdisc]; omega
    · have h1 := hpos1 hneg
      have h2 := hpos2 hneg
      have h3 : 0 < p1 := by
        rcases Int.lt_or_gt_of_ne p10 with h | h
        · have := Int.mul_neg_of_pos_of_neg he0 h; omega
        · exact h
      have h4 : 0 < p2 := by
        rcases Int.lt_or_gt_of_ne p20 with h | h
        · have := Int.mul_neg_of_pos_of_neg he0 h; omega
        · exact h
      exact Int.mul_pos h3 h4
  have hBd : Bd (p1 * p2, s + 2 * T, c3) := ⟨⟨by simp only; omega, by simp only; omega⟩, ⟨by simp only; omega, by simp only; omega⟩, hcb⟩
  obtain ⟨k, x, y, z, f1, f2, f3⟩ := mfound_s F hF hO hw hT hG hok hBd
  refine ⟨k, x, y, z, ⟨f1, _, hok, ⟨T, c3, C3, fm_refl _ _ _⟩, f3⟩, ?_⟩
  rw [if_t ne, if_t ne, ed1, ed2, i6_mul]
  rw [if_t ne, ev13, if_t ne, ev15, if_t ne, ev17, l4']
  simp only [Option.bind_some]
  rw [ey, mbe_s F ⟨by omega, by omega⟩ ⟨by omega, by omega⟩ hA0 ⟨by omega, by omega⟩ hyD]
  simp only [Option.bind_some]
  simp only at f2
  rw [f2]
  rfl
theorem mturned_s (F : Nat) (hF : 10000000 ≤ F) {D R : Int} (hO : okD D R) {mw : Int64} (hw : isMw D R mw) {N : Nat} {gm : Nat → FT} {Bf Bm : Nat → Int32} (hT : isTb D R N gm Bf Bm) {cl : Nat} {fm : Nat → FT} {Bk Bn : Nat → Int32} (hG : isGt cl fm N gm Bk Bn) (hcl : cl ≤ 1908) {i : Nat} (hi : i < cl) :
    ∃ (k : Nat) (x y z : Int64), isIv cl fm i k ∧ f_m_turned F (i6 D) mw (i3 N) Bf Bm Bk Bn (i3 (i : Int)) = some (i3 (k : Int), x, y, z) := by
  have hD1 := hO.1.1; have hD2 := hO.1.2.1
  obtain ⟨n1, r1⟩ := mbeName_s F hO hT hG hcl hi
  obtain ⟨ba, bb, bc⟩ := rf_bd hO r1
  have := ba.1; have := ba.2; have := bb.1; have := bb.2; have := bc.1; have := bc.2
  have hok : okF D ((fm i).1, -(fm i).2.1, (fm i).2.2) := by
    obtain ⟨h1, ⟨x, y, z, h2⟩, h3⟩ := r1.1
    refine ⟨?_, ⟨x, -y, z, ?_⟩, h3⟩
    · simp only [fdisc] at h1 ⊢; rw [← h1]; grind
    · simp only; rw [← h2]; grind
  have hd : (fm i).2.1 * (fm i).2.1 - 4 * (fm i).1 * (fm i).2.2 = D := r1.1.1
  obtain ⟨k, x, y, z, f1, f2, f3⟩ := mfound_s F hF hO hw hT hG hok ⟨⟨by simp only; omega, by simp only; omega⟩, ⟨by simp only; omega, by simp only; omega⟩, ⟨by simp only; omega, by simp only; omega⟩⟩
  refine ⟨k, x, y, z, ⟨f1, f3⟩, ?_⟩
  unfold f_m_turned
  rw [n1]
  simp only [Option.bind_some]
  rw [i6_neg, mbe_s F (c := (fm i).2.2) ⟨by omega, by omega⟩ ⟨by omega, by omega⟩ (a_ne hO.1.2.2.2 r1.1.1) ⟨by omega, by omega⟩ (by rw [Int.neg_mul_neg]; omega)]
  simp only [Option.bind_some]
  simp only at f2
  rw [f2]
  rfl
