/-! multiply; the numbers of the classes make a group -/
theorem mult_s (F : Nat) (hF : 1000000 ≤ F) {D R : Int} (hO : okD D R) {An : Nat → Int32} {cl : Nat} {fm : Nat → FT} (hN : isNF D R An cl fm) {i j : Nat} (hi : i < cl) (hj : j < cl) (a1 b1 c1 a2 b2 c2 zg z1 z2 : Int64) :
    ∃ (k : Nat) (h : FT) (x1 x2 x3 x4 x5 x6 x7 x8 x9 : Int64), k < cl ∧ f_mult F (i3 D) (i3 R) (i3 cl) An a1 b1 c1 a2 b2 c2 zg z1 z2 (i3 i) (i3 j) = some (i3 k, x1, x2, x3, x4, x5, x6, x7, x8, x9) ∧ okF D h ∧ cmpl D (fm i) (fm j) h ∧ fm_eqv h.1 h.2.1 h.2.2 (fm k).1 (fm k).2.1 (fm k).2.2 := by
  have ni := (hN.2.1 i hi).1
  have nj := (hN.2.1 j hj).1
  obtain ⟨p1, p2, -, -⟩ := name_bd hO ni
  obtain ⟨q1, q2, -, -⟩ := name_bd hO nj
  obtain ⟨h, x, y, z, e1, e2, e3, e4⟩ := compose_s F hF hO ni.1 nj.1 p1 p2 q1 q2 zg z1 z2
  obtain ⟨g, k, hk, r1, r2, r3, r4, -⟩ := num_s F hF hO hN e2 e3
  refine ⟨k, h, i6 g.1, i6 g.2.1, i6 g.2.2, i6 (fm j).1, i6 (fm j).2.1, i6 (fm j).2.2, x, y, z, hk, ?_, e2, e4, r4⟩
  unfold f_mult
  rw [setTo_s F hO hN hi]
  simp only [Option.bind_some]
  rw [setTo_s F hO hN hj]
  simp only [Option.bind_some]
  rw [e1]
  simp only [Option.bind_some]
  rw [r1]
  simp only [Option.bind_some]
  rw [r2]
  simp only [Option.bind_some]
  rw [r3]
  rfl
/-- any two forms can be composed -/
theorem cmp3_ex {s n a1 t1 c1 a2 t2 c2 : Int} (f1 : isFm s n a1 t1 c1) (f2 : isFm s n a2 t2 c2) : ∃ a3 t3 c3 : Int, cmp3 s n a1 t1 a2 t2 a3 t3 c3 := by
  obtain ⟨p, q, h1⟩ := bezI a1 a2
  obtain ⟨u', w, h2⟩ := bezI (Int.gcd a1 a2 : Nat) (s + t1 + t2)
  have d0 : ((Int.gcd (Int.gcd a1 a2 : Nat) (s + t1 + t2) : Nat) : Int) ∣ (Int.gcd a1 a2 : Nat) := Int.gcd_dvd_left _ _
  have dm : ((Int.gcd (Int.gcd a1 a2 : Nat) (s + t1 + t2) : Nat) : Int) ∣ (s + t1 + t2) := Int.gcd_dvd_right _ _
  have da1 := Int.dvd_trans d0 (Int.gcd_dvd_left a1 a2)
  have da2 := Int.dvd_trans d0 (Int.gcd_dvd_right a1 a2)
  generalize ((Int.gcd (Int.gcd a1 a2 : Nat) (s + t1 + t2) : Nat) : Int) = e at *
  obtain ⟨p1, hp1⟩ := da1
  obtain ⟨p2, hp2⟩ := da2
  obtain ⟨q0, hq0⟩ := dm
  have he : e ≠ 0 := fun h0 => f1.1 (by rw [hp1, h0, Int.zero_mul])
  have hr : t1 * t2 + n = e * (t1 * q0 - p1 * c1) := by
    have g1 := f1.2.1
    have g2 : n = t1 * t1 + s * t1 - a1 * c1 := by omega
    have g3 : e * (t1 * q0 - p1 * c1) = t1 * (e * q0) - (e * p1) * c1 := by grind
    rw [g3, ← hq0, ← hp1, g2]; grind
  have hbz : u' * p * p1 + u' * q * p2 + w * q0 = 1 := by
    have g1 : e * (u' * p * p1 + u' * q * p2 + w * q0) = e * 1 := by
      have g2 : e * (u' * p * p1 + u' * q * p2 + w * q0) = u' * (p * (e * p1) + q * (e * p2)) + w * (e * q0) := by grind
      rw [g2, ← hp1, ← hp2, ← hq0, h1, h2, Int.mul_one]
    exact Int.eq_of_mul_eq_mul_left he g1
  have CM := cmpd_make he f1.2.1 f2.2.1 hp1 hp2 hq0 hr hbz
  exact ⟨_, _, _, e, p1, p2, q0, _, _, _, _, CM, rfl, rfl⟩
/-- the number k is the product of i and j -/
def isPd (D : Int) (cl : Nat) (fm : Nat → FT) (i j k : Nat) : Prop := k < cl ∧ ∃ h : FT, okF D h ∧ cmpl D (fm i) (fm j) h ∧ fm_eqv h.1 h.2.1 h.2.2 (fm k).1 (fm k).2.1 (fm k).2.2
theorem pd_uni {D R : Int} (hO : okD D R) {An : Nat → Int32} {cl : Nat} {fm : Nat → FT} (hN : isNF D R An cl fm) {i j k k' : Nat} (hi : i < cl) (hj : j < cl) (h : isPd D cl fm i j k) (h' : isPd D cl fm i j k') : k = k' := by
  obtain ⟨hk, f, f1, f2, f3⟩ := h
  obtain ⟨hk', g, g1, g2, g3⟩ := h'
  have ni := (hN.2.1 i hi).1.1
  have nj := (hN.2.1 j hj).1.1
  exact num_uni hO hN hk hk' (fm_trans (fm_trans (fm_symm f3) (cmpl_wd hO ni nj ni nj f2 g2 (fm_refl _ _ _) (fm_refl _ _ _))) g3)
/-- by any composition of the two names -/
theorem pd_raw {D R : Int} (hO : okD D R) {An : Nat → Int32} {cl : Nat} {fm : Nat → FT} (hN : isNF D R An cl fm) {i j k : Nat} (hi : i < cl) (hj : j < cl) (h : isPd D cl fm i j k) {a3 t3 c3 : Int} (hc : cmp3 (sg D) (nn D) (fm i).1 (tt D (fm i).2.1) (fm j).1 (tt D (fm j).2.1) a3 t3 c3) : fm_eqv a3 (sg D + 2 * t3) c3 (fm k).1 (fm k).2.1 (fm k).2.2 := by
  obtain ⟨hk, f, f1, ⟨t, c, f2, f2'⟩, f3⟩ := h
  have F1 := fm_of hO (hN.2.1 i hi).1.1
  have F2 := fm_of hO (hN.2.1 j hj).1.1
  have := cmp3_wd hc F1.1 F2.1 f2 F1.1 F2.1 (fm_refl _ _ _) (fm_refl _ _ _)
  exact fm_trans this (fm_trans f2' f3)
theorem pd_comm {D : Int} {cl : Nat} {fm : Nat → FT} {i j k : Nat} (h : isPd D cl fm i j k) : isPd D cl fm j i k := by
  obtain ⟨hk, f, f1, ⟨t, c, f2, f2'⟩, f3⟩ := h
  exact ⟨hk, f, f1, ⟨t, c, cmp3_comm f2, f2'⟩, f3⟩
theorem pd_assoc {D R : Int} (hO : okD D R) {An : Nat → Int32} {cl : Nat} {fm : Nat → FT} (hN : isNF D R An cl fm) {i j l ij jl x y : Nat} (hi : i < cl) (hj : j < cl) (hl : l < cl) (h1 : isPd D cl fm i j ij) (h2 : isPd D cl fm ij l x) (h3 : isPd D cl fm j l jl) (h4 : isPd D cl fm i jl y) : x = y := by
  have Fi := fm_of hO (hN.2.1 i hi).1.1
  have Fj := fm_of hO (hN.2.1 j hj).1.1
  have Fl := fm_of hO (hN.2.1 l hl).1.1
  have Fij := fm_of hO (hN.2.1 ij h1.1).1.1
  have Fjl := fm_of hO (hN.2.1 jl h3.1).1.1
  obtain ⟨a4, t4, c4, k1⟩ := cmp3_ex Fi.1 Fj.1
  obtain ⟨a5, t5, c5, k2⟩ := cmp3_ex (cmp3_fm k1 Fi.1 Fj.1) Fl.1
  obtain ⟨a6, t6, c6, k3⟩ := cmp3_ex Fj.1 Fl.1
  obtain ⟨a7, t7, c7, k4⟩ := cmp3_ex Fi.1 (cmp3_fm k3 Fj.1 Fl.1)
  have e := cmp3_assoc Fi.1 Fj.1 Fl.1 k1 k2 k3 k4
  -- u = (a4, ..) is like name ij; w = (a6, ..) like name jl
  have u1 := pd_raw hO hN hi hj h1 k1
  have w1 := pd_raw hO hN hj hl h3 k3
  obtain ⟨b5, s5, d5, m2⟩ := cmp3_ex Fij.1 Fl.1
  obtain ⟨b7, s7, d7, m4⟩ := cmp3_ex Fi.1 Fjl.1
  have v1 := cmp3_wd k2 (cmp3_fm k1 Fi.1 Fj.1) Fl.1 m2 Fij.1 Fl.1 (by rw [Fij.2]; exact u1) (fm_refl _ _ _)
  have v2 := cmp3_wd k4 Fi.1 (cmp3_fm k3 Fj.1 Fl.1) m4 Fi.1 Fjl.1 (fm_refl _ _ _) (by rw [Fjl.2]; exact w1)
  have x1 := pd_raw hO hN h1.1 hl h2 m2
  have y1 := pd_raw hO hN hi h3.1 h4 m4
  exact num_uni hO hN h2.1 h4.1 (fm_trans (fm_symm x1) (fm_trans (fm_symm v1) (fm_trans e (fm_trans v2 y1))))
/-- e is the number of the principal class -/
def isPr (D : Int) (cl : Nat) (fm : Nat → FT) (e : Nat) : Prop := e < cl ∧ ∃ t0 c0 : Int, isFm (sg D) (nn D) 1 t0 c0 ∧ fm_eqv 1 (sg D + 2 * t0) c0 (fm e).1 (fm e).2.1 (fm e).2.2
theorem pd_one {D R : Int} (hO : okD D R) {An : Nat → Int32} {cl : Nat} {fm : Nat → FT} (hN : isNF D R An cl fm) {i e x : Nat} (hi : i < cl) (he : isPr D cl fm e) (h : isPd D cl fm i e x) : x = i := by
  obtain ⟨he1, t0, c0, f0, e0⟩ := he
  have Fi := fm_of hO (hN.2.1 i hi).1.1
  have Fe := fm_of hO (hN.2.1 e he1).1.1
  obtain ⟨a3, t3, c3, k1⟩ := cmp3_ex Fi.1 f0
  obtain ⟨b3, s3, d3, k2⟩ := cmp3_ex Fi.1 Fe.1
  have v1 := cmp3_one Fi.1 f0 k1
  have v2 := cmp3_wd k1 Fi.1 f0 k2 Fi.1 Fe.1 (fm_refl _ _ _) (by rw [Fe.2]; exact e0)
  have v3 := pd_raw hO hN hi he1 h k2
  rw [Fi.2] at v1
  exact num_uni hO hN h.1 hi (fm_trans (fm_symm v3) (fm_trans (fm_symm v2) v1))
/-- k is the number of the opposite of name i -/
def isIv (cl : Nat) (fm : Nat → FT) (i k : Nat) : Prop := k < cl ∧ fm_eqv (fm i).1 (-(fm i).2.1) (fm i).2.2 (fm k).1 (fm k).2.1 (fm k).2.2
theorem pd_inv {D R : Int} (hO : okD D R) {An : Nat → Int32} {cl : Nat} {fm : Nat → FT} (hN : isNF D R An cl fm) {i e k x : Nat} (hi : i < cl) (he : isPr D cl fm e) (hk : isIv cl fm i k) (h : isPd D cl fm i k x) : x = e := by
  obtain ⟨he1, t0, c0, f0, e0⟩ := he
  have Fi := fm_of hO (hN.2.1 i hi).1.1
  have Fk := fm_of hO (hN.2.1 k hk.1).1.1
  have Fo : isFm (sg D) (nn D) (fm i).1 (-sg D - tt D (fm i).2.1) (fm i).2.2 := ⟨Fi.1.1, by rw [Fi.1.2.1]; grind, by obtain ⟨x, y, z, hh⟩ := Fi.1.2.2; exact ⟨x, -y, z, by rw [← hh]; grind⟩⟩
  obtain ⟨a3, t3, c3, k1⟩ := cmp3_ex Fi.1 Fo
  obtain ⟨b3, s3, d3, k2⟩ := cmp3_ex Fi.1 Fk.1
  have v1 := cmp3_inv Fi.1 f0 k1
  have eo : sg D + 2 * (-sg D - tt D (fm i).2.1) = -(fm i).2.1 := by have := Fi.2; omega
  have v2 := cmp3_wd k1 Fi.1 Fo k2 Fi.1 Fk.1 (fm_refl _ _ _) (by rw [eo, Fk.2]; exact hk.2)
  have v3 := pd_raw hO hN hi hk.1 h k2
  exact num_uni hO hN h.1 he1 (fm_trans (fm_symm v3) (fm_trans (fm_symm v2) (fm_trans v1 e0)))
