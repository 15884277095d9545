/-! Call by call: orders, generators, exponents, classes of forms -/
section Op2
variable {F : Nat} {D : Int} {R cl rf pr N : Nat} {fm gm : Nat → FT} {mul : Fin cl → Fin cl → Fin cl} {e : Fin cl} {inv : Fin cl → Fin cl} {od : Fin cl → Nat} {gk go gc : Int32} {An Ag As Ao Ac : Nat → Int32} {mw : Int64} {mgn : Int32} {Bf Bm Bk Bn Bo Bx Bg : Nat → Int32}
theorem spec_all (G : isG mul e inv) (hod : ∀ x, isOrd mul e x (od x)) {gs : Nat → Fin cl} {m : Nat} (hs : spec mul e od gs m) (hr : rr od gs m = cl) (x : Fin cl) : ∃ c, c < cl ∧ elf mul e od gs m c = x := by
  obtain ⟨-, -, hE, -⟩ := spec_main G hod hs
  rw [hr] at hE
  by_cases h : ∃ c, c < cl ∧ elf mul e od gs m c = x
  · exact h
  · exfalso
    have := inj_le (el := fun c => if c < cl then elf mul e od gs m c else x) (r := cl + 1) (fun i j hi hj he => by
      by_cases c1 : i < cl <;> by_cases c2 : j < cl
      · rw [if_pos c1, if_pos c2] at he; exact hE.1 i j c1 c2 he
      · rw [if_pos c1, if_neg c2] at he; exact absurd ⟨i, c1, he⟩ h
      · rw [if_neg c1, if_pos c2] at he; exact absurd ⟨j, c2, he.symm⟩ h
      · omega)
    omega
theorem isGen_t {m : Nat} (hm : m ≤ 1908) {k : Int} (hk : r3 k) : ((0 ≤ k ∧ k < m) → f_isGen F (i3 (m : Int)) (i3 k) = some 1) ∧ (¬ (0 ≤ k ∧ k < m) → f_isGen F (i3 (m : Int)) (i3 k) = some 0) := isClass_t F hm hk
theorem misGen_s {m : Nat} (hm : m ≤ 1908) {z : Int} (hz : r3 z) : (0 ≤ z ∧ z < m → f_m_in F ((i3 z).toInt64) 0 ((i3 (m : Int) - 1).toInt64) = some 1) ∧ (¬ (0 ≤ z ∧ z < m) → f_m_in F ((i3 z).toInt64) 0 ((i3 (m : Int) - 1).toInt64) = some 0) := by
  have z1 := hz.1; have z2 := hz.2
  have e1 : (i3 (m : Int) - 1).toInt64 = i6 ((m : Int) - 1) := by
    show (i3 (m : Int) - i3 1).toInt64 = _
    rw [i3_sub, i36 ⟨by omega, by omega⟩]
  have h := min_s F (x := z) (lo := 0) (hi := (m : Int) - 1) ⟨by omega, by omega⟩ ⟨by omega, by omega⟩ ⟨by omega, by omega⟩
  rw [i36 hz, e1]
  exact ⟨fun q => h.1 (by omega), fun q => h.2 (by omega)⟩
theorem op_order (hF : 1000000 ≤ F) (hC : CS D R cl rf pr fm mul e inv od gk go gc An Ag As Ao Ac) (hR : RS D R cl N fm gm mul e od mw mgn Bf Bm Bk Bn Bo Bx Bg) (x1 : Int32) (Ae : Nat → Int32) (Lv : Nat → Int64) (a1 b1 c1 a2 b2 c2 zg z1 z2 : Int64) :
    ∃ (t v : Int32) (gk' go' gc' : Int32) (Ag' As' Ao' Ac' Ae' : Nat → Int32) (y1 y2 y3 y4 y5 y6 y7 y8 y9 : Int64) (Lv' : Nat → Int64), f_h_order F (i3 D) (i3 (R : Int)) (i3 (cl : Int)) (i3 (pr : Int)) An gk go gc a1 b1 c1 a2 b2 c2 zg z1 z2 Ag As Ao Ac Ae Lv x1 = some (t, gk', go', gc', y1, y2, y3, y4, y5, y6, y7, y8, y9, Ag', As', Ao', Ac', Ae', Lv') ∧ f_m_order F (i3 (cl : Int)) Bo x1 = some (v, t) ∧ (t = 0 → Lv' (0 : Int32).toNatClampNeg = v.toInt64) ∧ CS D R cl rf pr fm mul e inv od gk' go' gc' An Ag' As' Ao' Ac' := by
  have hcl := hC.1.2.1.1
  have hBo := hR.2.2.2.1
  obtain ⟨z, hz, rfl⟩ : ∃ z : Int, r3 z ∧ x1 = i3 z := ⟨_, (i3_of x1).2, (i3_of x1).1⟩
  by_cases hk : 0 ≤ z ∧ z < cl
  · obtain ⟨k, rfl⟩ : ∃ k : Nat, z = k := ⟨z.toNat, by omega⟩
    have hkl : k < cl := by omega
    obtain ⟨go', gc', Ag', As', Ao', Ac', Ae', y1, y2, y3, y4, y5, y6, y7, y8, y9, l1, ⟨gs', m', gx, -, -, -, -, l4⟩, l5⟩ := learn_k hF hC Ae a1 b1 c1 a2 b2 c2 zg z1 z2
    have hv1 : Ao' (i3 (k : Int)).toNatClampNeg = i3 (od ⟨k, hkl⟩) := by rw [nn_n (by omega)]; exact l4 ⟨k, hkl⟩
    have hv2 : Bo (i3 (k : Int)).toNatClampNeg = i3 (od ⟨k, hkl⟩) := by rw [nn_n (by omega)]; exact hBo ⟨k, hkl⟩
    refine ⟨0, i3 (od ⟨k, hkl⟩), 1, go', gc', Ag', As', Ao', Ac', Ae', y1, y2, y3, y4, y5, y6, y7, y8, y9, vp_updL Lv (0 : Int32).toNatClampNeg _, ?_, ?_, fun _ => updL_0 _ _, l5⟩
    · unfold f_h_order f_hr_order f_p_order
      rw [(isClass_t F hcl hz).1 hk]
      simp only [Option.bind_some]
      rw [if_f (by decide), l1]
      simp only [Option.bind_some]
      rw [if_t (nn_v (by omega) (by omega)), hv1]
      simp only [Option.bind_some]
      rw [if_t vin01]
    · unfold f_m_order
      rw [(misClass_s F hcl hz).1 hk]
      simp only [Option.bind_some, bnd]
      rw [if_f (by decide), if_t (by decide), if_t (nn_v (by omega) (by omega)), hv2]
  · refine ⟨1, 0, gk, go, gc, Ag, As, Ao, Ac, Ae, a1, b1, c1, a2, b2, c2, zg, z1, z2, Lv, ?_, ?_, fun q => absurd q (by decide), hC⟩
    · unfold f_h_order f_hr_order f_hx_order f_p_order f_x_order
      rw [(isClass_t F hcl hz).2 hk]; rfl
    · unfold f_m_order
      rw [(misClass_s F hcl hz).2 hk]; rfl
theorem op_generator (hF : 1000000 ≤ F) (hC : CS D R cl rf pr fm mul e inv od gk go gc An Ag As Ao Ac) (hR : RS D R cl N fm gm mul e od mw mgn Bf Bm Bk Bn Bo Bx Bg) (x1 : Int32) (Ae : Nat → Int32) (Lv : Nat → Int64) (a1 b1 c1 a2 b2 c2 zg z1 z2 : Int64) :
    ∃ (t v : Int32) (gk' go' gc' : Int32) (Ag' As' Ao' Ac' Ae' : Nat → Int32) (y1 y2 y3 y4 y5 y6 y7 y8 y9 : Int64) (Lv' : Nat → Int64), f_h_generator F (i3 D) (i3 (R : Int)) (i3 (cl : Int)) (i3 (pr : Int)) An gk go gc a1 b1 c1 a2 b2 c2 zg z1 z2 Ag As Ao Ac Ae Lv x1 = some (t, gk', go', gc', y1, y2, y3, y4, y5, y6, y7, y8, y9, Ag', As', Ao', Ac', Ae', Lv') ∧ f_m_generator F mgn Bg x1 = some (v, t) ∧ (t = 0 → Lv' (0 : Int32).toNatClampNeg = v.toInt64) ∧ CS D R cl rf pr fm mul e inv od gk' go' gc' An Ag' As' Ao' Ac' := by
  obtain ⟨-, -, -, hBo, gs, m, rfl, hm8, hs, hr, hx, hg⟩ := hR
  obtain ⟨z, hz, rfl⟩ : ∃ z : Int, r3 z ∧ x1 = i3 z := ⟨_, (i3_of x1).2, (i3_of x1).1⟩
  obtain ⟨go', gc', Ag', As', Ao', Ac', Ae', y1, y2, y3, y4, y5, y6, y7, y8, y9, l1, ⟨gs', m', gx, rfl, rfl, l2, l3, l4⟩, l5⟩ := learn_k hF hC Ae a1 b1 c1 a2 b2 c2 zg z1 z2
  have hu := spec_uni hC.2.1.1 hC.2.2.2.1 hs l2.1 hr l2.2.1
  obtain ⟨rfl, hu2⟩ := hu
  by_cases hk : 0 ≤ z ∧ z < m
  · obtain ⟨k, rfl⟩ : ∃ k : Nat, z = k := ⟨z.toNat, by omega⟩
    have hkl : k < m := by omega
    have hv1 : Ag' (i3 (k : Int)).toNatClampNeg = i3 (gs k).val := by rw [nn_n (by omega), (l2.2.2.2 k hkl).1, hu2 k hkl]
    have hv2 : Bg (i3 (k : Int)).toNatClampNeg = i3 (gs k).val := by rw [nn_n (by omega)]; exact hg k hkl
    refine ⟨0, i3 (gs k).val, 1, _, _, Ag', As', Ao', Ac', Ae', y1, y2, y3, y4, y5, y6, y7, y8, y9, vp_updL Lv (0 : Int32).toNatClampNeg _, ?_, ?_, fun _ => updL_0 _ _, l5⟩
    · unfold f_h_generator f_hr_generator f_p_generator
      rw [l1]
      simp only [Option.bind_some]
      rw [(isGen_t (by omega) hz).1 hk]
      simp only [Option.bind_some]
      rw [if_f (by decide), if_t (nn_v (by omega) (by omega)), hv1]
      simp only [Option.bind_some]
      rw [if_t vin01]
    · unfold f_m_generator
      rw [(misGen_s (by omega) hz).1 hk]
      simp only [Option.bind_some, bnd]
      rw [if_f (by decide), if_t (by decide), if_t (nn_v (by omega) (by omega)), hv2]
  · refine ⟨1, 0, 1, _, _, Ag', As', Ao', Ac', Ae', y1, y2, y3, y4, y5, y6, y7, y8, y9, Lv, ?_, ?_, fun q => absurd q (by decide), l5⟩
    · unfold f_h_generator f_hr_generator f_hx_generator f_p_generator f_x_generator
      rw [l1]
      simp only [Option.bind_some]
      rw [(isGen_t (by omega) hz).2 hk]; rfl
    · unfold f_m_generator
      rw [(misGen_s (by omega) hz).2 hk]; rfl
theorem op_exponent (hF : 1000000 ≤ F) (hC : CS D R cl rf pr fm mul e inv od gk go gc An Ag As Ao Ac) (hR : RS D R cl N fm gm mul e od mw mgn Bf Bm Bk Bn Bo Bx Bg) (x1 x2 : Int32) (Ae : Nat → Int32) (Lv : Nat → Int64) (a1 b1 c1 a2 b2 c2 zg z1 z2 : Int64) :
    ∃ (t v : Int32) (gk' go' gc' : Int32) (Ag' As' Ao' Ac' Ae' : Nat → Int32) (y1 y2 y3 y4 y5 y6 y7 y8 y9 : Int64) (Lv' : Nat → Int64), f_h_exponent F (i3 D) (i3 (R : Int)) (i3 (cl : Int)) (i3 (pr : Int)) An gk go gc a1 b1 c1 a2 b2 c2 zg z1 z2 Ag As Ao Ac Ae Lv x1 x2 = some (t, gk', go', gc', y1, y2, y3, y4, y5, y6, y7, y8, y9, Ag', As', Ao', Ac', Ae', Lv') ∧ f_m_exponent F (i3 (cl : Int)) mgn Bx x1 x2 = some (v, t) ∧ (t = 0 → Lv' (0 : Int32).toNatClampNeg = v.toInt64) ∧ CS D R cl rf pr fm mul e inv od gk' go' gc' An Ag' As' Ao' Ac' := by
  have hcl := hC.1.2.1.1
  obtain ⟨-, -, -, hBo, gs, m, rfl, hm8, hs, hr, hx, hg⟩ := hR
  obtain ⟨z, hz, rfl⟩ : ∃ z : Int, r3 z ∧ x1 = i3 z := ⟨_, (i3_of x1).2, (i3_of x1).1⟩
  obtain ⟨w, hw, rfl⟩ : ∃ z : Int, r3 z ∧ x2 = i3 z := ⟨_, (i3_of x2).2, (i3_of x2).1⟩
  obtain ⟨go', gc', Ag', As', Ao', Ac', Ae', y1, y2, y3, y4, y5, y6, y7, y8, y9, l1, ⟨gs', m', gx, rfl, rfl, l2, l3, l4⟩, l5⟩ := learn_k hF hC Ae a1 b1 c1 a2 b2 c2 zg z1 z2
  have G := hC.2.1.1
  have hod := hC.2.2.2.1
  have hu := spec_uni G hod hs l2.1 hr l2.2.1
  obtain ⟨rfl, hu2⟩ := hu
  by_cases hk : 0 ≤ z ∧ z < cl
  · by_cases hj : 0 ≤ w ∧ w < m
    · obtain ⟨k, rfl⟩ : ∃ k : Nat, z = k := ⟨z.toNat, by omega⟩
      obtain ⟨j, rfl⟩ : ∃ k : Nat, w = k := ⟨w.toNat, by omega⟩
      have hkl : k < cl := by omega
      have hjl : j < m := by omega
      obtain ⟨c, hc, hce⟩ := spec_all G hod hs hr ⟨k, hkl⟩
      have hrj := (spec_le G hod (i := j) (fun i hi => hs i (by omega))).1
      have hr0 := (spec_main G hod (i := j) (fun i hi => hs i (by omega))).1
      have hgl := (gs j).isLt
      have hoj := od_cl G hod (gs j)
      have e1 : As' (i3 (j : Int)).toNatClampNeg = i3 (rr od gs j : Nat) := by rw [nn_n (by omega), (l2.2.2.2 j hjl).2.1, rr_congr (od := od) (fun i hi => hu2 i (by omega))]
      have hrn := (spec_le G hod (i := j + 1) (fun i hi => hs i (by omega))).1
      have hrm : rr od gs (j + 1) = rr od gs j * od (gs j) := rfl
      have hrn0 : 0 < rr od gs (j + 1) := by rw [hrm]; exact Nat.mul_pos hr0 hoj.1
      have e2 : As' (i3 (j : Int) + 1).toNatClampNeg = i3 (rr od gs (j + 1) : Nat) := by rw [nn_s, nn_n (by omega), (l2.2.2.2 j hjl).2.2, rr_congr (od := od) (fun i hi => hu2 i (by omega))]
      have e4 : Ac' (i3 (k : Int)).toNatClampNeg = i3 (c : Int) := by
        rw [nn_n (by omega)]
        have := l2.2.2.1 c hc
        rw [← elf_congr (fun i hi => hu2 i (by omega)), hce] at this
        exact this
      have e8 : (8 : Int32) * i3 (k : Int) + i3 (j : Int) = i3 ((8 * k + j : Nat) : Int) := by
        show i3 8 * i3 (k : Int) + i3 (j : Int) = _
        rw [i3_mul, i3_add]; congr 1
      have e5 : Bx (i3 ((8 * k + j : Nat) : Int)).toNatClampNeg = i3 ((c / rr od gs j % od (gs j) : Nat) : Int) := by
        rw [nn_n (by omega)]
        have := hx c hc j (by omega)
        rw [hce] at this
        unfold exq at this
        rw [if_pos hjl] at this
        exact this
      have hz1 : ¬ i3 (rr od gs j : Int) = 0 := fun q => by have := (c_eq0 (a := (rr od gs j : Int)) ⟨by omega, by omega⟩).mp q; omega
      have hz2 : ¬ i3 (rr od gs (j + 1) : Int) = 0 := fun q => by have := (c_eq0 (a := (rr od gs (j + 1) : Int)) ⟨by omega, by omega⟩).mp q; omega
      have hcm : c % rr od gs (j + 1) ≤ c := Nat.mod_le _ _
      have er : i3 (c : Int) - i3 (c : Int) / i3 (rr od gs (j + 1) : Int) * i3 (rr od gs (j + 1) : Int) = i3 ((c % rr od gs (j + 1) : Nat) : Int) := by
        rw [i3_rem ⟨by omega, by omega⟩ ⟨by omega, by omega⟩ (by omega) (by omega), ← Int.ofNat_tmod]
      have ed : i3 ((c % rr od gs (j + 1) : Nat) : Int) / i3 (rr od gs j : Int) = i3 ((c / rr od gs j % od (gs j) : Nat) : Int) := by
        rw [(i3_div (a := ((c % rr od gs (j + 1) : Nat) : Int)) (b := (rr od gs j : Int)) ⟨by omega, by omega⟩ ⟨by omega, by omega⟩ (by omega) (by omega)).1, ← Int.ofNat_tdiv, hrm, Nat.mod_mul_right_div_self]
      refine ⟨0, i3 ((c / rr od gs j % od (gs j) : Nat) : Int), 1, _, _, Ag', As', Ao', Ac', Ae', y1, y2, y3, y4, y5, y6, y7, y8, y9, vp_updL Lv (0 : Int32).toNatClampNeg _, ?_, ?_, fun _ => updL_0 _ _, l5⟩
      · unfold f_h_exponent f_hr_exponent f_p_exponent
        rw [l1]
        simp only [Option.bind_some]
        rw [(isClass_t F hcl hz).1 hk]
        simp only [Option.bind_some]
        rw [if_f (by decide), (isGen_t (by omega) hw).1 hj]
        simp only [Option.bind_some]
        rw [if_f (by decide), if_t (nn_v (by omega) (by omega))]
        simp only [bnd]
        rw [e1, e2, nn_s, if_t (nn_v (n := j + 1) (N := 12) (by omega) (by omega)), if_f hz1, if_f hz2, if_t (nn_v (n := k) (N := 1908) (by omega) (by omega)), if_t hz2, if_t hz1, e4, er, ed]
        simp only [Option.bind_some]
        rw [if_t vin01]
      · unfold f_m_exponent
        rw [(misClass_s F hcl hz).1 hk]
        simp only [Option.bind_some, bnd]
        rw [if_f (by decide), (misGen_s (by omega) hw).1 hj]
        simp only [Option.bind_some]
        rw [if_f (by decide), if_t (by decide), e8, if_t (nn_v (by omega) (by omega)), e5]
    · refine ⟨1, 0, 1, _, _, Ag', As', Ao', Ac', Ae', y1, y2, y3, y4, y5, y6, y7, y8, y9, Lv, ?_, ?_, fun q => absurd q (by decide), l5⟩
      · unfold f_h_exponent f_hr_exponent f_hx_exponent f_p_exponent f_x_exponent
        rw [l1]
        simp only [Option.bind_some]
        rw [(isClass_t F hcl hz).1 hk]
        simp only [Option.bind_some]
        have n10 : ¬ (1 : Int32) = 0 := by decide
        rw [if_f n10, if_f n10, (isGen_t (by omega) hw).2 hj]; rfl
      · unfold f_m_exponent
        rw [(misClass_s F hcl hz).1 hk]
        simp only [Option.bind_some, bnd]
        rw [if_f (by decide), (misGen_s (by omega) hw).2 hj]; rfl
  · refine ⟨1, 0, 1, _, _, Ag', As', Ao', Ac', Ae', y1, y2, y3, y4, y5, y6, y7, y8, y9, Lv, ?_, ?_, fun q => absurd q (by decide), l5⟩
    · unfold f_h_exponent f_hr_exponent f_hx_exponent f_p_exponent f_x_exponent
      rw [l1]
      simp only [Option.bind_some]
      rw [(isClass_t F hcl hz).2 hk]; rfl
    · unfold f_m_exponent
      rw [(misClass_s F hcl hz).2 hk]; rfl
/-- a form of D, within the bounds of classOf -/
def isFz (D a b c : Int) : Prop := (bd 1073741824 a ∧ bd 1073741824 b ∧ bd 1073741824 c) ∧ b * b - 4 * a * c = D ∧ (0 < D ∨ 0 < a) ∧ prim a b c
theorem coef_s {a : Int} (h : r3 a) : (bd 1073741824 a → f_isCoef F (i3 a) = some 1) ∧ (¬ bd 1073741824 a → f_isCoef F (i3 a) = some 0) := by
  have e1 : i3 a < (-1073741824 : Int32) ↔ a < -1073741824 := by
    rw [show (-1073741824 : Int32) = i3 (-1073741824) by decide]; exact i3_lt h ⟨by decide, by decide⟩
  have e2 : (1073741824 : Int32) < i3 a ↔ 1073741824 < a := i3_lt (a := 1073741824) ⟨by decide, by decide⟩ h
  unfold f_isCoef bd
  constructor
  · intro hb
    rw [if_f (fun q => by have := e1.mp q; omega), if_f (fun q => by have := e2.mp q; omega)]
  · intro hb
    by_cases c : a < -1073741824
    · rw [if_t (e1.mpr c)]
    · rw [if_f (fun q => c (e1.mp q)), if_t (e2.mpr (by omega))]
theorem mcoef_s {a : Int} (h : r3 a) : (bd 1073741824 a → f_m_in F ((i3 a).toInt64) (-1073741824) 1073741824 = some 1) ∧ (¬ bd 1073741824 a → f_m_in F ((i3 a).toInt64) (-1073741824) 1073741824 = some 0) := by
  have z1 := h.1; have z2 := h.2
  rw [i36 h]
  exact min_s F (x := a) (lo := -1073741824) (hi := 1073741824) ⟨by omega, by omega⟩ ⟨by decide, by decide⟩ ⟨by decide, by decide⟩
theorem disc_c {D a b c : Int} (hD : bd 1048576 D) (ha : bd 1073741824 a) (hb : bd 1073741824 b) (hc : bd 1073741824 c) : (i6 b * i6 b - 4 * i6 a * i6 c = i6 (b * b - 4 * a * c)) ∧ r6 (b * b - 4 * a * c) := by
  have h1 := mul_bd hb hb (by decide) (by decide)
  have h2 := mul_bd ha hc (by decide) (by decide)
  have := h1.1; have := h1.2; have := h2.1; have := h2.2
  rw [c4_s, i6_mul, i6_mul, i6_mul, i6_sub]
  refine ⟨rfl, ?_⟩
  rw [Int.mul_assoc]
  constructor <;> omega
theorem isForm_s (hF : 1000000 ≤ F) (hO : okD D R) {a b c : Int} (ha : r3 a) (hb : r3 b) (hc : r3 c) : (isFz D a b c → f_isForm F (i3 D) (i3 a) (i3 b) (i3 c) = some 1) ∧ (¬ isFz D a b c → f_isForm F (i3 D) (i3 a) (i3 b) (i3 c) = some 0) := by
  have hD1 := hO.1.1; have hD2 := hO.1.2.1
  have hD3 : r3 D := ⟨by omega, by omega⟩
  unfold f_isForm
  by_cases q1 : bd 1073741824 a
  · rw [coef_s ha |>.1 q1]
    simp only [Option.bind_some]
    rw [if_f (by decide)]
    by_cases q2 : bd 1073741824 b
    · rw [coef_s hb |>.1 q2]
      simp only [Option.bind_some]
      rw [if_f (by decide)]
      by_cases q3 : bd 1073741824 c
      · obtain ⟨dc1, dc2⟩ := disc_c (D := D) ⟨by omega, by omega⟩ q1 q2 q3
        rw [coef_s hc |>.1 q3]
        simp only [Option.bind_some]
        rw [if_f (by decide), i36 ha, i36 hb, i36 hc, i36 hD3, dc1]
        have hprim := isPrim_s F (by omega) (a := a) (b := b) (c := c) ⟨by have := q1.1; omega, by have := q1.2; omega⟩ ⟨by have := q2.1; omega, by have := q2.2; omega⟩ ⟨by have := q3.1; omega, by have := q3.2; omega⟩
        by_cases q4 : b * b - 4 * a * c = D
        · rw [if_t ((lc_eq dc2 ⟨by omega, by omega⟩).mpr q4)]
          have fin : (0 < D ∨ 0 < a) → (isFz D a b c → Option.bind (f_isPrim F (i3 a) (i3 b) (i3 c)) (fun r_4 => (if r_4 = 0 then some (0 : Int32) else some 1)) = some 1) ∧ (¬ isFz D a b c → Option.bind (f_isPrim F (i3 a) (i3 b) (i3 c)) (fun r_4 => (if r_4 = 0 then some (0 : Int32) else some 1)) = some 0) := by
            intro hpos
            by_cases q5 : prim a b c
            · rw [hprim.1 q5]
              exact ⟨fun _ => rfl, fun h => absurd ⟨⟨q1, q2, q3⟩, q4, hpos, q5⟩ h⟩
            · rw [hprim.2 q5]
              exact ⟨fun h => absurd h.2.2.2 q5, fun _ => rfl⟩
          by_cases q6 : 0 < D
          · rw [if_t ((c_gt0 hD3).mpr q6)]; exact fin (Or.inl q6)
          · rw [if_f (fun q => q6 ((c_gt0 hD3).mp q))]
            by_cases q7 : a ≤ 0
            · rw [if_t ((c_ge0 ha).mpr q7)]
              exact ⟨fun h => absurd h.2.2.1 (by omega), fun _ => rfl⟩
            · rw [if_f (fun q => q7 ((c_ge0 ha).mp q))]; exact fin (Or.inr (by omega))
        · rw [if_f (fun q => q4 ((lc_eq dc2 ⟨by omega, by omega⟩).mp q))]
          exact ⟨fun h => absurd h.2.1 q4, fun _ => rfl⟩
      · rw [coef_s hc |>.2 q3]
        exact ⟨fun h => absurd h.1.2.2 q3, fun _ => rfl⟩
    · rw [coef_s hb |>.2 q2]
      exact ⟨fun h => absurd h.1.2.1 q2, fun _ => rfl⟩
  · rw [coef_s ha |>.2 q1]
    exact ⟨fun h => absurd h.1.1 q1, fun _ => rfl⟩
theorem op_classOf (hF : 2000000000 ≤ F) (hC : CS D R cl rf pr fm mul e inv od gk go gc An Ag As Ao Ac) (hR : RS D R cl N fm gm mul e od mw mgn Bf Bm Bk Bn Bo Bx Bg) (x1 x2 x3 : Int32) (Lv : Nat → Int64) (a1 b1 c1 ma mb mc : Int64) :
    ∃ (t v : Int32) (y1 y2 y3 : Int64) (Lv' : Nat → Int64) (m1 m2 m3 : Int64), f_h_classOf F (i3 D) (i3 (R : Int)) (i3 (cl : Int)) An a1 b1 c1 Lv x1 x2 x3 = some (t, y1, y2, y3, Lv') ∧ f_m_classOf F (i6 D) mw (i3 (N : Int)) Bf Bm Bk ma mb mc x1 x2 x3 = some (v, t, m1, m2, m3) ∧ (t = 0 → Lv' (0 : Int32).toNatClampNeg = v.toInt64) := by
  obtain ⟨hH, hG, -, -, -⟩ := hC
  obtain ⟨hw, hT, hg, -⟩ := hR
  have hO := hH.1
  have hcl := hH.2.1.1
  have hD1 := hO.1.1; have hD2 := hO.1.2.1
  have hD6 : r6 D := ⟨by omega, by omega⟩
  obtain ⟨a, ha, rfl⟩ : ∃ z : Int, r3 z ∧ x1 = i3 z := ⟨_, (i3_of x1).2, (i3_of x1).1⟩
  obtain ⟨b, hb, rfl⟩ : ∃ z : Int, r3 z ∧ x2 = i3 z := ⟨_, (i3_of x2).2, (i3_of x2).1⟩
  obtain ⟨c, hc, rfl⟩ : ∃ z : Int, r3 z ∧ x3 = i3 z := ⟨_, (i3_of x3).2, (i3_of x3).1⟩
  -- the reference's two ways
  have hm : (isFz D a b c → ∀ r : Int32 × Int64 × Int64 × Int64, f_m_found F (i6 D) mw (i3 (N : Int)) Bf Bm Bk (i6 a) (i6 b) (i6 c) = some r → f_m_classOf F (i6 D) mw (i3 (N : Int)) Bf Bm Bk ma mb mc (i3 a) (i3 b) (i3 c) = some (r.1, 0, r.2.1, r.2.2.1, r.2.2.2)) ∧ (¬ isFz D a b c → f_m_classOf F (i6 D) mw (i3 (N : Int)) Bf Bm Bk ma mb mc (i3 a) (i3 b) (i3 c) = some (0, 1, ma, mb, mc)) := by
    have n10 : ¬ (1 : Int32) = 0 := by decide
    unfold f_m_classOf
    simp only [bnd]
    by_cases q1 : bd 1073741824 a
    · rw [mcoef_s ha |>.1 q1]
      simp only [Option.bind_some]
      rw [if_f n10]
      by_cases q2 : bd 1073741824 b
      · rw [mcoef_s hb |>.1 q2]
        simp only [Option.bind_some]
        rw [if_f n10]
        by_cases q3 : bd 1073741824 c
        · obtain ⟨dc1, dc2⟩ := disc_c (D := D) ⟨by omega, by omega⟩ q1 q2 q3
          have u1 := q1.1; have u2 := q1.2; have u3 := q2.1; have u4 := q2.2; have u5 := q3.1; have u6 := q3.2
          rw [mcoef_s hc |>.1 q3]
          simp only [Option.bind_some]
          rw [if_f n10, i36 ha, i36 hb, i36 hc, dc1]
          by_cases q4 : b * b - 4 * a * c = D
          · rw [if_t ((lc_eq dc2 hD6).mpr q4), if_f n10]
            have hg1 : ((Int.gcd a b : Nat) : Int) ≤ 2147483648 := by
              by_cases z0 : a = 0
              · subst z0
                rw [Int.gcd_zero_left]; omega
              · have := Int.gcd_le_natAbs_left (a := a) (b := b) z0; omega
            have hcom1 := mcom_s F (a := a) (b := b) ⟨by omega, by omega⟩ ⟨by omega, by omega⟩ ⟨by omega, by omega⟩ ⟨by omega, by omega⟩ (by omega)
            have hcom2 := mcom_s F (a := ((Int.gcd a b : Nat) : Int)) (b := c) ⟨by omega, by omega⟩ ⟨by omega, by omega⟩ ⟨by omega, by omega⟩ ⟨by omega, by omega⟩ (by omega)
            have hg2 : ((Int.gcd ((Int.gcd a b : Nat) : Int) c : Nat) : Int) ≤ 2147483648 := by
              by_cases z0 : c = 0
              · subst z0
                rw [Int.gcd_zero_right]; omega
              · have := Int.gcd_le_natAbs_right (a := ((Int.gcd a b : Nat) : Int)) (b := c) z0; omega
            have hcond : lg_cmp (i6 (Int.gcd ((Int.gcd a b : Nat) : Int) c : Nat)) 1 = 0 ↔ ((Int.gcd ((Int.gcd a b : Nat) : Int) c : Nat) : Int) = 1 := lc_eq (b := 1) ⟨by omega, by omega⟩ ⟨by decide, by decide⟩
            by_cases q6 : 0 < D
            · rw [if_t ((l_gt0 hD6).mpr q6), hcom1]
              simp only [Option.bind_some]
              rw [hcom2]
              simp only [Option.bind_some]
              by_cases q5 : prim a b c
              · rw [if_t (hcond.mpr (by rw [prim_iff.mp q5]; rfl)), if_f n10]
                refine ⟨fun _ r hr => ?_, fun h => absurd ⟨⟨q1, q2, q3⟩, q4, Or.inl q6, q5⟩ h⟩
                rw [if_f n10, hr]; rfl
              · rw [if_f (fun q => q5 (prim_iff.mpr (by have := hcond.mp q; omega)))]
                exact ⟨fun h => absurd h.2.2.2 q5, fun _ => rfl⟩
            · rw [if_f (fun q => q6 ((l_gt0 hD6).mp q))]
              by_cases q7 : a ≤ 0
              · rw [if_t ((c_ge0 ha).mpr q7)]
                exact ⟨fun h => absurd h.2.2.1 (by omega), fun _ => rfl⟩
              · rw [if_f (fun q => q7 ((c_ge0 ha).mp q)), hcom1]
                simp only [Option.bind_some]
                rw [hcom2]
                simp only [Option.bind_some]
                by_cases q5 : prim a b c
                · rw [if_t (hcond.mpr (by rw [prim_iff.mp q5]; rfl)), if_f n10]
                  refine ⟨fun _ r hr => ?_, fun h => absurd ⟨⟨q1, q2, q3⟩, q4, Or.inr (by omega), q5⟩ h⟩
                  rw [if_f n10, hr]; rfl
                · rw [if_f (fun q => q5 (prim_iff.mpr (by have := hcond.mp q; omega)))]
                  exact ⟨fun h => absurd h.2.2.2 q5, fun _ => rfl⟩
          · rw [if_f (fun q => q4 ((lc_eq dc2 hD6).mp q))]
            exact ⟨fun h => absurd h.2.1 q4, fun _ => rfl⟩
        · rw [mcoef_s hc |>.2 q3]
          exact ⟨fun h => absurd h.1.2.2 q3, fun _ => rfl⟩
      · rw [mcoef_s hb |>.2 q2]
        exact ⟨fun h => absurd h.1.2.1 q2, fun _ => rfl⟩
    · rw [mcoef_s ha |>.2 q1]
      exact ⟨fun h => absurd h.1.1 q1, fun _ => rfl⟩
  by_cases hv : isFz D a b c
  · obtain ⟨⟨u1, u2, u3⟩, v1, v2, v3⟩ := id hv
    have w1 := u1.1; have w2 := u1.2; have w3 := u2.1; have w4 := u2.2; have w5 := u3.1; have w6 := u3.2
    have hf : okF D (a, b, c) := ⟨v1, v3, fun q => by simp only; omega⟩
    have hBd : Bd (a, b, c) := ⟨⟨by simp only; omega, by simp only; omega⟩, ⟨by simp only; omega, by simp only; omega⟩, ⟨by simp only; omega, by simp only; omega⟩⟩
    obtain ⟨g, i, hi, q1, q2, q3, q4, -⟩ := num_s F (by omega) hO hH.2.1 hf hBd
    obtain ⟨k, m1, m2, m3, f1, f2, f3⟩ := mfound_s F (by omega) hO hw hT hg hf hBd
    have : k = i := num_uni hO hH.2.1 f1 hi (fm_trans (fm_symm f3) q4)
    subst this
    simp only at q1 f2
    refine ⟨0, i3 (k : Int), i6 g.1, i6 g.2.1, i6 g.2.2, vp_updL Lv (0 : Int32).toNatClampNeg _, m1, m2, m3, ?_, hm.1 hv _ f2, fun _ => updL_0 _ _⟩
    unfold f_h_classOf f_hr_classOf f_p_classOf
    rw [(isForm_s (by omega) hO ha hb hc).1 hv]
    simp only [Option.bind_some, f_Form_set]
    rw [if_f (by decide), i36 ha, i36 hb, i36 hc, q1]
    simp only [Option.bind_some]
    rw [q2]
    simp only [Option.bind_some]
    rw [q3]
    simp only [Option.bind_some]
    rw [if_t vin01]
  · refine ⟨1, 0, a1, b1, c1, Lv, ma, mb, mc, ?_, hm.2 hv, fun q => absurd q (by decide)⟩
    unfold f_h_classOf f_hr_classOf f_hx_classOf f_p_classOf f_x_classOf
    rw [(isForm_s (by omega) hO ha hb hc).2 hv]; rfl
end Op2
