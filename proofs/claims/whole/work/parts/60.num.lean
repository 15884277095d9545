/-! A name by its number; the number of a class -/
theorem name_bd {D R : Int} (hO : okD D R) {f : FT} (hf : isName D R f) : bd 1023 f.1 ∧ bd 1023 f.2.1 ∧ bd 1048576 f.2.2 ∧ f.1 ≠ 0 := by
  have hns := hO.1.2.2.2
  rcases Int.lt_or_gt_of_ne (okD_ne hO) with g0 | g0
  · obtain ⟨r1, r2, r3, r4⟩ := name_rng hO g0 hf
    have hc := c_pos g0 hf.1.1 r1
    have hd := hf.1.1
    simp only [fdisc] at hd
    have hsq := sq_le (show bd 591 f.2.1 from ⟨by omega, by omega⟩)
    have h4 : 1 * f.2.2 ≤ f.1 * f.2.2 := Int.mul_le_mul_of_nonneg_right (by omega) (by omega)
    have e : 4 * f.1 * f.2.2 = 4 * (f.1 * f.2.2) := by grind
    have := hO.1.1
    exact ⟨⟨by omega, by omega⟩, ⟨by omega, by omega⟩, ⟨by omega, by omega⟩, by omega⟩
  · obtain ⟨a1, a2, -⟩ := (name_p hO g0).mp hf
    obtain ⟨r1, r2, r3, r4, -⟩ := fred_rng (hO.2.1 g0).1 (hO.2.1 g0).2 hns a2 a1.1
    exact ⟨r1, ⟨by omega, by omega⟩, ⟨by have := r4.1; omega, by have := r4.2; omega⟩, a_ne hns a1.1⟩
theorem isClass_t (F : Nat) {cl : Nat} (hcl : cl ≤ 1908) {k : Int} (hk : r3 k) : ((0 ≤ k ∧ k < cl) → f_isClass F (i3 cl) (i3 k) = some 1) ∧ (¬ (0 ≤ k ∧ k < cl) → f_isClass F (i3 cl) (i3 k) = some 0) := by
  have h1 := c_lt0 hk
  have h2 := i3_le (a := (cl : Int)) (b := k) ⟨by omega, by omega⟩ hk
  unfold f_isClass
  refine ⟨fun h => ?_, fun h => ?_⟩
  · rw [if_f (fun q => by have := h1.mp q; omega), if_f (fun q => by have := h2.mp q; omega)]
  · by_cases g : k < 0
    · rw [if_t (h1.mpr g)]
    · rw [if_f (fun q => g (h1.mp q)), if_t (h2.mpr (by omega))]
theorem setTo_s (F : Nat) {D R : Int} (hO : okD D R) {An : Nat → Int32} {cl : Nat} {fm : Nat → FT} (hN : isNF D R An cl fm) {i : Nat} (hi : i < cl) (x y z : Int64) : f_setTo F (i3 D) (i3 cl) An x y z (i3 i) = some (i6 (fm i).1, i6 (fm i).2.1, i6 (fm i).2.2) := by
  have hcl := hN.1
  have hD1 := hO.1.1; have hD2 := hO.1.2.1
  have hnm := (hN.2.1 i hi).1
  obtain ⟨b1, b2, b3, b4⟩ := name_bd hO hnm
  have hd := hnm.1.1
  unfold f_setTo
  rw [(isClass_t F hcl (k := (i : Int)) ⟨by omega, by omega⟩).1 (by omega)]
  simp only [Option.bind_some]
  rw [if_f (show ¬ (1 : Int32) = 0 by decide), if_t (vin_i3 (a := (i : Int)) (n := 1908) (by omega) (by omega) (by decide))]
  have hA : An (i3 (i : Int)).toNatClampNeg = i3 (keyI (fm i)) := by rw [i3_nat ⟨by omega, by omega⟩]; exact (hN.2.1 _ (by omega)).2
  rw [hA]
  generalize fm i = f at *
  obtain ⟨a, b, c⟩ := f
  simp only [fdisc] at *
  have a1 := b1.1; have a2 := b1.2; have c1 := b2.1; have c2 := b2.2; have d1 := b3.1; have d2 := b3.2
  simp only [keyI]
  show Option.bind (f_fdivI F (i3 (a * 4096 + b) + 2048) 4096) (fun r_3 => bnd (i3 (a * 4096 + b) - (r_3 * 4096)) (fun v5_4 => (if r_3 = 0 then some (x, y, z) else (if ¬ (4 * r_3) = 0 then Option.bind (f_Form_set F ((r_3).toInt64) ((v5_4).toInt64) (((((v5_4 * v5_4) - i3 D) / (4 * r_3))).toInt64)) (fun (u_a1_5, u_b1_6, u_c1_7) => some (u_a1_5, u_b1_6, u_c1_7)) else none)))) = _
  rw [show (2048 : Int32) = i3 2048 from rfl, i3_add, show (4096 : Int32) = i3 4096 from rfl, fdivI_s F ⟨by omega, by omega⟩ ⟨by decide, by decide⟩ (by decide)]
  simp only [Option.bind_some]
  have ea : (a * 4096 + b + 2048) / 4096 = a := by omega
  rw [ea, i3_mul, i3_sub]
  have eb : a * 4096 + b - a * 4096 = b := by omega
  show (if i3 a = 0 then some (x, y, z) else (if ¬ (4 * i3 a) = 0 then Option.bind (f_Form_set F ((i3 a).toInt64) ((i3 (a * 4096 + b - a * 4096)).toInt64) (((((i3 (a * 4096 + b - a * 4096) * i3 (a * 4096 + b - a * 4096)) - i3 D) / (4 * i3 a))).toInt64)) (fun (u_a1_5, u_b1_6, u_c1_7) => some (u_a1_5, u_b1_6, u_c1_7)) else none)) = _
  have n4 : ¬ i3 (4 * a) = 0 := fun q => by have := (c_eq0 (a := 4 * a) ⟨by omega, by omega⟩).mp q; omega
  rw [eb, if_f (fun q => b4 ((c_eq0 (a := a) ⟨by omega, by omega⟩).mp q)), show (4 : Int32) = i3 4 from rfl, i3_mul, if_t n4, i3_mul, i3_sub]
  have hbb := sq_le b2
  have hbb0 : 0 ≤ b * b := by
    rcases Int.le_total 0 b with h | h
    · exact Int.mul_nonneg h h
    · exact Int.mul_nonneg_of_nonpos_of_nonpos h h
  have e4 : b * b - D = 4 * a * c := by omega
  have hr4 : r3 (4 * a * c) := by rw [← e4]; exact ⟨by omega, by omega⟩
  rw [e4, (i3_div (a := 4 * a * c) (b := 4 * a) hr4 ⟨by omega, by omega⟩ (by omega) (by omega)).1, Int.mul_tdiv_cancel_left _ (show 4 * a ≠ 0 by omega), i36 ⟨by omega, by omega⟩, i36 ⟨by omega, by omega⟩, i36 ⟨by omega, by omega⟩]
  rfl
theorem rho_itr_eqv (R : Int) (f : FT) : ∀ i : Nat, fm_eqv f.1 f.2.1 f.2.2 (itr (rho R) i f).1 (itr (rho R) i f).2.1 (itr (rho R) i f).2.2 := by
  intro i
  induction i with
  | zero => exact fm_refl _ _ _
  | succ i ih => rw [itr_succ]; exact fm_trans ih (rho_eqv R _)
/-- the least key of a reduced form's class is that of a name -/
theorem least_num (F : Nat) (hF : 1000000 ≤ F) {D R : Int} (hO : okD D R) {An : Nat → Int32} {cl : Nat} {fm : Nat → FT} (hN : isNF D R An cl fm) {g : FT} (hg : okF D g) (hr : redI D R g) :
    ∃ i, i < cl ∧ f_leastKey F (i3 D) (i3 R) (i6 g.1) (i6 g.2.1) (i6 g.2.2) = some (i3 (keyI (fm i)), i6 g.1, i6 g.2.1, i6 g.2.2) ∧ fm_eqv g.1 g.2.1 g.2.2 (fm i).1 (fm i).2.1 (fm i).2.2 := by
  have hns := hO.1.2.2.2
  rcases Int.lt_or_gt_of_ne (okD_ne hO) with g0 | g0
  · obtain ⟨i, hi, e⟩ := hN.2.2.2 g ⟨hg, hr, fun q => by omega⟩
    exact ⟨i, hi, by rw [leastKey_d F hO g0 g, e], by rw [e]; exact fm_refl _ _ _⟩
  · have hR := (hO.2.1 g0).1
    have hf := (redI_fred hR hns g0 hg.1).mp hr
    obtain ⟨r, q1, ⟨j, q2⟩, q3⟩ := leastKey_s F hF hO g0 hf hg
    have hI := itr_rho hR hns hf hg.1 j
    have he := rho_itr_eqv R g j
    have hname : isName D R (itr (rho R) j g) := (name_p hO g0).mpr ⟨⟨hI.2, fm_prim he hg.2.1, fun q => by omega⟩, hI.1, fun m => by
      rw [← itr_add, ← q2]; exact q3 _⟩
    obtain ⟨i, hi, e⟩ := hN.2.2.2 _ hname
    exact ⟨i, hi, by rw [q1, q2, e], by rw [e]; exact he⟩
/-- reduce, leastKey and classAt in a row: the number of a form's class -/
theorem num_s (F : Nat) (hF : 1000000 ≤ F) {D R : Int} (hO : okD D R) {An : Nat → Int32} {cl : Nat} {fm : Nat → FT} (hN : isNF D R An cl fm) {f : FT} (hf : okF D f) (hB : Bd f) :
    ∃ (g : FT) (i : Nat), i < cl ∧ f_reduce F (i3 D) (i3 R) (i6 f.1) (i6 f.2.1) (i6 f.2.2) = some (i6 g.1, i6 g.2.1, i6 g.2.2) ∧ f_leastKey F (i3 D) (i3 R) (i6 g.1) (i6 g.2.1) (i6 g.2.2) = some (i3 (keyI (fm i)), i6 g.1, i6 g.2.1, i6 g.2.2) ∧ f_classAt F (i3 cl) An (i3 (keyI (fm i))) = some (i3 i) ∧ fm_eqv f.1 f.2.1 f.2.2 (fm i).1 (fm i).2.1 (fm i).2.2 ∧ okF D g ∧ redI D R g ∧ Bd g := by
  obtain ⟨g, q1, q2, q3, q4, q5⟩ := reduce_s F hF hO hf hB
  obtain ⟨i, hi, p1, p2⟩ := least_num F hF hO hN q2 q4
  exact ⟨g, i, hi, q1, p1, classAt_s F (by omega) hO hN hi, fm_trans q5 p2, q2, q4, q3⟩
/-- the number of a form's class is one -/
theorem num_uni {D R : Int} (hO : okD D R) {An : Nat → Int32} {cl : Nat} {fm : Nat → FT} (hN : isNF D R An cl fm) {i j : Nat} (hi : i < cl) (hj : j < cl) (h : fm_eqv (fm i).1 (fm i).2.1 (fm i).2.2 (fm j).1 (fm j).2.1 (fm j).2.2) : i = j := by
  have e := name_uni hO (hN.2.1 i hi).1 (hN.2.1 j hj).1 h
  rcases Nat.lt_trichotomy i j with q | q | q
  · have := hN.2.2.1 i j q hj; rw [e] at this; omega
  · exact q
  · have := hN.2.2.1 j i q hi; rw [e] at this; omega
