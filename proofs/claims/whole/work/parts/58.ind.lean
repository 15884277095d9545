theorem mn_sq {f : FT} : mn f * mn f ≤ (f.1.natAbs : Int) * (f.2.2.natAbs : Int) ∧ 0 ≤ mn f := by
  unfold mn
  split
  · exact ⟨Int.mul_le_mul_of_nonneg_left (by omega) (by omega), by omega⟩
  · exact ⟨Int.mul_le_mul_of_nonneg_right (by omega) (by omega), by omega⟩
theorem fred_ac {f : FT} (hf : fred f) : (f.1.natAbs : Int) * (f.2.2.natAbs : Int) = -(f.1 * f.2.2) := by
  rcases hf.1 with h | h
  · rw [show (f.1.natAbs : Int) = f.1 by omega, show (f.2.2.natAbs : Int) = -f.2.2 by omega]; grind
  · rw [show (f.1.natAbs : Int) = -f.1 by omega, show (f.2.2.natAbs : Int) = f.2.2 by omega]; grind
theorem inner2_s (F : Nat) (hF : 1000000 ≤ F) {D R : Int} (hO : okD D R) (h0 : 0 < D) (hC : capD D R) {b ac : Int} (hb0 : 0 < b) (hbR : b ≤ R) (hD : D = b * b + 4 * ac) : ∀ (k n : Nat) (s : Int) (cl rf : Nat) (An : Nat → Int32) (x y z : Int64), 0 < s → s ≤ 600 → 700 - s < k → k ≤ n → R < 2 * s + b → isNm An cl (Spr2 D R b s) → cntF rf (Cpre D b s) →
    ∃ (cl' rf' : Nat) (An' : Nat → Int32) (x' y' z' : Int64), f_nameInd_L36 F (i3 D) (i3 R) (i3 b) (i3 ac) n (i3 s) (i3 cl) (i3 rf) An x y z = some (i3 cl', i3 rf', An', x', y', z') ∧ isNm An' cl' (Spr2 D R (b + 1) 0) ∧ cntF rf' (Cpre D (b + 1) 0) := by
  have hR := (hO.2.1 h0).1
  have hRb := (hO.2.1 h0).2
  have hns := hO.1.2.2.2
  have hD2 := hO.1.2.1
  have hac0 : 0 < ac := by
    have : b * b ≤ R * R := Int.mul_le_mul hbR hbR (by omega) hR.1
    have := hR.2.1
    have := hns b
    omega
  have hac1 : ac ≤ 262144 := by
    have : 0 < b * b := Int.mul_pos hb0 hb0
    omega
  intro k
  induction k with
  | zero => intro n s cl rf An x y z h1 h2 h3; omega
  | succ k ih =>
    intro n s cl rf An x y z h1 h2 h3 h4 h5 hN hK
    obtain ⟨n', rfl⟩ : ∃ n', n = n' + 1 := ⟨n - 1, by omega⟩
    rw [f_nameInd_L36, i3_mul]
    have hsq := sq_le (show bd 600 s from ⟨by omega, h2⟩)
    have hsq0 : 0 ≤ s * s := Int.mul_nonneg (by omega) (by omega)
    have small : ∀ f : FT, okF D f → fred f → f.2.1 = b → ac < s * s → mn f < s := by
      intro f q1 q2 q3 q4
      have hm := mn_sq (f := f)
      rw [fred_ac q2] at hm
      have hd := q1.1
      simp only [fdisc] at hd
      rw [q3] at hd
      have e : 4 * f.1 * f.2.2 = 4 * (f.1 * f.2.2) := by grind
      by_cases q : mn f < s
      · exact q
      · have : s * s ≤ mn f * mn f := Int.mul_le_mul (by omega) (by omega) (by omega) (by omega)
        omega
    by_cases g : ac < s * s
    · rw [if_t ((i3_lt (a := ac) (b := s * s) ⟨by omega, by omega⟩ ⟨by omega, by omega⟩).mpr g)]
      refine ⟨cl, rf, An, x, y, z, rfl, isNm_iff hN fun w => ?_, cnt_iff hK fun f => ?_⟩
      · constructor
        · rintro ⟨f, q1, q2, q3⟩; exact ⟨f, q1, q2, by omega⟩
        · rintro ⟨f, q1, q2, q3⟩
          obtain ⟨a1, a2, -⟩ := (name_p hO h0).mp q1
          refine ⟨f, q1, q2, ?_⟩
          by_cases q : f.2.1 < b
          · exact Or.inl q
          · have hm := (mn_sq (f := f)).2
            have hb : f.2.1 = b := by omega
            exact Or.inr ⟨hb, small f a1 a2 hb g⟩
      · constructor
        · rintro ⟨q1, q2, q3⟩; exact ⟨q1, q2, by omega⟩
        · rintro ⟨q1, q2, q3⟩
          refine ⟨q1, q2, ?_⟩
          by_cases q : f.2.1 < b
          · exact Or.inl q
          · have hm := (mn_sq (f := f)).2
            have hb : f.2.1 = b := by omega
            exact Or.inr ⟨hb, small f q1 q2 hb g⟩
    · rw [if_f (fun q => g ((i3_lt (a := ac) (b := s * s) ⟨by omega, by omega⟩ ⟨by omega, by omega⟩).mp q))]
      have hs512 : s ≤ 512 := by
        by_cases q : s ≤ 512
        · exact q
        · have : 513 * 513 ≤ s * s := Int.mul_le_mul (by omega) (by omega) (by omega) (by omega)
          omega
      have n4 : ¬ i3 s = 0 := fun q => by have := (c_eq0 (a := s) ⟨by omega, by omega⟩).mp q; omega
      have e2 : i3 s + 1 = i3 (s + 1) := by show i3 s + i3 1 = _; rw [i3_add]
      rw [if_t n4, i3_rem ⟨by omega, by omega⟩ ⟨by omega, by omega⟩ (by omega) (by omega), (tmod_pos (a := ac) (b := s) h1).1 (by omega), e2]
      by_cases g2 : ac % s = 0
      · rw [if_t ((c_eq0 (a := ac % s) ⟨by omega, by omega⟩).mpr g2), if_t n4, (i3_div (a := ac) (b := s) ⟨by omega, by omega⟩ ⟨by omega, by omega⟩ (by omega) (by omega)).1]
        obtain ⟨t, ht⟩ := Int.dvd_of_emod_eq_zero g2
        have hst : s ≤ t := by
          have : s * s ≤ s * t := by omega
          exact Int.le_of_mul_le_mul_left this h1
        have ht2 : t ≤ 262144 := by
          have : 1 * t ≤ s * t := Int.mul_le_mul_of_nonneg_right (by omega) (by omega)
          omega
        have etd : ac.tdiv s = t := by rw [ht, Int.mul_tdiv_cancel_left _ (show s ≠ 0 by omega)]
        rw [etd]
        obtain ⟨cl1, rf1, A1, x1, y1, z1, q1, q2, q3⟩ := keepInd_s F hF hO h0 hC hb0 hbR h1 hst ht2 (by rw [hD, ht]) h5 hN hK x y z
        rw [q1]
        simp only [Option.bind_some]
        exact ih n' (s + 1) cl1 rf1 A1 x1 y1 z1 (by omega) (by omega) (by omega) (by omega) (by omega) q2 q3
      · rw [if_f (fun q => g2 ((c_eq0 (a := ac % s) ⟨by have := Int.emod_nonneg ac (show s ≠ 0 by omega); omega, by have := Int.emod_lt_of_pos ac h1; omega⟩).mp q))]
        have hno : ∀ f : FT, okF D f → fred f → f.2.1 = b → mn f = s → False := by
          intro f q1 q2 q3 q4
          apply g2
          have hd := q1.1
          simp only [fdisc] at hd
          rw [q3] at hd
          have e : 4 * f.1 * f.2.2 = 4 * (f.1 * f.2.2) := by grind
          have hfa := fred_ac q2
          have hac : ac = (f.1.natAbs : Int) * (f.2.2.natAbs : Int) := by omega
          rw [hac]
          unfold mn at q4
          split at q4
          · rw [q4]; exact Int.mul_emod_right _ _
          · rw [q4]; exact Int.mul_emod_left _ _
        refine ih n' (s + 1) cl rf An x y z (by omega) (by omega) (by omega) (by omega) (by omega) (isNm_iff hN fun w => ?_) (cnt_iff hK fun f => ?_)
        · rw [Spr2_step]
          refine ⟨Or.inl, fun h => h.elim id ?_⟩
          rintro ⟨f, q1, q2, q3, q4⟩
          obtain ⟨a1, a2, -⟩ := (name_p hO h0).mp q1
          exact (hno f a1 a2 q3 q4).elim
        · rw [Cpre_step]
          refine ⟨Or.inl, fun h => h.elim id ?_⟩
          rintro ⟨q1, q2, q3, q4⟩
          exact (hno f q1 q2 q3 q4).elim
theorem mn_ge {D R : Int} (hR : isRoot D R) (hns : ∀ x : Int, x * x ≠ D) {f : FT} (hf : fred f) (hD : fdisc f = D) : R < 2 * mn f + f.2.1 := by
  obtain ⟨-, w2, -, w4, -⟩ := fred_win hR hns hf hD
  unfold mn
  split <;> omega
theorem outer2_s (F : Nat) (hF : 1000000 ≤ F) {D R : Int} (hO : okD D R) (h0 : 0 < D) (hC : capD D R) : ∀ (k n : Nat) (b : Int) (cl rf : Nat) (An : Nat → Int32) (x y z : Int64), 0 < b → b ≤ 1030 → 1100 - b < k → k ≤ n → b % 2 = D % 2 → isNm An cl (Spr2 D R b 0) → cntF rf (Cpre D b 0) →
    ∃ (cl' rf' : Nat) (An' : Nat → Int32) (x' y' z' : Int64), f_nameInd_L6 F (i3 D) (i3 R) n (i3 b) (i3 cl) (i3 rf) An x y z = some (i3 cl', i3 rf', An', x', y', z') ∧ isNm An' cl' (AllN D R) ∧ cntF rf' (fun f => okF D f ∧ redI D R f) := by
  have hR := (hO.2.1 h0).1
  have hRb := (hO.2.1 h0).2
  have hns := hO.1.2.2.2
  have hD2 := hO.1.2.1
  have hr0 := hR.1
  intro k
  induction k with
  | zero => intro n b cl rf An x y z h1 h2 h3; omega
  | succ k ih =>
    intro n b cl rf An x y z h1 h2 h3 h4 h5 hN hK
    obtain ⟨n', rfl⟩ : ∃ n', n = n' + 1 := ⟨n - 1, by omega⟩
    rw [f_nameInd_L6]
    by_cases g : R < b
    · rw [if_t ((i3_lt (a := R) (b := b) ⟨by omega, by omega⟩ ⟨by omega, by omega⟩).mpr g)]
      refine ⟨cl, rf, An, x, y, z, rfl, isNm_iff hN fun w => ?_, cnt_iff hK fun f => ?_⟩
      · constructor
        · rintro ⟨f, q1, q2, -⟩; exact ⟨f, q1, q2⟩
        · rintro ⟨f, q1, q2⟩
          obtain ⟨a1, a2, -⟩ := (name_p hO h0).mp q1
          have := (fred_win hR hns a2 a1.1).1
          exact ⟨f, q1, q2, by omega⟩
      · constructor
        · rintro ⟨q1, q2, -⟩; exact ⟨q1, (redI_fred hR hns h0 q1.1).mpr q2⟩
        · rintro ⟨q1, q2⟩
          have q3 := (redI_fred hR hns h0 q1.1).mp q2
          have := (fred_win hR hns q3 q1.1).1
          exact ⟨q1, q3, by omega⟩
    · rw [if_f (fun q => g ((i3_lt (a := R) (b := b) ⟨by omega, by omega⟩ ⟨by omega, by omega⟩).mp q)), i3_mul, i3_sub, i3_sub]
      have hbb : b * b ≤ R * R := Int.mul_le_mul (by omega) (by omega) (by omega) hr0
      have hsq0 : 0 ≤ b * b := Int.mul_nonneg (by omega) (by omega)
      have hr1 := hR.2.1
      have h4d : (D - b * b) % 4 = 0 := by
        have ht := hO.1.2.2.1
        rcases Int.emod_two_eq b with q | q
        · obtain ⟨j, hj⟩ : ∃ j, b = 2 * j := ⟨b / 2, by omega⟩
          have : b * b = 4 * (j * j) := by rw [hj]; grind
          omega
        · obtain ⟨j, hj⟩ : ∃ j, b = 2 * j + 1 := ⟨b / 2, by omega⟩
          have : b * b = 4 * (j * j + j) + 1 := by rw [hj]; grind
          omega
      obtain ⟨ac, hac⟩ := Int.dvd_of_emod_eq_zero h4d
      have e1 : i3 (D - b * b) / 4 = i3 ac := by
        rw [show (4 : Int32) = i3 4 from rfl, (i3_div (a := D - b * b) (b := 4) ⟨by omega, by omega⟩ ⟨by decide, by decide⟩ (by decide) (by omega)).1, hac, Int.mul_tdiv_cancel_left _ (by decide)]
      have e2 : i3 (R - b) / 2 + 1 = i3 ((R - b) / 2 + 1) := by
        rw [show (2 : Int32) = i3 2 from rfl, (i3_div (a := R - b) (b := 2) ⟨by omega, by omega⟩ ⟨by decide, by decide⟩ (by decide) (by omega)).1, Int.tdiv_eq_ediv_of_nonneg (by omega)]
        show i3 ((R - b) / 2) + i3 1 = _
        rw [i3_add]
      show ∃ cl' rf' An' x' y' z', Option.bind (f_nameInd_L36 F (i3 D) (i3 R) (i3 b) (i3 (D - b * b) / 4) F (i3 (R - b) / 2 + 1) (i3 cl) (i3 rf) An x y z) (fun (y_cl_26, y_rf_27, y_An_28, y_a1_29, y_b1_30, y_c1_31) => f_nameInd_L6 F (i3 D) (i3 R) n' (i3 b + 2) y_cl_26 y_rf_27 y_An_28 y_a1_29 y_b1_30 y_c1_31) = _ ∧ _
      rw [e1, e2]
      obtain ⟨cl1, rf1, A1, x1, y1, z1, q1, q2, q3⟩ := inner2_s F hF hO h0 hC h1 (by omega) (ac := ac) (by omega) 800 F ((R - b) / 2 + 1) cl rf An x y z (by omega) (by omega) (by omega) (by omega) (by omega) (isNm_iff hN fun w => by
        constructor
        · rintro ⟨f, q1, q2, q3⟩; exact ⟨f, q1, q2, by have := (mn_sq (f := f)).2; omega⟩
        · rintro ⟨f, q1, q2, q3⟩
          obtain ⟨a1, a2, -⟩ := (name_p hO h0).mp q1
          have := mn_ge hR hns a2 a1.1
          exact ⟨f, q1, q2, by omega⟩) (cnt_iff hK fun f => by
        constructor
        · rintro ⟨q1, q2, q3⟩; exact ⟨q1, q2, by have := (mn_sq (f := f)).2; omega⟩
        · rintro ⟨q1, q2, q3⟩
          have := mn_ge hR hns q2 q1.1
          exact ⟨q1, q2, by omega⟩)
      rw [q1]
      simp only [Option.bind_some]
      show ∃ cl' rf' An' x' y' z', f_nameInd_L6 F (i3 D) (i3 R) n' (i3 b + i3 2) (i3 cl1) (i3 rf1) A1 x1 y1 z1 = _ ∧ _
      rw [i3_add]
      refine ih n' (b + 2) cl1 rf1 A1 x1 y1 z1 (by omega) (by omega) (by omega) (by omega) (by omega) (isNm_iff q2 fun w => ?_) (cnt_iff q3 fun f => ?_)
      · constructor
        · rintro ⟨f, r1, r2, r3⟩; exact ⟨f, r1, r2, by have := (mn_sq (f := f)).2; omega⟩
        · rintro ⟨f, r1, r2, r3⟩
          have := disc_par r1.1.1
          have := (mn_sq (f := f)).2
          exact ⟨f, r1, r2, by omega⟩
      · constructor
        · rintro ⟨r1, r2, r3⟩; exact ⟨r1, r2, by have := (mn_sq (f := f)).2; omega⟩
        · rintro ⟨r1, r2, r3⟩
          have := disc_par r1.1
          have := (mn_sq (f := f)).2
          exact ⟨r1, r2, by omega⟩
theorem nameInd_s (F : Nat) (hF : 1000000 ≤ F) {D R : Int} (hO : okD D R) (h0 : 0 < D) (hC : capD D R) (An : Nat → Int32) (x y z : Int64) : ∃ (cl' rf' : Nat) (An' : Nat → Int32) (x' y' z' : Int64), f_nameInd F (i3 D) (i3 R) 0 0 An x y z = some (i3 cl', i3 rf', An', x', y', z') ∧ isNm An' cl' (AllN D R) ∧ cntF rf' (fun f => okF D f ∧ redI D R f) := by
  have hD1 := hO.1.1; have hD2 := hO.1.2.1
  have hp := okD_ne hO
  have hempty : ∀ f : FT, okF D f → fred f → ¬ (f.2.1 < (if D % 2 = 1 then 1 else 2) ∨ (f.2.1 = (if D % 2 = 1 then 1 else 2) ∧ mn f < 0)) := by
    intro f q1 q2 q3
    have := q2.2.1; have := q2.2.2
    have := (mn_sq (f := f)).2
    have := disc_par q1.1
    split at q3 <;> omega
  have hN : isNm An 0 (Spr2 D R (if D % 2 = 1 then 1 else 2) 0) := ⟨fun _ => 0, fun i hi => absurd hi (by omega), fun i j _ hj => absurd hj (by omega), fun w => ⟨fun ⟨f, q1, q2, q3⟩ => by
    obtain ⟨a1, a2, -⟩ := (name_p hO h0).mp q1
    exact absurd q3 (hempty f a1 a2), fun ⟨i, hi, _⟩ => absurd hi (by omega)⟩⟩
  have hK : cntF 0 (Cpre D (if D % 2 = 1 then 1 else 2) 0) := ⟨fun _ => (0, 0, 0), fun i j hi => absurd hi (by omega), fun f => ⟨fun ⟨q1, q2, q3⟩ => absurd q3 (hempty f q1 q2), fun ⟨i, hi, _⟩ => absurd hi (by omega)⟩⟩
  obtain ⟨cl', rf', An', x', y', z', q1, q2, q3⟩ := outer2_s F hF hO h0 hC 1200 F (if D % 2 = 1 then 1 else 2) 0 0 An x y z (by split <;> decide) (by split <;> decide) (by split <;> omega) (by omega) (by split <;> omega) hN hK
  refine ⟨cl', rf', An', x', y', z', ?_, q2, q3⟩
  unfold f_nameInd
  rw [likeD_1 F ⟨by omega, by omega⟩]
  simp only [Option.bind_some]
  have : f_nameInd_L6 F (i3 D) (i3 R) F (i3 (if D % 2 = 1 then 1 else 2)) 0 0 An x y z = _ := q1
  rw [this]
  rfl
