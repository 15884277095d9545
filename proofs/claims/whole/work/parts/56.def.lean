def AllN (D R : Int) : Int → Prop := fun z => ∃ f, isName D R f ∧ keyI f = z
theorem inner_s (F : Nat) (hF : 4000 ≤ F) {D R : Int} (hO : okD D R) (hn : D < 0) (hC : capD D R) {a : Int} (ha : 0 < a) (ha2 : a ≤ 591) : ∀ (k n : Nat) (b : Int) (cl : Nat) (An : Nat → Int32), 0 ≤ b → a + 2 - b < k → k ≤ n → b % 2 = D % 2 → b ≤ a + 2 → isNm An cl (Spre D R a b) →
    ∃ (cl' : Nat) (An' : Nat → Int32), f_nameDef_L21 F (i3 D) (i3 a) n (i3 b) (i3 cl) (i3 cl) An = some (i3 cl', i3 cl', An') ∧ isNm An' cl' (Spre D R (a + 1) 0) := by
  have hD1 := hO.1.1; have hD2 := hO.1.2.1
  intro k
  induction k with
  | zero => intro n b cl An h0 h1 h2 h3 h4 h5; omega
  | succ k ih =>
    intro n b cl An h0 h1 h2 h3 h4 h5
    obtain ⟨n', rfl⟩ : ∃ n', n = n' + 1 := ⟨n - 1, by omega⟩
    rw [f_nameDef_L21]
    by_cases g : a < b
    · rw [if_t ((i3_lt (a := a) (b := b) ⟨by omega, by omega⟩ ⟨by omega, by omega⟩).mpr g)]
      refine ⟨cl, An, rfl, isNm_iff h5 fun z => ?_⟩
      constructor
      · rintro ⟨f, q1, q2, q3⟩; exact ⟨f, q1, q2, by omega⟩
      · rintro ⟨f, q1, q2, q3⟩
        have := (name_rng hO hn q1).2.2.2
        exact ⟨f, q1, q2, by omega⟩
    · rw [if_f (fun q => g ((i3_lt (a := a) (b := b) ⟨by omega, by omega⟩ ⟨by omega, by omega⟩).mp q)), i3_mul, i3_sub]
      have hsq := sq_le (show bd 591 b from ⟨by omega, by omega⟩)
      have hsq0 : 0 ≤ b * b := Int.mul_nonneg h0 h0
      have e4 : (4 : Int32) * i3 a = i3 (4 * a) := by rw [show (4 : Int32) = i3 4 from rfl, i3_mul]
      have n4 : ¬ i3 (4 * a) = 0 := fun q => by have := (c_eq0 (a := 4 * a) ⟨by omega, by omega⟩).mp q; omega
      have e2 : i3 b + 2 = i3 (b + 2) := by show i3 b + i3 2 = _; rw [i3_add]
      show ∃ cl' An', (if ¬ (4 : Int32) * i3 a = 0 then (if (i3 (b * b - D) - i3 (b * b - D) / ((4 : Int32) * i3 a) * ((4 : Int32) * i3 a)) = 0 then (if ¬ (4 : Int32) * i3 a = 0 then Option.bind (f_keepDef F (i3 cl) (i3 cl) An (i3 a) (i3 b) (i3 (b * b - D) / ((4 : Int32) * i3 a))) (fun (u_cl_12, u_rf_13, u_An_14) => f_nameDef_L21 F (i3 D) (i3 a) n' (i3 b + 2) u_cl_12 u_rf_13 u_An_14) else none) else f_nameDef_L21 F (i3 D) (i3 a) n' (i3 b + 2) (i3 cl) (i3 cl) An) else none) = _ ∧ _
      rw [e4, e2, if_t n4, i3_rem ⟨by omega, by omega⟩ ⟨by omega, by omega⟩ (by omega) (by omega)]
      have tm := tmod_pos (a := b * b - D) (b := 4 * a) (by omega)
      rw [tm.1 (by omega)]
      by_cases g2 : (b * b - D) % (4 * a) = 0
      · rw [if_t ((c_eq0 (a := (b * b - D) % (4 * a)) ⟨by omega, by omega⟩).mpr g2), if_t n4, (i3_div (a := b * b - D) (b := 4 * a) ⟨by omega, by omega⟩ ⟨by omega, by omega⟩ (by omega) (by omega)).1]
        obtain ⟨c, hc⟩ := Int.dvd_of_emod_eq_zero g2
        rw [hc, Int.mul_tdiv_cancel_left _ (show 4 * a ≠ 0 by omega)]
        obtain ⟨A1, cl1, q1, q2⟩ := keepDef_s F hF hO hn hC ha ha2 h0 (by omega) (c := c) (by simp only [fdisc]; omega) h5
        rw [q1]
        simp only [Option.bind_some]
        exact ih n' (b + 2) cl1 A1 (by omega) (by omega) (by omega) (by omega) (by omega) q2
      · rw [if_f (fun q => g2 ((c_eq0 (a := (b * b - D) % (4 * a)) ⟨by have := Int.emod_nonneg (b * b - D) (show 4 * a ≠ 0 by omega); omega, by have := Int.emod_lt_of_pos (b * b - D) (show 0 < 4 * a by omega); omega⟩).mp q))]
        refine ih n' (b + 2) cl An (by omega) (by omega) (by omega) (by omega) (by omega) (isNm_iff h5 fun z => ?_)
        rw [Spre_step h0 h3]
        refine ⟨Or.inl, fun h => h.elim id ?_⟩
        rintro ⟨f, q1, q2, q3, q4⟩
        exfalso
        apply g2
        have hd := q1.1.1
        simp only [fdisc] at hd
        rw [q3] at hd
        have hbb : f.2.1 * f.2.1 = b * b := by rcases q4 with h | h <;> rw [h] <;> grind
        have : b * b - D = 4 * a * f.2.2 := by omega
        rw [this, Int.mul_emod_right]
theorem outer_s (F : Nat) (hF : 4000 ≤ F) {D R : Int} (hO : okD D R) (hn : D < 0) (hC : capD D R) : ∀ (k n : Nat) (a : Int) (cl : Nat) (An : Nat → Int32), 0 < a → a ≤ 592 → 593 - a < k → k ≤ n → isNm An cl (Spre D R a 0) →
    ∃ (cl' : Nat) (An' : Nat → Int32), f_nameDef_L2 F (i3 D) n (i3 a) (i3 cl) (i3 cl) An = some (i3 cl', i3 cl', An') ∧ isNm An' cl' (AllN D R) := by
  have hD1 := hO.1.1; have hD2 := hO.1.2.1
  intro k
  induction k with
  | zero => intro n a cl An h0 h1 h2; omega
  | succ k ih =>
    intro n a cl An h0 h1 h2 h3 h4
    obtain ⟨n', rfl⟩ : ∃ n', n = n' + 1 := ⟨n - 1, by omega⟩
    rw [f_nameDef_L2, i3_neg, show (3 : Int32) = i3 3 from rfl, i3_mul, i3_mul]
    have hsq := sq_le (show bd 592 a from ⟨by omega, h1⟩)
    have hsq0 : 0 ≤ a * a := Int.mul_nonneg (by omega) (by omega)
    have e3 : 3 * a * a = 3 * (a * a) := by grind
    by_cases g : -D < 3 * a * a
    · rw [if_t ((i3_lt (a := -D) (b := 3 * a * a) ⟨by omega, by omega⟩ ⟨by omega, by omega⟩).mpr g)]
      refine ⟨cl, An, rfl, isNm_iff h4 fun z => ?_⟩
      constructor
      · rintro ⟨f, q1, q2, -⟩; exact ⟨f, q1, q2⟩
      · rintro ⟨f, q1, q2⟩
        obtain ⟨r1, r2, r3, -⟩ := name_rng hO hn q1
        refine ⟨f, q1, q2, Or.inl ?_⟩
        by_cases q : f.1 < a
        · exact q
        · have : a * a ≤ f.1 * f.1 := Int.mul_le_mul (by omega) (by omega) (by omega) (by omega)
          omega
    · rw [if_f (fun q => g ((i3_lt (a := -D) (b := 3 * a * a) ⟨by omega, by omega⟩ ⟨by omega, by omega⟩).mp q)), likeD_0 F ⟨by omega, by omega⟩]
      simp only [Option.bind_some]
      have ha2 : a ≤ 591 := by
        by_cases q : a ≤ 591
        · exact q
        · have : 592 * 592 ≤ a * a := Int.mul_le_mul (by omega) (by omega) (by omega) (by omega)
          omega
      obtain ⟨cl1, A1, q1, q2⟩ := inner_s F hF hO hn hC h0 ha2 700 F (D % 2) cl An (by omega) (by omega) (by omega) (by omega) (by omega) (isNm_iff h4 fun z => by
        constructor
        · rintro ⟨f, q1, q2, q3⟩; exact ⟨f, q1, q2, by omega⟩
        · rintro ⟨f, q1, q2, q3⟩
          have := disc_par q1.1.1
          exact ⟨f, q1, q2, by omega⟩)
      rw [q1]
      simp only [Option.bind_some]
      show ∃ cl' An', f_nameDef_L2 F (i3 D) n' (i3 a + i3 1) (i3 cl1) (i3 cl1) A1 = _ ∧ _
      rw [i3_add]
      exact ih n' (a + 1) cl1 A1 (by omega) (by omega) (by omega) (by omega) q2
theorem nameDef_s (F : Nat) (hF : 4000 ≤ F) {D R : Int} (hO : okD D R) (hn : D < 0) (hC : capD D R) (An : Nat → Int32) : ∃ (cl' : Nat) (An' : Nat → Int32), f_nameDef F (i3 D) 0 0 An = some (i3 cl', i3 cl', An') ∧ isNm An' cl' (AllN D R) := by
  have h0 : isNm An 0 (Spre D R 1 0) := ⟨fun _ => 0, fun i hi => absurd hi (by omega), fun i j _ hj => absurd hj (by omega), fun z => ⟨fun ⟨f, q1, q2, q3⟩ => by have := (name_rng hO hn q1).1; omega, fun ⟨i, hi, _⟩ => absurd hi (by omega)⟩⟩
  obtain ⟨cl', An', q1, q2⟩ := outer_s F hF hO hn hC 700 F 1 0 An (by decide) (by decide) (by omega) (by omega) h0
  refine ⟨cl', An', ?_, q2⟩
  unfold f_nameDef
  have : f_nameDef_L2 F (i3 D) F 1 0 0 An = _ := q1
  rw [this]
  rfl
