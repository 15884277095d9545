/-! Bezout.solve -/
def ab (x : Int) : Int := x.natAbs
theorem ab_mul (x y : Int) : ab (x * y) = ab x * ab y := by unfold ab; rw [Int.natAbs_mul]; rfl
theorem ab_nn (x : Int) : 0 ≤ ab x := by unfold ab; omega
theorem ab_tri (x y : Int) : ab (x - y) ≤ ab x + ab y := by unfold ab; omega
theorem ab_bd {M x : Int} : ab x ≤ M ↔ bd M x := by unfold ab bd; constructor <;> intro h <;> omega
theorem ab_pos {x : Int} (h : x ≠ 0) : 1 ≤ ab x := by unfold ab; omega
/-- the numbers of the loop -/
def bzI (x y M r0 s0 t0 r1 s1 t1 : Int) : Prop := s0 * x + t0 * y = r0 ∧ s1 * x + t1 * y = r1 ∧ Int.gcd r0 r1 = Int.gcd x y ∧ ab s0 * ab r1 + ab s1 * ab r0 ≤ ab y ∧ ab t0 * ab r1 + ab t1 * ab r0 ≤ ab x ∧ ab s0 ≤ M ∧ ab t0 ≤ M ∧ ab s1 ≤ M ∧ ab t1 ≤ M
theorem tdiv_abs (a b : Int) : ab a = ab (a.tdiv b) * ab b + ab (a.tmod b) := by
  unfold ab
  rw [Int.natAbs_tdiv, Int.natAbs_tmod]
  have e : (a.natAbs.div b.natAbs) * b.natAbs + a.natAbs % b.natAbs = a.natAbs := by
    show a.natAbs / b.natAbs * b.natAbs + _ = _
    rw [Nat.mul_comm]; exact Nat.div_add_mod _ _
  exact_mod_cast e.symm
theorem bz_step {x y M r0 s0 t0 r1 s1 t1 : Int} (hx : ab x ≤ M) (hy : ab y ≤ M) (h : bzI x y M r0 s0 t0 r1 s1 t1) (hr : r1 ≠ 0) : bzI x y M r1 s1 t1 (r0 - r0.tdiv r1 * r1) (s0 - r0.tdiv r1 * s1) (t0 - r0.tdiv r1 * t1) ∧ r0 - r0.tdiv r1 * r1 = r0.tmod r1 ∧ ab (r0.tmod r1) < ab r1 := by
  obtain ⟨h1, h2, h3, h4, h5, h6, h7, h8, h9⟩ := h
  have em : r0 - r0.tdiv r1 * r1 = r0.tmod r1 := by
    have := Int.tmod_add_mul_tdiv r0 r1
    have e : r0.tdiv r1 * r1 = r1 * r0.tdiv r1 := Int.mul_comm _ _
    omega
  have hlt : ab (r0.tmod r1) < ab r1 := by
    unfold ab
    rw [Int.natAbs_tmod]
    have := Nat.mod_lt r0.natAbs (show 0 < r1.natAbs by omega)
    omega
  have hda := tdiv_abs r0 r1
  have hp := ab_pos hr
  rw [em]
  generalize hq : r0.tdiv r1 = q at *
  generalize hr2 : r0.tmod r1 = r2 at *
  have bound : ∀ u0 u1 Y : Int, ab u0 * ab r1 + ab u1 * ab r0 ≤ Y → ab u1 * ab r2 + ab (u0 - q * u1) * ab r1 ≤ Y := by
    intro u0 u1 Y hY
    have t1 : ab (u0 - q * u1) * ab r1 ≤ (ab u0 + ab q * ab u1) * ab r1 := Int.mul_le_mul_of_nonneg_right (by have := ab_tri u0 (q * u1); rw [ab_mul] at this; exact this) (ab_nn r1)
    rw [hda] at hY
    have e1 : (ab u0 + ab q * ab u1) * ab r1 = ab u0 * ab r1 + ab u1 * (ab q * ab r1) := by grind
    have e2 : ab u1 * (ab q * ab r1 + ab r2) = ab u1 * (ab q * ab r1) + ab u1 * ab r2 := by grind
    omega
  have b1 := bound s0 s1 (ab y) h4
  have b2 := bound t0 t1 (ab x) h5
  have one : ∀ u Y V : Int, 0 ≤ V → V + ab u * ab r1 ≤ Y → ab u ≤ Y := by
    intro u Y V hV hh
    have : ab u * 1 ≤ ab u * ab r1 := Int.mul_le_mul_of_nonneg_left hp (ab_nn u)
    omega
  refine ⟨⟨h2, ?_, ?_, b1, b2, h8, h9, Int.le_trans (one _ _ _ (Int.mul_nonneg (ab_nn _) (ab_nn _)) b1) hy, Int.le_trans (one _ _ _ (Int.mul_nonneg (ab_nn _) (ab_nn _)) b2) hx⟩, rfl, hlt⟩
  · have : (s0 - q * s1) * x + (t0 - q * t1) * y = (s0 * x + t0 * y) - q * (s1 * x + t1 * y) := by grind
    rw [this, h1, h2]; exact em
  · rw [← h3]
    have e : r0 = r2 + q * r1 := by omega
    rw [e, Int.gcd_comm (r2 + q * r1) r1, Int.mul_comm q r1, Int.gcd_add_mul_left_right]
theorem bzL_s (F : Nat) {x y M : Int} (hx : ab x ≤ M) (hy : ab y ≤ M) (hM : M ≤ 1000000) : ∀ (k n : Nat) (r0 s0 t0 r1 s1 t1 : Int) (w : Nat), ab r1 < k → ab r0 ≤ 1000000 → k ≤ n → w + k < 1000000 → bzI x y M r0 s0 t0 r1 s1 t1 →
    ∃ g s t : Int, f_Bz_solve_L27 F n (i6 r1) (i6 s1) (i6 t1) (i3 w) (i6 r0) (i6 s0) (i6 t0) = some (i6 g, i6 s, i6 t) ∧ s * x + t * y = g ∧ ab g = Int.gcd x y ∧ ab s ≤ M ∧ ab t ≤ M ∧ ab g ≤ 1000000 := by
  intro k
  induction k with
  | zero => intro n r0 s0 t0 r1 s1 t1 w h; have := ab_nn r1; omega
  | succ k ih =>
    intro n r0 s0 t0 r1 s1 t1 w h1 h2 h3 h4 hI
    obtain ⟨n', rfl⟩ : ∃ n', n = n' + 1 := ⟨n - 1, by omega⟩
    have rr1 : r6 r1 := by unfold ab at h1; exact ⟨by omega, by omega⟩
    have rr0 : r6 r0 := by unfold ab at h2; exact ⟨by omega, by omega⟩
    rw [f_Bz_solve_L27, if_f (cM w (by omega))]
    by_cases g : r1 = 0
    · rw [if_t ((l_eq0 rr1).mpr g)]
      refine ⟨r0, s0, t0, rfl, hI.1, ?_, hI.2.2.2.2.2.1, hI.2.2.2.2.2.2.1, h2⟩
      rw [← hI.2.2.1, g, Int.gcd_zero_right]; rfl
    · have hs := bz_step hx hy hI g
      have n0 : ¬ i6 r1 = 0 := fun q => g ((d_eq0 rr1).mp q)
      rw [if_f (fun q => g ((l_eq0 rr1).mp q)), if_t n0, (i6_div rr0 rr1 g (by unfold ab at h2; omega)).1]
      show ∃ g s t : Int, f_Bz_solve_L27 F n' (i6 r0 - i6 (r0.tdiv r1) * i6 r1) (i6 s0 - i6 (r0.tdiv r1) * i6 s1) (i6 t0 - i6 (r0.tdiv r1) * i6 t1) (i3 w + i3 1) (i6 r1) (i6 s1) (i6 t1) = _ ∧ _
      rw [i6_mul, i6_mul, i6_mul, i6_sub, i6_sub, i6_sub, i3_add]
      exact ih n' r1 s1 t1 _ _ _ (w + 1) (by rw [hs.2.1]; have := hs.2.2; omega) (by omega) (by omega) (by omega) hs.1
theorem solve_s (F : Nat) (hF : 1000000 ≤ F) {x y : Int} (hx : ab x ≤ 2000) (hy : ab y ≤ 2000) : ∃ s t : Int, f_Bz_solve F (i6 x) (i6 y) = some (i6 (Int.gcd x y : Nat), i6 s, i6 t) ∧ s * x + t * y = (Int.gcd x y : Nat) ∧ ab s ≤ 2000 ∧ ab t ≤ 2000 := by
  have a0 : ab 0 = 0 := rfl
  have a1 : ab 1 = 1 := rfl
  obtain ⟨g, s, t, q1, q2, q3, q4, q5, q6⟩ := bzL_s F (x := x) (y := y) (M := 2000) hx hy (by decide) 3000 F x 1 0 y 0 1 0 (by omega) (by omega) (by omega) (by omega) ⟨by grind, by grind, rfl, by rw [a0, a1]; omega, by rw [a0, a1]; omega, by rw [a1]; decide, by rw [a0]; decide, by rw [a0]; decide, by rw [a1]; decide⟩
  have hU : f_Bz_solve F (i6 x) (i6 y) = (if (0 : Int32) ≤ (lg_cmp (i6 g) 0) then some (i6 g, i6 s, i6 t) else some (-i6 g, -i6 s, -i6 t)) := by
    unfold f_Bz_solve
    have : f_Bz_solve_L27 F F (i6 y) 0 1 0 (i6 x) 1 0 = _ := q1
    rw [this]
    rfl
  have rg : r6 g := by unfold ab at q6; exact ⟨by omega, by omega⟩
  rw [hU]
  by_cases h : 0 ≤ g
  · have eg : g = (Int.gcd x y : Nat) := by rw [← q3]; unfold ab; omega
    rw [if_t ((l_ge0 rg).mpr h)]
    exact ⟨s, t, by rw [← eg], by rw [← eg]; exact q2, q4, q5⟩
  · have eg : -g = (Int.gcd x y : Nat) := by rw [← q3]; unfold ab; omega
    rw [if_f (fun q => h ((l_ge0 rg).mp q)), i6_neg, i6_neg, i6_neg]
    refine ⟨-s, -t, by rw [← eg], ?_, by unfold ab at *; omega, by unfold ab at *; omega⟩
    rw [← eg, ← q2]; grind
