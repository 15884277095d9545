/-! The whole root; which D can be taken -/
theorem i3_shr1 {n : Nat} (h : n < 2147483648) : i3 (n : Int) >>> ((1 : Int32) &&& 31) = i3 ((n / 2 : Nat) : Int) := by
  have e : ∀ m : Nat, i3 (m : Int) = nI m := fun m => Int32.ofInt_eq_ofNat
  rw [e, e, pk_shrN (k := 1) h _ (by decide)]
theorem sq_r {a : Int} {M : Int} (h0 : 0 ≤ a) (h : a ≤ M) : 0 ≤ a * a ∧ a * a ≤ M * M := ⟨Int.mul_nonneg h0 h0, Int.mul_le_mul h h h0 (by omega)⟩
theorem rootL_s (F : Nat) {x : Int} (hx1 : -1048576 ≤ x) (hx2 : x ≤ 1048576) : ∀ (k r n : Nat), r + 2 * 2 ^ k ≤ 2048 → (r = 0 ∨ (r * r : Int) ≤ x) → x < ((r : Int) + 2 * 2 ^ k) * ((r : Int) + 2 * 2 ^ k) → k + 2 ≤ n → ∃ R : Nat, f_rootOf_L6 F (i3 x) n (i3 r) (i3 ((2 ^ k : Nat) : Int)) = some (i3 R) ∧ (R = 0 ∨ (R * R : Int) ≤ x) ∧ x < ((R : Int) + 1) * ((R : Int) + 1) ∧ R < 2048 := by
  intro k
  have hx : r3 x := ⟨by omega, by omega⟩
  induction k with
  | zero =>
    intro r n hr h1 h2 hn
    obtain ⟨n', rfl⟩ : ∃ n', n = n' + 1 + 1 := ⟨n - 2, by omega⟩
    rw [f_rootOf_L6]
    have hr' : (r : Int) ≤ 2046 := by omega
    have b1 : ¬ i3 ((2 ^ 0 : Nat) : Int) ≤ 0 := fun q => by have := (c_ge0 (a := ((2 ^ 0 : Nat) : Int)) ⟨by decide, by decide⟩).mp q; omega
    rw [if_f b1, i3_add, i3_mul]
    have e1 : ((2 ^ 0 : Nat) : Int) = 1 := rfl
    rw [e1]
    have hq := sq_r (a := (r : Int) + 1) (M := 2047) (by omega) (by omega)
    have hq3 : r3 (((r : Int) + 1) * ((r : Int) + 1)) := ⟨by omega, by omega⟩
    have sh : i3 (1 : Int) >>> ((1 : Int32) &&& 31) = i3 0 := rfl
    have e2 : (r : Int) + 2 * 2 ^ 0 = (r : Int) + 2 := by omega
    rw [e2] at h2
    by_cases g : x < ((r : Int) + 1) * ((r : Int) + 1)
    · rw [if_t ((i3_lt hx hq3).mpr g)]
      refine ⟨r, ?_, h1, g, by omega⟩
      show f_rootOf_L6 F (i3 x) (n' + 1) (i3 r) (i3 1 >>> ((1 : Int32) &&& 31)) = _
      rw [sh, f_rootOf_L6, if_t (show i3 0 ≤ 0 by decide)]
    · rw [if_f (fun q => g ((i3_lt hx hq3).mp q))]
      refine ⟨r + 1, ?_, Or.inr (by have : (((r + 1 : Nat) : Int)) = (r : Int) + 1 := by omega
                                    rw [this]; omega), ?_, by omega⟩
      · show f_rootOf_L6 F (i3 x) (n' + 1) (i3 (r + 1)) (i3 1 >>> ((1 : Int32) &&& 31)) = _
        rw [sh, f_rootOf_L6, if_t (show i3 0 ≤ 0 by decide)]
        rfl
      · have : (((r + 1 : Nat) : Int)) + 1 = (r : Int) + 2 := by omega
        rw [this]; exact h2
  | succ k ih =>
    intro r n hr h1 h2 hn
    obtain ⟨n', rfl⟩ : ∃ n', n = n' + 1 := ⟨n - 1, by omega⟩
    have hp : 2 ^ (k + 1) = 2 * 2 ^ k := by rw [Nat.pow_succ, Nat.mul_comm]
    have hpI : (2 : Int) * 2 ^ (k + 1) = 2 * (2 * 2 ^ k) := by rw [Int.pow_succ]; grind
    have hpos : 0 < 2 ^ k := Nat.two_pow_pos k
    have hc : ((2 ^ k : Nat) : Int) = (2 : Int) ^ k := by simp
    have hc1 : ((2 ^ (k + 1) : Nat) : Int) = 2 * (2 : Int) ^ k := by rw [hp]; simp
    have hk1 : 2 ^ (k + 1) ≤ 1024 := by omega
    rw [f_rootOf_L6]
    have b1 : ¬ i3 ((2 ^ (k + 1) : Nat) : Int) ≤ 0 := fun q => by
      have := (c_ge0 (a := ((2 ^ (k + 1) : Nat) : Int)) ⟨by omega, by omega⟩).mp q
      omega
    rw [if_f b1, i3_add, i3_mul]
    have hq := sq_r (a := (r : Int) + ((2 ^ (k + 1) : Nat) : Int)) (M := 2048) (by omega) (by omega)
    have hq3 : r3 (((r : Int) + ((2 ^ (k + 1) : Nat) : Int)) * ((r : Int) + ((2 ^ (k + 1) : Nat) : Int))) := ⟨by omega, by omega⟩
    have sh : i3 ((2 ^ (k + 1) : Nat) : Int) >>> ((1 : Int32) &&& 31) = i3 ((2 ^ k : Nat) : Int) := by
      rw [i3_shr1 (by omega)]
      congr 2
      omega
    by_cases g : x < ((r : Int) + ((2 ^ (k + 1) : Nat) : Int)) * ((r : Int) + ((2 ^ (k + 1) : Nat) : Int))
    · rw [if_t ((i3_lt hx hq3).mpr g)]
      show ∃ R : Nat, f_rootOf_L6 F (i3 x) n' (i3 r) (i3 ((2 ^ (k + 1) : Nat) : Int) >>> ((1 : Int32) &&& 31)) = _ ∧ _
      rw [sh]
      refine ih r n' (by omega) h1 ?_ (by omega)
      rw [hc1] at g; exact g
    · rw [if_f (fun q => g ((i3_lt hx hq3).mp q))]
      show ∃ R : Nat, f_rootOf_L6 F (i3 x) n' (i3 ((r : Int) + ((2 ^ (k + 1) : Nat) : Int))) (i3 ((2 ^ (k + 1) : Nat) : Int) >>> ((1 : Int32) &&& 31)) = _ ∧ _
      rw [sh]
      have e : (r : Int) + ((2 ^ (k + 1) : Nat) : Int) = ((r + 2 ^ (k + 1) : Nat) : Int) := by omega
      rw [e] at g ⊢
      refine ih (r + 2 ^ (k + 1)) n' (by omega) (Or.inr (by omega)) ?_ (by omega)
      have e3 : (((r + 2 ^ (k + 1) : Nat) : Int)) + 2 * 2 ^ k = (r : Int) + 2 * 2 ^ (k + 1) := by rw [hpI]; omega
      rw [e3]; exact h2
theorem rootOf_s (F : Nat) (hF : 100 ≤ F) {x : Int} (hx1 : -1048576 ≤ x) (hx2 : x ≤ 1048576) : ∃ R : Nat, f_rootOf F (i3 x) = some (i3 R) ∧ (R = 0 ∨ (R * R : Int) ≤ x) ∧ x < ((R : Int) + 1) * ((R : Int) + 1) ∧ R < 2048 := by
  obtain ⟨R, h1, h2⟩ := rootL_s F hx1 hx2 10 0 F (by decide) (Or.inl rfl) (by omega) (by omega)
  refine ⟨R, ?_, h2⟩
  unfold f_rootOf
  have : f_rootOf_L6 F (i3 x) F 0 1024 = some (i3 R) := h1
  rw [this]; rfl
theorem cD1 {a : Int} (h : r3 a) : i3 a < (-1048576 : Int32) ↔ a < -1048576 := by
  rw [show (-1048576 : Int32) = i3 (-1048576) from rfl]; exact i3_lt h ⟨by decide, by decide⟩
theorem cD2 {a : Int} (h : r3 a) : (1048576 : Int32) < i3 a ↔ 1048576 < a := by
  rw [show (1048576 : Int32) = i3 1048576 from rfl]; exact i3_lt ⟨by decide, by decide⟩ h
/-- D can be taken -/
def takeable (D : Int) : Prop := -1048576 ≤ D ∧ D ≤ 1048576 ∧ D % 4 ≤ 1 ∧ ∀ x : Int, x * x ≠ D
theorem canTake_t (F : Nat) (hF : 100 ≤ F) {D : Int} (h : takeable D) : f_canTake F (i3 D) = some 1 := by
  obtain ⟨h1, h2, h3, h4⟩ := h
  have hD : r3 D := ⟨by omega, by omega⟩
  obtain ⟨R, hR, hR1, hR2, hR3⟩ := rootOf_s F hF h1 h2
  unfold f_canTake
  have c1 : ¬ i3 D < (-1048576) := fun q => by have := (cD1 hD).mp q; omega
  have c2 : ¬ (1048576 : Int32) < i3 D := fun q => by have := (cD2 hD).mp q; omega
  rw [if_f c1, if_f c2]
  have hm : f_fmodI F (i3 D) 4 = some (i3 (D % 4)) := fmodI_s F hD (b := 4) ⟨by decide, by decide⟩ (by decide)
  rw [hm]
  simp only [Option.bind_some]
  have c3 : i3 (D % 4) ≤ 1 := (i3_le (a := D % 4) (b := 1) ⟨by omega, by omega⟩ ⟨by decide, by decide⟩).mpr h3
  rw [if_t c3, hR]
  simp only [Option.bind_some]
  rw [i3_mul]
  have hq := sq_r (a := (R : Int)) (M := 2047) (by omega) (by omega)
  have c4 : ¬ i3 ((R : Int) * R) = i3 D := fun q => h4 R ((i3_eq ⟨by omega, by omega⟩ hD).mp q)
  rw [if_f c4]
theorem canTake_f (F : Nat) (hF : 100 ≤ F) {D : Int} (hD : r3 D) (h : ¬ takeable D) : f_canTake F (i3 D) = some 0 := by
  unfold f_canTake
  by_cases g1 : D < -1048576
  · rw [if_t ((cD1 hD).mpr g1)]
  · have c1 : ¬ i3 D < (-1048576) := fun q => by have := (cD1 hD).mp q; omega
    rw [if_f c1]
    by_cases g2 : 1048576 < D
    · rw [if_t ((cD2 hD).mpr g2)]
    · have c2 : ¬ (1048576 : Int32) < i3 D := fun q => by have := (cD2 hD).mp q; omega
      rw [if_f c2]
      have hm : f_fmodI F (i3 D) 4 = some (i3 (D % 4)) := fmodI_s F hD (b := 4) ⟨by decide, by decide⟩ (by decide)
      rw [hm]
      simp only [Option.bind_some]
      by_cases g3 : D % 4 ≤ 1
      · have c3 : i3 (D % 4) ≤ 1 := (i3_le (a := D % 4) (b := 1) ⟨by omega, by omega⟩ ⟨by decide, by decide⟩).mpr g3
        obtain ⟨R, hR, hR1, hR2, hR3⟩ := rootOf_s F hF (show -1048576 ≤ D by omega) (show D ≤ 1048576 by omega)
        rw [if_t c3, hR]
        simp only [Option.bind_some]
        rw [i3_mul]
        have hq := sq_r (a := (R : Int)) (M := 2047) (by omega) (by omega)
        have hex : ∃ x : Int, x * x = D := Classical.byContradiction fun hn => h ⟨by omega, by omega, g3, fun x hx => hn ⟨x, hx⟩⟩
        obtain ⟨x, hxx⟩ := hex
        have hRD : (R : Int) * R = D := by
          have hxn : ((x.natAbs : Nat) : Int) * (x.natAbs : Nat) = D := by rw [← hxx]; exact Int.natAbs_mul_self' x
          have hy0 : (0 : Int) ≤ ((x.natAbs : Nat) : Int) := by omega
          generalize ((x.natAbs : Nat) : Int) = y at hxn hy0
          have hD0 : 0 ≤ D := by
            rw [← hxx]
            rcases Int.le_total 0 x with g | g
            · exact Int.mul_nonneg g g
            · exact Int.mul_nonneg_of_nonpos_of_nonpos g g
          have hle : (R : Int) * R ≤ D := by
            rcases hR1 with g | g
            · subst g; simpa using hD0
            · exact g
          have k1 : y ≤ R := by
            by_cases g : y ≤ R
            · exact g
            · have := Int.mul_le_mul (show (R : Int) + 1 ≤ y by omega) (show (R : Int) + 1 ≤ y by omega) (by omega) hy0
              omega
          have k2 : (R : Int) ≤ y := by
            by_cases g : (R : Int) ≤ y
            · exact g
            · have := Int.mul_le_mul (show y + 1 ≤ (R : Int) by omega) (show y + 1 ≤ (R : Int) by omega) (by omega) (by omega)
              have e : (y + 1) * (y + 1) = y * y + 2 * y + 1 := by grind
              omega
          have : (R : Int) = y := by omega
          rw [this]; exact hxn
        rw [if_t ((i3_eq ⟨by omega, by omega⟩ hD).mpr hRD)]
      · have c3 : ¬ i3 (D % 4) ≤ 1 := fun q => g3 ((i3_le (a := D % 4) (b := 1) ⟨by omega, by omega⟩ ⟨by decide, by decide⟩).mp q)
        rw [if_f c3]
