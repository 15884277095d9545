/-! Reduction comes to its end -/
def stI (D R : Int) (f : FT) : FT := rho (ftop D R f.2.2) f
def Bd (f : FT) : Prop := bd 2147483648 f.1 ∧ bd 2147483648 f.2.1 ∧ bd 2147483648 f.2.2
theorem c_ne {D : Int} (hns : ∀ x : Int, x * x ≠ D) {f : FT} (hD : fdisc f = D) : f.2.2 ≠ 0 := by
  intro h
  simp only [fdisc] at hD
  rw [h] at hD
  exact hns f.2.1 (by rw [← hD]; grind)
theorem a_ne {D : Int} (hns : ∀ x : Int, x * x ≠ D) {f : FT} (hD : fdisc f = D) : f.1 ≠ 0 := by
  intro h
  simp only [fdisc] at hD
  rw [h] at hD
  exact hns f.2.1 (by rw [← hD]; grind)
theorem stI_disc (D R : Int) (f : FT) : fdisc (stI D R f) = fdisc f := rho_disc _ f
theorem stI_eqv (D R : Int) (f : FT) : fm_eqv f.1 f.2.1 f.2.2 (stI D R f).1 (stI D R f).2.1 (stI D R f).2.2 := rho_eqv _ f
theorem ftop_ge {D R c : Int} : (c.natAbs : Int) ≤ ftop D R c := by
  unfold ftop
  split
  · omega
  · omega
/-- b of the next form lies in the window below the top -/
theorem rho_win2 {T : Int} {f : FT} (hc : f.2.2 ≠ 0) : (rho T f).2.1 ≤ T ∧ T < (rho T f).2.1 + 2 * (f.2.2.natAbs : Int) := by
  obtain ⟨a, b, c⟩ := f
  simp only at hc ⊢
  rw [rho_b hc]
  have h1 := Int.emod_nonneg (T + b) (show (2 * (c.natAbs : Int)) ≠ 0 by omega)
  have h2 := Int.emod_lt_of_pos (T + b) (show 0 < (2 * (c.natAbs : Int)) by omega)
  omega
theorem sq_le {x M : Int} (h : bd M x) : x * x ≤ M * M := by
  have h1 := h.1; have h2 := h.2
  have := mul_bd h h (by omega) (by omega)
  exact this.2
theorem rho_cc {T D : Int} {f : FT} (hD : fdisc f = D) : (rho T f).2.1 * (rho T f).2.1 - D = 4 * (f.2.2 * (rho T f).2.2) := by
  obtain ⟨a, b, c⟩ := f
  rw [rho_c hD]; simp only; grind
theorem abs_mul_le {x y M : Int} (h1 : -M ≤ x * y) (h2 : x * y ≤ M) : (x.natAbs : Int) * (y.natAbs : Int) ≤ M := by
  have : ((x * y).natAbs : Int) ≤ M := by omega
  rw [Int.natAbs_mul] at this
  omega
theorem stI_bd {D R : Int} (hD1 : bd 1048576 D) (hR0 : 0 ≤ R) (hR : R < 2048) {f : FT} (hc : f.2.2 ≠ 0) (hD : fdisc f = D) (hf : Bd f) : Bd (stI D R f) := by
  have hw := rho_win2 (T := ftop D R f.2.2) hc
  have hcc := rho_cc (T := ftop D R f.2.2) hD
  have hc1 := hf.2.2.1; have hc2 := hf.2.2.2; have d1 := hD1.1; have d2 := hD1.2
  refine ⟨hf.2.2, ?_, ?_⟩
  · show bd 2147483648 (rho (ftop D R f.2.2) f).2.1
    unfold ftop at hw ⊢
    split at hw <;> rename_i g
    · rw [if_pos g]; exact ⟨by omega, by omega⟩
    · rw [if_neg g]; exact ⟨by omega, by omega⟩
  · show bd 2147483648 (rho (ftop D R f.2.2) f).2.2
    have hC : (1 : Int) ≤ (f.2.2.natAbs : Int) := by omega
    have hB : bd (if 0 < D ∧ (f.2.2.natAbs : Int) ≤ R then R else (f.2.2.natAbs : Int)) (rho (ftop D R f.2.2) f).2.1 := by
      unfold ftop at hw ⊢
      split at hw <;> rename_i g
      · rw [if_pos g]; exact ⟨by omega, by omega⟩
      · rw [if_neg g]; exact ⟨by omega, by omega⟩
    generalize (rho (ftop D R f.2.2) f).2.1 = B at *
    generalize (rho (ftop D R f.2.2) f).2.2 = C' at *
    have hsq := sq_le hB
    have hsq0 : 0 ≤ B * B := by
      rcases Int.le_total 0 B with h | h
      · exact Int.mul_nonneg h h
      · exact Int.mul_nonneg_of_nonpos_of_nonpos h h
    by_cases g : 0 < D ∧ (f.2.2.natAbs : Int) ≤ R
    · rw [if_pos g] at hsq
      have hRR : R * R ≤ 2048 * 2048 := Int.mul_le_mul (by omega) (by omega) hR0 (by omega)
      have := abs_mul_le (x := f.2.2) (y := C') (M := 2097152) (by omega) (by omega)
      have h1 : 1 * (C'.natAbs : Int) ≤ (f.2.2.natAbs : Int) * (C'.natAbs : Int) := Int.mul_le_mul_of_nonneg_right hC (by omega)
      exact ⟨by omega, by omega⟩
    · rw [if_neg g] at hsq
      generalize hn : (f.2.2.natAbs : Int) = N at *
      have hN : N ≤ 2147483648 := by omega
      have hfac : N * N ≤ 2147483648 * N := Int.mul_le_mul_of_nonneg_right hN (by omega)
      have := abs_mul_le (x := f.2.2) (y := C') (M := (N * N + 1048576) / 4 + 1) (by omega) (by omega)
      rw [hn] at this
      have h2 : (N * N + 1048576) / 4 + 1 ≤ N * 2147483648 := by
        have : 2147483648 ≤ N * 2147483648 := by
          have := Int.mul_le_mul_of_nonneg_right hC (show (0 : Int) ≤ 2147483648 by omega)
          omega
        have e : 2147483648 * N = N * 2147483648 := Int.mul_comm _ _
        omega
      have h3 : N * (C'.natAbs : Int) ≤ N * 2147483648 := by omega
      have h4 := Int.le_of_mul_le_mul_left h3 (by omega)
      exact ⟨by omega, by omega⟩
/-- D above 0 -/
theorem indA {D R : Int} (hR : isRoot D R) (h0 : 0 < D) {f : FT} (hD : fdisc f = D) (hc : f.2.2 ≠ 0) (hg : R < (f.2.2.natAbs : Int)) : 4 * ((stI D R f).2.2.natAbs : Int) ≤ (f.2.2.natAbs : Int) := by
  have hw := rho_win2 (T := ftop D R f.2.2) hc
  have hcc := rho_cc (T := ftop D R f.2.2) hD
  have ht : ftop D R f.2.2 = (f.2.2.natAbs : Int) := if_neg (by omega)
  show 4 * ((rho (ftop D R f.2.2) f).2.2.natAbs : Int) ≤ _
  rw [ht] at hw hcc ⊢
  generalize (rho (f.2.2.natAbs : Int) f).2.1 = B at *
  generalize (rho (f.2.2.natAbs : Int) f).2.2 = C' at *
  generalize hn : (f.2.2.natAbs : Int) = N at *
  have hsq := sq_le (show bd N B from ⟨by omega, by omega⟩)
  have hsq0 : 0 ≤ B * B := by
    rcases Int.le_total 0 B with h | h
    · exact Int.mul_nonneg h h
    · exact Int.mul_nonneg_of_nonpos_of_nonpos h h
  have hDN : D ≤ N * N := by
    have : (R + 1) * (R + 1) ≤ N * N := Int.mul_le_mul (by omega) (by omega) (by have := hR.1; omega) (by omega)
    have := hR.2.2
    omega
  have e : f.2.2 * (4 * C') = 4 * (f.2.2 * C') := by grind
  have := abs_mul_le (x := f.2.2) (y := 4 * C') (M := N * N) (by omega) (by omega)
  rw [hn] at this
  have h4 := Int.le_of_mul_le_mul_left this (by omega)
  omega
theorem ind16 {D R : Int} (hR : isRoot D R) (hns : ∀ x : Int, x * x ≠ D) (h0 : 0 < D) : ∀ (k : Nat) (f : FT), fdisc f = D → (f.2.2.natAbs : Int) < 4 ^ k → ∃ m, m ≤ k ∧ ((itr (stI D R) m f).2.2.natAbs : Int) ≤ R := by
  intro k
  induction k with
  | zero => intro f hD h; have := c_ne hns hD; simp at h; omega
  | succ k ih =>
    intro f hD h
    by_cases g : (f.2.2.natAbs : Int) ≤ R
    · exact ⟨0, by omega, g⟩
    · have h4 := indA hR h0 hD (c_ne hns hD) (by omega)
      have e : (4 : Int) ^ (k + 1) = 4 * 4 ^ k := by rw [Int.pow_succ, Int.mul_comm]
      obtain ⟨m, hm, hle⟩ := ih (stI D R f) (by rw [stI_disc]; exact hD) (by omega)
      exact ⟨m + 1, by omega, hle⟩
theorem indB {D R : Int} (hR : isRoot D R) (hns : ∀ x : Int, x * x ≠ D) (h0 : 0 < D) {f : FT} (hD : fdisc f = D) (hg : (f.2.2.natAbs : Int) ≤ R) : redI D R (stI D R f) ∨ redI D R (stI D R (stI D R f)) := by
  have hc := c_ne hns hD
  have key : ∀ f : FT, fdisc f = D → f.2.2 ≠ 0 → 2 * (f.2.2.natAbs : Int) ≤ R → redI D R (stI D R f) := by
    intro f hD hc h2
    have ht : ftop D R f.2.2 = R := if_pos ⟨h0, by omega⟩
    have hw := rho_win2 (T := ftop D R f.2.2) hc
    have e1 : (stI D R f).1 = f.2.2 := rfl
    refine ⟨fun q => by omega, fun _ => ?_⟩
    rw [e1]
    show 0 < (rho (ftop D R f.2.2) f).2.1 ∧ (rho (ftop D R f.2.2) f).2.1 ≤ R ∧ _
    rw [ht] at hw
    have e2 : (stI D R f).2.1 = (rho R f).2.1 := by unfold stI; rw [ht]
    rw [e2, ht]
    omega
  by_cases h2 : 2 * (f.2.2.natAbs : Int) ≤ R
  · exact Or.inl (key f hD hc h2)
  · right
    have hD' : fdisc (stI D R f) = D := by rw [stI_disc]; exact hD
    refine key (stI D R f) hD' (c_ne hns hD') ?_
    have ht : ftop D R f.2.2 = R := if_pos ⟨h0, hg⟩
    have hw := rho_win2 (T := ftop D R f.2.2) hc
    have hcc := rho_cc (T := ftop D R f.2.2) hD
    show 2 * ((rho (ftop D R f.2.2) f).2.2.natAbs : Int) ≤ R
    rw [ht] at hw hcc ⊢
    generalize (rho R f).2.1 = B at *
    generalize (rho R f).2.2 = C' at *
    generalize hn : (f.2.2.natAbs : Int) = N at *
    have hsq := sq_le (show bd R B from ⟨by omega, by omega⟩)
    have hsq0 : 0 ≤ B * B := by
      rcases Int.le_total 0 B with h | h
      · exact Int.mul_nonneg h h
      · exact Int.mul_nonneg_of_nonpos_of_nonpos h h
    have r1 := hR.2.1; have r2 := hR.2.2
    have e1 : (R + 1) * (R + 1) = R * R + 2 * R + 1 := by grind
    have e : f.2.2 * (4 * C') = 4 * (f.2.2 * C') := by grind
    have := abs_mul_le (x := f.2.2) (y := 4 * C') (M := D) (by omega) (by omega)
    rw [hn] at this
    have e4 : ((4 * C').natAbs : Int) = 4 * (C'.natAbs : Int) := by omega
    rw [e4] at this
    -- N at least (R + 1) / 2
    have h5 : (R + 1) * (4 * (C'.natAbs : Int)) ≤ 2 * N * (4 * (C'.natAbs : Int)) := Int.mul_le_mul_of_nonneg_right (by omega) (by omega)
    have e6 : 2 * N * (4 * (C'.natAbs : Int)) = 2 * (N * (4 * (C'.natAbs : Int))) := by grind
    have h7 : (R + 1) * (2 * (C'.natAbs : Int)) < (R + 1) * (R + 1) := by
      have : (R + 1) * (4 * (C'.natAbs : Int)) = 2 * ((R + 1) * (2 * (C'.natAbs : Int))) := by grind
      omega
    have := Int.lt_of_mul_lt_mul_left h7 (by have := hR.1; omega)
    omega
