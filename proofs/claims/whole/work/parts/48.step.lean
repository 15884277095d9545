/-! step and isReduced of the class -/
def ftop (D R c : Int) : Int := if 0 < D ∧ (c.natAbs : Int) ≤ R then R else c.natAbs
theorem rho_b {T a b c : Int} (hc : c ≠ 0) : (rho T (a, b, c)).2.1 = T - (T + b) % (2 * c.natAbs) := by
  rw [rho_def]
  simp only
  unfold rhok
  by_cases h : c < 0
  · rw [if_pos h]
    have e : (2 * (c.natAbs : Int)) = 2 * -c := by omega
    rw [e]
    have := Int.emod_add_mul_ediv (T + b) (2 * -c)
    have e2 : 2 * c * -((T + b) / (2 * -c)) = 2 * -c * ((T + b) / (2 * -c)) := by grind
    omega
  · rw [if_neg h]
    have e : (2 * (c.natAbs : Int)) = 2 * c := by omega
    rw [e]
    have := Int.emod_add_mul_ediv (T + b) (2 * c)
    omega
theorem rho_c {T D a b c : Int} (hD : fdisc (a, b, c) = D) : (rho T (a, b, c)).2.1 * (rho T (a, b, c)).2.1 - D = 4 * c * (rho T (a, b, c)).2.2 := by
  have h := rho_disc T (a, b, c)
  rw [hD] at h
  have e : (rho T (a, b, c)).1 = c := rfl
  simp only [fdisc] at h
  rw [e] at h
  omega
theorem c4_s : (4 : Int64) = i6 4 := rfl
theorem c2_s : (2 : Int64) = i6 2 := rfl
def bd (M x : Int) : Prop := -M ≤ x ∧ x ≤ M
theorem mul_bd {M N x y : Int} (hx : bd M x) (hy : bd N y) (hM : 0 ≤ M) (hN : 0 ≤ N) : bd (M * N) (x * y) := by
  obtain ⟨x1, x2⟩ := hx
  obtain ⟨y1, y2⟩ := hy
  have h1 : 0 ≤ (M - x) * (N + y) := Int.mul_nonneg (by omega) (by omega)
  have h2 : 0 ≤ (M + x) * (N - y) := Int.mul_nonneg (by omega) (by omega)
  have h3 : 0 ≤ (M - x) * (N - y) := Int.mul_nonneg (by omega) (by omega)
  have h4 : 0 ≤ (M + x) * (N + y) := Int.mul_nonneg (by omega) (by omega)
  constructor
  · have : (M - x) * (N + y) + (M + x) * (N - y) = 2 * (M * N) - 2 * (x * y) := by grind
    have : (M - x) * (N - y) + (M + x) * (N + y) = 2 * (M * N) + 2 * (x * y) := by grind
    omega
  · have : (M - x) * (N + y) + (M + x) * (N - y) = 2 * (M * N) - 2 * (x * y) := by grind
    omega
/-- what is common to the three ways through step: from the top on -/
theorem step_tail (F : Nat) {D T a b c : Int} (hD : bd 1048576 D) (hT : bd 2147483648 T) (hb : bd 2147483648 b) (hc : bd 2147483648 c) (hc0 : c ≠ 0) (hT0 : 0 ≤ T) (hTc : (c.natAbs : Int) ≤ T) (hd : fdisc (a, b, c) = D) :
    Option.bind (f_fmodJ F (i6 T + i6 b) (2 * i6 (c.natAbs : Nat))) (fun r_2 => bnd (i6 T - r_2) (fun v6_3 => (if ¬ (4 * i6 c) = 0 then Option.bind (f_Form_set F (i6 c) v6_3 (((v6_3 * v6_3) - (i3 D).toInt64) / (4 * i6 c))) (fun (u_a1_4, u_b1_5, u_c1_6) => some (u_a1_4, u_b1_5, u_c1_6)) else none))) = some (i6 (rho T (a, b, c)).1, i6 (rho T (a, b, c)).2.1, i6 (rho T (a, b, c)).2.2) := by
  have hb1 := hb.1; have hb2 := hb.2; have hc1 := hc.1; have hc2 := hc.2; have hD1 := hD.1; have hD2 := hD.2; have hT2 := hT.2
  rw [c2_s, i6_add, i6_mul, fmodJ_s F ⟨by omega, by omega⟩ ⟨by omega, by omega⟩ (by omega)]
  simp only [Option.bind_some]
  show (if ¬ (4 * i6 c) = 0 then Option.bind (f_Form_set F (i6 c) (i6 T - i6 ((T + b) % (2 * (c.natAbs : Int)))) ((((i6 T - i6 ((T + b) % (2 * (c.natAbs : Int)))) * (i6 T - i6 ((T + b) % (2 * (c.natAbs : Int))))) - (i3 D).toInt64) / (4 * i6 c))) (fun (u_a1_4, u_b1_5, u_c1_6) => some (u_a1_4, u_b1_5, u_c1_6)) else none) = _
  rw [i6_sub, ← rho_b (T := T) (a := a) (b := b) hc0, c4_s, i6_mul, i6_mul, i36 (a := D) ⟨by omega, by omega⟩, i6_sub, rho_c (T := T) hd]
  have hm1 := Int.emod_nonneg (T + b) (show (2 * (c.natAbs : Int)) ≠ 0 by omega)
  have hm2 := Int.emod_lt_of_pos (T + b) (show 0 < (2 * (c.natAbs : Int)) by omega)
  have hbb := rho_b (T := T) (a := a) (b := b) hc0
  have hb' : bd 4294967296 (rho T (a, b, c)).2.1 := by rw [hbb]; exact ⟨by omega, by omega⟩
  have n4 : ¬ i6 (4 * c) = 0 := fun q => by have := (d_eq0 (a := 4 * c) ⟨by omega, by omega⟩).mp q; omega
  rw [if_t n4]
  have hq : r6 (4 * c * (rho T (a, b, c)).2.2) := by
    rw [← rho_c (T := T) hd]
    have hw : bd 2147483648 (rho T (a, b, c)).2.1 := by rw [hbb]; exact ⟨by omega, by omega⟩
    have := mul_bd hw hw (by omega) (by omega)
    exact ⟨by have := this.1; omega, by have := this.2; omega⟩
  rw [(i6_div (a := 4 * c * (rho T (a, b, c)).2.2) (b := 4 * c) hq ⟨by omega, by omega⟩ (by omega) (by omega)).1, Int.mul_tdiv_cancel_left _ (show 4 * c ≠ 0 by omega)]
  rfl
theorem step_s (F : Nat) {D R a b c : Int} (hD : bd 1048576 D) (hR0 : 0 ≤ R) (hR1 : R < 2048) (hb : bd 2147483648 b) (hc : bd 2147483648 c) (hc0 : c ≠ 0) (hd : fdisc (a, b, c) = D) :
    f_step F (i3 D) (i3 R) (i6 a) (i6 b) (i6 c) = some (i6 (rho (ftop D R c) (a, b, c)).1, i6 (rho (ftop D R c) (a, b, c)).2.1, i6 (rho (ftop D R c) (a, b, c)).2.2) := by
  have hb1 := hb.1; have hb2 := hb.2; have hc1 := hc.1; have hc2 := hc.2; have hD1 := hD.1; have hD2 := hD.2
  have hD3 : r3 D := ⟨by omega, by omega⟩
  have hR3 : r3 R := ⟨by omega, by omega⟩
  unfold f_step
  rw [absJ_s F (a := c) ⟨by omega, by omega⟩]
  simp only [Option.bind_some]
  have n0 : ¬ lg_cmp (i6 (c.natAbs : Nat)) 0 = 0 := fun q => by have := (l_eq0 (a := (c.natAbs : Nat)) ⟨by omega, by omega⟩).mp q; omega
  rw [if_f n0]
  by_cases g : D ≤ 0
  · rw [if_t ((c_ge0 hD3).mpr g)]
    have e : ftop D R c = (c.natAbs : Nat) := if_neg (by omega)
    rw [e]
    exact step_tail F hD ⟨by omega, by omega⟩ hb hc hc0 (by omega) (by omega) hd
  · rw [if_f (fun q => g ((c_ge0 hD3).mp q)), i36 hR3]
    by_cases g2 : R < (c.natAbs : Nat)
    · rw [if_t ((lc_gt (a := (c.natAbs : Nat)) (b := R) ⟨by omega, by omega⟩ ⟨by omega, by omega⟩).mpr g2)]
      have e : ftop D R c = (c.natAbs : Nat) := if_neg (by omega)
      rw [e]
      exact step_tail F hD ⟨by omega, by omega⟩ hb hc hc0 (by omega) (by omega) hd
    · rw [if_f (fun q => g2 ((lc_gt (a := (c.natAbs : Nat)) (b := R) ⟨by omega, by omega⟩ ⟨by omega, by omega⟩).mp q))]
      have e : ftop D R c = R := if_pos (by omega)
      rw [e]
      exact step_tail F hD ⟨by omega, by omega⟩ hb hc hc0 (by omega) (by omega) hd
