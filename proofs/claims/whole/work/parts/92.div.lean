/-! divisors up to 1024 of the number k + i + 1, k the start of a block -/
def divS (k u : Nat) : Nat := (u - (k + 1) % u) % u
def divV (k : Nat) : Nat → Nat → Nat
  | 0, V => V
  | n + 1, V => frc (V + Nat.shiftLeft (row 12 (n + 1) (262144 / (n + 1) + 1) 1) (12 * divS k (n + 1))) (divV k n)
def divR (k i u : Nat) : Nat := if rc (u + 1) i (divS k (u + 1)) then 1 else 0
theorem div_rep (k : Nat) : ∀ (n V : Nat) (f : Nat → Nat), pkr 12 262144 V f → pkr 12 262144 (divV k n V) (fun i => f i + sm (divR k i) n) := by
  intro n
  induction n with
  | zero => intro V f h; exact h
  | succ n ih =>
    intro V f h
    show pkr _ _ (frc _ _) _
    rw [frc_eq]
    have h3 := row_rep (s := n + 1) (w := 12) (N := 262144) (by omega) (by omega) (pkr_at (w := 12) (N := 262144) (by omega) (divS k (n + 1))) (M := 262144 / (n + 1) + 1) (by
      intro o i _ hi _
      have : (i - o) / (n + 1) ≤ 262144 / (n + 1) := Nat.div_le_div_right (by omega)
      omega)
    have h4 : Nat.shiftLeft (row 12 (n + 1) (262144 / (n + 1) + 1) 1) (12 * divS k (n + 1)) = row 12 (n + 1) (262144 / (n + 1) + 1) (2 ^ (12 * divS k (n + 1))) := by
      rw [row_eq (by omega) (by omega), row_eq (by omega) (by omega), Nat.one_mul]
      show gs _ _ _ <<< _ = _
      rw [Nat.shiftLeft_eq, Nat.mul_comm]
    rw [h4]
    refine pkr_congr (ih _ _ (pkr_add h h3)) ?_
    intro i _
    show f i + List.countP (rc (n + 1) i) _ + sm (divR k i) n = f i + sm (divR k i) (n + 1)
    rw [cp_one]
    simp only [sm, divR]
    omega
def divOK (k : Nat) : Bool := frc (divV k 1024 0) (fun V => frc (onesV 12 262144) (fun J => chk 12 170 V J 0))
set_option maxRecDepth 100000 in
theorem div_ok0 : divOK 0 = true := by decide +kernel
set_option maxRecDepth 100000 in
theorem div_ok1 : divOK 262144 = true := by decide +kernel
set_option maxRecDepth 100000 in
theorem div_ok2 : divOK 524288 = true := by decide +kernel
set_option maxRecDepth 100000 in
theorem div_ok3 : divOK 786432 = true := by decide +kernel
def dvR (m u : Nat) : Nat := if m % (u + 1) = 0 then 1 else 0
theorem divS_iff {k i u : Nat} (hu : 0 < u) : rc u i (divS k u) = true ↔ (k + i + 1) % u = 0 := by
  have h1 : (k + 1 + divS k u) % u = 0 := by
    unfold divS
    have h2 := Nat.mod_lt (k + 1) hu
    have h3 := Nat.div_add_mod (k + 1) u
    rw [Nat.add_mod_mod, show k + 1 + (u - (k + 1) % u) = u * ((k + 1) / u) + u by omega, Nat.add_mod_right, Nat.mul_mod_right]
  have h4 : divS k u < u := Nat.mod_lt _ hu
  unfold rc
  rw [Bool.and_eq_true, decide_eq_true_eq, decide_eq_true_eq]
  constructor
  · rintro ⟨h5, h6⟩
    rw [show k + i + 1 = (k + 1 + divS k u) + (i - divS k u) by omega, Nat.add_mod, h1, h6]; simp
  · intro h5
    by_cases h6 : divS k u ≤ i
    · refine ⟨h6, ?_⟩
      have h7 : (k + 1 + divS k u + (i - divS k u)) % u = 0 := by rw [show (k + 1 + divS k u) + (i - divS k u) = k + i + 1 by omega]; exact h5
      rw [Nat.add_mod, h1, Nat.zero_add, Nat.mod_mod] at h7
      exact h7
    · exfalso
      obtain ⟨q, hq⟩ := Nat.dvd_of_mod_eq_zero h1
      obtain ⟨r, hr⟩ := Nat.dvd_of_mod_eq_zero h5
      have h7 : u * r < u * q := by omega
      have h8 : u * r + u ≤ u * q := by have := Nat.lt_of_mul_lt_mul_left h7; rw [← Nat.mul_succ]; exact Nat.mul_le_mul_left _ this
      omega
theorem div_cap {m : Nat} (h0 : 0 < m) (hm : m ≤ 1048576) : sm (dvR m) 1024 ≤ 170 := by
  obtain ⟨k, i, hk, hi, rfl⟩ : ∃ k i, (k = 0 ∨ k = 262144 ∨ k = 524288 ∨ k = 786432) ∧ i < 262144 ∧ m = k + i + 1 := by
    by_cases h1 : m ≤ 262144
    · exact ⟨0, m - 1, by omega, by omega, by omega⟩
    · by_cases h2 : m ≤ 524288
      · exact ⟨262144, m - 1 - 262144, by omega, by omega, by omega⟩
      · by_cases h3 : m ≤ 786432
        · exact ⟨524288, m - 1 - 524288, by omega, by omega, by omega⟩
        · exact ⟨786432, m - 1 - 786432, by omega, by omega, by omega⟩
  have hok : divOK k = true := by rcases hk with rfl | rfl | rfl | rfl; exact div_ok0; exact div_ok1; exact div_ok2; exact div_ok3
  unfold divOK at hok
  simp only [frc_eq] at hok
  have hV := div_rep k 1024 0 (fun _ => 0) (pkr_congr (pkr_nil _ _) (fun i _ => rfl))
  have hJ := ones_rep (w := 12) (N := 262144) (by omega) (by omega)
  have h5 : (fun i => 0 + sm (divR k i) 1024) i ≤ 170 := pkk_chk hV hJ (pkr_nil 12 262144) (by omega) ?_ ?_ (by omega) (chk_eq hok) hi rfl
  · have h6 : sm (divR k i) 1024 ≤ 170 := by simpa using h5
    rw [show dvR (k + i + 1) = divR k i from ?_]; exact h6
    funext u
    unfold dvR divR
    by_cases h : (k + i + 1) % (u + 1) = 0
    · rw [if_pos h, if_pos ((divS_iff (by omega)).2 h)]
    · rw [if_neg h, if_neg (fun hh => h ((divS_iff (by omega)).1 hh))]
  · intro j _
    have h4 : ∀ s, s < 1024 → divR k j s ≤ 1 := by
      intro s hs
      unfold divR; split <;> omega
    have := sm_cap h4
    show 0 + sm (divR k j) 1024 < 2 ^ (12 - 1)
    omega
  · intro j _; exact Nat.two_pow_pos 12
