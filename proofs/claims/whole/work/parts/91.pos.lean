/-! D above 0: the residues -/
def sqL (p n : Nat) : List Nat := (List.range n).map (fun x => x * x + p * x)
def rsL (p s n : Nat) : List Nat := (List.range n).map (fun x => (x * x + p * x) % s)
def sqN (w p : Nat) : Nat → Nat
  | 0 => 0
  | n + 1 => sqN w p n + 2 ^ (w * (n * n + p * n))
def rsN (w p s : Nat) : Nat → Nat
  | 0 => 0
  | n + 1 => rsN w p s n + 2 ^ (w * ((n * n + p * n) % s))
theorem rsL_succ (p s n : Nat) : rsL p s (n + 1) = rsL p s n ++ [(n * n + p * n) % s] := by
  simp only [rsL]; rw [List.range_succ, List.map_append]; rfl
theorem rsN_rep {w N : Nat} (hN : 0 < N) (p s n : Nat) : pkr w N (rsN w p s n) (dl (rsL p s n)) := by
  induction n with
  | zero => exact pkr_nil _ _
  | succ n ih => rw [rsL_succ]; exact pkr_cat ih (pkr_at hN _)
theorem pow_fold (w s o : Nat) : 2 ^ (w * o) % (2 ^ (w * s) - 1) = 2 ^ (w * (o % s)) % (2 ^ (w * s) - 1) := by
  have h := Nat.div_add_mod o s
  have h1 := gs_mul w s (o / s)
  have h2 : 2 ^ (w * o) = 2 ^ (w * (o % s)) + (2 ^ (w * s) - 1) * (gs w s (o / s) * 2 ^ (w * (o % s))) := by
    calc 2 ^ (w * o) = 2 ^ (w * (s * (o / s) + o % s)) := by rw [h]
      _ = 2 ^ (w * s * (o / s)) * 2 ^ (w * (o % s)) := by rw [Nat.mul_add, Nat.pow_add, Nat.mul_assoc]
      _ = _ := by rw [← h1, Nat.add_mul, Nat.one_mul, Nat.add_comm]; congr 1; rw [Nat.mul_comm (gs w s _), Nat.mul_assoc]
  rw [h2, Nat.add_mul_mod_self_left]
theorem sq_fold (w p s n : Nat) : sqN w p n % (2 ^ (w * s) - 1) = rsN w p s n % (2 ^ (w * s) - 1) := by
  induction n with
  | zero => rfl
  | succ n ih => simp only [sqN, rsN]; rw [Nat.add_mod, ih, pow_fold, ← Nat.add_mod]
theorem rsN_le {w p s : Nat} (hs : 0 < s) (n : Nat) : rsN w p s n ≤ n * 2 ^ (w * (s - 1)) := by
  induction n with
  | zero => simp [rsN]
  | succ n ih =>
    simp only [rsN]
    have h1 : 2 ^ (w * ((n * n + p * n) % s)) ≤ 2 ^ (w * (s - 1)) := Nat.pow_le_pow_right (by omega) (Nat.mul_le_mul_left _ (by have := Nat.mod_lt (n * n + p * n) hs; omega))
    rw [Nat.succ_mul]; omega
theorem fold_eq {w p s : Nat} (hs : 0 < s) (hw : s + 1 < 2 ^ w) : sqN w p s % (2 ^ (w * s) - 1) = rsN w p s s := by
  rw [sq_fold, Nat.mod_eq_of_lt]
  have h1 := rsN_le (w := w) (p := p) hs s
  have h2 : (s + 2) * 2 ^ (w * (s - 1)) ≤ 2 ^ w * 2 ^ (w * (s - 1)) := Nat.mul_le_mul_right _ (by omega)
  rw [← Nat.pow_add, show w + w * (s - 1) = w * s by rw [Nat.mul_sub, Nat.mul_one]; have := Nat.le_mul_of_pos_right w hs; omega, Nat.add_mul] at h2
  have h3 := Nat.two_pow_pos (w * (s - 1))
  omega
def posV (p : Nat) : Nat → Nat → Nat → Nat → Nat
  | 0, _, _, V => V
  | n + 1, s, T, V => frc (T + 2 ^ (19 * (s * s + p * s))) (fun Q => frc (V + row 19 (s + 1) (262144 / (s + 1) + 1) (Q % (2 ^ (19 * (s + 1)) - 1))) (posV p n (s + 1) Q))
def posR (p i s : Nat) : Nat := (List.range (s + 1)).countP (fun x => rc (s + 1) i ((x * x + p * x) % (s + 1)))
theorem pos_rep (p : Nat) : ∀ (n s V : Nat), s + n < 524280 → pkr 19 262144 V (fun i => sm (posR p i) s) → pkr 19 262144 (posV p n s (sqN 19 p s) V) (fun i => sm (posR p i) (s + n)) := by
  intro n
  induction n with
  | zero => intro s V _ h; exact h
  | succ n ih =>
    intro s V hl h
    show pkr _ _ (frc _ _) _
    rw [frc_eq, frc_eq]
    rw [show sqN 19 p s + 2 ^ (19 * (s * s + p * s)) = sqN 19 p (s + 1) from rfl, fold_eq (by omega) (by omega)]
    have h3 := row_rep (s := s + 1) (w := 19) (by omega) (by omega) (rsN_rep (N := 262144) (by omega) p (s + 1) (s + 1)) (M := 262144 / (s + 1) + 1) (by
      intro o i _ hi _
      have : (i - o) / (s + 1) ≤ 262144 / (s + 1) := Nat.div_le_div_right (by omega)
      omega)
    rw [show s + (n + 1) = (s + 1) + n by omega]
    refine ih _ _ (by omega) (pkr_congr (pkr_add h h3) ?_)
    intro i _
    show sm (posR p i) s + (rsL p (s + 1) (s + 1)).countP (rc (s + 1) i) = sm (posR p i) (s + 1)
    simp only [sm, posR, rsL, cp_map]
def sqV (w p : Nat) : Nat → Nat → Nat
  | 0, V => V
  | n + 1, V => frc (V + 2 ^ (w * (n * n + p * n))) (sqV w p n)
theorem sq_rep {w N : Nat} (hN : 0 < N) (p : Nat) : ∀ (n V : Nat) (L : List Nat), pkr w N V (dl L) → ∃ M, pkr w N (sqV w p n V) (dl M) ∧ M.length = L.length + n ∧ ∀ i, i ∈ M → i ∈ L ∨ ∃ x, x < n ∧ i = x * x + p * x := by
  intro n
  induction n with
  | zero => intro V L h; exact ⟨L, h, rfl, fun i hi => .inl hi⟩
  | succ n ih =>
    intro V L h
    obtain ⟨M, h1, h2, h3⟩ := ih _ _ (pkr_cat h (pkr_at hN (n * n + p * n)))
    refine ⟨M, ?_, by rw [h2]; simp; omega, ?_⟩
    · show pkr w N (frc _ _) _
      rw [frc_eq]; exact h1
    · intro i hi
      rcases h3 i hi with h | ⟨x, hx, h⟩
      · rcases List.mem_append.1 h with h | h
        · exact .inl h
        · exact .inr ⟨n, by omega, by simpa using h⟩
      · exact .inr ⟨x, by omega, h⟩
def posOK (p : Nat) : Bool := frc (posV p 511 0 0 0) (fun V => frc (onesV 19 262144) (fun J => frc (sqV 19 p 512 0) (fun X => chk 19 1876 V J X)))
set_option maxRecDepth 100000 in
theorem pos_ok0 : posOK 0 = true := by decide +kernel
set_option maxRecDepth 100000 in
theorem pos_ok1 : posOK 1 = true := by decide +kernel
theorem pos_cap {p i : Nat} (hp : p = 0 ∨ p = 1) (hi : i < 262144) (hs : ∀ x, x < 512 → i ≠ x * x + p * x) : sm (posR p i) 511 ≤ 1876 := by
  have hok : posOK p = true := by rcases hp with rfl | rfl; exact pos_ok0; exact pos_ok1
  unfold posOK at hok
  simp only [frc_eq] at hok
  have hV := pos_rep p 511 0 0 (by omega) (pkr_congr (pkr_nil _ _) (fun i _ => rfl))
  have hJ := ones_rep (w := 19) (N := 262144) (by omega) (by omega)
  obtain ⟨M, h1, h2, h3⟩ := sq_rep (w := 19) (N := 262144) (by omega) p 512 0 [] (pkr_nil _ _)
  rw [Nat.zero_add] at hV
  refine pkk_chk hV hJ h1 (by omega) ?_ ?_ (by omega) (chk_eq hok) hi ?_
  · intro j _
    have h4 : ∀ s, s < 511 → posR p j s ≤ 511 := by
      intro s hs
      have : posR p j s ≤ _ := List.countP_le_length
      rw [List.length_range] at this; omega
    have := sm_cap h4
    show sm (posR p j) 511 < 2 ^ (19 - 1)
    omega
  · intro j _
    have := dl_lt M j
    rw [h2, List.length_nil] at this
    omega
  · unfold dl
    rw [List.count_eq_zero]
    intro hm
    rcases h3 i hm with h | ⟨x, hx, h⟩
    · cases h
    · exact hs x hx h
