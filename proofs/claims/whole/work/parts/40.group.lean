/-! Finite commutative groups on Fin h: powers, orders, Lagrange -/
def isG {h : Nat} (mul : Fin h → Fin h → Fin h) (e : Fin h) (inv : Fin h → Fin h) : Prop := (∀ x y z, mul (mul x y) z = mul x (mul y z)) ∧ (∀ x y, mul x y = mul y x) ∧ (∀ x, mul x e = x) ∧ ∀ x, mul x (inv x) = e
def gp {h : Nat} (mul : Fin h → Fin h → Fin h) (e : Fin h) (x : Fin h) : Nat → Fin h
  | 0 => e
  | n + 1 => mul (gp mul e x n) x
section Grp
variable {h : Nat} {mul : Fin h → Fin h → Fin h} {e : Fin h} {inv : Fin h → Fin h}
theorem g_one (G : isG mul e inv) (x : Fin h) : mul e x = x := by rw [G.2.1]; exact G.2.2.1 x
theorem g_cancel (G : isG mul e inv) {x y z : Fin h} (hh : mul x y = mul x z) : y = z := by
  have : mul (mul (inv x) x) y = mul (mul (inv x) x) z := by rw [G.1, G.1, hh]
  rw [G.2.1 (inv x) x, G.2.2.2, g_one G, g_one G] at this
  exact this
theorem gp_add (G : isG mul e inv) (x : Fin h) (m n : Nat) : gp mul e x (m + n) = mul (gp mul e x m) (gp mul e x n) := by
  induction n with
  | zero => exact (G.2.2.1 _).symm
  | succ n ih => rw [show m + (n + 1) = (m + n) + 1 by omega]; show mul (gp mul e x (m + n)) x = mul (gp mul e x m) (mul (gp mul e x n) x); rw [ih, G.1]
theorem gp_e (G : isG mul e inv) (n : Nat) : gp mul e e n = e := by
  induction n with
  | zero => rfl
  | succ n ih => show mul (gp mul e e n) e = e; rw [ih]; exact G.2.2.1 e
theorem gp_mul (G : isG mul e inv) (x : Fin h) (m n : Nat) : gp mul e x (m * n) = gp mul e (gp mul e x m) n := by
  induction n with
  | zero => rfl
  | succ n ih => rw [Nat.mul_succ, gp_add G, ih]; rfl
theorem gp_one (G : isG mul e inv) (x : Fin h) : gp mul e x 1 = x := g_one G x
theorem g_swap (G : isG mul e inv) (a b c d : Fin h) : mul (mul a b) (mul c d) = mul (mul a c) (mul b d) := by
  rw [G.1, G.1, ← G.1 b c d, G.2.1 b c, G.1 c b d]
theorem gp_dist (G : isG mul e inv) (x y : Fin h) (n : Nat) : gp mul e (mul x y) n = mul (gp mul e x n) (gp mul e y n) := by
  induction n with
  | zero => exact (G.2.2.1 e).symm
  | succ n ih => show mul (gp mul e (mul x y) n) (mul x y) = mul (mul (gp mul e x n) x) (mul (gp mul e y n) y); rw [ih, g_swap G]
def isOrd (mul : Fin h → Fin h → Fin h) (e x : Fin h) (n : Nat) : Prop := 0 < n ∧ gp mul e x n = e ∧ ∀ m, 0 < m → m < n → gp mul e x m ≠ e
theorem ord_ex (G : isG mul e inv) (x : Fin h) : ∃ n, isOrd mul e x n ∧ n ≤ h := by
  obtain ⟨i, j, hij, hj, eq⟩ := pigeon h (fun i => (gp mul e x i).val) (fun i _ => (gp mul e x i).isLt)
  have e1 : gp mul e x (j - i) = e := by
    have h1 : gp mul e x i = gp mul e x j := Fin.ext eq
    rw [show j = i + (j - i) by omega, gp_add G] at h1
    have h2 : mul (gp mul e x i) e = mul (gp mul e x i) (gp mul e x (j - i)) := by rw [G.2.2.1]; exact h1
    exact (g_cancel G h2).symm
  obtain ⟨n, hn, hmin⟩ := pk_least (fun n => 0 < n ∧ gp mul e x n = e) ⟨j - i, by omega, e1⟩
  refine ⟨n, ⟨hn.1, hn.2, fun m h0 hm eq => hmin m hm ⟨h0, eq⟩⟩, ?_⟩
  rcases Nat.lt_or_ge (j - i) n with g | g
  · exact absurd ⟨by omega, e1⟩ (hmin (j - i) g)
  · omega
theorem ord_dvd (G : isG mul e inv) {x : Fin h} {n : Nat} (hn : isOrd mul e x n) (m : Nat) : gp mul e x m = e ↔ n ∣ m := by
  constructor
  · intro hm
    have hr : gp mul e x (m % n) = e := by
      have h1 : gp mul e x (n * (m / n) + m % n) = e := by rw [Nat.div_add_mod]; exact hm
      rw [gp_add G, gp_mul G, hn.2.1, gp_e G, g_one G] at h1
      exact h1
    rcases Nat.eq_zero_or_pos (m % n) with g | g
    · exact Nat.dvd_of_mod_eq_zero g
    · exact absurd hr (hn.2.2 _ g (Nat.mod_lt _ hn.1))
  · rintro ⟨k, rfl⟩
    rw [gp_mul G, hn.2.1, gp_e G]
theorem ord_uni (G : isG mul e inv) {x : Fin h} {n m : Nat} (hn : isOrd mul e x n) (hm : isOrd mul e x m) : n = m :=
  Nat.dvd_antisymm ((ord_dvd G hn m).mp hm.2.1) ((ord_dvd G hm n).mp hn.2.1)
theorem ord_of (G : isG mul e inv) {x : Fin h} {n : Nat} (h0 : 0 < n) (hd : ∀ m, gp mul e x m = e ↔ n ∣ m) : isOrd mul e x n :=
  ⟨h0, (hd n).mpr (Nat.dvd_refl n), fun m hm hlt eq => Nat.not_le.mpr hlt (Nat.le_of_dvd hm ((hd m).mp eq))⟩
theorem ord_pow (G : isG mul e inv) {x : Fin h} {n : Nat} (hn : isOrd mul e x n) (i : Nat) : isOrd mul e (gp mul e x i) (n / Nat.gcd n i) := by
  have hg : 0 < Nat.gcd n i := Nat.gcd_pos_of_pos_left i hn.1
  have hgn : Nat.gcd n i ∣ n := Nat.gcd_dvd_left n i
  refine ord_of G (Nat.div_pos (Nat.le_of_dvd hn.1 hgn) hg) fun m => ?_
  rw [← gp_mul G, ord_dvd G hn]
  obtain ⟨n', hn'⟩ := hgn
  obtain ⟨i', hi'⟩ := Nat.gcd_dvd_right n i
  have hc : Nat.Coprime (n / Nat.gcd n i) (i / Nat.gcd n i) := Nat.coprime_div_gcd_div_gcd hg
  have e1 : n / Nat.gcd n i = n' := by
    have : n / Nat.gcd n i = (Nat.gcd n i * n') / Nat.gcd n i := by rw [← hn']
    rw [this, Nat.mul_div_cancel_left _ hg]
  have e2 : i / Nat.gcd n i = i' := by
    have : i / Nat.gcd n i = (Nat.gcd n i * i') / Nat.gcd n i := by rw [← hi']
    rw [this, Nat.mul_div_cancel_left _ hg]
  rw [e1, e2] at hc
  rw [e1]
  constructor
  · rintro ⟨k, hk⟩
    have : Nat.gcd n i * (i' * m) = Nat.gcd n i * (n' * k) := by rw [← Nat.mul_assoc, ← hi', ← Nat.mul_assoc, ← hn']; exact hk
    have h2 := Nat.eq_of_mul_eq_mul_left hg this
    exact hc.dvd_of_dvd_mul_left ⟨k, h2⟩
  · rintro ⟨k, rfl⟩
    refine ⟨i' * k, ?_⟩
    have h1 : i * (n' * k) = Nat.gcd n i * i' * (n' * k) := by rw [← hi']
    have h2 : n * (i' * k) = Nat.gcd n i * n' * (i' * k) := by rw [← hn']
    rw [h1, h2]; grind
/-- a set of the first r values of el, without repetition -/
def enumd (S : Fin h → Prop) (el : Nat → Fin h) (r : Nat) : Prop := (∀ i j, i < r → j < r → el i = el j → i = j) ∧ ∀ x, S x ↔ ∃ i, i < r ∧ el i = x
def isSub (mul : Fin h → Fin h → Fin h) (e : Fin h) (inv : Fin h → Fin h) (S : Fin h → Prop) : Prop := S e ∧ (∀ x y, S x → S y → S (mul x y)) ∧ ∀ x, S x → S (inv x)
theorem inj_le {el : Nat → Fin h} {r : Nat} (hi : ∀ i j, i < r → j < r → el i = el j → i = j) : r ≤ h := by
  rcases Nat.lt_or_ge h r with g | g
  · obtain ⟨i, j, hij, hj, eq⟩ := pigeon h (fun i => (el i).val) (fun i _ => (el i).isLt)
    have := hi i j (by omega) (by omega) (Fin.ext eq)
    omega
  · exact g
theorem enum_miss {el : Nat → Fin h} {r : Nat} (hr : r < h) : ∃ x : Fin h, ∀ i, i < r → el i ≠ x := by
  by_cases hx : ∃ x : Fin h, ∀ i, i < r → el i ≠ x
  · exact hx
  · exfalso
    have hs : ∀ x : Fin h, ∃ i, i < r ∧ el i = x := by
      intro x
      by_cases g : ∃ i, i < r ∧ el i = x
      · exact g
      · exact absurd ⟨x, fun i hi eq => g ⟨i, hi, eq⟩⟩ hx
    have hf : ∀ i : Nat, ∃ j, j < r ∧ ∀ g : i < h, el j = ⟨i, g⟩ := by
      intro i
      by_cases g : i < h
      · obtain ⟨j, hj, eq⟩ := hs ⟨i, g⟩
        exact ⟨j, hj, fun _ => eq⟩
      · have : 0 < h := by omega
        obtain ⟨j, hj, -⟩ := hs ⟨0, this⟩
        exact ⟨j, hj, fun g' => absurd g' g⟩
    obtain ⟨i, j, hij, hj, eq⟩ := pigeon r (fun i => (hf i).choose) (fun i _ => (hf i).choose_spec.1)
    have a := (hf i).choose_spec.2 (by omega)
    have b := (hf j).choose_spec.2 (by omega)
    rw [eq] at a
    have := congrArg Fin.val (a.symm.trans b)
    simp only at this
    omega
theorem lagrange (G : isG mul e inv) {S : Fin h → Prop} (hS : isSub mul e inv S) {el : Nat → Fin h} {r : Nat} (hE : enumd S el r) : r ∣ h := by
  have hr : 0 < r := by
    obtain ⟨i, hi, -⟩ := (hE.2 e).mp hS.1
    omega
  -- after c cosets: r c different elements, closed under S
  have step : ∀ c : Nat, (∃ E : Nat → Fin h, (∀ i j, i < r * c → j < r * c → E i = E j → i = j) ∧ ∀ i, i < r * c → ∀ s, S s → ∃ j, j < r * c ∧ E j = mul (E i) s) ∨ r ∣ h := by
    intro c
    induction c with
    | zero => exact Or.inl ⟨fun _ => e, fun i j hi => absurd hi (by omega), fun i hi => absurd hi (by omega)⟩
    | succ c ih =>
      rcases ih with ⟨E, h1, h2⟩ | ih
      · rcases Nat.lt_or_ge (r * c) h with g | g
        · left
          obtain ⟨x, hx⟩ := enum_miss (el := E) g
          refine ⟨fun i => if i < r * c then E i else mul x (el (i - r * c)), ?_, ?_⟩
          · intro i j hi hj eq
            simp only at eq
            have hc : r * (c + 1) = r * c + r := Nat.mul_succ r c
            by_cases gi : i < r * c <;> by_cases gj : j < r * c
            · rw [if_pos gi, if_pos gj] at eq; exact h1 i j gi gj eq
            · rw [if_pos gi, if_neg gj] at eq
              exfalso
              have hs : S (el (j - r * c)) := (hE.2 _).mpr ⟨_, by omega, rfl⟩
              obtain ⟨k, hk, ek⟩ := h2 i gi _ (hS.2.2 _ hs)
              rw [eq, G.1, G.2.2.2, G.2.2.1] at ek
              exact hx k hk ek
            · rw [if_neg gi, if_pos gj] at eq
              exfalso
              have hs : S (el (i - r * c)) := (hE.2 _).mpr ⟨_, by omega, rfl⟩
              obtain ⟨k, hk, ek⟩ := h2 j gj _ (hS.2.2 _ hs)
              rw [← eq, G.1, G.2.2.2, G.2.2.1] at ek
              exact hx k hk ek
            · rw [if_neg gi, if_neg gj] at eq
              have := hE.1 _ _ (by omega) (by omega) (g_cancel G eq)
              omega
          · intro i hi s hs
            have hc : r * (c + 1) = r * c + r := Nat.mul_succ r c
            by_cases gi : i < r * c
            · obtain ⟨j, hj, ej⟩ := h2 i gi s hs
              refine ⟨j, by omega, ?_⟩
              simp only
              rw [if_pos hj, if_pos gi]; exact ej
            · have hsi : S (el (i - r * c)) := (hE.2 _).mpr ⟨_, by omega, rfl⟩
              obtain ⟨j, hj, ej⟩ := (hE.2 _).mp (hS.2.1 _ _ hsi hs)
              refine ⟨r * c + j, by omega, ?_⟩
              simp only
              rw [if_neg (by omega), if_neg gi, show r * c + j - r * c = j by omega, ej, G.1]
        · right
          have : r * c ≤ h := inj_le h1
          exact ⟨c, by omega⟩
      · exact Or.inr ih
  rcases step (h + 1) with ⟨E, h1, -⟩ | g
  · have := inj_le h1
    have : h + 1 ≤ r * (h + 1) := Nat.le_mul_of_pos_left _ hr
    omega
  · exact g
end Grp
