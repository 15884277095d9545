/-! rho on reduced forms: reduced again, equivalent, one to one -/
theorem rho_eqv (R : Int) (f : FT) : fm_eqv f.1 f.2.1 f.2.2 (rho R f).1 (rho R f).2.1 (rho R f).2.2 := by
  obtain ⟨a, b, c⟩ := f
  rw [rho_def]
  generalize rhok R b c = k
  have h := fm_trans (fm_S a b c) (fm_T c (-b) a k)
  have e1 : -b + 2 * c * k = -b + 2 * c * k := rfl
  have e2 : a - b * k + c * k * k = c * k * k + -b * k + a := by grind
  simp only
  rw [e2]; exact h
theorem rho_disc (R : Int) (f : FT) : fdisc (rho R f) = fdisc f := by
  have := fm_disc (rho_eqv R f)
  simp only [fdisc]; exact this
theorem ndM_fred {f : FT} (h : ndM f) : fred (fS f) := ⟨Or.inr ⟨h.1.2, h.1.1⟩, by have := h.2.2; simp only [fS]; omega, by have := h.2.1; simp only [fS]; omega⟩
theorem ndP_fred {f : FT} (h : ndP f) : fred f := ⟨Or.inl h.1, h.2.1, h.2.2⟩
theorem rho_fred {D R : Int} (hR : isRoot D R) (hns : ∀ x : Int, x * x ≠ D) {f : FT} (hf : fred f) (hD : fdisc f = D) : fred (rho R f) := by
  obtain ⟨h | h, h1, h2⟩ := id hf
  · obtain ⟨j, -, hj, hr, -⟩ := nodeP hR hns ⟨h, h1, h2⟩ hD
    rw [hr]; exact ndM_fred hj
  · have hm : ndM (fS f) := ⟨⟨h.2, h.1⟩, by simp only [fS]; omega, by simp only [fS]; omega⟩
    obtain ⟨j, -, hj, hr, -⟩ := nodeM hR hns hm (by rw [fdisc_fS]; exact hD)
    have e : fS (fS f) = f := by
      obtain ⟨a, b, c⟩ := f
      simp [fS]
    rw [e] at hr
    rw [hr]; exact ndP_fred hj
theorem rho_sign {D R : Int} (hR : isRoot D R) (hns : ∀ x : Int, x * x ≠ D) {f : FT} (hf : fred f) : ((rho R f).1 < 0 ↔ 0 < f.1) := by
  have : (rho R f).1 = f.2.2 := rfl
  rw [this]
  rcases hf.1 with h | h <;> constructor <;> intro g <;> omega
theorem dvd_win {x m : Int} (h : m ∣ x) (h1 : -m < x) (h2 : x < m) : x = 0 := by
  obtain ⟨k, rfl⟩ := h
  have hm : 0 < m := by omega
  have k1 : k < 1 := by
    by_cases g : k < 1
    · exact g
    · have : m * 1 ≤ m * k := Int.mul_le_mul_of_nonneg_left (by omega) (by omega)
      omega
  have k2 : -1 < k := by
    by_cases g : -1 < k
    · exact g
    · have : m * k ≤ m * -1 := Int.mul_le_mul_of_nonneg_left (by omega) (by omega)
      omega
  have : k = 0 := by omega
  rw [this, Int.mul_zero]
theorem rho_inj {D R : Int} (hR : isRoot D R) (hns : ∀ x : Int, x * x ≠ D) {f g : FT} (hf : fred f) (hg : fred g) (hD : fdisc f = D) (hD' : fdisc g = D) (h : rho R f = rho R g) : f = g := by
  have w1 := fred_win hR hns hf hD
  have w2 := fred_win hR hns hg hD'
  obtain ⟨a, b, c⟩ := f
  obtain ⟨a', b', c'⟩ := g
  rw [rho_def, rho_def] at h
  simp only [Prod.mk.injEq] at h
  obtain ⟨rfl, h2, h3⟩ := h
  simp only at w1 w2
  have hc : c ≠ 0 := by rcases hf.1 with h | h <;> simp only at h <;> omega
  have hb : b - b' = 0 := by
    refine dvd_win (m := 2 * c.natAbs) ?_ (by omega) (by omega)
    have : 2 * c ∣ b - b' := ⟨rhok R b c - rhok R b' c, by grind⟩
    rcases Int.lt_or_gt_of_ne hc with h | h
    · have e : (2 * (c.natAbs : Int)) = -(2 * c) := by omega
      rw [e]; exact Int.neg_dvd.mpr this
    · have e : (2 * (c.natAbs : Int)) = 2 * c := by omega
      rw [e]; exact this
  have hb' : b = b' := by omega
  subst hb'
  have ha : a = a' := by
    simp only [fdisc] at hD hD'
    have : 4 * c * a = 4 * c * a' := by grind
    exact Int.eq_of_mul_eq_mul_left (by omega) this
  rw [ha]
theorem itr_rho {D R : Int} (hR : isRoot D R) (hns : ∀ x : Int, x * x ≠ D) {f : FT} (hf : fred f) (hD : fdisc f = D) : ∀ i : Nat, fred (itr (rho R) i f) ∧ fdisc (itr (rho R) i f) = D := by
  intro i
  induction i with
  | zero => exact ⟨hf, hD⟩
  | succ i ih => rw [itr_succ]; exact ⟨rho_fred hR hns ih.1 ih.2, by rw [rho_disc]; exact ih.2⟩
theorem itr_cancel {D R : Int} (hR : isRoot D R) (hns : ∀ x : Int, x * x ≠ D) {f g : FT} (hf : fred f) (hg : fred g) (hD : fdisc f = D) (hD' : fdisc g = D) : ∀ i : Nat, itr (rho R) i f = itr (rho R) i g → f = g := by
  intro i
  induction i with
  | zero => exact id
  | succ i ih =>
    intro h
    rw [itr_succ, itr_succ] at h
    have a := itr_rho hR hns hf hD i
    have b := itr_rho hR hns hg hD' i
    exact ih (rho_inj hR hns a.1 b.1 a.2 b.2 h)
/-- more pigeons than holes -/
theorem pigeon : ∀ (N : Nat) (h : Nat → Nat), (∀ i, i ≤ N → h i < N) → ∃ i j, i < j ∧ j ≤ N ∧ h i = h j := by
  intro N
  induction N with
  | zero => intro h hh; exact absurd (hh 0 (Nat.le_refl _)) (Nat.not_lt_zero _)
  | succ N ih =>
    intro h hh
    by_cases hx : ∃ i, i ≤ N ∧ h i = h (N + 1)
    · obtain ⟨i, hi, e⟩ := hx
      exact ⟨i, N + 1, by omega, Nat.le_refl _, e⟩
    · have hne : ∀ i, i ≤ N → h i ≠ h (N + 1) := fun i hi e => hx ⟨i, hi, e⟩
      have hv := hh (N + 1) (Nat.le_refl _)
      obtain ⟨i, j, hij, hj, e⟩ := ih (fun i => if h (N + 1) < h i then h i - 1 else h i) (fun i hi => by
        have h1 := hh i (by omega)
        have h2 := hne i hi
        show (if h (N + 1) < h i then h i - 1 else h i) < N
        split <;> omega)
      refine ⟨i, j, hij, by omega, ?_⟩
      have h1 := hne i (by omega)
      have h2 := hne j hj
      split at e <;> split at e <;> omega
/-- a reduced form's number: b and a's place among those that go with b -/
def fcode (R : Int) (f : FT) : Nat := ((f.2.1 / 2) * (f.2.1 / 2)).toNat + (f.1.natAbs - ((R - f.2.1) / 2 + 1).toNat)
theorem fcode_lt {D R : Int} (hR : isRoot D R) (hns : ∀ x : Int, x * x ≠ D) (hRb : R < 1024) {f : FT} (hf : fred f) (hD : fdisc f = D) : fcode R f < 262144 := by
  have w := fred_win hR hns hf hD
  have hb : 0 < f.2.1 := by have := hf.2.1; have := hf.2.2; omega
  unfold fcode
  generalize f.2.1 = b at *
  generalize f.1 = a at *
  obtain ⟨w1, w2, w3, -, -⟩ := w
  have h1 : b / 2 ≤ 511 := by omega
  have h2 : (b / 2) * (b / 2) ≤ 511 * (b / 2) := Int.mul_le_mul_of_nonneg_right h1 (by omega)
  have h3 : a.natAbs - ((R - b) / 2 + 1).toNat ≤ 2 * (b / 2).toNat := by omega
  omega
theorem fcode_inj {D R : Int} (hR : isRoot D R) (hns : ∀ x : Int, x * x ≠ D) {f g : FT} (hf : fred f) (hg : fred g) (hD : fdisc f = D) (hD' : fdisc g = D) (hs : 0 < f.1 ↔ 0 < g.1) (h : fcode R f = fcode R g) : f = g := by
  have w := fred_win hR hns hf hD
  have w' := fred_win hR hns hg hD'
  have hb : 0 < f.2.1 := by have := hf.2.1; have := hf.2.2; omega
  have hb' : 0 < g.2.1 := by have := hg.2.1; have := hg.2.2; omega
  have hpar : ∀ {f : FT}, fdisc f = D → f.2.1 % 2 = D % 2 := by
    intro f hD
    simp only [fdisc] at hD
    rw [← hD]
    have e : f.2.1 * f.2.1 - 4 * f.1 * f.2.2 = f.2.1 * f.2.1 - 2 * (2 * f.1 * f.2.2) := by grind
    rw [e]
    rcases Int.emod_two_eq f.2.1 with h | h
    · obtain ⟨k, hk⟩ : ∃ k, f.2.1 = 2 * k := ⟨f.2.1 / 2, by omega⟩
      have : f.2.1 * f.2.1 = 2 * (k * f.2.1) := by rw [hk]; grind
      omega
    · obtain ⟨k, hk⟩ : ∃ k, f.2.1 = 2 * k + 1 := ⟨f.2.1 / 2, by omega⟩
      have : f.2.1 * f.2.1 = 2 * (k * f.2.1 + k) + 1 := by rw [hk]; grind
      omega
  have p1 := hpar hD
  have p2 := hpar hD'
  have hsg : f.1 ≠ 0 := by rcases hf.1 with h | h <;> omega
  have hsg' : g.1 ≠ 0 := by rcases hg.1 with h | h <;> omega
  obtain ⟨a, b, c⟩ := f
  obtain ⟨a', b', c'⟩ := g
  unfold fcode at h
  simp only at *
  obtain ⟨w1, w2, w3, -, -⟩ := w
  obtain ⟨v1, v2, v3, -, -⟩ := w'
  -- the square parts: both lie in [k k, (k + 1)(k + 1))
  have hk : b / 2 = b' / 2 := by
    have m0 : 0 ≤ b / 2 := by omega
    have m1 : 0 ≤ b' / 2 := by omega
    have o1 : a.natAbs - ((R - b) / 2 + 1).toNat ≤ 2 * (b / 2).toNat := by omega
    have o2 : a'.natAbs - ((R - b') / 2 + 1).toNat ≤ 2 * (b' / 2).toNat := by omega
    have q0 : 0 ≤ (b / 2) * (b / 2) := Int.mul_nonneg m0 m0
    have q1 : 0 ≤ (b' / 2) * (b' / 2) := Int.mul_nonneg m1 m1
    rcases Int.lt_trichotomy (b / 2) (b' / 2) with g | g | g
    · have : (b / 2 + 1) * (b / 2 + 1) ≤ (b' / 2) * (b' / 2) := Int.mul_le_mul (by omega) (by omega) (by omega) (by omega)
      have e : (b / 2 + 1) * (b / 2 + 1) = (b / 2) * (b / 2) + 2 * (b / 2) + 1 := by grind
      omega
    · exact g
    · have : (b' / 2 + 1) * (b' / 2 + 1) ≤ (b / 2) * (b / 2) := Int.mul_le_mul (by omega) (by omega) (by omega) (by omega)
      have e : (b' / 2 + 1) * (b' / 2 + 1) = (b' / 2) * (b' / 2) + 2 * (b' / 2) + 1 := by grind
      omega
  have hbb : b = b' := by omega
  subst hbb
  have haa : a = a' := by omega
  subst haa
  have hcc : c = c' := by
    simp only [fdisc] at hD hD'
    have : 4 * a * c = 4 * a * c' := by grind
    exact Int.eq_of_mul_eq_mul_left (by omega) this
  rw [hcc]
/-- the cycle closes within 524288 steps -/
theorem rho_cycle {D R : Int} (hR : isRoot D R) (hns : ∀ x : Int, x * x ≠ D) (hRb : R < 1024) {f : FT} (hf : fred f) (hD : fdisc f = D) : ∃ m, 0 < m ∧ m ≤ 524288 ∧ itr (rho R) m f = f := by
  have hI := itr_rho hR hns hf hD
  obtain ⟨i, j, hij, hj, e⟩ := pigeon 262144 (fun i => fcode R (itr (rho R) (2 * i) f)) (fun i _ => fcode_lt hR hns hRb (hI _).1 (hI _).2)
  have hs : ∀ k : Nat, (0 < (itr (rho R) (2 * k) f).1 ↔ 0 < f.1) := by
    intro k
    induction k with
    | zero => exact Iff.rfl
    | succ k ih =>
      rw [show 2 * (k + 1) = 2 * k + 1 + 1 by omega, itr_succ, itr_succ]
      have a := hI (2 * k)
      have b := rho_fred hR hns a.1 a.2
      have s1 := rho_sign hR hns a.1
      have s2 := rho_sign hR hns b
      have n1 : (rho R (itr (rho R) (2 * k) f)).1 ≠ 0 := by rcases b.1 with h | h <;> omega
      have n2 := rho_fred hR hns b (by rw [rho_disc]; exact a.2)
      have n3 : (rho R (rho R (itr (rho R) (2 * k) f))).1 ≠ 0 := by rcases n2.1 with h | h <;> omega
      have n4 : (itr (rho R) (2 * k) f).1 ≠ 0 := by rcases a.1.1 with h | h <;> omega
      rw [← ih]
      omega
  have h1 := fcode_inj hR hns (hI (2 * i)).1 (hI (2 * j)).1 (hI _).2 (hI _).2 (by rw [hs i, hs j]) e
  refine ⟨2 * (j - i), by omega, by omega, ?_⟩
  have e2 : itr (rho R) (2 * j) f = itr (rho R) (2 * i) (itr (rho R) (2 * (j - i)) f) := by
    rw [← itr_add]; congr 1; omega
  rw [e2] at h1
  exact (itr_cancel hR hns hf (hI _).1 hD (hI _).2 _ h1).symm
