/-! Nodes of the river are the reduced forms; from node to node it is rho -/
def fS (f : FT) : FT := (f.2.2, -f.2.1, f.1)
def fng (f : FT) : FT := (-f.1, f.2.1, -f.2.2)
def fst' (f : FT) : FT := (-f.2.2, -f.2.1, -f.1)
def ndP (f : FT) : Prop := friv f ∧ 0 < f.1 + f.2.1 + f.2.2 ∧ f.1 - f.2.1 + f.2.2 < 0
def ndM (f : FT) : Prop := friv f ∧ f.1 + f.2.1 + f.2.2 < 0 ∧ 0 < f.1 - f.2.1 + f.2.2
theorem rho_win {R k : Int} {f : FT} (hc : f.2.2 ≠ 0) (h1 : -f.2.1 + 2 * f.2.2 * k ≤ R) (h2 : R < 2 * f.2.2.natAbs + (-f.2.1 + 2 * f.2.2 * k)) : rho R f = (f.2.2, -f.2.1 + 2 * f.2.2 * k, f.1 - f.2.1 * k + f.2.2 * k * k) := by
  obtain ⟨a, b, c⟩ := f
  simp only at hc h1 h2 ⊢
  have hk : (if c < 0 then -((R + b) / (2 * -c)) else (R + b) / (2 * c)) = k := by
    by_cases h : c < 0
    · rw [if_pos h]
      have ec : (c.natAbs : Int) = -c := by omega
      rw [ec] at h2
      have : (R + b) / (2 * -c) = -k := by
        refine Int.ediv_eq_iff_of_pos (by omega) |>.mpr ⟨?_, ?_⟩
        · have : -k * (2 * -c) = 2 * c * k := by grind
          rw [this]; omega
        · have : (-k + 1) * (2 * -c) = 2 * c * k + 2 * -c := by grind
          have : -k * (2 * -c) = 2 * c * k := by grind
          omega
      rw [this]; omega
    · rw [if_neg h]
      have ec : (c.natAbs : Int) = c := by omega
      rw [ec] at h2
      refine Int.ediv_eq_iff_of_pos (by omega) |>.mpr ⟨?_, ?_⟩
      · have : k * (2 * c) = 2 * c * k := by grind
        omega
      · have : (k + 1) * (2 * c) = 2 * c * k + 2 * c := by grind
        have : k * (2 * c) = 2 * c * k := by grind
        omega
  simp only [rho]
  rw [hk]
theorem fdisc_fS (f : FT) : fdisc (fS f) = fdisc f := by simp only [fdisc, fS]; grind
theorem nodeP {D R : Int} (hR : isRoot D R) (hns : ∀ x : Int, x * x ≠ D) {f : FT} (hf : ndP f) (hD : fdisc f = D) : ∃ j : Nat, 0 < j ∧ ndM (itr tau j f) ∧ rho R f = fS (itr tau j f) ∧ ∀ i, 0 < i → i < j → ¬ ndP (itr tau i f) ∧ ¬ ndM (itr tau i f) := by
  obtain ⟨a, b, c⟩ := f
  obtain ⟨⟨ha, hc⟩, h1, h2⟩ := hf
  simp only at ha hc h1 h2
  have hb : 0 < b := by omega
  -- the forms of the run
  let X : Nat → FT := fun i => (a + b * i + c * i * i, b + 2 * c * i, c)
  have hXd : ∀ i, fdisc (X i) = D := by intro i; rw [← hD]; simp only [X, fdisc]; grind
  have hXs : ∀ i : Nat, (X i).1 + (X i).2.1 + (X i).2.2 = (X (i + 1)).1 := by intro i; simp only [X]; grind
  have hXm : ∀ i : Nat, (X (i + 1)).1 - (X (i + 1)).2.1 + (X (i + 1)).2.2 = (X i).1 := by intro i; simp only [X]; grind
  obtain ⟨j, hj, hmin⟩ := pk_least (fun i => (X (i + 1)).1 < 0) ⟨(a + b).toNat, by
    simp only [X]
    have e : (((a + b).toNat + 1 : Nat) : Int) = a + b + 1 := by omega
    rw [e]
    have hc2 : c * (a + b + 1) * (a + b + 1) ≤ -1 * ((a + b + 1) * (a + b + 1)) := by
      rw [Int.mul_assoc]
      exact Int.mul_le_mul_of_nonneg_right (by omega) (Int.mul_nonneg (by omega) (by omega))
    have e2 : a + b * (a + b + 1) + -1 * ((a + b + 1) * (a + b + 1)) = a - (a + b + 1) * (a + 1) := by grind
    have : 0 < (a + b) * (a + 1) := Int.mul_pos (by omega) (by omega)
    have e3 : (a + b + 1) * (a + 1) = (a + b) * (a + 1) + (a + 1) := by grind
    omega⟩
  have hX0 : X 0 = (a, b, c) := by simp [X]
  have hpos : ∀ i, i ≤ j → 0 < (X i).1 := by
    intro i hi
    cases i with
    | zero => rw [hX0]; exact ha
    | succ i =>
      have h3 := hmin i (by omega)
      have h4 := fsum_ne (f := X i) (by rw [hXd]; exact hns)
      rw [hXs] at h4
      omega
  have hj0 : 0 < j := by
    rcases Nat.eq_zero_or_pos j with h | h
    · rw [h] at hj
      have := hXs 0
      rw [hX0] at this
      simp only at this
      simp only [Nat.zero_add] at hj this
      omega
    · exact h
  have hit : ∀ i, i ≤ j → itr tau i (a, b, c) = X i := by
    intro i
    induction i with
    | zero => intro _; rw [hX0]; rfl
    | succ i ih =>
      intro hi
      rw [itr_succ, ih (by omega)]
      unfold tau
      rw [if_pos (by rw [hXs]; exact hpos (i + 1) hi), hXs]
      simp only [X]
      refine Prod.ext rfl (Prod.ext ?_ rfl)
      simp only; grind
  have hM : ndM (X j) := by
    refine ⟨⟨hpos j (Nat.le_refl _), hc⟩, by rw [hXs]; exact hj, ?_⟩
    obtain ⟨i, rfl⟩ : ∃ i, j = i + 1 := ⟨j - 1, by omega⟩
    rw [hXm]; exact hpos i (by omega)
  refine ⟨j, hj0, by rw [hit j (Nat.le_refl _)]; exact hM, ?_, ?_⟩
  · rw [hit j (Nat.le_refl _)]
    have hred : fred (fS (X j)) := ⟨Or.inr ⟨hc, hM.1.1⟩, by have := hM.2.2; simp only [fS]; omega, by have := hM.2.1; simp only [fS]; omega⟩
    have hw := fred_win hR hns hred (by rw [fdisc_fS]; exact hXd j)
    simp only [fS, X] at hw
    rw [rho_win (k := -(j : Int)) (f := (a, b, c)) (by simp only; omega) (by simp only; grind) (by simp only; grind)]
    simp only [fS, X]
    refine Prod.ext rfl (Prod.ext (by simp only; grind) (by simp only; grind))
  · intro i hi0 hij
    rw [hit i (by omega)]
    obtain ⟨i', rfl⟩ : ∃ i', i = i' + 1 := ⟨i - 1, by omega⟩
    refine ⟨fun h => ?_, fun h => ?_⟩
    · have := h.2.2; rw [hXm] at this
      have := hpos i' (by omega); omega
    · have := h.2.1; rw [hXs] at this
      have := hpos (i' + 1 + 1) (by omega); omega
theorem tau_star {f : FT} (hs : f.1 + f.2.1 + f.2.2 ≠ 0) : tau (fst' f) = fst' (tau f) := by
  obtain ⟨a, b, c⟩ := f
  simp only at hs
  unfold tau
  by_cases h : 0 < a + b + c
  · rw [if_pos h, if_neg (by simp only [fst']; omega)]
    simp only [fst']
    refine Prod.ext (by simp only) (Prod.ext (by simp only; omega) (by simp only; omega))
  · rw [if_neg h, if_pos (by simp only [fst']; omega)]
    simp only [fst']
    refine Prod.ext (by simp only; omega) (Prod.ext (by simp only; omega) (by simp only))
theorem itr_star {D : Int} (hns : ∀ x : Int, x * x ≠ D) : ∀ (i : Nat) {f : FT}, fdisc f = D → itr tau i (fst' f) = fst' (itr tau i f) := by
  intro i
  induction i with
  | zero => intro f _; rfl
  | succ i ih =>
    intro f hD
    show itr tau i (tau (fst' f)) = fst' (itr tau i (tau f))
    rw [tau_star (fsum_ne (by rw [hD]; exact hns)), ih (by rw [fdisc_tau]; exact hD)]
theorem fdisc_star (f : FT) : fdisc (fst' f) = fdisc f := by simp only [fdisc, fst']; grind
theorem ndP_star {f : FT} : ndP (fst' f) ↔ ndM f := by
  simp only [ndP, ndM, fst', friv]
  constructor
  · rintro ⟨⟨h1, h2⟩, h3, h4⟩; exact ⟨⟨by omega, by omega⟩, by omega, by omega⟩
  · rintro ⟨⟨h1, h2⟩, h3, h4⟩; exact ⟨⟨by omega, by omega⟩, by omega, by omega⟩
theorem ndM_star {f : FT} : ndM (fst' f) ↔ ndP f := by
  simp only [ndP, ndM, fst', friv]
  constructor
  · rintro ⟨⟨h1, h2⟩, h3, h4⟩; exact ⟨⟨by omega, by omega⟩, by omega, by omega⟩
  · rintro ⟨⟨h1, h2⟩, h3, h4⟩; exact ⟨⟨by omega, by omega⟩, by omega, by omega⟩
def rhok (R b c : Int) : Int := if c < 0 then -((R + b) / (2 * -c)) else (R + b) / (2 * c)
theorem rho_def (R a b c : Int) : rho R (a, b, c) = (c, -b + 2 * c * rhok R b c, a - b * rhok R b c + c * rhok R b c * rhok R b c) := rfl
theorem rhok_neg {R b c : Int} (hc : c ≠ 0) : rhok R b (-c) = -rhok R b c := by
  unfold rhok
  by_cases h : c < 0
  · rw [if_pos h, if_neg (by omega)]; omega
  · rw [if_neg h, if_pos (by omega), show - -c = c by omega]
theorem rho_ng {R : Int} {f : FT} (hc : f.2.2 ≠ 0) : rho R (fng f) = fng (rho R f) := by
  obtain ⟨a, b, c⟩ := f
  show rho R (-a, b, -c) = fng (rho R (a, b, c))
  rw [rho_def, rho_def, rhok_neg hc]
  simp only [fng]
  generalize rhok R b c = k
  refine Prod.ext rfl (Prod.ext (by simp only; grind) (by simp only; grind))
theorem fng_inj {f g : FT} (h : fng f = fng g) : f = g := by
  obtain ⟨a, b, c⟩ := f
  obtain ⟨a', b', c'⟩ := g
  simp only [fng, Prod.mk.injEq] at h
  refine Prod.ext ?_ (Prod.ext ?_ ?_) <;> simp only <;> omega
theorem nodeM {D R : Int} (hR : isRoot D R) (hns : ∀ x : Int, x * x ≠ D) {f : FT} (hf : ndM f) (hD : fdisc f = D) : ∃ j : Nat, 0 < j ∧ ndP (itr tau j f) ∧ rho R (fS f) = itr tau j f ∧ ∀ i, 0 < i → i < j → ¬ ndP (itr tau i f) ∧ ¬ ndM (itr tau i f) := by
  obtain ⟨j, h0, h1, h2, h3⟩ := nodeP hR hns (ndP_star.mpr hf) (by rw [fdisc_star]; exact hD)
  refine ⟨j, h0, ?_, ?_, ?_⟩
  · rw [itr_star hns j hD] at h1; exact ndM_star.mp h1
  · rw [itr_star hns j hD] at h2
    refine fng_inj ?_
    rw [← rho_ng (by simp only [fS]; have := hf.1.1; omega)]
    have e1 : fng (fS f) = fst' f := rfl
    rw [e1, h2]
    simp only [fS, fst', fng]
    refine Prod.ext rfl (Prod.ext (by simp only; omega) rfl)
  · intro i hi hij
    have := h3 i hi hij
    rw [itr_star hns i hD] at this
    exact ⟨fun h => this.2 (ndM_star.mpr h), fun h => this.1 (ndP_star.mpr h)⟩
def fphi (f : FT) : FT := if 0 < f.1 + f.2.1 + f.2.2 then f else fS f
theorem fdisc_itr (f : FT) : ∀ i : Nat, fdisc (itr tau i f) = fdisc f := by
  intro i
  induction i with
  | zero => rfl
  | succ i ih => rw [itr_succ, fdisc_tau, ih]
theorem node_chain {D R : Int} (hR : isRoot D R) (hns : ∀ x : Int, x * x ≠ D) : ∀ (N n : Nat), n ≤ N → ∀ f : FT, fdisc f = D → (ndP f ∨ ndM f) → (ndP (itr tau n f) ∨ ndM (itr tau n f)) → ∃ m, itr (rho R) m (fphi f) = fphi (itr tau n f) := by
  intro N
  induction N with
  | zero => intro n hn f _ _ _; have : n = 0 := by omega
            subst this; exact ⟨0, rfl⟩
  | succ N ih =>
    intro n hn f hD hf hg
    rcases Nat.eq_zero_or_pos n with h | hn0
    · subst h; exact ⟨0, rfl⟩
    · have key : ∃ j : Nat, 0 < j ∧ (ndP (itr tau j f) ∨ ndM (itr tau j f)) ∧ rho R (fphi f) = fphi (itr tau j f) ∧ ∀ i, 0 < i → i < j → ¬ ndP (itr tau i f) ∧ ¬ ndM (itr tau i f) := by
        rcases hf with hf | hf
        · obtain ⟨j, h0, h1, h2, h3⟩ := nodeP hR hns hf hD
          refine ⟨j, h0, Or.inr h1, ?_, h3⟩
          have e1 : fphi f = f := if_pos hf.2.1
          have e2 : fphi (itr tau j f) = fS (itr tau j f) := if_neg (by have := h1.2.1; omega)
          rw [e1, e2]; exact h2
        · obtain ⟨j, h0, h1, h2, h3⟩ := nodeM hR hns hf hD
          refine ⟨j, h0, Or.inl h1, ?_, h3⟩
          have e1 : fphi f = fS f := if_neg (by have := hf.2.1; omega)
          have e2 : fphi (itr tau j f) = itr tau j f := if_pos h1.2.1
          rw [e1, e2]; exact h2
      obtain ⟨j, h0, h1, h2, h3⟩ := key
      have hjn : j ≤ n := by
        rcases Nat.lt_or_ge n j with h | h
        · have := h3 n hn0 h
          rcases hg with g | g
          · exact absurd g this.1
          · exact absurd g this.2
        · exact h
      obtain ⟨k, rfl⟩ : ∃ k, n = j + k := ⟨n - j, by omega⟩
      rw [itr_add] at hg
      obtain ⟨m, hm⟩ := ih k (by omega) (itr tau j f) (by rw [fdisc_itr]; exact hD) h1 hg
      refine ⟨m + 1, ?_⟩
      show itr (rho R) m (rho R (fphi f)) = _
      rw [h2, hm, itr_add]
theorem fred_node {f : FT} (hf : fred f) : ∃ x : FT, (ndP x ∨ ndM x) ∧ fphi x = f ∧ fdisc x = fdisc f ∧ fm_eqv f.1 f.2.1 f.2.2 x.1 x.2.1 x.2.2 := by
  obtain ⟨a, b, c⟩ := f
  obtain ⟨h | h, h1, h2⟩ := hf
  · exact ⟨(a, b, c), Or.inl ⟨h, h1, h2⟩, if_pos h1, rfl, fm_refl _ _ _⟩
  · simp only at h h1 h2
    refine ⟨(c, -b, a), Or.inr ⟨⟨h.2, h.1⟩, by simp only; omega, by simp only; omega⟩, ?_, by simp only [fdisc]; grind, fm_S a b c⟩
    unfold fphi
    rw [if_neg (by simp only; omega)]
    simp [fS]
/-- equivalent reduced forms lie on one cycle -/
theorem ind_same {D R : Int} (hR : isRoot D R) (hns : ∀ x : Int, x * x ≠ D) {f g : FT} (hf : fred f) (hg : fred g) (hD : fdisc f = D) (h : fm_eqv f.1 f.2.1 f.2.2 g.1 g.2.1 g.2.2) : (∃ m, itr (rho R) m f = g) ∨ ∃ m, itr (rho R) m g = f := by
  obtain ⟨x, nx, px, dx, ex⟩ := fred_node hf
  obtain ⟨y, ny, py, dy, ey⟩ := fred_node hg
  have hxy := fm_trans (fm_trans (fm_symm ex) h) ey
  obtain ⟨p, q, r, u, hd, h1, h2, h3⟩ := hxy
  have hyx : y = fact x p q r u := Prod.ext h1 (Prod.ext h2 h3)
  have rx : friv x := by rcases nx with h | h <;> exact h.1
  have ry : friv y := by rcases ny with h | h <;> exact h.1
  have hDx : fdisc x = D := by rw [dx, hD]
  have hDy : fdisc y = D := by rw [hyx, fdisc_fact hd, hDx]
  rcases riv_any hd rx (by rw [hDx]; exact hns) (by rw [← hyx]; exact ry) with ⟨m, hm⟩ | ⟨m, hm⟩
  · left
    rw [← hyx] at hm
    obtain ⟨k, hk⟩ := node_chain hR hns m m (Nat.le_refl _) x hDx nx (by rw [hm]; exact ny)
    rw [hm, px, py] at hk
    exact ⟨k, hk⟩
  · right
    rw [← hyx] at hm
    obtain ⟨k, hk⟩ := node_chain hR hns m m (Nat.le_refl _) y hDy ny (by rw [hm]; exact nx)
    rw [hm, px, py] at hk
    exact ⟨k, hk⟩
