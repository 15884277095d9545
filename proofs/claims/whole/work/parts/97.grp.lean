/-! The group on the numbers of the classes -/
def GG (D : Int) (cl : Nat) (fm : Nat → FT) (mul : Fin cl → Fin cl → Fin cl) (e : Fin cl) (inv : Fin cl → Fin cl) : Prop := isG mul e inv ∧ (∀ i j : Fin cl, isPd D cl fm i j (mul i j)) ∧ isPr D cl fm e ∧ ∀ i : Fin cl, isIv cl fm i (inv i)
theorem grp_ex {D R : Int} (hO : okD D R) {An : Nat → Int32} {cl : Nat} {fm : Nat → FT} (hN : isNF D R An cl fm) {pr : Nat} (hp : isPr D cl fm pr) : ∃ mul e inv, GG D cl fm mul e inv ∧ e.val = pr := by
  have h1 : ∀ z : Fin cl × Fin cl, ∃ k : Fin cl, isPd D cl fm z.1 z.2 k := fun z => by
    obtain ⟨k, hk⟩ := pd_ex hO hN z.1.isLt z.2.isLt
    exact ⟨⟨k, hk.1⟩, hk⟩
  have h2 : ∀ i : Fin cl, ∃ k : Fin cl, isIv cl fm i k := fun i => by
    obtain ⟨k, hk⟩ := iv_ex hO hN i.isLt
    exact ⟨⟨k, hk.1⟩, hk⟩
  obtain ⟨m, hm⟩ := Classical.axiomOfChoice h1
  obtain ⟨inv, hi⟩ := Classical.axiomOfChoice h2
  refine ⟨fun i j => m (i, j), ⟨pr, hp.1⟩, inv, ⟨⟨?_, ?_, ?_, ?_⟩, fun i j => hm (i, j), hp, hi⟩, rfl⟩
  · intro x y z
    exact Fin.ext (pd_assoc hO hN x.isLt y.isLt z.isLt (hm (x, y)) (hm (m (x, y), z)) (hm (y, z)) (hm (x, m (y, z))))
  · intro x y
    exact Fin.ext (pd_uni hO hN x.isLt y.isLt (hm (x, y)) (pd_comm (hm (y, x))))
  · intro x
    exact Fin.ext (pd_one hO hN x.isLt hp (hm (x, ⟨pr, hp.1⟩)))
  · intro x
    exact Fin.ext (pd_inv hO hN x.isLt hp (hi x) (hm (x, inv x)))
/-! classes whose square is principal -/
def dvC (m : Nat) (k : Nat) (y _x : Nat) : Bool := decide (m % (y / k + 1) = 0)
theorem dvC_cap {m k : Nat} (h0 : 0 < m) (hm : m ≤ 1048576) (hk : 0 < k) {α : Type} (l : List α) (hl : l.Nodup) (c : α → Nat) (hc : ∀ x, x ∈ l → c x < k * 1024 ∧ m % (c x / k + 1) = 0) (hi : ∀ x y, x ∈ l → y ∈ l → c x = c y → x = y) : l.length ≤ k * 170 := by
  have := cells_cap (m := fun _ => 1) (p := dvC m k) (A := k * 1024) l hl (fun x => (c x, 0)) (fun x hx => ⟨(hc x hx).1, Nat.one_pos, by simp only [dvC]; exact decide_eq_true (hc x hx).2⟩) (fun x y hx hy he => hi x y hx hy (congrArg Prod.fst he))
  have e1 : (fun a => (List.range ((fun _ => 1) a)).countP (dvC m k a)) = fun y => dvR m (y / k) := by
    funext y
    show List.countP (dvC m k y) [0] = _
    by_cases h : m % (y / k + 1) = 0
    · simp [dvC, dvR, h]
    · simp [dvC, dvR, h]
  rw [e1, sm_fam (dvR m) k 1024 hk] at this
  exact Nat.le_trans this (Nat.mul_le_mul_left _ (div_cap h0 hm))
theorem amb_neg {D R : Int} (hn : D < 0) {f : FT} (hf : isName D R f) (h : fm_eqv f.1 (-f.2.1) f.2.2 f.1 f.2.1 f.2.2) : f.2.1 = 0 ∨ f.2.1 = f.1 ∨ f.1 = f.2.2 := by
  have hd := hf.2.1.1 hn
  have ha := hf.1.2.2 hn
  apply Decidable.byContradiction
  intro hc
  obtain ⟨a, b, c⟩ := f
  simp only [dred] at hd hc ha h
  have hd2 : dred (a, -b, c) := by simp only [dred]; omega
  have hd1 : dred (a, b, c) := by simp only [dred]; omega
  have := def_same (f := (a, -b, c)) (g := (a, b, c)) ha ha hd2 hd1 h
  have := congrArg (fun f : FT => f.2.1) this
  simp only at this
  omega
theorem amb_cell {D R : Int} (hO : okD D R) (hn : D < 0) {f : FT} (hf : isName D R f) (h : fm_eqv f.1 (-f.2.1) f.2.2 f.1 f.2.1 f.2.2) :
    ∃ y : Nat, (y < 3 * 1024 ∧ (-D).toNat % (y / 3 + 1) = 0) ∧ ((y % 3 = 0 ∧ f.2.1 = 0 ∧ f.1 = (y / 3 + 1 : Nat)) ∨ (y % 3 = 1 ∧ f.2.1 = f.1 ∧ f.1 = (y / 3 + 1 : Nat)) ∨ (y % 3 = 2 ∧ f.1 = f.2.2 ∧ 2 * f.1 - f.2.1 = (y / 3 + 1 : Nat))) := by
  obtain ⟨r1, r2, r3, r4⟩ := name_rng hO hn hf
  have hd : f.2.1 * f.2.1 - 4 * f.1 * f.2.2 = D := hf.1.1
  have hdr := hf.2.1.1 hn
  have hD1 := hO.1.1
  have dv : ∀ u : Nat, 0 < u → (u : Int) ∣ D → (-D).toNat % u = 0 := by
    intro u _ ⟨k, hk⟩
    apply Nat.mod_eq_zero_of_dvd
    have : (u : Int) ∣ ((-D).toNat : Int) := ⟨-k, by rw [Int.toNat_of_nonneg (by omega), hk]; grind⟩
    exact_mod_cast this
  obtain ⟨a, b, c⟩ := f
  simp only [dred] at *
  rcases amb_neg hn hf h with h1 | h1 | h1
  · simp only at h1
    refine ⟨3 * (a.toNat - 1), ⟨by omega, ?_⟩, Or.inl ⟨by omega, h1, by omega⟩⟩
    rw [show 3 * (a.toNat - 1) / 3 + 1 = a.toNat by omega]
    exact dv _ (by omega) ⟨-(4 * c), by rw [Int.toNat_of_nonneg (by omega), ← hd, h1]; grind⟩
  · simp only at h1
    refine ⟨3 * (a.toNat - 1) + 1, ⟨by omega, ?_⟩, Or.inr (Or.inl ⟨by omega, h1, by omega⟩)⟩
    rw [show (3 * (a.toNat - 1) + 1) / 3 + 1 = a.toNat by omega]
    exact dv _ (by omega) ⟨a - 4 * c, by rw [Int.toNat_of_nonneg (by omega), ← hd, h1]; grind⟩
  · simp only at h1
    subst h1
    have hb : 0 ≤ b := by omega
    have hu : 2 * a - b ≤ 1024 := by
      apply Decidable.byContradiction
      intro hh
      have e1 : (2 * a - b) * (2 * a + b) = -D := by rw [← hd]; grind
      have := Int.mul_le_mul (show 1025 ≤ 2 * a - b by omega) (show 1025 ≤ 2 * a + b by omega) (by omega) (by omega)
      omega
    refine ⟨3 * ((2 * a - b).toNat - 1) + 2, ⟨by omega, ?_⟩, Or.inr (Or.inr ⟨by omega, rfl, by omega⟩)⟩
    rw [show (3 * ((2 * a - b).toNat - 1) + 2) / 3 + 1 = (2 * a - b).toNat by omega]
    exact dv _ (by omega) ⟨-(2 * a + b), by rw [Int.toNat_of_nonneg (by omega), ← hd]; grind⟩
theorem tors_neg {D R : Int} (hO : okD D R) (hn : D < 0) (l : List FT) (hl : l.Nodup) (hm : ∀ f, f ∈ l → isName D R f ∧ fm_eqv f.1 (-f.2.1) f.2.2 f.1 f.2.1 f.2.2) : l.length < 512 := by
  have hD1 := hO.1.1
  have key : ∀ f : FT, ∃ y : Nat, f ∈ l → (y < 3 * 1024 ∧ (-D).toNat % (y / 3 + 1) = 0) ∧ ((y % 3 = 0 ∧ f.2.1 = 0 ∧ f.1 = (y / 3 + 1 : Nat)) ∨ (y % 3 = 1 ∧ f.2.1 = f.1 ∧ f.1 = (y / 3 + 1 : Nat)) ∨ (y % 3 = 2 ∧ f.1 = f.2.2 ∧ 2 * f.1 - f.2.1 = (y / 3 + 1 : Nat))) := by
    intro f
    by_cases hf : f ∈ l
    · obtain ⟨y, hy⟩ := amb_cell hO hn (hm f hf).1 (hm f hf).2
      exact ⟨y, fun _ => hy⟩
    · exact ⟨0, fun h => absurd h hf⟩
  obtain ⟨c, hc⟩ := Classical.axiomOfChoice key
  have := dvC_cap (m := (-D).toNat) (k := 3) (by omega) (by omega) (by omega) l hl c (fun x hx => (hc x hx).1) (fun f g hf hg he => by
    have h1 := (hc f hf).2
    have h2 := (hc g hg).2
    rw [← he] at h2
    have d1 : f.2.1 * f.2.1 - 4 * f.1 * f.2.2 = D := (hm f hf).1.1.1
    have d2 : g.2.1 * g.2.1 - 4 * g.1 * g.2.2 = D := (hm g hg).1.1.1
    have a1 := (hm f hf).1.1.2.2 hn
    have a2 := (hm g hg).1.1.2.2 hn
    refine name_key hO (hm f hf).1 (hm g hg).1 ?_
    generalize (c f / 3 + 1 : Nat) = u at *
    obtain ⟨a, b, cc⟩ := f
    obtain ⟨a', b', c'⟩ := g
    simp only [keyI] at *
    rcases h1 with ⟨t1, h1, h1'⟩ | ⟨t1, h1, h1'⟩ | ⟨t1, h1, h1'⟩ <;> rcases h2 with ⟨t2, h2, h2'⟩ | ⟨t2, h2, h2'⟩ | ⟨t2, h2, h2'⟩ <;> try omega
    subst h1; subst h2
    have e1 : (2 * a - b) * (2 * a + b) = (2 * a - b) * (2 * a' + b') := by
      have x1 : (2 * a - b) * (2 * a + b) = -D := by rw [← d1]; grind
      have x2 : (2 * a' - b') * (2 * a' + b') = -D := by rw [← d2]; grind
      rw [x1, ← x2, h1', h2']
    have e2 := Int.eq_of_mul_eq_mul_left (by rw [h1']; intro h0; rw [h0] at h1'; rw [h1', Int.zero_mul] at e1; have x1 : (2 * a - b) * (2 * a + b) = -D := by rw [← d1]; grind
                                             rw [h1', Int.zero_mul] at x1; omega) e1
    omega)
  omega
def sig (f : FT) : FT := (f.2.2, f.2.1, f.1)
theorem sig_fred {f : FT} (h : fred f) : fred (sig f) := fred_sw (a := f.1) (b := f.2.1) (c := f.2.2) h
theorem sig_disc (f : FT) : fdisc (sig f) = fdisc f := by simp only [fdisc, sig]; grind
theorem rho_sig {D R : Int} (hO : okD D R) (h0 : 0 < D) {g : FT} (hg : fred g) (hd : fdisc g = D) : rho R (sig (rho R g)) = sig g := by
  have hR := (hO.2.1 h0).1
  have hns := hO.1.2.2.2
  have w := ((redI_fred hR hns h0 (f := sig g) (by rw [sig_disc]; exact hd)).mpr (sig_fred hg)).2 h0
  have hc := c_ne hns hd
  obtain ⟨a, b, c⟩ := g
  simp only [sig] at w hc ⊢
  have e : -(-b + 2 * c * rhok R b c) + 2 * c * rhok R b c = b := by grind
  show rho R (a - b * rhok R b c + c * rhok R b c * rhok R b c, -b + 2 * c * rhok R b c, c) = (c, b, a)
  have := rho_win (R := R) (k := rhok R b c) (f := (a - b * rhok R b c + c * rhok R b c * rhok R b c, -b + 2 * c * rhok R b c, c)) hc (by simp only; rw [e]; omega) (by simp only; rw [e]; omega)
  rw [this]
  simp only
  rw [e]
  congr 2
  grind
theorem edge {D R : Int} (hO : okD D R) (h0 : 0 < D) {f : FT} (hf : fred f) (hd : fdisc f = D) {j : Nat} (hj : itr (rho R) (2 * j + 1) f = sig f) : ∃ k : Int, (itr (rho R) j f).2.1 = (itr (rho R) j f).2.2 * k := by
  have hR := (hO.2.1 h0).1
  have hns := hO.1.2.2.2
  have key : ∀ j, itr (rho R) j (sig (itr (rho R) j f)) = sig f := by
    intro j
    induction j with
    | zero => rfl
    | succ j ih =>
      have hI := itr_rho hR hns hf hd j
      rw [itr_succ (rho R) j f, show j + 1 = 1 + j by omega, itr_add]
      show itr (rho R) j (rho R (sig (rho R (itr (rho R) j f)))) = _
      rw [rho_sig hO h0 hI.1 hI.2, ih]
  have hI := itr_rho hR hns hf hd j
  have e1 : itr (rho R) j (rho R (itr (rho R) j f)) = itr (rho R) j (sig (itr (rho R) j f)) := by
    rw [key j, ← hj, ← itr_succ (rho R) j f, ← itr_add]; congr 1; omega
  have e2 := itr_cancel hR hns (rho_fred hR hns hI.1 hI.2) (sig_fred hI.1) (by rw [rho_disc]; exact hI.2) (by rw [sig_disc]; exact hI.2) j e1
  generalize itr (rho R) j f = g at *
  obtain ⟨a, b, c⟩ := g
  refine ⟨rhok R b c, ?_⟩
  have e3 : (rho R (a, b, c)).2.1 = b := by rw [e2]; rfl
  have e4 : (rho R (a, b, c)).2.1 = -b + 2 * c * rhok R b c := rfl
  simp only
  rw [e3] at e4
  have : 2 * b = 2 * (c * rhok R b c) := by grind
  omega
theorem itr_sign {D R : Int} (hO : okD D R) (h0 : 0 < D) {f : FT} (hf : fred f) (hd : fdisc f = D) (hs : f.1 < 0) : ∀ i : Nat, ((itr (rho R) i f).1 < 0 ↔ i % 2 = 0) := by
  have hR := (hO.2.1 h0).1
  have hns := hO.1.2.2.2
  intro i
  induction i with
  | zero => exact ⟨fun _ => rfl, fun _ => hs⟩
  | succ i ih =>
    have hI := itr_rho hR hns hf hd i
    rw [itr_succ]
    have h1 := rho_sign hR hns hI.1
    have h2 := a_ne hns hI.2
    omega
theorem amb_pos {D R : Int} (hO : okD D R) (h0 : 0 < D) {f : FT} (hf : isName D R f) (h : fm_eqv f.1 (-f.2.1) f.2.2 f.1 f.2.1 f.2.2) :
    ∃ g g' : FT, g ≠ g' ∧ (fred g ∧ fdisc g = D ∧ fm_eqv f.1 f.2.1 f.2.2 g.1 g.2.1 g.2.2 ∧ ∃ k : Int, g.2.1 = g.2.2 * k) ∧ (fred g' ∧ fdisc g' = D ∧ fm_eqv f.1 f.2.1 f.2.2 g'.1 g'.2.1 g'.2.2 ∧ ∃ k : Int, g'.2.1 = g'.2.2 * k) := by
  have hR := (hO.2.1 h0).1
  have hRb := (hO.2.1 h0).2
  have hns := hO.1.2.2.2
  obtain ⟨h1, h2, -⟩ := (name_p hO h0).mp hf
  have hs := name_neg hO h0 hf
  have hd := h1.1
  have heq : fm_eqv f.1 f.2.1 f.2.2 (sig f).1 (sig f).2.1 (sig f).2.2 := by
    refine fm_trans (fm_symm h) ?_
    have := fm_S f.1 (-f.2.1) f.2.2
    rw [Int.neg_neg] at this
    exact this
  have hm : ∃ m, itr (rho R) m f = sig f := by
    rcases ind_same hR hns h2 (sig_fred h2) hd heq with hm | ⟨m, hm⟩
    · exact hm
    · obtain ⟨p, p1, -, p2, -⟩ := per_ex hR hRb hns (sig_fred h2) (by rw [sig_disc]; exact hd)
      refine ⟨p * m - m, ?_⟩
      conv => lhs; rw [← hm]
      rw [← itr_add]
      have e1 : m + (p * m - m) = p * m := by have := Nat.le_mul_of_pos_left m p1; omega
      rw [e1, itr_per p1 p2, Nat.mul_mod_right]; rfl
  obtain ⟨m, hm⟩ := hm
  obtain ⟨p, p1, -, p2, p3⟩ := per_ex hR hRb hns h2 hd
  have sg := itr_sign hO h0 h2 hd hs
  have m1 : m % 2 = 1 := by
    have := sg m
    rw [hm] at this
    have h3 := h2.1
    simp only [sig] at this
    omega
  have pe : p % 2 = 0 := by
    have := sg p
    rw [p2] at this
    omega
  have hm2 : itr (rho R) (m + p) f = sig f := by rw [show m + p = p + m by omega, itr_add, p2, hm]
  have e1 := edge hO h0 h2 hd (j := m / 2) (by rw [show 2 * (m / 2) + 1 = m by omega]; exact hm)
  have e2 := edge hO h0 h2 hd (j := m / 2 + p / 2) (by rw [show 2 * (m / 2 + p / 2) + 1 = m + p by omega]; exact hm2)
  have I1 := itr_rho hR hns h2 hd (m / 2)
  have I2 := itr_rho hR hns h2 hd (m / 2 + p / 2)
  refine ⟨itr (rho R) (m / 2) f, itr (rho R) (m / 2 + p / 2) f, ?_, ⟨I1.1, I1.2, rho_itr_eqv R f _, e1⟩, ⟨I2.1, I2.2, rho_itr_eqv R f _, e2⟩⟩
  intro hh
  rw [show m / 2 + p / 2 = p / 2 + m / 2 by omega, itr_add] at hh
  have I3 := itr_rho hR hns h2 hd (p / 2)
  have := itr_cancel hR hns h2 I3.1 hd I3.2 _ hh
  exact p3 (p / 2) (by omega) (by omega) this.symm
theorem edge_few {D R : Int} (hO : okD D R) (h0 : 0 < D) (l : List FT) (hl : l.Nodup) (hm : ∀ g, g ∈ l → fred g ∧ fdisc g = D ∧ ∃ k : Int, g.2.1 = g.2.2 * k) : l.length ≤ 680 := by
  have hR := (hO.2.1 h0).1
  have hRb := (hO.2.1 h0).2
  have hns := hO.1.2.2.2
  have hD2 := hO.1.2.1
  have key : ∀ g : FT, ∃ y : Nat, g ∈ l → (y < 4 * 1024 ∧ D.toNat % (y / 4 + 1) = 0) ∧ g.2.2.natAbs = y / 4 + 1 ∧ (y % 2 = 0 ↔ 0 < g.2.2) ∧ g.2.1 = ((y / 4 + 1 : Nat) : Int) * (R / ((y / 4 + 1 : Nat) : Int) - ((y / 2 % 2 : Nat) : Int)) := by
    intro g
    by_cases hg : g ∈ l
    · obtain ⟨g1, g2, k, g3⟩ := hm g hg
      have w := ((redI_fred hR hns h0 (f := sig g) (by rw [sig_disc]; exact g2)).mpr (sig_fred g1)).2 h0
      obtain ⟨-, r2, r3, r4, r5⟩ := fred_rng hR hRb hns g1 g2
      have hcn := c_ne hns g2
      have hdd : g.2.1 * g.2.1 - 4 * g.1 * g.2.2 = D := g2
      obtain ⟨a, b, c⟩ := g
      simp only [sig] at *
      obtain ⟨u, hu⟩ : ∃ u : Nat, c.natAbs = u := ⟨_, rfl⟩
      have hu0 : 0 < u := by omega
      -- b = u q
      obtain ⟨q, hq⟩ : ∃ q : Int, b = (u : Int) * q := by
        rcases Int.lt_or_gt_of_ne hcn with s | s
        · exact ⟨-k, by rw [g3, show c = -(u : Int) by omega]; grind⟩
        · exact ⟨k, by rw [g3, show c = (u : Int) by omega]⟩
      have hdv : (u : Int) ∣ D := by
        have hcD : c ∣ D := ⟨b * k - 4 * a, by rw [← hdd]; rw [show b * b = b * (c * k) by rw [← g3]]; grind⟩
        have := Int.natAbs_dvd.mpr hcD
        rw [hu] at this; exact this
      have hQ1 : q ≤ R / (u : Int) := by
        rw [Int.le_ediv_iff_mul_le (by omega), Int.mul_comm]; omega
      have hQ2 : R / (u : Int) < q + 2 := by
        rw [Int.ediv_lt_iff_lt_mul (by omega)]
        have : (q + 2) * (u : Int) = (u : Int) * q + 2 * u := by grind
        omega
      have hu3 : u ≤ 1023 := by have := r4.1; have := r4.2; omega
      have hDn : D.toNat % u = 0 := by
        apply Nat.mod_eq_zero_of_dvd
        have : (u : Int) ∣ (D.toNat : Int) := by rw [Int.toNat_of_nonneg (by omega)]; exact hdv
        exact_mod_cast this
      by_cases t : q = R / (u : Int) <;> by_cases s : 0 < c
      · refine ⟨4 * (u - 1), fun _ => ⟨⟨by omega, ?_⟩, by omega, by omega, ?_⟩⟩ <;> rw [show 4 * (u - 1) / 4 + 1 = u by omega]
        · exact hDn
        · rw [show 4 * (u - 1) / 2 % 2 = 0 by omega, hq, ← t]; simp
      · refine ⟨4 * (u - 1) + 1, fun _ => ⟨⟨by omega, ?_⟩, by omega, by omega, ?_⟩⟩ <;> rw [show (4 * (u - 1) + 1) / 4 + 1 = u by omega]
        · exact hDn
        · rw [show (4 * (u - 1) + 1) / 2 % 2 = 0 by omega, hq, ← t]; simp
      · refine ⟨4 * (u - 1) + 2, fun _ => ⟨⟨by omega, ?_⟩, by omega, by omega, ?_⟩⟩ <;> rw [show (4 * (u - 1) + 2) / 4 + 1 = u by omega]
        · exact hDn
        · rw [show (4 * (u - 1) + 2) / 2 % 2 = 1 by omega, hq, show q = R / (u : Int) - 1 by omega]; rfl
      · refine ⟨4 * (u - 1) + 3, fun _ => ⟨⟨by omega, ?_⟩, by omega, by omega, ?_⟩⟩ <;> rw [show (4 * (u - 1) + 3) / 4 + 1 = u by omega]
        · exact hDn
        · rw [show (4 * (u - 1) + 3) / 2 % 2 = 1 by omega, hq, show q = R / (u : Int) - 1 by omega]; rfl
    · exact ⟨0, fun h => absurd h hg⟩
  obtain ⟨c, hc⟩ := Classical.axiomOfChoice key
  have := dvC_cap (m := D.toNat) (k := 4) (by omega) (by omega) (by omega) l hl c (fun x hx => (hc x hx).1) (fun f g hf hg he => by
    obtain ⟨-, h1, h2, h3⟩ := hc f hf
    obtain ⟨-, k1, k2, k3⟩ := hc g hg
    rw [← he] at k1 k2 k3
    have d1 : f.2.1 * f.2.1 - 4 * f.1 * f.2.2 = D := (hm f hf).2.1
    have d2 : g.2.1 * g.2.1 - 4 * g.1 * g.2.2 = D := (hm g hg).2.1
    have c1 := c_ne hns (hm f hf).2.1
    rw [← k3] at h3
    obtain ⟨a, b, cc⟩ := f
    obtain ⟨a', b', c'⟩ := g
    simp only at *
    subst h3
    have ec : cc = c' := by omega
    subst ec
    have : (4 * cc) * a = (4 * cc) * a' := by grind
    have := Int.eq_of_mul_eq_mul_left (by omega) this
    subst this; rfl)
  omega
theorem tors_few {D R : Int} (hO : okD D R) {An : Nat → Int32} {cl : Nat} {fm : Nat → FT} (hN : isNF D R An cl fm) {mul : Fin cl → Fin cl → Fin cl} {e : Fin cl} {inv : Fin cl → Fin cl} (hG : GG D cl fm mul e inv) (l : List (Fin cl)) (hl : l.Nodup) (hm : ∀ x, x ∈ l → mul x x = e) : l.length < 512 := by
  have hamb : ∀ x, x ∈ l → fm_eqv (fm x.val).1 (-(fm x.val).2.1) (fm x.val).2.2 (fm x.val).1 (fm x.val).2.1 (fm x.val).2.2 := by
    intro x hx
    have h1 := inv_uni hG.1 (hm x hx)
    have h2 := hG.2.2.2 x
    rw [← h1] at h2
    exact h2.2
  have hnm : ∀ x : Fin cl, isName D R (fm x.val) := fun x => (hN.2.1 x.val x.isLt).1
  have hinj : ∀ x y : Fin cl, fm_eqv (fm x.val).1 (fm x.val).2.1 (fm x.val).2.2 (fm y.val).1 (fm y.val).2.1 (fm y.val).2.2 → x = y := fun x y h => Fin.ext (num_uni hO hN x.isLt y.isLt h)
  rcases Int.lt_or_gt_of_ne (okD_ne hO) with g0 | g0
  · have := tors_neg hO g0 (l.map (fun x => fm x.val)) (nd_map hl (fun x y _ _ h => hinj x y (by rw [h]; exact fm_refl _ _ _))) (fun f hf => by
      obtain ⟨x, hx, rfl⟩ := List.mem_map.1 hf
      exact ⟨hnm x, hamb x hx⟩)
    simpa using this
  · have key : ∀ x : Fin cl, ∃ z : FT × FT, x ∈ l → z.1 ≠ z.2 ∧ (fred z.1 ∧ fdisc z.1 = D ∧ fm_eqv (fm x.val).1 (fm x.val).2.1 (fm x.val).2.2 z.1.1 z.1.2.1 z.1.2.2 ∧ ∃ k : Int, z.1.2.1 = z.1.2.2 * k) ∧ (fred z.2 ∧ fdisc z.2 = D ∧ fm_eqv (fm x.val).1 (fm x.val).2.1 (fm x.val).2.2 z.2.1 z.2.2.1 z.2.2.2 ∧ ∃ k : Int, z.2.2.1 = z.2.2.2 * k) := by
      intro x
      by_cases hx : x ∈ l
      · obtain ⟨g, g', h1, h2, h3⟩ := amb_pos hO g0 (hnm x) (hamb x hx)
        exact ⟨(g, g'), fun _ => ⟨h1, h2, h3⟩⟩
      · exact ⟨((0, 0, 0), (0, 0, 0)), fun h => absurd h hx⟩
    obtain ⟨c, hc⟩ := Classical.axiomOfChoice key
    have := edge_few hO g0 (l.map (fun x => (c x).1) ++ l.map (fun x => (c x).2)) (by
      rw [List.nodup_append]
      refine ⟨nd_map hl (fun x y hx hy h => ?_), nd_map hl (fun x y hx hy h => ?_), ?_⟩
      · have a := (hc x hx).2.1.2.2.1
        have b := (hc y hy).2.1.2.2.1
        rw [← h] at b
        exact hinj x y (fm_trans a (fm_symm b))
      · have a := (hc x hx).2.2.2.2.1
        have b := (hc y hy).2.2.2.2.1
        rw [← h] at b
        exact hinj x y (fm_trans a (fm_symm b))
      · intro u hu v hv huv
        obtain ⟨x, hx, rfl⟩ := List.mem_map.1 hu
        obtain ⟨y, hy, rfl⟩ := List.mem_map.1 hv
        have a := (hc x hx).2.1.2.2.1
        have b := (hc y hy).2.2.2.2.1
        rw [← huv] at b
        have := hinj x y (fm_trans a (fm_symm b))
        subst this
        exact (hc x hx).1 huv) (fun g hg => by
      rcases List.mem_append.1 hg with h | h
      · obtain ⟨x, hx, rfl⟩ := List.mem_map.1 h
        have := (hc x hx).2.1
        exact ⟨this.1, this.2.1, this.2.2.2⟩
      · obtain ⟨x, hx, rfl⟩ := List.mem_map.1 h
        have := (hc x hx).2.2
        exact ⟨this.1, this.2.1, this.2.2.2⟩)
    rw [List.length_append, List.length_map, List.length_map] at this
    omega
