/-! Reduction: D below 0; the loop of the class -/
def okD (D R : Int) : Prop := takeable D ∧ (0 < D → isRoot D R ∧ R < 1024) ∧ (D < 0 → R = 0)
def okF (D : Int) (f : FT) : Prop := fdisc f = D ∧ prim f.1 f.2.1 f.2.2 ∧ (D < 0 → 0 < f.1)
theorem okD_ne {D R : Int} (h : okD D R) : D ≠ 0 := fun h0 => h.1.2.2.2 0 (by rw [h0]; rfl)
theorem okD_r {D R : Int} (h : okD D R) : 0 ≤ R ∧ R < 2048 := by
  have h0 := okD_ne h
  rcases Int.lt_or_gt_of_ne h0 with g | g
  · rw [h.2.2 g]; omega
  · have := h.2.1 g; exact ⟨this.1.1, by omega⟩
def nrm (f : FT) : Prop := -f.1 < f.2.1 ∧ f.2.1 ≤ f.1 ∧ 0 < f.1 ∧ 0 < f.2.2
theorem c_pos {D : Int} (hn : D < 0) {f : FT} (hD : fdisc f = D) (ha : 0 < f.1) : 0 < f.2.2 := by
  simp only [fdisc] at hD
  by_cases g : 0 < f.2.2
  · exact g
  · have h1 : f.1 * f.2.2 ≤ 0 := Int.mul_nonpos_of_nonneg_of_nonpos (by omega) (by omega)
    have e : 4 * f.1 * f.2.2 = 4 * (f.1 * f.2.2) := by grind
    have hsq0 : 0 ≤ f.2.1 * f.2.1 := by
      rcases Int.le_total 0 f.2.1 with h | h
      · exact Int.mul_nonneg h h
      · exact Int.mul_nonneg_of_nonpos_of_nonpos h h
    omega
theorem defStep {D R : Int} (hn : D < 0) {f : FT} (hD : fdisc f = D) (ha : 0 < f.1) : nrm (stI D R f) ∧ (stI D R f).1 = f.2.2 := by
  have hc := c_pos hn hD ha
  have ht : ftop D R f.2.2 = (f.2.2.natAbs : Int) := if_neg (by omega)
  have hw := rho_win2 (T := ftop D R f.2.2) (f := f) (by omega)
  rw [ht] at hw
  have hD' : fdisc (stI D R f) = D := by rw [stI_disc]; exact hD
  have e1 : (stI D R f).1 = f.2.2 := rfl
  have e2 : (stI D R f).2.1 = (rho (f.2.2.natAbs : Int) f).2.1 := by unfold stI; rw [ht]
  refine ⟨⟨?_, ?_, by rw [e1]; exact hc, c_pos hn hD' (by rw [e1]; exact hc)⟩, e1⟩
  · rw [e1, e2]; omega
  · rw [e1, e2]; omega
theorem defEnd {D R : Int} (hn : D < 0) {f : FT} (hD : fdisc f = D) (hf : nrm f) (hle : f.1 ≤ f.2.2) : dred f ∨ dred (stI D R f) := by
  obtain ⟨h1, h2, h3, h4⟩ := hf
  by_cases g : 0 ≤ f.2.1 ∨ f.1 < f.2.2
  · left
    exact ⟨by omega, h2, hle, by omega⟩
  · right
    obtain ⟨a, b, c⟩ := f
    simp only at *
    have hca : c = a := by omega
    subst hca
    have ht : ftop D R c = (c.natAbs : Int) := if_neg (by omega)
    unfold stI
    rw [show (c, b, c).2.2 = c from rfl, ht, rho_win (k := 0) (f := (c, b, c)) (by simp only; omega) (by simp only; omega) (by simp only; omega)]
    simp only
    refine ⟨?_, ?_, ?_, ?_⟩ <;> simp only <;> simp <;> omega
theorem defHalf {D : Int} (hd : -1048576 ≤ D) {f : FT} (hD : fdisc f = D) (hf : nrm f) (hg : 1024 < f.1) : 2 * f.2.2 ≤ f.1 := by
  obtain ⟨h1, h2, h3, h4⟩ := hf
  simp only [fdisc] at hD
  have hsq := sq_le (show bd f.1 f.2.1 from ⟨by omega, h2⟩)
  have h5 : 1025 * 1025 ≤ f.1 * f.1 := Int.mul_le_mul (by omega) (by omega) (by omega) (by omega)
  have e : 4 * f.1 * f.2.2 = 2 * (f.1 * (2 * f.2.2)) := by grind
  have h6 : f.1 * (2 * f.2.2) ≤ f.1 * f.1 := by omega
  exact Int.le_of_mul_le_mul_left h6 (by omega)
theorem defP1 {D R : Int} (hn : D < 0) (hd : -1048576 ≤ D) : ∀ (k : Nat) (f : FT), fdisc f = D → nrm f → f.1 ≤ 1024 * 2 ^ k → ∃ m, m ≤ k ∧ nrm (itr (stI D R) m f) ∧ (itr (stI D R) m f).1 ≤ 1024 := by
  intro k
  induction k with
  | zero => intro f hD hf h; refine ⟨0, by omega, hf, ?_⟩
            show f.1 ≤ 1024
            simpa using h
  | succ k ih =>
    intro f hD hf h
    by_cases g : f.1 ≤ 1024
    · exact ⟨0, by omega, hf, g⟩
    · have h2 := defHalf hd hD hf (by omega)
      have hs := defStep (R := R) hn hD hf.2.2.1
      have e : (1024 : Int) * 2 ^ (k + 1) = 2 * (1024 * 2 ^ k) := by rw [Int.pow_succ]; grind
      obtain ⟨m, hm, r1, r2⟩ := ih (stI D R f) (by rw [stI_disc]; exact hD) hs.1 (by rw [hs.2]; omega)
      exact ⟨m + 1, by omega, r1, r2⟩
theorem defP2 {D R : Int} (hn : D < 0) : ∀ (n : Nat) (f : FT), fdisc f = D → nrm f → f.1 ≤ n → ∃ m, m ≤ n + 1 ∧ dred (itr (stI D R) m f) := by
  intro n
  induction n with
  | zero => intro f _ hf h; have := hf.2.2.1; omega
  | succ n ih =>
    intro f hD hf h
    by_cases g : f.1 ≤ f.2.2
    · rcases defEnd (R := R) hn hD hf g with q | q
      · exact ⟨0, by omega, q⟩
      · exact ⟨1, by omega, q⟩
    · have hs := defStep (R := R) hn hD hf.2.2.1
      obtain ⟨m, hm, r1⟩ := ih (stI D R f) (by rw [stI_disc]; exact hD) hs.1 (by rw [hs.2]; omega)
      exact ⟨m + 1, by omega, r1⟩
theorem red_ex {D R : Int} (hO : okD D R) {f : FT} (hF : okF D f) (hB : Bd f) : ∃ m, m ≤ 2000 ∧ redI D R (itr (stI D R) m f) ∧ ∀ i, i < m → ¬ redI D R (itr (stI D R) i f) := by
  have hns := hO.1.2.2.2
  have h0 := okD_ne hO
  have hex : ∃ m, m ≤ 2000 ∧ redI D R (itr (stI D R) m f) := by
    rcases Int.lt_or_gt_of_ne h0 with g | g
    · have hs := defStep (R := R) g hF.1 (hF.2.2 g)
      have hD' : fdisc (stI D R f) = D := by rw [stI_disc]; exact hF.1
      have hcb := hB.2.2.2
      obtain ⟨m, hm, r1, r2⟩ := defP1 (R := R) g hO.1.1 21 (stI D R f) hD' hs.1 (by rw [hs.2]; omega)
      have hDm : fdisc (itr (stI D R) m (stI D R f)) = D := by
        have : ∀ i : Nat, fdisc (itr (stI D R) i (stI D R f)) = D := by
          intro i
          induction i with
          | zero => exact hD'
          | succ i ih => rw [itr_succ, stI_disc]; exact ih
        exact this m
      obtain ⟨m2, hm2, r3⟩ := defP2 (R := R) g 1024 _ hDm r1 r2
      refine ⟨1 + m + m2, by omega, (redI_dred g).mpr ?_⟩
      rw [itr_add, itr_add]; exact r3
    · have hR := (hO.2.1 g).1
      have hcb1 := hB.2.2.1; have hcb2 := hB.2.2.2
      obtain ⟨m, hm, r1⟩ := ind16 hR hns g 16 f hF.1 (by omega)
      have hDm : fdisc (itr (stI D R) m f) = D := by
        have : ∀ i : Nat, fdisc (itr (stI D R) i f) = D := by
          intro i
          induction i with
          | zero => exact hF.1
          | succ i ih => rw [itr_succ, stI_disc]; exact ih
        exact this m
      rcases indB hR hns g hDm r1 with q | q
      · exact ⟨m + 1, by omega, by rw [itr_succ]; exact q⟩
      · exact ⟨m + 1 + 1, by omega, by rw [itr_succ, itr_succ]; exact q⟩
  obtain ⟨m0, hm0, hr0⟩ := hex
  obtain ⟨m, hm, hmin⟩ := pk_least (fun m => redI D R (itr (stI D R) m f)) ⟨m0, hr0⟩
  refine ⟨m, ?_, hm, hmin⟩
  rcases Nat.lt_or_ge m0 m with g | g
  · exact absurd hr0 (hmin m0 g)
  · omega
theorem stI_ok {D R : Int} (hO : okD D R) {f : FT} (hF : okF D f) (hB : Bd f) : okF D (stI D R f) ∧ Bd (stI D R f) := by
  have hr := okD_r hO
  refine ⟨⟨by rw [stI_disc]; exact hF.1, fm_prim (stI_eqv D R f) hF.2.1, fun g => ?_⟩, stI_bd ⟨hO.1.1, hO.1.2.1⟩ hr.1 hr.2 (c_ne hO.1.2.2.2 hF.1) hF.1 hB⟩
  rw [(defStep (R := R) g hF.1 (hF.2.2 g)).2]
  exact c_pos g hF.1 (hF.2.2 g)
theorem itr_ok {D R : Int} (hO : okD D R) {f : FT} (hF : okF D f) (hB : Bd f) : ∀ i : Nat, okF D (itr (stI D R) i f) ∧ Bd (itr (stI D R) i f) := by
  intro i
  induction i with
  | zero => exact ⟨hF, hB⟩
  | succ i ih => rw [itr_succ]; exact stI_ok hO ih.1 ih.2
theorem itr_eqv (D R : Int) (f : FT) : ∀ i : Nat, fm_eqv f.1 f.2.1 f.2.2 (itr (stI D R) i f).1 (itr (stI D R) i f).2.1 (itr (stI D R) i f).2.2 := by
  intro i
  induction i with
  | zero => exact fm_refl _ _ _
  | succ i ih => rw [itr_succ]; exact fm_trans ih (stI_eqv D R _)
theorem cM (w : Nat) (hw : w < 1000000) : ¬ (1000000 : Int32) ≤ i3 w := by
  rw [show (1000000 : Int32) = i3 1000000 from rfl, i3_le ⟨by decide, by decide⟩ ⟨by omega, by omega⟩]; omega
theorem reduceL_s (F : Nat) {D R : Int} (hO : okD D R) : ∀ (m : Nat) (f : FT) (n w : Nat), okF D f → Bd f → redI D R (itr (stI D R) m f) → (∀ i, i < m → ¬ redI D R (itr (stI D R) i f)) → w + m < 1000000 → m + 1 ≤ n →
    f_reduce_L2 F (i3 D) (i3 R) n (i3 w) (i6 f.1) (i6 f.2.1) (i6 f.2.2) = some (i6 (itr (stI D R) m f).1, i6 (itr (stI D R) m f).2.1, i6 (itr (stI D R) m f).2.2) := by
  intro m
  have hr := okD_r hO
  have hbD : bd 1048576 D := ⟨hO.1.1, hO.1.2.1⟩
  have wide : ∀ {x : Int}, bd 2147483648 x → bd 4294967296 x := fun h => ⟨by have := h.1; omega, by have := h.2; omega⟩
  induction m with
  | zero =>
    intro f n w hF hB h1 _ hw hn
    obtain ⟨n', rfl⟩ : ∃ n', n = n' + 1 := ⟨n - 1, by omega⟩
    rw [f_reduce_L2, if_f (cM w (by omega)), (isRed_s F (R := R) hbD (okD_ne hO) hr.1 hr.2 (wide hB.1) (wide hB.2.1) (wide hB.2.2)).1 h1]
    rfl
  | succ m ih =>
    intro f n w hF hB h1 h2 hw hn
    obtain ⟨n', rfl⟩ : ∃ n', n = n' + 1 := ⟨n - 1, by omega⟩
    rw [f_reduce_L2, if_f (cM w (by omega)), (isRed_s F (R := R) hbD (okD_ne hO) hr.1 hr.2 (wide hB.1) (wide hB.2.1) (wide hB.2.2)).2 (h2 0 (by omega))]
    simp only [Option.bind_some]
    rw [if_t trivial, step_s F (a := f.1) (b := f.2.1) (c := f.2.2) hbD hr.1 hr.2 hB.2.1 hB.2.2 (c_ne hO.1.2.2.2 hF.1) hF.1]
    simp only [Option.bind_some]
    have hs := stI_ok hO hF hB
    have := ih (stI D R f) n' (w + 1) hs.1 hs.2 h1 (fun i hi => h2 (i + 1) (by omega)) (by omega) (by omega)
    show f_reduce_L2 F (i3 D) (i3 R) n' (i3 w + i3 1) _ _ _ = _
    rw [i3_add]
    exact this
/-- reduce: to the first reduced form of the chain of steps -/
theorem reduce_s (F : Nat) (hF0 : 1000000 ≤ F) {D R : Int} (hO : okD D R) {f : FT} (hF : okF D f) (hB : Bd f) : ∃ g : FT, f_reduce F (i3 D) (i3 R) (i6 f.1) (i6 f.2.1) (i6 f.2.2) = some (i6 g.1, i6 g.2.1, i6 g.2.2) ∧ okF D g ∧ Bd g ∧ redI D R g ∧ fm_eqv f.1 f.2.1 f.2.2 g.1 g.2.1 g.2.2 := by
  obtain ⟨m, hm, h1, h2⟩ := red_ex hO hF hB
  refine ⟨itr (stI D R) m f, ?_, (itr_ok hO hF hB m).1, (itr_ok hO hF hB m).2, h1, itr_eqv D R f m⟩
  unfold f_reduce
  have : f_reduce_L2 F (i3 D) (i3 R) F 0 (i6 f.1) (i6 f.2.1) (i6 f.2.2) = _ := reduceL_s F hO m f F 0 hF hB h1 h2 (by omega) (by omega)
  rw [this]
  rfl
