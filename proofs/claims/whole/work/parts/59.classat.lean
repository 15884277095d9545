/-! The number of a name; names are not equivalent to each other -/
/-- the names of D in their order: fm 0, fm 1, .. -/
def isNF (D R : Int) (An : Nat → Int32) (cl : Nat) (fm : Nat → FT) : Prop := cl ≤ 1908 ∧ (∀ i, i < cl → isName D R (fm i) ∧ An i = i3 (keyI (fm i))) ∧ (∀ i j, i < j → j < cl → keyI (fm i) < keyI (fm j)) ∧ ∀ f, isName D R f → ∃ i, i < cl ∧ fm i = f
theorem name_key {D R : Int} (hO : okD D R) {f g : FT} (hf : isName D R f) (hg : isName D R g) (h : keyI f = keyI g) : f = g := by
  have hns := hO.1.2.2.2
  rcases Int.lt_or_gt_of_ne (okD_ne hO) with g0 | g0
  · have r := name_rng hO g0 hg
    obtain ⟨h1, h2⟩ := key_eq_n hO g0 hf (a := g.1) (b := g.2.1) (by omega) h
    have d1 := hf.1.1
    have d2 := hg.1.1
    simp only [fdisc] at d1 d2
    rw [h1, h2] at d1
    have e : 4 * g.1 * f.2.2 = 4 * g.1 * g.2.2 := by omega
    have h3 : f.2.2 = g.2.2 := Int.eq_of_mul_eq_mul_left (by omega) e
    exact Prod.ext h1 (Prod.ext h2 h3)
  · obtain ⟨a1, a2, -⟩ := (name_p hO g0).mp hf
    obtain ⟨b1, b2, -⟩ := (name_p hO g0).mp hg
    exact key_inj (hO.2.1 g0).1 (hO.2.1 g0).2 hns a2 b2 a1.1 b1.1 h
theorem name_r3 {D R : Int} (hO : okD D R) {f : FT} (hf : isName D R f) : r3 (keyI f) := by
  have hns := hO.1.2.2.2
  rcases Int.lt_or_gt_of_ne (okD_ne hO) with g0 | g0
  · have r := name_rng hO g0 hf
    exact ⟨by simp only [keyI]; omega, by simp only [keyI]; omega⟩
  · obtain ⟨a1, a2, -⟩ := (name_p hO g0).mp hf
    exact key_r3 (hO.2.1 g0).1 (hO.2.1 g0).2 hns a2 a1.1
theorem nf_of {D R : Int} (hO : okD D R) (hC : capD D R) {An : Nat → Int32} {cl : Nat} (h : isNm An cl (AllN D R)) : ∃ fm, isNF D R An cl fm := by
  obtain ⟨nm, h1, h2, h3⟩ := h
  have hex : ∀ i, ∃ f : FT, i < cl → isName D R f ∧ keyI f = nm i := by
    intro i
    by_cases hi : i < cl
    · obtain ⟨f, q1, q2⟩ := (h3 (nm i)).mpr ⟨i, hi, rfl⟩
      exact ⟨f, fun _ => ⟨q1, q2⟩⟩
    · exact ⟨(0, 0, 0), fun q => absurd q hi⟩
  refine ⟨fun i => (hex i).choose, ?_, ?_, ?_, ?_⟩
  · refine hC cl (fun i => (hex i).choose) (fun i hi => ((hex i).choose_spec hi).1) (fun i j hi hj e => ?_)
    have a := ((hex i).choose_spec hi).2
    have b := ((hex j).choose_spec hj).2
    rw [e, b] at a
    rcases Nat.lt_trichotomy i j with q | q | q
    · have := h2 i j q hj; omega
    · exact q
    · have := h2 j i q hi; omega
  · intro i hi
    have s := (hex i).choose_spec hi
    exact ⟨s.1, by rw [(h1 i hi).1, ← s.2]⟩
  · intro i j hij hj
    have a := ((hex i).choose_spec (by omega)).2
    have b := ((hex j).choose_spec hj).2
    rw [a, b]; exact h2 i j hij hj
  · intro f hf
    obtain ⟨i, hi, e⟩ := (h3 (keyI f)).mp ⟨f, hf, rfl⟩
    refine ⟨i, hi, ?_⟩
    have s := (hex i).choose_spec hi
    exact name_key hO s.1 hf (by rw [s.2, e])
/-- equivalent names are the same -/
theorem name_uni {D R : Int} (hO : okD D R) {f g : FT} (hf : isName D R f) (hg : isName D R g) (h : fm_eqv f.1 f.2.1 f.2.2 g.1 g.2.1 g.2.2) : f = g := by
  have hns := hO.1.2.2.2
  rcases Int.lt_or_gt_of_ne (okD_ne hO) with g0 | g0
  · have a := (name_n g0).mp hf
    have b := (name_n g0).mp hg
    exact def_same (a.1.2.2 g0) (b.1.2.2 g0) a.2 b.2 h
  · obtain ⟨a1, a2, a3⟩ := (name_p hO g0).mp hf
    obtain ⟨b1, b2, b3⟩ := (name_p hO g0).mp hg
    have hR := (hO.2.1 g0).1
    have hRb := (hO.2.1 g0).2
    refine name_key hO hf hg ?_
    -- both keys are the least of one cycle
    have back : ∀ {f g : FT}, fred f → fdisc f = D → ∀ m, itr (rho R) m f = g → ∃ m', itr (rho R) m' g = f := by
      intro f g hf hD m hm
      obtain ⟨p, p1, p2, p3, -⟩ := per_ex hR hRb hns hf hD
      refine ⟨p * m + p - m, ?_⟩
      rw [← hm, ← itr_add]
      have hle : m ≤ p * m := Nat.le_mul_of_pos_left m p1
      rw [show m + (p * m + p - m) = p * (m + 1) by rw [Nat.mul_succ]; omega, itr_per p1 p3, Nat.mul_mod_right]
      rfl
    rcases ind_same hR hns a2 b2 a1.1 h with ⟨m, hm⟩ | ⟨m, hm⟩
    · obtain ⟨m', hm'⟩ := back a2 a1.1 m hm
      have q1 := a3 m
      have q2 := b3 m'
      rw [hm] at q1
      rw [hm'] at q2
      omega
    · obtain ⟨m', hm'⟩ := back b2 b1.1 m hm
      have q1 := b3 m
      have q2 := a3 m'
      rw [hm] at q1
      rw [hm'] at q2
      omega
theorem catL_s (F : Nat) {D R : Int} (hO : okD D R) {An : Nat → Int32} {cl : Nat} {fm : Nat → FT} (hN : isNF D R An cl fm) {key : Int} (hk : r3 key) : ∀ (j n : Nat) (k : Int), j ≤ 10 → -1 ≤ k → k < cl → (0 ≤ k → keyI (fm k.toNat) ≤ key) → (k + 2 * 2 ^ j < cl → key < keyI (fm (k + 2 * 2 ^ j).toNat)) → j + 2 ≤ n →
    ∃ k' : Int, f_classAt_L6 F (i3 cl) An (i3 key) n (i3 k) (i3 ((2 ^ j : Nat) : Int)) = some (i3 k') ∧ -1 ≤ k' ∧ k' < cl ∧ (0 ≤ k' → keyI (fm k'.toNat) ≤ key) ∧ (k' + 1 < cl → key < keyI (fm (k' + 1).toNat)) := by
  obtain ⟨N1, N2, N3, N4⟩ := hN
  intro j
  induction j with
  | zero =>
    intro n k hj h1 h2 h3 h4 hn
    obtain ⟨n', rfl⟩ : ∃ n', n = n' + 1 + 1 := ⟨n - 2, by omega⟩
    have e0 : ((2 ^ 0 : Nat) : Int) = 1 := rfl
    rw [e0, f_classAt_L6, if_f (show ¬ i3 1 ≤ 0 by decide), i3_add]
    have sh : i3 (1 : Int) >>> ((1 : Int32) &&& 31) = i3 0 := rfl
    have tail : ∀ k' : Int, f_classAt_L6 F (i3 cl) An (i3 key) (n' + 1) (i3 k') (i3 0) = some (i3 k') := by
      intro k'
      rw [f_classAt_L6, if_t (show i3 0 ≤ 0 by decide)]
    by_cases g : (cl : Int) ≤ k + 1
    · rw [if_t ((i3_le (a := (cl : Int)) (b := k + 1) ⟨by omega, by omega⟩ ⟨by omega, by omega⟩).mpr g)]
      refine ⟨k, ?_, h1, h2, h3, fun q => by omega⟩
      show f_classAt_L6 F (i3 cl) An (i3 key) (n' + 1) (i3 k) (i3 1 >>> ((1 : Int32) &&& 31)) = _
      rw [sh, tail]
    · rw [if_f (fun q => g ((i3_le (a := (cl : Int)) (b := k + 1) ⟨by omega, by omega⟩ ⟨by omega, by omega⟩).mp q)), if_t (vin_i3 (a := k + 1) (n := 1908) (by omega) (by omega) (by decide))]
      have hA : An (i3 (k + 1)).toNatClampNeg = i3 (keyI (fm (k + 1).toNat)) := by rw [i3_nat ⟨by omega, by omega⟩]; exact (N2 _ (by omega)).2
      rw [hA]
      have hr := name_r3 hO (N2 (k + 1).toNat (by omega)).1
      by_cases g2 : key < keyI (fm (k + 1).toNat)
      · rw [if_t ((i3_lt hk hr).mpr g2)]
        refine ⟨k, ?_, h1, h2, h3, fun _ => g2⟩
        show f_classAt_L6 F (i3 cl) An (i3 key) (n' + 1) (i3 k) (i3 1 >>> ((1 : Int32) &&& 31)) = _
        rw [sh, tail]
      · rw [if_f (fun q => g2 ((i3_lt hk hr).mp q))]
        refine ⟨k + 1, ?_, by omega, by omega, fun _ => by omega, fun q => ?_⟩
        · show f_classAt_L6 F (i3 cl) An (i3 key) (n' + 1) (i3 (k + 1)) (i3 1 >>> ((1 : Int32) &&& 31)) = _
          rw [sh, tail]
        · have e : k + 1 + 1 = k + 2 * 2 ^ 0 := by omega
          rw [e] at q ⊢; exact h4 q
  | succ j ih =>
    intro n k hj h1 h2 h3 h4 hn
    obtain ⟨n', rfl⟩ : ∃ n', n = n' + 1 := ⟨n - 1, by omega⟩
    have hp : 2 ^ (j + 1) = 2 * 2 ^ j := by rw [Nat.pow_succ, Nat.mul_comm]
    have hpI : (2 : Int) * 2 ^ (j + 1) = 2 * (2 * 2 ^ j) := by rw [Int.pow_succ]; grind
    have hc1 : ((2 ^ (j + 1) : Nat) : Int) = 2 * (2 : Int) ^ j := by rw [hp]; simp
    have hpos : 0 < 2 ^ j := Nat.two_pow_pos j
    have hle : 2 ^ (j + 1) ≤ 2 ^ 10 := Nat.pow_le_pow_right (by decide) hj
    have b1 : ¬ i3 ((2 ^ (j + 1) : Nat) : Int) ≤ 0 := fun q => by
      have := (c_ge0 (a := ((2 ^ (j + 1) : Nat) : Int)) ⟨by omega, by omega⟩).mp q
      omega
    have sh : i3 ((2 ^ (j + 1) : Nat) : Int) >>> ((1 : Int32) &&& 31) = i3 ((2 ^ j : Nat) : Int) := by
      rw [i3_shr1 (by omega)]
      congr 2
      omega
    rw [f_classAt_L6, if_f b1, i3_add]
    generalize hB : ((2 ^ (j + 1) : Nat) : Int) = B at *
    by_cases g : (cl : Int) ≤ k + B
    · rw [if_t ((i3_le (a := (cl : Int)) (b := k + B) ⟨by omega, by omega⟩ ⟨by omega, by omega⟩).mpr g)]
      show ∃ k' : Int, f_classAt_L6 F (i3 cl) An (i3 key) n' (i3 k) (i3 B >>> ((1 : Int32) &&& 31)) = _ ∧ _
      rw [sh]
      exact ih n' k (by omega) h1 h2 h3 (fun q => by omega) (by omega)
    · rw [if_f (fun q => g ((i3_le (a := (cl : Int)) (b := k + B) ⟨by omega, by omega⟩ ⟨by omega, by omega⟩).mp q)), if_t (vin_i3 (a := k + B) (n := 1908) (by omega) (by omega) (by decide))]
      have hA : An (i3 (k + B)).toNatClampNeg = i3 (keyI (fm (k + B).toNat)) := by rw [i3_nat ⟨by omega, by omega⟩]; exact (N2 _ (by omega)).2
      rw [hA]
      have hr := name_r3 hO (N2 (k + B).toNat (by omega)).1
      by_cases g2 : key < keyI (fm (k + B).toNat)
      · rw [if_t ((i3_lt hk hr).mpr g2)]
        show ∃ k' : Int, f_classAt_L6 F (i3 cl) An (i3 key) n' (i3 k) (i3 B >>> ((1 : Int32) &&& 31)) = _ ∧ _
        rw [sh]
        exact ih n' k (by omega) h1 h2 h3 (fun q => by rw [← hc1] at q ⊢; exact g2) (by omega)
      · rw [if_f (fun q => g2 ((i3_lt hk hr).mp q))]
        show ∃ k' : Int, f_classAt_L6 F (i3 cl) An (i3 key) n' (i3 (k + B)) (i3 B >>> ((1 : Int32) &&& 31)) = _ ∧ _
        rw [sh]
        refine ih n' (k + B) (by omega) (by omega) (by omega) (fun _ => by omega) (fun q => ?_) (by omega)
        have e : k + B + 2 * 2 ^ j = k + 2 * 2 ^ (j + 1) := by rw [hpI]; omega
        rw [e] at q ⊢; exact h4 q
theorem classAt_s (F : Nat) (hF : 100 ≤ F) {D R : Int} (hO : okD D R) {An : Nat → Int32} {cl : Nat} {fm : Nat → FT} (hN : isNF D R An cl fm) {i : Nat} (hi : i < cl) : f_classAt F (i3 cl) An (i3 (keyI (fm i))) = some (i3 i) := by
  have hk := name_r3 hO (hN.2.1 i hi).1
  obtain ⟨k, q1, q2, q3, q4, q5⟩ := catL_s F hO hN hk 10 F (-1) (by omega) (by omega) (by omega) (fun q => by omega) (fun q => by have := hN.1; omega) (by omega)
  obtain ⟨N1, N2, N3, N4⟩ := hN
  have hki : k = i := by
    have hlo : (i : Int) ≤ k := by
      by_cases g : (i : Int) ≤ k
      · exact g
      · exfalso
        have h1 := q5 (by omega)
        rcases Nat.lt_or_ge (k + 1).toNat i with p | p
        · have := N3 _ _ p hi; omega
        · have : (k + 1).toNat = i := by omega
          rw [this] at h1; omega
    have hhi : k ≤ (i : Int) := by
      by_cases g : k ≤ (i : Int)
      · exact g
      · exfalso
        have h1 := q4 (by omega)
        have := N3 i k.toNat (by omega) (by omega)
        omega
    omega
  unfold f_classAt
  have hL : f_classAt_L6 F (i3 cl) An (i3 (keyI (fm i))) F (-1) 1024 = some (i3 i) := by rw [← hki]; exact q1
  rw [hL]
  simp only [Option.bind_some]
  have hic : f_isClass F (i3 cl) (i3 (i : Int)) = some 1 := by
    unfold f_isClass
    rw [if_f (fun q => by have := (c_lt0 (a := (i : Int)) ⟨by omega, by omega⟩).mp q; omega), if_f (fun q => by have := (i3_le (a := (cl : Int)) (b := (i : Int)) ⟨by omega, by omega⟩ ⟨by omega, by omega⟩).mp q; omega)]
  rw [hic]
  simp only [Option.bind_some]
  rw [if_f (show ¬ (1 : Int32) = 0 by decide), if_t (vin_i3 (a := (i : Int)) (n := 1908) (by omega) (by omega) (by decide))]
  have hA : An (i3 (i : Int)).toNatClampNeg = i3 (keyI (fm i)) := by rw [i3_nat ⟨by omega, by omega⟩]; exact (N2 _ (by omega)).2
  rw [hA, if_t rfl]
