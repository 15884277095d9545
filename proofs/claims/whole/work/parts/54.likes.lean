/-! firstLikeD, isPrimitive; names of a D -/
theorem and1 {a : Int} (h : r3 a) : i3 a &&& 1 = i3 (a % 2) := by
  rw [pk_and (i3 a) 1 (by decide)]
  have h1 : ((i3 a).toBitVec.toNat : Int) % 2 = a % 2 := by
    have h2 := i3_t h
    have h3 : (i3 a).toInt = (i3 a).toBitVec.toInt := rfl
    rw [h3, BitVec.toInt_eq_toNat_cond] at h2
    split at h2 <;> omega
  have e : ∀ m : Nat, nI m = i3 (m : Int) := fun m => Int32.ofInt_eq_ofNat.symm
  rw [e]
  congr 1
theorem likeD_0 (F : Nat) {D : Int} (h : r3 D) : f_likeD F (i3 D) 0 = some (i3 (D % 2)) := by
  unfold f_likeD
  rw [Int32.zero_xor, and1 h]
  show some (i3 0 + i3 (D % 2)) = _
  rw [i3_add]; congr 2; omega
theorem likeD_1 (F : Nat) {D : Int} (h : r3 D) : f_likeD F (i3 D) 1 = some (i3 (if D % 2 = 1 then 1 else 2)) := by
  unfold f_likeD
  have e : ((1 : Int32) ^^^ i3 D) &&& 1 = i3 (1 - D % 2) := by
    have hd : ((1 : Int32) ^^^ i3 D) &&& 1 = ((1 : Int32) &&& 1) ^^^ (i3 D &&& 1) := by
      apply Int32.toBitVec_inj.mp
      simp only [Int32.toBitVec_and, Int32.toBitVec_xor]
      ext i hi
      simp only [BitVec.getElem_and, BitVec.getElem_xor]
      cases (1 : Int32).toBitVec[i] <;> cases (i3 D).toBitVec[i] <;> rfl
    rw [hd, and1 h]
    rcases Int.emod_two_eq D with g | g <;> rw [g] <;> rfl
  rw [e]
  show some (i3 1 + i3 (1 - D % 2)) = _
  rw [i3_add]
  congr 2
  rcases Int.emod_two_eq D with g | g <;> rw [g] <;> simp
theorem isPrim_s (F : Nat) (hF : 100 ≤ F) {a b c : Int} (ha : bd 2147483647 a) (hb : bd 2147483647 b) (hc : bd 2147483647 c) : (prim a b c → f_isPrim F (i3 a) (i3 b) (i3 c) = some 1) ∧ (¬ prim a b c → f_isPrim F (i3 a) (i3 b) (i3 c) = some 0) := by
  have a1 := ha.1; have a2 := ha.2; have b1 := hb.1; have b2 := hb.2; have c1 := hc.1; have c2 := hc.2
  have hg : (Int.gcd a b : Int) ≤ 2147483647 := by
    by_cases g : a = 0
    · rw [g, Int.gcd_zero_left]; omega
    · have := Int.gcd_le_natAbs_left (a := a) (b := b) g
      omega
  have hg2 : (Int.gcd (Int.gcd a b) c : Int) ≤ 2147483647 := by
    by_cases g : (Int.gcd a b : Int) = 0
    · rw [g, Int.gcd_zero_left]; omega
    · have := Int.gcd_le_natAbs_left (a := (Int.gcd a b : Int)) (b := c) g
      omega
  have e : f_isPrim F (i3 a) (i3 b) (i3 c) = (if i3 ((Int.gcd (Int.gcd a b) c : Nat) : Int) = 1 then some 1 else some 0) := by
    unfold f_isPrim
    rw [gcd_s F hF ⟨by omega, by omega⟩ ⟨by omega, by omega⟩ (by omega) (by omega)]
    simp only [Option.bind_some]
    rw [gcd_s F hF ⟨by omega, by omega⟩ ⟨by omega, by omega⟩ (by omega) (by omega)]
    simp only [Option.bind_some]
  have k : i3 ((Int.gcd (Int.gcd a b) c : Nat) : Int) = 1 ↔ prim a b c := by
    rw [prim_iff, show (1 : Int32) = i3 1 from rfl, i3_eq ⟨by omega, by omega⟩ ⟨by decide, by decide⟩]
    omega
  rw [e]
  exact ⟨fun h => if_t (k.mpr h), fun h => if_f (fun q => h (k.mp q))⟩
/-- a name of D -/
def isName (D R : Int) (f : FT) : Prop := okF D f ∧ redI D R f ∧ (0 < D → lst R f)
/-- D has at most 1908 classes -/
def capD (D R : Int) : Prop := ∀ (n : Nat) (g : Nat → FT), (∀ i, i < n → isName D R (g i)) → (∀ i j, i < n → j < n → g i = g j → i = j) → n ≤ 1908
theorem cap_room {D R : Int} (hC : capD D R) {An : Nat → Int32} {cl : Nat} {S : Int → Prop} (h : isNm An cl S) (hS : ∀ z, S z → ∃ f, isName D R f ∧ keyI f = z) {f : FT} (hf : isName D R f) (hn : ¬ S (keyI f)) : cl < 1908 := by
  obtain ⟨nm, h1, h2, h3⟩ := h
  have hex : ∀ i, ∃ g : FT, isName D R g ∧ (i < cl → keyI g = nm i) ∧ (¬ i < cl → g = f) := by
    intro i
    by_cases hi : i < cl
    · obtain ⟨g, g1, g2⟩ := hS (nm i) ((h3 _).mpr ⟨i, hi, rfl⟩)
      exact ⟨g, g1, fun _ => g2, fun q => absurd hi q⟩
    · exact ⟨f, hf, fun q => absurd q hi, fun _ => rfl⟩
  have := hC (cl + 1) (fun i => (hex i).choose) (fun i _ => (hex i).choose_spec.1) (fun i j hi hj e => by
    have ei := (hex i).choose_spec
    have ej := (hex j).choose_spec
    by_cases gi : i < cl <;> by_cases gj : j < cl
    · have a := ei.2.1 gi
      have b := ej.2.1 gj
      rw [e, b] at a
      rcases Nat.lt_trichotomy i j with q | q | q
      · have := h2 i j q gj; omega
      · exact q
      · have := h2 j i q gi; omega
    · exfalso
      have a := ei.2.1 gi
      rw [e, ej.2.2 gj] at a
      exact hn ((h3 _).mpr ⟨i, gi, a.symm⟩)
    · exfalso
      have b := ej.2.1 gj
      rw [← e, ei.2.2 gi] at b
      exact hn ((h3 _).mpr ⟨j, gj, b.symm⟩)
    · omega)
  omega
theorem isNm_iff {An : Nat → Int32} {cl : Nat} {S S' : Int → Prop} (h : isNm An cl S) (e : ∀ z, S z ↔ S' z) : isNm An cl S' := by
  obtain ⟨nm, h1, h2, h3⟩ := h
  exact ⟨nm, h1, h2, fun z => (e z).symm.trans (h3 z)⟩
theorem dred_rng {D : Int} (hd : -1048576 ≤ D) {f : FT} (hD : fdisc f = D) (hf : dred f) (ha : 0 < f.1) : f.1 ≤ 591 ∧ 3 * (f.1 * f.1) ≤ -D := by
  obtain ⟨h1, h2, h3, -⟩ := hf
  simp only [fdisc] at hD
  have hsq := sq_le (show bd f.1 f.2.1 from ⟨h1, h2⟩)
  have h4 : f.1 * f.1 ≤ f.1 * f.2.2 := Int.mul_le_mul_of_nonneg_left h3 (by omega)
  have e : 4 * f.1 * f.2.2 = 4 * (f.1 * f.2.2) := by grind
  refine ⟨?_, by omega⟩
  by_cases g : f.1 ≤ 591
  · exact g
  · have : 592 * 592 ≤ f.1 * f.1 := Int.mul_le_mul (by omega) (by omega) (by omega) (by omega)
    omega
