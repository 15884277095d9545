/-! every two classes have a product, every class an inverse -/
theorem pd_ex {D R : Int} (hO : okD D R) {An : Nat → Int32} {cl : Nat} {fm : Nat → FT} (hN : isNF D R An cl fm) {i j : Nat} (hi : i < cl) (hj : j < cl) : ∃ k, isPd D cl fm i j k := by
  obtain ⟨k, h, x1, x2, x3, x4, x5, x6, x7, x8, x9, hk, -, h1, h2, h3⟩ := mult_s 1000000 (Nat.le_refl _) hO hN hi hj 0 0 0 0 0 0 0 0 0
  exact ⟨k, hk, h, h1, h2, h3⟩
theorem iv_ex {D R : Int} (hO : okD D R) {An : Nat → Int32} {cl : Nat} {fm : Nat → FT} (hN : isNF D R An cl fm) {i : Nat} (hi : i < cl) : ∃ k, isIv cl fm i k := by
  have hn := (hN.2.1 i hi).1
  obtain ⟨b1, b2, b3, -⟩ := name_bd hO hn
  have := b1.1; have := b1.2; have := b2.1; have := b2.2; have := b3.1; have := b3.2
  have hf : okF D ((fm i).1, -(fm i).2.1, (fm i).2.2) := by
    obtain ⟨h1, ⟨x, y, z, h2⟩, h3⟩ := hn.1
    refine ⟨?_, ⟨x, -y, z, ?_⟩, h3⟩
    · simp only [fdisc] at h1 ⊢; rw [← h1]; grind
    · simp only; rw [← h2]; grind
  obtain ⟨g, k, hk, -, -, -, h1, -⟩ := num_s 1000000 (Nat.le_refl _) hO hN hf ⟨⟨by simp only; omega, by simp only; omega⟩, ⟨by simp only; omega, by simp only; omega⟩, ⟨by simp only; omega, by simp only; omega⟩⟩
  exact ⟨k, hk, h1⟩
