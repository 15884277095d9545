/-! D below 0: the class lists the names -/
/-- the keys of the names ahead of (a, b), by a, then by |b| -/
def Spre (D R a b : Int) : Int → Prop := fun z => ∃ f, isName D R f ∧ keyI f = z ∧ (f.1 < a ∨ (f.1 = a ∧ (f.2.1.natAbs : Int) < b))
theorem name_n {D R : Int} (hn : D < 0) {f : FT} : isName D R f ↔ okF D f ∧ dred f := ⟨fun h => ⟨h.1, h.2.1.1 hn⟩, fun h => ⟨h.1, (redI_dred hn).mpr h.2, fun g => by omega⟩⟩
theorem name_rng {D R : Int} (hO : okD D R) (hn : D < 0) {f : FT} (h : isName D R f) : 0 < f.1 ∧ f.1 ≤ 591 ∧ 3 * (f.1 * f.1) ≤ -D ∧ (f.2.1.natAbs : Int) ≤ f.1 := by
  have h2 := (name_n hn).mp h
  have ha := h2.1.2.2 hn
  have := dred_rng hO.1.1 h2.1.1 h2.2 ha
  exact ⟨ha, this.1, this.2, by have := h2.2.1; have := h2.2.2.1; omega⟩
theorem key_eq_n {D R : Int} (hO : okD D R) (hn : D < 0) {f : FT} (h : isName D R f) {a b : Int} (hb : (b.natAbs : Int) ≤ 591) (hk : keyI f = a * 4096 + b) : f.1 = a ∧ f.2.1 = b := by
  obtain ⟨h1, h2, h3, h4⟩ := name_rng hO hn h
  simp only [keyI] at hk
  omega
theorem disc_par {D : Int} {f : FT} (hD : fdisc f = D) : f.2.1 % 2 = D % 2 := by
  simp only [fdisc] at hD
  rw [← hD]
  have e : f.2.1 * f.2.1 - 4 * f.1 * f.2.2 = f.2.1 * f.2.1 - 2 * (2 * f.1 * f.2.2) := by grind
  rw [e]
  rcases Int.emod_two_eq f.2.1 with h | h
  · obtain ⟨k, hk⟩ : ∃ k, f.2.1 = 2 * k := ⟨f.2.1 / 2, by omega⟩
    have : f.2.1 * f.2.1 = 2 * (k * f.2.1) := by rw [hk]; grind
    omega
  · obtain ⟨k, hk⟩ : ∃ k, f.2.1 = 2 * k + 1 := ⟨f.2.1 / 2, by omega⟩
    have : f.2.1 * f.2.1 = 2 * (k * f.2.1 + k) + 1 := by rw [hk]; grind
    omega
/-- from (a, b) to (a, b + 2): the forms with this a and |b| -/
theorem Spre_step {D R a b : Int} (hb0 : 0 ≤ b) (hpar : b % 2 = D % 2) (z : Int) : Spre D R a (b + 2) z ↔ Spre D R a b z ∨ ∃ f, isName D R f ∧ keyI f = z ∧ f.1 = a ∧ (f.2.1 = b ∨ f.2.1 = -b) := by
  constructor
  · rintro ⟨f, h1, h2, h3⟩
    by_cases g : f.1 < a ∨ (f.1 = a ∧ (f.2.1.natAbs : Int) < b)
    · exact Or.inl ⟨f, h1, h2, g⟩
    · have hp := disc_par h1.1.1
      exact Or.inr ⟨f, h1, h2, by omega, by omega⟩
  · rintro (⟨f, h1, h2, h3⟩ | ⟨f, h1, h2, h3, h4⟩)
    · exact ⟨f, h1, h2, by omega⟩
    · exact ⟨f, h1, h2, by omega⟩
theorem keepDef_s (F : Nat) (hF : 4000 ≤ F) {D R : Int} (hO : okD D R) (hn : D < 0) (hC : capD D R) {An : Nat → Int32} {cl : Nat} {a b c : Int} (ha : 0 < a) (ha2 : a ≤ 591) (hb0 : 0 ≤ b) (hba : b ≤ a) (hd : fdisc (a, b, c) = D) (hN : isNm An cl (Spre D R a b)) :
    ∃ (An' : Nat → Int32) (cl' : Nat), f_keepDef F (i3 cl) (i3 cl) An (i3 a) (i3 b) (i3 c) = some (i3 cl', i3 cl', An') ∧ isNm An' cl' (Spre D R a (b + 2)) := by
  have hpar : b % 2 = D % 2 := disc_par (f := (a, b, c)) hd
  have hc := c_pos hn hd ha
  have hcb : c ≤ 1048576 := by
    simp only [fdisc] at hd
    have hsq := sq_le (show bd 591 b from ⟨by omega, by omega⟩)
    have h4 : 1 * c ≤ a * c := Int.mul_le_mul_of_nonneg_right (by omega) (by simp only at hc; omega)
    have e : 4 * a * c = 4 * (a * c) := by grind
    have := hO.1.1
    omega
  simp only at hc
  have hSub : ∀ {a b z : Int}, Spre D R a b z → ∃ f, isName D R f ∧ keyI f = z := fun ⟨f, h1, h2, _⟩ => ⟨f, h1, h2⟩
  -- what the two forms are
  have hform : ∀ b' : Int, (b' = b ∨ b' = -b) → fdisc (a, b', c) = D := fun b' h => by
    rw [← hd]; simp only [fdisc]; rcases h with h | h <;> rw [h] <;> grind
  have uni : ∀ f : FT, isName D R f → f.1 = a → (f.2.1 = b ∨ f.2.1 = -b) → f.2.2 = c := by
    intro f h1 h2 h3
    have h4 := h1.1.1
    have h5 := hform f.2.1 h3
    simp only [fdisc] at h4 h5
    rw [h2] at h4
    have : 4 * a * f.2.2 = 4 * a * c := by omega
    exact Int.eq_of_mul_eq_mul_left (by omega) this
  unfold f_keepDef
  by_cases g1 : c < a
  · rw [if_t ((i3_lt (a := c) (b := a) ⟨by omega, by omega⟩ ⟨by omega, by omega⟩).mpr g1)]
    refine ⟨An, cl, rfl, isNm_iff hN fun z => ?_⟩
    rw [Spre_step hb0 hpar]
    refine ⟨Or.inl, fun h => h.elim id ?_⟩
    rintro ⟨f, h1, h2, h3, h4⟩
    have := uni f h1 h3 h4
    have := ((name_n hn).mp h1).2.2.2.1
    omega
  · rw [if_f (fun q => g1 ((i3_lt (a := c) (b := a) ⟨by omega, by omega⟩ ⟨by omega, by omega⟩).mp q))]
    have hp := isPrim_s F (by omega) (a := a) (b := b) (c := c) ⟨by omega, by omega⟩ ⟨by omega, by omega⟩ ⟨by omega, by omega⟩
    by_cases g2 : prim a b c
    · rw [hp.1 g2]
      simp only [Option.bind_some]
      rw [if_f (show ¬ (1 : Int32) = 0 by decide)]
      have n1 : isName D R (a, b, c) := (name_n hn).mpr ⟨⟨hd, g2, fun _ => ha⟩, by simp only; omega, hba, by simp only; omega, Or.inl hb0⟩
      have m1 : ¬ Spre D R a b (a * 4096 + b) := by
        rintro ⟨f, h1, h2, h3⟩
        have := key_eq_n hO hn h1 (by omega) h2
        omega
      obtain ⟨A1, e1, N1⟩ := addName_s F hF hN (cap_room hC hN (fun z h => hSub h) n1 m1) (a := a) (b := b) ⟨by omega, by omega⟩ m1
      show ∃ An' cl', Option.bind (f_addName F (i3 cl) An (i3 a) (i3 b)) _ = _ ∧ _
      rw [e1]
      simp only [Option.bind_some]
      have er : i3 (cl : Int) + 1 = i3 ((cl + 1 : Nat) : Int) := by show i3 (cl : Int) + i3 1 = _; rw [i3_add]; rfl
      rw [er]
      by_cases g3 : 0 < b ∧ b < a ∧ a < c
      · rw [if_f (fun q => by have := (c_ge0 (a := b) ⟨by omega, by omega⟩).mp q; omega), if_f (fun q => by have := (i3_le (a := a) (b := b) ⟨by omega, by omega⟩ ⟨by omega, by omega⟩).mp q; omega), if_f (fun q => by have := (i3_le (a := c) (b := a) ⟨by omega, by omega⟩ ⟨by omega, by omega⟩).mp q; omega)]
        have n2 : isName D R (a, -b, c) := by
          refine (name_n hn).mpr ⟨⟨hform (-b) (Or.inr rfl), ?_, fun _ => ha⟩, by simp only; omega, by simp only; omega, by simp only; omega, Or.inr ⟨by simp only; omega, by simp only; omega⟩⟩
          obtain ⟨x, y, z, hh⟩ := g2
          exact ⟨x, -y, z, by simp only; rw [← hh]; grind⟩
        have m2 : ¬ (Spre D R a b (a * 4096 + -b) ∨ a * 4096 + -b = a * 4096 + b) := by
          rintro (⟨f, h1, h2, h3⟩ | h)
          · have := key_eq_n hO hn h1 (by omega) h2
            omega
          · omega
        have hS2 : ∀ z, (Spre D R a b z ∨ z = a * 4096 + b) → ∃ f, isName D R f ∧ keyI f = z := by
          rintro z (h | h)
          · exact hSub h
          · exact ⟨_, n1, h.symm⟩
        obtain ⟨A2, e2, N2⟩ := addName_s F hF N1 (cap_room hC N1 hS2 n2 m2) (a := a) (b := -b) ⟨by omega, by omega⟩ m2
        rw [i3_neg]
        show ∃ An' cl', Option.bind (f_addName F (i3 ((cl + 1 : Nat) : Int)) A1 (i3 a) (i3 (-b))) _ = _ ∧ _
        rw [e2]
        simp only [Option.bind_some]
        refine ⟨A2, cl + 1 + 1, ?_, isNm_iff N2 fun z => ?_⟩
        · show some (_, i3 ((cl + 1 : Nat) : Int) + i3 1, _) = _
          rw [i3_add]; rfl
        · rw [Spre_step hb0 hpar]
          constructor
          · rintro ((h | h) | h)
            · exact Or.inl h
            · exact Or.inr ⟨_, n1, h.symm, rfl, Or.inl rfl⟩
            · exact Or.inr ⟨_, n2, h.symm, rfl, Or.inr rfl⟩
          · rintro (h | ⟨f, h1, h2, h3, h4⟩)
            · exact Or.inl (Or.inl h)
            · simp only [keyI] at h2
              rcases h4 with h4 | h4
              · exact Or.inl (Or.inr (by rw [← h2, h3, h4]))
              · exact Or.inr (by rw [← h2, h3, h4])
      · have hskip : ∀ (x : Option (Int32 × Int32 × (Nat → Int32))) (y : Int32 × Int32 × (Nat → Int32)), (if i3 b ≤ 0 then some y else if i3 a ≤ i3 b then some y else if i3 c ≤ i3 a then some y else x) = some y := by
          intro x y
          by_cases q1 : b ≤ 0
          · rw [if_t ((c_ge0 (a := b) ⟨by omega, by omega⟩).mpr q1)]
          · rw [if_f (fun q => q1 ((c_ge0 (a := b) ⟨by omega, by omega⟩).mp q))]
            by_cases q2 : a ≤ b
            · rw [if_t ((i3_le (a := a) (b := b) ⟨by omega, by omega⟩ ⟨by omega, by omega⟩).mpr q2)]
            · rw [if_f (fun q => q2 ((i3_le (a := a) (b := b) ⟨by omega, by omega⟩ ⟨by omega, by omega⟩).mp q)), if_t ((i3_le (a := c) (b := a) ⟨by omega, by omega⟩ ⟨by omega, by omega⟩).mpr (by omega))]
        rw [hskip]
        refine ⟨A1, cl + 1, rfl, isNm_iff N1 fun z => ?_⟩
        rw [Spre_step hb0 hpar]
        constructor
        · rintro (h | h)
          · exact Or.inl h
          · exact Or.inr ⟨_, n1, h.symm, rfl, Or.inl rfl⟩
        · rintro (h | ⟨f, h1, h2, h3, h4⟩)
          · exact Or.inl h
          · right
            have hcf := uni f h1 h3 h4
            have hdr := ((name_n hn).mp h1).2
            simp only [keyI] at h2
            have : f.2.1 = b := by
              rcases h4 with h4 | h4
              · exact h4
              · obtain ⟨d1, d2, d3, d4⟩ := hdr
                omega
            rw [← h2, h3, this]
    · rw [hp.2 g2]
      simp only [Option.bind_some]
      rw [if_t trivial]
      refine ⟨An, cl, rfl, isNm_iff hN fun z => ?_⟩
      rw [Spre_step hb0 hpar]
      refine ⟨Or.inl, fun h => h.elim id ?_⟩
      rintro ⟨f, h1, h2, h3, h4⟩
      exfalso
      apply g2
      have hcf := uni f h1 h3 h4
      obtain ⟨x, y, w, hh⟩ := h1.1.2.1
      rw [h3, hcf] at hh
      rcases h4 with h4 | h4 <;> rw [h4] at hh
      · exact ⟨x, y, w, hh⟩
      · exact ⟨x, -y, w, by rw [← hh]; grind⟩
