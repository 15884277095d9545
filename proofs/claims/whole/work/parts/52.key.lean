/-! Keys, and the least key of a cycle -/
def keyI (f : FT) : Int := f.1 * 4096 + f.2.1
theorem keyOf_s (F : Nat) (a b : Int) : f_keyOf F (i6 a) (i6 b) = some (i3 (a * 4096 + b)) := by
  unfold f_keyOf
  rw [i63, i63, show (4096 : Int32) = i3 4096 from rfl, i3_mul, i3_add]
theorem fred_rng {D R : Int} (hR : isRoot D R) (hRb : R < 1024) (hns : ∀ x : Int, x * x ≠ D) {f : FT} (hf : fred f) (hD : fdisc f = D) : bd 1023 f.1 ∧ 0 < f.2.1 ∧ f.2.1 ≤ 1023 ∧ bd 1023 f.2.2 ∧ (f.2.2.natAbs : Int) ≤ R := by
  obtain ⟨w1, w2, w3, w4, w5⟩ := fred_win hR hns hf hD
  have h1 := hf.2.1; have h2 := hf.2.2
  refine ⟨⟨by omega, by omega⟩, by omega, by omega, ⟨by omega, by omega⟩, by omega⟩
theorem fred_Bd {D R : Int} (hR : isRoot D R) (hRb : R < 1024) (hns : ∀ x : Int, x * x ≠ D) {f : FT} (hf : fred f) (hD : fdisc f = D) : Bd f := by
  obtain ⟨h1, h2, h3, h4, -⟩ := fred_rng hR hRb hns hf hD
  exact ⟨⟨by have := h1.1; omega, by have := h1.2; omega⟩, ⟨by omega, by omega⟩, ⟨by have := h4.1; omega, by have := h4.2; omega⟩⟩
theorem stI_rho {D R : Int} (h0 : 0 < D) (hR : isRoot D R) (hRb : R < 1024) (hns : ∀ x : Int, x * x ≠ D) {f : FT} (hf : fred f) (hD : fdisc f = D) : stI D R f = rho R f := by
  unfold stI
  have : ftop D R f.2.2 = R := if_pos ⟨h0, (fred_rng hR hRb hns hf hD).2.2.2.2⟩
  rw [this]
theorem key_inj {D R : Int} (hR : isRoot D R) (hRb : R < 1024) (hns : ∀ x : Int, x * x ≠ D) {f g : FT} (hf : fred f) (hg : fred g) (hD : fdisc f = D) (hD' : fdisc g = D) (h : keyI f = keyI g) : f = g := by
  obtain ⟨h1, h2, h3, h4, -⟩ := fred_rng hR hRb hns hf hD
  obtain ⟨g1, g2, g3, g4, -⟩ := fred_rng hR hRb hns hg hD'
  have ha0 := a_ne hns hD
  obtain ⟨a, b, c⟩ := f
  obtain ⟨a', b', c'⟩ := g
  simp only [keyI, fdisc] at *
  have hb : b = b' := by omega
  have ha : a = a' := by omega
  subst hb; subst ha
  have : 4 * a * c = 4 * a * c' := by omega
  rw [Int.eq_of_mul_eq_mul_left (by omega) this]
theorem key_r3 {D R : Int} (hR : isRoot D R) (hRb : R < 1024) (hns : ∀ x : Int, x * x ≠ D) {f : FT} (hf : fred f) (hD : fdisc f = D) : r3 (keyI f) := by
  obtain ⟨h1, h2, h3, h4, -⟩ := fred_rng hR hRb hns hf hD
  have := h1.1; have := h1.2
  exact ⟨by simp only [keyI]; omega, by simp only [keyI]; omega⟩
theorem per_ex {D R : Int} (hR : isRoot D R) (hRb : R < 1024) (hns : ∀ x : Int, x * x ≠ D) {f : FT} (hf : fred f) (hD : fdisc f = D) : ∃ p, 0 < p ∧ p ≤ 524288 ∧ itr (rho R) p f = f ∧ ∀ i, 0 < i → i < p → itr (rho R) i f ≠ f := by
  obtain ⟨m, h1, h2, h3⟩ := rho_cycle hR hns hRb hf hD
  obtain ⟨p, hp, hmin⟩ := pk_least (fun p => 0 < p ∧ itr (rho R) p f = f) ⟨m, h1, h3⟩
  refine ⟨p, hp.1, ?_, hp.2, fun i hi hip eq => hmin i hip ⟨hi, eq⟩⟩
  rcases Nat.lt_or_ge m p with g | g
  · exact absurd ⟨h1, h3⟩ (hmin m g)
  · omega
theorem itr_per {α : Type} {g : α → α} {p : Nat} {x : α} (hp : 0 < p) (h : itr g p x = x) (i : Nat) : itr g i x = itr g (i % p) x := by
  have hk : ∀ k : Nat, itr g (p * k) x = x := by
    intro k
    induction k with
    | zero => rfl
    | succ k ih => rw [Nat.mul_succ, itr_add, ih, h]
  have e : i = p * (i / p) + i % p := (Nat.div_add_mod i p).symm
  calc itr g i x = itr g (p * (i / p) + i % p) x := by rw [← e]
    _ = itr g (i % p) x := by rw [itr_add, hk]
/-- the least of the first keys -/
def lmin (R : Int) (f : FT) : Nat → Int
  | 0 => keyI f
  | i + 1 => if keyI (itr (rho R) (i + 1) f) < lmin R f i then keyI (itr (rho R) (i + 1) f) else lmin R f i
theorem lmin_le (R : Int) (f : FT) : ∀ (i j : Nat), j ≤ i → lmin R f i ≤ keyI (itr (rho R) j f) := by
  intro i
  induction i with
  | zero => intro j hj; have : j = 0 := by omega
            subst this; exact Int.le_refl _
  | succ i ih =>
    intro j hj
    unfold lmin
    rcases Nat.lt_or_ge i j with g | g
    · have : j = i + 1 := by omega
      subst this
      split <;> omega
    · have := ih j g
      split <;> omega
theorem lmin_in (R : Int) (f : FT) : ∀ i : Nat, ∃ j, j ≤ i ∧ lmin R f i = keyI (itr (rho R) j f) := by
  intro i
  induction i with
  | zero => exact ⟨0, by omega, rfl⟩
  | succ i ih =>
    unfold lmin
    split
    · exact ⟨i + 1, by omega, rfl⟩
    · obtain ⟨j, hj, e⟩ := ih
      exact ⟨j, by omega, e⟩
/-- least key of f's cycle -/
def isLk (R : Int) (f : FT) (r : Int) : Prop := (∃ j, r = keyI (itr (rho R) j f)) ∧ ∀ j, r ≤ keyI (itr (rho R) j f)
theorem leastL_s (F : Nat) {D R : Int} (hO : okD D R) (h0 : 0 < D) {f : FT} (hf : fred f) (hF : okF D f) {p : Nat} (hp0 : 0 < p) (hp1 : p ≤ 524288) (hp2 : itr (rho R) p f = f) (hp3 : ∀ i, 0 < i → i < p → itr (rho R) i f ≠ f) :
    ∀ (d w n : Nat), w + d + 1 = p → d + 2 ≤ n → f_leastKey_L19 F (i3 D) (i3 R) (i3 (keyI f)) n (i3 (lmin R f w)) (i3 w) (i6 (itr (rho R) w f).1) (i6 (itr (rho R) w f).2.1) (i6 (itr (rho R) w f).2.2) = some (Sum.inr (i3 (lmin R f (p - 1)), i6 f.1, i6 f.2.1, i6 f.2.2)) := by
  have hR := (hO.2.1 h0).1
  have hRb := (hO.2.1 h0).2
  have hns := hO.1.2.2.2
  have hI := itr_rho hR hns hf hF.1
  have hr := okD_r hO
  have hlm : ∀ i, r3 (lmin R f i) := by
    intro i
    obtain ⟨j, -, e⟩ := lmin_in R f i
    rw [e]; exact key_r3 hR hRb hns (hI j).1 (hI j).2
  intro d
  induction d with
  | zero =>
    intro w n hw hn
    obtain ⟨n', rfl⟩ : ∃ n', n = n' + 1 := ⟨n - 1, by omega⟩
    have hb := fred_Bd hR hRb hns (hI w).1 (hI w).2
    rw [f_leastKey_L19, if_f (cM w (by omega)), step_s F (a := (itr (rho R) w f).1) (b := (itr (rho R) w f).2.1) (c := (itr (rho R) w f).2.2) ⟨hO.1.1, hO.1.2.1⟩ hr.1 hr.2 hb.2.1 hb.2.2 (c_ne hns (hI w).2) (hI w).2]
    have es : rho (ftop D R (itr (rho R) w f).2.2) (itr (rho R) w f) = itr (rho R) (w + 1) f := by rw [itr_succ]; exact stI_rho h0 hR hRb hns (hI w).1 (hI w).2
    have es' : rho (ftop D R (itr (rho R) w f).2.2) ((itr (rho R) w f).1, (itr (rho R) w f).2.1, (itr (rho R) w f).2.2) = itr (rho R) (w + 1) f := es
    rw [es', show w + 1 = p by omega, hp2]
    simp only [Option.bind_some]
    rw [keyOf_s]
    simp only [Option.bind_some]
    have e1 : p - 1 = w := by omega
    rw [if_t (show i3 (f.1 * 4096 + f.2.1) = i3 (keyI f) from rfl), e1]
  | succ d ih =>
    intro w n hw hn
    obtain ⟨n', rfl⟩ : ∃ n', n = n' + 1 := ⟨n - 1, by omega⟩
    have hb := fred_Bd hR hRb hns (hI w).1 (hI w).2
    rw [f_leastKey_L19, if_f (cM w (by omega)), step_s F (a := (itr (rho R) w f).1) (b := (itr (rho R) w f).2.1) (c := (itr (rho R) w f).2.2) ⟨hO.1.1, hO.1.2.1⟩ hr.1 hr.2 hb.2.1 hb.2.2 (c_ne hns (hI w).2) (hI w).2]
    have es : rho (ftop D R (itr (rho R) w f).2.2) ((itr (rho R) w f).1, (itr (rho R) w f).2.1, (itr (rho R) w f).2.2) = itr (rho R) (w + 1) f := by rw [itr_succ]; exact stI_rho h0 hR hRb hns (hI w).1 (hI w).2
    rw [es]
    simp only [Option.bind_some]
    rw [keyOf_s]
    simp only [Option.bind_some]
    have hk : ¬ i3 ((itr (rho R) (w + 1) f).1 * 4096 + (itr (rho R) (w + 1) f).2.1) = i3 (keyI f) := fun q => by
      have := (i3_eq (key_r3 hR hRb hns (hI (w + 1)).1 (hI (w + 1)).2) (key_r3 hR hRb hns hf hF.1)).mp q
      exact hp3 (w + 1) (by omega) (by omega) (key_inj hR hRb hns (hI (w + 1)).1 hf (hI (w + 1)).2 hF.1 this)
    rw [if_f hk, show (itr (rho R) (w + 1) f).1 * 4096 + (itr (rho R) (w + 1) f).2.1 = keyI (itr (rho R) (w + 1) f) from rfl, minI_s F (hlm w) (key_r3 hR hRb hns (hI (w + 1)).1 (hI (w + 1)).2)]
    simp only [Option.bind_some]
    have := ih (w + 1) n' (by omega) (by omega)
    show f_leastKey_L19 F (i3 D) (i3 R) (i3 (keyI f)) n' (i3 (if keyI (itr (rho R) (w + 1) f) < lmin R f w then keyI (itr (rho R) (w + 1) f) else lmin R f w)) (i3 w + i3 1) _ _ _ = _
    rw [i3_add]
    exact this
theorem leastKey_s (F : Nat) (hF0 : 1000000 ≤ F) {D R : Int} (hO : okD D R) (h0 : 0 < D) {f : FT} (hf : fred f) (hF : okF D f) : ∃ r, f_leastKey F (i3 D) (i3 R) (i6 f.1) (i6 f.2.1) (i6 f.2.2) = some (i3 r, i6 f.1, i6 f.2.1, i6 f.2.2) ∧ isLk R f r := by
  have hR := (hO.2.1 h0).1
  have hRb := (hO.2.1 h0).2
  have hns := hO.1.2.2.2
  obtain ⟨p, p1, p2, p3, p4⟩ := per_ex hR hRb hns hf hF.1
  refine ⟨lmin R f (p - 1), ?_, ?_⟩
  · unfold f_leastKey
    rw [keyOf_s]
    simp only [Option.bind_some]
    rw [if_t ((c_le0 (a := D) ⟨by have := hO.1.1; omega, by have := hO.1.2.1; omega⟩).mpr (by omega))]
    have : f_leastKey_L19 F (i3 D) (i3 R) (i3 (f.1 * 4096 + f.2.1)) F (i3 (f.1 * 4096 + f.2.1)) 0 (i6 f.1) (i6 f.2.1) (i6 f.2.2) = _ := leastL_s F hO h0 hf hF p1 p2 p3 p4 (p - 1) 0 F (by omega) (by omega)
    rw [this]
    rfl
  · refine ⟨?_, fun j => ?_⟩
    · obtain ⟨j, -, e⟩ := lmin_in R f (p - 1)
      exact ⟨j, e⟩
    · rw [itr_per p1 p3 j]
      exact lmin_le R f (p - 1) (j % p) (by have := Nat.mod_lt j p1; omega)
theorem leastKey_d (F : Nat) {D R : Int} (hO : okD D R) (h0 : D < 0) (f : FT) : f_leastKey F (i3 D) (i3 R) (i6 f.1) (i6 f.2.1) (i6 f.2.2) = some (i3 (keyI f), i6 f.1, i6 f.2.1, i6 f.2.2) := by
  unfold f_leastKey
  rw [keyOf_s]
  simp only [Option.bind_some]
  rw [if_f (fun q => by have := (c_le0 (a := D) ⟨by have := hO.1.1; omega, by have := hO.1.2.1; omega⟩).mp q; omega)]
  rfl
