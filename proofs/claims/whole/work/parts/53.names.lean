/-! isLeastOfCycle; a name is put into its place -/
theorem isLeastL_s (F : Nat) {D R : Int} (hO : okD D R) (h0 : 0 < D) {f : FT} (hf : fred f) (hF : okF D f) {q : Nat} (hq1 : q ≤ 524288) (hq2 : keyI (itr (rho R) q f) ≤ keyI f) (hq3 : ∀ i, 0 < i → i < q → keyI f < keyI (itr (rho R) i f)) :
    ∀ (d w n : Nat), w + d + 1 = q → d + 2 ≤ n → f_isLeast_L7 F (i3 D) (i3 R) (i3 (keyI f)) n (i3 w) (i6 (itr (rho R) w f).1) (i6 (itr (rho R) w f).2.1) (i6 (itr (rho R) w f).2.2) = some (Sum.inr (i3 (keyI (itr (rho R) q f)), i6 (itr (rho R) q f).1, i6 (itr (rho R) q f).2.1, i6 (itr (rho R) q f).2.2)) := by
  have hR := (hO.2.1 h0).1
  have hRb := (hO.2.1 h0).2
  have hns := hO.1.2.2.2
  have hI := itr_rho hR hns hf hF.1
  have hr := okD_r hO
  have hk : ∀ i, r3 (keyI (itr (rho R) i f)) := fun i => key_r3 hR hRb hns (hI i).1 (hI i).2
  intro d
  induction d with
  | zero =>
    intro w n hw hn
    obtain ⟨n', rfl⟩ : ∃ n', n = n' + 1 := ⟨n - 1, by omega⟩
    have hb := fred_Bd hR hRb hns (hI w).1 (hI w).2
    rw [f_isLeast_L7, if_f (cM w (by omega)), step_s F (a := (itr (rho R) w f).1) (b := (itr (rho R) w f).2.1) (c := (itr (rho R) w f).2.2) ⟨hO.1.1, hO.1.2.1⟩ hr.1 hr.2 hb.2.1 hb.2.2 (c_ne hns (hI w).2) (hI w).2]
    have es : rho (ftop D R (itr (rho R) w f).2.2) ((itr (rho R) w f).1, (itr (rho R) w f).2.1, (itr (rho R) w f).2.2) = itr (rho R) (w + 1) f := by rw [itr_succ]; exact stI_rho h0 hR hRb hns (hI w).1 (hI w).2
    rw [es, show w + 1 = q by omega]
    simp only [Option.bind_some]
    rw [keyOf_s, show (itr (rho R) q f).1 * 4096 + (itr (rho R) q f).2.1 = keyI (itr (rho R) q f) from rfl]
    simp only [Option.bind_some]
    rw [if_f (fun g => by have := (i3_lt (hk 0) (hk q)).mp g; have e : itr (rho R) 0 f = f := rfl; rw [e] at this; omega)]
  | succ d ih =>
    intro w n hw hn
    obtain ⟨n', rfl⟩ : ∃ n', n = n' + 1 := ⟨n - 1, by omega⟩
    have hb := fred_Bd hR hRb hns (hI w).1 (hI w).2
    rw [f_isLeast_L7, if_f (cM w (by omega)), step_s F (a := (itr (rho R) w f).1) (b := (itr (rho R) w f).2.1) (c := (itr (rho R) w f).2.2) ⟨hO.1.1, hO.1.2.1⟩ hr.1 hr.2 hb.2.1 hb.2.2 (c_ne hns (hI w).2) (hI w).2]
    have es : rho (ftop D R (itr (rho R) w f).2.2) ((itr (rho R) w f).1, (itr (rho R) w f).2.1, (itr (rho R) w f).2.2) = itr (rho R) (w + 1) f := by rw [itr_succ]; exact stI_rho h0 hR hRb hns (hI w).1 (hI w).2
    rw [es]
    simp only [Option.bind_some]
    rw [keyOf_s, show (itr (rho R) (w + 1) f).1 * 4096 + (itr (rho R) (w + 1) f).2.1 = keyI (itr (rho R) (w + 1) f) from rfl]
    simp only [Option.bind_some]
    have hlt := hq3 (w + 1) (by omega) (by omega)
    rw [if_t ((i3_lt (a := keyI f) (hk 0) (hk (w + 1))).mpr hlt)]
    have := ih (w + 1) n' (by omega) (by omega)
    show f_isLeast_L7 F (i3 D) (i3 R) (i3 (keyI f)) n' (i3 w + i3 1) _ _ _ = _
    rw [i3_add]
    exact this
/-- f has the least key of its cycle -/
def lst (R : Int) (f : FT) : Prop := ∀ j, keyI f ≤ keyI (itr (rho R) j f)
theorem isLeast_s (F : Nat) (hF0 : 1000000 ≤ F) {D R : Int} (hO : okD D R) (h0 : 0 < D) {f : FT} (hf : fred f) (hF : okF D f) :
    ∃ g : FT, (lst R f → f_isLeast F (i3 D) (i3 R) (i6 f.1) (i6 f.2.1) (i6 f.2.2) = some (1, i6 g.1, i6 g.2.1, i6 g.2.2)) ∧ (¬ lst R f → f_isLeast F (i3 D) (i3 R) (i6 f.1) (i6 f.2.1) (i6 f.2.2) = some (0, i6 g.1, i6 g.2.1, i6 g.2.2)) := by
  have hR := (hO.2.1 h0).1
  have hRb := (hO.2.1 h0).2
  have hns := hO.1.2.2.2
  have hI := itr_rho hR hns hf hF.1
  have hk : ∀ i, r3 (keyI (itr (rho R) i f)) := fun i => key_r3 hR hRb hns (hI i).1 (hI i).2
  obtain ⟨p, p1, p2, p3, p4⟩ := per_ex hR hRb hns hf hF.1
  obtain ⟨q, ⟨hq0, hq2⟩, hmin⟩ := pk_least (fun q => 0 < q ∧ keyI (itr (rho R) q f) ≤ keyI f) ⟨p, p1, by rw [p3]; exact Int.le_refl _⟩
  have hqp : q ≤ p := by
    rcases Nat.lt_or_ge p q with g | g
    · exact absurd ⟨p1, by rw [p3]; exact Int.le_refl _⟩ (hmin p g)
    · exact g
  have hq3 : ∀ i, 0 < i → i < q → keyI f < keyI (itr (rho R) i f) := fun i hi hiq => by
    by_cases g : keyI f < keyI (itr (rho R) i f)
    · exact g
    · exact absurd ⟨hi, by omega⟩ (hmin i hiq)
  have hL : f_isLeast_L7 F (i3 D) (i3 R) (i3 (f.1 * 4096 + f.2.1)) F 0 (i6 f.1) (i6 f.2.1) (i6 f.2.2) = _ := isLeastL_s F hO h0 hf hF (by omega) hq2 hq3 (q - 1) 0 F (by omega) (by omega)
  have hU : f_isLeast F (i3 D) (i3 R) (i6 f.1) (i6 f.2.1) (i6 f.2.2) = (if i3 (keyI (itr (rho R) q f)) = i3 (f.1 * 4096 + f.2.1) then some (1, i6 (itr (rho R) q f).1, i6 (itr (rho R) q f).2.1, i6 (itr (rho R) q f).2.2) else some (0, i6 (itr (rho R) q f).1, i6 (itr (rho R) q f).2.1, i6 (itr (rho R) q f).2.2)) := by
    unfold f_isLeast
    rw [keyOf_s]
    simp only [Option.bind_some]
    rw [hL]
    rfl
  refine ⟨itr (rho R) q f, fun hl => ?_, fun hl => ?_⟩
  · have : keyI (itr (rho R) q f) = keyI f := by have := hl q; omega
    rw [hU, if_t (by rw [this]; rfl)]
  · have hne : ¬ i3 (keyI (itr (rho R) q f)) = i3 (f.1 * 4096 + f.2.1) := fun e => by
      have e1 : keyI (itr (rho R) q f) = keyI f := (i3_eq (hk q) (hk 0)).mp e
      have e2 : itr (rho R) q f = f := key_inj hR hRb hns (hI q).1 hf (hI q).2 hF.1 e1
      apply hl
      intro j
      rw [itr_per hq0 e2 j]
      rcases Nat.eq_zero_or_pos (j % q) with g | g
      · rw [g]; exact Int.le_refl _
      · have := hq3 (j % q) g (Nat.mod_lt j hq0); omega
    rw [hU, if_f hne]
/-- the names: cl keys, rising, just those of S -/
def isNm (An : Nat → Int32) (cl : Nat) (S : Int → Prop) : Prop := ∃ nm : Nat → Int, (∀ i, i < cl → An i = i3 (nm i) ∧ r3 (nm i)) ∧ (∀ i j, i < j → j < cl → nm i < nm j) ∧ ∀ z, S z ↔ ∃ i, i < cl ∧ nm i = z
theorem addL_s (F : Nat) {key : Int} (hk : r3 key) {cl : Nat} (hcl : cl < 1908) {nm : Nat → Int} (hr : ∀ i, i < cl → r3 (nm i)) : ∀ (w n : Nat) (A : Nat → Int32), w ≤ cl → w + 1 ≤ n → (∀ i, i < w → A i = i3 (nm i)) → (∀ i, w ≤ i → i < cl → A (i + 1) = i3 (nm i) ∧ key < nm i) → (∀ i, i < w → nm i ≠ key) → (∀ i j, i < j → j < cl → nm i < nm j) →
    ∃ (q : Nat) (A' : Nat → Int32), q ≤ w ∧ f_addName_L25 F (i3 key) n (i3 w) A = some (i3 q, A') ∧ (∀ i, i < q → A' i = i3 (nm i) ∧ nm i < key) ∧ ∀ i, q ≤ i → i < cl → A' (i + 1) = i3 (nm i) ∧ key < nm i := by
  intro w
  induction w with
  | zero =>
    intro n A _ hn _ h2 _ _
    obtain ⟨n', rfl⟩ : ∃ n', n = n' + 1 := ⟨n - 1, by omega⟩
    refine ⟨0, A, by omega, ?_, fun i hi => absurd hi (by omega), h2⟩
    rw [f_addName_L25, if_t (show i3 ((0 : Nat) : Int) ≤ 0 by decide)]
  | succ w ih =>
    intro n A hw hn h1 h2 h3 h4
    obtain ⟨n', rfl⟩ : ∃ n', n = n' + 1 := ⟨n - 1, by omega⟩
    have c1 : ¬ i3 ((w + 1 : Nat) : Int) ≤ 0 := fun q => by have := (c_ge0 (a := ((w + 1 : Nat) : Int)) ⟨by omega, by omega⟩).mp q; omega
    have e1 : i3 ((w + 1 : Nat) : Int) - 1 = i3 (w : Int) := by
      show i3 ((w + 1 : Nat) : Int) - i3 1 = _
      rw [i3_sub]; congr 1; omega
    have e2 : i3 ((w + 1 : Nat) : Int) + (-1) = i3 (w : Int) := by
      show i3 ((w + 1 : Nat) : Int) + i3 (-1) = _
      rw [i3_add]; congr 1; omega
    have n1 : (i3 (w : Int)).toNatClampNeg = w := by rw [i3_nat ⟨by omega, by omega⟩]; omega
    have n2 : (i3 ((w + 1 : Nat) : Int)).toNatClampNeg = w + 1 := by rw [i3_nat ⟨by omega, by omega⟩]; omega
    have hA : A (i3 (w : Int)).toNatClampNeg = i3 (nm w) := by rw [n1]; exact h1 w (by omega)
    rw [f_addName_L25, if_f c1, e1, if_t (vin_i3 (by omega) (by omega) (by decide)), hA]
    by_cases g : nm w ≤ key
    · rw [if_t ((i3_le (hr w (by omega)) hk).mpr g)]
      refine ⟨w + 1, A, by omega, rfl, fun i hi => ⟨h1 i hi, ?_⟩, h2⟩
      have hne := h3 w (by omega)
      rcases Nat.lt_or_ge i w with q | q
      · have := h4 i w q (by omega); omega
      · have : i = w := by omega
        subst this; omega
    · rw [if_f (fun q => g ((i3_le (hr w (by omega)) hk).mp q)), if_t (vin_i3 (a := (w : Int)) (n := 1908) (by omega) (by omega) (by decide)), if_t (vin_i3 (a := ((w + 1 : Nat) : Int)) (n := 1908) (by omega) (by omega) (by decide)), n2, e2]
      show ∃ (q : Nat) (A' : Nat → Int32), q ≤ w + 1 ∧ f_addName_L25 F (i3 key) n' (i3 (w : Int)) (upd A (w + 1) (i3 (nm w))) = some (i3 q, A') ∧ _
      obtain ⟨q, A', q1, q2, q3, q4⟩ := ih n' (upd A (w + 1) (i3 (nm w))) (by omega) (by omega) (fun i hi => by rw [pk_un (by omega)]; exact h1 i (by omega)) (fun i hi hi2 => by
        rcases Nat.lt_or_ge i (w + 1) with p | p
        · have : i = w := by omega
          subst this
          exact ⟨pk_us, by omega⟩
        · rw [pk_un (by omega)]; exact h2 i p hi2) (fun i hi => h3 i (by omega)) h4
      exact ⟨q, A', by omega, q2, q3, q4⟩
theorem addName_s (F : Nat) (hF : 4000 ≤ F) {An : Nat → Int32} {cl : Nat} {S : Int → Prop} (h : isNm An cl S) (hcl : cl < 1908) {a b : Int} (hk : r3 (a * 4096 + b)) (hS : ¬ S (a * 4096 + b)) :
    ∃ An', f_addName F (i3 cl) An (i3 a) (i3 b) = some (i3 ((cl + 1 : Nat) : Int), An') ∧ isNm An' (cl + 1) (fun z => S z ∨ z = a * 4096 + b) := by
  obtain ⟨nm, h1, h2, h3⟩ := h
  have hne : ∀ i, i < cl → nm i ≠ a * 4096 + b := fun i hi e => hS ((h3 _).mpr ⟨i, hi, e⟩)
  obtain ⟨q, A', q0, q1, q2, q3⟩ := addL_s F hk hcl (fun i hi => (h1 i hi).2) cl F An (Nat.le_refl _) (by omega) (fun i hi => (h1 i hi).1) (fun i hi hi2 => absurd hi2 (by omega)) hne h2
  have nq : (i3 (q : Int)).toNatClampNeg = q := by rw [i3_nat ⟨by omega, by omega⟩]; omega
  refine ⟨upd A' q (i3 (a * 4096 + b)), ?_, fun i => if i < q then nm i else if i = q then a * 4096 + b else nm (i - 1), ?_, ?_, ?_⟩
  · unfold f_addName
    have c1 : i3 (cl : Int) < 1908 := by
      rw [show (1908 : Int32) = i3 1908 from rfl, i3_lt ⟨by omega, by omega⟩ ⟨by decide, by decide⟩]; omega
    rw [if_t c1, show (4096 : Int32) = i3 4096 from rfl, i3_mul, i3_add]
    show Option.bind (f_addName_L25 F (i3 (a * 4096 + b)) F (i3 cl) An) _ = _
    rw [q1]
    simp only [Option.bind_some]
    rw [if_t (vin_i3 (a := (q : Int)) (n := 1908) (by omega) (by omega) (by decide)), nq]
    show some (i3 (cl : Int) + i3 1, _) = _
    rw [i3_add]; rfl
  · intro i hi
    simp only
    by_cases p1 : i < q
    · rw [if_pos p1, pk_un (by omega)]; exact ⟨(q2 i p1).1, (h1 i (by omega)).2⟩
    · rw [if_neg p1]
      by_cases p2 : i = q
      · rw [if_pos p2, p2]; exact ⟨pk_us, hk⟩
      · rw [if_neg p2, pk_un p2]
        have := q3 (i - 1) (by omega) (by omega)
        rw [show i - 1 + 1 = i by omega] at this
        exact ⟨this.1, (h1 (i - 1) (by omega)).2⟩
  · intro i j hij hj
    simp only
    by_cases p1 : i < q
    · rw [if_pos p1]
      by_cases p2 : j < q
      · rw [if_pos p2]; exact h2 i j hij (by omega)
      · rw [if_neg p2]
        by_cases p3 : j = q
        · rw [if_pos p3]; exact (q2 i p1).2
        · rw [if_neg p3]
          have := (q2 i p1).2
          have := (q3 (j - 1) (by omega) (by omega)).2
          omega
    · rw [if_neg p1, if_neg (show ¬ j < q by omega), if_neg (show ¬ j = q by omega)]
      by_cases p2 : i = q
      · rw [if_pos p2]; exact (q3 (j - 1) (by omega) (by omega)).2
      · rw [if_neg p2]; exact h2 (i - 1) (j - 1) (by omega) (by omega)
  · intro z
    constructor
    · rintro (hz | hz)
      · obtain ⟨i, hi, e⟩ := (h3 z).mp hz
        by_cases p1 : i < q
        · exact ⟨i, by omega, by simp only; rw [if_pos p1]; exact e⟩
        · exact ⟨i + 1, by omega, by simp only; rw [if_neg (by omega), if_neg (by omega)]; exact e⟩
      · exact ⟨q, by omega, by simp only; rw [if_neg (by omega), if_pos trivial]; exact hz.symm⟩
    · rintro ⟨i, hi, e⟩
      simp only at e
      by_cases p1 : i < q
      · rw [if_pos p1] at e; exact Or.inl ((h3 z).mpr ⟨i, by omega, e⟩)
      · rw [if_neg p1] at e
        by_cases p2 : i = q
        · rw [if_pos p2] at e; exact Or.inr e.symm
        · rw [if_neg p2] at e; exact Or.inl ((h3 z).mpr ⟨i - 1, by omega, e⟩)
