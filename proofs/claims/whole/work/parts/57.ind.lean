/-! D above 0: the class lists the names and counts the reduced forms -/
def cntF (N : Nat) (P : FT → Prop) : Prop := ∃ g : Nat → FT, (∀ i j, i < N → j < N → g i = g j → i = j) ∧ ∀ f, P f ↔ ∃ i, i < N ∧ g i = f
theorem cnt_iff {N : Nat} {P Q : FT → Prop} (h : cntF N P) (e : ∀ f, P f ↔ Q f) : cntF N Q := by
  obtain ⟨g, h1, h2⟩ := h
  exact ⟨g, h1, fun f => (e f).symm.trans (h2 f)⟩
theorem cnt_add {N : Nat} {P : FT → Prop} (h : cntF N P) {f0 : FT} (h0 : ¬ P f0) : cntF (N + 1) (fun f => P f ∨ f = f0) := by
  obtain ⟨g, h1, h2⟩ := h
  have hne : ∀ i, i < N → g i ≠ f0 := fun i hi e => h0 ((h2 f0).mpr ⟨i, hi, e⟩)
  refine ⟨fun i => if i < N then g i else f0, fun i j hi hj e => ?_, fun f => ⟨?_, ?_⟩⟩
  · simp only at e
    by_cases gi : i < N <;> by_cases gj : j < N
    · rw [if_pos gi, if_pos gj] at e; exact h1 i j gi gj e
    · rw [if_pos gi, if_neg gj] at e; exact absurd e (hne i gi)
    · rw [if_neg gi, if_pos gj] at e; exact absurd e.symm (hne j gj)
    · omega
  · rintro (h | h)
    · obtain ⟨i, hi, e⟩ := (h2 f).mp h
      exact ⟨i, by omega, by simp only; rw [if_pos hi]; exact e⟩
    · exact ⟨N, by omega, by simp only; rw [if_neg (by omega)]; exact h.symm⟩
  · rintro ⟨i, hi, e⟩
    simp only at e
    by_cases gi : i < N
    · rw [if_pos gi] at e; exact Or.inl ((h2 f).mpr ⟨i, gi, e⟩)
    · rw [if_neg gi] at e; exact Or.inr e.symm
theorem name_p {D R : Int} (hO : okD D R) (h0 : 0 < D) {f : FT} : isName D R f ↔ okF D f ∧ fred f ∧ lst R f := by
  have hR := (hO.2.1 h0).1
  have hns := hO.1.2.2.2
  exact ⟨fun h => ⟨h.1, (redI_fred hR hns h0 h.1.1).mp h.2.1, h.2.2 h0⟩, fun h => ⟨h.1, (redI_fred hR hns h0 h.1.1).mpr h.2.1, fun _ => h.2.2⟩⟩
theorem name_neg {D R : Int} (hO : okD D R) (h0 : 0 < D) {f : FT} (h : isName D R f) : f.1 < 0 := by
  obtain ⟨h1, h2, h3⟩ := (name_p hO h0).mp h
  have hR := (hO.2.1 h0).1
  have hRb := (hO.2.1 h0).2
  have hns := hO.1.2.2.2
  by_cases g : f.1 < 0
  · exact g
  · have hne := a_ne hns h1.1
    have hl := h3 1
    have hf1 := rho_fred hR hns h2 h1.1
    obtain ⟨r1, r2, r3, -, -⟩ := fred_rng hR hRb hns h2 h1.1
    obtain ⟨s1, s2, s3, -, -⟩ := fred_rng hR hRb hns hf1 (by rw [rho_disc]; exact h1.1)
    have hsg := (rho_sign hR hns h2).mpr (by omega)
    have e : itr (rho R) 1 f = rho R f := rfl
    rw [e] at hl
    simp only [keyI] at hl
    omega
theorem addLeast_s (F : Nat) (hF : 1000000 ≤ F) {D R : Int} (hO : okD D R) (h0 : 0 < D) (hC : capD D R) {An : Nat → Int32} {cl : Nat} {S : Int → Prop} (hN : isNm An cl S) (hS : ∀ z, S z → ∃ f, isName D R f ∧ keyI f = z) {f : FT} (hf : fred f) (hFm : okF D f) (hnS : ¬ S (keyI f)) (x y z : Int64) :
    ∃ (cl' : Nat) (An' : Nat → Int32) (x' y' z' : Int64), f_addLeast F (i3 D) (i3 R) (i3 cl) An x y z (i3 f.1) (i3 f.2.1) (i3 f.2.2) = some (i3 cl', An', x', y', z') ∧ isNm An' cl' (fun w => S w ∨ (lst R f ∧ w = keyI f)) := by
  have hR := (hO.2.1 h0).1
  have hRb := (hO.2.1 h0).2
  have hns := hO.1.2.2.2
  obtain ⟨r1, r2, r3, r4, -⟩ := fred_rng hR hRb hns hf hFm.1
  have := r1.1; have := r1.2; have := r4.1; have := r4.2
  obtain ⟨g, q1, q2⟩ := isLeast_s F hF hO h0 hf hFm
  have e0 : f_addLeast F (i3 D) (i3 R) (i3 cl) An x y z (i3 f.1) (i3 f.2.1) (i3 f.2.2) = Option.bind (f_isLeast F (i3 D) (i3 R) (i6 f.1) (i6 f.2.1) (i6 f.2.2)) (fun (r_4, u_a1_5, u_b1_6, u_c1_7) => (if r_4 = 0 then some (i3 cl, An, u_a1_5, u_b1_6, u_c1_7) else Option.bind (f_addName F (i3 cl) An (i3 f.1) (i3 f.2.1)) (fun (u_cl_8, u_An_9) => some (u_cl_8, u_An_9, u_a1_5, u_b1_6, u_c1_7)))) := by
    unfold f_addLeast
    rw [i36 ⟨by omega, by omega⟩, i36 ⟨by omega, by omega⟩, i36 ⟨by omega, by omega⟩]
    rfl
  rw [e0]
  by_cases hl : lst R f
  · rw [q1 hl]
    simp only [Option.bind_some]
    rw [if_f (show ¬ (1 : Int32) = 0 by decide)]
    obtain ⟨A1, p1, p2⟩ := addName_s F (by omega) hN (cap_room hC hN hS ((name_p hO h0).mpr ⟨hFm, hf, hl⟩) hnS) (a := f.1) (b := f.2.1) (key_r3 hR hRb hns hf hFm.1) hnS
    rw [p1]
    simp only [Option.bind_some]
    refine ⟨cl + 1, A1, _, _, _, rfl, isNm_iff p2 fun w => ?_⟩
    constructor
    · rintro (h | h)
      · exact Or.inl h
      · exact Or.inr ⟨hl, h⟩
    · rintro (h | ⟨-, h⟩)
      · exact Or.inl h
      · exact Or.inr h
  · rw [q2 hl]
    simp only [Option.bind_some]
    rw [if_t trivial]
    refine ⟨cl, An, _, _, _, rfl, isNm_iff hN fun w => ?_⟩
    exact ⟨Or.inl, fun h => h.elim id (fun q => absurd q.1 hl)⟩
def mn (f : FT) : Int := if (f.1.natAbs : Int) ≤ f.2.2.natAbs then f.1.natAbs else f.2.2.natAbs
def Cpre (D b s : Int) (f : FT) : Prop := okF D f ∧ fred f ∧ (f.2.1 < b ∨ (f.2.1 = b ∧ mn f < s))
def Spr2 (D R b s : Int) : Int → Prop := fun z => ∃ f, isName D R f ∧ keyI f = z ∧ (f.2.1 < b ∨ (f.2.1 = b ∧ mn f < s))
/-- the four forms with this b and these |a|, |c| -/
theorem four {D b s t : Int} (hs : 0 < s) (hst : s ≤ t) (hD : D = b * b + 4 * (s * t)) {f : FT} (hf : fred f) (hd : fdisc f = D) (hb : f.2.1 = b) (hm : mn f = s) : f = (-s, b, t) ∨ f = (s, b, -t) ∨ f = (-t, b, s) ∨ f = (t, b, -s) := by
  obtain ⟨a, b', c⟩ := f
  simp only [fdisc] at hd
  simp only at hb
  subst hb
  have hac : a * c = -(s * t) := by
    have : 4 * a * c = 4 * (a * c) := by grind
    omega
  unfold mn at hm
  simp only at hm
  have hs4 := hf.1
  simp only at hs4
  by_cases g : (a.natAbs : Int) ≤ c.natAbs
  · rw [if_pos g] at hm
    rcases hs4 with h | h
    · have ha : a = s := by omega
      subst ha
      have hc : c = -t := Int.eq_of_mul_eq_mul_left (show a ≠ 0 by omega) (by rw [hac]; grind)
      right; left; rw [hc]
    · have ha : a = -s := by omega
      subst ha
      have hc : c = t := Int.eq_of_mul_eq_mul_left (show -s ≠ 0 by omega) (by rw [hac]; grind)
      left; rw [hc]
  · rw [if_neg g] at hm
    rcases hs4 with h | h
    · have hc : c = -s := by omega
      subst hc
      have ha : a = t := Int.eq_of_mul_eq_mul_right (show -s ≠ 0 by omega) (by rw [hac]; grind)
      right; right; right; rw [ha]
    · have hc : c = s := by omega
      subst hc
      have ha : a = -t := Int.eq_of_mul_eq_mul_right (show c ≠ 0 by omega) (by rw [hac]; grind)
      right; right; left; rw [ha]
theorem Cpre_step {D b s : Int} {f : FT} : Cpre D b (s + 1) f ↔ Cpre D b s f ∨ (okF D f ∧ fred f ∧ f.2.1 = b ∧ mn f = s) := by
  constructor
  · rintro ⟨h1, h2, h3⟩
    by_cases g : f.2.1 < b ∨ (f.2.1 = b ∧ mn f < s)
    · exact Or.inl ⟨h1, h2, g⟩
    · exact Or.inr ⟨h1, h2, by omega, by omega⟩
  · rintro (⟨h1, h2, h3⟩ | ⟨h1, h2, h3, h4⟩)
    · exact ⟨h1, h2, by omega⟩
    · exact ⟨h1, h2, by omega⟩
theorem Spr2_step {D R b s : Int} {z : Int} : Spr2 D R b (s + 1) z ↔ Spr2 D R b s z ∨ ∃ f, isName D R f ∧ keyI f = z ∧ f.2.1 = b ∧ mn f = s := by
  constructor
  · rintro ⟨f, h1, h2, h3⟩
    by_cases g : f.2.1 < b ∨ (f.2.1 = b ∧ mn f < s)
    · exact Or.inl ⟨f, h1, h2, g⟩
    · exact Or.inr ⟨f, h1, h2, by omega, by omega⟩
  · rintro (⟨f, h1, h2, h3⟩ | ⟨f, h1, h2, h3, h4⟩)
    · exact ⟨f, h1, h2, by omega⟩
    · exact ⟨f, h1, h2, by omega⟩
theorem keepInd_s (F : Nat) (hF : 1000000 ≤ F) {D R : Int} (hO : okD D R) (h0 : 0 < D) (hC : capD D R) {An : Nat → Int32} {cl rf : Nat} {b s t : Int} (hb0 : 0 < b) (hbR : b ≤ R) (hs : 0 < s) (hst : s ≤ t) (ht : t ≤ 262144) (hD : D = b * b + 4 * (s * t)) (hw : R < 2 * s + b)
    (hN : isNm An cl (Spr2 D R b s)) (hK : cntF rf (Cpre D b s)) (x y z : Int64) :
    ∃ (cl' rf' : Nat) (An' : Nat → Int32) (x' y' z' : Int64), f_keepInd F (i3 D) (i3 R) (i3 cl) (i3 rf) An x y z (i3 s) (i3 b) (i3 t) = some (i3 cl', i3 rf', An', x', y', z') ∧ isNm An' cl' (Spr2 D R b (s + 1)) ∧ cntF rf' (Cpre D b (s + 1)) := by
  have hR := (hO.2.1 h0).1
  have hRb := (hO.2.1 h0).2
  have hns := hO.1.2.2.2
  have hss : 2 * s ≤ R := by
    have h1 : s * s ≤ s * t := Int.mul_le_mul_of_nonneg_left hst (by omega)
    have h2 : 0 < b * b := Int.mul_pos hb0 hb0
    by_cases g : 2 * s ≤ R
    · exact g
    · have : (R + 1) * (R + 1) ≤ (2 * s) * (2 * s) := Int.mul_le_mul (by omega) (by omega) (by have := hR.1; omega) (by omega)
      have e : (2 * s) * (2 * s) = 4 * (s * s) := by grind
      have := hR.2.2
      omega
  have fd : ∀ a c : Int, a * c = -(s * t) → fdisc (a, b, c) = D := fun a c h => by
    simp only [fdisc]
    have : 4 * a * c = 4 * (a * c) := by grind
    omega
  have d1 := fd (-s) t (by grind)
  have d2 := fd s (-t) (by grind)
  have d3 := fd (-t) s (by grind)
  have d4 := fd t (-s) (by grind)
  have f1 : fred (-s, b, t) := fred_of_win hR hns d1 hb0 hbR (by simp only; omega) (by simp only; omega)
  have htb : t - s < b := by have := f1.2.2; simp only at this; omega
  have f2 : fred (s, b, -t) := ⟨Or.inl ⟨hs, by simp only; omega⟩, by simp only; omega, by simp only; omega⟩
  have f3 : fred (-t, b, s) := ⟨Or.inr ⟨by simp only; omega, hs⟩, by simp only; omega, by simp only; omega⟩
  have f4 : fred (t, b, -s) := ⟨Or.inl ⟨by simp only; omega, by simp only; omega⟩, by simp only; omega, by simp only; omega⟩
  have m1 : mn (-s, b, t) = s := by unfold mn; simp only; rw [if_pos (by omega)]; omega
  have m2 : mn (s, b, -t) = s := by unfold mn; simp only; rw [if_pos (by omega)]; omega
  have m3 : mn (-t, b, s) = s := by unfold mn; simp only; split <;> omega
  have m4 : mn (t, b, -s) = s := by unfold mn; simp only; split <;> omega
  have hp := isPrim_s F (by omega) (a := s) (b := b) (c := t) ⟨by omega, by omega⟩ ⟨by omega, by omega⟩ ⟨by omega, by omega⟩
  unfold f_keepInd
  by_cases g : prim s b t
  · rw [hp.1 g]
    simp only [Option.bind_some]
    rw [if_f (show ¬ (1 : Int32) = 0 by decide), i3_neg, i3_neg]
    obtain ⟨x0, y0, z0, hh⟩ := g
    have o1 : okF D (-s, b, t) := ⟨d1, ⟨-x0, y0, z0, by simp only; rw [← hh]; grind⟩, fun q => by omega⟩
    have o2 : okF D (s, b, -t) := ⟨d2, ⟨x0, y0, -z0, by simp only; rw [← hh]; grind⟩, fun q => by omega⟩
    have o3 : okF D (-t, b, s) := ⟨d3, ⟨-z0, y0, x0, by simp only; rw [← hh]; grind⟩, fun q => by omega⟩
    have o4 : okF D (t, b, -s) := ⟨d4, ⟨z0, y0, -x0, by simp only; rw [← hh]; grind⟩, fun q => by omega⟩
    have hkeyof : ∀ {f g : FT}, isName D R f → fred g → fdisc g = D → keyI f = keyI g → f = g := fun hf hg hd e => by
      obtain ⟨a1, a2, -⟩ := (name_p hO h0).mp hf
      exact key_inj hR hRb hns a2 hg a1.1 hd e
    have hS1 : ∀ z, Spr2 D R b s z → ∃ f, isName D R f ∧ keyI f = z := fun z ⟨f, q1, q2, _⟩ => ⟨f, q1, q2⟩
    have nS1 : ¬ Spr2 D R b s (keyI (-s, b, t)) := by
      rintro ⟨f, q1, q2, q3⟩
      have := hkeyof q1 f1 d1 q2
      rw [this, m1] at q3
      simp only at q3; omega
    obtain ⟨cl1, A1, x1, y1, z1, p1, p2⟩ := addLeast_s F hF hO h0 hC hN hS1 f1 o1 nS1 x y z
    show ∃ cl' rf' An' x' y' z', Option.bind (f_addLeast F (i3 D) (i3 R) (i3 cl) An x y z (i3 (-s)) (i3 b) (i3 t)) _ = _ ∧ _
    rw [p1]
    simp only [Option.bind_some]
    have c12 : cntF (rf + 1 + 1) (fun f => (Cpre D b s f ∨ f = (-s, b, t)) ∨ f = (s, b, -t)) := by
      refine cnt_add (cnt_add hK ?_) ?_
      · rintro ⟨-, -, q⟩; rw [m1] at q; simp only at q; omega
      · rintro (⟨-, -, q⟩ | q)
        · rw [m2] at q; simp only at q; omega
        · have := congrArg Prod.fst q; simp only at this; omega
    have er : i3 (rf : Int) + 2 = i3 ((rf + 2 : Nat) : Int) := by show i3 (rf : Int) + i3 2 = _; rw [i3_add]; rfl
    rw [er]
    by_cases g2 : t ≤ s
    · rw [if_t ((i3_le (a := t) (b := s) ⟨by omega, by omega⟩ ⟨by omega, by omega⟩).mpr g2)]
      have hts : t = s := by omega
      refine ⟨cl1, rf + 2, A1, _, _, _, rfl, isNm_iff p2 fun w => ?_, cnt_iff c12 fun f => ?_⟩
      · rw [Spr2_step]
        constructor
        · rintro (q | ⟨q1, q2⟩)
          · exact Or.inl q
          · exact Or.inr ⟨_, (name_p hO h0).mpr ⟨o1, f1, q1⟩, q2.symm, rfl, m1⟩
        · rintro (q | ⟨f, q1, q2, q3, q4⟩)
          · exact Or.inl q
          · obtain ⟨a1, a2, a3⟩ := (name_p hO h0).mp q1
            have hneg := name_neg hO h0 q1
            have : f = (-s, b, t) := by
              rcases four hs hst hD a2 a1.1 q3 q4 with h | h | h | h
              · exact h
              · rw [h] at hneg; simp only at hneg; omega
              · rw [h, hts]
              · rw [h] at hneg; simp only at hneg; omega
            rw [this] at a3 q2
            exact Or.inr ⟨a3, q2.symm⟩
      · rw [Cpre_step]
        constructor
        · rintro ((q | q) | q)
          · exact Or.inl q
          · rw [q]; exact Or.inr ⟨o1, f1, rfl, m1⟩
          · rw [q]; exact Or.inr ⟨o2, f2, rfl, m2⟩
        · rintro (q | ⟨q1, q2, q3, q4⟩)
          · exact Or.inl (Or.inl q)
          · rcases four hs hst hD q2 q1.1 q3 q4 with h | h | h | h
            · exact Or.inl (Or.inr h)
            · exact Or.inr h
            · exact Or.inl (Or.inr (by rw [h, hts]))
            · exact Or.inr (by rw [h, hts])
    · rw [if_f (fun q => g2 ((i3_le (a := t) (b := s) ⟨by omega, by omega⟩ ⟨by omega, by omega⟩).mp q))]
      have hS2 : ∀ w, (Spr2 D R b s w ∨ (lst R (-s, b, t) ∧ w = keyI (-s, b, t))) → ∃ f, isName D R f ∧ keyI f = w := by
        rintro w (q | ⟨q1, q2⟩)
        · exact hS1 w q
        · exact ⟨_, (name_p hO h0).mpr ⟨o1, f1, q1⟩, q2.symm⟩
      have nS2 : ¬ (Spr2 D R b s (keyI (-t, b, s)) ∨ (lst R (-s, b, t) ∧ keyI (-t, b, s) = keyI (-s, b, t))) := by
        rintro (⟨f, q1, q2, q3⟩ | ⟨-, q⟩)
        · have := hkeyof q1 f3 d3 q2
          rw [this, m3] at q3
          simp only at q3; omega
        · simp only [keyI] at q; omega
      obtain ⟨cl2, A2, x2, y2, z2, p3, p4⟩ := addLeast_s F hF hO h0 hC p2 hS2 f3 o3 nS2 x1 y1 z1
      show ∃ cl' rf' An' x' y' z', Option.bind (f_addLeast F (i3 D) (i3 R) (i3 cl1) A1 x1 y1 z1 (i3 (-t)) (i3 b) (i3 s)) _ = _ ∧ _
      rw [p3]
      simp only [Option.bind_some]
      have c34 : cntF (rf + 1 + 1 + 1 + 1) (fun f => (((Cpre D b s f ∨ f = (-s, b, t)) ∨ f = (s, b, -t)) ∨ f = (-t, b, s)) ∨ f = (t, b, -s)) := by
        refine cnt_add (cnt_add c12 ?_) ?_
        · rintro ((⟨-, -, q⟩ | q) | q)
          · rw [m3] at q; simp only at q; omega
          · have := congrArg Prod.fst q; simp only at this; omega
          · have := congrArg Prod.fst q; simp only at this; omega
        · rintro (((⟨-, -, q⟩ | q) | q) | q)
          · rw [m4] at q; simp only at q; omega
          · have := congrArg Prod.fst q; simp only at this; omega
          · have := congrArg Prod.fst q; simp only at this; omega
          · have := congrArg Prod.fst q; simp only at this; omega
      have er2 : i3 ((rf + 2 : Nat) : Int) + 2 = i3 ((rf + 4 : Nat) : Int) := by show i3 ((rf + 2 : Nat) : Int) + i3 2 = _; rw [i3_add]; rfl
      refine ⟨cl2, rf + 4, A2, _, _, _, by rw [er2], isNm_iff p4 fun w => ?_, cnt_iff c34 fun f => ?_⟩
      · rw [Spr2_step]
        constructor
        · rintro ((q | ⟨q1, q2⟩) | ⟨q1, q2⟩)
          · exact Or.inl q
          · exact Or.inr ⟨_, (name_p hO h0).mpr ⟨o1, f1, q1⟩, q2.symm, rfl, m1⟩
          · exact Or.inr ⟨_, (name_p hO h0).mpr ⟨o3, f3, q1⟩, q2.symm, rfl, m3⟩
        · rintro (q | ⟨f, q1, q2, q3, q4⟩)
          · exact Or.inl (Or.inl q)
          · obtain ⟨a1, a2, a3⟩ := (name_p hO h0).mp q1
            have hneg := name_neg hO h0 q1
            rcases four hs hst hD a2 a1.1 q3 q4 with h | h | h | h
            · rw [h] at a3 q2; exact Or.inl (Or.inr ⟨a3, q2.symm⟩)
            · rw [h] at hneg; simp only at hneg; omega
            · rw [h] at a3 q2; exact Or.inr ⟨a3, q2.symm⟩
            · rw [h] at hneg; simp only at hneg; omega
      · rw [Cpre_step]
        constructor
        · rintro ((((q | q) | q) | q) | q)
          · exact Or.inl q
          · rw [q]; exact Or.inr ⟨o1, f1, rfl, m1⟩
          · rw [q]; exact Or.inr ⟨o2, f2, rfl, m2⟩
          · rw [q]; exact Or.inr ⟨o3, f3, rfl, m3⟩
          · rw [q]; exact Or.inr ⟨o4, f4, rfl, m4⟩
        · rintro (q | ⟨q1, q2, q3, q4⟩)
          · exact Or.inl (Or.inl (Or.inl (Or.inl q)))
          · rcases four hs hst hD q2 q1.1 q3 q4 with h | h | h | h
            · exact Or.inl (Or.inl (Or.inl (Or.inr h)))
            · exact Or.inl (Or.inl (Or.inr h))
            · exact Or.inl (Or.inr h)
            · exact Or.inr h
  · rw [hp.2 g]
    simp only [Option.bind_some]
    rw [if_t trivial]
    have hno : ∀ f : FT, okF D f → fred f → f.2.1 = b → mn f = s → False := by
      intro f q1 q2 q3 q4
      apply g
      obtain ⟨x0, y0, z0, hh⟩ := q1.2.1
      rcases four hs hst hD q2 q1.1 q3 q4 with h | h | h | h <;> rw [h] at hh <;> simp only at hh
      · exact ⟨-x0, y0, z0, by rw [← hh]; grind⟩
      · exact ⟨x0, y0, -z0, by rw [← hh]; grind⟩
      · exact ⟨z0, y0, -x0, by rw [← hh]; grind⟩
      · exact ⟨-z0, y0, x0, by rw [← hh]; grind⟩
    refine ⟨cl, rf, An, _, _, _, rfl, isNm_iff hN fun w => ?_, cnt_iff hK fun f => ?_⟩
    · rw [Spr2_step]
      refine ⟨Or.inl, fun h => h.elim id ?_⟩
      rintro ⟨f, q1, q2, q3, q4⟩
      obtain ⟨a1, a2, a3⟩ := (name_p hO h0).mp q1
      exact (hno f a1 a2 q3 q4).elim
    · rw [Cpre_step]
      refine ⟨Or.inl, fun h => h.elim id ?_⟩
      rintro ⟨q1, q2, q3, q4⟩
      exact (hno f q1 q2 q3 q4).elim
