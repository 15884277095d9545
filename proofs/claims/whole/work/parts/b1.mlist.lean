/-! The reference: the list of the reduced forms -/
def lt2 (f g : FT) : Prop := f.1 < g.1 ∨ (f.1 = g.1 ∧ f.2.1 < g.2.1)
def isRf (D R : Int) (f : FT) : Prop := okF D f ∧ redI D R f
def isLs (D R : Int) (P : FT → Prop) (N : Nat) (gm : Nat → FT) (Bf Bm Bk : Nat → Int32) : Prop := (∀ i, i < N → Bf i = i3 (gm i).1 ∧ Bm i = i3 (gm i).2.1 ∧ Bk i = i3 (-1)) ∧ (∀ i j, i < j → j < N → lt2 (gm i) (gm j)) ∧ ∀ f, (isRf D R f ∧ P f) ↔ ∃ i, i < N ∧ gm i = f
theorem forms_few2 {D R : Int} (hO : okD D R) {N : Nat} {g : Nat → FT} (h1 : ∀ i j, i < N → j < N → g i = g j → i = j) (hm : ∀ i, i < N → isRf D R (g i)) : N ≤ 7504 := by
  by_cases hn : D < 0
  · have := cap_neg hO hn N g (fun i hi => ⟨(hm i hi).1, (hm i hi).2, fun h => by omega⟩) h1
    omega
  · have h0 : 0 < D := by have := okD_ne hO; omega
    have := pos_all hO h0 ((List.range N).map g) (nd_map List.nodup_range (fun x y hx hy he => h1 x y (List.mem_range.1 hx) (List.mem_range.1 hy) he)) (fun f hf => by
      obtain ⟨k, hk, rfl⟩ := List.mem_map.1 hf
      have := hm k (List.mem_range.1 hk)
      exact ⟨(redI_fred (hO.2.1 h0).1 hO.1.2.2.2 h0 this.1.1).mp this.2, this.1.1⟩)
    simpa using this
theorem lt2_inj {N : Nat} {gm : Nat → FT} (h : ∀ i j, i < j → j < N → lt2 (gm i) (gm j)) : ∀ i j, i < N → j < N → gm i = gm j → i = j := by
  intro i j hi hj he
  rcases Nat.lt_trichotomy i j with q | q | q
  · have := h i j q hj; rw [he] at this; simp only [lt2] at this; omega
  · exact q
  · have := h j i q hi; rw [he] at this; simp only [lt2] at this; omega
theorem ls_few {D R : Int} (hO : okD D R) {P : FT → Prop} {N : Nat} {gm : Nat → FT} {Bf Bm Bk : Nat → Int32} (h : isLs D R P N gm Bf Bm Bk) : N ≤ 7504 :=
  forms_few2 hO (lt2_inj h.2.1) (fun i hi => ((h.2.2 (gm i)).mpr ⟨i, hi, rfl⟩).1)
theorem ls_iff {D R : Int} {P Q : FT → Prop} {N : Nat} {gm : Nat → FT} {Bf Bm Bk : Nat → Int32} (h : isLs D R P N gm Bf Bm Bk) (e : ∀ f, isRf D R f → (P f ↔ Q f)) : isLs D R Q N gm Bf Bm Bk :=
  ⟨h.1, h.2.1, fun f => ⟨fun hf => (h.2.2 f).mp ⟨hf.1, (e f hf.1).mpr hf.2⟩, fun hf => by have := (h.2.2 f).mpr hf; exact ⟨this.1, (e f this.1).mp this.2⟩⟩⟩
def Pab (a b : Int) (f : FT) : Prop := f.1 < a ∨ (f.1 = a ∧ f.2.1 < b)
theorem ls_skip {D R : Int} {a b : Int} {N : Nat} {gm : Nat → FT} {Bf Bm Bk : Nat → Int32} (h : isLs D R (Pab a b) N gm Bf Bm Bk) (hno : ∀ f, isRf D R f → f.1 = a → f.2.1 ≠ b) : isLs D R (Pab a (b + 1)) N gm Bf Bm Bk :=
  ls_iff h (fun f hf => by
    have := hno f hf
    simp only [Pab]
    constructor
    · rintro (q | ⟨q1, q2⟩)
      · exact Or.inl q
      · exact Or.inr ⟨q1, by omega⟩
    · rintro (q | ⟨q1, q2⟩)
      · exact Or.inl q
      · exact Or.inr ⟨q1, by have := this q1; omega⟩)
theorem ls_add {D R : Int} {a b c : Int} {N : Nat} {gm : Nat → FT} {Bf Bm Bk : Nat → Int32} (ha0 : a ≠ 0) (h : isLs D R (Pab a b) N gm Bf Bm Bk) (hf : isRf D R (a, b, c)) : isLs D R (Pab a (b + 1)) (N + 1) (fun i => if i = N then (a, b, c) else gm i) (upd Bf N (i3 a)) (upd Bm N (i3 b)) (upd Bk N (-1)) := by
  obtain ⟨h1, h2, h3⟩ := h
  refine ⟨fun i hi => ?_, fun i j hij hj => ?_, fun f => ⟨fun ⟨q1, q2⟩ => ?_, fun ⟨i, hi, he⟩ => ?_⟩⟩
  · by_cases q : i = N
    · subst q
      simp only [if_true]
      exact ⟨pk_us, pk_us, pk_us⟩
    · simp only
      rw [if_neg q, pk_un q, pk_un q, pk_un q]
      exact h1 i (by omega)
  · by_cases q : j = N
    · subst q
      simp only [if_true]
      rw [if_neg (by omega)]
      have := ((h3 (gm i)).mpr ⟨i, by omega, rfl⟩).2
      simp only [Pab] at this
      simp only [lt2]
      exact this
    · simp only
      rw [if_neg (by omega), if_neg q]
      exact h2 i j hij (by omega)
  · by_cases q : f.1 = a ∧ f.2.1 = b
    · refine ⟨N, by omega, ?_⟩
      simp only [if_true]
      obtain ⟨a', b', c'⟩ := f
      simp only at q
      obtain ⟨rfl, rfl⟩ := q
      have d1 : b' * b' - 4 * a' * c' = D := q1.1.1
      have d2 : b' * b' - 4 * a' * c = D := hf.1.1
      have : 4 * a' * c' = 4 * a' * c := by omega
      have := Int.eq_of_mul_eq_mul_left (by omega) this
      rw [this]
    · obtain ⟨i, hi, he⟩ := (h3 f).mp ⟨q1, by
        simp only [Pab] at q2 ⊢
        rcases q2 with q2 | ⟨q2, q3⟩
        · exact Or.inl q2
        · exact Or.inr ⟨q2, by have := fun hb => q ⟨q2, hb⟩; omega⟩⟩
      exact ⟨i, by omega, by simp only; rw [if_neg (by omega)]; exact he⟩
  · by_cases q : i = N
    · subst q
      simp only [if_true] at he
      rw [← he]
      exact ⟨hf, Or.inr ⟨rfl, by simp only; omega⟩⟩
    · simp only at he
      rw [if_neg q] at he
      have := (h3 f).mpr ⟨i, by omega, he⟩
      refine ⟨this.1, ?_⟩
      rcases this.2 with q2 | ⟨q2, q3⟩
      · exact Or.inl q2
      · exact Or.inr ⟨q2, by omega⟩
theorem mlsL82_s (F : Nat) (hF : 10000000 ≤ F) {D R : Int} (hO : okD D R) {mw : Int64} (hw : isMw D R mw) {a bx : Int} (ha0 : a ≠ 0) (ha : bd 1100 a) (hap : D < 0 → 0 < a) (hbx : bd 1100 bx) (h1 : 0 < D → bx = R) (h2 : D < 0 → bx = a) : ∀ (d : Nat) (b : Int) (n N : Nat) (gm : Nat → FT) (Bf Bm Bk : Nat → Int32) (ma mb mc : Int64), b + d = bx + 1 → bd 1101 b → d + 1 ≤ n → isLs D R (Pab a b) N gm Bf Bm Bk →
    ∃ (N' : Nat) (gm' : Nat → FT) (Bf' Bm' Bk' : Nat → Int32) (x y z : Int64), f_m_list_L82 F (i6 D) mw (i6 a) n (i6 b) (i3 N) Bf Bm Bk ma mb mc = some (i3 N', Bf', Bm', Bk', x, y, z) ∧ isLs D R (Pab a (bx + 1)) N' gm' Bf' Bm' Bk' := by
  have hD1 := hO.1.1; have hD2 := hO.1.2.1
  have hD6 : r6 D := ⟨by omega, by omega⟩
  have ha1 := ha.1; have ha2 := ha.2; have hb1 := hbx.1; have hb2 := hbx.2
  have hRr := okD_r hO
  have hsel : ((0 : Int32) ≤ lg_cmp (i6 D) 0 ∧ mw = i6 bx) ∨ (¬ (0 : Int32) ≤ lg_cmp (i6 D) 0 ∧ i6 a = i6 bx) := by
    rcases Int.lt_or_gt_of_ne (okD_ne hO) with g0 | g0
    · exact Or.inr ⟨fun q => by have := (l_ge0 hD6).mp q; omega, by rw [h2 g0]⟩
    · exact Or.inl ⟨(l_ge0 hD6).mpr (by omega), by rw [hw g0, h1 g0]⟩
  have tst : ∀ (b : Int) (t : Int64), t = i6 bx → bd 1101 b → ((0 : Int32) < lg_cmp (i6 b) t ↔ bx < b) := by
    intro b t ht hb
    have := hb.1; have := hb.2
    rw [ht]; exact lc_gt ⟨by omega, by omega⟩ ⟨by omega, by omega⟩
  have n4 : ¬ i6 (4 * a) = 0 := fun q => by have := (d_eq0 (a := 4 * a) ⟨by omega, by omega⟩).mp q; omega
  intro d
  induction d with
  | zero =>
    intro b n N gm Bf Bm Bk ma mb mc hbd hbb hn hL
    obtain ⟨n', rfl⟩ : ∃ n', n = n' + 1 := ⟨n - 1, by omega⟩
    have e : b = bx + 1 := by omega
    subst e
    refine ⟨N, gm, Bf, Bm, Bk, ma, mb, mc, ?_, hL⟩
    rw [f_m_list_L82]
    simp only [bnd]
    rcases hsel with ⟨hc, heq⟩ | ⟨hc, heq⟩
    · rw [if_t hc, if_t ((tst _ _ heq hbb).mpr (by omega))]
    · rw [if_f hc, if_t ((tst _ _ heq hbb).mpr (by omega))]
  | succ d ih =>
    intro b n N gm Bf Bm Bk ma mb mc hbd hbb hn hL
    obtain ⟨n', rfl⟩ : ∃ n', n = n' + 1 := ⟨n - 1, by omega⟩
    have hb3 := hbb.1; have hb4 := hbb.2
    have hbq := mul_bd hbb hbb (by omega) (by omega)
    have hq1 := hbq.1; have hq2 := hbq.2
    have eN : i6 b + 1 = i6 (b + 1) := by
      show i6 b + i6 1 = _
      rw [i6_add]
    rw [f_m_list_L82]
    simp only [bnd]
    rcases hsel with ⟨hc, heq⟩ | ⟨hc, heq⟩
    · rw [if_t hc]
      rw [if_f (fun q => by have := (tst _ _ heq hbb).mp q; omega), c4_s, i6_mul, if_t n4, i6_mul, i6_sub, i6_rem (a := b * b - D) (b := 4 * a) ⟨by omega, by omega⟩ ⟨by omega, by omega⟩ (by omega) (by omega), eN]
      have htl : -8800 < (b * b - D).tmod (4 * a) ∧ (b * b - D).tmod (4 * a) < 8800 := by
        have h3 := Int.natAbs_tmod (b * b - D) (4 * a)
        have h4 : (b * b - D).natAbs % (4 * a).natAbs < (4 * a).natAbs := Nat.mod_lt _ (by omega)
        omega
      by_cases hdv : (b * b - D).tmod (4 * a) = 0
      · rw [if_t ((l_eq0 (a := (b * b - D).tmod (4 * a)) ⟨by omega, by omega⟩).mpr hdv)]
        obtain ⟨c, hc⟩ : ∃ c, b * b - D = 4 * a * c := by
          obtain ⟨c, hc⟩ := Int.dvd_of_tmod_eq_zero hdv
          exact ⟨c, hc⟩
        have hcb : bd 2147483648 c := by
          have h5 : (4 * a * c).natAbs = 4 * a.natAbs * c.natAbs := by rw [Int.natAbs_mul, Int.natAbs_mul]; rfl
          have h6 : c.natAbs ≤ 4 * a.natAbs * c.natAbs := Nat.le_mul_of_pos_left _ (by omega)
          constructor <;> omega
        rw [mbe_s F ⟨by omega, by omega⟩ ⟨by omega, by omega⟩ ha0 ⟨by omega, by omega⟩ hc]
        simp only [Option.bind_some]
        have hB : Bd (a, b, c) := ⟨⟨by simp only; omega, by simp only; omega⟩, ⟨by simp only; omega, by simp only; omega⟩, hcb⟩
        have hmr := misRed_s F hO hw hB
        simp only at hmr
        have hcb1 := hcb.1; have hcb2 := hcb.2
        by_cases hr : redI D R (a, b, c)
        · rw [hmr.1 hr]
          simp only [Option.bind_some]
          rw [if_f (by decide), mcom_s F (a := a) (b := b) ⟨by omega, by omega⟩ ⟨by omega, by omega⟩ ⟨by omega, by omega⟩ ⟨by omega, by omega⟩ (by omega)]
          simp only [Option.bind_some]
          have hgl : Int.gcd a b ≤ a.natAbs := Nat.gcd_le_left _ (by omega)
          have hcF : c.natAbs < F := by
            have h5 : (4 * a * c).natAbs = 4 * a.natAbs * c.natAbs := by rw [Int.natAbs_mul, Int.natAbs_mul]; rfl
            have h6 : c.natAbs ≤ 4 * a.natAbs * c.natAbs := Nat.le_mul_of_pos_left _ (by omega)
            omega
          rw [mcom_s F (a := ((Int.gcd a b : Nat) : Int)) (b := c) ⟨by omega, by omega⟩ ⟨by omega, by omega⟩ ⟨by omega, by omega⟩ ⟨by omega, by omega⟩ hcF]
          simp only [Option.bind_some]
          have hgl2 : Int.gcd ((Int.gcd a b : Nat) : Int) c ≤ Int.gcd a b := Nat.gcd_le_left _ (Nat.gcd_pos_of_pos_left _ (by omega))
          have hcond : lg_cmp (i6 (Int.gcd ((Int.gcd a b : Nat) : Int) c : Nat)) 1 = 0 ↔ ((Int.gcd ((Int.gcd a b : Nat) : Int) c : Nat) : Int) = 1 := lc_eq (b := 1) ⟨by omega, by omega⟩ ⟨by decide, by decide⟩
          by_cases hp : prim a b c
          · have hg1 := prim_iff.mp hp
            rw [if_t (hcond.mpr (by rw [hg1]; rfl))]
            have hroom := ls_few hO hL
            rw [if_t (nn_v (by omega) (by omega))]
            rw [if_t (nn_v (by omega) (by omega))]
            rw [if_t (nn_v (by omega) (by omega)), nn_n (by omega), nn_s, i63, i63]
            have hfd : fdisc (a, b, c) = D := by simp only [fdisc]; omega
            exact ih (b + 1) n' (N + 1) _ _ _ _ _ _ _ (by omega) ⟨by omega, by omega⟩ (by omega) (ls_add ha0 hL ⟨⟨hfd, hp, hap⟩, hr⟩)
          · rw [if_f (fun q => hp (prim_iff.mpr (by have := hcond.mp q; omega)))]
            refine ih (b + 1) n' N gm Bf Bm Bk _ _ _ (by omega) ⟨by omega, by omega⟩ (by omega) (ls_skip hL ?_)
            rintro ⟨a', b', c'⟩ hf q1 q2
            simp only at q1 q2
            subst q1; subst q2
            have d1 : b' * b' - 4 * a' * c' = D := hf.1.1
            have : 4 * a' * c' = 4 * a' * c := by omega
            have := Int.eq_of_mul_eq_mul_left (by omega) this
            subst this
            exact hp hf.1.2.1
        · rw [hmr.2 hr]
          simp only [Option.bind_some]
          rw [if_t trivial]
          refine ih (b + 1) n' N gm Bf Bm Bk _ _ _ (by omega) ⟨by omega, by omega⟩ (by omega) (ls_skip hL ?_)
          rintro ⟨a', b', c'⟩ hf q1 q2
          simp only at q1 q2
          subst q1; subst q2
          have d1 : b' * b' - 4 * a' * c' = D := hf.1.1
          have : 4 * a' * c' = 4 * a' * c := by omega
          have := Int.eq_of_mul_eq_mul_left (by omega) this
          subst this
          exact hr hf.2
      · rw [if_f (fun q => hdv ((l_eq0 (a := (b * b - D).tmod (4 * a)) ⟨by omega, by omega⟩).mp q))]
        refine ih (b + 1) n' N gm Bf Bm Bk ma mb mc (by omega) ⟨by omega, by omega⟩ (by omega) (ls_skip hL ?_)
        rintro ⟨a', b', c'⟩ hf q1 q2
        simp only at q1 q2
        subst q1; subst q2
        have d1 : b' * b' - 4 * a' * c' = D := hf.1.1
        apply hdv
        rw [show b' * b' - D = 4 * a' * c' by omega]
        exact Int.mul_tmod_right _ _
    · rw [if_f hc]
      rw [if_f (fun q => by have := (tst _ _ heq hbb).mp q; omega), c4_s, i6_mul, if_t n4, i6_mul, i6_sub, i6_rem (a := b * b - D) (b := 4 * a) ⟨by omega, by omega⟩ ⟨by omega, by omega⟩ (by omega) (by omega), eN]
      have htl : -8800 < (b * b - D).tmod (4 * a) ∧ (b * b - D).tmod (4 * a) < 8800 := by
        have h3 := Int.natAbs_tmod (b * b - D) (4 * a)
        have h4 : (b * b - D).natAbs % (4 * a).natAbs < (4 * a).natAbs := Nat.mod_lt _ (by omega)
        omega
      by_cases hdv : (b * b - D).tmod (4 * a) = 0
      · rw [if_t ((l_eq0 (a := (b * b - D).tmod (4 * a)) ⟨by omega, by omega⟩).mpr hdv)]
        obtain ⟨c, hc⟩ : ∃ c, b * b - D = 4 * a * c := by
          obtain ⟨c, hc⟩ := Int.dvd_of_tmod_eq_zero hdv
          exact ⟨c, hc⟩
        have hcb : bd 2147483648 c := by
          have h5 : (4 * a * c).natAbs = 4 * a.natAbs * c.natAbs := by rw [Int.natAbs_mul, Int.natAbs_mul]; rfl
          have h6 : c.natAbs ≤ 4 * a.natAbs * c.natAbs := Nat.le_mul_of_pos_left _ (by omega)
          constructor <;> omega
        rw [mbe_s F ⟨by omega, by omega⟩ ⟨by omega, by omega⟩ ha0 ⟨by omega, by omega⟩ hc]
        simp only [Option.bind_some]
        have hB : Bd (a, b, c) := ⟨⟨by simp only; omega, by simp only; omega⟩, ⟨by simp only; omega, by simp only; omega⟩, hcb⟩
        have hmr := misRed_s F hO hw hB
        simp only at hmr
        have hcb1 := hcb.1; have hcb2 := hcb.2
        by_cases hr : redI D R (a, b, c)
        · rw [hmr.1 hr]
          simp only [Option.bind_some]
          rw [if_f (by decide), mcom_s F (a := a) (b := b) ⟨by omega, by omega⟩ ⟨by omega, by omega⟩ ⟨by omega, by omega⟩ ⟨by omega, by omega⟩ (by omega)]
          simp only [Option.bind_some]
          have hgl : Int.gcd a b ≤ a.natAbs := Nat.gcd_le_left _ (by omega)
          have hcF : c.natAbs < F := by
            have h5 : (4 * a * c).natAbs = 4 * a.natAbs * c.natAbs := by rw [Int.natAbs_mul, Int.natAbs_mul]; rfl
            have h6 : c.natAbs ≤ 4 * a.natAbs * c.natAbs := Nat.le_mul_of_pos_left _ (by omega)
            omega
          rw [mcom_s F (a := ((Int.gcd a b : Nat) : Int)) (b := c) ⟨by omega, by omega⟩ ⟨by omega, by omega⟩ ⟨by omega, by omega⟩ ⟨by omega, by omega⟩ hcF]
          simp only [Option.bind_some]
          have hgl2 : Int.gcd ((Int.gcd a b : Nat) : Int) c ≤ Int.gcd a b := Nat.gcd_le_left _ (Nat.gcd_pos_of_pos_left _ (by omega))
          have hcond : lg_cmp (i6 (Int.gcd ((Int.gcd a b : Nat) : Int) c : Nat)) 1 = 0 ↔ ((Int.gcd ((Int.gcd a b : Nat) : Int) c : Nat) : Int) = 1 := lc_eq (b := 1) ⟨by omega, by omega⟩ ⟨by decide, by decide⟩
          by_cases hp : prim a b c
          · have hg1 := prim_iff.mp hp
            rw [if_t (hcond.mpr (by rw [hg1]; rfl))]
            have hroom := ls_few hO hL
            rw [if_t (nn_v (by omega) (by omega))]
            rw [if_t (nn_v (by omega) (by omega))]
            rw [if_t (nn_v (by omega) (by omega)), nn_n (by omega), nn_s, i63, i63]
            have hfd : fdisc (a, b, c) = D := by simp only [fdisc]; omega
            exact ih (b + 1) n' (N + 1) _ _ _ _ _ _ _ (by omega) ⟨by omega, by omega⟩ (by omega) (ls_add ha0 hL ⟨⟨hfd, hp, hap⟩, hr⟩)
          · rw [if_f (fun q => hp (prim_iff.mpr (by have := hcond.mp q; omega)))]
            refine ih (b + 1) n' N gm Bf Bm Bk _ _ _ (by omega) ⟨by omega, by omega⟩ (by omega) (ls_skip hL ?_)
            rintro ⟨a', b', c'⟩ hf q1 q2
            simp only at q1 q2
            subst q1; subst q2
            have d1 : b' * b' - 4 * a' * c' = D := hf.1.1
            have : 4 * a' * c' = 4 * a' * c := by omega
            have := Int.eq_of_mul_eq_mul_left (by omega) this
            subst this
            exact hp hf.1.2.1
        · rw [hmr.2 hr]
          simp only [Option.bind_some]
          rw [if_t trivial]
          refine ih (b + 1) n' N gm Bf Bm Bk _ _ _ (by omega) ⟨by omega, by omega⟩ (by omega) (ls_skip hL ?_)
          rintro ⟨a', b', c'⟩ hf q1 q2
          simp only at q1 q2
          subst q1; subst q2
          have d1 : b' * b' - 4 * a' * c' = D := hf.1.1
          have : 4 * a' * c' = 4 * a' * c := by omega
          have := Int.eq_of_mul_eq_mul_left (by omega) this
          subst this
          exact hr hf.2
      · rw [if_f (fun q => hdv ((l_eq0 (a := (b * b - D).tmod (4 * a)) ⟨by omega, by omega⟩).mp q))]
        refine ih (b + 1) n' N gm Bf Bm Bk ma mb mc (by omega) ⟨by omega, by omega⟩ (by omega) (ls_skip hL ?_)
        rintro ⟨a', b', c'⟩ hf q1 q2
        simp only at q1 q2
        subst q1; subst q2
        have d1 : b' * b' - 4 * a' * c' = D := hf.1.1
        apply hdv
        rw [show b' * b' - D = 4 * a' * c' by omega]
        exact Int.mul_tmod_right _ _
theorem mlsL50_s (F : Nat) (hF : 10000000 ≤ F) {D R : Int} (hO : okD D R) {mw : Int64} (hw : isMw D R mw) {ax : Int} (hax : 0 ≤ ax) (hax2 : ax ≤ 1100) : ∀ (d : Nat) (a : Int) (n N : Nat) (gm : Nat → FT) (Bf Bm Bk : Nat → Int32) (ma mb mc : Int64), a + d = ax + 1 → -1100 ≤ a → (D < 0 → 0 < a) → d + 1 ≤ n → isLs D R (fun f => f.1 < a) N gm Bf Bm Bk →
    ∃ (N' : Nat) (gm' : Nat → FT) (Bf' Bm' Bk' : Nat → Int32) (x y z : Int64), f_m_list_L50 F (i6 D) mw (i6 ax) n (i6 a) (i3 N) Bf Bm Bk ma mb mc = some (i3 N', Bf', Bm', Bk', x, y, z) ∧ isLs D R (fun f => f.1 < ax + 1) N' gm' Bf' Bm' Bk' := by
  have hD1 := hO.1.1; have hD2 := hO.1.2.1
  have hD6 : r6 D := ⟨by omega, by omega⟩
  have hRr := okD_r hO
  intro d
  induction d with
  | zero =>
    intro a n N gm Bf Bm Bk ma mb mc had ha hap hn hL
    obtain ⟨n', rfl⟩ : ∃ n', n = n' + 1 := ⟨n - 1, by omega⟩
    have e : a = ax + 1 := by omega
    subst e
    refine ⟨N, gm, Bf, Bm, Bk, ma, mb, mc, ?_, hL⟩
    rw [f_m_list_L50, if_t ((lc_gt ⟨by omega, by omega⟩ ⟨by omega, by omega⟩).mpr (by omega))]
  | succ d ih =>
    intro a n N gm Bf Bm Bk ma mb mc had ha hap hn hL
    obtain ⟨n', rfl⟩ : ∃ n', n = n' + 1 := ⟨n - 1, by omega⟩
    have eN : i6 a + 1 = i6 (a + 1) := by
      show i6 a + i6 1 = _
      rw [i6_add]
    rw [f_m_list_L50, if_f (fun q => by have := (lc_gt ⟨by omega, by omega⟩ ⟨by omega, by omega⟩).mp q; omega)]
    by_cases g : a = 0
    · rw [if_t ((l_eq0 (a := a) ⟨by omega, by omega⟩).mpr g), eN]
      refine ih (a + 1) n' N gm Bf Bm Bk ma mb mc (by omega) (by omega) (by omega) (by omega) (ls_iff hL (fun f hf => ?_))
      have := a_ne hO.1.2.2.2 hf.1.1
      omega
    · rw [if_f (fun q => g ((l_eq0 (a := a) ⟨by omega, by omega⟩).mp q))]
      have tail : ∀ b0 bx : Int, (0 < D → bx = R) → (D < 0 → bx = a) → (bd 1100 bx ∧ bd 1100 b0 ∧ b0 ≤ bx + 1) → (∀ f, isRf D R f → f.1 = a → b0 ≤ f.2.1 ∧ f.2.1 ≤ bx) →
          ∃ (N' : Nat) (gm' : Nat → FT) (Bf' Bm' Bk' : Nat → Int32) (x y z : Int64), Option.bind (f_m_list_L82 F (i6 D) mw (i6 a) F (i6 b0) (i3 N) Bf Bm Bk ma mb mc) (fun (y_mfo_35, y_Bf_36, y_Bm_37, y_Bk_38, y_ma_39, y_mb_40, y_mc_41) => bnd (i6 a + 1) (fun v3_42 => f_m_list_L50 F (i6 D) mw (i6 ax) n' v3_42 y_mfo_35 y_Bf_36 y_Bm_37 y_Bk_38 y_ma_39 y_mb_40 y_mc_41)) = some (i3 N', Bf', Bm', Bk', x, y, z) ∧ isLs D R (fun f => f.1 < ax + 1) N' gm' Bf' Bm' Bk' := by
        intro b0 bx k2 k3 k4 k5
        obtain ⟨k6, k7, k8⟩ := k4
        have k71 := k7.1; have k72 := k7.2; have k61 := k6.1; have k62 := k6.2
        obtain ⟨N1, gm1, Bf1, Bm1, Bk1, x, y, z, e1, e2⟩ := mlsL82_s F hF hO hw g ⟨by omega, by omega⟩ hap k6 k2 k3 (bx + 1 - b0).toNat b0 F N gm Bf Bm Bk ma mb mc (by omega) ⟨by omega, by omega⟩ (by omega) (ls_iff hL (fun f hf => by
          have := k5 f hf
          simp only [Pab]
          omega))
        rw [e1]
        simp only [Option.bind_some]
        rw [eN]
        refine ih (a + 1) n' N1 gm1 Bf1 Bm1 Bk1 x y z (by omega) (by omega) (fun q => by have := hap q; omega) (by omega) (ls_iff e2 (fun f hf => ?_))
        have := k5 f hf
        simp only [Pab]
        omega
      simp only [bnd]
      rcases Int.lt_or_gt_of_ne (okD_ne hO) with g0 | g0
      · rw [if_f (fun q => by have := (l_ge0 hD6).mp q; omega), i6_neg]
        exact tail (-a) a (fun q => by omega) (fun _ => rfl) ⟨⟨by omega, by omega⟩, ⟨by omega, by omega⟩, by have := hap g0; omega⟩ (fun f hf q => by
          have := hf.2.1 g0
          simp only [dred] at this
          omega)
      · rw [if_t ((l_ge0 hD6).mpr (by omega))]
        exact tail 1 R (fun _ => rfl) (fun q => by omega) ⟨⟨by omega, by have := (hO.2.1 g0).2; omega⟩, ⟨by omega, by omega⟩, by omega⟩ (fun f hf q => by
          have := hf.2.2 g0
          omega)
theorem mlist_s (F : Nat) (hF : 10000000 ≤ F) {D R : Int} (hO : okD D R) {mw : Int64} (hw : isMw D R mw) (Bf Bm Bk : Nat → Int32) (ma mb mc : Int64) :
    ∃ (N : Nat) (gm : Nat → FT) (Bf' Bm' Bk' : Nat → Int32) (x y z : Int64), f_m_list F (i6 D) mw Bf Bm Bk ma mb mc = some (i3 N, Bf', Bm', Bk', x, y, z) ∧ isLs D R (fun _ => True) N gm Bf' Bm' Bk' := by
  have hD1 := hO.1.1; have hD2 := hO.1.2.1
  have hD6 : r6 D := ⟨by omega, by omega⟩
  have hRr := okD_r hO
  unfold f_m_list
  simp only [bnd]
  have empty : ∀ a0 : Int, (∀ f, isRf D R f → ¬ f.1 < a0) → isLs D R (fun f => f.1 < a0) 0 (fun _ => (0, 0, 0)) Bf Bm Bk := fun a0 h => ⟨fun i hi => absurd hi (by omega), fun i j _ hj => absurd hj (by omega), fun f => ⟨fun hf => absurd hf.2 (h f hf.1), fun ⟨i, hi, _⟩ => absurd hi (by omega)⟩⟩
  rcases Int.lt_or_gt_of_ne (okD_ne hO) with g0 | g0
  · have nd : ¬ (0 : Int32) ≤ lg_cmp (i6 D) 0 := fun q => by have := (l_ge0 hD6).mp q; omega
    rw [if_f nd]
    obtain ⟨R3, -, hr2, hr3, hr4⟩ := rootOf_s 100 (Nat.le_refl _) (x := -D / 3) (by omega) (by omega)
    have hroot : isRoot (-D / 3) R3 := ⟨by omega, by rcases hr2 with q | q; · subst q; omega
                                                     · exact q, hr3⟩
    have e3 : -i6 D / 3 = i6 (-D / 3) := by
      rw [i6_neg]
      show i6 (-D) / i6 3 = _
      rw [(i6_div (a := -D) (b := 3) ⟨by omega, by omega⟩ ⟨by omega, by omega⟩ (by omega) (by omega)).1, Int.tdiv_eq_ediv_of_nonneg (by omega)]
    have hR3 : R3 ≤ 1100 := by
      apply Decidable.byContradiction; intro hh
      have := Int.mul_le_mul (show (1101 : Int) ≤ R3 by omega) (show (1101 : Int) ≤ R3 by omega) (by omega) (by omega)
      have := hroot.2.1
      omega
    rw [e3, mroot_s F (by omega) (by omega) (by omega) hroot]
    simp only [Option.bind_some]
    rw [if_f nd]
    obtain ⟨N, gm, Bf', Bm', Bk', x, y, z, e1, e2⟩ := mlsL50_s F hF hO hw (ax := R3) (by omega) (by omega) R3 1 F 0 _ Bf Bm Bk ma mb mc (by omega) (by omega) (by omega) (by omega) (empty 1 (fun f hf => by have := hf.1.2.2 g0; omega))
    refine ⟨N, gm, Bf', Bm', Bk', x, y, z, ?_, ls_iff e2 (fun f hf => ⟨fun _ => trivial, fun _ => ?_⟩)⟩
    · have e1' : f_m_list_L50 F (i6 D) mw (i6 (R3 : Int)) F 1 0 Bf Bm Bk ma mb mc = _ := e1
      rw [e1']; rfl
    · have h3 := (dred_rng hD1 hf.1.1 (hf.2.1 g0) (hf.1.2.2 g0)).2
      apply Decidable.byContradiction; intro hh
      have := Int.mul_le_mul (show (R3 : Int) + 1 ≤ f.1 by omega) (show (R3 : Int) + 1 ≤ f.1 by omega) (by omega) (by have := hf.1.2.2 g0; omega)
      have := hroot.2.2
      omega
  · have nd : (0 : Int32) ≤ lg_cmp (i6 D) 0 := (l_ge0 hD6).mpr (by omega)
    rw [if_t nd, if_t nd, hw g0, i6_neg]
    have hRb := (hO.2.1 g0).2
    have hw' : isMw D R (i6 R) := fun _ => rfl
    obtain ⟨N, gm, Bf', Bm', Bk', x, y, z, e1, e2⟩ := mlsL50_s F hF hO hw' (ax := R) (by omega) (by omega) (2 * R + 1).toNat (-R) F 0 _ Bf Bm Bk ma mb mc (by omega) (by omega) (by omega) (by omega) (empty (-R) (fun f hf => by have := hf.2.2 g0; omega))
    refine ⟨N, gm, Bf', Bm', Bk', x, y, z, ?_, ls_iff e2 (fun f hf => ⟨fun _ => trivial, fun _ => ?_⟩)⟩
    · have e1' : f_m_list_L50 F (i6 D) (i6 R) (i6 R) F (i6 (-R)) 0 Bf Bm Bk ma mb mc = _ := e1
      rw [e1']; rfl
    · have := hf.2.2 g0
      omega
