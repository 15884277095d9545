/-! The reference: its small parts -/
theorem msize_s (F : Nat) {a : Int} (h : r6 a) (h' : a ≠ -9223372036854775808) : f_m_size F (i6 a) = some (i6 (a.natAbs : Nat)) := by
  unfold f_m_size
  by_cases g : 0 ≤ a
  · rw [if_t ((l_ge0 h).mpr g)]; congr 2; omega
  · rw [if_f (fun q => g ((l_ge0 h).mp q)), i6_neg]; congr 2; omega
theorem mcomL_s (F : Nat) : ∀ (k x y n : Nat), y < k → x < 9223372036854775807 → y < 9223372036854775807 → k ≤ n → f_m_common_L12 F n (i6 (x : Int)) (i6 (y : Int)) = some (i6 (Nat.gcd x y : Nat)) := by
  intro k
  induction k with
  | zero => intro x y n hy; omega
  | succ k ih =>
    intro x y n hy hx hy2 hn
    obtain ⟨n', rfl⟩ : ∃ n', n = n' + 1 := ⟨n - 1, by omega⟩
    rw [f_m_common_L12]
    by_cases g : y = 0
    · subst g
      rw [if_t ((l_le0 (a := ((0 : Nat) : Int)) ⟨by decide, by decide⟩).mpr (by decide)), Nat.gcd_zero_right]
    · rw [if_f (fun q => g (by have := (l_le0 (a := (y : Int)) ⟨by omega, by omega⟩).mp q; omega))]
      have hz : ¬ i6 (y : Int) = 0 := fun q => by have := (d_eq0 (a := (y : Int)) ⟨by omega, by omega⟩).mp q; omega
      have hr : i6 (x : Int) - i6 (x : Int) / i6 (y : Int) * i6 (y : Int) = i6 ((x % y : Nat) : Int) := by
        rw [i6_rem ⟨by omega, by omega⟩ ⟨by omega, by omega⟩ (by omega) (by omega), ← Int.ofNat_tmod]
      have hlt := Nat.mod_lt x (show 0 < y by omega)
      rw [if_t hz, hr]
      show f_m_common_L12 F n' (i6 (y : Int)) (i6 ((x % y : Nat) : Int)) = _
      rw [ih y (x % y) n' (by omega) (by omega) (by omega) (by omega)]
      congr 2
      rw [Nat.gcd_comm y, ← Nat.gcd_rec, Nat.gcd_comm]
theorem mcom_s (F : Nat) {a b : Int} (ha : r6 a) (hb : r6 b) (ha' : -9223372036854775807 < a ∧ a < 9223372036854775807) (hb' : -9223372036854775807 < b ∧ b < 9223372036854775807) (hF : b.natAbs < F) : f_m_common F (i6 a) (i6 b) = some (i6 (Int.gcd a b : Nat)) := by
  unfold f_m_common
  rw [msize_s F ha (by omega)]
  simp only [Option.bind_some]
  rw [msize_s F hb (by omega)]
  simp only [Option.bind_some]
  rw [mcomL_s F (b.natAbs + 1) a.natAbs b.natAbs F (by omega) (by omega) (by omega) (by omega)]
  rfl
theorem mrootL_s (F : Nat) {x : Int} (hx0 : 0 ≤ x) (hx : x ≤ 1048576) {R : Nat} (hR : isRoot x R) : ∀ (d r n : Nat), r + d = R → d + 1 ≤ n → f_m_root_L2 F (i6 x) n (i6 (r : Int)) = some (i6 (R : Int)) := by
  obtain ⟨h0, h1, h2⟩ := hR
  have hRb : R ≤ 1024 := by
    apply Decidable.byContradiction; intro hh
    have := Int.mul_le_mul (show (1025 : Int) ≤ R by omega) (show (1025 : Int) ≤ R by omega) (by omega) (by omega)
    omega
  intro d
  induction d with
  | zero =>
    intro r n hr hn
    obtain ⟨n', rfl⟩ : ∃ n', n = n' + 1 := ⟨n - 1, by omega⟩
    have : r = R := by omega
    subst this
    rw [f_m_root_L2]
    have e1 : (i6 (r : Int) + 1) * (i6 (r : Int) + 1) = i6 (((r : Int) + 1) * ((r : Int) + 1)) := by
      show (i6 (r : Int) + i6 1) * (i6 (r : Int) + i6 1) = _
      rw [i6_add, i6_mul]
    have hb := sq_r (a := (r : Int) + 1) (M := 1025) (by omega) (by omega)
    rw [e1, if_t ((lc_gt ⟨by omega, by omega⟩ ⟨by omega, by omega⟩).mpr h2)]
  | succ d ih =>
    intro r n hr hn
    obtain ⟨n', rfl⟩ : ∃ n', n = n' + 1 := ⟨n - 1, by omega⟩
    rw [f_m_root_L2]
    have e1 : (i6 (r : Int) + 1) * (i6 (r : Int) + 1) = i6 (((r : Int) + 1) * ((r : Int) + 1)) := by
      show (i6 (r : Int) + i6 1) * (i6 (r : Int) + i6 1) = _
      rw [i6_add, i6_mul]
    have hb := sq_r (a := (r : Int) + 1) (M := 1025) (by omega) (by omega)
    have hle : ((r : Int) + 1) * ((r : Int) + 1) ≤ (R : Int) * R := Int.mul_le_mul (by omega) (by omega) (by omega) (by omega)
    rw [e1, if_f (fun q => by have := (lc_gt ⟨by omega, by omega⟩ ⟨by omega, by omega⟩).mp q; omega)]
    have e2 : i6 (r : Int) + 1 = i6 ((r + 1 : Nat) : Int) := by
      show i6 (r : Int) + i6 1 = _
      rw [i6_add]; rfl
    rw [e2]
    exact ih (r + 1) n' (by omega) (by omega)
theorem mroot_s (F : Nat) (hF : 2000 ≤ F) {x : Int} (hx0 : 0 ≤ x) (hx : x ≤ 1048576) {R : Nat} (hR : isRoot x R) : f_m_root F (i6 x) = some (i6 (R : Int)) := by
  have hRb : R ≤ 1024 := by
    apply Decidable.byContradiction; intro hh
    have := Int.mul_le_mul (show (1025 : Int) ≤ R by omega) (show (1025 : Int) ≤ R by omega) (by omega) (by omega)
    have := hR.2.1
    omega
  unfold f_m_root
  have := mrootL_s F hx0 hx hR R 0 F (by omega) (by omega)
  have e : f_m_root_L2 F (i6 x) F 0 = _ := this
  rw [e]; rfl
theorem mbe_s (F : Nat) {D a b c : Int} (hD : bd 1048576 D) (ha : bd 4294967296 a) (ha0 : a ≠ 0) (hb : bd 2147483648 b) (h : b * b - D = 4 * a * c) : f_m_be F (i6 D) (i6 a) (i6 b) = some (i6 a, i6 b, i6 c) := by
  have hb1 := hb.1; have hb2 := hb.2; have ha1 := ha.1; have ha2 := ha.2; have hD1 := hD.1; have hD2 := hD.2
  unfold f_m_be
  have hbb := mul_bd hb hb (by omega) (by omega)
  have := hbb.1; have := hbb.2
  have n4 : ¬ i6 (4 * a) = 0 := fun q => by have := (d_eq0 (a := 4 * a) ⟨by omega, by omega⟩).mp q; omega
  rw [c4_s, i6_mul, if_t n4, i6_mul, i6_sub, h]
  have hq : r6 (4 * a * c) := by rw [← h]; exact ⟨by omega, by omega⟩
  rw [(i6_div (a := 4 * a * c) (b := 4 * a) hq ⟨by omega, by omega⟩ (by omega) (by omega)).1, Int.mul_tdiv_cancel_left _ (show 4 * a ≠ 0 by omega)]
/-- what the reference holds in the place of the root -/
def isMw (D R : Int) (mw : Int64) : Prop := 0 < D → mw = i6 R
theorem misRed_s (F : Nat) {D R : Int} (hO : okD D R) {mw : Int64} (hw : isMw D R mw) {f : FT} (hB : Bd f) : (redI D R f → f_m_isRed F (i6 D) mw (i6 f.1) (i6 f.2.1) (i6 f.2.2) = some 1) ∧ (¬ redI D R f → f_m_isRed F (i6 D) mw (i6 f.1) (i6 f.2.1) (i6 f.2.2) = some 0) := by
  obtain ⟨a, b, c⟩ := f
  obtain ⟨ba, bb, bc⟩ := hB
  simp only at ba bb bc
  have := ba.1; have := ba.2; have := bb.1; have := bb.2; have := bc.1; have := bc.2
  have hD1 := hO.1.1; have hD2 := hO.1.2.1
  have hRr := okD_r hO
  have hD6 : r6 D := ⟨by omega, by omega⟩
  unfold f_m_isRed
  simp only [redI]
  rcases Int.lt_or_gt_of_ne (okD_ne hO) with g0 | g0
  · have nd : ¬ (0 : Int32) ≤ lg_cmp (i6 D) 0 := fun q => by have := (l_ge0 hD6).mp q; omega
    rw [if_f nd, msize_s F (a := b) ⟨by omega, by omega⟩ (by omega)]
    simp only [Option.bind_some, dred]
    have e1 : (0 : Int32) < lg_cmp (i6 (b.natAbs : Nat)) (i6 a) ↔ a < b.natAbs := lc_gt ⟨by omega, by omega⟩ ⟨by omega, by omega⟩
    have e2 : (0 : Int32) < lg_cmp (i6 a) (i6 c) ↔ c < a := lc_gt ⟨by omega, by omega⟩ ⟨by omega, by omega⟩
    have e3 : (0 : Int32) ≤ lg_cmp (i6 b) 0 ↔ 0 ≤ b := l_ge0 ⟨by omega, by omega⟩
    have e4 : (0 : Int32) ≤ lg_cmp (-i6 b) (i6 a) ↔ a ≤ -b := by rw [i6_neg]; exact lc_ge ⟨by omega, by omega⟩ ⟨by omega, by omega⟩
    have e5 : (0 : Int32) ≤ lg_cmp (i6 a) (i6 c) ↔ c ≤ a := lc_ge ⟨by omega, by omega⟩ ⟨by omega, by omega⟩
    simp only [e1, e2, e3, e4, e5]
    constructor
    · intro h
      have h1 := h.1 g0
      rw [if_f (by omega), if_f (by omega)]
      by_cases q : 0 ≤ b
      · rw [if_t q]
      · rw [if_f q, if_f (by omega), if_f (by omega)]
    · intro h
      have h1 : ¬ (-a ≤ b ∧ b ≤ a ∧ a ≤ c ∧ (0 ≤ b ∨ (-b < a ∧ a < c))) := fun hh => h ⟨fun _ => hh, fun q => by omega⟩
      by_cases q1 : a < b.natAbs
      · rw [if_t q1]
      · rw [if_f q1]
        by_cases q2 : c < a
        · rw [if_t q2]
        · rw [if_f q2, if_f (by omega)]
          by_cases q4 : a ≤ -b
          · rw [if_t q4]
          · rw [if_f q4, if_t (by omega)]
  · have nd : (0 : Int32) ≤ lg_cmp (i6 D) 0 := (l_ge0 hD6).mpr (by omega)
    rw [if_t nd, hw g0, msize_s F (a := a) ⟨by omega, by omega⟩ (by omega)]
    simp only [Option.bind_some]
    have e1 : lg_cmp (i6 b) 1 < 0 ↔ b < 1 := lc_lt (b := 1) ⟨by omega, by omega⟩ ⟨by decide, by decide⟩
    have e2 : (0 : Int32) < lg_cmp (i6 b) (i6 R) ↔ R < b := lc_gt ⟨by omega, by omega⟩ ⟨by omega, by omega⟩
    have e3 : lg_cmp (2 * i6 (a.natAbs : Nat) + i6 b) (i6 R) ≤ 0 ↔ 2 * (a.natAbs : Int) + b ≤ R := by rw [c2_s, i6_mul, i6_add]; exact lc_le ⟨by omega, by omega⟩ ⟨by omega, by omega⟩
    have e4 : (0 : Int32) < lg_cmp (2 * i6 (a.natAbs : Nat) - i6 b) (i6 R) ↔ R < 2 * (a.natAbs : Int) - b := by rw [c2_s, i6_mul, i6_sub]; exact lc_gt ⟨by omega, by omega⟩ ⟨by omega, by omega⟩
    simp only [e1, e2, e3, e4]
    constructor
    · intro h
      have h1 := h.2 g0
      rw [if_f (by omega), if_f (by omega), if_f (by omega), if_f (by omega)]
    · intro h
      have h1 : ¬ (0 < b ∧ b ≤ R ∧ R < 2 * (a.natAbs : Int) + b ∧ 2 * (a.natAbs : Int) - b ≤ R) := fun hh => h ⟨fun q => by omega, fun _ => hh⟩
      by_cases q1 : b < 1
      · rw [if_t q1]
      · rw [if_f q1]
        by_cases q2 : R < b
        · rw [if_t q2]
        · rw [if_f q2]
          by_cases q3 : 2 * (a.natAbs : Int) + b ≤ R
          · rw [if_t q3]
          · rw [if_f q3, if_t (by omega)]
theorem mstep_s (F : Nat) {D R : Int} (hO : okD D R) {mw : Int64} (hw : isMw D R mw) {f : FT} (hB : Bd f) (hd : fdisc f = D) : f_m_step F (i6 D) mw (i6 f.1) (i6 f.2.1) (i6 f.2.2) = some (i6 (stI D R f).1, i6 (stI D R f).2.1, i6 (stI D R f).2.2) := by
  have hns := hO.1.2.2.2
  have hc0 := c_ne hns hd
  obtain ⟨a, b, c⟩ := f
  obtain ⟨ba, bb, bc⟩ := hB
  simp only at ba bb bc hc0
  have := ba.1; have := ba.2; have := bb.1; have := bb.2; have := bc.1; have := bc.2
  have hD1 := hO.1.1; have hD2 := hO.1.2.1
  have hRr := okD_r hO
  have hD6 : r6 D := ⟨by omega, by omega⟩
  -- from the top on
  have tail : ∀ T : Int, T = ftop D R c → 0 ≤ T → T ≤ 2147483648 → (c.natAbs : Int) ≤ T → (if ¬ i6 (2 * (c.natAbs : Int)) = 0 then bnd ((i6 T + i6 b) - (i6 T + i6 b) / i6 (2 * (c.natAbs : Int)) * i6 (2 * (c.natAbs : Int))) (fun v5_4 => bnd (fun (j5_5 : Int64) => (Option.bind (f_m_be F (i6 D) (i6 c) (i6 T - j5_5)) (fun (u_ma_6, u_mb_7, u_mc_8) => some (u_ma_6, u_mb_7, u_mc_8)) : Option (Int64 × Int64 × Int64))) (fun kJ74 => (if (0 : Int32) ≤ (lg_cmp v5_4 0) then kJ74 v5_4 else bnd (v5_4 + i6 (2 * (c.natAbs : Int))) (fun v5_9 => kJ74 v5_9)))) else none) = some (i6 (stI D R (a, b, c)).1, i6 (stI D R (a, b, c)).2.1, i6 (stI D R (a, b, c)).2.2) := by
    intro T hT hT0 hT1 hTc
    have nz : ¬ i6 (2 * (c.natAbs : Int)) = 0 := fun q => by have := (d_eq0 (a := 2 * (c.natAbs : Int)) ⟨by omega, by omega⟩).mp q; omega
    have hmp := tmod_pos (a := T + b) (b := 2 * (c.natAbs : Int)) (by omega)
    have hm1 := Int.emod_nonneg (T + b) (show (2 * (c.natAbs : Int)) ≠ 0 by omega)
    have hm2 := Int.emod_lt_of_pos (T + b) (show 0 < (2 * (c.natAbs : Int)) by omega)
    rw [if_t nz, i6_add, i6_rem (a := T + b) (b := 2 * (c.natAbs : Int)) ⟨by omega, by omega⟩ ⟨by omega, by omega⟩ (by omega) (by omega)]
    have fin : Option.bind (f_m_be F (i6 D) (i6 c) (i6 T - i6 ((T + b) % (2 * (c.natAbs : Int))))) (fun (u_ma_6, u_mb_7, u_mc_8) => some (u_ma_6, u_mb_7, u_mc_8)) = some (i6 (stI D R (a, b, c)).1, i6 (stI D R (a, b, c)).2.1, i6 (stI D R (a, b, c)).2.2) := by
      have hb' := rho_b (T := T) (a := a) (b := b) hc0
      have hc' := rho_c (T := T) hd
      rw [i6_sub, ← hb']
      have h1 := mbe_s F (D := D) (a := c) (b := (rho T (a, b, c)).2.1) (c := (rho T (a, b, c)).2.2) ⟨by omega, by omega⟩ ⟨by omega, by omega⟩ hc0 (by rw [hb']; exact ⟨by omega, by omega⟩) hc'
      rw [h1]
      simp only [Option.bind_some]
      simp only [stI]
      rw [← hT]
      rfl
    show (if (0 : Int32) ≤ lg_cmp (i6 ((T + b).tmod (2 * (c.natAbs : Int)))) 0 then Option.bind (f_m_be F (i6 D) (i6 c) (i6 T - i6 ((T + b).tmod (2 * (c.natAbs : Int))))) (fun (u_ma_6, u_mb_7, u_mc_8) => some (u_ma_6, u_mb_7, u_mc_8)) else Option.bind (f_m_be F (i6 D) (i6 c) (i6 T - (i6 ((T + b).tmod (2 * (c.natAbs : Int))) + i6 (2 * (c.natAbs : Int))))) (fun (u_ma_6, u_mb_7, u_mc_8) => some (u_ma_6, u_mb_7, u_mc_8))) = _
    by_cases g : 0 ≤ (T + b).tmod (2 * (c.natAbs : Int))
    · rw [if_t ((l_ge0 ⟨by omega, by omega⟩).mpr g)]
      have : (T + b).tmod (2 * (c.natAbs : Int)) = (T + b) % (2 * (c.natAbs : Int)) := by
        by_cases g2 : 0 ≤ T + b
        · exact hmp.1 g2
        · by_cases g3 : (T + b).tmod (2 * (c.natAbs : Int)) = 0
          · rw [g3, hmp.2.1 (by omega) g3]
          · have := hmp.2.2.1 (by omega) g3; omega
      rw [this]; exact fin
    · rw [if_f (fun q => g ((l_ge0 ⟨by omega, by omega⟩).mp q)), i6_add]
      have g2 : ¬ 0 ≤ T + b := fun q => by
        have := hmp.1 q
        omega
      rw [hmp.2.2.1 (by omega) (by omega)]; exact fin
  unfold f_m_step
  rw [msize_s F (a := c) ⟨by omega, by omega⟩ (by omega)]
  simp only [Option.bind_some]
  rw [c2_s, i6_mul]
  rcases Int.lt_or_gt_of_ne (okD_ne hO) with g0 | g0
  · show (if lg_cmp (i6 D) 0 < 0 then _ else _) = _
    rw [if_t ((l_lt0 hD6).mpr g0)]
    exact tail _ (if_neg (by omega)).symm (by omega) (by omega) (by omega)
  · show (if lg_cmp (i6 D) 0 < 0 then _ else _) = _
    rw [if_f (fun q => by have := (l_lt0 hD6).mp q; omega), hw g0]
    by_cases g2 : (c.natAbs : Int) ≤ R
    · rw [if_t ((lc_le ⟨by omega, by omega⟩ ⟨by omega, by omega⟩).mpr g2)]
      exact tail _ (if_pos ⟨g0, g2⟩).symm (by omega) (by omega) (by omega)
    · rw [if_f (fun q => g2 ((lc_le ⟨by omega, by omega⟩ ⟨by omega, by omega⟩).mp q))]
      exact tail _ (if_neg (by omega)).symm (by omega) (by omega) (by omega)
/-- reduction, as the reference does it -/
theorem mredL_s (F : Nat) {D R : Int} (hO : okD D R) {mw : Int64} (hw : isMw D R mw) : ∀ (m : Nat) (f : FT) (n : Nat), okF D f → Bd f → redI D R (itr (stI D R) m f) → (∀ i, i < m → ¬ redI D R (itr (stI D R) i f)) → m + 1 ≤ n →
    f_m_found_L0 F (i6 D) mw n (i6 f.1) (i6 f.2.1) (i6 f.2.2) = some (i6 (itr (stI D R) m f).1, i6 (itr (stI D R) m f).2.1, i6 (itr (stI D R) m f).2.2) := by
  intro m
  induction m with
  | zero =>
    intro f n hF hB hr _ hn
    obtain ⟨n', rfl⟩ : ∃ n', n = n' + 1 := ⟨n - 1, by omega⟩
    have h0 : redI D R f := hr
    rw [f_m_found_L0, (misRed_s F hO hw hB).1 h0]
    rfl
  | succ m ih =>
    intro f n hF hB hr hno hn
    obtain ⟨n', rfl⟩ : ∃ n', n = n' + 1 := ⟨n - 1, by omega⟩
    have h0 : ¬ redI D R f := hno 0 (by omega)
    rw [f_m_found_L0, (misRed_s F hO hw hB).2 h0]
    simp only [Option.bind_some]
    rw [if_t trivial, mstep_s F hO hw hB hF.1]
    simp only [Option.bind_some]
    have hs := stI_ok hO hF hB
    have e : ∀ i, itr (stI D R) (i + 1) f = itr (stI D R) i (stI D R f) := fun i => by rw [show i + 1 = 1 + i by omega, itr_add]; rfl
    rw [e m] at hr ⊢
    exact ih (stI D R f) n' hs.1 hs.2 hr (fun i hi => by rw [← e i]; exact hno (i + 1) (by omega)) (by omega)
