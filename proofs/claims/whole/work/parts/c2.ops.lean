/-! Call by call: take, power -/
theorem i6_and1 {n : Nat} (h : n < 9223372036854775808) : i6 (n : Int) &&& 1 = i6 ((n % 2 : Nat) : Int) := by
  apply Int64.toBitVec_inj.mp
  rw [Int64.toBitVec_and, Int64.toBitVec_ofInt, Int64.toBitVec_ofInt]
  apply BitVec.eq_of_toNat_eq
  rw [BitVec.toNat_and, BitVec.toNat_ofInt, BitVec.toNat_ofInt]
  have e1 : ((n : Int) % ((2 ^ 64 : Nat) : Int)).toNat = n := by omega
  have e2 : (((n % 2 : Nat) : Int) % ((2 ^ 64 : Nat) : Int)).toNat = n % 2 := by omega
  rw [e1, e2]
  show n &&& 1 = n % 2
  exact Nat.and_one_is_mod n
theorem i6_sh (x : Int64) : (x >>> (1 : Int64)).toInt = x.toInt >>> 1 := by
  have h : x >>> (1 : Int64) = Int64.ofBitVec (x.toBitVec.sshiftRight 1) := by
    apply Int64.toBitVec_inj.mp
    rw [Int64.toBitVec_shiftRight]
    rfl
  rw [h]
  show (x.toBitVec.sshiftRight 1).toInt = x.toBitVec.toInt >>> 1
  rw [BitVec.toInt_sshiftRight]
theorem i6_shr1 {n : Nat} (h : n < 9223372036854775808) : i6 (n : Int) >>> ((1 : Int32).toInt64 &&& 63) = i6 ((n / 2 : Nat) : Int) := by
  show i6 (n : Int) >>> (1 : Int64) = _
  apply Int64.toInt_inj.mp
  rw [i6_sh, i6_t ⟨by omega, by omega⟩, i6_t ⟨by omega, by omega⟩]
  rw [Int.shiftRight_eq_div_pow]; omega
section Op3
variable {F : Nat} {D : Int} {R cl rf pr N : Nat} {fm gm : Nat → FT} {mul : Fin cl → Fin cl → Fin cl} {e : Fin cl} {inv : Fin cl → Fin cl} {od : Fin cl → Nat} {gk go gc : Int32} {An Ag As Ao Ac : Nat → Int32} {mw : Int64} {mgn : Int32} {Bf Bm Bk Bn Bo Bx Bg : Nat → Int32}
theorem cmp_cls (hO : okD D R) (hN : isNF D R An cl fm) (hG : GG D cl fm mul e inv) {f g h : FT} (hf : okF D f) (hg : okF D g) {i j : Fin cl} (ci : fm_eqv f.1 f.2.1 f.2.2 (fm i.val).1 (fm i.val).2.1 (fm i.val).2.2) (cj : fm_eqv g.1 g.2.1 g.2.2 (fm j.val).1 (fm j.val).2.1 (fm j.val).2.2) (hc : cmpl D f g h) : fm_eqv h.1 h.2.1 h.2.2 (fm (mul i j).val).1 (fm (mul i j).val).2.1 (fm (mul i j).val).2.2 := by
  obtain ⟨-, h', k1, k2, k3⟩ := hG.2.1 i j
  exact fm_trans (cmpl_wd hO hf hg (hN.2.1 i.val i.isLt).1.1 (hN.2.1 j.val j.isLt).1.1 hc k2 ci cj) k3
theorem pwL_s (hF : 1000000 ≤ F) (hO : okD D R) (hN : isNF D R An cl fm) (hG : GG D cl fm mul e inv) : ∀ (k left n : Nat) (o t : FT) (x y : Fin cl) (zg z1 z2 : Int64), left < 2 ^ k → left < 9223372036854775808 → k + 1 ≤ n → isRf D R o → okF D t → bd 1023 t.1 → bd 1023 t.2.1 → fm_eqv o.1 o.2.1 o.2.2 (fm x.val).1 (fm x.val).2.1 (fm x.val).2.2 → fm_eqv t.1 t.2.1 t.2.2 (fm y.val).1 (fm y.val).2.1 (fm y.val).2.2 →
    ∃ (o' : FT) (y1 y2 y3 y4 y5 y6 : Int64), f_p_power_L78 F (i3 D) (i3 (R : Int)) n (i6 (left : Int)) (i6 o.1) (i6 o.2.1) (i6 o.2.2) (i6 t.1) (i6 t.2.1) (i6 t.2.2) zg z1 z2 = some (i6 o'.1, i6 o'.2.1, i6 o'.2.2, y1, y2, y3, y4, y5, y6) ∧ isRf D R o' ∧ fm_eqv o'.1 o'.2.1 o'.2.2 (fm (mul x (gp mul e y left)).val).1 (fm (mul x (gp mul e y left)).val).2.1 (fm (mul x (gp mul e y left)).val).2.2 := by
  have G := hG.1
  intro k
  induction k with
  | zero =>
    intro left n o t x y zg z1 z2 hl hl2 hn ho ht bt1 bt2 cx cy
    obtain ⟨n', rfl⟩ : ∃ n', n = n' + 1 := ⟨n - 1, by omega⟩
    have : left = 0 := by omega
    subst this
    refine ⟨o, i6 t.1, i6 t.2.1, i6 t.2.2, zg, z1, z2, ?_, ho, ?_⟩
    · rw [f_p_power_L78, if_t ((l_le0 (a := ((0 : Nat) : Int)) ⟨by decide, by decide⟩).mpr (by decide))]
    · show fm_eqv o.1 o.2.1 o.2.2 (fm (mul x e).val).1 (fm (mul x e).val).2.1 (fm (mul x e).val).2.2
      rw [G.2.2.1]; exact cx
  | succ k ih =>
    intro left n o t x y zg z1 z2 hl hl2 hn ho ht bt1 bt2 cx cy
    obtain ⟨n', rfl⟩ : ∃ n', n = n' + 1 := ⟨n - 1, by omega⟩
    by_cases h0 : left = 0
    · subst h0
      refine ⟨o, i6 t.1, i6 t.2.1, i6 t.2.2, zg, z1, z2, ?_, ho, ?_⟩
      · rw [f_p_power_L78, if_t ((l_le0 (a := ((0 : Nat) : Int)) ⟨by decide, by decide⟩).mpr (by decide))]
      · show fm_eqv o.1 o.2.1 o.2.2 (fm (mul x e).val).1 (fm (mul x e).val).2.1 (fm (mul x e).val).2.2
        rw [G.2.2.1]; exact cx
    · rw [Nat.pow_succ] at hl
      -- two times two, then on
      have tail : ∀ (o1 : FT) (x1 : Fin cl) (zg z1 z2 : Int64), isRf D R o1 → fm_eqv o1.1 o1.2.1 o1.2.2 (fm x1.val).1 (fm x1.val).2.1 (fm x1.val).2.2 → mul x1 (gp mul e (mul y y) (left / 2)) = mul x (gp mul e y left) →
          ∃ (o' : FT) (y1 y2 y3 y4 y5 y6 : Int64), (Option.bind (f_composeS F (i3 D) (i6 t.1) (i6 t.2.1) (i6 t.2.2) zg z1 z2) (fun (u_a1_28, u_b1_29, u_c1_30, u_zg_31, u_z1_32, u_z2_33) => Option.bind (f_reduce F (i3 D) (i3 (R : Int)) u_a1_28 u_b1_29 u_c1_30) (fun (u_a1_34, u_b1_35, u_c1_36) => bnd (i6 (left : Int) >>> ((1 : Int32).toInt64 &&& 63)) (fun v3_37 => f_p_power_L78 F (i3 D) (i3 (R : Int)) n' v3_37 (i6 o1.1) (i6 o1.2.1) (i6 o1.2.2) u_a1_34 u_b1_35 u_c1_36 u_zg_31 u_z1_32 u_z2_33)))) = some (i6 o'.1, i6 o'.2.1, i6 o'.2.2, y1, y2, y3, y4, y5, y6) ∧ isRf D R o' ∧ fm_eqv o'.1 o'.2.1 o'.2.2 (fm (mul x (gp mul e y left)).val).1 (fm (mul x (gp mul e y left)).val).2.1 (fm (mul x (gp mul e y left)).val).2.2 := by
        intro o1 x1 zg z1 z2 ho1 cx1 heq
        obtain ⟨h, u1, u2, u3, k1, k2, k3, k4⟩ := compose_s F hF hO ht ht bt1 bt2 bt1 bt2 zg z1 z2
        obtain ⟨g, g1, g2, g3, g4, g5⟩ := reduce_s F hF hO k2 k3
        have hgrf : isRf D R g := ⟨g2, g4⟩
        have hgb := rf_bd hO hgrf
        have k1' : f_composeS F (i3 D) (i6 t.1) (i6 t.2.1) (i6 t.2.2) zg z1 z2 = some (i6 h.1, i6 h.2.1, i6 h.2.2, u1, u2, u3) := k1
        rw [k1']
        simp only [Option.bind_some]
        rw [g1]
        simp only [Option.bind_some, bnd]
        rw [i6_shr1 hl2]
        have := ih (left / 2) n' o1 g x1 (mul y y) u1 u2 u3 (by omega) (by omega) (by omega) ho1 g2 hgb.1 hgb.2.1 cx1 (fm_trans (fm_symm g5) (cmp_cls hO hN hG ht ht cy cy k4))
        rw [heq] at this
        exact this
      have e2 : mul y y = gp mul e y 2 := by
        show mul y y = mul (mul e y) y
        rw [g_one G]
      rw [f_p_power_L78, if_f (fun q => by have := (l_le0 (a := (left : Int)) ⟨by omega, by omega⟩).mp q; omega)]
      simp only [bnd]
      rw [i6_and1 hl2]
      have hc : lg_cmp (i6 ((left % 2 : Nat) : Int)) 1 = 0 ↔ ((left % 2 : Nat) : Int) = 1 := lc_eq (b := 1) ⟨by omega, by omega⟩ ⟨by decide, by decide⟩
      by_cases c : left % 2 = 1
      · rw [if_t (hc.mpr (by omega))]
        obtain ⟨bo1, bo2, -⟩ := rf_bd hO ho
        obtain ⟨h, u1, u2, u3, k1, k2, k3, k4⟩ := compose_s F hF hO ho.1 ht bo1 bo2 bt1 bt2 zg z1 z2
        obtain ⟨g, g1, g2, g3, g4, g5⟩ := reduce_s F hF hO k2 k3
        rw [k1]
        simp only [Option.bind_some]
        rw [g1]
        simp only [Option.bind_some]
        refine tail g (mul x y) u1 u2 u3 ⟨g2, g4⟩ (fm_trans (fm_symm g5) (cmp_cls hO hN hG ho.1 ht cx cy k4)) ?_
        rw [e2, ← gp_mul G, G.1]
        congr 1
        have : gp mul e y left = gp mul e y (1 + 2 * (left / 2)) := by congr 1; omega
        rw [this, gp_add G, gp_one G]
      · rw [if_f (fun q => c (by have := hc.mp q; omega))]
        refine tail o x zg z1 z2 ho cx ?_
        rw [e2, ← gp_mul G]
        congr 2; omega
theorem op_power (hF : 10000000 ≤ F) (hC : CS D R cl rf pr fm mul e inv od gk go gc An Ag As Ao Ac) (hR : RS D R cl N fm gm mul e od mw mgn Bf Bm Bk Bn Bo Bx Bg) (x1 x2 : Int32) (Lv : Nat → Int64) (a1 b1 c1 a2 b2 c2 zg z1 z2 ma mb mc : Int64) :
    ∃ (t v : Int32) (y1 y2 y3 y4 y5 y6 y7 y8 y9 : Int64) (Lv' : Nat → Int64) (m1 m2 m3 : Int64), f_h_power F (i3 D) (i3 (R : Int)) (i3 (cl : Int)) (i3 (pr : Int)) An a1 b1 c1 a2 b2 c2 zg z1 z2 Lv x1 x2 = some (t, y1, y2, y3, y4, y5, y6, y7, y8, y9, Lv') ∧ f_m_power F (i6 D) mw (i3 (N : Int)) Bf Bm Bk Bn (i3 (cl : Int)) (i3 (pr : Int)) Bo ma mb mc x1 x2 = some (v, t, m1, m2, m3) ∧ (t = 0 → Lv' (0 : Int32).toNatClampNeg = v.toInt64) := by
  obtain ⟨hH, hG, he, hod, -⟩ := hC
  obtain ⟨hw, hT, hg, hBo, -⟩ := hR
  have hO := hH.1
  have hN := hH.2.1
  have hcl := hH.2.1.1
  obtain ⟨z, hz, rfl⟩ : ∃ z : Int, r3 z ∧ x1 = i3 z := ⟨_, (i3_of x1).2, (i3_of x1).1⟩
  obtain ⟨n, hn, rfl⟩ : ∃ z : Int, r3 z ∧ x2 = i3 z := ⟨_, (i3_of x2).2, (i3_of x2).1⟩
  have n1 := hn.1; have n2 := hn.2
  by_cases hk : 0 ≤ z ∧ z < cl
  · obtain ⟨k, rfl⟩ : ∃ k : Nat, z = k := ⟨z.toNat, by omega⟩
    have hkl : k < cl := by omega
    obtain ⟨hM, hV⟩ := mt_of F hF hO hN hG hw hT hg
    obtain ⟨m1, m2, m3, r1⟩ := mraised_s hM hV hG.1 hod hcl hF hBo ⟨k, hkl⟩ hn ma mb mc
    rw [he] at r1
    have r1' : f_m_raised F (i6 D) mw (i3 (N : Int)) Bf Bm Bk Bn Bo (i3 (pr : Int)) ma mb mc (i3 (k : Int)) (i3 n) = _ := r1
    have hpl : pr < cl := by rw [← he]; exact e.isLt
    have hsp := setTo_s F hO hN hpl a1 b1 c1
    have hsk := setTo_s F hO hN hkl a2 b2 c2
    have hnp := (hN.2.1 pr hpl).1
    have hnk := (hN.2.1 k hkl).1
    obtain ⟨bk1, bk2, -, -⟩ := name_bd hO hnk
    have fin : ∀ (t : FT) (y : Fin cl), okF D t → bd 1023 t.1 → bd 1023 t.2.1 → fm_eqv t.1 t.2.1 t.2.2 (fm y.val).1 (fm y.val).2.1 (fm y.val).2.2 → ∃ (y1 y2 y3 y4 y5 y6 y7 y8 y9 : Int64), (Option.bind (f_absJ F ((i3 n).toInt64)) (fun r_11 => Option.bind (f_p_power_L78 F (i3 D) (i3 (R : Int)) F r_11 (i6 (fm pr).1) (i6 (fm pr).2.1) (i6 (fm pr).2.2) (i6 t.1) (i6 t.2.1) (i6 t.2.2) zg z1 z2) (fun (y_a1_47, y_b1_48, y_c1_49, y_a2_50, y_b2_51, y_c2_52, y_zg_53, y_z1_54, y_z2_55) => Option.bind (f_leastKey F (i3 D) (i3 (R : Int)) y_a1_47 y_b1_48 y_c1_49) (fun (r_56, u_a1_57, u_b1_58, u_c1_59) => Option.bind (f_classAt F (i3 (cl : Int)) An r_56) (fun r_60 => some (r_60, u_a1_57, u_b1_58, u_c1_59, y_a2_50, y_b2_51, y_c2_52, y_zg_53, y_z1_54, y_z2_55)))))) = some (i3 (gp mul e y n.natAbs).val, y1, y2, y3, y4, y5, y6, y7, y8, y9) := by
      intro t y ht bt1 bt2 cy
      rw [i36 hn, absJ_s F ⟨by omega, by omega⟩]
      simp only [Option.bind_some]
      obtain ⟨o', y4, y5, y6, y7, y8, y9, p1, p2, p3⟩ := pwL_s (F := F) (by omega) hO hN hG 62 n.natAbs F (fm pr) t e y zg z1 z2 (by omega) (by omega) (by omega) ⟨hnp.1, hnp.2.1⟩ ht bt1 bt2 (by rw [he]; exact fm_refl _ _ _) cy
      rw [p1]
      simp only [Option.bind_some]
      obtain ⟨i, hi, q1, q2⟩ := least_num F (by omega) hO hN p2.1 p2.2
      rw [g_one hG.1] at p3
      have : i = (gp mul e y n.natAbs).val := num_uni hO hN hi (gp mul e y n.natAbs).isLt (fm_trans (fm_symm q2) p3)
      rw [q1]
      simp only [Option.bind_some]
      rw [classAt_s F (by omega) hO hN hi, this]
      exact ⟨_, _, _, _, _, _, _, _, _, rfl⟩
    have hcls : ∃ (y1 y2 y3 y4 y5 y6 y7 y8 y9 : Int64), f_p_power F (i3 D) (i3 (R : Int)) (i3 (cl : Int)) (i3 (pr : Int)) An a1 b1 c1 a2 b2 c2 zg z1 z2 (i3 (k : Int)) (i3 n) = some (i3 (gp mul e (if 0 ≤ n then ⟨k, hkl⟩ else inv ⟨k, hkl⟩) n.natAbs).val, y1, y2, y3, y4, y5, y6, y7, y8, y9) := by
      unfold f_p_power
      rw [(isClass_t F hcl hz).1 hk]
      simp only [Option.bind_some]
      rw [if_f (show ¬ (1 : Int32) = 0 by decide), hsp]
      simp only [Option.bind_some]
      rw [hsk]
      simp only [Option.bind_some, bnd, f_Form_set]
      by_cases c : 0 ≤ n
      · rw [if_t ((c_le0 hn).mpr c), if_pos c]
        exact fin (fm k) ⟨k, hkl⟩ hnk.1 bk1 bk2 (fm_refl _ _ _)
      · rw [if_f (fun q => c ((c_le0 hn).mp q)), if_neg c, i6_neg]
        refine fin ((fm k).1, -(fm k).2.1, (fm k).2.2) (inv ⟨k, hkl⟩) ?_ bk1 ⟨by have := bk2.2; simp only; omega, by have := bk2.1; simp only; omega⟩ (hG.2.2.2 ⟨k, hkl⟩).2
        obtain ⟨h1, ⟨x, y, w, h2⟩, h3⟩ := hnk.1
        refine ⟨?_, ⟨x, -y, w, ?_⟩, h3⟩
        · simp only [fdisc] at h1 ⊢; rw [← h1]; grind
        · simp only; rw [← h2]; grind
    obtain ⟨y1, y2, y3, y4, y5, y6, y7, y8, y9, q1⟩ := hcls
    refine ⟨0, i3 (gp mul e (if 0 ≤ n then ⟨k, hkl⟩ else inv ⟨k, hkl⟩) n.natAbs).val, y1, y2, y3, y4, y5, y6, y7, y8, y9, vp_updL Lv (0 : Int32).toNatClampNeg _, m1, m2, m3, ?_, ?_, fun _ => updL_0 _ _⟩
    · unfold f_h_power f_hr_power
      rw [q1]
      simp only [Option.bind_some]
      rw [if_t vin01]
    · unfold f_m_power
      rw [(misClass_s F hcl hz).1 hk]
      simp only [Option.bind_some, bnd]
      rw [if_f (by decide), if_t (by decide), r1']
      rfl
  · refine ⟨1, 0, a1, b1, c1, a2, b2, c2, zg, z1, z2, Lv, ma, mb, mc, ?_, ?_, fun q => absurd q (by decide)⟩
    · unfold f_h_power f_hr_power f_hx_power f_p_power f_x_power
      rw [(isClass_t F hcl hz).2 hk]; rfl
    · unfold f_m_power
      rw [(misClass_s F hcl hz).2 hk]; rfl
end Op3
theorem mtake_s (F : Nat) (hF : 2000 ≤ F) {d : Int} (hd : r3 d) (md mw : Int64) (mfo : Int32) (Bf Bm Bk : Nat → Int32) (mmy : Int32) (Bn Bo : Nat → Int32) (mpr mgn mli : Int32) (Bi Bx Bg Bl : Nat → Int32) (ma mb mc : Int64) :
    (takeable d → ∀ r : Int64 × Int64 × Int32 × (Nat → Int32) × (Nat → Int32) × (Nat → Int32) × Int32 × (Nat → Int32) × (Nat → Int32) × Int32 × Int32 × Int32 × (Nat → Int32) × (Nat → Int32) × (Nat → Int32) × (Nat → Int32) × Int64 × Int64 × Int64, f_m_begin F Bf Bm Bk Bn Bo Bi Bx Bg Bl mli ma mb mc (i6 d) = some r → f_m_take F md mw mfo Bf Bm Bk mmy Bn Bo mpr mgn mli Bi Bx Bg Bl ma mb mc (i3 d) = some (r.2.2.2.2.2.2.1, 0, r)) ∧
    (¬ takeable d → f_m_take F md mw mfo Bf Bm Bk mmy Bn Bo mpr mgn mli Bi Bx Bg Bl ma mb mc (i3 d) = some (0, 1, md, mw, mfo, Bf, Bm, Bk, mmy, Bn, Bo, mpr, mgn, mli, Bi, Bx, Bg, Bl, ma, mb, mc)) := by
  have d1 := hd.1; have d2 := hd.2
  have n10 : ¬ (1 : Int32) = 0 := by decide
  have hrem : i3 d - i3 d / 4 * 4 = i3 (d.tmod 4) := by
    show i3 d - i3 d / i3 4 * i3 4 = _
    exact i3_rem hd ⟨by decide, by decide⟩ (by decide) (by omega)
  have htb := tmod_bd (x := d) (m := 4) (M := 4) ⟨by decide, by decide⟩ (by decide)
  have hmp := tmod_pos (a := d) (b := 4) (by decide)
  have h41 := htb.1; have h42 := htb.2
  -- the rest modulo 4
  have tail : ∀ t : Int, t = d % 4 → (takeable d → ∀ r : Int64 × Int64 × Int32 × (Nat → Int32) × (Nat → Int32) × (Nat → Int32) × Int32 × (Nat → Int32) × (Nat → Int32) × Int32 × Int32 × Int32 × (Nat → Int32) × (Nat → Int32) × (Nat → Int32) × (Nat → Int32) × Int64 × Int64 × Int64, f_m_begin F Bf Bm Bk Bn Bo Bi Bx Bg Bl mli ma mb mc (i6 d) = some r → f_m_take F md mw mfo Bf Bm Bk mmy Bn Bo mpr mgn mli Bi Bx Bg Bl ma mb mc (i3 d) = some (r.2.2.2.2.2.2.1, 0, r)) ∧ (¬ takeable d → f_m_take F md mw mfo Bf Bm Bk mmy Bn Bo mpr mgn mli Bi Bx Bg Bl ma mb mc (i3 d) = some (0, 1, md, mw, mfo, Bf, Bm, Bk, mmy, Bn, Bo, mpr, mgn, mli, Bi, Bx, Bg, Bl, ma, mb, mc)) := by
    intro t ht
    have ht0 : 0 ≤ t ∧ t < 4 := by omega
    have hin := min_s F (x := d) (lo := -1048576) (hi := 1048576) ⟨by omega, by omega⟩ ⟨by decide, by decide⟩ ⟨by decide, by decide⟩
    have e2 : (2 : Int32) ≤ i3 t ↔ 2 ≤ t := i3_le (a := 2) ⟨by decide, by decide⟩ ⟨by omega, by omega⟩
    have hsel : ∀ {α : Type} (k : Int32 → α), bnd k (fun kJ17 => if (0 : Int32) ≤ i3 (d.tmod 4) then kJ17 (i3 (d.tmod 4)) else kJ17 (i3 (d.tmod 4) + 4)) = k (i3 t) := by
      intro α k
      show (if (0 : Int32) ≤ i3 (d.tmod 4) then k (i3 (d.tmod 4)) else k (i3 (d.tmod 4) + 4)) = k (i3 t)
      by_cases c : 0 ≤ d.tmod 4
      · rw [if_t ((c_le0 ⟨by omega, by omega⟩).mpr c)]
        congr 2
        by_cases c2 : 0 ≤ d
        · rw [hmp.1 c2, ht]
        · by_cases c3 : d.tmod 4 = 0
          · rw [c3, ht, hmp.2.1 (by omega) c3]
          · have := hmp.2.2.1 (by omega) c3; omega
      · rw [if_f (fun q => c ((c_le0 ⟨by omega, by omega⟩).mp q))]
        have c2 : ¬ 0 ≤ d := fun q => by have := hmp.1 q; omega
        have := hmp.2.2.1 (by omega) (by omega)
        show k (i3 (d.tmod 4) + i3 4) = _
        rw [i3_add, this, ht]
    -- the reference's own tests
    have hq : takeable d ↔ ((-1048576 ≤ d ∧ d ≤ 1048576) ∧ ¬ 2 ≤ t ∧ (d < 0 ∨ ∀ x : Int, x * x ≠ d)) := by
      unfold takeable
      constructor
      · rintro ⟨k1, k2, k3, k4⟩
        exact ⟨⟨k1, k2⟩, by omega, Or.inr k4⟩
      · rintro ⟨⟨k1, k2⟩, k3, k4⟩
        refine ⟨k1, k2, by omega, fun x hx => ?_⟩
        rcases k4 with k4 | k4
        · have h0 : 0 ≤ x * x := by
            rcases Int.le_total 0 x with q | q
            · exact Int.mul_nonneg q q
            · exact Int.mul_nonneg_of_nonpos_of_nonpos q q
          omega
        · exact k4 x hx
    have run : ∀ (g : Int32), ((g = 0 → ¬ takeable d) ∧ (g = 1 → takeable d)) → (g = 0 ∨ g = 1) → ∀ X : Option (Int32 × Int32 × Int64 × Int64 × Int32 × (Nat → Int32) × (Nat → Int32) × (Nat → Int32) × Int32 × (Nat → Int32) × (Nat → Int32) × Int32 × Int32 × Int32 × (Nat → Int32) × (Nat → Int32) × (Nat → Int32) × (Nat → Int32) × Int64 × Int64 × Int64), X = (if g = 0 then (if g = 0 then some (0, 1, md, mw, mfo, Bf, Bm, Bk, mmy, Bn, Bo, mpr, mgn, mli, Bi, Bx, Bg, Bl, ma, mb, mc) else Option.bind (f_m_begin F Bf Bm Bk Bn Bo Bi Bx Bg Bl mli ma mb mc ((i3 d).toInt64)) (fun (u_md_5, u_mw_6, u_mfo_7, u_Bf_8, u_Bm_9, u_Bk_10, u_mmy_11, u_Bn_12, u_Bo_13, u_mpr_14, u_mgn_15, u_mli_16, u_Bi_17, u_Bx_18, u_Bg_19, u_Bl_20, u_ma_21, u_mb_22, u_mc_23) => some (u_mmy_11, (1 : Int32), u_md_5, u_mw_6, u_mfo_7, u_Bf_8, u_Bm_9, u_Bk_10, u_mmy_11, u_Bn_12, u_Bo_13, u_mpr_14, u_mgn_15, u_mli_16, u_Bi_17, u_Bx_18, u_Bg_19, u_Bl_20, u_ma_21, u_mb_22, u_mc_23))) else (if g = 0 then some (0, 0, md, mw, mfo, Bf, Bm, Bk, mmy, Bn, Bo, mpr, mgn, mli, Bi, Bx, Bg, Bl, ma, mb, mc) else Option.bind (f_m_begin F Bf Bm Bk Bn Bo Bi Bx Bg Bl mli ma mb mc ((i3 d).toInt64)) (fun (u_md_5, u_mw_6, u_mfo_7, u_Bf_8, u_Bm_9, u_Bk_10, u_mmy_11, u_Bn_12, u_Bo_13, u_mpr_14, u_mgn_15, u_mli_16, u_Bi_17, u_Bx_18, u_Bg_19, u_Bl_20, u_ma_21, u_mb_22, u_mc_23) => some (u_mmy_11, (0 : Int32), u_md_5, u_mw_6, u_mfo_7, u_Bf_8, u_Bm_9, u_Bk_10, u_mmy_11, u_Bn_12, u_Bo_13, u_mpr_14, u_mgn_15, u_mli_16, u_Bi_17, u_Bx_18, u_Bg_19, u_Bl_20, u_ma_21, u_mb_22, u_mc_23)))) → (takeable d → ∀ r : Int64 × Int64 × Int32 × (Nat → Int32) × (Nat → Int32) × (Nat → Int32) × Int32 × (Nat → Int32) × (Nat → Int32) × Int32 × Int32 × Int32 × (Nat → Int32) × (Nat → Int32) × (Nat → Int32) × (Nat → Int32) × Int64 × Int64 × Int64, f_m_begin F Bf Bm Bk Bn Bo Bi Bx Bg Bl mli ma mb mc (i6 d) = some r → X = some (r.2.2.2.2.2.2.1, 0, r)) ∧ (¬ takeable d → X = some (0, 1, md, mw, mfo, Bf, Bm, Bk, mmy, Bn, Bo, mpr, mgn, mli, Bi, Bx, Bg, Bl, ma, mb, mc)) := by
      intro g hg1 hg2 X hX
      rcases hg2 with rfl | rfl
      · rw [if_t rfl, if_t rfl] at hX
        exact ⟨fun h => absurd h (hg1.1 rfl), fun _ => hX⟩
      · rw [if_f n10, if_f n10] at hX
        refine ⟨fun _ r hr => ?_, fun h => absurd (hg1.2 rfl) h⟩
        rw [hX, i36 hd, hr]; rfl
    by_cases k1 : -1048576 ≤ d ∧ d ≤ 1048576
    · have h1 : f_m_in F ((i3 d).toInt64) (-1048576) 1048576 = some 1 := by rw [i36 hd]; exact hin.1 k1
      by_cases k2 : 2 ≤ t
      · refine run 0 ⟨fun _ h => (hq.mp h).2.1 k2, fun h => absurd h (by decide)⟩ (Or.inl rfl) _ ?_
        unfold f_m_take
        rw [hrem, hsel]
        rw [h1]
        simp only [Option.bind_some, bnd]
        rw [if_f n10, if_t (e2.mpr k2)]
      · by_cases k3 : d < 0
        · refine run 1 ⟨fun h => absurd h (by decide), fun _ => hq.mpr ⟨k1, k2, Or.inl k3⟩⟩ (Or.inr rfl) _ ?_
          unfold f_m_take
          rw [hrem, hsel]
          rw [h1]
          simp only [Option.bind_some, bnd]
          rw [if_f n10, if_f (fun q => k2 (e2.mp q)), if_t ((c_lt0 hd).mpr k3)]
        · obtain ⟨R, -, r2, r3', r4⟩ := rootOf_s 100 (Nat.le_refl _) (x := d) (by omega) k1.2
          have hle : (R : Int) * R ≤ d := by
            rcases r2 with q | q
            · subst q; simp; omega
            · exact q
          have hroot : isRoot d R := ⟨by omega, hle, r3'⟩
          have hmr := mroot_s F hF (by omega) k1.2 hroot
          have hRb : (R : Int) * R ≤ 1048576 := by have := hroot.2.1; omega
          have hR0 : 0 ≤ (R : Int) * R := Int.mul_nonneg (by omega) (by omega)
          have hcond : lg_cmp (i6 (R : Int) * i6 (R : Int)) (i6 d) = 0 ↔ (R : Int) * R = d := by rw [i6_mul]; exact lc_eq ⟨by omega, by omega⟩ ⟨by omega, by omega⟩
          by_cases k4 : (R : Int) * R = d
          · refine run 0 ⟨fun _ h => ?_, fun h => absurd h (by decide)⟩ (Or.inl rfl) _ ?_
            · rcases (hq.mp h).2.2 with q | q
              · exact k3 q
              · exact q R k4
            · unfold f_m_take
              rw [hrem, hsel]
              rw [h1, i36 hd, hmr]
              simp only [Option.bind_some, bnd]
              rw [if_f n10, if_f (fun q => k2 (e2.mp q)), if_f (fun q => k3 ((c_lt0 hd).mp q)), if_t (hcond.mpr k4)]
          · refine run 1 ⟨fun h => absurd h (by decide), fun _ => hq.mpr ⟨k1, k2, Or.inr (fun x hx => ?_)⟩⟩ (Or.inr rfl) _ ?_
            · -- a square root would be R
              have hx2 : (x.natAbs : Int) * x.natAbs = d := by
                rw [← hx]
                rcases Int.le_total 0 x with q | q
                · rw [Int.natAbs_of_nonneg q]
                · rw [Int.ofNat_natAbs_of_nonpos q, Int.neg_mul_neg]
              apply k4
              have l1 : (x.natAbs : Int) ≤ R := by
                apply Decidable.byContradiction; intro hh
                have := Int.mul_le_mul (show (R : Int) + 1 ≤ x.natAbs by omega) (show (R : Int) + 1 ≤ x.natAbs by omega) (by omega) (by omega)
                have := hroot.2.2; omega
              have l2 : (R : Int) ≤ x.natAbs := by
                apply Decidable.byContradiction; intro hh
                have := Int.mul_le_mul (show (x.natAbs : Int) + 1 ≤ R by omega) (show (x.natAbs : Int) + 1 ≤ R by omega) (by omega) (by omega)
                have e3 : ((x.natAbs : Int) + 1) * ((x.natAbs : Int) + 1) = (x.natAbs : Int) * x.natAbs + 2 * x.natAbs + 1 := by grind
                have := hroot.2.1; omega
              have : (x.natAbs : Int) = R := by omega
              rw [← this]; exact hx2
            · unfold f_m_take
              rw [hrem, hsel]
              rw [h1, i36 hd, hmr]
              simp only [Option.bind_some, bnd]
              rw [if_f n10, if_f (fun q => k2 (e2.mp q)), if_f (fun q => k3 ((c_lt0 hd).mp q)), if_f (fun q => k4 (hcond.mp q))]
    · have h1 : f_m_in F ((i3 d).toInt64) (-1048576) 1048576 = some 0 := by rw [i36 hd]; exact hin.2 k1
      refine run 0 ⟨fun _ h => k1 (hq.mp h).1, fun h => absurd h (by decide)⟩ (Or.inl rfl) _ ?_
      unfold f_m_take
      rw [hrem, hsel]
      rw [h1]
      simp only [Option.bind_some, bnd]
      rw [if_t trivial]
  exact tail (d % 4) rfl
