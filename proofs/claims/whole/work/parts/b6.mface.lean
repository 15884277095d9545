/-! The reference: what it holds when D is taken -/
theorem min_s (F : Nat) {x lo hi : Int} (hx : r6 x) (hl : r6 lo) (hh : r6 hi) : (lo ≤ x ∧ x ≤ hi → f_m_in F (i6 x) (i6 lo) (i6 hi) = some 1) ∧ (¬ (lo ≤ x ∧ x ≤ hi) → f_m_in F (i6 x) (i6 lo) (i6 hi) = some 0) := by
  unfold f_m_in
  constructor
  · intro h
    rw [if_f (fun q => by have := (lc_lt hx hl).mp q; omega), if_f (fun q => by have := (lc_gt hx hh).mp q; omega)]
  · intro h
    by_cases c : x < lo
    · rw [if_t ((lc_lt hx hl).mpr c)]
    · rw [if_f (fun q => c ((lc_lt hx hl).mp q)), if_t ((lc_gt hx hh).mpr (by omega))]
theorem misClass_s (F : Nat) {cl : Nat} (hcl : cl ≤ 1908) {z : Int} (hz : r3 z) : (0 ≤ z ∧ z < cl → f_m_isClass F (i3 (cl : Int)) (i3 z) = some 1) ∧ (¬ (0 ≤ z ∧ z < cl) → f_m_isClass F (i3 (cl : Int)) (i3 z) = some 0) := by
  have z1 := hz.1; have z2 := hz.2
  have e1 : (i3 (cl : Int) - 1).toInt64 = i6 ((cl : Int) - 1) := by
    show (i3 (cl : Int) - i3 1).toInt64 = _
    rw [i3_sub, i36 ⟨by omega, by omega⟩]
  have hm := min_s F (x := z) (lo := 0) (hi := (cl : Int) - 1) ⟨by omega, by omega⟩ ⟨by omega, by omega⟩ ⟨by omega, by omega⟩
  unfold f_m_isClass
  rw [i36 hz, e1]
  constructor
  · intro h
    have h1 : f_m_in F (i6 z) 0 (i6 ((cl : Int) - 1)) = some 1 := hm.1 (by omega)
    rw [h1]; rfl
  · intro h
    have h1 : f_m_in F (i6 z) 0 (i6 ((cl : Int) - 1)) = some 0 := hm.2 (by omega)
    rw [h1]; rfl
/-- the reference's state -/
def RS (D R : Int) (cl N : Nat) (fm gm : Nat → FT) (mul : Fin cl → Fin cl → Fin cl) (e : Fin cl) (od : Fin cl → Nat) (mw : Int64) (mgn : Int32) (Bf Bm Bk Bn Bo Bx Bg : Nat → Int32) : Prop := isMw D R mw ∧ isTb D R N gm Bf Bm ∧ isGt cl fm N gm Bk Bn ∧ (∀ x : Fin cl, Bo x.val = i3 (od x)) ∧ ∃ (gs : Nat → Fin cl) (m : Nat), mgn = i3 (m : Int) ∧ m ≤ 8 ∧ spec mul e od gs m ∧ rr od gs m = cl ∧ exs mul e od gs m cl Bx ∧ ∀ i, i < m → Bg i = i3 (gs i).val
theorem pr_uni {D R : Int} (hO : okD D R) {An : Nat → Int32} {cl : Nat} {fm : Nat → FT} (hN : isNF D R An cl fm) {i j : Nat} (hi : isPr D cl fm i) (hj : isPr D cl fm j) : i = j := by
  obtain ⟨i1, t, c, ⟨-, h1, -⟩, h2⟩ := hi
  obtain ⟨j1, t', c', ⟨-, k1, -⟩, k2⟩ := hj
  have a := fm_T 1 (sg D) (-nn D) t
  have b := fm_T 1 (sg D) (-nn D) t'
  have e1 : 1 * t * t + sg D * t + -nn D = c := by grind
  have e2 : 1 * t' * t' + sg D * t' + -nn D = c' := by grind
  rw [Int.mul_one, e1] at a
  rw [Int.mul_one, e2] at b
  exact num_uni hO hN i1 j1 (fm_trans (fm_symm h2) (fm_trans (fm_symm a) (fm_trans b k2)))
theorem mt_of (F : Nat) (hF : 10000000 ≤ F) {D R : Int} (hO : okD D R) {An : Nat → Int32} {cl : Nat} {fm : Nat → FT} (hN : isNF D R An cl fm) {mul : Fin cl → Fin cl → Fin cl} {e : Fin cl} {inv : Fin cl → Fin cl} (hG : GG D cl fm mul e inv) {mw : Int64} (hw : isMw D R mw) {N : Nat} {gm : Nat → FT} {Bf Bm Bk Bn : Nat → Int32} (hT : isTb D R N gm Bf Bm) (hg : isGt cl fm N gm Bk Bn) : MT F D mw N cl Bf Bm Bk Bn mul ∧ MV F D mw N cl Bf Bm Bk Bn inv := by
  constructor
  · intro i j
    obtain ⟨k, x, y, z, h1, h2⟩ := mtimes_s F hF hO hw hT hg hN.1 i.isLt j.isLt
    have := pd_uni hO hN i.isLt j.isLt h1 (hG.2.1 i j)
    rw [this] at h2
    exact ⟨x, y, z, h2⟩
  · intro i
    obtain ⟨k, x, y, z, h1, h2⟩ := mturned_s F hF hO hw hT hg hN.1 i.isLt
    have h3 := hG.2.2.2 i
    have : k = (inv i).val := num_uni hO hN h1.1 h3.1 (fm_trans (fm_symm h1.2) h3.2)
    rw [this] at h2
    exact ⟨x, y, z, h2⟩
theorem mbegin_s (F : Nat) (hF : 10000000 ≤ F) {D : Int} {R : Nat} {An : Nat → Int32} {cl rf pr : Nat} {fm : Nat → FT} (hH : holdsD D R An cl rf pr fm) {mul : Fin cl → Fin cl → Fin cl} {e : Fin cl} {inv : Fin cl → Fin cl} (hG : GG D cl fm mul e inv) (he : e.val = pr) {od : Fin cl → Nat} (hod : ∀ x, isOrd mul e x (od x)) (Bf Bm Bk Bn Bo Bi Bx Bg Bl : Nat → Int32) (mli : Int32) (ma mb mc : Int64) :
    ∃ (N : Nat) (gm : Nat → FT) (mw : Int64) (mgn ml : Int32) (Bf' Bm' Bk' Bn' Bo' Bi' Bx' Bg' Bl' : Nat → Int32) (x y z : Int64), f_m_begin F Bf Bm Bk Bn Bo Bi Bx Bg Bl mli ma mb mc (i6 D) = some (i6 D, mw, i3 (N : Int), Bf', Bm', Bk', i3 (cl : Int), Bn', Bo', i3 (pr : Int), mgn, ml, Bi', Bx', Bg', Bl', x, y, z) ∧ RS D R cl N fm gm mul e od mw mgn Bf' Bm' Bk' Bn' Bo' Bx' Bg' := by
  obtain ⟨hO, hN, hC, hP⟩ := hH
  have hD1 := hO.1.1; have hD2 := hO.1.2.1
  have hD6 : r6 D := ⟨by omega, by omega⟩
  obtain ⟨hD0, hss, hs01⟩ := D_sn hO
  have hcl := hN.1
  have G := hG.1
  -- from the root on
  have tail : ∀ mw : Int64, isMw D R mw → ∃ (N : Nat) (gm : Nat → FT) (mgn ml : Int32) (Bf' Bm' Bk' Bn' Bo' Bi' Bx' Bg' Bl' : Nat → Int32) (x y z : Int64), (Option.bind (f_m_list F (i6 D) mw Bf Bm Bk ma mb mc) (fun (u_mfo_2, u_Bf_3, u_Bm_4, u_Bk_5, u_ma_6, u_mb_7, u_mc_8) => Option.bind (f_m_gather F (i6 D) mw u_mfo_2 u_Bf_3 u_Bm_4 u_Bk_5 Bn u_ma_6 u_mb_7 u_mc_8) (fun (u_mmy_9, u_Bk_10, u_Bn_11, u_ma_12, u_mb_13, u_mc_14) => bnd (fun (t_15 : Int64) => (Option.bind (f_m_be F (i6 D) 1 t_15) (fun (u_ma_16, u_mb_17, u_mc_18) => Option.bind (f_m_found F (i6 D) mw u_mfo_2 u_Bf_3 u_Bm_4 u_Bk_10 u_ma_16 u_mb_17 u_mc_18) (fun (r_19, u_ma_20, u_mb_21, u_mc_22) => Option.bind (f_m_begin_L72 F u_mmy_9 F 0 Bo) (fun y_Bo_27 => Option.bind (f_m_begin_L95 F (i6 D) mw u_mfo_2 u_Bf_3 u_Bm_4 u_mmy_9 u_Bk_10 u_Bn_11 r_19 F 0 mli y_Bo_27 Bl u_ma_20 u_mb_21 u_mc_22) (fun (y_mli_43, y_Bo_44, y_Bl_45, y_ma_46, y_mb_47, y_mc_48) => Option.bind (f_m_generate F (i6 D) mw u_mfo_2 u_Bf_3 u_Bm_4 u_Bk_10 u_Bn_11 u_mmy_9 r_19 y_Bo_44 Bi Bx Bg y_Bl_45 y_ma_46 y_mb_47 y_mc_48) (fun (u_mgn_49, u_mli_50, u_Bi_51, u_Bx_52, u_Bg_53, u_Bl_54, u_ma_55, u_mb_56, u_mc_57) => some (i6 D, mw, u_mfo_2, u_Bf_3, u_Bm_4, u_Bk_10, u_mmy_9, u_Bn_11, y_Bo_44, r_19, u_mgn_49, u_mli_50, u_Bi_51, u_Bx_52, u_Bg_53, u_Bl_54, u_ma_55, u_mb_56, u_mc_57)))))) : Option (Int64 × Int64 × Int32 × (Nat → Int32) × (Nat → Int32) × (Nat → Int32) × Int32 × (Nat → Int32) × (Nat → Int32) × Int32 × Int32 × Int32 × (Nat → Int32) × (Nat → Int32) × (Nat → Int32) × (Nat → Int32) × Int64 × Int64 × Int64))) (fun kJ59 => (if (lg_cmp (i6 D - i6 D / 2 * 2) 0) = 0 then kJ59 0 else kJ59 1))))) = some (i6 D, mw, i3 (N : Int), Bf', Bm', Bk', i3 (cl : Int), Bn', Bo', i3 (pr : Int), mgn, ml, Bi', Bx', Bg', Bl', x, y, z) ∧ RS D R cl N fm gm mul e od mw mgn Bf' Bm' Bk' Bn' Bo' Bx' Bg' := by
    intro mw hw
    obtain ⟨N, gm, Bf1, Bm1, Bk1, x1, y1, z1, l1, l2⟩ := mlist_s F hF hO hw Bf Bm Bk ma mb mc
    obtain ⟨Bk2, Bn2, x2, y2, z2, g1, g2⟩ := mgather_s F hF hO hw l2 hN Bn x1 y1 z1
    have hT := tb_of l2
    obtain ⟨hM, hV⟩ := mt_of F hF hO hN hG hw hT g2
    have hok : okF D (1, sg D, -nn D) := by
      refine ⟨?_, ⟨1, 0, 0, by simp⟩, fun _ => by simp only; omega⟩
      simp only [fdisc]; rw [hss]; omega
    have hsr : bd 1 (sg D) := by constructor <;> omega
    have hnr : bd 262145 (nn D) := by constructor <;> omega
    have := hsr.1; have := hsr.2; have := hnr.1; have := hnr.2
    obtain ⟨k, x3, y3, z3, f1, f2, f3⟩ := mfound_s F hF hO hw hT g2 hok ⟨⟨by simp only; omega, by simp only; omega⟩, ⟨by simp only; omega, by simp only; omega⟩, ⟨by simp only; omega, by simp only; omega⟩⟩
    have hkp : k = pr := by
      refine pr_uni hO hN ⟨f1, 0, -nn D, ⟨by decide, by grind, ⟨1, 0, 0, by simp⟩⟩, ?_⟩ hP
      have : sg D + 2 * 0 = sg D := by omega
      rw [this]; exact f3
    subst hkp
    have hbe : f_m_be F (i6 D) 1 (i6 (sg D)) = some (i6 1, i6 (sg D), i6 (-nn D)) := mbe_s F (a := 1) (c := -nn D) ⟨by omega, by omega⟩ ⟨by decide, by decide⟩ (by decide) ⟨by omega, by omega⟩ (by rw [hss]; omega)
    obtain ⟨Bo1, o1, o2, -⟩ := mb72_s (F := F) cl 0 F Bo hcl (by omega) (by omega)
    obtain ⟨ml1, Bo2, Bl1, x4, y4, z4, q1, q2⟩ := mb95_s hM G hod hcl hF cl 0 F mli Bo1 Bl x3 y3 z3 (by omega) (by omega) (fun x => Or.inl (o2 x.val (by omega) x.isLt)) (fun x hx => absurd hx (by omega))
    obtain ⟨m, gs, ml2, Bi2, Bx2, Bg2, Bl2, x5, y5, z5, r1, r2, r3', r4, r5⟩ := mgen_s hM G hod hcl hF (fun gs i hs => spec_rank G hod hcl (fun l hl hm => tors_few hO hN hG l hl hm) hs) q2 Bi Bx Bg Bl1 x4 y4 z4
    have hm8 := spec_rank G hod hcl (fun l hl hm => tors_few hO hN hG l hl hm) r2
    refine ⟨N, gm, i3 (m : Int), ml2, Bf1, Bm1, Bk2, Bn2, Bo2, Bi2, Bx2, Bg2, Bl2, x5, y5, z5, ?_, hw, hT, g2, q2, gs, m, rfl, hm8, r2, r3', r4, r5⟩
    rw [l1]
    simp only [Option.bind_some]
    rw [g1]
    simp only [Option.bind_some, bnd]
    rw [he] at q1 r1
    have o1' : f_m_begin_L72 F (i3 (cl : Int)) F 0 Bo = _ := o1
    have q1' : f_m_begin_L95 F (i6 D) mw (i3 N) Bf1 Bm1 (i3 (cl : Int)) Bk2 Bn2 (i3 (k : Int)) F 0 mli Bo1 Bl x3 y3 z3 = _ := q1
    have fin : Option.bind (f_m_be F (i6 D) 1 (i6 (sg D))) (fun (u_ma_16, u_mb_17, u_mc_18) => Option.bind (f_m_found F (i6 D) mw (i3 N) Bf1 Bm1 Bk2 u_ma_16 u_mb_17 u_mc_18) (fun (r_19, u_ma_20, u_mb_21, u_mc_22) => Option.bind (f_m_begin_L72 F (i3 (cl : Int)) F 0 Bo) (fun y_Bo_27 => Option.bind (f_m_begin_L95 F (i6 D) mw (i3 N) Bf1 Bm1 (i3 (cl : Int)) Bk2 Bn2 r_19 F 0 mli y_Bo_27 Bl u_ma_20 u_mb_21 u_mc_22) (fun (y_mli_43, y_Bo_44, y_Bl_45, y_ma_46, y_mb_47, y_mc_48) => Option.bind (f_m_generate F (i6 D) mw (i3 N) Bf1 Bm1 Bk2 Bn2 (i3 (cl : Int)) r_19 y_Bo_44 Bi Bx Bg y_Bl_45 y_ma_46 y_mb_47 y_mc_48) (fun (u_mgn_49, u_mli_50, u_Bi_51, u_Bx_52, u_Bg_53, u_Bl_54, u_ma_55, u_mb_56, u_mc_57) => some (i6 D, mw, i3 (N : Int), Bf1, Bm1, Bk2, i3 (cl : Int), Bn2, y_Bo_44, r_19, u_mgn_49, u_mli_50, u_Bi_51, u_Bx_52, u_Bg_53, u_Bl_54, u_ma_55, u_mb_56, u_mc_57)))))) = some (i6 D, mw, i3 (N : Int), Bf1, Bm1, Bk2, i3 (cl : Int), Bn2, Bo2, i3 (k : Int), i3 (m : Int), ml2, Bi2, Bx2, Bg2, Bl2, x5, y5, z5) := by
      rw [hbe]
      simp only [Option.bind_some]
      simp only at f2
      rw [f2]
      simp only [Option.bind_some]
      rw [o1']
      simp only [Option.bind_some]
      rw [q1']
      simp only [Option.bind_some]
      rw [r1]
      rfl
    have hrem : i6 D - i6 D / 2 * 2 = i6 (D.tmod 2) := by
      rw [c2_s, i6_rem hD6 ⟨by decide, by decide⟩ (by decide) (by omega)]
    have htm : D.tmod 2 = 0 ↔ D % 2 = 0 := by rw [tmod_dvd]; omega
    have htb := tmod_bd (x := D) (m := 2) (M := 2) ⟨by decide, by decide⟩ (by decide)
    have := htb.1; have := htb.2
    rw [hrem]
    by_cases c : D % 2 = 0
    · have hs0 : sg D = 0 := c
      rw [if_t ((l_eq0 (a := D.tmod 2) ⟨by omega, by omega⟩).mpr (htm.mpr c))]
      rw [hs0] at fin
      exact fin
    · have hs1 : sg D = 1 := by unfold sg; omega
      rw [if_f (fun q => c (htm.mp ((l_eq0 (a := D.tmod 2) ⟨by omega, by omega⟩).mp q)))]
      rw [hs1] at fin
      exact fin
  unfold f_m_begin
  rcases Int.lt_or_gt_of_ne (okD_ne hO) with g0 | g0
  · obtain ⟨N, gm, mgn, ml, Bf', Bm', Bk', Bn', Bo', Bi', Bx', Bg', Bl', x, y, z, t1, t2⟩ := tail (-1) (fun q => by omega)
    refine ⟨N, gm, -1, mgn, ml, Bf', Bm', Bk', Bn', Bo', Bi', Bx', Bg', Bl', x, y, z, ?_, t2⟩
    show (if (0 : Int32) ≤ lg_cmp (i6 D) 0 then _ else _) = _
    rw [if_f (fun q => by have := (l_ge0 hD6).mp q; omega)]
    exact t1
  · obtain ⟨N, gm, mgn, ml, Bf', Bm', Bk', Bn', Bo', Bi', Bx', Bg', Bl', x, y, z, t1, t2⟩ := tail (i6 (R : Int)) (fun _ => rfl)
    refine ⟨N, gm, i6 (R : Int), mgn, ml, Bf', Bm', Bk', Bn', Bo', Bi', Bx', Bg', Bl', x, y, z, ?_, t2⟩
    show (if (0 : Int32) ≤ lg_cmp (i6 D) 0 then Option.bind (f_m_root F (i6 D)) _ else _) = _
    rw [if_t ((l_ge0 hD6).mpr (by omega)), mroot_s F (by omega) (by omega) hD2 (hO.2.1 g0).1]
    exact t1
