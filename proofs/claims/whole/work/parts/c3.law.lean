/-! The law's loop: the answers agree, call by call -/
def INV (dd rt cl' rf' pr' gk go gc : Int32) (An Ag As Ao Ac : Nat → Int32) (md mw : Int64) (mfo mmy mpr mgn : Int32) (Bf Bm Bk Bn Bo Bx Bg : Nat → Int32) : Prop := ∃ (D : Int) (R cl rf pr N : Nat) (fm gm : Nat → FT) (mul : Fin cl → Fin cl → Fin cl) (e : Fin cl) (inv : Fin cl → Fin cl) (od : Fin cl → Nat), dd = i3 D ∧ rt = i3 (R : Int) ∧ cl' = i3 (cl : Int) ∧ rf' = i3 (rf : Int) ∧ pr' = i3 (pr : Int) ∧ md = i6 D ∧ mfo = i3 (N : Int) ∧ mmy = i3 (cl : Int) ∧ mpr = i3 (pr : Int) ∧ CS D R cl rf pr fm mul e inv od gk go gc An Ag As Ao Ac ∧ RS D R cl N fm gm mul e od mw mgn Bf Bm Bk Bn Bo Bx Bg
theorem od_ex {cl : Nat} {mul : Fin cl → Fin cl → Fin cl} {e : Fin cl} {inv : Fin cl → Fin cl} (G : isG mul e inv) : ∃ od : Fin cl → Nat, ∀ x, isOrd mul e x (od x) :=
  Classical.axiomOfChoice (fun x => by obtain ⟨n, h, -⟩ := ord_ex G x; exact ⟨n, h⟩)
/-- D is taken by both -/
theorem both_take (F : Nat) (hF : 10000000 ≤ F) {d : Int} (hT : takeable d) (An : Nat → Int32) (a b c : Int64) (Bf Bm Bk Bn Bo Bi Bx Bg Bl : Nat → Int32) (mli : Int32) (ma mb mc : Int64) :
    ∃ (R cl rf pr N : Nat) (An' : Nat → Int32) (x y z : Int64) (mw : Int64) (mgn ml : Int32) (Bf' Bm' Bk' Bn' Bo' Bi' Bx' Bg' Bl' : Nat → Int32) (x' y' z' : Int64), f_become F An a b c (i3 d) = some (i3 d, i3 (R : Int), i3 (cl : Int), i3 (rf : Int), i3 (pr : Int), 0, An', x, y, z) ∧ f_m_begin F Bf Bm Bk Bn Bo Bi Bx Bg Bl mli ma mb mc (i6 d) = some (i6 d, mw, i3 (N : Int), Bf', Bm', Bk', i3 (cl : Int), Bn', Bo', i3 (pr : Int), mgn, ml, Bi', Bx', Bg', Bl', x', y', z') ∧ ∀ (go gc : Int32) (Ag As Ao Ac : Nat → Int32), INV (i3 d) (i3 (R : Int)) (i3 (cl : Int)) (i3 (rf : Int)) (i3 (pr : Int)) 0 go gc An' Ag As Ao Ac (i6 d) mw (i3 (N : Int)) (i3 (cl : Int)) (i3 (pr : Int)) mgn Bf' Bm' Bk' Bn' Bo' Bx' Bg' := by
  obtain ⟨R, cl, rf, pr, An', x, y, z, fm, h1, h2⟩ := become_s F (by omega) hT (fun R hO => cap_all R hO) An a b c
  obtain ⟨mul, e, inv, hG, he⟩ := grp_ex h2.1 h2.2.1 h2.2.2.2
  obtain ⟨od, hod⟩ := od_ex hG.1
  obtain ⟨N, gm, mw, mgn, ml, Bf', Bm', Bk', Bn', Bo', Bi', Bx', Bg', Bl', x', y', z', h3, h4⟩ := mbegin_s F hF h2 hG he hod Bf Bm Bk Bn Bo Bi Bx Bg Bl mli ma mb mc
  exact ⟨R, cl, rf, pr, N, An', x, y, z, mw, mgn, ml, Bf', Bm', Bk', Bn', Bo', Bi', Bx', Bg', Bl', x', y', z', h1, h3, fun go gc Ag As Ao Ac => ⟨d, R, cl, rf, pr, N, fm, gm, mul, e, inv, od, rfl, rfl, rfl, rfl, rfl, rfl, rfl, rfl, rfl, ⟨h2, hG, he, hod, Or.inl rfl⟩, h4⟩⟩
theorem op_take (F : Nat) (hF : 10000000 ≤ F) {dd rt cl' rf' pr' gk go gc : Int32} {An Ag As Ao Ac : Nat → Int32} {md mw : Int64} {mfo mmy mpr mgn : Int32} {Bf Bm Bk Bn Bo Bx Bg : Nat → Int32} (hI : INV dd rt cl' rf' pr' gk go gc An Ag As Ao Ac md mw mfo mmy mpr mgn Bf Bm Bk Bn Bo Bx Bg) (x1 : Int32) (Lv : Nat → Int64) (a b c : Int64) (mli : Int32) (Bi Bl : Nat → Int32) (ma mb mc : Int64) :
    ∃ (t v dd1 rt1 cl1 rf1 pr1 gk1 : Int32) (An1 : Nat → Int32) (y1 y2 y3 : Int64) (Lv1 : Nat → Int64) (md1 mw1 : Int64) (mfo1 : Int32) (Bf1 Bm1 Bk1 : Nat → Int32) (mmy1 : Int32) (Bn1 Bo1 : Nat → Int32) (mpr1 mgn1 mli1 : Int32) (Bi1 Bx1 Bg1 Bl1 : Nat → Int32) (m1 m2 m3 : Int64), f_h_take F An a b c dd rt cl' rf' pr' gk Lv x1 = some (t, dd1, rt1, cl1, rf1, pr1, gk1, An1, y1, y2, y3, Lv1) ∧ f_m_take F md mw mfo Bf Bm Bk mmy Bn Bo mpr mgn mli Bi Bx Bg Bl ma mb mc x1 = some (v, t, md1, mw1, mfo1, Bf1, Bm1, Bk1, mmy1, Bn1, Bo1, mpr1, mgn1, mli1, Bi1, Bx1, Bg1, Bl1, m1, m2, m3) ∧ (t = 0 → Lv1 (0 : Int32).toNatClampNeg = v.toInt64) ∧ INV dd1 rt1 cl1 rf1 pr1 gk1 go gc An1 Ag As Ao Ac md1 mw1 mfo1 mmy1 mpr1 mgn1 Bf1 Bm1 Bk1 Bn1 Bo1 Bx1 Bg1 := by
  obtain ⟨d, hd, rfl⟩ : ∃ z : Int, r3 z ∧ x1 = i3 z := ⟨_, (i3_of x1).2, (i3_of x1).1⟩
  have hm := mtake_s F (by omega) hd md mw mfo Bf Bm Bk mmy Bn Bo mpr mgn mli Bi Bx Bg Bl ma mb mc
  by_cases hT : takeable d
  · obtain ⟨R, cl, rf, pr, N, An', x, y, z, mw', mgn', ml, Bf', Bm', Bk', Bn', Bo', Bi', Bx', Bg', Bl', x', y', z', h1, h2, h3⟩ := both_take F hF hT An a b c Bf Bm Bk Bn Bo Bi Bx Bg Bl mli ma mb mc
    refine ⟨0, i3 (cl : Int), _, _, _, _, _, _, An', x, y, z, vp_updL Lv (0 : Int32).toNatClampNeg (i3 (cl : Int)).toInt64, _, _, _, _, _, _, _, _, _, _, _, _, _, _, _, _, _, _, _, ?_, hm.1 hT _ h2, fun _ => updL_0 _ _, h3 go gc Ag As Ao Ac⟩
    unfold f_h_take f_hr_take f_p_take
    rw [canTake_t F (by omega) hT]
    simp only [Option.bind_some]
    rw [if_f (show ¬ (1 : Int32) = 0 by decide), h1]
    simp only [Option.bind_some]
    rw [if_t vin01]
  · refine ⟨1, 0, dd, rt, cl', rf', pr', gk, An, a, b, c, Lv, md, mw, mfo, Bf, Bm, Bk, mmy, Bn, Bo, mpr, mgn, mli, Bi, Bx, Bg, Bl, ma, mb, mc, ?_, hm.2 hT, fun q => absurd q (by decide), hI⟩
    unfold f_h_take f_hr_take f_hx_take f_p_take f_x_take
    rw [canTake_f F (by omega) hd hT]; rfl
theorem law_s (F : Nat) (hF : 2000000000 ≤ F) {L : Nat} (hL : L ≤ 2048) (xs : Nat → Int32) : ∀ (n w : Nat) (m_dd : Int32) (m_rt : Int32) (m_cl : Int32) (m_rf : Int32) (m_pr : Int32) (m_gk : Int32) (m_go : Int32) (m_gc : Int32) (m_An : Nat → Int32) (m_a1 : Int64) (m_b1 : Int64) (m_c1 : Int64) (m_a2 : Int64) (m_b2 : Int64) (m_c2 : Int64) (m_zg : Int64) (m_z1 : Int64) (m_z2 : Int64) (m_Ag : Nat → Int32) (m_As : Nat → Int32) (m_Ao : Nat → Int32) (m_Ac : Nat → Int32) (m_Ae : Nat → Int32) (m_Lv : Nat → Int64) (m_mco : Int32) (m_md : Int64) (m_mw : Int64) (m_mfo : Int32) (m_mmy : Int32) (m_mpr : Int32) (m_mgn : Int32) (m_mli : Int32) (m_ma : Int64) (m_mb : Int64) (m_mc : Int64) (m_Bf : Nat → Int32) (m_Bm : Nat → Int32) (m_Bk : Nat → Int32) (m_Bn : Nat → Int32) (m_Bo : Nat → Int32) (m_Bi : Nat → Int32) (m_Bx : Nat → Int32) (m_Bg : Nat → Int32) (m_Bl : Nat → Int32), w ≤ L → L + 4 ≤ w + 4 * n → INV m_dd m_rt m_cl m_rf m_pr m_gk m_go m_gc m_An m_Ag m_As m_Ao m_Ac m_md m_mw m_mfo m_mmy m_mpr m_mgn m_Bf m_Bm m_Bk m_Bn m_Bo m_Bx m_Bg → f_law_L23 F L xs n (i3 (w : Int)) m_dd m_rt m_cl m_rf m_pr m_gk m_go m_gc m_An m_a1 m_b1 m_c1 m_a2 m_b2 m_c2 m_zg m_z1 m_z2 m_Ag m_As m_Ao m_Ac m_Ae m_Lv m_mco m_md m_mw m_mfo m_mmy m_mpr m_mgn m_mli m_ma m_mb m_mc m_Bf m_Bm m_Bk m_Bn m_Bo m_Bi m_Bx m_Bg m_Bl = some 1 := by
  intro n
  induction n with
  | zero => intro w m_dd m_rt m_cl m_rf m_pr m_gk m_go m_gc m_An m_a1 m_b1 m_c1 m_a2 m_b2 m_c2 m_zg m_z1 m_z2 m_Ag m_As m_Ao m_Ac m_Ae m_Lv m_mco m_md m_mw m_mfo m_mmy m_mpr m_mgn m_mli m_ma m_mb m_mc m_Bf m_Bm m_Bk m_Bn m_Bo m_Bi m_Bx m_Bg m_Bl hw hn; omega
  | succ n ih =>
    intro w m_dd m_rt m_cl m_rf m_pr m_gk m_go m_gc m_An m_a1 m_b1 m_c1 m_a2 m_b2 m_c2 m_zg m_z1 m_z2 m_Ag m_As m_Ao m_Ac m_Ae m_Lv m_mco m_md m_mw m_mfo m_mmy m_mpr m_mgn m_mli m_ma m_mb m_mc m_Bf m_Bm m_Bk m_Bn m_Bo m_Bi m_Bx m_Bg m_Bl hw hn hI
    have eL : Int32.ofNat L - 4 = i3 ((L : Int) - 4) := by
      rw [show Int32.ofNat L = i3 (L : Int) from Int32.ofInt_eq_ofNat.symm]
      show i3 (L : Int) - i3 4 = _
      rw [i3_sub]
    have hlt : i3 ((L : Int) - 4) < i3 (w : Int) ↔ (L : Int) - 4 < w := i3_lt ⟨by omega, by omega⟩ ⟨by omega, by omega⟩
    rw [f_law_L23, eL]
    by_cases hend : (L : Int) - 4 < w
    · rw [if_t (hlt.mpr hend)]
    · rw [if_f (fun q => hend (hlt.mp q))]
      have ew : i3 (w : Int) + 4 = i3 ((w + 4 : Nat) : Int) := by
        show i3 (w : Int) + i3 4 = _
        rw [i3_add]; rfl
      have e1 : i3 (w : Int) + 1 = i3 ((w + 1 : Nat) : Int) := nn_s w
      have e2 : i3 (w : Int) + 2 = i3 ((w + 2 : Nat) : Int) := by
        show i3 (w : Int) + i3 2 = _
        rw [i3_add]; rfl
      have e3 : i3 (w : Int) + 3 = i3 ((w + 3 : Nat) : Int) := by
        show i3 (w : Int) + i3 3 = _
        rw [i3_add]; rfl
      have v0 : vin (i3 (w : Int)) L := nn_v (by omega) (by omega)
      have v1 : vin (i3 (w : Int) + 1) L := by rw [e1]; exact nn_v (by omega) (by omega)
      have v2 : vin (i3 (w : Int) + 2) L := by rw [e2]; exact nn_v (by omega) (by omega)
      have v3 : vin (i3 (w : Int) + 3) L := by rw [e3]; exact nn_v (by omega) (by omega)
      rw [if_t v0]
      generalize xs (i3 (w : Int) + 1).toNatClampNeg = g1
      generalize xs (i3 (w : Int) + 2).toNatClampNeg = g2
      generalize xs (i3 (w : Int) + 3).toNatClampNeg = g3
      generalize xs (i3 (w : Int)).toNatClampNeg &&& 15 = op
      have go_on : ∀ (m_dd : Int32) (m_rt : Int32) (m_cl : Int32) (m_rf : Int32) (m_pr : Int32) (m_gk : Int32) (m_go : Int32) (m_gc : Int32) (m_An : Nat → Int32) (m_a1 : Int64) (m_b1 : Int64) (m_c1 : Int64) (m_a2 : Int64) (m_b2 : Int64) (m_c2 : Int64) (m_zg : Int64) (m_z1 : Int64) (m_z2 : Int64) (m_Ag : Nat → Int32) (m_As : Nat → Int32) (m_Ao : Nat → Int32) (m_Ac : Nat → Int32) (m_Ae : Nat → Int32) (m_Lv : Nat → Int64) (m_mco : Int32) (m_md : Int64) (m_mw : Int64) (m_mfo : Int32) (m_mmy : Int32) (m_mpr : Int32) (m_mgn : Int32) (m_mli : Int32) (m_ma : Int64) (m_mb : Int64) (m_mc : Int64) (m_Bf : Nat → Int32) (m_Bm : Nat → Int32) (m_Bk : Nat → Int32) (m_Bn : Nat → Int32) (m_Bo : Nat → Int32) (m_Bi : Nat → Int32) (m_Bx : Nat → Int32) (m_Bg : Nat → Int32) (m_Bl : Nat → Int32), INV m_dd m_rt m_cl m_rf m_pr m_gk m_go m_gc m_An m_Ag m_As m_Ao m_Ac m_md m_mw m_mfo m_mmy m_mpr m_mgn m_Bf m_Bm m_Bk m_Bn m_Bo m_Bx m_Bg → bnd (i3 (w : Int) + 4) (fun v => f_law_L23 F L xs n v m_dd m_rt m_cl m_rf m_pr m_gk m_go m_gc m_An m_a1 m_b1 m_c1 m_a2 m_b2 m_c2 m_zg m_z1 m_z2 m_Ag m_As m_Ao m_Ac m_Ae m_Lv m_mco m_md m_mw m_mfo m_mmy m_mpr m_mgn m_mli m_ma m_mb m_mc m_Bf m_Bm m_Bk m_Bn m_Bo m_Bi m_Bx m_Bg m_Bl) = some 1 := by
        intro m_dd m_rt m_cl m_rf m_pr m_gk m_go m_gc m_An m_a1 m_b1 m_c1 m_a2 m_b2 m_c2 m_zg m_z1 m_z2 m_Ag m_As m_Ao m_Ac m_Ae m_Lv m_mco m_md m_mw m_mfo m_mmy m_mpr m_mgn m_mli m_ma m_mb m_mc m_Bf m_Bm m_Bk m_Bn m_Bo m_Bi m_Bx m_Bg m_Bl hI
        simp only [bnd]
        rw [ew]
        exact ih (w + 4) m_dd m_rt m_cl m_rf m_pr m_gk m_go m_gc m_An m_a1 m_b1 m_c1 m_a2 m_b2 m_c2 m_zg m_z1 m_z2 m_Ag m_As m_Ao m_Ac m_Ae m_Lv m_mco m_md m_mw m_mfo m_mmy m_mpr m_mgn m_mli m_ma m_mb m_mc m_Bf m_Bm m_Bk m_Bn m_Bo m_Bi m_Bx m_Bg m_Bl (by omega) (by omega) hI
      by_cases c0 : op = 0
      · rw [if_t c0]
        obtain ⟨t, v, dd1, rt1, cl1, rf1, pr1, gk1, An1, y1, y2, y3, Lv1, md1, mw1, mfo1, Bf1, Bm1, Bk1, mmy1, Bn1, Bo1, mpr1, mgn1, mli1, Bi1, Bx1, Bg1, Bl1, m1, m2, m3, q1, q2, q3, q4⟩ := op_take F (by omega) hI g1 m_Lv m_a1 m_b1 m_c1 m_mli m_Bi m_Bl m_ma m_mb m_mc
        rw [if_t v1, q1]
        simp only [Option.bind_some]
        rw [if_t v1, q2]
        simp only [Option.bind_some, f_m_thrown]
        rw [if_t trivial]
        by_cases ct : t = 0
        · rw [if_t ct, if_t vin01, q3 ct, lg_self, if_t rfl]
          exact go_on _ _ _ _ _ _ _ _ _ _ _ _ _ _ _ _ _ _ _ _ _ _ _ _ _ _ _ _ _ _ _ _ _ _ _ _ _ _ _ _ _ _ _ _ q4
        · rw [if_f ct]
          exact go_on _ _ _ _ _ _ _ _ _ _ _ _ _ _ _ _ _ _ _ _ _ _ _ _ _ _ _ _ _ _ _ _ _ _ _ _ _ _ _ _ _ _ _ _ q4
      rw [if_f c0]
      by_cases c1 : op = 1
      · rw [if_t c1]
        obtain ⟨D, R, cl, rf, pr, N, fm, gm, mul, e, inv, od, rfl, rfl, rfl, rfl, rfl, rfl, rfl, rfl, rfl, hC, hR⟩ := hI
        obtain ⟨r, co, gk', go', gc', Ag', As', Ao', Ac', Ae', y1, y2, y3, y4, y5, y6, y7, y8, y9, q1, q2, q4⟩ := op_count (F := F) (by omega) hC hR g1 m_Ae m_a1 m_b1 m_c1 m_a2 m_b2 m_c2 m_zg m_z1 m_z2
        rw [if_t v1, q1]
        simp only [Option.bind_some]
        rw [if_t v1, q2]
        simp only [Option.bind_some]
        rw [if_t trivial]
        exact go_on _ _ _ _ _ _ _ _ _ _ _ _ _ _ _ _ _ _ _ _ _ _ _ _ _ _ _ _ _ _ _ _ _ _ _ _ _ _ _ _ _ _ _ _ ⟨D, R, cl, rf, pr, N, fm, gm, mul, e, inv, od, rfl, rfl, rfl, rfl, rfl, rfl, rfl, rfl, rfl, q4, hR⟩
      rw [if_f c1]
      by_cases c2 : op = 2
      · rw [if_t c2]
        obtain ⟨D, R, cl, rf, pr, N, fm, gm, mul, e, inv, od, rfl, rfl, rfl, rfl, rfl, rfl, rfl, rfl, rfl, hC, hR⟩ := hI
        obtain ⟨t, v, y1, y2, y3, Lv', m1, m2, m3, q1, q2, q3⟩ := op_name (F := F) hC hR g1 g2 m_Lv m_a1 m_b1 m_c1 m_ma m_mb m_mc
        rw [if_t v1, if_t v2, q1]
        simp only [Option.bind_some]
        rw [if_t v1, if_t v2, q2]
        simp only [Option.bind_some, f_m_thrown]
        rw [if_t trivial]
        by_cases ct : t = 0
        · rw [if_t ct, if_t vin01, q3 ct, lg_self, if_t rfl]
          exact go_on _ _ _ _ _ _ _ _ _ _ _ _ _ _ _ _ _ _ _ _ _ _ _ _ _ _ _ _ _ _ _ _ _ _ _ _ _ _ _ _ _ _ _ _ ⟨D, R, cl, rf, pr, N, fm, gm, mul, e, inv, od, rfl, rfl, rfl, rfl, rfl, rfl, rfl, rfl, rfl, hC, hR⟩
        · rw [if_f ct]
          exact go_on _ _ _ _ _ _ _ _ _ _ _ _ _ _ _ _ _ _ _ _ _ _ _ _ _ _ _ _ _ _ _ _ _ _ _ _ _ _ _ _ _ _ _ _ ⟨D, R, cl, rf, pr, N, fm, gm, mul, e, inv, od, rfl, rfl, rfl, rfl, rfl, rfl, rfl, rfl, rfl, hC, hR⟩
      rw [if_f c2]
      by_cases c3 : op = 3
      · rw [if_t c3]
        obtain ⟨D, R, cl, rf, pr, N, fm, gm, mul, e, inv, od, rfl, rfl, rfl, rfl, rfl, rfl, rfl, rfl, rfl, hC, hR⟩ := hI
        obtain ⟨t, v, y1, y2, y3, Lv', m1, m2, m3, q1, q2, q3⟩ := op_classOf (F := F) hF hC hR g1 g2 g3 m_Lv m_a1 m_b1 m_c1 m_ma m_mb m_mc
        rw [if_t v1, if_t v2, if_t v3, q1]
        simp only [Option.bind_some]
        rw [if_t v1, if_t v2, if_t v3, q2]
        simp only [Option.bind_some, f_m_thrown]
        rw [if_t trivial]
        by_cases ct : t = 0
        · rw [if_t ct, if_t vin01, q3 ct, lg_self, if_t rfl]
          exact go_on _ _ _ _ _ _ _ _ _ _ _ _ _ _ _ _ _ _ _ _ _ _ _ _ _ _ _ _ _ _ _ _ _ _ _ _ _ _ _ _ _ _ _ _ ⟨D, R, cl, rf, pr, N, fm, gm, mul, e, inv, od, rfl, rfl, rfl, rfl, rfl, rfl, rfl, rfl, rfl, hC, hR⟩
        · rw [if_f ct]
          exact go_on _ _ _ _ _ _ _ _ _ _ _ _ _ _ _ _ _ _ _ _ _ _ _ _ _ _ _ _ _ _ _ _ _ _ _ _ _ _ _ _ _ _ _ _ ⟨D, R, cl, rf, pr, N, fm, gm, mul, e, inv, od, rfl, rfl, rfl, rfl, rfl, rfl, rfl, rfl, rfl, hC, hR⟩
      rw [if_f c3]
      by_cases c4 : op = 4
      · rw [if_t c4]
        obtain ⟨D, R, cl, rf, pr, N, fm, gm, mul, e, inv, od, rfl, rfl, rfl, rfl, rfl, rfl, rfl, rfl, rfl, hC, hR⟩ := hI
        obtain ⟨t, v, y1, y2, y3, y4, y5, y6, y7, y8, y9, Lv', m1, m2, m3, q1, q2, q3⟩ := op_product (F := F) (by omega) hC hR g1 g2 m_Lv m_a1 m_b1 m_c1 m_a2 m_b2 m_c2 m_zg m_z1 m_z2 m_ma m_mb m_mc
        rw [if_t v1, if_t v2, q1]
        simp only [Option.bind_some]
        rw [if_t v1, if_t v2, q2]
        simp only [Option.bind_some, f_m_thrown]
        rw [if_t trivial]
        by_cases ct : t = 0
        · rw [if_t ct, if_t vin01, q3 ct, lg_self, if_t rfl]
          exact go_on _ _ _ _ _ _ _ _ _ _ _ _ _ _ _ _ _ _ _ _ _ _ _ _ _ _ _ _ _ _ _ _ _ _ _ _ _ _ _ _ _ _ _ _ ⟨D, R, cl, rf, pr, N, fm, gm, mul, e, inv, od, rfl, rfl, rfl, rfl, rfl, rfl, rfl, rfl, rfl, hC, hR⟩
        · rw [if_f ct]
          exact go_on _ _ _ _ _ _ _ _ _ _ _ _ _ _ _ _ _ _ _ _ _ _ _ _ _ _ _ _ _ _ _ _ _ _ _ _ _ _ _ _ _ _ _ _ ⟨D, R, cl, rf, pr, N, fm, gm, mul, e, inv, od, rfl, rfl, rfl, rfl, rfl, rfl, rfl, rfl, rfl, hC, hR⟩
      rw [if_f c4]
      by_cases c5 : op = 5
      · rw [if_t c5]
        obtain ⟨D, R, cl, rf, pr, N, fm, gm, mul, e, inv, od, rfl, rfl, rfl, rfl, rfl, rfl, rfl, rfl, rfl, hC, hR⟩ := hI
        obtain ⟨t, v, y1, y2, y3, Lv', m1, m2, m3, q1, q2, q3⟩ := op_inverse (F := F) (by omega) hC hR g1 m_Lv m_a1 m_b1 m_c1 m_ma m_mb m_mc
        rw [if_t v1, q1]
        simp only [Option.bind_some]
        rw [if_t v1, q2]
        simp only [Option.bind_some, f_m_thrown]
        rw [if_t trivial]
        by_cases ct : t = 0
        · rw [if_t ct, if_t vin01, q3 ct, lg_self, if_t rfl]
          exact go_on _ _ _ _ _ _ _ _ _ _ _ _ _ _ _ _ _ _ _ _ _ _ _ _ _ _ _ _ _ _ _ _ _ _ _ _ _ _ _ _ _ _ _ _ ⟨D, R, cl, rf, pr, N, fm, gm, mul, e, inv, od, rfl, rfl, rfl, rfl, rfl, rfl, rfl, rfl, rfl, hC, hR⟩
        · rw [if_f ct]
          exact go_on _ _ _ _ _ _ _ _ _ _ _ _ _ _ _ _ _ _ _ _ _ _ _ _ _ _ _ _ _ _ _ _ _ _ _ _ _ _ _ _ _ _ _ _ ⟨D, R, cl, rf, pr, N, fm, gm, mul, e, inv, od, rfl, rfl, rfl, rfl, rfl, rfl, rfl, rfl, rfl, hC, hR⟩
      rw [if_f c5]
      by_cases c6 : op = 6
      · rw [if_t c6]
        obtain ⟨D, R, cl, rf, pr, N, fm, gm, mul, e, inv, od, rfl, rfl, rfl, rfl, rfl, rfl, rfl, rfl, rfl, hC, hR⟩ := hI
        obtain ⟨t, v, y1, y2, y3, y4, y5, y6, y7, y8, y9, Lv', m1, m2, m3, q1, q2, q3⟩ := op_power (F := F) (by omega) hC hR g1 g2 m_Lv m_a1 m_b1 m_c1 m_a2 m_b2 m_c2 m_zg m_z1 m_z2 m_ma m_mb m_mc
        rw [if_t v1, if_t v2, q1]
        simp only [Option.bind_some]
        rw [if_t v1, if_t v2, q2]
        simp only [Option.bind_some, f_m_thrown]
        rw [if_t trivial]
        by_cases ct : t = 0
        · rw [if_t ct, if_t vin01, q3 ct, lg_self, if_t rfl]
          exact go_on _ _ _ _ _ _ _ _ _ _ _ _ _ _ _ _ _ _ _ _ _ _ _ _ _ _ _ _ _ _ _ _ _ _ _ _ _ _ _ _ _ _ _ _ ⟨D, R, cl, rf, pr, N, fm, gm, mul, e, inv, od, rfl, rfl, rfl, rfl, rfl, rfl, rfl, rfl, rfl, hC, hR⟩
        · rw [if_f ct]
          exact go_on _ _ _ _ _ _ _ _ _ _ _ _ _ _ _ _ _ _ _ _ _ _ _ _ _ _ _ _ _ _ _ _ _ _ _ _ _ _ _ _ _ _ _ _ ⟨D, R, cl, rf, pr, N, fm, gm, mul, e, inv, od, rfl, rfl, rfl, rfl, rfl, rfl, rfl, rfl, rfl, hC, hR⟩
      rw [if_f c6]
      by_cases c7 : op = 7
      · rw [if_t c7]
        obtain ⟨D, R, cl, rf, pr, N, fm, gm, mul, e, inv, od, rfl, rfl, rfl, rfl, rfl, rfl, rfl, rfl, rfl, hC, hR⟩ := hI
        obtain ⟨t, v, gk', go', gc', Ag', As', Ao', Ac', Ae', y1, y2, y3, y4, y5, y6, y7, y8, y9, Lv', q1, q2, q3, q4⟩ := op_order (F := F) (by omega) hC hR g1 m_Ae m_Lv m_a1 m_b1 m_c1 m_a2 m_b2 m_c2 m_zg m_z1 m_z2
        rw [if_t v1, q1]
        simp only [Option.bind_some]
        rw [if_t v1, q2]
        simp only [Option.bind_some, f_m_thrown]
        rw [if_t trivial]
        by_cases ct : t = 0
        · rw [if_t ct, if_t vin01, q3 ct, lg_self, if_t rfl]
          exact go_on _ _ _ _ _ _ _ _ _ _ _ _ _ _ _ _ _ _ _ _ _ _ _ _ _ _ _ _ _ _ _ _ _ _ _ _ _ _ _ _ _ _ _ _ ⟨D, R, cl, rf, pr, N, fm, gm, mul, e, inv, od, rfl, rfl, rfl, rfl, rfl, rfl, rfl, rfl, rfl, q4, hR⟩
        · rw [if_f ct]
          exact go_on _ _ _ _ _ _ _ _ _ _ _ _ _ _ _ _ _ _ _ _ _ _ _ _ _ _ _ _ _ _ _ _ _ _ _ _ _ _ _ _ _ _ _ _ ⟨D, R, cl, rf, pr, N, fm, gm, mul, e, inv, od, rfl, rfl, rfl, rfl, rfl, rfl, rfl, rfl, rfl, q4, hR⟩
      rw [if_f c7]
      by_cases c8 : op = 8
      · rw [if_t c8]
        obtain ⟨D, R, cl, rf, pr, N, fm, gm, mul, e, inv, od, rfl, rfl, rfl, rfl, rfl, rfl, rfl, rfl, rfl, hC, hR⟩ := hI
        obtain ⟨t, v, gk', go', gc', Ag', As', Ao', Ac', Ae', y1, y2, y3, y4, y5, y6, y7, y8, y9, Lv', q1, q2, q3, q4⟩ := op_generator (F := F) (by omega) hC hR g1 m_Ae m_Lv m_a1 m_b1 m_c1 m_a2 m_b2 m_c2 m_zg m_z1 m_z2
        rw [if_t v1, q1]
        simp only [Option.bind_some]
        rw [if_t v1, q2]
        simp only [Option.bind_some, f_m_thrown]
        rw [if_t trivial]
        by_cases ct : t = 0
        · rw [if_t ct, if_t vin01, q3 ct, lg_self, if_t rfl]
          exact go_on _ _ _ _ _ _ _ _ _ _ _ _ _ _ _ _ _ _ _ _ _ _ _ _ _ _ _ _ _ _ _ _ _ _ _ _ _ _ _ _ _ _ _ _ ⟨D, R, cl, rf, pr, N, fm, gm, mul, e, inv, od, rfl, rfl, rfl, rfl, rfl, rfl, rfl, rfl, rfl, q4, hR⟩
        · rw [if_f ct]
          exact go_on _ _ _ _ _ _ _ _ _ _ _ _ _ _ _ _ _ _ _ _ _ _ _ _ _ _ _ _ _ _ _ _ _ _ _ _ _ _ _ _ _ _ _ _ ⟨D, R, cl, rf, pr, N, fm, gm, mul, e, inv, od, rfl, rfl, rfl, rfl, rfl, rfl, rfl, rfl, rfl, q4, hR⟩
      rw [if_f c8]
      by_cases c9 : op = 9
      · rw [if_t c9]
        obtain ⟨D, R, cl, rf, pr, N, fm, gm, mul, e, inv, od, rfl, rfl, rfl, rfl, rfl, rfl, rfl, rfl, rfl, hC, hR⟩ := hI
        obtain ⟨t, v, gk', go', gc', Ag', As', Ao', Ac', Ae', y1, y2, y3, y4, y5, y6, y7, y8, y9, Lv', q1, q2, q3, q4⟩ := op_exponent (F := F) (by omega) hC hR g1 g2 m_Ae m_Lv m_a1 m_b1 m_c1 m_a2 m_b2 m_c2 m_zg m_z1 m_z2
        rw [if_t v1, if_t v2, q1]
        simp only [Option.bind_some]
        rw [if_t v1, if_t v2, q2]
        simp only [Option.bind_some, f_m_thrown]
        rw [if_t trivial]
        by_cases ct : t = 0
        · rw [if_t ct, if_t vin01, q3 ct, lg_self, if_t rfl]
          exact go_on _ _ _ _ _ _ _ _ _ _ _ _ _ _ _ _ _ _ _ _ _ _ _ _ _ _ _ _ _ _ _ _ _ _ _ _ _ _ _ _ _ _ _ _ ⟨D, R, cl, rf, pr, N, fm, gm, mul, e, inv, od, rfl, rfl, rfl, rfl, rfl, rfl, rfl, rfl, rfl, q4, hR⟩
        · rw [if_f ct]
          exact go_on _ _ _ _ _ _ _ _ _ _ _ _ _ _ _ _ _ _ _ _ _ _ _ _ _ _ _ _ _ _ _ _ _ _ _ _ _ _ _ _ _ _ _ _ ⟨D, R, cl, rf, pr, N, fm, gm, mul, e, inv, od, rfl, rfl, rfl, rfl, rfl, rfl, rfl, rfl, rfl, q4, hR⟩
      rw [if_f c9]
      exact go_on _ _ _ _ _ _ _ _ _ _ _ _ _ _ _ _ _ _ _ _ _ _ _ _ _ _ _ _ _ _ _ _ _ _ _ _ _ _ _ _ _ _ _ _ hI
