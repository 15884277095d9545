/-! Call by call: the class answers as the reference does -/
def LK {cl : Nat} (mul : Fin cl → Fin cl → Fin cl) (e : Fin cl) (od : Fin cl → Nat) (go gc : Int32) (Ag As Ao Ac : Nat → Int32) : Prop := ∃ (gs : Nat → Fin cl) (m go' : Nat), gc = i3 (m : Int) ∧ go = i3 (go' : Int) ∧ lrn mul e od gs m Ag As Ac ∧ isMx od go' ∧ ∀ x : Fin cl, Ao x.val = i3 (od x)
/-- the class's state -/
def CS (D : Int) (R cl rf pr : Nat) (fm : Nat → FT) (mul : Fin cl → Fin cl → Fin cl) (e : Fin cl) (inv : Fin cl → Fin cl) (od : Fin cl → Nat) (gk go gc : Int32) (An Ag As Ao Ac : Nat → Int32) : Prop := holdsD D R An cl rf pr fm ∧ GG D cl fm mul e inv ∧ e.val = pr ∧ (∀ x, isOrd mul e x (od x)) ∧ (gk = 0 ∨ (gk = 1 ∧ LK mul e od go gc Ag As Ao Ac))
theorem lg_self (x : Int64) : lg_cmp x x = 0 := by
  obtain ⟨h1, h2⟩ := i6_of x
  rw [h1]; exact (lc_eq h2 h2).mpr rfl
theorem vin01 : vin 0 1 := by decide
theorem updL_0 (Lv : Nat → Int64) (v : Int64) : vp_updL Lv (0 : Int32).toNatClampNeg v (0 : Int32).toNatClampNeg = v := by
  unfold vp_updL; exact if_pos rfl
section Ops
variable {F : Nat} {D : Int} {R cl rf pr N : Nat} {fm gm : Nat → FT} {mul : Fin cl → Fin cl → Fin cl} {e : Fin cl} {inv : Fin cl → Fin cl} {od : Fin cl → Nat} {gk go gc : Int32} {An Ag As Ao Ac : Nat → Int32} {mw : Int64} {mgn : Int32} {Bf Bm Bk Bn Bo Bx Bg : Nat → Int32}
theorem learn_k (hF : 1000000 ≤ F) (hC : CS D R cl rf pr fm mul e inv od gk go gc An Ag As Ao Ac) (Ae : Nat → Int32) (a1 b1 c1 a2 b2 c2 zg z1 z2 : Int64) :
    ∃ (go' gc' : Int32) (Ag' As' Ao' Ac' Ae' : Nat → Int32) (x1 x2 x3 x4 x5 x6 x7 x8 x9 : Int64), f_learn F (i3 D) (i3 (R : Int)) (i3 (cl : Int)) (i3 (pr : Int)) An gk go gc a1 b1 c1 a2 b2 c2 zg z1 z2 Ag As Ao Ac Ae = some (1, go', gc', x1, x2, x3, x4, x5, x6, x7, x8, x9, Ag', As', Ao', Ac', Ae') ∧ LK mul e od go' gc' Ag' As' Ao' Ac' ∧ CS D R cl rf pr fm mul e inv od 1 go' gc' An Ag' As' Ao' Ac' := by
  obtain ⟨hH, hG, he, hod, hk⟩ := hC
  rcases hk with rfl | ⟨rfl, hL⟩
  · obtain ⟨gs, m, go', Ag', As', Ao', Ac', Ae', x1, x2, x3, x4, x5, x6, x7, x8, x9, h1, h2, h3, h4⟩ := learn_s (mg_of F hF hH.1 hH.2.1 hG) hG.1 hod hH.2.1.1 (by omega) go gc Ag As Ao Ac Ae a1 b1 c1 a2 b2 c2 zg z1 z2
    rw [he] at h1
    exact ⟨_, _, Ag', As', Ao', Ac', Ae', x1, x2, x3, x4, x5, x6, x7, x8, x9, h1, ⟨gs, m, go', rfl, rfl, h2, h3, h4⟩, hH, hG, he, hod, Or.inr ⟨rfl, gs, m, go', rfl, rfl, h2, h3, h4⟩⟩
  · refine ⟨go, gc, Ag, As, Ao, Ac, Ae, a1, b1, c1, a2, b2, c2, zg, z1, z2, ?_, hL, hH, hG, he, hod, Or.inr ⟨rfl, hL⟩⟩
    unfold f_learn
    rw [if_f (by decide)]
theorem num_cnt {D R : Int} {rf N : Nat} {gm : Nat → FT} {Bf Bm : Nat → Int32} (hC : cntF rf (fun f => okF D f ∧ redI D R f)) (hT : isTb D R N gm Bf Bm) : N = rf := by
  obtain ⟨g, h1, h2⟩ := hC
  have hi := lt2_inj hT.2.1
  have a : N ≤ rf := by
    have := nd_le ((List.range N).map gm) ((List.range rf).map g) (nd_map List.nodup_range (fun x y hx hy he => hi x y (List.mem_range.1 hx) (List.mem_range.1 hy) he)) (fun f hf => by
      obtain ⟨k, hk, rfl⟩ := List.mem_map.1 hf
      obtain ⟨j, hj, e⟩ := (h2 (gm k)).mp ((hT.2.2 _).mpr ⟨k, List.mem_range.1 hk, rfl⟩)
      exact List.mem_map.2 ⟨j, List.mem_range.2 hj, e⟩)
    simpa using this
  have b : rf ≤ N := by
    have := nd_le ((List.range rf).map g) ((List.range N).map gm) (nd_map List.nodup_range (fun x y hx hy he => h1 x y (List.mem_range.1 hx) (List.mem_range.1 hy) he)) (fun f hf => by
      obtain ⟨k, hk, rfl⟩ := List.mem_map.1 hf
      obtain ⟨j, hj, e⟩ := (hT.2.2 (g k)).mp ((h2 (g k)).mpr ⟨k, List.mem_range.1 hk, rfl⟩)
      exact List.mem_map.2 ⟨j, List.mem_range.2 hj, e⟩)
    simpa using this
  omega
theorem op_count (hF : 1000000 ≤ F) (hC : CS D R cl rf pr fm mul e inv od gk go gc An Ag As Ao Ac) (hR : RS D R cl N fm gm mul e od mw mgn Bf Bm Bk Bn Bo Bx Bg) (x1 : Int32) (Ae : Nat → Int32) (a1 b1 c1 a2 b2 c2 zg z1 z2 : Int64) :
    ∃ (r co : Int32) (gk' go' gc' : Int32) (Ag' As' Ao' Ac' Ae' : Nat → Int32) (y1 y2 y3 y4 y5 y6 y7 y8 y9 : Int64), f_count F (i3 D) (i3 (R : Int)) (i3 (cl : Int)) (i3 (rf : Int)) (i3 (pr : Int)) An gk go gc a1 b1 c1 a2 b2 c2 zg z1 z2 Ag As Ao Ac Ae x1 = some (r, gk', go', gc', y1, y2, y3, y4, y5, y6, y7, y8, y9, Ag', As', Ao', Ac', Ae') ∧ f_m_count F (i6 D) (i3 (cl : Int)) mgn (i3 (pr : Int)) (i3 (N : Int)) Bo Bg x1 = some (r, co) ∧ CS D R cl rf pr fm mul e inv od gk' go' gc' An Ag' As' Ao' Ac' := by
  have hNr : N = rf := num_cnt hC.1.2.2.1 hR.2.1
  have hcl := hC.1.2.1.1
  obtain ⟨-, -, -, hBo, gs, m, rfl, hm8, hs, hr, hx, hg⟩ := hR
  obtain ⟨hH, hG, he, hod, hk⟩ := id hC
  obtain ⟨go', gc', Ag', As', Ao', Ac', Ae', y1, y2, y3, y4, y5, y6, y7, y8, y9, l1, ⟨gs', m', gx, rfl, rfl, l2, l3, l4⟩, l5⟩ := learn_k hF hC Ae a1 b1 c1 a2 b2 c2 zg z1 z2
  have hu := spec_uni hG.1 hod hs l2.1 hr l2.2.1
  unfold f_count f_m_count
  by_cases q0 : x1 = 0
  · rw [if_t q0, if_t q0, i63]
    exact ⟨_, _, _, _, _, _, _, _, _, _, _, _, _, _, _, _, _, _, _, rfl, rfl, hC⟩
  · rw [if_f q0, if_f q0]
    by_cases q1 : x1 = 1
    · rw [if_t q1, if_t q1]
      exact ⟨_, _, _, _, _, _, _, _, _, _, _, _, _, _, _, _, _, _, _, rfl, rfl, hC⟩
    · rw [if_f q1, if_f q1]
      by_cases q2 : x1 = 2
      · rw [if_t q2, if_t q2, l1]
        refine ⟨_, 0, _, _, _, _, _, _, _, _, _, _, _, _, _, _, _, _, _, rfl, ?_, l5⟩
        rw [hu.1]
      · rw [if_f q2, if_f q2]
        by_cases q3 : x1 = 3
        · rw [if_t q3, if_t q3]
          exact ⟨_, _, _, _, _, _, _, _, _, _, _, _, _, _, _, _, _, _, _, rfl, rfl, hC⟩
        · rw [if_f q3, if_f q3]
          by_cases q4 : x1 = 4
          · rw [if_t q4, if_t q4, l1]
            refine ⟨_, 0, _, _, _, _, _, _, _, _, _, _, _, _, _, _, _, _, _, rfl, ?_, l5⟩
            have hod1 : od e = 1 := by
              have h1 : od e ∣ 1 := (ord_dvd hG.1 (hod e) 1).mp (gp_e hG.1 1)
              have := Nat.le_of_dvd (by omega) h1
              have := (hod e).1
              omega
            by_cases qm : m = 0
            · subst qm
              rw [if_t (by rfl)]
              -- one class
              have hr1 : cl = 1 := hr.symm
              obtain ⟨w, hw⟩ := l3.2
              have : w = e := by apply Fin.ext; have := w.isLt; have := e.isLt; omega
              rw [this, hod1] at hw
              rw [← hw]; rfl
            · rw [if_f (fun q => qm (by have := (c_eq0 (a := (m : Int)) ⟨by omega, by omega⟩).mp q; omega)), if_t (by decide)]
              have hg0 : Bg (0 : Int32).toNatClampNeg = i3 (gs 0).val := hg 0 (by omega)
              have hgl := (gs 0).isLt
              have hb : Bo (i3 ((gs 0).val : Int)).toNatClampNeg = i3 (od (gs 0)) := by rw [nn_n (by omega)]; exact hBo (gs 0)
              rw [hg0, if_t (nn_v (by omega) (by omega)), hb]
              -- the first generator has the greatest order
              obtain ⟨n1, n2, mm, n3, n4⟩ := hs 0 (by omega)
              have hmm := ord_uni hG.1 n3 (hod (gs 0))
              subst hmm
              have hmax : ∀ x, od x ≤ od (gs 0) := by
                intro x
                by_cases c : x = e
                · rw [c, hod1]; exact (hod (gs 0)).1
                · refine (n4 x _ c ?_ (hod x)).1
                  rintro i ⟨c', hc', hce⟩
                  exact hce.symm
              obtain ⟨w, hw⟩ := l3.2
              have h1 := hmax w
              have h2 := l3.1 (gs 0)
              have : od (gs 0) = gx := by omega
              rw [this]
          · rw [if_f q4, if_f q4]
            by_cases q5 : x1 = 5
            · rw [if_t q5, if_t q5, hNr]
              exact ⟨_, _, _, _, _, _, _, _, _, _, _, _, _, _, _, _, _, _, _, rfl, rfl, hC⟩
            · rw [if_f q5, if_f q5]
              exact ⟨_, _, _, _, _, _, _, _, _, _, _, _, _, _, _, _, _, _, _, rfl, rfl, hC⟩
theorem op_name (hC : CS D R cl rf pr fm mul e inv od gk go gc An Ag As Ao Ac) (hR : RS D R cl N fm gm mul e od mw mgn Bf Bm Bk Bn Bo Bx Bg) (x1 x2 : Int32) (Lv : Nat → Int64) (a1 b1 c1 ma mb mc : Int64) :
    ∃ (t v : Int32) (y1 y2 y3 : Int64) (Lv' : Nat → Int64) (m1 m2 m3 : Int64), f_h_name F (i3 D) (i3 (cl : Int)) An a1 b1 c1 Lv x1 x2 = some (t, y1, y2, y3, Lv') ∧ f_m_name F (i6 D) (i3 (cl : Int)) Bf Bm Bn ma mb mc x1 x2 = some (v, t, m1, m2, m3) ∧ (t = 0 → Lv' (0 : Int32).toNatClampNeg = v.toInt64) := by
  obtain ⟨hH, -, -, -, -⟩ := hC
  obtain ⟨hw, hT, hg, -⟩ := hR
  have hcl := hH.2.1.1
  obtain ⟨z, hz, rfl⟩ : ∃ z : Int, r3 z ∧ x1 = i3 z := ⟨_, (i3_of x1).2, (i3_of x1).1⟩
  obtain ⟨w, hw2, rfl⟩ : ∃ z : Int, r3 z ∧ x2 = i3 z := ⟨_, (i3_of x2).2, (i3_of x2).1⟩
  have w1 := hw2.1; have w2 := hw2.2
  have e2 : i3 w ≤ 2 ↔ w ≤ 2 := i3_le (b := 2) hw2 ⟨by decide, by decide⟩
  have e0 := c_lt0 hw2
  have hin := min_s F (x := w) (lo := 0) (hi := 2) ⟨by omega, by omega⟩ ⟨by decide, by decide⟩ ⟨by decide, by decide⟩
  by_cases hk : 0 ≤ z ∧ z < cl
  · obtain ⟨k, rfl⟩ : ∃ k : Nat, z = k := ⟨z.toNat, by omega⟩
    have hkl : k < cl := by omega
    obtain ⟨nb, nrf⟩ := mbeName_s F hH.1 hT hg hcl hkl
    have hset := setTo_s F hH.1 hH.2.1 hkl a1 b1 c1
    by_cases hwv : 0 ≤ w ∧ w ≤ 2
    · have hm : ∃ v : Int32, f_p_name F (i3 D) (i3 (cl : Int)) An a1 b1 c1 (i3 (k : Int)) (i3 w) = some (v, i6 (fm k).1, i6 (fm k).2.1, i6 (fm k).2.2) ∧ f_m_name F (i6 D) (i3 (cl : Int)) Bf Bm Bn ma mb mc (i3 (k : Int)) (i3 w) = some (v, 0, i6 (fm k).1, i6 (fm k).2.1, i6 (fm k).2.2) := by
        have n10 : ¬ (1 : Int32) = 0 := by decide
        have l00 : (0 : Int32) ≤ 0 := by decide
        have h1 : f_m_in F (i6 w) 0 2 = some 1 := hin.1 hwv
        refine ⟨(if i3 w = 0 then i6 (fm k).1 else if i3 w = 1 then i6 (fm k).2.1 else i6 (fm k).2.2).toInt32, ?_, ?_⟩
        · unfold f_p_name
          rw [(isClass_t F hcl hz).1 hk]
          simp only [Option.bind_some, bnd]
          rw [if_f n10, if_f (fun q => by have := e0.mp q; omega), if_t (e2.mpr hwv.2), hset]
          simp only [Option.bind_some]
          by_cases c0 : i3 w = 0
          · rw [if_t c0, if_t c0]
          · rw [if_f c0, if_f c0]
            by_cases c1 : i3 w = 1
            · rw [if_t c1, if_t c1]
            · rw [if_f c1, if_f c1]
        · unfold f_m_name
          rw [(misClass_s F hcl hz).1 hk]
          simp only [Option.bind_some, bnd]
          rw [if_f n10, i36 hw2, h1]
          simp only [Option.bind_some]
          rw [if_f n10, if_t l00, nb]
          simp only [Option.bind_some]
          by_cases c0 : i3 w = 0
          · rw [if_t c0, if_t c0]
          · rw [if_f c0, if_f c0]
            by_cases c1 : i3 w = 1
            · rw [if_t c1, if_t c1]
            · rw [if_f c1, if_f c1]
      obtain ⟨v, h1, h2⟩ := hm
      refine ⟨0, v, i6 (fm k).1, i6 (fm k).2.1, i6 (fm k).2.2, vp_updL Lv (0 : Int32).toNatClampNeg v.toInt64, _, _, _, ?_, h2, fun _ => updL_0 _ _⟩
      unfold f_h_name f_hr_name
      rw [h1]
      simp only [Option.bind_some]
      rw [if_t vin01]
    · refine ⟨1, 0, a1, b1, c1, Lv, ma, mb, mc, ?_, ?_, fun q => absurd q (by decide)⟩
      · have h1 : f_p_name F (i3 D) (i3 (cl : Int)) An a1 b1 c1 (i3 (k : Int)) (i3 w) = none := by
          unfold f_p_name
          rw [(isClass_t F hcl hz).1 hk]
          simp only [Option.bind_some]
          rw [if_f (by decide)]
          by_cases c : w < 0
          · rw [if_t (e0.mpr c)]
          · rw [if_f (fun q => c (e0.mp q)), if_f (fun q => by have := e2.mp q; omega)]
        have h2 : f_x_name F (i3 (cl : Int)) (i3 (k : Int)) (i3 w) = some () := by
          unfold f_x_name
          rw [(isClass_t F hcl hz).1 hk]
          simp only [Option.bind_some]
          rw [if_f (by decide)]
          by_cases c : w < 0
          · rw [if_t (e0.mpr c)]
          · rw [if_f (fun q => c (e0.mp q)), if_f (fun q => by have := e2.mp q; omega)]
        unfold f_h_name f_hr_name f_hx_name
        rw [h1, h2]; rfl
      · unfold f_m_name
        rw [(misClass_s F hcl hz).1 hk]
        simp only [Option.bind_some, bnd]
        have h1 : f_m_in F (i6 w) 0 2 = some 0 := hin.2 hwv
        rw [if_f (by decide), i36 hw2, h1]
        rfl
  · refine ⟨1, 0, a1, b1, c1, Lv, ma, mb, mc, ?_, ?_, fun q => absurd q (by decide)⟩
    · unfold f_h_name f_hr_name f_hx_name f_p_name f_x_name
      rw [(isClass_t F hcl hz).2 hk]; rfl
    · unfold f_m_name
      rw [(misClass_s F hcl hz).2 hk]; rfl
theorem op_product (hF : 10000000 ≤ F) (hC : CS D R cl rf pr fm mul e inv od gk go gc An Ag As Ao Ac) (hR : RS D R cl N fm gm mul e od mw mgn Bf Bm Bk Bn Bo Bx Bg) (x1 x2 : Int32) (Lv : Nat → Int64) (a1 b1 c1 a2 b2 c2 zg z1 z2 ma mb mc : Int64) :
    ∃ (t v : Int32) (y1 y2 y3 y4 y5 y6 y7 y8 y9 : Int64) (Lv' : Nat → Int64) (m1 m2 m3 : Int64), f_h_product F (i3 D) (i3 (R : Int)) (i3 (cl : Int)) An a1 b1 c1 a2 b2 c2 zg z1 z2 Lv x1 x2 = some (t, y1, y2, y3, y4, y5, y6, y7, y8, y9, Lv') ∧ f_m_product F (i6 D) mw (i3 (N : Int)) Bf Bm Bk Bn (i3 (cl : Int)) ma mb mc x1 x2 = some (v, t, m1, m2, m3) ∧ (t = 0 → Lv' (0 : Int32).toNatClampNeg = v.toInt64) := by
  obtain ⟨hH, hG, -, -, -⟩ := hC
  obtain ⟨hw, hT, hg, -⟩ := hR
  have hcl := hH.2.1.1
  obtain ⟨z, hz, rfl⟩ : ∃ z : Int, r3 z ∧ x1 = i3 z := ⟨_, (i3_of x1).2, (i3_of x1).1⟩
  obtain ⟨w, hw2, rfl⟩ : ∃ z : Int, r3 z ∧ x2 = i3 z := ⟨_, (i3_of x2).2, (i3_of x2).1⟩
  by_cases hk : 0 ≤ z ∧ z < cl
  · by_cases hj : 0 ≤ w ∧ w < cl
    · obtain ⟨k, rfl⟩ : ∃ k : Nat, z = k := ⟨z.toNat, by omega⟩
      obtain ⟨j, rfl⟩ : ∃ k : Nat, w = k := ⟨w.toNat, by omega⟩
      obtain ⟨y1, y2, y3, y4, y5, y6, y7, y8, y9, h1⟩ := mg_of F (by omega) hH.1 hH.2.1 hG ⟨k, by omega⟩ ⟨j, by omega⟩ a1 b1 c1 a2 b2 c2 zg z1 z2
      obtain ⟨m1, m2, m3, h2⟩ := (mt_of F hF hH.1 hH.2.1 hG hw hT hg).1 ⟨k, by omega⟩ ⟨j, by omega⟩
      have h1' : f_mult F (i3 D) (i3 (R : Int)) (i3 (cl : Int)) An a1 b1 c1 a2 b2 c2 zg z1 z2 (i3 (k : Int)) (i3 (j : Int)) = _ := h1
      have h2' : f_m_times F (i6 D) mw (i3 (N : Int)) Bf Bm Bk Bn (i3 (k : Int)) (i3 (j : Int)) = _ := h2
      refine ⟨0, i3 (mul ⟨k, by omega⟩ ⟨j, by omega⟩).val, y1, y2, y3, y4, y5, y6, y7, y8, y9, vp_updL Lv (0 : Int32).toNatClampNeg _, m1, m2, m3, ?_, ?_, fun _ => updL_0 _ _⟩
      · unfold f_h_product f_hr_product f_p_product
        rw [(isClass_t F hcl hz).1 hk]
        simp only [Option.bind_some]
        rw [if_f (by decide), (isClass_t F hcl hw2).1 hj]
        simp only [Option.bind_some]
        rw [if_f (by decide), h1']
        simp only [Option.bind_some]
        rw [if_t vin01]
      · unfold f_m_product
        rw [(misClass_s F hcl hz).1 hk]
        simp only [Option.bind_some, bnd]
        rw [if_f (by decide), (misClass_s F hcl hw2).1 hj]
        simp only [Option.bind_some]
        rw [if_f (by decide), if_t (by decide), h2']
        rfl
    · refine ⟨1, 0, a1, b1, c1, a2, b2, c2, zg, z1, z2, Lv, ma, mb, mc, ?_, ?_, fun q => absurd q (by decide)⟩
      · unfold f_h_product f_hr_product f_hx_product f_p_product f_x_product
        rw [(isClass_t F hcl hz).1 hk]
        simp only [Option.bind_some]
        rw [if_f (by decide), if_f (by decide), (isClass_t F hcl hw2).2 hj]
        rfl
      · unfold f_m_product
        rw [(misClass_s F hcl hz).1 hk]
        simp only [Option.bind_some, bnd]
        rw [if_f (by decide), (misClass_s F hcl hw2).2 hj]
        rfl
  · refine ⟨1, 0, a1, b1, c1, a2, b2, c2, zg, z1, z2, Lv, ma, mb, mc, ?_, ?_, fun q => absurd q (by decide)⟩
    · unfold f_h_product f_hr_product f_hx_product f_p_product f_x_product
      rw [(isClass_t F hcl hz).2 hk]; rfl
    · unfold f_m_product
      rw [(misClass_s F hcl hz).2 hk]; rfl
theorem op_inverse (hF : 10000000 ≤ F) (hC : CS D R cl rf pr fm mul e inv od gk go gc An Ag As Ao Ac) (hR : RS D R cl N fm gm mul e od mw mgn Bf Bm Bk Bn Bo Bx Bg) (x1 : Int32) (Lv : Nat → Int64) (a1 b1 c1 ma mb mc : Int64) :
    ∃ (t v : Int32) (y1 y2 y3 : Int64) (Lv' : Nat → Int64) (m1 m2 m3 : Int64), f_h_inverse F (i3 D) (i3 (R : Int)) (i3 (cl : Int)) An a1 b1 c1 Lv x1 = some (t, y1, y2, y3, Lv') ∧ f_m_inverse F (i6 D) mw (i3 (N : Int)) Bf Bm Bk Bn (i3 (cl : Int)) ma mb mc x1 = some (v, t, m1, m2, m3) ∧ (t = 0 → Lv' (0 : Int32).toNatClampNeg = v.toInt64) := by
  obtain ⟨hH, hG, -, -, -⟩ := hC
  obtain ⟨hw, hT, hg, -⟩ := hR
  have hcl := hH.2.1.1
  obtain ⟨z, hz, rfl⟩ : ∃ z : Int, r3 z ∧ x1 = i3 z := ⟨_, (i3_of x1).2, (i3_of x1).1⟩
  by_cases hk : 0 ≤ z ∧ z < cl
  · obtain ⟨k, rfl⟩ : ∃ k : Nat, z = k := ⟨z.toNat, by omega⟩
    have hkl : k < cl := by omega
    have hn := (hH.2.1.2.1 k hkl).1
    obtain ⟨b1', b2', b3', -⟩ := name_bd hH.1 hn
    have := b1'.1; have := b1'.2; have := b2'.1; have := b2'.2; have := b3'.1; have := b3'.2
    have hf : okF D ((fm k).1, -(fm k).2.1, (fm k).2.2) := by
      obtain ⟨h1, ⟨x, y, z, h2⟩, h3⟩ := hn.1
      refine ⟨?_, ⟨x, -y, z, ?_⟩, h3⟩
      · simp only [fdisc] at h1 ⊢; rw [← h1]; grind
      · simp only; rw [← h2]; grind
    obtain ⟨g, i, hi, q1, q2, q3, q4, -⟩ := num_s F (by omega) hH.1 hH.2.1 hf ⟨⟨by simp only; omega, by simp only; omega⟩, ⟨by simp only; omega, by simp only; omega⟩, ⟨by simp only; omega, by simp only; omega⟩⟩
    obtain ⟨i', m1, m2, m3, r1, r2⟩ := mturned_s F hF hH.1 hw hT hg hcl hkl
    have : i' = i := num_uni hH.1 hH.2.1 r1.1 hi (fm_trans (fm_symm r1.2) q4)
    subst this
    have hset := setTo_s F hH.1 hH.2.1 hkl a1 b1 c1
    simp only at q1
    refine ⟨0, i3 (i' : Int), i6 g.1, i6 g.2.1, i6 g.2.2, vp_updL Lv (0 : Int32).toNatClampNeg _, m1, m2, m3, ?_, ?_, fun _ => updL_0 _ _⟩
    · unfold f_h_inverse f_hr_inverse f_p_inverse
      rw [(isClass_t F hcl hz).1 hk]
      simp only [Option.bind_some]
      rw [if_f (by decide), hset]
      simp only [Option.bind_some, f_Form_set]
      rw [i6_neg, q1]
      simp only [Option.bind_some]
      rw [q2]
      simp only [Option.bind_some]
      rw [q3]
      simp only [Option.bind_some]
      rw [if_t vin01]
    · unfold f_m_inverse
      rw [(misClass_s F hcl hz).1 hk]
      simp only [Option.bind_some, bnd]
      rw [if_f (by decide), if_t (by decide), r2]
      rfl
  · refine ⟨1, 0, a1, b1, c1, Lv, ma, mb, mc, ?_, ?_, fun q => absurd q (by decide)⟩
    · unfold f_h_inverse f_hr_inverse f_hx_inverse f_p_inverse f_x_inverse
      rw [(isClass_t F hcl hz).2 hk]; rfl
    · unfold f_m_inverse
      rw [(misClass_s F hcl hz).2 hk]; rfl
end Ops
