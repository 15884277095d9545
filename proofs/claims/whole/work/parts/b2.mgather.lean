/-! The reference: places, classes gathered along the cycles -/
def isTb (D R : Int) (N : Nat) (gm : Nat → FT) (Bf Bm : Nat → Int32) : Prop := (∀ i, i < N → Bf i = i3 (gm i).1 ∧ Bm i = i3 (gm i).2.1) ∧ (∀ i j, i < j → j < N → lt2 (gm i) (gm j)) ∧ ∀ f, isRf D R f ↔ ∃ i, i < N ∧ gm i = f
theorem tb_of {D R : Int} {N : Nat} {gm : Nat → FT} {Bf Bm Bk : Nat → Int32} (h : isLs D R (fun _ => True) N gm Bf Bm Bk) : isTb D R N gm Bf Bm :=
  ⟨fun i hi => ⟨(h.1 i hi).1, (h.1 i hi).2.1⟩, h.2.1, fun f => ⟨fun hf => (h.2.2 f).mp ⟨hf, trivial⟩, fun hf => ((h.2.2 f).mpr hf).1⟩⟩
theorem tb_few {D R : Int} (hO : okD D R) {N : Nat} {gm : Nat → FT} {Bf Bm : Nat → Int32} (h : isTb D R N gm Bf Bm) : N ≤ 7504 :=
  forms_few2 hO (lt2_inj h.2.1) (fun i hi => (h.2.2 (gm i)).mpr ⟨i, hi, rfl⟩)
theorem rf_bd {D R : Int} (hO : okD D R) {f : FT} (h : isRf D R f) : bd 1023 f.1 ∧ bd 1023 f.2.1 ∧ bd 1048576 f.2.2 := by
  rcases Int.lt_or_gt_of_ne (okD_ne hO) with g0 | g0
  · obtain ⟨h1, h2, h3, -⟩ := name_bd hO (f := f) ⟨h.1, h.2, fun q => by omega⟩
    exact ⟨h1, h2, h3⟩
  · have hR := (hO.2.1 g0).1
    obtain ⟨h1, h2, h3, h4, -⟩ := fred_rng hR (hO.2.1 g0).2 hO.1.2.2.2 ((redI_fred hR hO.1.2.2.2 g0 h.1.1).mp h.2) h.1.1
    exact ⟨h1, ⟨by omega, by omega⟩, ⟨by have := h4.1; omega, by have := h4.2; omega⟩⟩
theorem rf_Bd {D R : Int} (hO : okD D R) {f : FT} (h : isRf D R f) : Bd f := by
  obtain ⟨h1, h2, h3⟩ := rf_bd hO h
  exact ⟨⟨by have := h1.1; omega, by have := h1.2; omega⟩, ⟨by have := h2.1; omega, by have := h2.2; omega⟩, ⟨by have := h3.1; omega, by have := h3.2; omega⟩⟩
theorem lt2_key {D R : Int} (hO : okD D R) {f g : FT} (hf : isRf D R f) (hg : isRf D R g) : lt2 f g ↔ keyI f < keyI g := by
  have h2 := (rf_bd hO hf).2.1
  have k2 := (rf_bd hO hg).2.1
  have := h2.1; have := h2.2; have := k2.1; have := k2.2
  simp only [lt2, keyI]
  omega
theorem mplaceL_s (F : Nat) {D R : Int} (hO : okD D R) {N : Nat} {gm : Nat → FT} {Bf Bm : Nat → Int32} (hT : isTb D R N gm Bf Bm) {k : Nat} (hk : k < N) : ∀ (d lo hi n : Nat), hi - lo ≤ d → lo ≤ k → k < hi → hi ≤ N → d + 1 ≤ n →
    f_m_place_L7 F (i6 (gm k).1) (i6 (gm k).2.1) Bf Bm n (i3 (lo : Int)) (i3 (hi : Int)) = some (i3 (k : Int)) := by
  have hN := tb_few hO hT
  have hbk := rf_bd hO ((hT.2.2 (gm k)).mpr ⟨k, hk, rfl⟩)
  have := hbk.1.1; have := hbk.1.2; have := hbk.2.1.1; have := hbk.2.1.2
  intro d
  induction d with
  | zero => intro lo hi n h1 h2 h3; omega
  | succ d ih =>
    intro lo hi n h1 h2 h3 h4 hn
    obtain ⟨n', rfl⟩ : ∃ n', n = n' + 1 := ⟨n - 1, by omega⟩
    have e1 : i3 (hi : Int) - i3 (lo : Int) = i3 ((hi - lo : Nat) : Int) := by rw [i3_sub]; congr 1; omega
    have c0 : i3 ((hi - lo : Nat) : Int) ≤ 1 ↔ hi - lo ≤ 1 := nn_le (m := 1) (by omega) (by omega)
    rw [f_m_place_L7, e1]
    by_cases g : hi - lo ≤ 1
    · rw [if_t (c0.mpr g)]
      congr 2; omega
    · have e2 : (i3 (lo : Int) + i3 (hi : Int)) / 2 = i3 (((lo + hi) / 2 : Nat) : Int) := by
        rw [i3_add]
        show i3 _ / i3 2 = _
        rw [(i3_div (a := (lo : Int) + hi) (b := 2) ⟨by omega, by omega⟩ ⟨by omega, by omega⟩ (by omega) (by omega)).1]
        rfl
      have hmd : (lo + hi) / 2 < N := by omega
      generalize hmm : (lo + hi) / 2 = md at *
      have hbm := rf_bd hO ((hT.2.2 (gm md)).mpr ⟨md, hmd, rfl⟩)
      have := hbm.1.1; have := hbm.1.2; have := hbm.2.1.1; have := hbm.2.1.2
      have eA : (Bf (i3 (md : Int)).toNatClampNeg).toInt64 = i6 (gm md).1 := by rw [nn_n (by omega), (hT.1 md hmd).1, i36 ⟨by omega, by omega⟩]
      have eB : (Bm (i3 (md : Int)).toNatClampNeg).toInt64 = i6 (gm md).2.1 := by rw [nn_n (by omega), (hT.1 md hmd).2, i36 ⟨by omega, by omega⟩]
      rw [if_f (fun q => g (c0.mp q)), e2]
      simp only [bnd]
      rw [if_t (nn_v (by omega) (by omega)), eA, eB]
      have c1 : (0 : Int32) < lg_cmp (i6 (gm md).1) (i6 (gm k).1) ↔ (gm k).1 < (gm md).1 := lc_gt ⟨by omega, by omega⟩ ⟨by omega, by omega⟩
      have c2 : lg_cmp (i6 (gm md).1) (i6 (gm k).1) = 0 ↔ (gm md).1 = (gm k).1 := lc_eq ⟨by omega, by omega⟩ ⟨by omega, by omega⟩
      have c3 : lg_cmp (i6 (gm md).2.1) (i6 (gm k).2.1) ≤ 0 ↔ (gm md).2.1 ≤ (gm k).2.1 := lc_le ⟨by omega, by omega⟩ ⟨by omega, by omega⟩
      have hlo : md ≤ k → f_m_place_L7 F (i6 (gm k).1) (i6 (gm k).2.1) Bf Bm n' (i3 (md : Int)) (i3 (hi : Int)) = some (i3 (k : Int)) := fun q => ih md hi n' (by omega) q h3 h4 (by omega)
      have hhi : k < md → f_m_place_L7 F (i6 (gm k).1) (i6 (gm k).2.1) Bf Bm n' (i3 (lo : Int)) (i3 (md : Int)) = some (i3 (k : Int)) := fun q => ih lo md n' (by omega) h2 q (by omega) (by omega)
      have hord : (md < k → lt2 (gm md) (gm k)) ∧ (k < md → lt2 (gm k) (gm md)) := ⟨fun q => hT.2.1 md k q hk, fun q => hT.2.1 k md q hmd⟩
      by_cases q1 : (gm k).1 < (gm md).1
      · rw [if_t (c1.mpr q1), if_f (by decide)]
        apply hhi
        rcases Nat.lt_trichotomy k md with q | q | q
        · exact q
        · subst q; omega
        · have := hord.1 q; simp only [lt2] at this; omega
      · rw [if_f (fun q => q1 (c1.mp q)), if_t (nn_v (by omega) (by omega))]
        by_cases q2 : (gm md).1 = (gm k).1
        · rw [if_t (c2.mpr q2), if_t (nn_v (by omega) (by omega))]
          by_cases q3 : (gm md).2.1 ≤ (gm k).2.1
          · rw [if_t (c3.mpr q3), if_t trivial]
            apply hlo
            rcases Nat.lt_trichotomy k md with q | q | q
            · have := hord.2 q; simp only [lt2] at this; omega
            · omega
            · omega
          · rw [if_f (fun q => q3 (c3.mp q)), if_f (by decide)]
            apply hhi
            rcases Nat.lt_trichotomy k md with q | q | q
            · exact q
            · subst q; omega
            · have := hord.1 q; simp only [lt2] at this; omega
        · rw [if_f (fun q => q2 (c2.mp q)), if_t trivial]
          apply hlo
          rcases Nat.lt_trichotomy k md with q | q | q
          · have := hord.2 q; simp only [lt2] at this; omega
          · omega
          · omega
theorem mplace_s (F : Nat) (hF : 10000 ≤ F) {D R : Int} (hO : okD D R) {N : Nat} {gm : Nat → FT} {Bf Bm : Nat → Int32} (hT : isTb D R N gm Bf Bm) {k : Nat} (hk : k < N) : f_m_place F (i3 N) Bf Bm (i6 (gm k).1) (i6 (gm k).2.1) = some (i3 (k : Int)) := by
  have hN := tb_few hO hT
  have := mplaceL_s F hO hT hk N 0 N F (by omega) (by omega) hk (Nat.le_refl _) (by omega)
  unfold f_m_place
  have e : f_m_place_L7 F (i6 (gm k).1) (i6 (gm k).2.1) Bf Bm F 0 (i3 N) = _ := this
  rw [e]; rfl
/-- the next form of a cycle -/
def nx (D R : Int) (f : FT) : FT := if 0 < D then rho R f else f
theorem nx_rf {D R : Int} (hO : okD D R) {f : FT} (h : isRf D R f) : isRf D R (nx D R f) ∧ fm_eqv f.1 f.2.1 f.2.2 (nx D R f).1 (nx D R f).2.1 (nx D R f).2.2 := by
  unfold nx
  by_cases g : 0 < D
  · rw [if_pos g]
    have hR := (hO.2.1 g).1
    have hns := hO.1.2.2.2
    have hf := (redI_fred hR hns g h.1.1).mp h.2
    have hd : fdisc (rho R f) = D := by rw [rho_disc]; exact h.1.1
    exact ⟨⟨⟨hd, fm_prim (rho_eqv R f) h.1.2.1, fun q => by omega⟩, (redI_fred hR hns g hd).mpr (rho_fred hR hns hf h.1.1)⟩, rho_eqv R f⟩
  · rw [if_neg g]; exact ⟨h, fm_refl _ _ _⟩
theorem nx_itr {D R : Int} (hO : okD D R) {f : FT} (h : isRf D R f) : ∀ i : Nat, isRf D R (itr (nx D R) i f) ∧ fm_eqv f.1 f.2.1 f.2.2 (itr (nx D R) i f).1 (itr (nx D R) i f).2.1 (itr (nx D R) i f).2.2 := by
  intro i
  induction i with
  | zero => exact ⟨h, fm_refl _ _ _⟩
  | succ i ih =>
    rw [itr_succ]
    have := nx_rf hO ih.1
    exact ⟨this.1, fm_trans ih.2 this.2⟩
theorem nx_same {D R : Int} (hO : okD D R) {f g : FT} (hf : isRf D R f) (hg : isRf D R g) (h : fm_eqv f.1 f.2.1 f.2.2 g.1 g.2.1 g.2.2) : ∃ p, 0 < p ∧ itr (nx D R) p f = f ∧ (∀ t, 0 < t → t < p → itr (nx D R) t f ≠ f) ∧ p ≤ 524288 ∧ ∃ s, s < p ∧ g = itr (nx D R) s f := by
  rcases Int.lt_or_gt_of_ne (okD_ne hO) with g0 | g0
  · have e : f = g := def_same (hf.1.2.2 g0) (hg.1.2.2 g0) (hf.2.1 g0) (hg.2.1 g0) h
    refine ⟨1, by omega, ?_, fun t h1 h2 => by omega, by omega, 0, by omega, e.symm⟩
    show nx D R f = f
    unfold nx; rw [if_neg (by omega)]
  · have hR := (hO.2.1 g0).1
    have hRb := (hO.2.1 g0).2
    have hns := hO.1.2.2.2
    have e : nx D R = rho R := by funext x; unfold nx; rw [if_pos g0]
    have f1 := (redI_fred hR hns g0 hf.1.1).mp hf.2
    have g1 := (redI_fred hR hns g0 hg.1.1).mp hg.2
    rw [e]
    obtain ⟨p, p1, p2, p3, p4⟩ := per_ex hR hRb hns f1 hf.1.1
    refine ⟨p, p1, p3, p4, p2, ?_⟩
    rcases ind_same hR hns f1 g1 hf.1.1 h with ⟨m, hm⟩ | ⟨m, hm⟩
    · exact ⟨m % p, Nat.mod_lt _ p1, by rw [← itr_per p1 p3]; exact hm.symm⟩
    · obtain ⟨q, q1, -, q3, -⟩ := per_ex hR hRb hns g1 hg.1.1
      refine ⟨(q * m - m) % p, Nat.mod_lt _ p1, ?_⟩
      rw [← itr_per p1 p3]
      conv => rhs; rw [← hm]
      rw [← itr_add]
      have e1 : m + (q * m - m) = q * m := by have := Nat.le_mul_of_pos_left m q1; omega
      rw [e1, itr_per q1 q3, Nat.mul_mod_right]; rfl
theorem mgL57_s (F : Nat) (hF : 10000 ≤ F) {D R : Int} (hO : okD D R) {mw : Int64} (hw : isMw D R mw) {N : Nat} {gm : Nat → FT} {Bf Bm : Nat → Int32} (hT : isTb D R N gm Bf Bm) {m : Nat} (hm : m < 2147483648) {f0 : FT} (hf0 : isRf D R f0) {p : Nat} (hp : 0 < p) (hper : itr (nx D R) p f0 = f0) (hmin : ∀ t, 0 < t → t < p → itr (nx D R) t f0 ≠ f0) (hinj : ∀ s t, s < p → t < p → itr (nx D R) s f0 = itr (nx D R) t f0 → s = t) (Bn : Nat → Int32) : ∀ (d t n q : Nat) (Bk : Nat → Int32), t + d = p → d + 1 ≤ n → q < N → gm q = itr (nx D R) t f0 → (∀ s, s < t → ∀ q, q < N → gm q = itr (nx D R) s f0 → Bk q = i3 (m : Int)) → (∀ s, t ≤ s → s < p → ∀ q, q < N → gm q = itr (nx D R) s f0 → Bk q = i3 (-1)) →
    ∃ (Bk' : Nat → Int32) (x y z : Int64), f_m_gather_L57 F (i6 D) mw (i3 N) Bf Bm n (i3 (q : Int)) (i3 (m : Int)) Bk Bn (i6 (itr (nx D R) t f0).1) (i6 (itr (nx D R) t f0).2.1) (i6 (itr (nx D R) t f0).2.2) = some (i3 (m : Int), Bk', Bn, x, y, z) ∧ (∀ q, q < N → (∃ s, s < p ∧ gm q = itr (nx D R) s f0) → Bk' q = i3 (m : Int)) ∧ (∀ q, q < N → (¬ ∃ s, s < p ∧ gm q = itr (nx D R) s f0) → Bk' q = Bk q) := by
  have hN := tb_few hO hT
  have hD1 := hO.1.1; have hD2 := hO.1.2.1
  have hD6 : r6 D := ⟨by omega, by omega⟩
  intro d
  induction d with
  | zero =>
    intro t n q Bk ht hn hq hgq h1 h2
    obtain ⟨n', rfl⟩ : ∃ n', n = n' + 1 := ⟨n - 1, by omega⟩
    have : t = p := by omega
    subst this
    have hBq : Bk (i3 (q : Int)).toNatClampNeg = i3 (m : Int) := by
      rw [nn_n (by omega)]
      exact h1 0 hp q hq (by rw [hgq, hper]; rfl)
    refine ⟨Bk, i6 (itr (nx D R) t f0).1, i6 (itr (nx D R) t f0).2.1, i6 (itr (nx D R) t f0).2.2, ?_, fun q' hq' ⟨s, hs, hs2⟩ => h1 s hs q' hq' hs2, fun _ _ _ => rfl⟩
    rw [f_m_gather_L57, if_t (nn_v (by omega) (by omega)), hBq, if_t ((c_le0 (a := (m : Int)) ⟨by omega, by omega⟩).mpr (by omega))]
  | succ d ih =>
    intro t n q Bk ht hn hq hgq h1 h2
    obtain ⟨n', rfl⟩ : ∃ n', n = n' + 1 := ⟨n - 1, by omega⟩
    have hBq : Bk (i3 (q : Int)).toNatClampNeg = i3 (-1) := by
      rw [nn_n (by omega)]
      exact h2 t (Nat.le_refl _) (by omega) q hq hgq
    have hcur := (nx_itr hO hf0 t).1
    have hnxt := (nx_itr hO hf0 (t + 1)).1
    obtain ⟨q', hq', hgq'⟩ := (hT.2.2 _).mp hnxt
    have hpl := mplace_s F hF hO hT hq'
    rw [hgq'] at hpl
    have hginj := lt2_inj hT.2.1
    obtain ⟨Bk', x, y, z, e1, e2, e3⟩ := ih (t + 1) n' q' (upd Bk q (i3 (m : Int))) (by omega) (by omega) hq' hgq' (fun s hs q2 hq2 hg2 => by
      by_cases c : q2 = q
      · subst c; exact pk_us
      · rw [pk_un c]
        refine h1 s ?_ q2 hq2 hg2
        rcases Nat.lt_or_ge s t with c2 | c2
        · exact c2
        · exfalso
          have : s = t := by omega
          subst this
          exact c (hginj q2 q hq2 hq (by rw [hg2, hgq]))) (fun s hs hs2 q2 hq2 hg2 => by
      rw [pk_un]
      · exact h2 s (by omega) hs2 q2 hq2 hg2
      · rintro rfl
        have := hinj s t hs2 (by omega) (by rw [← hg2, hgq])
        omega)
    refine ⟨Bk', x, y, z, ?_, e2, fun q2 hq2 hno => ?_⟩
    · rw [f_m_gather_L57, if_t (nn_v (by omega) (by omega)), hBq, if_f (by decide), if_t (nn_v (by omega) (by omega)), nn_n (by omega)]
      simp only [bnd]
      rcases Int.lt_or_gt_of_ne (okD_ne hO) with g0 | g0
      · have e : itr (nx D R) (t + 1) f0 = itr (nx D R) t f0 := by rw [itr_succ]; unfold nx; rw [if_neg (by omega)]
        rw [if_t ((l_le0 hD6).mpr (by omega))]
        rw [e] at hpl e1
        rw [hpl]
        exact e1
      · rw [if_f (fun q => by have := (l_le0 hD6).mp q; omega), mstep_s F hO hw (rf_Bd hO hcur) hcur.1.1]
        have hR := (hO.2.1 g0).1
        have e : stI D R (itr (nx D R) t f0) = itr (nx D R) (t + 1) f0 := by
          rw [itr_succ, stI_rho g0 hR (hO.2.1 g0).2 hO.1.2.2.2 ((redI_fred hR hO.1.2.2.2 g0 hcur.1.1).mp hcur.2) hcur.1.1]
          unfold nx; rw [if_pos g0]
        rw [e]
        simp only [Option.bind_some]
        rw [hpl]
        exact e1
    · rw [e3 q2 hq2 hno, pk_un]
      rintro rfl
      exact hno ⟨t, by omega, hgq⟩
theorem nx_inj {D R : Int} (hO : okD D R) {f : FT} (hf : isRf D R f) {p : Nat} (hmin : ∀ t, 0 < t → t < p → itr (nx D R) t f ≠ f) : ∀ s t, s < p → t < p → itr (nx D R) s f = itr (nx D R) t f → s = t := by
  have key : ∀ s t, s < t → t < p → itr (nx D R) s f ≠ itr (nx D R) t f := by
    intro s t hst ht he
    rcases Int.lt_or_gt_of_ne (okD_ne hO) with g0 | g0
    · have : itr (nx D R) t f = f := by
        clear he ht hst
        induction t with
        | zero => rfl
        | succ t ih => rw [itr_succ, ih]; unfold nx; rw [if_neg (by omega)]
      exact hmin t (by omega) ht this
    · have hR := (hO.2.1 g0).1
      have hns := hO.1.2.2.2
      have e : nx D R = rho R := by funext x; unfold nx; rw [if_pos g0]
      rw [e] at he hmin
      have f1 := (redI_fred hR hns g0 hf.1.1).mp hf.2
      have I := itr_rho hR hns f1 hf.1.1 (t - s)
      rw [show t = (t - s) + s by omega, itr_add] at he
      exact hmin (t - s) (by omega) (by omega) (itr_cancel hR hns f1 I.1 hf.1.1 I.2 s he).symm
  intro s t hs ht he
  rcases Nat.lt_trichotomy s t with q | q | q
  · exact absurd he (key s t q ht)
  · exact q
  · exact absurd he.symm (key t s q hs)
/-- every reduced form has its class, whose name has the least key -/
theorem nm_of {D R : Int} (hO : okD D R) {An : Nat → Int32} {cl : Nat} {fm : Nat → FT} (hN : isNF D R An cl fm) {g : FT} (hg : isRf D R g) : ∃ k, k < cl ∧ fm_eqv g.1 g.2.1 g.2.2 (fm k).1 (fm k).2.1 (fm k).2.2 ∧ keyI (fm k) ≤ keyI g := by
  have hns := hO.1.2.2.2
  rcases Int.lt_or_gt_of_ne (okD_ne hO) with g0 | g0
  · obtain ⟨i, hi, e⟩ := hN.2.2.2 g ⟨hg.1, hg.2, fun q => by omega⟩
    exact ⟨i, hi, by rw [e]; exact fm_refl _ _ _, by rw [e]; exact Int.le_refl _⟩
  · have hR := (hO.2.1 g0).1
    have hf := (redI_fred hR hns g0 hg.1.1).mp hg.2
    obtain ⟨r, -, ⟨j, q2⟩, q3⟩ := leastKey_s 1000000 (Nat.le_refl _) hO g0 hf hg.1
    have hI := itr_rho hR hns hf hg.1.1 j
    have he := rho_itr_eqv R g j
    have hname : isName D R (itr (rho R) j g) := (name_p hO g0).mpr ⟨⟨hI.2, fm_prim he hg.1.2.1, fun q => by omega⟩, hI.1, fun m => by
      rw [← itr_add, ← q2]; exact q3 _⟩
    obtain ⟨i, hi, e⟩ := hN.2.2.2 _ hname
    exact ⟨i, hi, by rw [e]; exact he, by rw [e, ← q2]; exact q3 0⟩
/-- what the reference has gathered -/
def isGt (cl : Nat) (fm : Nat → FT) (N : Nat) (gm : Nat → FT) (Bk Bn : Nat → Int32) : Prop := (∀ q, q < N → ∃ k, k < cl ∧ Bk q = i3 (k : Int) ∧ fm_eqv (gm q).1 (gm q).2.1 (gm q).2.2 (fm k).1 (fm k).2.1 (fm k).2.2) ∧ ∀ k, k < cl → ∃ q, q < N ∧ Bn k = i3 (q : Int) ∧ gm q = fm k
theorem mgL7_s (F : Nat) (hF : 10000000 ≤ F) {D R : Int} (hO : okD D R) {mw : Int64} (hw : isMw D R mw) {N : Nat} {gm : Nat → FT} {Bf Bm : Nat → Int32} (hT : isTb D R N gm Bf Bm) {An : Nat → Int32} {cl : Nat} {fm : Nat → FT} (hN : isNF D R An cl fm) : ∀ (d i n m : Nat) (Bk Bn : Nat → Int32) (ma mb mc : Int64), i + d = N → d + 1 ≤ n → m ≤ cl → (∀ k, k < m → ∃ q, q < i ∧ Bn k = i3 (q : Int) ∧ gm q = fm k) → (∀ k, m ≤ k → k < cl → ∀ q, q < N → gm q = fm k → i ≤ q) → (∀ q, q < N → ∃ k, k < cl ∧ fm_eqv (gm q).1 (gm q).2.1 (gm q).2.2 (fm k).1 (fm k).2.1 (fm k).2.2 ∧ ((k < m ∧ Bk q = i3 (k : Int)) ∨ (m ≤ k ∧ Bk q = i3 (-1)))) →
    ∃ (Bk' Bn' : Nat → Int32) (x y z : Int64), f_m_gather_L7 F (i6 D) mw (i3 N) Bf Bm n (i3 (i : Int)) (i3 (m : Int)) Bk Bn ma mb mc = some (i3 (cl : Int), Bk', Bn', x, y, z) ∧ isGt cl fm N gm Bk' Bn' := by
  have hNN := tb_few hO hT
  have hcl := hN.1
  have hginj := lt2_inj hT.2.1
  have hrf : ∀ q, q < N → isRf D R (gm q) := fun q hq => (hT.2.2 _).mpr ⟨q, hq, rfl⟩
  have hfm : ∀ k, k < cl → isRf D R (fm k) := fun k hk => ⟨(hN.2.1 k hk).1.1, (hN.2.1 k hk).1.2.1⟩
  have hix : ∀ k, k < cl → ∃ q, q < N ∧ gm q = fm k := fun k hk => (hT.2.2 _).mp (hfm k hk)
  have hklt : ∀ q q', q < N → q' < N → keyI (gm q) ≤ keyI (gm q') → q ≤ q' := by
    intro q q' hq hq' hle
    rcases Nat.lt_or_ge q' q with c | c
    · have := (lt2_key hO (hrf q' hq') (hrf q hq)).mp (hT.2.1 q' q c hq)
      omega
    · exact c
  intro d
  induction d with
  | zero =>
    intro i n m Bk Bn ma mb mc hi hn hm h1 h2 h3
    obtain ⟨n', rfl⟩ : ∃ n', n = n' + 1 := ⟨n - 1, by omega⟩
    have hmc : m = cl := by
      rcases Nat.lt_or_ge m cl with c | c
      · obtain ⟨q, hq, he⟩ := hix m c
        have := h2 m (Nat.le_refl _) c q hq he
        omega
      · omega
    subst hmc
    refine ⟨Bk, Bn, ma, mb, mc, ?_, ?_, ?_⟩
    · rw [f_m_gather_L7, if_t ((nn_le (by omega) (by omega)).mpr (by omega))]
    · intro q hq
      obtain ⟨k, k1, k2, k3⟩ := h3 q hq
      rcases k3 with k3 | k3
      · exact ⟨k, k1, k3.2, k2⟩
      · omega
    · intro k hk
      obtain ⟨q, q1, q2, q3⟩ := h1 k hk
      exact ⟨q, by omega, q2, q3⟩
  | succ d ih =>
    intro i n m Bk Bn ma mb mc hi hn hm h1 h2 h3
    obtain ⟨n', rfl⟩ : ∃ n', n = n' + 1 := ⟨n - 1, by omega⟩
    have hiN : i < N := by omega
    obtain ⟨k, k1, k2, k3⟩ := h3 i hiN
    rw [f_m_gather_L7, if_f (fun q => by have := (nn_le (by omega) (by omega)).mp q; omega), if_t (nn_v (by omega) (by omega))]
    rcases k3 with ⟨k3, k4⟩ | ⟨k3, k4⟩
    · have hB : Bk (i3 (i : Int)).toNatClampNeg = i3 (k : Int) := by rw [nn_n (by omega)]; exact k4
      rw [hB, if_f (fun q => by have := (c_lt0 (a := (k : Int)) ⟨by omega, by omega⟩).mp q; omega), nn_s]
      refine ih (i + 1) n' m Bk Bn ma mb mc (by omega) (by omega) hm (fun k hk => ?_) (fun k' hk1 hk2 q hq he => ?_) h3
      · obtain ⟨q, q1, q2, q3⟩ := h1 k hk
        exact ⟨q, by omega, q2, q3⟩
      · have := h2 k' hk1 hk2 q hq he
        by_cases c : q = i
        · subst c
          rw [he] at k2
          have := num_uni hO hN hk2 k1 k2
          omega
        · omega
    · have hB : Bk (i3 (i : Int)).toNatClampNeg = i3 (-1) := by rw [nn_n (by omega)]; exact k4
      -- it is the name of class m
      obtain ⟨k', k1', k2', k3'⟩ := nm_of hO hN (hrf i hiN)
      have ekk : k' = k := num_uni hO hN k1' k1 (fm_trans (fm_symm k2') k2)
      subst ekk
      obtain ⟨q, hq, hqe⟩ := hix k' k1
      have q1 := h2 k' k3 k1 q hq hqe
      have q2 : q ≤ i := hklt q i hq hiN (by rw [hqe]; exact k3')
      have q3 : q = i := by omega
      subst q3
      have hkm : k' = m := by
        rcases Nat.lt_or_ge m k' with c | c
        · obtain ⟨r, hr, hre⟩ := hix m (by omega)
          have r1 := h2 m (Nat.le_refl _) (by omega) r hr hre
          have r2 := hN.2.2.1 m k' c k1
          rw [← hre, ← hqe] at r2
          have r3 := hklt r q hr hq (by omega)
          have : r = q := by omega
          subst this
          omega
        · omega
      subst hkm
      have hbi := rf_bd hO (hrf q hq)
      have := hbi.1.1; have := hbi.1.2; have := hbi.2.1.1; have := hbi.2.1.2
      have hgq := hrf q hq
      have hbe : f_m_be F (i6 D) (Bf (i3 (q : Int)).toNatClampNeg).toInt64 (Bm (i3 (q : Int)).toNatClampNeg).toInt64 = some (i6 (gm q).1, i6 (gm q).2.1, i6 (gm q).2.2) := by
        rw [nn_n (by omega), (hT.1 q hq).1, (hT.1 q hq).2, i36 ⟨by omega, by omega⟩, i36 ⟨by omega, by omega⟩]
        have hd : (gm q).2.1 * (gm q).2.1 - 4 * (gm q).1 * (gm q).2.2 = D := hgq.1.1
        exact mbe_s F ⟨by have := hO.1.1; omega, by have := hO.1.2.1; omega⟩ ⟨by omega, by omega⟩ (a_ne hO.1.2.2.2 hgq.1.1) ⟨by omega, by omega⟩ (by omega)
      rw [hB, if_t (by decide), if_t (nn_v (by omega) (by omega)), if_t (nn_v (by omega) (by omega)), hbe]
      simp only [Option.bind_some]
      rw [if_t (nn_v (by omega) (by omega)), nn_n (n := k') (by omega)]
      obtain ⟨p, p1, p2, p3, p4, -⟩ := nx_same hO hgq hgq (fm_refl _ _ _)
      have hinj := nx_inj hO hgq p3
      have hcyc : ∀ r, r < N → ((∃ s, s < p ∧ gm r = itr (nx D R) s (gm q)) ↔ fm_eqv (gm q).1 (gm q).2.1 (gm q).2.2 (gm r).1 (gm r).2.1 (gm r).2.2) := by
        intro r hr
        constructor
        · rintro ⟨s, -, hs⟩
          rw [hs]; exact (nx_itr hO hgq s).2
        · intro he
          obtain ⟨p', p1', p2', p3', -, s, hs, hs2⟩ := nx_same hO hgq (hrf r hr) he
          have : p' = p := by
            rcases Nat.lt_trichotomy p' p with c | c | c
            · exact absurd p2' (p3 p' p1' c)
            · exact c
            · exact absurd p2 (p3' p p1 c)
          subst this
          exact ⟨s, hs, hs2⟩
      have hcls : ∀ r, r < N → fm_eqv (gm q).1 (gm q).2.1 (gm q).2.2 (gm r).1 (gm r).2.1 (gm r).2.2 → Bk r = i3 (-1) := by
        intro r hr he
        obtain ⟨k, kk1, kk2, kk3⟩ := h3 r hr
        have : k = k' := num_uni hO hN kk1 k1 (fm_trans (fm_symm kk2) (fm_trans (fm_symm he) k2))
        subst this
        rcases kk3 with c | c
        · omega
        · exact c.2
      obtain ⟨Bk1, x, y, z, e1, e2, e3⟩ := mgL57_s F (by omega) hO hw hT (m := k') (by omega) hgq p1 p2 p3 hinj (upd Bn k' (i3 (q : Int))) p 0 F q Bk (by omega) (by omega) hq rfl (fun s hs => absurd hs (by omega)) (fun s _ hs2 r hr hre => hcls r hr ((hcyc r hr).mp ⟨s, hs2, hre⟩))
      have e1' : f_m_gather_L57 F (i6 D) mw (i3 N) Bf Bm F (i3 (q : Int)) (i3 (k' : Int)) Bk (upd Bn k' (i3 (q : Int))) (i6 (gm q).1) (i6 (gm q).2.1) (i6 (gm q).2.2) = _ := e1
      simp only [bnd]
      rw [e1']
      simp only [Option.bind_some]
      rw [nn_s, nn_s]
      refine ih (q + 1) n' (k' + 1) Bk1 (upd Bn k' (i3 (q : Int))) x y z (by omega) (by omega) (by omega) (fun k hk => ?_) (fun k hk1 hk2 r hr he => ?_) (fun r hr => ?_)
      · by_cases c : k = k'
        · subst c
          exact ⟨q, by omega, pk_us, hqe⟩
        · obtain ⟨r, r1, r2, r3⟩ := h1 k (by omega)
          exact ⟨r, by omega, by rw [pk_un c]; exact r2, r3⟩
      · have := h2 k (by omega) hk2 r hr he
        by_cases c : r = q
        · subst c
          have := num_uni hO hN hk2 k1 (by rw [← he, ← hqe]; exact fm_refl _ _ _)
          omega
        · omega
      · obtain ⟨k, kk1, kk2, kk3⟩ := h3 r hr
        refine ⟨k, kk1, kk2, ?_⟩
        by_cases c : k = k'
        · subst c
          refine Or.inl ⟨by omega, e2 r hr ((hcyc r hr).mpr (fm_trans k2 (fm_symm kk2)))⟩
        · have hno : ¬ ∃ s, s < p ∧ gm r = itr (nx D R) s (gm q) := fun h => c (num_uni hO hN kk1 k1 (fm_trans (fm_symm kk2) (fm_trans (fm_symm ((hcyc r hr).mp h)) k2)))
          rw [e3 r hr hno]
          rcases kk3 with kk3 | kk3
          · exact Or.inl ⟨by omega, kk3.2⟩
          · exact Or.inr ⟨by omega, kk3.2⟩
theorem mgather_s (F : Nat) (hF : 10000000 ≤ F) {D R : Int} (hO : okD D R) {mw : Int64} (hw : isMw D R mw) {N : Nat} {gm : Nat → FT} {Bf Bm Bk : Nat → Int32} (hL : isLs D R (fun _ => True) N gm Bf Bm Bk) {An : Nat → Int32} {cl : Nat} {fm : Nat → FT} (hN : isNF D R An cl fm) (Bn : Nat → Int32) (ma mb mc : Int64) :
    ∃ (Bk' Bn' : Nat → Int32) (x y z : Int64), f_m_gather F (i6 D) mw (i3 N) Bf Bm Bk Bn ma mb mc = some (i3 (cl : Int), Bk', Bn', x, y, z) ∧ isGt cl fm N gm Bk' Bn' := by
  have hT := tb_of hL
  have hNN := tb_few hO hT
  obtain ⟨Bk', Bn', x, y, z, e1, e2⟩ := mgL7_s F hF hO hw hT hN N 0 F 0 Bk Bn ma mb mc (by omega) (by omega) (by omega) (fun k hk => absurd hk (by omega)) (fun k _ _ q _ _ => by omega) (fun q hq => by
    obtain ⟨k, k1, k2, -⟩ := nm_of hO hN ((hT.2.2 _).mpr ⟨q, hq, rfl⟩)
    exact ⟨k, k1, k2, Or.inr ⟨by omega, (hL.1 q hq).2.2⟩⟩)
  refine ⟨Bk', Bn', x, y, z, ?_, e2⟩
  unfold f_m_gather
  have e1' : f_m_gather_L7 F (i6 D) mw (i3 N) Bf Bm F 0 0 Bk Bn ma mb mc = _ := e1
  rw [e1']; rfl
theorem mfound_s (F : Nat) (hF : 10000000 ≤ F) {D R : Int} (hO : okD D R) {mw : Int64} (hw : isMw D R mw) {N : Nat} {gm : Nat → FT} {Bf Bm : Nat → Int32} (hT : isTb D R N gm Bf Bm) {cl : Nat} {fm : Nat → FT} {Bk Bn : Nat → Int32} (hG : isGt cl fm N gm Bk Bn) {f : FT} (hf : okF D f) (hB : Bd f) :
    ∃ (k : Nat) (x y z : Int64), k < cl ∧ f_m_found F (i6 D) mw (i3 N) Bf Bm Bk (i6 f.1) (i6 f.2.1) (i6 f.2.2) = some (i3 (k : Int), x, y, z) ∧ fm_eqv f.1 f.2.1 f.2.2 (fm k).1 (fm k).2.1 (fm k).2.2 := by
  have hNN := tb_few hO hT
  obtain ⟨m, m1, m2, m3⟩ := red_ex hO hf hB
  have e1 := mredL_s F hO hw m f F hf hB m2 m3 (by omega)
  have ho := itr_ok hO hf hB m
  obtain ⟨q, hq, hqe⟩ := (hT.2.2 _).mp ⟨ho.1, m2⟩
  have e2 := mplace_s F (by omega) hO hT hq
  rw [hqe] at e2
  obtain ⟨k, k1, k2, k3⟩ := hG.1 q hq
  refine ⟨k, i6 (itr (stI D R) m f).1, i6 (itr (stI D R) m f).2.1, i6 (itr (stI D R) m f).2.2, k1, ?_, fm_trans (itr_eqv D R f m) (by rw [← hqe]; exact k3)⟩
  unfold f_m_found
  rw [e1]
  simp only [Option.bind_some]
  rw [e2]
  simp only [Option.bind_some]
  have e3 : Bk (i3 (q : Int)).toNatClampNeg = i3 (k : Int) := by rw [nn_n (by omega)]; exact k2
  rw [if_t (nn_v (by omega) (by omega)), e3]
