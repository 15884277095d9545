/-! The reference: orders, powers, what is apart -/
def MT (F : Nat) (D : Int) (mw : Int64) (N cl : Nat) (Bf Bm Bk Bn : Nat → Int32) (mul : Fin cl → Fin cl → Fin cl) : Prop := ∀ i j : Fin cl, ∃ x y z : Int64, f_m_times F (i6 D) mw (i3 N) Bf Bm Bk Bn (i3 i.val) (i3 j.val) = some (i3 (mul i j).val, x, y, z)
section Mor
variable {F : Nat} {D : Int} {mw : Int64} {N cl : Nat} {Bf Bm Bk Bn : Nat → Int32} {mul : Fin cl → Fin cl → Fin cl} {e : Fin cl} {inv : Fin cl → Fin cl} {od : Fin cl → Nat}
theorem msrL_s (hM : MT F D mw N cl Bf Bm Bk Bn mul) (hcl : cl ≤ 1908) {k : Fin cl} {o : Nat} (ho : isOrd mul e k o) (hoc : o ≤ cl) : ∀ (d j n : Nat) (Bl : Nat → Int32) (ma mb mc : Int64), j + d + 1 = o → d + 2 ≤ n → (∀ i, i < j → Bl i = i3 (gp mul e k (i + 1)).val) →
    ∃ (Bl' : Nat → Int32) (x y z : Int64), f_m_measure_L12 F (i6 D) mw (i3 N) (i3 e.val) Bf Bm Bk Bn (i3 k.val) n (i3 (gp mul e k j).val) 1 (i3 (j : Int)) Bl ma mb mc = some (i3 o, Bl', x, y, z) ∧ ∀ i, i < o → Bl' i = i3 (gp mul e k (i + 1)).val := by
  intro d
  induction d with
  | zero =>
    intro j n Bl ma mb mc hj hn hB
    obtain ⟨n', rfl⟩ : ∃ n', n = n' + 1 + 1 := ⟨n - 2, by omega⟩
    obtain ⟨x, y, z, hm⟩ := hM (gp mul e k j) k
    have he : mul (gp mul e k j) k = e := by
      have := ho.2.1
      rw [← hj] at this; exact this
    have hgl : gp mul e k (j + 1) = e := he
    rw [he] at hm
    refine ⟨upd Bl j (i3 e.val), x, y, z, ?_, fun i hi => ?_⟩
    · rw [f_m_measure_L12, if_f (by decide), hm]
      simp only [Option.bind_some, bnd]
      rw [if_t (nn_v (by omega) (by omega)), if_t trivial, nn_n (by omega), nn_s, f_m_measure_L12, if_t rfl, show j + 1 = o by omega]
    · rcases Nat.lt_or_ge i j with q | q
      · rw [pk_un (by omega)]; exact hB i q
      · have : i = j := by omega
        subst this; rw [hgl]; exact pk_us
  | succ d ih =>
    intro j n Bl ma mb mc hj hn hB
    obtain ⟨n', rfl⟩ : ∃ n', n = n' + 1 := ⟨n - 1, by omega⟩
    obtain ⟨x, y, z, hm⟩ := hM (gp mul e k j) k
    have hm' : f_m_times F (i6 D) mw (i3 N) Bf Bm Bk Bn (i3 (gp mul e k j).val) (i3 k.val) = some (i3 (gp mul e k (j + 1)).val, x, y, z) := hm
    have hne : gp mul e k (j + 1) ≠ e := ho.2.2 (j + 1) (by omega) (by omega)
    have c1 := (gp mul e k (j + 1)).isLt
    have c2 := e.isLt
    obtain ⟨Bl', x', y', z', h1, h2⟩ := ih (j + 1) n' (upd Bl j (i3 (gp mul e k (j + 1)).val)) x y z (by omega) (by omega) (fun i hi => by
      rcases Nat.lt_or_ge i j with q | q
      · rw [pk_un (by omega)]; exact hB i q
      · have : i = j := by omega
        subst this; exact pk_us)
    refine ⟨Bl', x', y', z', ?_, h2⟩
    rw [f_m_measure_L12, if_f (by decide), hm']
    simp only [Option.bind_some, bnd]
    rw [if_t (nn_v (by omega) (by omega)), if_f (fun q => hne (Fin.ext ((nn_eq (by omega) (by omega)).mp q))), nn_n (by omega), nn_s]
    exact h1
theorem msr63_s (G : isG mul e inv) (hod : ∀ x, isOrd mul e x (od x)) (hcl : cl ≤ 1908) (hF : 10000000 ≤ F) {k : Fin cl} {Bl : Nat → Int32} (hB : ∀ i, i < od k → Bl i = i3 (gp mul e k (i + 1)).val) : ∀ (d j n : Nat) (Bo : Nat → Int32), j + d = od k → d + 1 ≤ n →
    ∃ Bo', f_m_measure_L63 F (i3 (od k)) Bl n (i3 (j : Int)) Bo = some Bo' ∧ ∀ x : Fin cl, ((∃ i, j ≤ i ∧ i < od k ∧ gp mul e k (i + 1) = x) → Bo' x.val = i3 (od x)) ∧ ((¬ ∃ i, j ≤ i ∧ i < od k ∧ gp mul e k (i + 1) = x) → Bo' x.val = Bo x.val) := by
  have hoc := od_cl G hod k
  intro d
  induction d with
  | zero =>
    intro j n Bo hj hn
    obtain ⟨n', rfl⟩ : ∃ n', n = n' + 1 := ⟨n - 1, by omega⟩
    refine ⟨Bo, ?_, fun x => ⟨fun ⟨i, h1, h2, _⟩ => absurd h2 (by omega), fun _ => rfl⟩⟩
    rw [f_m_measure_L63, if_t ((nn_le (by omega) (by omega)).mpr (by omega))]
  | succ d ih =>
    intro j n Bo hj hn
    obtain ⟨n', rfl⟩ : ∃ n', n = n' + 1 := ⟨n - 1, by omega⟩
    have hlt := (gp mul e k (j + 1)).isLt
    obtain ⟨Bo', h1, h2⟩ := ih (j + 1) n' (upd Bo (gp mul e k (j + 1)).val (i3 (od (gp mul e k (j + 1))))) (by omega) (by omega)
    refine ⟨Bo', ?_, fun x => ⟨fun hx => ?_, fun hx => ?_⟩⟩
    · have hBj : Bl (i3 (j : Int)).toNatClampNeg = i3 (gp mul e k (j + 1)).val := by rw [nn_n (by omega)]; exact hB j (by omega)
      have hg0 : 0 < Nat.gcd (od k) (j + 1) := Nat.gcd_pos_of_pos_left _ (by omega)
      have hgl : Nat.gcd (od k) (j + 1) ≤ od k := Nat.gcd_le_left _ (by omega)
      have hcom : f_m_common F ((i3 (od k : Int)).toInt64) ((i3 (j : Int) + 1).toInt64) = some (i6 (Nat.gcd (od k) (j + 1) : Nat)) := by
        rw [nn_s, i36 ⟨by omega, by omega⟩, i36 ⟨by omega, by omega⟩, mcom_s F ⟨by omega, by omega⟩ ⟨by omega, by omega⟩ ⟨by omega, by omega⟩ ⟨by omega, by omega⟩ (by omega)]
        rfl
      have hz : ¬ i3 ((Nat.gcd (od k) (j + 1) : Nat) : Int) = 0 := fun q => by have := (c_eq0 (a := ((Nat.gcd (od k) (j + 1) : Nat) : Int)) ⟨by omega, by omega⟩).mp q; omega
      rw [f_m_measure_L63, if_f (fun q => by have := (nn_le (by omega) (by omega)).mp q; omega), if_t (nn_v (by omega) (by omega)), hcom]
      simp only [Option.bind_some]
      have ed := i3_div (a := (od k : Int)) (b := ((Nat.gcd (od k) (j + 1) : Nat) : Int)) ⟨by omega, by omega⟩ ⟨by omega, by omega⟩ (by omega) (by omega)
      rw [i63, if_t hz, hBj, if_t (nn_v (by omega) (by omega)), nn_n (by omega), ed.1, ← Int.ofNat_tdiv, ← ord_uni G (hod (gp mul e k (j + 1))) (ord_pow G (hod k) (j + 1)), nn_s]
      exact h1
    · by_cases hx2 : ∃ i, j + 1 ≤ i ∧ i < od k ∧ gp mul e k (i + 1) = x
      · exact (h2 x).1 hx2
      · rw [(h2 x).2 hx2]
        obtain ⟨i, i1, i2, i3'⟩ := hx
        have : i = j := by
          rcases Nat.lt_or_ge j i with q | q
          · exact absurd ⟨i, by omega, i2, i3'⟩ hx2
          · omega
        subst this
        rw [← i3']; exact pk_us
    · rw [(h2 x).2 (fun ⟨i, i1, i2, i3'⟩ => hx ⟨i, by omega, i2, i3'⟩), pk_un]
      intro hh
      exact hx ⟨j, Nat.le_refl _, by omega, Fin.ext hh.symm⟩
theorem msr_s (hM : MT F D mw N cl Bf Bm Bk Bn mul) (G : isG mul e inv) (hod : ∀ x, isOrd mul e x (od x)) (hcl : cl ≤ 1908) (hF : 10000000 ≤ F) (k : Fin cl) (Bo Bl : Nat → Int32) (ma mb mc : Int64) :
    ∃ (m : Nat) (Bo' Bl' : Nat → Int32) (x y z : Int64), f_m_measure F (i6 D) mw (i3 N) Bf Bm Bk Bn (i3 e.val) Bo Bl ma mb mc (i3 k.val) = some (i3 (m : Int), Bo', Bl', x, y, z) ∧ ∀ x : Fin cl, ((∃ i, gp mul e k i = x) → Bo' x.val = i3 (od x)) ∧ ((¬ ∃ i, gp mul e k i = x) → Bo' x.val = Bo x.val) := by
  have hoc := od_cl G hod k
  obtain ⟨Bl', x, y, z, h1, h2⟩ := msrL_s hM hcl (hod k) hoc.2 (od k - 1) 0 F Bl ma mb mc (by omega) (by omega) (fun i hi => absurd hi (by omega))
  obtain ⟨Bo', h3, h4⟩ := msr63_s (F := F) G hod hcl hF h2 (od k) 0 F Bo (by omega) (by omega)
  refine ⟨od k, Bo', Bl', x, y, z, ?_, fun x => ⟨fun ⟨i, hi⟩ => ?_, fun hx => (h4 x).2 (fun ⟨i, _, _, hi⟩ => hx ⟨i + 1, hi⟩)⟩⟩
  · unfold f_m_measure
    have e0 : f_m_measure_L12 F (i6 D) mw (i3 N) (i3 e.val) Bf Bm Bk Bn (i3 k.val) F (i3 e.val) 1 0 Bl ma mb mc = _ := h1
    rw [e0]
    simp only [Option.bind_some]
    have e1 : f_m_measure_L63 F (i3 (od k : Int)) Bl' F 0 Bo = _ := h3
    rw [e1]; rfl
  · have hm := Nat.mod_lt i hoc.1
    have e1 := gp_red G (hod k) i
    by_cases q : i % od k = 0
    · refine (h4 x).1 ⟨od k - 1, by omega, by omega, ?_⟩
      rw [show od k - 1 + 1 = od k by omega, (hod k).2.1, ← hi, e1, q]; rfl
    · refine (h4 x).1 ⟨i % od k - 1, by omega, by omega, ?_⟩
      rw [show i % od k - 1 + 1 = i % od k by omega, ← e1]; exact hi
theorem mb72_s : ∀ (d j n : Nat) (Bo : Nat → Int32), cl ≤ 1908 → j + d = cl → d + 1 ≤ n → ∃ Bo', f_m_begin_L72 F (i3 (cl : Int)) n (i3 (j : Int)) Bo = some Bo' ∧ (∀ i, j ≤ i → i < cl → Bo' i = 0) ∧ ∀ i, i < j → Bo' i = Bo i := by
  intro d
  induction d with
  | zero =>
    intro j n Bo hcl hj hn
    obtain ⟨n', rfl⟩ : ∃ n', n = n' + 1 := ⟨n - 1, by omega⟩
    refine ⟨Bo, ?_, fun i h1 h2 => absurd h2 (by omega), fun _ _ => rfl⟩
    rw [f_m_begin_L72, if_t ((nn_le (by omega) (by omega)).mpr (by omega))]
  | succ d ih =>
    intro j n Bo hcl hj hn
    obtain ⟨n', rfl⟩ : ∃ n', n = n' + 1 := ⟨n - 1, by omega⟩
    obtain ⟨Bo', h1, h2, h3⟩ := ih (j + 1) n' (upd Bo j 0) hcl (by omega) (by omega)
    refine ⟨Bo', ?_, fun i hi hi2 => ?_, fun i hi => by rw [h3 i (by omega), pk_un (by omega)]⟩
    · rw [f_m_begin_L72, if_f (fun q => by have := (nn_le (by omega) (by omega)).mp q; omega), if_t (nn_v (by omega) (by omega)), nn_n (by omega), nn_s]
      exact h1
    · rcases Nat.lt_or_ge j i with q | q
      · exact h2 i q hi2
      · have : i = j := by omega
        subst this
        rw [h3 i (by omega)]; exact pk_us
theorem mb95_s (hM : MT F D mw N cl Bf Bm Bk Bn mul) (G : isG mul e inv) (hod : ∀ x, isOrd mul e x (od x)) (hcl : cl ≤ 1908) (hF : 10000000 ≤ F) : ∀ (d j n : Nat) (mli : Int32) (Bo Bl : Nat → Int32) (ma mb mc : Int64), j + d = cl → d + 1 ≤ n → (∀ x : Fin cl, Bo x.val = i3 (0 : Nat) ∨ Bo x.val = i3 (od x)) → (∀ x : Fin cl, x.val < j → Bo x.val = i3 (od x)) →
    ∃ (m' : Int32) (Bo' Bl' : Nat → Int32) (x y z : Int64), f_m_begin_L95 F (i6 D) mw (i3 N) Bf Bm (i3 (cl : Int)) Bk Bn (i3 e.val) n (i3 (j : Int)) mli Bo Bl ma mb mc = some (m', Bo', Bl', x, y, z) ∧ ∀ x : Fin cl, Bo' x.val = i3 (od x) := by
  intro d
  induction d with
  | zero =>
    intro j n mli Bo Bl ma mb mc hj hn hA hB
    obtain ⟨n', rfl⟩ : ∃ n', n = n' + 1 := ⟨n - 1, by omega⟩
    refine ⟨mli, Bo, Bl, ma, mb, mc, ?_, fun x => hB x (by have := x.isLt; omega)⟩
    rw [f_m_begin_L95, if_t ((nn_le (by omega) (by omega)).mpr (by omega))]
  | succ d ih =>
    intro j n mli Bo Bl ma mb mc hj hn hA hB
    obtain ⟨n', rfl⟩ : ∃ n', n = n' + 1 := ⟨n - 1, by omega⟩
    have hj' : j < cl := by omega
    have ho := od_cl G hod ⟨j, hj'⟩
    rw [f_m_begin_L95, if_f (fun q => by have := (nn_le (by omega) (by omega)).mp q; omega), if_t (nn_v (by omega) (by omega)), nn_n (by omega)]
    rcases hA ⟨j, hj'⟩ with h | h
    · have h' : Bo j = 0 := h
      obtain ⟨m1, Bo1, Bl1, x, y, z, h1, h2⟩ := msr_s hM G hod hcl hF ⟨j, hj'⟩ Bo Bl ma mb mc
      have h1' : f_m_measure F (i6 D) mw (i3 N) Bf Bm Bk Bn (i3 e.val) Bo Bl ma mb mc (i3 (j : Int)) = _ := h1
      rw [if_t h', h1']
      simp only [Option.bind_some]
      rw [nn_s]
      refine ih (j + 1) n' _ Bo1 Bl1 x y z (by omega) (by omega) (fun w => ?_) (fun w hw => ?_)
      · by_cases hx : ∃ i, gp mul e ⟨j, hj'⟩ i = w
        · exact Or.inr ((h2 w).1 hx)
        · rw [(h2 w).2 hx]; exact hA w
      · by_cases hx : ∃ i, gp mul e ⟨j, hj'⟩ i = w
        · exact (h2 w).1 hx
        · rw [(h2 w).2 hx]
          refine hB w ?_
          rcases Nat.lt_or_ge w.val j with q | q
          · exact q
          · exfalso
            apply hx
            refine ⟨1, ?_⟩
            rw [gp_one G]
            exact Fin.ext (by show j = w.val; omega)
    · have hz : ¬ Bo j = 0 := fun q => by
        have h' : Bo j = i3 (od ⟨j, hj'⟩) := h
        rw [h'] at q
        have := (c_eq0 (a := (od ⟨j, hj'⟩ : Int)) ⟨by omega, by omega⟩).mp q
        omega
      rw [if_f hz, nn_s]
      refine ih (j + 1) n' mli Bo Bl ma mb mc (by omega) (by omega) hA (fun w hw => ?_)
      rcases Nat.lt_or_ge w.val j with q | q
      · exact hB w q
      · have : w = ⟨j, hj'⟩ := Fin.ext (by show w.val = j; omega)
        rw [this]; exact h
theorem mrsL_s (hM : MT F D mw N cl Bf Bm Bk Bn mul) (g : Fin cl) : ∀ (d j n : Nat) (ma mb mc : Int64), d < 2147483648 → d + 1 ≤ n → ∃ x y z : Int64, f_m_raised_L46 F (i6 D) mw (i3 N) Bf Bm Bk Bn (i3 g.val) n (i3 (gp mul e g j).val) (i6 (d : Int)) ma mb mc = some (i3 (gp mul e g (j + d)).val, x, y, z) := by
  intro d
  induction d with
  | zero =>
    intro j n ma mb mc hd hn
    obtain ⟨n', rfl⟩ : ∃ n', n = n' + 1 := ⟨n - 1, by omega⟩
    refine ⟨ma, mb, mc, ?_⟩
    rw [f_m_raised_L46, if_t ((l_le0 (a := ((0 : Nat) : Int)) ⟨by decide, by decide⟩).mpr (by decide))]; rfl
  | succ d ih =>
    intro j n ma mb mc hd hn
    obtain ⟨n', rfl⟩ : ∃ n', n = n' + 1 := ⟨n - 1, by omega⟩
    obtain ⟨x, y, z, hm⟩ := hM (gp mul e g j) g
    have hm' : f_m_times F (i6 D) mw (i3 N) Bf Bm Bk Bn (i3 (gp mul e g j).val) (i3 g.val) = some (i3 (gp mul e g (j + 1)).val, x, y, z) := hm
    obtain ⟨x', y', z', h1⟩ := ih (j + 1) n' x y z (by omega) (by omega)
    refine ⟨x', y', z', ?_⟩
    have e1 : i6 ((d + 1 : Nat) : Int) - 1 = i6 (d : Int) := by
      show i6 ((d + 1 : Nat) : Int) - i6 1 = _
      rw [i6_sub]; congr 1; omega
    rw [f_m_raised_L46, if_f (fun q => by have := (l_le0 (a := ((d + 1 : Nat) : Int)) ⟨by omega, by omega⟩).mp q; omega), hm']
    simp only [Option.bind_some, bnd]
    rw [e1, h1, show j + 1 + d = j + (d + 1) by omega]
/-- the reference turns a class -/
def MV (F : Nat) (D : Int) (mw : Int64) (N cl : Nat) (Bf Bm Bk Bn : Nat → Int32) (inv : Fin cl → Fin cl) : Prop := ∀ i : Fin cl, ∃ x y z : Int64, f_m_turned F (i6 D) mw (i3 N) Bf Bm Bk Bn (i3 i.val) = some (i3 (inv i).val, x, y, z)
theorem mraised_s (hM : MT F D mw N cl Bf Bm Bk Bn mul) (hV : MV F D mw N cl Bf Bm Bk Bn inv) (G : isG mul e inv) (hod : ∀ x, isOrd mul e x (od x)) (hcl : cl ≤ 1908) (hF : 10000000 ≤ F) {Bo : Nat → Int32} (hBo : ∀ x : Fin cl, Bo x.val = i3 (od x)) (k : Fin cl) {n : Int} (hn : r3 n) (ma mb mc : Int64) :
    ∃ x y z : Int64, f_m_raised F (i6 D) mw (i3 N) Bf Bm Bk Bn Bo (i3 e.val) ma mb mc (i3 k.val) (i3 n) = some (i3 (gp mul e (if 0 ≤ n then k else inv k) n.natAbs).val, x, y, z) := by
  have hoc := od_cl G hod k
  have hk := k.isLt
  have n1 := hn.1; have n2 := hn.2
  have hBk : (Bo (i3 (k.val : Int)).toNatClampNeg).toInt64 = i6 (od k) := by rw [nn_n (by omega), hBo k, i36 ⟨by omega, by omega⟩]
  have hz : ¬ i6 (od k : Int) = 0 := fun q => by have := (d_eq0 (a := (od k : Int)) ⟨by omega, by omega⟩).mp q; omega
  have hrem : i6 (n.natAbs : Nat) - i6 (n.natAbs : Nat) / i6 (od k : Int) * i6 (od k : Int) = i6 ((n.natAbs % od k : Nat) : Int) := by
    rw [i6_rem ⟨by omega, by omega⟩ ⟨by omega, by omega⟩ (by omega) (by omega), ← Int.ofNat_tmod]
  have hml := Nat.mod_lt n.natAbs hoc.1
  have hoi : isOrd mul e (inv k) (od k) := by
    refine ord_of G hoc.1 (fun m => ?_)
    have h1 : mul (gp mul e k m) (gp mul e (inv k) m) = e := by rw [← gp_dist G, G.2.2.2, gp_e G]
    rw [← ord_dvd G (hod k) m]
    constructor
    · intro h2; rw [h2, G.2.2.1] at h1; exact h1
    · intro h2; rw [h2, g_one G] at h1; exact h1
  have tail : ∀ (g : Fin cl) (ma mb mc : Int64), isOrd mul e g (od k) → ∃ x y z : Int64, Option.bind (f_m_raised_L46 F (i6 D) mw (i3 N) Bf Bm Bk Bn (i3 g.val) F (i3 e.val) (i6 ((n.natAbs % od k : Nat) : Int)) ma mb mc) (fun (x6_17, y_ma_18, y_mb_19, y_mc_20) => some (x6_17, y_ma_18, y_mb_19, y_mc_20)) = some (i3 (gp mul e g n.natAbs).val, x, y, z) := by
    intro g ma mb mc hg
    obtain ⟨x, y, z, h1⟩ := mrsL_s (e := e) hM g (n.natAbs % od k) 0 F ma mb mc (by omega) (by omega)
    refine ⟨x, y, z, ?_⟩
    have h1' : f_m_raised_L46 F (i6 D) mw (i3 N) Bf Bm Bk Bn (i3 g.val) F (i3 e.val) (i6 ((n.natAbs % od k : Nat) : Int)) ma mb mc = _ := h1
    rw [h1']
    simp only [Option.bind_some]
    rw [Nat.zero_add, ← gp_red G hg]
  unfold f_m_raised
  simp only [bnd]
  by_cases g : 0 ≤ n
  · have hc : (0 : Int32) ≤ i3 n := (c_le0 hn).mpr g
    rw [if_t hc, if_t hc, if_t (nn_v (by omega) (by omega)), hBk, if_t hz, if_pos g, i36 hn, show i6 n = i6 (n.natAbs : Nat) by congr 1; omega, hrem]
    exact tail k ma mb mc (hod k)
  · have hc : ¬ (0 : Int32) ≤ i3 n := fun q => g ((c_le0 hn).mp q)
    obtain ⟨x, y, z, hv⟩ := hV k
    rw [if_f hc, hv]
    simp only [Option.bind_some]
    rw [if_f hc, if_t (nn_v (by omega) (by omega)), hBk, if_t hz, if_neg g, i36 hn, i6_neg, show i6 (-n) = i6 (n.natAbs : Nat) by congr 1; omega, hrem]
    exact tail (inv k) x y z hoi
/-- what the reference marks as reached -/
def mrk (S : Fin cl → Prop) (Bi : Nat → Int32) : Prop := ∀ x : Fin cl, (S x → Bi x.val = 1) ∧ (¬ S x → Bi x.val = 0)
theorem mapL_s (hM : MT F D mw N cl Bf Bm Bk Bn mul) (hcl : cl ≤ 1908) {S : Fin cl → Prop} {Bi : Nat → Int32} (hB : mrk S Bi) (k : Fin cl) {o : Nat} (ho : isOrd mul e k o) : ∀ (d j n : Nat) (ma mb mc : Int64), j + d = o → 0 < j → d + 1 ≤ n → (∀ i, 0 < i → i < j → ¬ S (gp mul e k i)) →
    ∃ (w : Fin cl) (x y z : Int64), f_m_isApart_L2 F (i6 D) mw (i3 N) (i3 e.val) Bf Bm Bk Bn Bi (i3 k.val) n (i3 (gp mul e k j).val) ma mb mc = some (i3 w.val, x, y, z) ∧ (w = e ↔ ∀ i, 0 < i → i < o → ¬ S (gp mul e k i)) := by
  intro d
  induction d with
  | zero =>
    intro j n ma mb mc hj hj0 hn hi
    obtain ⟨n', rfl⟩ : ∃ n', n = n' + 1 := ⟨n - 1, by omega⟩
    have : j = o := by omega
    subst this
    refine ⟨e, ma, mb, mc, ?_, ⟨fun _ => hi, fun _ => rfl⟩⟩
    rw [ho.2.1, f_m_isApart_L2, if_t rfl]
  | succ d ih =>
    intro j n ma mb mc hj hj0 hn hi
    obtain ⟨n', rfl⟩ : ∃ n', n = n' + 1 := ⟨n - 1, by omega⟩
    have hne : gp mul e k j ≠ e := ho.2.2 j hj0 (by omega)
    have c1 := (gp mul e k j).isLt
    have c2 := e.isLt
    have hneq : ¬ i3 ((gp mul e k j).val : Int) = i3 (e.val : Int) := fun q => hne (Fin.ext ((nn_eq (by omega) (by omega)).mp q))
    by_cases hS : S (gp mul e k j)
    · have hBj : Bi (i3 ((gp mul e k j).val : Int)).toNatClampNeg = 1 := by rw [nn_n (by omega)]; exact (hB _).1 hS
      refine ⟨gp mul e k j, ma, mb, mc, ?_, ⟨fun h => absurd h hne, fun h => absurd hS (h j hj0 (by omega))⟩⟩
      rw [f_m_isApart_L2, if_f hneq, if_t (nn_v (by omega) (by omega)), hBj, if_f (by decide)]
    · have hBj : Bi (i3 ((gp mul e k j).val : Int)).toNatClampNeg = 0 := by rw [nn_n (by omega)]; exact (hB _).2 hS
      obtain ⟨x, y, z, hm⟩ := hM (gp mul e k j) k
      have hm' : f_m_times F (i6 D) mw (i3 N) Bf Bm Bk Bn (i3 (gp mul e k j).val) (i3 k.val) = some (i3 (gp mul e k (j + 1)).val, x, y, z) := hm
      obtain ⟨w, x', y', z', h1, h2⟩ := ih (j + 1) n' x y z (by omega) (by omega) (by omega) (fun i i0 i1 => by
        rcases Nat.lt_or_ge i j with q | q
        · exact hi i i0 q
        · have : i = j := by omega
          subst this; exact hS)
      refine ⟨w, x', y', z', ?_, h2⟩
      rw [f_m_isApart_L2, if_f hneq, if_t (nn_v (by omega) (by omega)), hBj, if_t rfl, hm']
      exact h1
theorem mapart_s (hM : MT F D mw N cl Bf Bm Bk Bn mul) (G : isG mul e inv) (hod : ∀ x, isOrd mul e x (od x)) (hcl : cl ≤ 1908) (hF : 10000000 ≤ F) {S : Fin cl → Prop} {Bi : Nat → Int32} (hB : mrk S Bi) (k : Fin cl) (ma mb mc : Int64) :
    ∃ (r : Int32) (x y z : Int64), f_m_isApart F (i6 D) mw (i3 N) Bf Bm Bk Bn (i3 e.val) Bi ma mb mc (i3 k.val) = some (r, x, y, z) ∧ ((k ≠ e ∧ indp mul e S k) → r = 1) ∧ (¬ (k ≠ e ∧ indp mul e S k) → r = 0) := by
  have hoc := od_cl G hod k
  have hk := k.isLt
  have hel := e.isLt
  obtain ⟨w, x, y, z, h1, h2⟩ := mapL_s hM hcl hB k (hod k) (od k - 1) 1 F ma mb mc (by omega) (by omega) (by omega) (fun i p q => absurd q (by omega))
  rw [gp_one G] at h1
  have hind : indp mul e S k ↔ w = e := by
    rw [h2]
    constructor
    · intro h i i0 i1 hS
      exact (hod k).2.2 i i0 i1 (h i hS)
    · intro h i hS
      rw [gp_red G (hod k)] at hS ⊢
      have := Nat.mod_lt i hoc.1
      by_cases q : i % od k = 0
      · rw [q]; rfl
      · exact absurd hS (h _ (by omega) (by omega))
  have hw := w.isLt
  unfold f_m_isApart
  rw [h1]
  simp only [Option.bind_some]
  by_cases c1 : w = e
  · rw [if_t (by rw [c1])]
    by_cases c2 : k = e
    · rw [if_t (by rw [c2])]
      exact ⟨0, x, y, z, rfl, fun h => absurd c2 h.1, fun _ => rfl⟩
    · rw [if_f (fun q => c2 (Fin.ext ((nn_eq (by omega) (by omega)).mp q)))]
      exact ⟨1, x, y, z, rfl, fun _ => rfl, fun h => absurd ⟨c2, hind.mpr c1⟩ h⟩
  · rw [if_f (fun q => c1 (Fin.ext ((nn_eq (by omega) (by omega)).mp q)))]
    exact ⟨0, x, y, z, rfl, fun h => absurd (hind.mp h.2) c1, fun _ => rfl⟩
end Mor
