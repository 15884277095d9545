/-! The reference: generators and exponents -/
section Mgn
variable {F : Nat} {D : Int} {mw : Int64} {N cl : Nat} {Bf Bm Bk Bn : Nat → Int32} {mul : Fin cl → Fin cl → Fin cl} {e : Fin cl} {inv : Fin cl → Fin cl} {od : Fin cl → Nat}
/-- exponent t of code c, when j generators stand -/
def exq (od : Fin cl → Nat) (gs : Nat → Fin cl) (j c t : Nat) : Nat := if t < j then c / rr od gs t % od (gs t) else 0
def exs (mul : Fin cl → Fin cl → Fin cl) (e : Fin cl) (od : Fin cl → Nat) (gs : Nat → Fin cl) (j n : Nat) (Bx : Nat → Int32) : Prop := ∀ c, c < n → ∀ t, t < 8 → Bx (8 * (elf mul e od gs j c).val + t) = i3 (exq od gs j c t : Nat)
theorem rr_dvd {gs : Nat → Fin cl} {t : Nat} : ∀ {j : Nat}, t < j → rr od gs t * od (gs t) ∣ rr od gs j := by
  intro j
  induction j with
  | zero => intro h; omega
  | succ j ih =>
    intro h
    by_cases q : t = j
    · subst q; exact Nat.dvd_refl _
    · exact Nat.dvd_trans (ih (by omega)) ⟨_, rfl⟩
theorem exq_next (G : isG mul e inv) (hod : ∀ x, isOrd mul e x (od x)) {gs : Nat → Fin cl} {j : Nat} (hs : spec mul e od gs (j + 1)) {c q : Nat} (hc : c < rr od gs j) (hq : q < od (gs j)) (t : Nat) : exq od gs (j + 1) (rr od gs j * q + c) t = if t = j then q else exq od gs j c t := by
  unfold exq
  have hs' : spec mul e od gs j := fun k hk => hs k (by omega)
  have hr0 := (spec_main G hod hs').1
  by_cases h1 : t = j
  · subst h1
    rw [if_pos (by omega), if_pos rfl, Nat.mul_add_div hr0, Nat.div_eq_of_lt hc, Nat.add_zero, Nat.mod_eq_of_lt hq]
  · rw [if_neg h1]
    by_cases h2 : t < j
    · rw [if_pos (by omega), if_pos h2]
      obtain ⟨w, hw⟩ := rr_dvd (od := od) (gs := gs) h2
      have hst : spec mul e od gs t := fun k hk => hs k (by omega)
      have ht0 := (spec_main G hod hst).1
      rw [hw, show rr od gs t * od (gs t) * w * q + c = rr od gs t * (od (gs t) * (w * q)) + c by rw [Nat.mul_assoc, Nat.mul_assoc], Nat.mul_add_div ht0, Nat.mul_add_mod]
    · rw [if_neg (by omega), if_neg h2]
theorem mj57_s {gn q : Nat} (hgn : gn < 8) (hq : q < 2147483648) {w5 : Nat} (hw5 : w5 < 4096) {Bl : Nat → Int32} {p r : Fin cl} (hcl : cl ≤ 1908) (hp : Bl w5 = i3 p.val) (hpr : p ≠ r) : ∀ (d t n : Nat) (Bx : Nat → Int32), t + d = 8 → d + 1 ≤ n →
    ∃ Bx', f_m_join_L57 F (i3 (gn : Int)) (i3 (q : Int)) (i3 (w5 : Int)) Bl (i3 r.val) n (i3 (t : Int)) Bx = some Bx' ∧ (∀ u, t ≤ u → u < 8 → Bx' (8 * r.val + u) = if u = gn then i3 (q : Int) else Bx (8 * p.val + u)) ∧ (∀ v, (∀ u, t ≤ u → u < 8 → v ≠ 8 * r.val + u) → Bx' v = Bx v) := by
  have hpl := p.isLt
  have hrl := r.isLt
  have hpv : p.val ≠ r.val := fun h => hpr (Fin.ext h)
  intro d
  induction d with
  | zero =>
    intro t n Bx ht hn
    obtain ⟨n', rfl⟩ : ∃ n', n = n' + 1 := ⟨n - 1, by omega⟩
    refine ⟨Bx, ?_, fun u h1 h2 => absurd h2 (by omega), fun _ _ => rfl⟩
    have h8t : (8 : Int32) ≤ i3 (t : Int) := (nn_le (n := 8) (by omega) (by omega)).mpr (by omega)
    rw [f_m_join_L57, if_t h8t]
  | succ d ih =>
    intro t n Bx ht hn
    obtain ⟨n', rfl⟩ : ∃ n', n = n' + 1 := ⟨n - 1, by omega⟩
    have e8 : (8 : Int32) * i3 (r.val : Int) + i3 (t : Int) = i3 ((8 * r.val + t : Nat) : Int) := by
      show i3 8 * i3 (r.val : Int) + i3 (t : Int) = _
      rw [i3_mul, i3_add]; congr 1
    have e8p : (8 : Int32) * i3 (p.val : Int) + i3 (t : Int) = i3 ((8 * p.val + t : Nat) : Int) := by
      show i3 8 * i3 (p.val : Int) + i3 (t : Int) = _
      rw [i3_mul, i3_add]; congr 1
    have hBl : Bl (i3 (w5 : Int)).toNatClampNeg = i3 p.val := by rw [nn_n (by omega)]; exact hp
    have h8 : ¬ (8 : Int32) ≤ i3 (t : Int) := fun h => by have := (nn_le (n := 8) (by omega) (by omega)).mp h; omega
    have fin : ∀ v : Int32, v = (if t = gn then i3 (q : Int) else Bx (8 * p.val + t)) → ∃ Bx', f_m_join_L57 F (i3 (gn : Int)) (i3 (q : Int)) (i3 (w5 : Int)) Bl (i3 r.val) n' (i3 ((t + 1 : Nat) : Int)) (upd Bx (8 * r.val + t) v) = some Bx' ∧ (∀ u, t ≤ u → u < 8 → Bx' (8 * r.val + u) = if u = gn then i3 (q : Int) else Bx (8 * p.val + u)) ∧ (∀ v, (∀ u, t ≤ u → u < 8 → v ≠ 8 * r.val + u) → Bx' v = Bx v) := by
      intro v hv
      obtain ⟨Bx', h1, h2, h3⟩ := ih (t + 1) n' (upd Bx (8 * r.val + t) v) (by omega) (by omega)
      refine ⟨Bx', h1, fun u hu1 hu2 => ?_, fun w hw => ?_⟩
      · by_cases c : u = t
        · subst c
          rw [h3 _ (fun u' h4 h5 => by omega), ← hv]
          exact pk_us
        · rw [h2 u (by omega) hu2]
          by_cases c2 : u = gn
          · rw [if_pos c2, if_pos c2]
          · rw [if_neg c2, if_neg c2, pk_un (by omega)]
      · rw [h3 w (fun u hu1 hu2 => hw u (by omega) hu2), pk_un (hw t (Nat.le_refl _) (by omega))]
    rw [f_m_join_L57, if_f h8]
    simp only [bnd]
    rw [e8, nn_s]
    by_cases c : t = gn
    · rw [if_t ((nn_eq (by omega) (by omega)).mpr c), if_t (nn_v (by omega) (by omega)), nn_n (n := 8 * r.val + t) (by omega)]
      exact fin _ (by rw [if_pos c])
    · rw [if_f (fun h => c ((nn_eq (by omega) (by omega)).mp h)), if_t (nn_v (by omega) (by omega)), hBl, e8p, if_t (nn_v (by omega) (by omega)), if_t (nn_v (by omega) (by omega)), nn_n (n := 8 * r.val + t) (by omega), nn_n (n := 8 * p.val + t) (by omega)]
      exact fin _ (by rw [if_neg c])
/-- how far the reference has come: so many codes of j + 1 generators stand -/
def mst (mul : Fin cl → Fin cl → Fin cl) (e : Fin cl) (od : Fin cl → Nat) (gs : Nat → Fin cl) (j n : Nat) (Bi Bx Bl : Nat → Int32) : Prop := (∀ c, c < n → Bl c = i3 (elf mul e od gs j c).val) ∧ mrk (fun x => ∃ c, c < n ∧ elf mul e od gs j c = x) Bi ∧ exs mul e od gs j n Bx
theorem mj34_s (hM : MT F D mw N cl Bf Bm Bk Bn mul) (G : isG mul e inv) (hod : ∀ x, isOrd mul e x (od x)) (hcl : cl ≤ 1908) (hF : 10000000 ≤ F) {gs : Nat → Fin cl} {j : Nat} (hj : j < 8) (hs : spec mul e od gs (j + 1)) {q : Nat} (hq : q < od (gs j)) : ∀ (d c n : Nat) (Bi Bx Bl : Nat → Int32) (ma mb mc : Int64), c + d = rr od gs j → d + 1 ≤ n → 1 ≤ q → mst mul e od gs (j + 1) (rr od gs j * q + c) Bi Bx Bl →
    ∃ (Bi' Bx' Bl' : Nat → Int32) (x y z : Int64), f_m_join_L34 F (i6 D) mw (i3 N) (i3 (j : Int)) (i3 (rr od gs j : Nat)) Bf Bm Bk Bn (i3 (gp mul e (gs j) q).val) (i3 (q : Int)) n (i3 (c : Int)) (i3 ((rr od gs j * q + c : Nat) : Int)) Bi Bx Bl ma mb mc = some (i3 ((rr od gs j * (q + 1) : Nat) : Int), Bi', Bx', Bl', x, y, z) ∧ mst mul e od gs (j + 1) (rr od gs j * (q + 1)) Bi' Bx' Bl' := by
  have hs' : spec mul e od gs j := fun k hk => hs k (by omega)
  have hr0 := (spec_main G hod hs').1
  have hrl := (spec_le G hod hs).1
  have hE := (spec_main G hod hs).2.2.1
  have hol := od_cl G hod (gs j)
  have hmax : rr od gs j * (q + 1) ≤ rr od gs (j + 1) := Nat.mul_le_mul_left _ hq
  rw [Nat.mul_succ] at hmax
  intro d
  induction d with
  | zero =>
    intro c n Bi Bx Bl ma mb mc hc hn hq1 hst
    obtain ⟨n', rfl⟩ : ∃ n', n = n' + 1 := ⟨n - 1, by omega⟩
    have e0 : c = rr od gs j := by omega
    rw [e0] at hst
    refine ⟨Bi, Bx, Bl, ma, mb, mc, ?_, hst⟩
    rw [f_m_join_L34, if_t ((nn_le (by omega) (by omega)).mpr (by omega)), Nat.mul_succ, e0]
  | succ d ih =>
    intro c n Bi Bx Bl ma mb mc hc hn hq1 hst
    obtain ⟨n', rfl⟩ : ∃ n', n = n' + 1 := ⟨n - 1, by omega⟩
    obtain ⟨s1, s2, s3⟩ := hst
    have hcr : c < rr od gs j := by omega
    have hc1 : c < rr od gs j * q + c := by have := Nat.le_mul_of_pos_left (rr od gs j) hq1; rw [Nat.mul_comm] at this; omega
    have hrq : rr od gs j ≤ rr od gs j * q := Nat.le_mul_of_pos_right _ hq1
    have hBl : Bl (i3 (c : Int)).toNatClampNeg = i3 (elf mul e od gs (j + 1) c).val := by rw [nn_n (by omega)]; exact s1 c hc1
    have hel : mul (elf mul e od gs (j + 1) c) (gp mul e (gs j) q) = elf mul e od gs (j + 1) (rr od gs j * q + c) := by
      rw [elf_low G hcr]
      simp only [elf]
      rw [Nat.mul_add_mod, Nat.mod_eq_of_lt hcr, Nat.mul_add_div hr0, Nat.div_eq_of_lt hcr, Nat.add_zero]
    obtain ⟨x, y, z, hm⟩ := hM (elf mul e od gs (j + 1) c) (gp mul e (gs j) q)
    rw [hel] at hm
    have hne : elf mul e od gs (j + 1) c ≠ elf mul e od gs (j + 1) (rr od gs j * q + c) := fun h => by
      have := hE.1 c (rr od gs j * q + c) (by omega) (by omega) h
      omega
    have hlt := (elf mul e od gs (j + 1) (rr od gs j * q + c)).isLt
    obtain ⟨Bx1, b1, b2, b3⟩ := mj57_s (F := F) (gn := j) (q := q) hj (by omega) (w5 := c) (by omega) (p := elf mul e od gs (j + 1) c) (r := elf mul e od gs (j + 1) (rr od gs j * q + c)) hcl (s1 c hc1) hne 8 0 F Bx (by omega) (by omega)
    have b1' : f_m_join_L57 F (i3 (j : Int)) (i3 (q : Int)) (i3 (c : Int)) Bl (i3 (elf mul e od gs (j + 1) (rr od gs j * q + c)).val) F 0 Bx = _ := b1
    rw [f_m_join_L34, if_f (fun h => by have := (nn_le (by omega) (by omega)).mp h; omega), if_t (nn_v (by omega) (by omega)), hBl, hm]
    simp only [Option.bind_some]
    rw [b1']
    simp only [Option.bind_some]
    rw [if_t (nn_v (by omega) (by omega))]
    simp only [bnd]
    rw [if_t (nn_v (by omega) (by omega)), nn_n (n := (elf mul e od gs (j + 1) (rr od gs j * q + c)).val) (by omega), nn_n (n := rr od gs j * q + c) (by omega), nn_s, nn_s, show vp_nar .boolean 1 = 1 from rfl, show rr od gs j * q + c + 1 = rr od gs j * q + (c + 1) by omega]
    refine ih (c + 1) n' _ _ _ x y z (by omega) (by omega) hq1 ⟨fun c' hc' => ?_, fun w => ⟨fun ⟨c', hc', he⟩ => ?_, fun hno => ?_⟩, fun c' hc' t ht => ?_⟩
    · by_cases k : c' = rr od gs j * q + c
      · subst k; exact pk_us
      · rw [pk_un k]; exact s1 c' (by omega)
    · by_cases k : w.val = (elf mul e od gs (j + 1) (rr od gs j * q + c)).val
      · rw [k]; exact pk_us
      · rw [pk_un k]
        refine (s2 w).1 ⟨c', ?_, he⟩
        rcases Nat.lt_or_ge c' (rr od gs j * q + c) with k2 | k2
        · exact k2
        · have : c' = rr od gs j * q + c := by omega
          subst this
          exact absurd (congrArg Fin.val he.symm) k
    · rw [pk_un]
      · exact (s2 w).2 (fun ⟨c', hc', he⟩ => hno ⟨c', by omega, he⟩)
      · intro k
        exact hno ⟨rr od gs j * q + c, by omega, (Fin.ext k).symm⟩
    · by_cases k : c' = rr od gs j * q + c
      · subst k
        rw [b2 t (by omega) ht, exq_next G hod hs hcr hq]
        by_cases k2 : t = j
        · rw [if_pos k2, if_pos k2]
        · rw [if_neg k2, if_neg k2, s3 c hc1 t ht]
          have := exq_next G hod hs hcr hol.1 t
          rw [Nat.mul_zero, Nat.zero_add, if_neg k2] at this
          rw [this]
      · rw [b3]
        · exact s3 c' (by omega) t ht
        · intro u _ hu hh
          have : (elf mul e od gs (j + 1) c').val = (elf mul e od gs (j + 1) (rr od gs j * q + c)).val := by omega
          exact k (hE.1 _ _ (by omega) (by omega) (Fin.ext this))
theorem mj20_s (hM : MT F D mw N cl Bf Bm Bk Bn mul) (G : isG mul e inv) (hod : ∀ x, isOrd mul e x (od x)) (hcl : cl ≤ 1908) (hF : 10000000 ≤ F) {Bo : Nat → Int32} (hBo : ∀ x : Fin cl, Bo x.val = i3 (od x)) {gs : Nat → Fin cl} {j : Nat} (hj : j < 8) (hs : spec mul e od gs (j + 1)) : ∀ (d q n : Nat) (Bi Bx Bl : Nat → Int32) (ma mb mc : Int64), q + d = od (gs j) → d + 1 ≤ n → 1 ≤ q → mst mul e od gs (j + 1) (rr od gs j * q) Bi Bx Bl →
    ∃ (Bi' Bx' Bl' : Nat → Int32) (x y z : Int64), f_m_join_L20 F (i6 D) mw (i3 N) (i3 (j : Int)) (i3 (rr od gs j : Nat)) Bf Bm Bk Bn Bo (i3 (gs j).val) n (i3 (gp mul e (gs j) q).val) (i3 (q : Int)) (i3 ((rr od gs j * q : Nat) : Int)) Bi Bx Bl ma mb mc = some (i3 ((rr od gs (j + 1) : Nat) : Int), Bi', Bx', Bl', x, y, z) ∧ mst mul e od gs (j + 1) (rr od gs (j + 1)) Bi' Bx' Bl' := by
  have hgl := (gs j).isLt
  have hol := od_cl G hod (gs j)
  have hBg : Bo (i3 ((gs j).val : Int)).toNatClampNeg = i3 (od (gs j)) := by rw [nn_n (by omega)]; exact hBo (gs j)
  intro d
  induction d with
  | zero =>
    intro q n Bi Bx Bl ma mb mc hq hn hq1 hst
    obtain ⟨n', rfl⟩ : ∃ n', n = n' + 1 := ⟨n - 1, by omega⟩
    have e0 : q = od (gs j) := by omega
    have e1 : rr od gs j * q = rr od gs (j + 1) := by rw [e0]; rfl
    rw [e1] at hst ⊢
    refine ⟨Bi, Bx, Bl, ma, mb, mc, ?_, hst⟩
    rw [f_m_join_L20, if_t (nn_v (by omega) (by omega)), hBg, if_t ((nn_le (by omega) (by omega)).mpr (by omega))]
  | succ d ih =>
    intro q n Bi Bx Bl ma mb mc hq hn hq1 hst
    obtain ⟨n', rfl⟩ : ∃ n', n = n' + 1 := ⟨n - 1, by omega⟩
    obtain ⟨Bi1, Bx1, Bl1, x, y, z, h1, h2⟩ := mj34_s hM G hod hcl hF hj hs (q := q) (by omega) (rr od gs j) 0 F Bi Bx Bl ma mb mc (by omega) (by
      have := (spec_le G hod (i := j) (fun k hk => hs k (by omega))).1; omega) hq1 hst
    obtain ⟨x2, y2, z2, hm⟩ := hM (gp mul e (gs j) q) (gs j)
    have hm' : f_m_times F (i6 D) mw (i3 N) Bf Bm Bk Bn (i3 (gp mul e (gs j) q).val) (i3 (gs j).val) = some (i3 (gp mul e (gs j) (q + 1)).val, x2, y2, z2) := hm
    have h1' : f_m_join_L34 F (i6 D) mw (i3 N) (i3 (j : Int)) (i3 (rr od gs j : Nat)) Bf Bm Bk Bn (i3 (gp mul e (gs j) q).val) (i3 (q : Int)) F 0 (i3 ((rr od gs j * q : Nat) : Int)) Bi Bx Bl ma mb mc = _ := h1
    rw [f_m_join_L20, if_t (nn_v (by omega) (by omega)), hBg, if_f (fun h => by have := (nn_le (by omega) (by omega)).mp h; omega), h1']
    simp only [Option.bind_some]
    rw [hm']
    simp only [Option.bind_some]
    rw [nn_s]
    exact ih (q + 1) n' Bi1 Bx1 Bl1 x2 y2 z2 (by omega) (by omega) (by omega) h2
theorem mst_up (G : isG mul e inv) (hod : ∀ x, isOrd mul e x (od x)) {gs : Nat → Fin cl} {j : Nat} (hs : spec mul e od gs (j + 1)) {Bi Bx Bl : Nat → Int32} (h : mst mul e od gs j (rr od gs j) Bi Bx Bl) : mst mul e od gs (j + 1) (rr od gs j) Bi Bx Bl := by
  obtain ⟨s1, s2, s3⟩ := h
  have hol := od_cl G hod (gs j)
  refine ⟨fun c hc => by rw [elf_low G hc]; exact s1 c hc, fun w => ⟨fun ⟨c, hc, he⟩ => (s2 w).1 ⟨c, hc, by rw [← elf_low G hc]; exact he⟩, fun hno => (s2 w).2 (fun ⟨c, hc, he⟩ => hno ⟨c, hc, by rw [elf_low G hc]; exact he⟩)⟩, fun c hc t ht => ?_⟩
  rw [elf_low G hc, s3 c hc t ht]
  have := exq_next G hod hs hc hol.1 t
  rw [Nat.mul_zero, Nat.zero_add] at this
  rw [this]
  by_cases k : t = j
  · rw [if_pos k]; unfold exq; rw [if_neg (by omega)]
  · rw [if_neg k]
theorem mjoin_s (hM : MT F D mw N cl Bf Bm Bk Bn mul) (G : isG mul e inv) (hod : ∀ x, isOrd mul e x (od x)) (hcl : cl ≤ 1908) (hF : 10000000 ≤ F) {Bo : Nat → Int32} (hBo : ∀ x : Fin cl, Bo x.val = i3 (od x)) {gs : Nat → Fin cl} {j : Nat} (hj : j < 8) (hs : spec mul e od gs (j + 1)) (Bi Bx Bg Bl : Nat → Int32) (ma mb mc : Int64) (hst : mst mul e od gs j (rr od gs j) Bi Bx Bl) :
    ∃ (Bi' Bx' Bl' : Nat → Int32) (x y z : Int64), f_m_join F (i6 D) mw (i3 N) Bf Bm Bk Bn Bo (i3 (j : Int)) (i3 (rr od gs j : Nat)) Bi Bx Bg Bl ma mb mc (i3 (gs j).val) = some (i3 ((j + 1 : Nat) : Int), i3 (rr od gs (j + 1) : Nat), Bi', Bx', upd Bg j (i3 (gs j).val), Bl', x, y, z) ∧ mst mul e od gs (j + 1) (rr od gs (j + 1)) Bi' Bx' Bl' := by
  have hol := od_cl G hod (gs j)
  obtain ⟨Bi', Bx', Bl', x, y, z, h1, h2⟩ := mj20_s hM G hod hcl hF hBo hj hs (od (gs j) - 1) 1 F Bi Bx Bl ma mb mc (by omega) (by omega) (by omega) (by rw [Nat.mul_one]; exact mst_up G hod hs hst)
  refine ⟨Bi', Bx', Bl', x, y, z, ?_, h2⟩
  rw [gp_one G, Nat.mul_one] at h1
  have h1' : f_m_join_L20 F (i6 D) mw (i3 N) (i3 (j : Int)) (i3 (rr od gs j : Nat)) Bf Bm Bk Bn Bo (i3 (gs j).val) F (i3 (gs j).val) 1 (i3 (rr od gs j : Nat)) Bi Bx Bl ma mb mc = _ := h1
  unfold f_m_join
  rw [if_t (nn_v (by omega) (by omega)), h1']
  simp only [Option.bind_some]
  rw [nn_n (by omega), nn_s]
theorem mg94_s (hM : MT F D mw N cl Bf Bm Bk Bn mul) (G : isG mul e inv) (hod : ∀ x, isOrd mul e x (od x)) (hcl : cl ≤ 1908) (hF : 10000000 ≤ F) {Bo : Nat → Int32} (hBo : ∀ x : Fin cl, Bo x.val = i3 (od x)) {S : Fin cl → Prop} (hSe : S e) {Bi : Nat → Int32} (hB : mrk S Bi) : ∀ (d i n : Nat) (w : Int) (ma mb mc : Int64), i + d = cl → d + 1 ≤ n →
    ((w = -1 ∧ ∀ x : Fin cl, x.val < i → ¬ (x ≠ e ∧ indp mul e S x)) ∨ ∃ g : Fin cl, w = g.val ∧ g ≠ e ∧ indp mul e S g ∧ g.val < i ∧ ∀ x : Fin cl, x.val < i → x ≠ e → indp mul e S x → od x ≤ od g ∧ (x.val < g.val → od x < od g)) →
    ∃ (w' : Int) (x y z : Int64), f_m_generate_L94 F (i6 D) mw (i3 N) (i3 (cl : Int)) (i3 e.val) Bf Bm Bk Bn Bo Bi n (i3 w) (i3 (i : Int)) ma mb mc = some (i3 w', x, y, z) ∧ ((w' = -1 ∧ ∀ x : Fin cl, ¬ (x ≠ e ∧ indp mul e S x)) ∨ ∃ g : Fin cl, w' = g.val ∧ nxt mul e S g) := by
  intro d
  induction d with
  | zero =>
    intro i n w ma mb mc hi hn hw
    obtain ⟨n', rfl⟩ : ∃ n', n = n' + 1 := ⟨n - 1, by omega⟩
    refine ⟨w, ma, mb, mc, ?_, ?_⟩
    · rw [f_m_generate_L94, if_t ((nn_le (by omega) (by omega)).mpr (by omega))]
    · rcases hw with ⟨h1, h2⟩ | ⟨g, h1, h2, h3, h4, h5⟩
      · exact Or.inl ⟨h1, fun x => h2 x (by have := x.isLt; omega)⟩
      · exact Or.inr ⟨g, h1, h2, h3, od g, hod g, fun x m x1 x2 x3 => by
          have := ord_uni G x3 (hod x)
          subst this
          exact h5 x (by have := x.isLt; omega) x1 x2⟩
  | succ d ih =>
    intro i n w ma mb mc hi hn hw
    obtain ⟨n', rfl⟩ : ∃ n', n = n' + 1 := ⟨n - 1, by omega⟩
    have hi' : i < cl := by omega
    have notS : ∀ x : Fin cl, S x → ¬ (x ≠ e ∧ indp mul e S x) := fun x hx h => h.1 (by
      have := h.2 1 (by rw [gp_one G]; exact hx)
      rw [gp_one G] at this; exact this)
    have hBi0 : ¬ S ⟨i, hi'⟩ → Bi (i3 (i : Int)).toNatClampNeg = 0 := fun h => by rw [nn_n (by omega)]; exact (hB ⟨i, hi'⟩).2 h
    have hBi1 : S ⟨i, hi'⟩ → Bi (i3 (i : Int)).toNatClampNeg = 1 := fun h => by rw [nn_n (by omega)]; exact (hB ⟨i, hi'⟩).1 h
    have hoi := od_cl G hod ⟨i, hi'⟩
    have hBoi : Bo (i3 (i : Int)).toNatClampNeg = i3 (od ⟨i, hi'⟩) := by rw [nn_n (by omega)]; exact hBo ⟨i, hi'⟩
    have xi : ∀ x : Fin cl, x.val < i + 1 → x.val < i ∨ x = ⟨i, hi'⟩ := fun x hx => by
      rcases Nat.lt_or_ge x.val i with q | q
      · exact Or.inl q
      · exact Or.inr (Fin.ext (by show x.val = i; omega))
    rw [f_m_generate_L94, if_f (fun q => by have := (nn_le (by omega) (by omega)).mp q; omega)]
    rcases hw with ⟨h1, h2⟩ | ⟨g, h1, h2, h3, h4, h5⟩
    · subst h1
      rw [if_t (by decide), if_t (nn_v (by omega) (by omega))]
      by_cases hS : S ⟨i, hi'⟩
      · rw [hBi1 hS, if_f (by decide), nn_s]
        refine ih (i + 1) n' (-1) ma mb mc (by omega) (by omega) (Or.inl ⟨rfl, fun x hx => ?_⟩)
        rcases xi x hx with q | q
        · exact h2 x q
        · rw [q]; exact notS _ hS
      · obtain ⟨r, x, y, z, a1, a2, a3⟩ := mapart_s hM G hod hcl hF hB ⟨i, hi'⟩ ma mb mc
        have a1' : f_m_isApart F (i6 D) mw (i3 N) Bf Bm Bk Bn (i3 e.val) Bi ma mb mc (i3 (i : Int)) = _ := a1
        rw [hBi0 hS, if_t rfl, a1']
        simp only [Option.bind_some]
        rw [nn_s]
        by_cases c : (⟨i, hi'⟩ : Fin cl) ≠ e ∧ indp mul e S ⟨i, hi'⟩
        · rw [a2 c, if_f (by decide)]
          refine ih (i + 1) n' (i : Int) x y z (by omega) (by omega) (Or.inr ⟨⟨i, hi'⟩, rfl, c.1, c.2, by show i < i + 1; omega, fun w hw w1 w2 => ?_⟩)
          rcases xi w hw with q | q
          · exact absurd ⟨w1, w2⟩ (h2 w q)
          · rw [q]; exact ⟨Nat.le_refl _, fun h => absurd h (Nat.lt_irrefl _)⟩
        · rw [a3 c, if_t rfl]
          refine ih (i + 1) n' (-1) x y z (by omega) (by omega) (Or.inl ⟨rfl, fun w hw => ?_⟩)
          rcases xi w hw with q | q
          · exact h2 w q
          · rw [q]; exact c
    · subst h1
      have hgl := g.isLt
      have hog := od_cl G hod g
      have hBog : Bo (i3 (g.val : Int)).toNatClampNeg = i3 (od g) := by rw [nn_n (by omega)]; exact hBo g
      rw [if_f (fun q => by have := (c_lt0 (a := (g.val : Int)) ⟨by omega, by omega⟩).mp q; omega), if_t (nn_v (by omega) (by omega)), if_t (nn_v (by omega) (by omega)), hBoi, hBog, nn_s]
      have keep : ∀ ma mb mc : Int64, ((⟨i, hi'⟩ : Fin cl) ≠ e → indp mul e S ⟨i, hi'⟩ → od ⟨i, hi'⟩ ≤ od g) → _ := fun ma mb mc hk => ih (i + 1) n' (g.val : Int) ma mb mc (by omega) (by omega) (Or.inr ⟨g, rfl, h2, h3, by omega, fun w hw w1 w2 => by
        rcases xi w hw with q | q
        · exact h5 w q w1 w2
        · rw [q] at w1 w2 ⊢
          exact ⟨hk w1 w2, fun h => absurd h (by show ¬ i < g.val; omega)⟩⟩)
      by_cases c0 : od ⟨i, hi'⟩ ≤ od g
      · rw [if_t ((nn_le (by omega) (by omega)).mpr c0)]
        exact keep ma mb mc (fun _ _ => c0)
      · rw [if_f (fun q => c0 ((nn_le (by omega) (by omega)).mp q)), if_t (nn_v (by omega) (by omega))]
        by_cases hS : S ⟨i, hi'⟩
        · rw [hBi1 hS, if_f (by decide)]
          exact keep ma mb mc (fun w1 w2 => absurd ⟨w1, w2⟩ (notS _ hS))
        · obtain ⟨r, x, y, z, a1, a2, a3⟩ := mapart_s hM G hod hcl hF hB ⟨i, hi'⟩ ma mb mc
          have a1' : f_m_isApart F (i6 D) mw (i3 N) Bf Bm Bk Bn (i3 e.val) Bi ma mb mc (i3 (i : Int)) = _ := a1
          rw [hBi0 hS, if_t rfl, a1']
          simp only [Option.bind_some]
          by_cases c : (⟨i, hi'⟩ : Fin cl) ≠ e ∧ indp mul e S ⟨i, hi'⟩
          · rw [a2 c, if_f (by decide)]
            refine ih (i + 1) n' (i : Int) x y z (by omega) (by omega) (Or.inr ⟨⟨i, hi'⟩, rfl, c.1, c.2, by show i < i + 1; omega, fun w hw w1 w2 => ?_⟩)
            rcases xi w hw with q | q
            · have := h5 w q w1 w2
              exact ⟨by omega, fun _ => by omega⟩
            · rw [q]; exact ⟨Nat.le_refl _, fun h => absurd h (Nat.lt_irrefl _)⟩
          · rw [a3 c, if_t rfl]
            exact keep x y z (fun w1 w2 => absurd ⟨w1, w2⟩ c)
theorem mg86_s (hM : MT F D mw N cl Bf Bm Bk Bn mul) (G : isG mul e inv) (hod : ∀ x, isOrd mul e x (od x)) (hcl : cl ≤ 1908) (hF : 10000000 ≤ F) (hrk : ∀ (gs : Nat → Fin cl) (i : Nat), spec mul e od gs i → i ≤ 8) {Bo : Nat → Int32} (hBo : ∀ x : Fin cl, Bo x.val = i3 (od x)) : ∀ (d j n : Nat) (w : Int) (gs : Nat → Fin cl) (Bi Bx Bg Bl : Nat → Int32) (ma mb mc : Int64), j + d = 9 → d + 2 ≤ n → 0 ≤ w → r3 w → spec mul e od gs j → mst mul e od gs j (rr od gs j) Bi Bx Bl → (∀ i, i < j → Bg i = i3 (gs i).val) →
    ∃ (m : Nat) (gs' : Nat → Fin cl) (ml : Int32) (Bi' Bx' Bg' Bl' : Nat → Int32) (x y z : Int64), f_m_generate_L86 F (i6 D) mw (i3 N) (i3 (cl : Int)) (i3 e.val) Bf Bm Bk Bn Bo n (i3 w) (i3 (j : Int)) (i3 (rr od gs j : Nat)) Bi Bx Bg Bl ma mb mc = some (i3 (m : Int), ml, Bi', Bx', Bg', Bl', x, y, z) ∧ spec mul e od gs' m ∧ rr od gs' m = cl ∧ exs mul e od gs' m cl Bx' ∧ ∀ i, i < m → Bg' i = i3 (gs' i).val := by
  intro d
  induction d with
  | zero =>
    intro j n w gs Bi Bx Bg Bl ma mb mc hj hn hw hw3 hs hst hG
    have := hrk gs j hs
    omega
  | succ d ih =>
    intro j n w gs Bi Bx Bg Bl ma mb mc hj hn hw hw3 hs hst hG
    obtain ⟨n', rfl⟩ : ∃ n', n = n' + 1 + 1 := ⟨n - 2, by omega⟩
    have hj8 := hrk gs j hs
    obtain ⟨hr0, hS, hE, -⟩ := spec_main G hod hs
    obtain ⟨w', x, y, z, h1, h2⟩ := mg94_s hM G hod hcl hF hBo (S := Sg mul e od gs j) hS.1 hst.2.1 cl 0 F (-1) ma mb mc (by omega) (by omega) (Or.inl ⟨rfl, fun x hx => absurd hx (by omega)⟩)
    have h1' : f_m_generate_L94 F (i6 D) mw (i3 N) (i3 (cl : Int)) (i3 e.val) Bf Bm Bk Bn Bo Bi F (-1) 0 ma mb mc = _ := h1
    rw [f_m_generate_L86, if_f (fun q => by have := (c_lt0 hw3).mp q; omega), h1']
    simp only [Option.bind_some]
    rcases h2 with ⟨h2, h3⟩ | ⟨g, h2, h3⟩
    · subst h2
      have hfull : rr od gs j = cl := by
        rcases Nat.lt_or_ge (rr od gs j) cl with q | q
        · obtain ⟨g, hg⟩ := spec_next G hod hs q
          exact absurd ⟨hg.1, hg.2.1⟩ (h3 g)
        · have := (spec_le G hod hs).1; omega
      rw [if_t (by decide), f_m_generate_L86, if_t (by decide)]
      refine ⟨j, gs, i3 (rr od gs j : Nat), Bi, Bx, Bg, Bl, x, y, z, rfl, hs, hfull, ?_, hG⟩
      have := hst.2.2
      rw [hfull] at this
      exact this
    · subst h2
      have hgl := g.isLt
      rw [if_f (fun q => by have := (c_lt0 (a := (g.val : Int)) ⟨by omega, by omega⟩).mp q; omega)]
      have hcg : ∀ i, i < j → gs i = (fun i => if i = j then g else gs i) i := fun i hi => by simp only; rw [if_neg (by omega)]
      have hs1 : spec mul e od (fun i => if i = j then g else gs i) (j + 1) := by
        intro k hk
        rw [← Sg_congr (gs := gs) (fun i hi => hcg i (by omega))]
        by_cases q : k = j
        · subst q; simp only [if_true]; exact h3
        · simp only; rw [if_neg q]; exact hs k (by omega)
      have hj1 := hrk _ _ hs1
      have er := rr_congr (od := od) hcg
      have ee := elf_congr (mul := mul) (e := e) (od := od) hcg
      have hst1 : mst mul e od (fun i => if i = j then g else gs i) j (rr od (fun i => if i = j then g else gs i) j) Bi Bx Bl := by
        obtain ⟨s1, s2, s3⟩ := hst
        refine ⟨by rw [← er, ← ee]; exact s1, by rw [← er, ← ee]; exact s2, ?_⟩
        rw [← er]
        intro c hc t ht
        rw [← ee, s3 c hc t ht]
        unfold exq
        by_cases q : t < j
        · rw [if_pos q, if_pos q, ← rr_congr (od := od) (fun k hk => hcg k (by omega)), hcg t q]
        · rw [if_neg q, if_neg q]
      obtain ⟨Bi1, Bx1, Bl1, x1, y1, z1, k1, k2⟩ := mjoin_s hM G hod hcl hF hBo (by omega) hs1 Bi Bx Bg Bl x y z hst1
      simp only [if_true] at k1
      rw [← er] at k1
      rw [k1]
      simp only [Option.bind_some]
      refine ih (j + 1) (n' + 1) (g.val : Int) (fun i => if i = j then g else gs i) Bi1 Bx1 _ Bl1 x1 y1 z1 (by omega) (by omega) (by omega) ⟨by omega, by omega⟩ hs1 k2 ?_
      intro i hi
      by_cases q : i = j
      · subst q
        simp only [if_true]; exact pk_us
      · rw [if_neg q, pk_un q]
        exact hG i (by omega)
theorem mg7_s (hcl : cl ≤ 1908) (hel : e.val < cl) : ∀ (d j n : Nat) (Bi : Nat → Int32), j + d = cl → d + 1 ≤ n → ∃ Bi', f_m_generate_L7 F (i3 (cl : Int)) (i3 e.val) n (i3 (j : Int)) Bi = some Bi' ∧ (∀ i, j ≤ i → i < cl → Bi' i = if i = e.val then 1 else 0) ∧ ∀ i, i < j → Bi' i = Bi i := by
  intro d
  induction d with
  | zero =>
    intro j n Bi hj hn
    obtain ⟨n', rfl⟩ : ∃ n', n = n' + 1 := ⟨n - 1, by omega⟩
    refine ⟨Bi, ?_, fun i h1 h2 => absurd h2 (by omega), fun _ _ => rfl⟩
    rw [f_m_generate_L7, if_t ((nn_le (by omega) (by omega)).mpr (by omega))]
  | succ d ih =>
    intro j n Bi hj hn
    obtain ⟨n', rfl⟩ : ∃ n', n = n' + 1 := ⟨n - 1, by omega⟩
    have fin : ∀ v : Int32, v = (if j = e.val then 1 else 0) → ∃ Bi', f_m_generate_L7 F (i3 (cl : Int)) (i3 e.val) n' (i3 ((j + 1 : Nat) : Int)) (upd Bi j v) = some Bi' ∧ (∀ i, j ≤ i → i < cl → Bi' i = if i = e.val then 1 else 0) ∧ ∀ i, i < j → Bi' i = Bi i := by
      intro v hv
      obtain ⟨Bi', h1, h2, h3⟩ := ih (j + 1) n' (upd Bi j v) (by omega) (by omega)
      refine ⟨Bi', h1, fun i hi hi2 => ?_, fun i hi => by rw [h3 i (by omega), pk_un (by omega)]⟩
      rcases Nat.lt_or_ge j i with q | q
      · exact h2 i q hi2
      · have : i = j := by omega
        subst this
        rw [h3 i (by omega), ← hv]; exact pk_us
    rw [f_m_generate_L7, if_f (fun q => by have := (nn_le (by omega) (by omega)).mp q; omega)]
    simp only [bnd]
    by_cases c : j = e.val
    · rw [if_t ((nn_eq (by omega) (by omega)).mpr c), if_t (nn_v (by omega) (by omega)), nn_n (by omega), nn_s]
      exact fin _ (by rw [if_pos c]; rfl)
    · rw [if_f (fun q => c ((nn_eq (by omega) (by omega)).mp q)), if_t (nn_v (by omega) (by omega)), nn_n (by omega), nn_s]
      exact fin _ (by rw [if_neg c]; rfl)
theorem mg42_s (hcl : cl ≤ 1908) : ∀ (d t n : Nat) (Bx : Nat → Int32), t + d = 8 → d + 1 ≤ n → ∃ Bx', f_m_generate_L42 F (i3 e.val) n (i3 (t : Int)) Bx = some Bx' ∧ (∀ u, t ≤ u → u < 8 → Bx' (8 * e.val + u) = 0) ∧ ∀ v, v < 8 * e.val + t → Bx' v = Bx v := by
  have hel := e.isLt
  intro d
  induction d with
  | zero =>
    intro t n Bx ht hn
    obtain ⟨n', rfl⟩ : ∃ n', n = n' + 1 := ⟨n - 1, by omega⟩
    refine ⟨Bx, ?_, fun u h1 h2 => absurd h2 (by omega), fun _ _ => rfl⟩
    have h8t : (8 : Int32) ≤ i3 (t : Int) := (nn_le (n := 8) (by omega) (by omega)).mpr (by omega)
    rw [f_m_generate_L42, if_t h8t]
  | succ d ih =>
    intro t n Bx ht hn
    obtain ⟨n', rfl⟩ : ∃ n', n = n' + 1 := ⟨n - 1, by omega⟩
    have e8 : (8 : Int32) * i3 (e.val : Int) + i3 (t : Int) = i3 ((8 * e.val + t : Nat) : Int) := by
      show i3 8 * i3 (e.val : Int) + i3 (t : Int) = _
      rw [i3_mul, i3_add]; congr 1
    have h8 : ¬ (8 : Int32) ≤ i3 (t : Int) := fun h => by have := (nn_le (n := 8) (by omega) (by omega)).mp h; omega
    obtain ⟨Bx', h1, h2, h3⟩ := ih (t + 1) n' (upd Bx (8 * e.val + t) 0) (by omega) (by omega)
    refine ⟨Bx', ?_, fun u hu1 hu2 => ?_, fun v hv => by rw [h3 v (by omega), pk_un (by omega)]⟩
    · rw [f_m_generate_L42, if_f h8, e8, if_t (nn_v (by omega) (by omega)), nn_n (n := 8 * e.val + t) (by omega), nn_s]
      exact h1
    · rcases Nat.lt_or_ge t u with q | q
      · exact h2 u q hu2
      · have : u = t := by omega
        subst this
        rw [h3 _ (by omega)]; exact pk_us
theorem mgen_s (hM : MT F D mw N cl Bf Bm Bk Bn mul) (G : isG mul e inv) (hod : ∀ x, isOrd mul e x (od x)) (hcl : cl ≤ 1908) (hF : 10000000 ≤ F) (hrk : ∀ (gs : Nat → Fin cl) (i : Nat), spec mul e od gs i → i ≤ 8) {Bo : Nat → Int32} (hBo : ∀ x : Fin cl, Bo x.val = i3 (od x)) (Bi Bx Bg Bl : Nat → Int32) (ma mb mc : Int64) :
    ∃ (m : Nat) (gs : Nat → Fin cl) (ml : Int32) (Bi' Bx' Bg' Bl' : Nat → Int32) (x y z : Int64), f_m_generate F (i6 D) mw (i3 N) Bf Bm Bk Bn (i3 (cl : Int)) (i3 e.val) Bo Bi Bx Bg Bl ma mb mc = some (i3 (m : Int), ml, Bi', Bx', Bg', Bl', x, y, z) ∧ spec mul e od gs m ∧ rr od gs m = cl ∧ exs mul e od gs m cl Bx' ∧ ∀ i, i < m → Bg' i = i3 (gs i).val := by
  have hel := e.isLt
  obtain ⟨Bi1, h1, h2, -⟩ := mg7_s (F := F) (e := e) hcl hel cl 0 F Bi (by omega) (by omega)
  obtain ⟨Bx1, h3, h4, -⟩ := mg42_s (F := F) (e := e) hcl 8 0 F Bx (by omega) (by omega)
  obtain ⟨m, gs, ml, Bi', Bx', Bg', Bl', x, y, z, h5, h6⟩ := mg86_s hM G hod hcl hF hrk hBo 9 0 F 0 (fun _ => e) Bi1 Bx1 Bg (upd Bl 0 (i3 e.val)) ma mb mc (by omega) (by omega) (by omega) ⟨by decide, by decide⟩ (fun j hj => absurd hj (by omega)) ⟨fun c hc => by
      have : c = 0 := by have : c < 1 := hc
                         omega
      subst this; exact pk_us, fun w => ⟨fun ⟨c, hc, he⟩ => by
        have hw : w = e := he.symm
        rw [h2 w.val (by omega) w.isLt, hw, if_pos rfl], fun hno => by
        rw [h2 w.val (by omega) w.isLt, if_neg]
        intro h
        exact hno ⟨0, Nat.one_pos, (Fin.ext h).symm⟩⟩, fun c hc t ht => by
      have : c = 0 := by have : c < 1 := hc
                         omega
      subst this
      show Bx1 (8 * e.val + t) = _
      rw [h4 t (by omega) ht]; rfl⟩ (fun i hi => absurd hi (by omega))
  refine ⟨m, gs, ml, Bi', Bx', Bg', Bl', x, y, z, ?_, h6⟩
  unfold f_m_generate
  have h1' : f_m_generate_L7 F (i3 (cl : Int)) (i3 e.val) F 0 Bi = _ := h1
  have h3' : f_m_generate_L42 F (i3 e.val) F 0 Bx = _ := h3
  have h5' : f_m_generate_L86 F (i6 D) mw (i3 N) (i3 (cl : Int)) (i3 e.val) Bf Bm Bk Bn Bo F 0 0 1 Bi1 Bx1 Bg (upd Bl (0 : Int32).toNatClampNeg (i3 e.val)) ma mb mc = _ := h5
  rw [h1']
  simp only [Option.bind_some]
  rw [h3']
  simp only [Option.bind_some]
  rw [if_t (by decide)]
  simp only [bnd]
  rw [h5']
  rfl
end Mgn
