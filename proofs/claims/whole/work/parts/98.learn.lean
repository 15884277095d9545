/-! What the class learns of the group: orders -/
theorem nn_lt {n m : Nat} (hn : n < 2147483648) (hm : m < 2147483648) : i3 (n : Int) < i3 (m : Int) ↔ n < m := by
  rw [i3_lt ⟨by omega, by omega⟩ ⟨by omega, by omega⟩]; omega
theorem nn_le {n m : Nat} (hn : n < 2147483648) (hm : m < 2147483648) : i3 (n : Int) ≤ i3 (m : Int) ↔ n ≤ m := by
  rw [i3_le ⟨by omega, by omega⟩ ⟨by omega, by omega⟩]; omega
theorem nn_eq {n m : Nat} (hn : n < 2147483648) (hm : m < 2147483648) : i3 (n : Int) = i3 (m : Int) ↔ n = m := by
  rw [i3_eq ⟨by omega, by omega⟩ ⟨by omega, by omega⟩]; omega
theorem nn_s (n : Nat) : i3 (n : Int) + 1 = i3 ((n + 1 : Nat) : Int) := by
  show i3 (n : Int) + i3 1 = _
  rw [i3_add]; rfl
theorem nn_n {n : Nat} (hn : n < 2147483648) : (i3 (n : Int)).toNatClampNeg = n := by rw [i3_nat ⟨by omega, by omega⟩]; omega
theorem nn_v {n N : Nat} (h : n < N) (hN : N < 2147483648) : vin (i3 (n : Int)) N := vin_i3 (by omega) (by omega) hN
theorem nn_c {cl k F : Nat} (h : k < cl) (hc : cl < 2147483648) : f_isClass F (i3 (cl : Int)) (i3 (k : Int)) = some 1 := by
  unfold f_isClass
  rw [if_f (fun q => by have := (c_lt0 (a := (k : Int)) ⟨by omega, by omega⟩).mp q; omega), if_f (fun q => by have := (nn_le hc (by omega)).mp q; omega)]
def MG (F : Nat) (D R : Int) (cl : Nat) (An : Nat → Int32) (mul : Fin cl → Fin cl → Fin cl) : Prop := ∀ (i j : Fin cl) (a1 b1 c1 a2 b2 c2 zg z1 z2 : Int64), ∃ x1 x2 x3 x4 x5 x6 x7 x8 x9 : Int64, f_mult F (i3 D) (i3 R) (i3 cl) An a1 b1 c1 a2 b2 c2 zg z1 z2 (i3 i.val) (i3 j.val) = some (i3 (mul i j).val, x1, x2, x3, x4, x5, x6, x7, x8, x9)
theorem mg_of (F : Nat) (hF : 1000000 ≤ F) {D R : Int} (hO : okD D R) {An : Nat → Int32} {cl : Nat} {fm : Nat → FT} (hN : isNF D R An cl fm) {mul : Fin cl → Fin cl → Fin cl} {e : Fin cl} {inv : Fin cl → Fin cl} (hG : GG D cl fm mul e inv) : MG F D R cl An mul := by
  intro i j a1 b1 c1 a2 b2 c2 zg z1 z2
  obtain ⟨k, h, x1, x2, x3, x4, x5, x6, x7, x8, x9, hk, h0, h1, h2, h3⟩ := mult_s F hF hO hN i.isLt j.isLt a1 b1 c1 a2 b2 c2 zg z1 z2
  have := pd_uni hO hN i.isLt j.isLt ⟨hk, h, h1, h2, h3⟩ (hG.2.1 i j)
  rw [this] at h0
  exact ⟨x1, x2, x3, x4, x5, x6, x7, x8, x9, h0⟩
theorem c1908 {j : Nat} (h : j < 2147483648) : (1908 : Int32) ≤ i3 (j : Int) ↔ 1908 ≤ j := by
  rw [show (1908 : Int32) = i3 ((1908 : Nat) : Int) from rfl]; exact nn_le (by omega) h
theorem fillL_s (F : Nat) (v : Int32) : ∀ (d j n : Nat) (A : Nat → Int32), j + d = 1908 → d + 1 ≤ n → ∃ A', f_fillI_L5 F v n (i3 (j : Int)) A = some A' ∧ (∀ i, j ≤ i → i < 1908 → A' i = v) := by
  intro d
  induction d with
  | zero =>
    intro j n A hj hn
    obtain ⟨n', rfl⟩ : ∃ n', n = n' + 1 := ⟨n - 1, by omega⟩
    refine ⟨A, ?_, fun i h1 h2 => absurd h2 (by omega)⟩
    rw [f_fillI_L5, if_t ((c1908 (by omega)).mpr (by omega))]
  | succ d ih =>
    intro j n A hj hn
    obtain ⟨n', rfl⟩ : ∃ n', n = n' + 1 := ⟨n - 1, by omega⟩
    rw [f_fillI_L5, if_f (fun q => by have := (c1908 (by omega)).mp q; omega), if_t (nn_v (by omega) (by omega)), nn_n (by omega), nn_s]
    -- what the rest fills, and this one stays
    have key : ∀ (d j n : Nat) (A : Nat → Int32), j + d = 1908 → d + 1 ≤ n → ∀ A', f_fillI_L5 F v n (i3 (j : Int)) A = some A' → ∀ i, i < j → A' i = A i := by
      intro d
      induction d with
      | zero =>
        intro j n A hj hn A' h i hi
        obtain ⟨n', rfl⟩ : ∃ n', n = n' + 1 := ⟨n - 1, by omega⟩
        rw [f_fillI_L5, if_t ((c1908 (by omega)).mpr (by omega))] at h
        cases h; rfl
      | succ d ih =>
        intro j n A hj hn A' h i hi
        obtain ⟨n', rfl⟩ : ∃ n', n = n' + 1 := ⟨n - 1, by omega⟩
        rw [f_fillI_L5, if_f (fun q => by have := (c1908 (by omega)).mp q; omega), if_t (nn_v (by omega) (by omega)), nn_n (by omega), nn_s] at h
        rw [ih (j + 1) n' _ (by omega) (by omega) A' h i (by omega), pk_un (by omega)]
    obtain ⟨A', h1, h2⟩ := ih (j + 1) n' (upd A j v) (by omega) (by omega)
    refine ⟨A', h1, fun i hi hi2 => ?_⟩
    rcases Nat.lt_or_ge j i with q | q
    · exact h2 i q hi2
    · have : i = j := by omega
      subst this
      rw [key d (i + 1) n' _ (by omega) (by omega) A' h1 i (by omega)]
      exact pk_us
theorem fill_s (F : Nat) (hF : 2000 ≤ F) (v : Int32) (A : Nat → Int32) : ∃ A', f_fillI F A v = some A' ∧ ∀ i, i < 1908 → A' i = v := by
  obtain ⟨A', h1, h2⟩ := fillL_s F v 1908 0 F A (by omega) (by omega)
  refine ⟨A', ?_, fun i hi => h2 i (by omega) hi⟩
  unfold f_fillI
  rw [show (0 : Int32) = i3 ((0 : Nat) : Int) from rfl, h1]; rfl
section Lrn
variable {F : Nat} {D R : Int} {cl : Nat} {An : Nat → Int32} {mul : Fin cl → Fin cl → Fin cl} {e : Fin cl} {inv : Fin cl → Fin cl}
theorem lopL_s (hM : MG F D R cl An mul) (hcl : cl ≤ 1908) {k : Fin cl} {o : Nat} (ho : isOrd mul e k o) (hoc : o ≤ cl) : ∀ (d j n : Nat) (Ae : Nat → Int32) (a1 b1 c1 a2 b2 c2 zg z1 z2 : Int64), j + d + 1 = o → d + 1 ≤ n → (∀ i, i < j → Ae i = i3 (gp mul e k i).val) →
    ∃ (Ae' : Nat → Int32) (x1 x2 x3 x4 x5 x6 x7 x8 x9 : Int64), f_lop_L7 F (i3 D) (i3 R) (i3 cl) (i3 e.val) An (i3 k.val) n (i3 (j : Int)) (i3 (gp mul e k j).val) a1 b1 c1 a2 b2 c2 zg z1 z2 Ae = some (i3 o, x1, x2, x3, x4, x5, x6, x7, x8, x9, Ae') ∧ ∀ i, i < o → Ae' i = i3 (gp mul e k i).val := by
  intro d
  induction d with
  | zero =>
    intro j n Ae a1 b1 c1 a2 b2 c2 zg z1 z2 hj hn hA
    obtain ⟨n', rfl⟩ : ∃ n', n = n' + 1 := ⟨n - 1, by omega⟩
    obtain ⟨x1, x2, x3, x4, x5, x6, x7, x8, x9, hm⟩ := hM (gp mul e k j) k a1 b1 c1 a2 b2 c2 zg z1 z2
    have he : mul (gp mul e k j) k = e := by
      have := ho.2.1
      rw [← hj] at this; exact this
    rw [he] at hm
    refine ⟨upd Ae j (i3 (gp mul e k j).val), x1, x2, x3, x4, x5, x6, x7, x8, x9, ?_, fun i hi => ?_⟩
    · rw [f_lop_L7, if_t (nn_v (by omega) (by omega)), nn_n (by omega), nn_s]
      show Option.bind (f_mult F (i3 D) (i3 R) (i3 cl) An a1 b1 c1 a2 b2 c2 zg z1 z2 (i3 (gp mul e k j).val) (i3 k.val)) _ = _
      rw [hm]
      simp only [Option.bind_some]
      rw [if_t trivial, show j + 1 = o by omega]
    · rcases Nat.lt_or_ge i j with q | q
      · rw [pk_un (by omega)]; exact hA i q
      · have : i = j := by omega
        subst this; exact pk_us
  | succ d ih =>
    intro j n Ae a1 b1 c1 a2 b2 c2 zg z1 z2 hj hn hA
    obtain ⟨n', rfl⟩ : ∃ n', n = n' + 1 := ⟨n - 1, by omega⟩
    obtain ⟨x1, x2, x3, x4, x5, x6, x7, x8, x9, hm⟩ := hM (gp mul e k j) k a1 b1 c1 a2 b2 c2 zg z1 z2
    have hne : gp mul e k (j + 1) ≠ e := ho.2.2 (j + 1) (by omega) (by omega)
    obtain ⟨Ae', y1, y2, y3, y4, y5, y6, y7, y8, y9, h1, h2⟩ := ih (j + 1) n' (upd Ae j (i3 (gp mul e k j).val)) x1 x2 x3 x4 x5 x6 x7 x8 x9 (by omega) (by omega) (fun i hi => by
      rcases Nat.lt_or_ge i j with q | q
      · rw [pk_un (by omega)]; exact hA i q
      · have : i = j := by omega
        subst this; exact pk_us)
    refine ⟨Ae', y1, y2, y3, y4, y5, y6, y7, y8, y9, ?_, h2⟩
    rw [f_lop_L7, if_t (nn_v (by omega) (by omega)), nn_n (by omega), nn_s]
    show Option.bind (f_mult F (i3 D) (i3 R) (i3 cl) An a1 b1 c1 a2 b2 c2 zg z1 z2 (i3 (gp mul e k j).val) (i3 k.val)) _ = _
    have hm' : f_mult F (i3 D) (i3 R) (i3 cl) An a1 b1 c1 a2 b2 c2 zg z1 z2 (i3 (gp mul e k j).val) (i3 k.val) = some (i3 (gp mul e k (j + 1)).val, x1, x2, x3, x4, x5, x6, x7, x8, x9) := hm
    rw [hm']
    simp only [Option.bind_some]
    have c1 := (gp mul e k (j + 1)).isLt
    have c2 := e.isLt
    have c3 := (mul (gp mul e k j) k).isLt
    rw [if_f (fun q => hne (Fin.ext ((nn_eq (by omega) (by omega)).mp q))), if_t ((nn_lt (by omega) (by omega)).mpr (by omega))]
    exact h1
theorem lop43_s (G : isG mul e inv) {od : Fin cl → Nat} (hod : ∀ x, isOrd mul e x (od x)) (hcl : cl ≤ 1908) (hF : 100 ≤ F) {k : Fin cl} (hoc : od k ≤ cl) {Ae : Nat → Int32} (hA : ∀ i, i < od k → Ae i = i3 (gp mul e k i).val) : ∀ (d j n : Nat) (Ao : Nat → Int32), j + d = od k → d + 1 ≤ n →
    ∃ Ao', f_lop_L43 F (i3 cl) (i3 (od k)) Ae n (i3 (j : Int)) Ao = some Ao' ∧ ∀ x : Fin cl, ((∃ i, j ≤ i ∧ i < od k ∧ gp mul e k i = x) → Ao' x.val = i3 (od x)) ∧ ((¬ ∃ i, j ≤ i ∧ i < od k ∧ gp mul e k i = x) → Ao' x.val = Ao x.val) := by
  intro d
  induction d with
  | zero =>
    intro j n Ao hj hn
    obtain ⟨n', rfl⟩ : ∃ n', n = n' + 1 := ⟨n - 1, by omega⟩
    refine ⟨Ao, ?_, fun x => ⟨fun ⟨i, h1, h2, _⟩ => absurd h2 (by omega), fun _ => rfl⟩⟩
    rw [f_lop_L43, if_t ((nn_le (by omega) (by omega)).mpr (by omega))]
  | succ d ih =>
    intro j n Ao hj hn
    obtain ⟨n', rfl⟩ : ∃ n', n = n' + 1 := ⟨n - 1, by omega⟩
    have hlt := (gp mul e k j).isLt
    obtain ⟨Ao', h1, h2⟩ := ih (j + 1) n' (upd Ao (gp mul e k j).val (i3 (od (gp mul e k j)))) (by omega) (by omega)
    refine ⟨Ao', ?_, fun x => ⟨fun hx => ?_, fun hx => ?_⟩⟩
    · have hAj : Ae (i3 (j : Int)).toNatClampNeg = i3 (gp mul e k j).val := by rw [nn_n (by omega)]; exact hA j (by omega)
      rw [f_lop_L43, if_f (fun q => by have := (nn_le (by omega) (by omega)).mp q; omega), if_t (nn_v (by omega) (by omega)), hAj, nn_c hlt (by omega), nn_s]
      simp only [Option.bind_some]
      rw [if_f (by decide), if_t (nn_v (by omega) (by omega)), gcd_s F hF ⟨by omega, by omega⟩ ⟨by omega, by omega⟩ (by omega) (by omega)]
      simp only [Option.bind_some]
      have hg0 : 0 < Nat.gcd (od k) j := Nat.gcd_pos_of_pos_left _ (by omega)
      have hgl : Nat.gcd (od k) j ≤ od k := Nat.gcd_le_left _ (by omega)
      rw [show (Int.gcd (od k : Int) (j : Int)) = Nat.gcd (od k) j from rfl, show (1 : Int32) = i3 1 from rfl, maxI_s F ⟨by omega, by omega⟩ ⟨by omega, by omega⟩]
      simp only [Option.bind_some]
      have em : (if (1 : Int) < (Nat.gcd (od k) j : Nat) then ((Nat.gcd (od k) j : Nat) : Int) else 1) = (Nat.gcd (od k) j : Nat) := by split <;> omega
      have hz : ¬ i3 ((Nat.gcd (od k) j : Nat) : Int) = 0 := fun q => by have := (c_eq0 (a := ((Nat.gcd (od k) j : Nat) : Int)) ⟨by omega, by omega⟩).mp q; omega
      rw [em, if_t hz, if_t (nn_v (by omega) (by omega)), nn_n (by omega)]
      have ed := i3_div (a := (od k : Int)) (b := ((Nat.gcd (od k) j : Nat) : Int)) ⟨by omega, by omega⟩ ⟨by omega, by omega⟩ (by omega) (by omega)
      rw [ed.1, ← Int.ofNat_tdiv, ← ord_uni G (hod (gp mul e k j)) (ord_pow G (hod k) j)]
      exact h1
    · by_cases hx2 : ∃ i, j + 1 ≤ i ∧ i < od k ∧ gp mul e k i = x
      · exact (h2 x).1 hx2
      · rw [(h2 x).2 hx2]
        obtain ⟨i, i1, i2, i3'⟩ := hx
        have : i = j := by
          rcases Nat.lt_or_ge j i with q | q
          · exact absurd ⟨i, by omega, i2, i3'⟩ hx2
          · omega
        subst this
        rw [← i3']; exact pk_us
    · rw [(h2 x).2 (fun ⟨i, i1, i2, i3'⟩ => hx ⟨i, by omega, i2, i3'⟩), pk_un]
      intro hh
      exact hx ⟨j, Nat.le_refl _, by omega, Fin.ext hh.symm⟩
theorem lop_s (hM : MG F D R cl An mul) (G : isG mul e inv) {od : Fin cl → Nat} (hod : ∀ x, isOrd mul e x (od x)) (hcl : cl ≤ 1908) (hF : 3000 ≤ F) (k : Fin cl) {go : Nat} (hgo : go ≤ 1908) (Ao Ae : Nat → Int32) (a1 b1 c1 a2 b2 c2 zg z1 z2 : Int64) :
    ∃ (Ao' Ae' : Nat → Int32) (x1 x2 x3 x4 x5 x6 x7 x8 x9 : Int64), f_lop F (i3 D) (i3 R) (i3 cl) (i3 e.val) An (i3 go) a1 b1 c1 a2 b2 c2 zg z1 z2 Ao Ae (i3 k.val) = some (i3 ((if go < od k then od k else go : Nat) : Int), x1, x2, x3, x4, x5, x6, x7, x8, x9, Ao', Ae') ∧
      ∀ x : Fin cl, ((∃ i, gp mul e k i = x) → Ao' x.val = i3 (od x)) ∧ ((¬ ∃ i, gp mul e k i = x) → Ao' x.val = Ao x.val) := by
  have hoc : od k ≤ cl := by
    obtain ⟨n, h4, h5⟩ := ord_ex G k
    rw [ord_uni G (hod k) h4]; exact h5
  have hpos := (hod k).1
  obtain ⟨Ae', x1, x2, x3, x4, x5, x6, x7, x8, x9, h1, h2⟩ := lopL_s hM hcl (hod k) hoc (od k - 1) 0 F Ae a1 b1 c1 a2 b2 c2 zg z1 z2 (by omega) (by omega) (fun i hi => absurd hi (by omega))
  obtain ⟨Ao', h3, h4⟩ := lop43_s (F := F) G hod hcl (by omega) hoc h2 (od k) 0 F Ao (by omega) (by omega)
  refine ⟨Ao', Ae', x1, x2, x3, x4, x5, x6, x7, x8, x9, ?_, fun x => ⟨fun ⟨i, hi⟩ => (h4 x).1 ⟨i % od k, by omega, Nat.mod_lt _ hpos, by rw [← gp_red G (hod k)]; exact hi⟩, fun hx => (h4 x).2 (fun ⟨i, _, _, hi⟩ => hx ⟨i, hi⟩)⟩⟩
  unfold f_lop
  have e0 : f_lop_L7 F (i3 D) (i3 R) (i3 cl) (i3 e.val) An (i3 k.val) F 0 (i3 e.val) a1 b1 c1 a2 b2 c2 zg z1 z2 Ae = _ := h1
  rw [e0]
  simp only [Option.bind_some]
  rw [show (0 : Int32) = i3 ((0 : Nat) : Int) from rfl, h3]
  simp only [Option.bind_some]
  rw [maxI_s F ⟨by omega, by omega⟩ ⟨by omega, by omega⟩]
  simp only [Option.bind_some]
  congr 4
  split <;> split <;> omega
/-- the greatest order -/
def isMx (od : Fin cl → Nat) (go : Nat) : Prop := (∀ x, od x ≤ go) ∧ ∃ x, od x = go
theorem loL_s (hM : MG F D R cl An mul) (G : isG mul e inv) {od : Fin cl → Nat} (hod : ∀ x, isOrd mul e x (od x)) (hcl : cl ≤ 1908) (hF : 3000 ≤ F) : ∀ (d j n go : Nat) (Ao Ae : Nat → Int32) (a1 b1 c1 a2 b2 c2 zg z1 z2 : Int64), j + d = cl → d + 1 ≤ n → go ≤ 1908 → (∃ x, od x = go) → (∀ x : Fin cl, Ao x.val = i3 (0 : Nat) ∨ (Ao x.val = i3 (od x) ∧ od x ≤ go)) → (∀ x : Fin cl, x.val < j → Ao x.val = i3 (od x)) →
    ∃ (go' : Nat) (Ao' Ae' : Nat → Int32) (x1 x2 x3 x4 x5 x6 x7 x8 x9 : Int64), f_lo_L15 F (i3 D) (i3 R) (i3 cl) (i3 e.val) An n (i3 (j : Int)) (i3 go) a1 b1 c1 a2 b2 c2 zg z1 z2 Ao Ae = some (i3 go', x1, x2, x3, x4, x5, x6, x7, x8, x9, Ao', Ae') ∧ isMx od go' ∧ ∀ x : Fin cl, Ao' x.val = i3 (od x) := by
  have hoc : ∀ k, od k ≤ cl := fun k => by
    obtain ⟨n, h4, h5⟩ := ord_ex G k
    rw [ord_uni G (hod k) h4]; exact h5
  intro d
  induction d with
  | zero =>
    intro j n go Ao Ae a1 b1 c1 a2 b2 c2 zg z1 z2 hj hn hgo hgx hA hB
    obtain ⟨n', rfl⟩ : ∃ n', n = n' + 1 := ⟨n - 1, by omega⟩
    refine ⟨go, Ao, Ae, a1, b1, c1, a2, b2, c2, zg, z1, z2, ?_, ⟨fun x => ?_, hgx⟩, fun x => hB x (by have := x.isLt; omega)⟩
    · rw [f_lo_L15, if_t ((nn_le (by omega) (by omega)).mpr (by omega))]
    · rcases hA x with h | h
      · have h1 := hB x (by have := x.isLt; omega)
        rw [h] at h1
        have := (nn_eq (by omega) (by have := hoc x; omega)).mp h1
        have := (hod x).1
        omega
      · exact h.2
  | succ d ih =>
    intro j n go Ao Ae a1 b1 c1 a2 b2 c2 zg z1 z2 hj hn hgo hgx hA hB
    obtain ⟨n', rfl⟩ : ∃ n', n = n' + 1 := ⟨n - 1, by omega⟩
    have hj' : j < cl := by omega
    rw [f_lo_L15, if_f (fun q => by have := (nn_le (by omega) (by omega)).mp q; omega), if_t (nn_v (by omega) (by omega)), nn_n (by omega)]
    have ho1 := (hod ⟨j, hj'⟩).1
    have ho2 := hoc ⟨j, hj'⟩
    rcases hA ⟨j, hj'⟩ with h | h
    · have h' : Ao j = 0 := h
      rw [if_t h']
      obtain ⟨Ao1, Ae1, x1, x2, x3, x4, x5, x6, x7, x8, x9, h1, h2⟩ := lop_s hM G hod hcl hF ⟨j, hj'⟩ hgo Ao Ae a1 b1 c1 a2 b2 c2 zg z1 z2
      have h1' : f_lop F (i3 D) (i3 R) (i3 cl) (i3 e.val) An (i3 go) a1 b1 c1 a2 b2 c2 zg z1 z2 Ao Ae (i3 (j : Int)) = _ := h1
      rw [h1']
      simp only [Option.bind_some]
      rw [nn_s]
      have hgo2 : (if go < od ⟨j, hj'⟩ then od ⟨j, hj'⟩ else go) ≤ 1908 := by split <;> omega
      refine ih (j + 1) n' _ Ao1 Ae1 x1 x2 x3 x4 x5 x6 x7 x8 x9 (by omega) (by omega) hgo2 ?_ ?_ ?_
      · split
        · exact ⟨_, rfl⟩
        · exact hgx
      · intro x
        by_cases hx : ∃ i, gp mul e ⟨j, hj'⟩ i = x
        · refine Or.inr ⟨(h2 x).1 hx, ?_⟩
          obtain ⟨i, hi⟩ := hx
          have e1 := ord_uni G (hod (gp mul e ⟨j, hj'⟩ i)) (ord_pow G (hod ⟨j, hj'⟩) i)
          rw [hi] at e1
          have := Nat.div_le_self (od ⟨j, hj'⟩) (Nat.gcd (od ⟨j, hj'⟩) i)
          split <;> omega
        · rw [(h2 x).2 hx]
          rcases hA x with q | q
          · exact Or.inl q
          · refine Or.inr ⟨q.1, ?_⟩
            have := q.2
            split <;> omega
      · intro x hx
        by_cases hx2 : ∃ i, gp mul e ⟨j, hj'⟩ i = x
        · exact (h2 x).1 hx2
        · rw [(h2 x).2 hx2]
          refine hB x ?_
          rcases Nat.lt_or_ge x.val j with q | q
          · exact q
          · exfalso
            apply hx2
            refine ⟨1, ?_⟩
            rw [gp_one G]
            exact Fin.ext (by show j = x.val; omega)
    · have hz : ¬ Ao j = 0 := fun q => by
        have h' : Ao j = i3 (od ⟨j, hj'⟩) := h.1
        rw [h'] at q
        have := (c_eq0 (a := (od ⟨j, hj'⟩ : Int)) ⟨by omega, by omega⟩).mp q
        omega
      rw [if_f hz, nn_s]
      refine ih (j + 1) n' go Ao Ae a1 b1 c1 a2 b2 c2 zg z1 z2 (by omega) (by omega) hgo hgx hA ?_
      intro x hx
      rcases Nat.lt_or_ge x.val j with q | q
      · exact hB x q
      · have : x = ⟨j, hj'⟩ := Fin.ext (by show x.val = j; omega)
        rw [this]; exact h.1
theorem lo_s (hM : MG F D R cl An mul) (G : isG mul e inv) {od : Fin cl → Nat} (hod : ∀ x, isOrd mul e x (od x)) (hcl : cl ≤ 1908) (hF : 3000 ≤ F) (go : Int32) (Ao Ae : Nat → Int32) (a1 b1 c1 a2 b2 c2 zg z1 z2 : Int64) :
    ∃ (go' : Nat) (Ao' Ae' : Nat → Int32) (x1 x2 x3 x4 x5 x6 x7 x8 x9 : Int64), f_lo F (i3 D) (i3 R) (i3 cl) (i3 e.val) An go a1 b1 c1 a2 b2 c2 zg z1 z2 Ao Ae = some (i3 go', x1, x2, x3, x4, x5, x6, x7, x8, x9, Ao', Ae') ∧ isMx od go' ∧ ∀ x : Fin cl, Ao' x.val = i3 (od x) := by
  obtain ⟨A1, h1, h2⟩ := fill_s F (by omega) 0 Ao
  have he := e.isLt
  obtain ⟨go', Ao', Ae', x1, x2, x3, x4, x5, x6, x7, x8, x9, h3, h4, h5⟩ := loL_s hM G hod hcl hF cl 0 F 1 A1 Ae a1 b1 c1 a2 b2 c2 zg z1 z2 (by omega) (by omega) (by omega) ⟨e, by
    have : od e ∣ 1 := (ord_dvd G (hod e) 1).mp (gp_e G 1)
    have := Nat.le_of_dvd (by omega) this
    have := (hod e).1
    omega⟩ (fun x => Or.inl (h2 x.val (by have := x.isLt; omega))) (fun x hx => absurd hx (by omega))
  refine ⟨go', Ao', Ae', x1, x2, x3, x4, x5, x6, x7, x8, x9, ?_, h4, h5⟩
  unfold f_lo
  rw [h1]
  simp only [Option.bind_some]
  have e0 : f_lo_L15 F (i3 D) (i3 R) (i3 cl) (i3 e.val) An F 0 1 a1 b1 c1 a2 b2 c2 zg z1 z2 A1 Ae = _ := h3
  rw [e0]; rfl
end Lrn
