/-! No D has more than 1908 classes -/
theorem rc_of {s i o q : Nat} (h : i = o + s * q) : rc s i o = true := by
  unfold rc
  rw [Bool.and_eq_true, decide_eq_true_eq, decide_eq_true_eq]
  refine ⟨by omega, ?_⟩
  rw [h, Nat.add_sub_cancel_left, Nat.mul_mod_right]
theorem sq_room {x p A : Nat} (h : 2 * x + p ≤ A) (hA : 1 ≤ A) : x * x + p * x + 1 ≤ A * A := by
  have h1 := Nat.mul_le_mul h h
  have e : (2 * x + p) * (2 * x + p) = 4 * (x * x) + 4 * (p * x) + p * p := by grind
  rw [e] at h1
  have h2 := Nat.mul_le_mul hA hA
  by_cases hx : x = 0
  · subst hx; omega
  · have := Nat.mul_le_mul (show 1 ≤ x by omega) (show 1 ≤ x by omega); omega
theorem sm_fam (r : Nat → Nat) (k n : Nat) (hk : 0 < k) : sm (fun y => r (y / k)) (k * n) = k * sm r n := by
  induction n with
  | zero => rfl
  | succ n ih =>
    have h1 : ∀ j, j ≤ k → sm (fun y => r (y / k)) (k * n + j) = sm (fun y => r (y / k)) (k * n) + j * r n := by
      intro j
      induction j with
      | zero => intro _; simp
      | succ j ihj =>
        intro hj
        show sm (fun y => r (y / k)) (k * n + j) + r ((k * n + j) / k) = _
        rw [ihj (by omega), Nat.mul_add_div hk, Nat.div_eq_of_lt (by omega), Nat.add_zero, Nat.succ_mul]; omega
    rw [Nat.mul_succ, h1 k (Nat.le_refl k), ih]
    simp only [sm]; rw [Nat.mul_add]
theorem negIx {D : Int} (hn : D < 0) (hT : takeable D) : ∃ p i : Nat, (p = 0 ∨ p = 1) ∧ -D + p = 4 * (i + 1) ∧ i < 262144 := by
  obtain ⟨h1, h2, h3, h4⟩ := hT
  by_cases h : D % 4 = 0
  · exact ⟨0, ((-D) / 4 - 1).toNat, Or.inl rfl, by omega, by omega⟩
  · exact ⟨1, ((-D + 1) / 4 - 1).toNat, Or.inr rfl, by omega, by omega⟩
theorem neg_cell {D R : Int} (hO : okD D R) (hn : D < 0) {p i : Nat} (hp : p = 0 ∨ p = 1) (hD : -D + p = 4 * (i + 1)) {f : FT} (hf : isName D R f) :
    ∃ z : Nat × Nat, (z.1 < 1184 ∧ z.2 < ngM p z.1 ∧ rc (ngA p z.1) i (ngO p z.1 z.2) = true) ∧ f.1 = ngA p z.1 ∧ ((z.1 % 4 < 2 ∧ f.2.1 = 2 * z.2 + p) ∨ (¬ z.1 % 4 < 2 ∧ f.2.1 = -(2 * ((z.2 + 1 - p : Nat) : Int) + p))) := by
  obtain ⟨a, b, c⟩ := f
  obtain ⟨r1, r2, r3, r4⟩ := name_rng hO hn hf
  have hd := hf.2.1.1 hn
  have hdd : b * b - 4 * a * c = D := hf.1.1
  simp only [dred] at hd
  simp only at r1 r2 r4 hd ⊢
  obtain ⟨A, rfl⟩ : ∃ A : Nat, a = A := ⟨a.toNat, by omega⟩
  obtain ⟨t, rfl⟩ : ∃ t : Nat, c = (A : Int) + t := ⟨(c - A).toNat, by omega⟩
  have hpar : b % 2 = p := by
    have e1 : (b * b - 4 * A * (A + t)) % 2 = D % 2 := by rw [hdd]
    have e2 : (b * b) % 2 = D % 2 := by
      have e3 : b * b - 4 * A * (A + t) = b * b + 2 * (-(2 * A * (A + t))) := by grind
      rw [e3, Int.add_mul_emod_self_left] at e1; exact e1
    have e4 : (b * b) % 2 = b % 2 := by
      rcases Int.emod_two_eq b with h | h <;> simp [Int.mul_emod, h]
    omega
  have hpp : (p : Int) * p = p := by rcases hp with rfl | rfl <;> rfl
  by_cases hb : 0 ≤ b
  · obtain ⟨x, hx⟩ : ∃ x : Nat, b = 2 * x + p := ⟨((b - p) / 2).toNat, by omega⟩
    have hi : A * A + A * t = x * x + p * x + i + 1 := by
      have : ((A * A + A * t : Nat) : Int) = ((x * x + p * x + i + 1 : Nat) : Int) := by
        push_cast
        rw [hx] at hdd
        have e : (2 * (x : Int) + p) * (2 * x + p) = 4 * (x * x) + 4 * (p * x) + p * p := by grind
        rw [e, hpp] at hdd
        have e2 : 4 * (A : Int) * (A + t) = 4 * (A * A) + 4 * (A * t) := by grind
        rw [e2] at hdd
        omega
      exact_mod_cast this
    have hyA : ngA p (4 * ((A - p) / 2) + (A - p) % 2) = A := by
      unfold ngA
      by_cases h2 : (A - p) % 2 = 0
      · rw [if_pos (by omega)]; omega
      · rw [if_neg (by omega), if_neg (by omega)]; omega
    refine ⟨(4 * ((A - p) / 2) + (A - p) % 2, x), ⟨by simp only; omega, ?_, ?_⟩, by simp only; rw [hyA], Or.inl ⟨by simp only; omega, hx⟩⟩
    · simp only [ngM]
      rw [if_pos (by omega), hyA, if_neg (by omega)]; omega
    · simp only [ngO]
      rw [if_pos (by omega), hyA]
      have := sq_room (x := x) (p := p) (A := A) (by omega) (by omega)
      exact rc_of (q := t) (by omega)
  · obtain ⟨x, hx⟩ : ∃ x : Nat, b = -(2 * x + p) := ⟨((-b - p) / 2).toNat, by omega⟩
    obtain ⟨u, rfl⟩ : ∃ u : Nat, t = u + 1 := ⟨t - 1, by omega⟩
    have hi : A * A + A * (u + 1) = x * x + p * x + i + 1 := by
      have : ((A * A + A * (u + 1) : Nat) : Int) = ((x * x + p * x + i + 1 : Nat) : Int) := by
        push_cast
        rw [hx] at hdd
        have e : (-(2 * (x : Int) + p)) * (-(2 * x + p)) = 4 * (x * x) + 4 * (p * x) + p * p := by grind
        rw [e, hpp] at hdd
        push_cast at hdd
        have e2 : 4 * (A : Int) * (A + (u + 1)) = 4 * (A * A) + 4 * (A * (u + 1)) := by grind
        rw [e2] at hdd
        omega
      exact_mod_cast this
    rw [Nat.mul_succ] at hi
    have hyA : ngA p (4 * ((A - p - 1) / 2) + (2 + (A - p - 1) % 2)) = A := by
      unfold ngA
      rw [if_neg (by omega)]
      by_cases h2 : (A - p - 1) % 2 = 0
      · rw [if_neg (by omega)]; omega
      · rw [if_pos (by omega)]; omega
    refine ⟨(4 * ((A - p - 1) / 2) + (2 + (A - p - 1) % 2), x + p - 1), ⟨by simp only; omega, ?_, ?_⟩, by simp only; rw [hyA], Or.inr ⟨by simp only; omega, ?_⟩⟩
    · simp only [ngM]
      rw [if_neg (by omega)]; omega
    · simp only [ngO]
      rw [if_neg (by omega), hyA, show x + p - 1 + 1 - p = x by omega]
      have := sq_room (x := x) (p := p) (A := A) (by omega) (by omega)
      exact rc_of (q := u) (by omega)
    · simp only
      rw [show x + p - 1 + 1 - p = x by omega]; exact hx
theorem cap_neg {D R : Int} (hO : okD D R) (hn : D < 0) : capD D R := by
  intro n g hg hi
  obtain ⟨p, i, hp, hD, hib⟩ := negIx hn hO.1
  have key : ∀ f : FT, ∃ z : Nat × Nat, isName D R f → ((z.1 < 1184 ∧ z.2 < ngM p z.1 ∧ rc (ngA p z.1) i (ngO p z.1 z.2) = true) ∧ f.1 = ngA p z.1 ∧ ((z.1 % 4 < 2 ∧ f.2.1 = 2 * z.2 + p) ∨ (¬ z.1 % 4 < 2 ∧ f.2.1 = -(2 * ((z.2 + 1 - p : Nat) : Int) + p)))) := by
    intro f
    by_cases h : isName D R f
    · obtain ⟨z, hz⟩ := neg_cell hO hn hp hD h; exact ⟨z, fun _ => hz⟩
    · exact ⟨(0, 0), fun h' => absurd h' h⟩
  obtain ⟨c, hc⟩ := Classical.axiomOfChoice key
  have hmem : ∀ f, f ∈ (List.range n).map g → isName D R f := by
    intro f hf
    obtain ⟨k, hk, rfl⟩ := List.mem_map.1 hf
    exact hg k (List.mem_range.1 hk)
  have hnd : ((List.range n).map g).Nodup := by
    rw [List.Nodup, List.pairwise_map]
    refine List.Pairwise.imp_of_mem ?_ List.nodup_range
    intro x y hx hy hne he
    exact hne (hi x y (List.mem_range.1 hx) (List.mem_range.1 hy) he)
  have := cells_cap (m := ngM p) (p := fun y x => rc (ngA p y) i (ngO p y x)) (A := 1184) _ hnd c (fun f hf => (hc f (hmem f hf)).1) (fun f g hf hg he => by
    obtain ⟨-, a1, b1⟩ := hc f (hmem f hf)
    obtain ⟨-, a2, b2⟩ := hc g (hmem g hg)
    rw [← he] at a2 b2
    refine name_key hO (hmem f hf) (hmem g hg) ?_
    simp only [keyI]
    rw [a1, a2]
    rcases b1 with ⟨h1, h2⟩ | ⟨h1, h2⟩ <;> rcases b2 with ⟨h3, h4⟩ | ⟨h3, h4⟩ <;> first | omega | (rw [h2, h4]))
  rw [List.length_map, List.length_range] at this
  exact Nat.le_trans this (ng_cap hp hib)
/-! D above 0 -/
theorem posIx {D : Int} (hn : 0 < D) (hT : takeable D) : ∃ p i : Nat, (p = 0 ∨ p = 1) ∧ D = 4 * i + p ∧ i < 262144 ∧ ∀ x, x < 512 → i ≠ x * x + p * x := by
  obtain ⟨h1, h2, h3, h4⟩ := hT
  have hne : D ≠ 1048576 := fun h => h4 1024 (by rw [h]; rfl)
  refine ⟨(D % 4).toNat, (D / 4).toNat, by omega, by omega, by omega, ?_⟩
  intro x _ hx
  apply h4 (2 * x + (D % 4).toNat)
  have hpp : (((D % 4).toNat : Nat) : Int) * ((D % 4).toNat : Nat) = ((D % 4).toNat : Nat) := by
    have : (D % 4).toNat = 0 ∨ (D % 4).toNat = 1 := by omega
    rcases this with h | h <;> rw [h] <;> rfl
  have e : (2 * (x : Int) + ((D % 4).toNat : Nat)) * (2 * x + ((D % 4).toNat : Nat)) = 4 * ((x * x + (D % 4).toNat * x : Nat) : Int) + ((D % 4).toNat : Nat) * ((D % 4).toNat : Nat) := by push_cast; grind
  rw [e, hpp, ← hx]; omega
theorem fred_sw {a b c : Int} (h : fred (a, b, c)) : fred (c, b, a) := by
  obtain ⟨h1, h2, h3⟩ := h
  simp only at h1 h2 h3
  exact ⟨by simp only; omega, by simp only; omega, by simp only; omega⟩
theorem pos_cell {D R : Int} (hO : okD D R) (h0 : 0 < D) {p i : Nat} (hp : p = 0 ∨ p = 1) (hD : D = 4 * i + p) (hi : i < 262144) {f : FT} (hf : fred f) (hd : fdisc f = D) (hs : f.1 < 0) :
    ∃ z : Nat × Nat, (z.1 < 2 * 511 ∧ z.2 < z.1 / 2 + 1 ∧ rc (z.1 / 2 + 1) i ((z.2 * z.2 + p * z.2) % (z.1 / 2 + 1)) = true) ∧ ((z.1 % 2 = 0 ∧ (f.1.natAbs = z.1 / 2 + 1)) ∨ (z.1 % 2 = 1 ∧ f.2.2.natAbs = z.1 / 2 + 1)) ∧ (∃ q : Int, f.2.1 = 2 * (z.2 + ((z.1 / 2 + 1 : Nat) : Int) * q) + p) ∧ f.2.1 ≤ R ∧ R < 2 * ((z.1 / 2 + 1 : Nat) : Int) + f.2.1 := by
  obtain ⟨a, b, c⟩ := f
  have hR := (hO.2.1 h0).1
  have hRb := (hO.2.1 h0).2
  have hns := hO.1.2.2.2
  have w1 := ((redI_fred hR hns h0 hd).mpr hf).2 h0
  have w2 := ((redI_fred hR hns h0 (f := (c, b, a)) (by simp only [fdisc] at hd ⊢; grind)).mpr (fred_sw hf)).2 h0
  simp only at w1 w2 hs ⊢
  have hdd : b * b - 4 * a * c = D := hd
  have hsg := hf.1
  simp only at hsg
  obtain ⟨A, rfl⟩ : ∃ A : Nat, a = -A := ⟨a.natAbs, by omega⟩
  obtain ⟨C, rfl⟩ : ∃ C : Nat, c = C := ⟨c.natAbs, by omega⟩
  have hpar : b % 2 = p := by
    have e2 : (b * b) % 2 = D % 2 := by
      rw [← hdd, show b * b - 4 * -(A : Int) * C = b * b + 2 * (2 * A * C) by grind, Int.add_mul_emod_self_left]
    have e4 : (b * b) % 2 = b % 2 := by
      rcases Int.emod_two_eq b with h | h <;> simp [Int.mul_emod, h]
    omega
  obtain ⟨x, hx⟩ : ∃ x : Nat, b = 2 * x + p := ⟨((b - p) / 2).toNat, by omega⟩
  have hpp : (p : Int) * p = p := by rcases hp with rfl | rfl <;> rfl
  have hii : i = x * x + p * x + A * C := by
    have : (i : Int) = ((x * x + p * x + A * C : Nat) : Int) := by
      push_cast
      rw [hx] at hdd
      have e : (2 * (x : Int) + p) * (2 * x + p) = 4 * (x * x) + 4 * (p * x) + p * p := by grind
      rw [e, hpp] at hdd
      have e2 : 4 * -(A : Int) * C = -(4 * (A * C)) := by grind
      rw [e2] at hdd
      omega
    exact_mod_cast this
  have main : ∀ s t : Nat, 0 < s → s ≤ t → s * t = A * C → s ≤ 511 ∧ rc s i (((x % s) * (x % s) + p * (x % s)) % s) = true ∧ ∃ q : Int, b = 2 * (((x % s : Nat) : Int) + (s : Int) * q) + p := by
    intro s t h1 h2 h3
    have h4 : s * s ≤ s * t := Nat.mul_le_mul_left _ h2
    refine ⟨?_, ?_, ((x / s : Nat) : Int), ?_⟩
    · apply Decidable.byContradiction
      intro h5
      have := Nat.mul_le_mul (show 512 ≤ s by omega) (show 512 ≤ s by omega)
      omega
    · have e1 : ((x % s) * (x % s) + p * (x % s)) % s = i % s := by
        rw [hii, ← h3, Nat.add_mul_mod_self_left]
        rw [Nat.add_mod, ← Nat.mul_mod, Nat.mul_mod_mod, ← Nat.add_mod]
      rw [e1]
      exact rc_of (q := i / s) (by have := Nat.mod_add_div i s; omega)
    · have := Nat.div_add_mod x s
      have e : ((x : Nat) : Int) = ((x % s : Nat) : Int) + (s : Int) * ((x / s : Nat) : Int) := by
        rw [← Int.natCast_mul, ← Int.natCast_add]; congr 1; omega
      rw [← e]; exact hx
  rw [show (-(A : Int)).natAbs = A by omega, show (C : Int).natAbs = C by omega] at *
  by_cases hAC : A ≤ C
  · obtain ⟨m1, m2, m3⟩ := main A C (by omega) hAC rfl
    refine ⟨(2 * (A - 1), x % A), ⟨by simp only; omega, ?_, ?_⟩, Or.inl ⟨by simp only; omega, by simp only; omega⟩, ?_, w1.2.1, ?_⟩
    · simp only; rw [show 2 * (A - 1) / 2 + 1 = A by omega]; exact Nat.mod_lt _ (by omega)
    · simp only; rw [show 2 * (A - 1) / 2 + 1 = A by omega]; exact m2
    · simp only; rw [show 2 * (A - 1) / 2 + 1 = A by omega]; exact m3
    · simp only; rw [show 2 * (A - 1) / 2 + 1 = A by omega]; omega
  · obtain ⟨m1, m2, m3⟩ := main C A (by omega) (by omega) (Nat.mul_comm _ _)
    refine ⟨(2 * (C - 1) + 1, x % C), ⟨by simp only; omega, ?_, ?_⟩, Or.inr ⟨by simp only; omega, by simp only; omega⟩, ?_, w1.2.1, ?_⟩
    · simp only; rw [show (2 * (C - 1) + 1) / 2 + 1 = C by omega]; exact Nat.mod_lt _ (by omega)
    · simp only; rw [show (2 * (C - 1) + 1) / 2 + 1 = C by omega]; exact m2
    · simp only; rw [show (2 * (C - 1) + 1) / 2 + 1 = C by omega]; exact m3
    · simp only; rw [show (2 * (C - 1) + 1) / 2 + 1 = C by omega]; omega
theorem pos_half {D R : Int} (hO : okD D R) (h0 : 0 < D) (l : List FT) (hl : l.Nodup) (hm : ∀ f, f ∈ l → fred f ∧ fdisc f = D ∧ f.1 < 0) : l.length ≤ 3752 := by
  obtain ⟨p, i, hp, hD, hi, hsq⟩ := posIx h0 hO.1
  have key : ∀ f : FT, ∃ z : Nat × Nat, f ∈ l → ((z.1 < 2 * 511 ∧ z.2 < z.1 / 2 + 1 ∧ rc (z.1 / 2 + 1) i ((z.2 * z.2 + p * z.2) % (z.1 / 2 + 1)) = true) ∧ ((z.1 % 2 = 0 ∧ (f.1.natAbs = z.1 / 2 + 1)) ∨ (z.1 % 2 = 1 ∧ f.2.2.natAbs = z.1 / 2 + 1)) ∧ (∃ q : Int, f.2.1 = 2 * (z.2 + ((z.1 / 2 + 1 : Nat) : Int) * q) + p) ∧ f.2.1 ≤ R ∧ R < 2 * ((z.1 / 2 + 1 : Nat) : Int) + f.2.1) := by
    intro f
    by_cases h : f ∈ l
    · obtain ⟨h1, h2, h3⟩ := hm f h
      obtain ⟨z, hz⟩ := pos_cell hO h0 hp hD hi h1 h2 h3
      exact ⟨z, fun _ => hz⟩
    · exact ⟨(0, 0), fun h' => absurd h' h⟩
  obtain ⟨c, hc⟩ := Classical.axiomOfChoice key
  have := cells_cap (m := fun y => y / 2 + 1) (p := fun y x => rc (y / 2 + 1) i ((x * x + p * x) % (y / 2 + 1))) (A := 2 * 511) l hl c (fun f hf => (hc f hf).1) (fun f g hf hg he => by
    obtain ⟨-, s1, ⟨q1, b1⟩, u1, v1⟩ := hc f hf
    obtain ⟨-, s2, ⟨q2, b2⟩, u2, v2⟩ := hc g hg
    rw [← he] at s2 b2 v2
    obtain ⟨f1, d1, n1⟩ := hm f hf
    obtain ⟨f2, d2, n2⟩ := hm g hg
    generalize (c f).1 / 2 + 1 = s at *
    have hb : f.2.1 = g.2.1 := by
      have e : f.2.1 - g.2.1 = 0 := dvd_win (m := 2 * s) ⟨q1 - q2, by rw [b1, b2]; grind⟩ (by omega) (by omega)
      omega
    obtain ⟨a, b, cc⟩ := f
    obtain ⟨a', b', c'⟩ := g
    have g1 := f1.1; have g2 := f2.1
    simp only [fdisc] at *
    subst hb
    rcases s1 with ⟨t1, s1⟩ | ⟨t1, s1⟩ <;> rcases s2 with ⟨t2, s2⟩ | ⟨t2, s2⟩
    · have ea : a = a' := by omega
      subst ea
      have : 4 * a * cc = 4 * a * c' := by omega
      have := Int.eq_of_mul_eq_mul_left (by omega) this
      subst this; rfl
    · omega
    · omega
    · have ea : cc = c' := by omega
      subst ea
      have : (4 * cc) * a = (4 * cc) * a' := by grind
      have := Int.eq_of_mul_eq_mul_left (by omega) this
      subst this; rfl)
  have e := sm_fam (posR p i) 2 511 (by omega)
  have h9 := pos_cap hp hi hsq
  have h10 : sm (fun y => (List.range (y / 2 + 1)).countP (fun x => rc (y / 2 + 1) i ((x * x + p * x) % (y / 2 + 1)))) (2 * 511) = sm (fun y => posR p i (y / 2)) (2 * 511) := rfl
  rw [h10, e] at this
  omega
theorem fred_ng {f : FT} (h : fred f) : fred (fng f) := by
  obtain ⟨h1, h2, h3⟩ := h
  exact ⟨by simp only [fng]; omega, by simp only [fng]; omega, by simp only [fng]; omega⟩
theorem fdisc_ng (f : FT) : fdisc (fng f) = fdisc f := by simp only [fdisc, fng]; grind
theorem nd_map {α β : Type} {l : List α} (h : l.Nodup) {c : α → β} (hi : ∀ x y, x ∈ l → y ∈ l → c x = c y → x = y) : (l.map c).Nodup := by
  rw [List.Nodup, List.pairwise_map]
  refine List.Pairwise.imp_of_mem ?_ h
  intro x y hx hy hne he
  exact hne (hi x y hx hy he)
theorem filt_len {α : Type} (p : α → Bool) (l : List α) : (l.filter p).length + (l.filter (fun x => !p x)).length = l.length := by
  induction l with
  | nil => rfl
  | cons x l ih => cases h : p x <;> simp [h] <;> omega
theorem pos_all {D R : Int} (hO : okD D R) (h0 : 0 < D) (l : List FT) (hl : l.Nodup) (hm : ∀ f, f ∈ l → fred f ∧ fdisc f = D) : l.length ≤ 7504 := by
  have e := filt_len (fun f : FT => decide (f.1 < 0)) l
  have h1 := pos_half hO h0 (l.filter (fun f => decide (f.1 < 0))) (hl.filter _) (fun f hf => by
    have := List.mem_filter.1 hf
    have h2 := hm f this.1
    exact ⟨h2.1, h2.2, by simpa using this.2⟩)
  have h2 := pos_half hO h0 ((l.filter (fun f => !decide (f.1 < 0))).map fng) (nd_map (hl.filter _) (fun x y _ _ h => fng_inj h)) (fun f hf => by
    obtain ⟨g, hg, rfl⟩ := List.mem_map.1 hf
    have := List.mem_filter.1 hg
    have h2 := hm g this.1
    have h3 : ¬ g.1 < 0 := by simpa using this.2
    have h4 := h2.1.1
    exact ⟨fred_ng h2.1, by rw [fdisc_ng]; exact h2.2, by simp only [fng]; omega⟩)
  rw [List.length_map] at h2
  omega
/-- a name whose cycle has two forms -/
theorem two_cycle {D R : Int} (hO : okD D R) (h0 : 0 < D) {f : FT} (hf : okF D f) (hr : fred f) (hs : f.1 < 0) (h2 : rho R (rho R f) = f) :
    ∃ A C : Nat, 0 < A ∧ 0 < C ∧ f.1 = -A ∧ f.2.2 = C ∧ (A : Int) * C ≤ f.2.1 ∧ D = f.2.1 * f.2.1 + 4 * (A * C) := by
  obtain ⟨a, b, c⟩ := f
  have hR := (hO.2.1 h0).1
  have hns := hO.1.2.2.2
  have hdd : b * b - 4 * a * c = D := hf.1
  have hsg := hr.1
  simp only at hsg hs
  have hr1 := rho_fred hR hns hr hf.1
  have hd1 : fdisc (rho R (a, b, c)) = D := by rw [rho_disc]; exact hf.1
  have w1 := ((redI_fred hR hns h0 hf.1).mpr hr).2 h0
  have w2 := ((redI_fred hR hns h0 hd1).mpr hr1).2 h0
  have e1 : (rho R (a, b, c)).1 = c := rfl
  have e2 : (rho R (a, b, c)).2.2 = a := by
    have : (rho R (rho R (a, b, c))).1 = (rho R (a, b, c)).2.2 := rfl
    rw [h2] at this; exact this.symm
  have e3 : (rho R (a, b, c)).2.1 = b := by
    simp only [fdisc] at hd1
    rw [e1, e2] at hd1
    generalize (rho R (a, b, c)).2.1 = b' at *
    simp only at w1
    have h5 : b' * b' = b * b := by grind
    have h6 : (b' - b) * (b' + b) = 0 := by grind
    rcases Int.mul_eq_zero.1 h6 with h | h <;> omega
  have hc : ∃ k : Int, 2 * b = 2 * c * k := ⟨rhok R b c, by
    have : (rho R (a, b, c)).2.1 = -b + 2 * c * rhok R b c := rfl
    rw [e3] at this; omega⟩
  have ha : ∃ k : Int, 2 * b = 2 * a * k := ⟨rhok R b a, by
    have hfull : rho R (a, b, c) = (c, b, a) := Prod.ext e1 (Prod.ext e3 e2)
    rw [hfull] at h2
    have : (rho R (c, b, a)).2.1 = -b + 2 * a * rhok R b a := rfl
    rw [h2] at this
    simp only at this
    omega⟩
  obtain ⟨k, hk⟩ := hc
  obtain ⟨l, hl⟩ := ha
  have hk' : b = c * k := by
    have : 2 * b = 2 * (c * k) := by rw [hk]; grind
    omega
  have hl' : b = a * l := by
    have : 2 * b = 2 * (a * l) := by rw [hl]; grind
    omega
  obtain ⟨A, rfl⟩ : ∃ A : Nat, a = -A := ⟨a.natAbs, by omega⟩
  obtain ⟨C, rfl⟩ : ∃ C : Nat, c = C := ⟨c.natAbs, by omega⟩
  refine ⟨A, C, by omega, by omega, rfl, rfl, ?_, by simp only; grind⟩
  obtain ⟨x, y, z, hp⟩ := hf.2.1
  simp only at hp w1
  -- x (-A) + y b + z C = 1, b = C k = -A l: b = b (x (-A) + y b + z C), and A C goes into each
  have hdv : ((A : Int) * C) ∣ b := by
    refine ⟨-(x * k) - y * k * l - z * l, ?_⟩
    have e5 : b = b * (x * -(A : Int) + y * b + z * C) := by rw [hp, Int.mul_one]
    have e6 : b * (x * -(A : Int) + y * b + z * C) = (C * k) * (x * -(A : Int)) + y * ((C * k) * (-(A : Int) * l)) + z * C * (-(A : Int) * l) := by rw [← hk', ← hl']; grind
    rw [e5, e6]; grind
  exact Int.le_of_dvd w1.1 hdv
theorem two_few {D R : Int} (hO : okD D R) (h0 : 0 < D) (l : List FT) (hl : l.Nodup) (hm : ∀ f, f ∈ l → okF D f ∧ fred f ∧ f.1 < 0 ∧ rho R (rho R f) = f) : l.length ≤ 64 := by
  have hR := (hO.2.1 h0).1
  have hRb := (hO.2.1 h0).2
  have hns := hO.1.2.2.2
  have key : ∀ f : FT, ∃ z : Nat × Nat, f ∈ l → (z.1 < 64 ∧ z.2 < 1 ∧ true = true) ∧ ∃ A C : Nat, 0 < A ∧ 0 < C ∧ f.1 = -A ∧ f.2.2 = C ∧ D < (f.2.1 + 2) * (f.2.1 + 2) ∧ ((z.1 % 2 = 0 ∧ A = z.1 / 2) ∨ (z.1 % 2 = 1 ∧ C = z.1 / 2)) ∧ z.2 = 0 := by
    intro f
    by_cases h : f ∈ l
    · obtain ⟨h1, h2, h3, h4⟩ := hm f h
      obtain ⟨A, C, a1, a2, a3, a4, a5, a6⟩ := two_cycle hO h0 h1 h2 h3 h4
      obtain ⟨-, r2, r3, -, -⟩ := fred_rng hR hRb hns h2 h1.1
      have hsq : D < (f.2.1 + 2) * (f.2.1 + 2) := by
        have : (f.2.1 + 2) * (f.2.1 + 2) = f.2.1 * f.2.1 + 4 * f.2.1 + 4 := by grind
        omega
      have hAC : A * C ≤ 1023 := by
        have : ((A * C : Nat) : Int) ≤ 1023 := by push_cast; omega
        omega
      by_cases hle : A ≤ C
      · have h5 : A ≤ 31 := by
          apply Decidable.byContradiction; intro h6
          have := Nat.mul_le_mul (show 32 ≤ A by omega) (show 32 ≤ C by omega); omega
        exact ⟨(2 * A, 0), fun _ => ⟨⟨by simp only; omega, by simp only; omega, rfl⟩, A, C, a1, a2, a3, a4, hsq, Or.inl ⟨by simp only; omega, by simp only; omega⟩, rfl⟩⟩
      · have h5 : C ≤ 31 := by
          apply Decidable.byContradiction; intro h6
          have := Nat.mul_le_mul (show 32 ≤ A by omega) (show 32 ≤ C by omega); omega
        exact ⟨(2 * C + 1, 0), fun _ => ⟨⟨by simp only; omega, by simp only; omega, rfl⟩, A, C, a1, a2, a3, a4, hsq, Or.inr ⟨by simp only; omega, by simp only; omega⟩, rfl⟩⟩
    · exact ⟨(0, 0), fun h' => absurd h' h⟩
  obtain ⟨c, hc⟩ := Classical.axiomOfChoice key
  have := cells_cap (m := fun _ => 1) (p := fun _ _ => true) (A := 64) l hl c (fun f hf => (hc f hf).1) (fun f g hf hg he => by
    obtain ⟨-, A, C, a1, a2, a3, a4, a5, a6, -⟩ := hc f hf
    obtain ⟨-, A', C', b1, b2, b3, b4, b5, b6, -⟩ := hc g hg
    rw [← he] at b6
    obtain ⟨h1, h2, -, -⟩ := hm f hf
    obtain ⟨g1, g2, -, -⟩ := hm g hg
    have w1 := ((redI_fred hR hns h0 h1.1).mpr h2).2 h0
    have w2 := ((redI_fred hR hns h0 g1.1).mpr g2).2 h0
    obtain ⟨a, b, cc⟩ := f
    obtain ⟨a', b', c'⟩ := g
    have d1 : b * b - 4 * a * cc = D := h1.1
    have d2 : b' * b' - 4 * a' * c' = D := g1.1
    simp only at *
    have hb : b = b' := by
      have p1 : b % 2 = D % 2 := by
        rw [← d1, show b * b - 4 * a * cc = b * b + 2 * (-(2 * a * cc)) by grind, Int.add_mul_emod_self_left]
        rcases Int.emod_two_eq b with h | h <;> simp [Int.mul_emod, h]
      have p2 : b' % 2 = D % 2 := by
        rw [← d2, show b' * b' - 4 * a' * c' = b' * b' + 2 * (-(2 * a' * c')) by grind, Int.add_mul_emod_self_left]
        rcases Int.emod_two_eq b' with h | h <;> simp [Int.mul_emod, h]
      obtain ⟨q1, q2, q3⟩ := hR
      have l1 : R < b + 2 := by
        apply Decidable.byContradiction; intro h
        have := Int.mul_le_mul (show b + 2 ≤ R by omega) (show b + 2 ≤ R by omega) (by omega) (by omega)
        omega
      have l2 : R < b' + 2 := by
        apply Decidable.byContradiction; intro h
        have := Int.mul_le_mul (show b' + 2 ≤ R by omega) (show b' + 2 ≤ R by omega) (by omega) (by omega)
        omega
      omega
    subst hb
    rcases a6 with ⟨t1, s1⟩ | ⟨t1, s1⟩ <;> rcases b6 with ⟨t2, s2⟩ | ⟨t2, s2⟩
    · have ea : a = a' := by omega
      subst ea
      have : 4 * a * cc = 4 * a * c' := by omega
      have := Int.eq_of_mul_eq_mul_left (by omega) this
      subst this; rfl
    · omega
    · omega
    · have ea : cc = c' := by omega
      subst ea
      have : (4 * cc) * a = (4 * cc) * a' := by grind
      have := Int.eq_of_mul_eq_mul_left (by omega) this
      subst this; rfl)
  have e : sm (fun a => (List.range ((fun _ => 1) a)).countP ((fun _ _ => true) a)) 64 = 64 := by decide +kernel
  rw [e] at this
  exact this
theorem cap_pos {D R : Int} (hO : okD D R) (h0 : 0 < D) : capD D R := by
  classical
  intro n g hg hi
  have hR := (hO.2.1 h0).1
  have hns := hO.1.2.2.2
  have hmem : ∀ f, f ∈ (List.range n).map g → isName D R f := by
    intro f hf
    obtain ⟨k, hk, rfl⟩ := List.mem_map.1 hf
    exact hg k (List.mem_range.1 hk)
  have hnd : ((List.range n).map g).Nodup := nd_map List.nodup_range (fun x y hx hy he => hi x y (List.mem_range.1 hx) (List.mem_range.1 hy) he)
  have hlen : ((List.range n).map g).length = n := by simp
  generalize (List.range n).map g = l at *
  have e := filt_len (fun f : FT => decide (rho R (rho R f) = f)) l
  have h1 := two_few hO h0 (l.filter (fun f => decide (rho R (rho R f) = f))) (hnd.filter _) (fun f hf => by
    have := List.mem_filter.1 hf
    have h2 := (name_p hO h0).mp (hmem f this.1)
    exact ⟨h2.1, h2.2.1, name_neg hO h0 (hmem f this.1), by simpa using this.2⟩)
  have h2 := pos_half hO h0 (l ++ (l.filter (fun f => !decide (rho R (rho R f) = f))).map (fun f => rho R (rho R f))) (by
    rw [List.nodup_append]
    refine ⟨hnd, nd_map (hnd.filter _) (fun x y hx hy h => ?_), ?_⟩
    · have x1 := (name_p hO h0).mp (hmem x (List.mem_filter.1 hx).1)
      have y1 := (name_p hO h0).mp (hmem y (List.mem_filter.1 hy).1)
      exact itr_cancel hR hns x1.2.1 y1.2.1 x1.1.1 y1.1.1 2 h
    · intro x hx y hy hxy
      obtain ⟨z, hz, rfl⟩ := List.mem_map.1 hy
      have hz' := List.mem_filter.1 hz
      have h3 : ¬ rho R (rho R z) = z := by simpa using hz'.2
      apply h3
      have := name_uni hO (hmem z hz'.1) (hmem x hx) (by rw [hxy]; exact rho_itr_eqv R z 2)
      exact hxy.symm.trans this.symm) (fun f hf => by
    rcases List.mem_append.1 hf with h | h
    · have h3 := (name_p hO h0).mp (hmem f h)
      exact ⟨h3.2.1, h3.1.1, name_neg hO h0 (hmem f h)⟩
    · obtain ⟨z, hz, rfl⟩ := List.mem_map.1 h
      have hz' := hmem z (List.mem_filter.1 hz).1
      have h3 := (name_p hO h0).mp hz'
      have h4 := name_neg hO h0 hz'
      have h5 := rho_fred hR hns h3.2.1 h3.1.1
      have h6 : fdisc (rho R z) = D := by rw [rho_disc]; exact h3.1.1
      refine ⟨rho_fred hR hns h5 h6, by rw [rho_disc]; exact h6, ?_⟩
      have h7 := rho_sign hR hns h3.2.1
      have h8 := a_ne hns h6
      exact (rho_sign hR hns h5).mpr (by omega))
  rw [List.length_append, List.length_map] at h2
  omega
theorem cap_all {D : Int} (R : Int) (hO : okD D R) : capD D R := by
  have := okD_ne hO
  by_cases h : D < 0
  · exact cap_neg hO h
  · exact cap_pos hO (by omega)
/-- there are at most 7504 reduced forms -/
theorem forms_few {D R : Int} (hO : okD D R) {N : Nat} (h : cntF N (fun f => okF D f ∧ redI D R f)) : N ≤ 7504 := by
  obtain ⟨g, h1, h2⟩ := h
  have hm : ∀ i, i < N → okF D (g i) ∧ redI D R (g i) := fun i hi => (h2 (g i)).mpr ⟨i, hi, rfl⟩
  by_cases hn : D < 0
  · have := cap_neg hO hn N g (fun i hi => ⟨(hm i hi).1, (hm i hi).2, fun h => by omega⟩) h1
    omega
  · have h0 : 0 < D := by have := okD_ne hO; omega
    have := pos_all hO h0 ((List.range N).map g) (nd_map List.nodup_range (fun x y hx hy he => h1 x y (List.mem_range.1 hx) (List.mem_range.1 hy) he)) (fun f hf => by
      obtain ⟨k, hk, rfl⟩ := List.mem_map.1 hf
      have := hm k (List.mem_range.1 hk)
      exact ⟨(redI_fred (hO.2.1 h0).1 hO.1.2.2.2 h0 this.1.1).mp this.2, this.1.1⟩)
    simpa using this
