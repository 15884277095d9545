/-! Generators, each of the greatest order among those that are free of the ones before: one way, and they reach everything -/
section Grd
variable {h : Nat} {mul : Fin h → Fin h → Fin h} {e : Fin h} {inv : Fin h → Fin h}
def nxt (mul : Fin h → Fin h → Fin h) (e : Fin h) (S : Fin h → Prop) (g : Fin h) : Prop := g ≠ e ∧ indp mul e S g ∧ ∃ m, isOrd mul e g m ∧ ∀ x n, x ≠ e → indp mul e S x → isOrd mul e x n → n ≤ m ∧ (x.val < g.val → n < m)
theorem nxt_uni {S : Fin h → Prop} {g g' : Fin h} (h1 : nxt mul e S g) (h2 : nxt mul e S g') : g = g' := by
  obtain ⟨a1, a2, m, a3, a4⟩ := h1
  obtain ⟨b1, b2, m', b3, b4⟩ := h2
  have c1 := a4 g' m' b1 b2 b3
  have c2 := b4 g m a1 a2 a3
  apply Fin.ext
  rcases Nat.lt_trichotomy g.val g'.val with q | q | q
  · have := c2.2 q; omega
  · exact q
  · have := c1.2 q; omega
def rr (od : Fin h → Nat) (gs : Nat → Fin h) : Nat → Nat
  | 0 => 1
  | i + 1 => rr od gs i * od (gs i)
def elf (mul : Fin h → Fin h → Fin h) (e : Fin h) (od : Fin h → Nat) (gs : Nat → Fin h) : Nat → Nat → Fin h
  | 0, _ => e
  | i + 1, c => mul (elf mul e od gs i (c % rr od gs i)) (gp mul e (gs i) (c / rr od gs i))
def Sg (mul : Fin h → Fin h → Fin h) (e : Fin h) (od : Fin h → Nat) (gs : Nat → Fin h) (i : Nat) : Fin h → Prop := fun x => ∃ c, c < rr od gs i ∧ elf mul e od gs i c = x
def spec (mul : Fin h → Fin h → Fin h) (e : Fin h) (od : Fin h → Nat) (gs : Nat → Fin h) (i : Nat) : Prop := ∀ j, j < i → nxt mul e (Sg mul e od gs j) (gs j)
theorem gp_red (G : isG mul e inv) {g : Fin h} {o : Nat} (ho : isOrd mul e g o) (j : Nat) : gp mul e g j = gp mul e g (j % o) := by
  have e1 := Nat.div_add_mod j o
  calc gp mul e g j = gp mul e g (o * (j / o) + j % o) := by rw [e1]
    _ = mul (gp mul e g (o * (j / o))) (gp mul e g (j % o)) := gp_add G _ _ _
    _ = _ := by rw [(ord_dvd G ho _).mpr ⟨_, rfl⟩, g_one G]
theorem adj_enum (G : isG mul e inv) {S : Fin h → Prop} (hS : isSub mul e inv S) {el : Nat → Fin h} {r : Nat} (hr : 0 < r) (hE : enumd S el r) {g : Fin h} {o : Nat} (hg : indp mul e S g) (ho : isOrd mul e g o) :
    enumd (adj mul e S g) (fun c => mul (el (c % r)) (gp mul e g (c / r))) (r * o) := by
  refine ⟨?_, fun x => ⟨?_, ?_⟩⟩
  · intro c c' hc hc' heq
    simp only at heq
    have q1 : c / r < o := Nat.div_lt_of_lt_mul hc
    have q2 : c' / r < o := Nat.div_lt_of_lt_mul hc'
    have s1 : S (el (c % r)) := (hE.2 _).mpr ⟨_, Nat.mod_lt _ hr, rfl⟩
    have s2 : S (el (c' % r)) := (hE.2 _).mpr ⟨_, Nat.mod_lt _ hr, rfl⟩
    have e1 : mul (el (c % r)) (gp mul e g (c / r + (o - c' / r))) = el (c' % r) := by
      rw [gp_add G, ← G.1, heq, G.1, ← gp_add G, show c' / r + (o - c' / r) = o by omega, ho.2.1, G.2.2.1]
    have e2 : gp mul e g (c / r + (o - c' / r)) = mul (inv (el (c % r))) (el (c' % r)) := by
      rw [← e1, ← G.1, G.2.1 (inv _), G.2.2.2, g_one G]
    have e3 := hg _ (by rw [e2]; exact hS.2.1 _ _ (hS.2.2 _ s1) s2)
    obtain ⟨k, hk⟩ := (ord_dvd G ho _).mp e3
    have hq : c / r = c' / r := by
      generalize c / r = u at *
      generalize c' / r = v at *
      have hk1 : k = 1 := by
        rcases Nat.lt_trichotomy k 1 with q | q | q
        · have : k = 0 := by omega
          subst this; omega
        · exact q
        · have : o * 2 ≤ o * k := Nat.mul_le_mul_left _ q
          omega
      subst hk1
      omega
    rw [hq, G.2.1, G.2.1 (el (c' % r))] at heq
    have := hE.1 _ _ (Nat.mod_lt _ hr) (Nat.mod_lt _ hr) (g_cancel G heq)
    have a1 := Nat.div_add_mod c r
    have a2 := Nat.div_add_mod c' r
    rw [hq] at a1
    omega
  · rintro ⟨s, j, hs, rfl⟩
    obtain ⟨c, hc, rfl⟩ := (hE.2 s).mp hs
    have hm := Nat.mod_lt j ho.1
    refine ⟨c + r * (j % o), ?_, ?_⟩
    · have : r * (j % o + 1) ≤ r * o := Nat.mul_le_mul_left _ hm
      rw [Nat.mul_succ] at this; omega
    · simp only
      rw [Nat.add_mul_mod_self_left, Nat.mod_eq_of_lt hc, Nat.add_mul_div_left _ _ hr, Nat.div_eq_of_lt hc, Nat.zero_add, ← gp_red G ho]
  · rintro ⟨c, hc, rfl⟩
    exact ⟨_, _, (hE.2 _).mpr ⟨_, Nat.mod_lt _ hr, rfl⟩, rfl⟩
theorem spec_main (G : isG mul e inv) {od : Fin h → Nat} (hod : ∀ x, isOrd mul e x (od x)) {gs : Nat → Fin h} : ∀ {i : Nat}, spec mul e od gs i → 0 < rr od gs i ∧ isSub mul e inv (Sg mul e od gs i) ∧ enumd (Sg mul e od gs i) (elf mul e od gs i) (rr od gs i) ∧ ∃ K, cpl mul e inv (Sg mul e od gs i) K := by
  intro i
  induction i with
  | zero =>
    intro _
    have hie : inv e = e := by have := G.2.2.2 e; rw [g_one G] at this; exact this
    have hS : ∀ x, Sg mul e od gs 0 x ↔ x = e := fun x => ⟨fun ⟨c, _, hc⟩ => hc.symm, fun hx => ⟨0, Nat.one_pos, hx.symm⟩⟩
    refine ⟨Nat.one_pos, ⟨(hS e).mpr rfl, fun x y hx hy => (hS _).mpr ?_, fun x hx => (hS _).mpr ?_⟩, ⟨fun c c' hc hc' _ => ?_, fun x => Iff.rfl⟩, fun _ => True, ⟨trivial, fun _ _ _ _ => trivial, fun _ _ => trivial⟩, fun x hx _ => (hS x).mp hx, fun x => ⟨e, x, (hS e).mpr rfl, trivial, (g_one G x).symm⟩⟩
    · rw [(hS x).mp hx, (hS y).mp hy, g_one G]
    · rw [(hS x).mp hx]; exact hie
    · have : c < 1 := hc
      have : c' < 1 := hc'
      omega
  | succ i ih =>
    intro hs
    obtain ⟨hr, hS, hE, K, hK⟩ := ih (fun j hj => hs j (by omega))
    obtain ⟨n1, n2, m, n3, n4⟩ := hs i (by omega)
    have hA := adj_enum G hS hr hE n2 (hod (gs i))
    have hEq : Sg mul e od gs (i + 1) = adj mul e (Sg mul e od gs i) (gs i) := by
      funext x
      exact propext (hA.2 x).symm
    refine ⟨Nat.mul_pos hr (hod _).1, ?_, ?_, ?_⟩
    · rw [hEq]; exact adj_sub G hS _
    · exact ⟨hA.1, fun x => Iff.rfl⟩
    · rw [hEq]
      refine cpl_step G hS hK n2 n3 ?_
      intro x n hx hn
      by_cases hxe : x = e
      · subst hxe
        have : n ∣ 1 := (ord_dvd G hn 1).mp (gp_e G 1)
        have := Nat.le_of_dvd (by omega) this
        have := n3.1
        omega
      · exact (n4 x n hxe hx hn).1
theorem spec_le (G : isG mul e inv) {od : Fin h → Nat} (hod : ∀ x, isOrd mul e x (od x)) {gs : Nat → Fin h} {i : Nat} (hs : spec mul e od gs i) : rr od gs i ≤ h ∧ rr od gs i ∣ h := by
  obtain ⟨hr, hS, hE, -⟩ := spec_main G hod hs
  exact ⟨inj_le hE.1, lagrange G hS hE⟩
theorem cand_dvd (G : isG mul e inv) {od : Fin h → Nat} (hod : ∀ x, isOrd mul e x (od x)) {gs : Nat → Fin h} {i : Nat} (hs : spec mul e od gs i) {x : Fin h} (hx : indp mul e (Sg mul e od gs i) x) : rr od gs i * od x ∣ h := by
  obtain ⟨hr, hS, hE, -⟩ := spec_main G hod hs
  exact lagrange G (adj_sub G hS x) (adj_enum G hS hr hE hx (hod x))
theorem max_ex {P : Fin h → Prop} {key : Fin h → Nat} {B : Nat} (hB : ∀ x, key x ≤ B) : ∀ (k : Nat) (x : Fin h), P x → B - key x ≤ k → ∃ g, P g ∧ ∀ y, P y → key y ≤ key g := by
  intro k
  induction k with
  | zero => intro x hx hk; exact ⟨x, hx, fun y _ => by have := hB y; omega⟩
  | succ k ih =>
    intro x hx hk
    by_cases hy : ∃ y, P y ∧ key x < key y
    · obtain ⟨y, h1, h2⟩ := hy
      have := hB y
      exact ih y h1 (by omega)
    · exact ⟨x, hx, fun y h1 => by
        rcases Nat.lt_or_ge (key x) (key y) with q | q
        · exact absurd ⟨y, h1, q⟩ hy
        · exact q⟩
theorem spec_next (G : isG mul e inv) {od : Fin h → Nat} (hod : ∀ x, isOrd mul e x (od x)) {gs : Nat → Fin h} {i : Nat} (hs : spec mul e od gs i) (hr : rr od gs i < h) : ∃ g, nxt mul e (Sg mul e od gs i) g := by
  obtain ⟨hr0, hS, hE, K, hK⟩ := spec_main G hod hs
  obtain ⟨x, hx⟩ := enum_miss (el := elf mul e od gs i) hr
  obtain ⟨s, k, h1, h2, h3⟩ := hK.2.2 x
  have hk : k ≠ e := by
    intro hk
    rw [hk, G.2.2.1] at h3
    rw [← h3] at h1
    obtain ⟨c, hc, hc'⟩ := h1
    exact hx c hc hc'
  have hoB : ∀ x, od x ≤ h := fun x => by
    obtain ⟨n, h4, h5⟩ := ord_ex G x
    rw [ord_uni G (hod x) h4]; exact h5
  obtain ⟨g, ⟨g1, g2⟩, g3⟩ := max_ex (P := fun x => x ≠ e ∧ indp mul e (Sg mul e od gs i) x) (key := fun x => od x * h + (h - 1 - x.val)) (B := h * h + h) (fun x => by
    have := Nat.mul_le_mul_right h (hoB x)
    omega) _ k ⟨hk, cpl_indp G hK h2⟩ (Nat.le_refl _)
  refine ⟨g, g1, g2, od g, hod g, ?_⟩
  intro x n x1 x2 x3
  have hn := ord_uni G x3 (hod x)
  subst hn
  have h6 := g3 x ⟨x1, x2⟩
  have hxl := x.isLt
  have hgl := g.isLt
  have h7 : od x ≤ od g := by
    rcases Nat.lt_or_ge (od g) (od x) with q | q
    · have : (od g + 1) * h ≤ od x * h := Nat.mul_le_mul_right h q
      rw [Nat.succ_mul] at this
      omega
    · exact q
  refine ⟨h7, fun h8 => ?_⟩
  rcases Nat.lt_or_ge (od x) (od g) with q | q
  · exact q
  · have : od x = od g := by omega
    rw [this] at h6
    omega
theorem spec_full (G : isG mul e inv) {od : Fin h → Nat} (hod : ∀ x, isOrd mul e x (od x)) {gs : Nat → Fin h} {i : Nat} (hs : spec mul e od gs i) (hr : rr od gs i = h) {x : Fin h} (hx : indp mul e (Sg mul e od gs i) x) : x = e := by
  have h1 := cand_dvd G hod hs hx
  rw [hr] at h1
  have h0 : 0 < h := Nat.lt_of_le_of_lt (Nat.zero_le _) x.isLt
  have h2 := Nat.le_of_dvd h0 h1
  have h3 : od x = 1 := by
    rcases Nat.lt_or_ge 1 (od x) with q | q
    · have : h * 2 ≤ h * od x := Nat.mul_le_mul_left _ q
      omega
    · have := (hod x).1; omega
  have h4 := (hod x).2.1
  rw [h3, gp_one G] at h4
  exact h4
theorem od_two (G : isG mul e inv) {od : Fin h → Nat} (hod : ∀ x, isOrd mul e x (od x)) {x : Fin h} (hx : x ≠ e) : 2 ≤ od x := by
  rcases Nat.lt_or_ge (od x) 2 with q | q
  · have h1 : od x = 1 := by have := (hod x).1; omega
    have h4 := (hod x).2.1
    rw [h1, gp_one G] at h4
    exact absurd h4 hx
  · exact q
theorem rr_pow (G : isG mul e inv) {od : Fin h → Nat} (hod : ∀ x, isOrd mul e x (od x)) {gs : Nat → Fin h} : ∀ {i : Nat}, spec mul e od gs i → 2 ^ i ≤ rr od gs i := by
  intro i
  induction i with
  | zero => intro _; exact Nat.le_refl 1
  | succ i ih =>
    intro hs
    have h1 := ih (fun j hj => hs j (by omega))
    have h2 := od_two G hod (hs i (by omega)).1
    rw [Nat.pow_succ]
    exact Nat.mul_le_mul h1 h2
theorem rr_congr {od : Fin h → Nat} {gs gs' : Nat → Fin h} : ∀ {i : Nat}, (∀ j, j < i → gs j = gs' j) → rr od gs i = rr od gs' i := by
  intro i
  induction i with
  | zero => intro _; rfl
  | succ i ih => intro hh; simp only [rr]; rw [ih (fun j hj => hh j (by omega)), hh i (by omega)]
theorem elf_congr {od : Fin h → Nat} {gs gs' : Nat → Fin h} : ∀ {i : Nat}, (∀ j, j < i → gs j = gs' j) → elf mul e od gs i = elf mul e od gs' i := by
  intro i
  induction i with
  | zero => intro _; rfl
  | succ i ih =>
    intro hh
    funext c
    simp only [elf]
    rw [ih (fun j hj => hh j (by omega)), hh i (by omega), rr_congr (fun j hj => hh j (by omega))]
theorem Sg_congr {od : Fin h → Nat} {gs gs' : Nat → Fin h} {i : Nat} (hh : ∀ j, j < i → gs j = gs' j) : Sg mul e od gs i = Sg mul e od gs' i := by
  unfold Sg
  rw [rr_congr hh, elf_congr hh]
theorem spec_pre {od : Fin h → Nat} {gs gs' : Nat → Fin h} {i i' : Nat} (hs : spec mul e od gs i) (hs' : spec mul e od gs' i') : ∀ j, j < i → j < i' → gs j = gs' j := by
  intro j
  induction j using Nat.strongRecOn with
  | ind j ih =>
    intro h1 h2
    have h3 : Sg mul e od gs j = Sg mul e od gs' j := Sg_congr (fun k hk => ih k hk (by omega) (by omega))
    have h4 := hs j h1
    rw [h3] at h4
    exact nxt_uni h4 (hs' j h2)
theorem spec_uni (G : isG mul e inv) {od : Fin h → Nat} (hod : ∀ x, isOrd mul e x (od x)) {gs gs' : Nat → Fin h} {i i' : Nat} (hs : spec mul e od gs i) (hs' : spec mul e od gs' i') (hr : rr od gs i = h) (hr' : rr od gs' i' = h) : i = i' ∧ ∀ j, j < i → gs j = gs' j := by
  have hp := spec_pre hs hs'
  have key : ∀ {gs gs' : Nat → Fin h} {i i' : Nat}, spec mul e od gs i → spec mul e od gs' i' → (∀ j, j < i → j < i' → gs j = gs' j) → rr od gs i = h → ¬ i < i' := by
    intro gs gs' i i' h1 h2 h3 h4 h5
    have h6 := h2 i h5
    rw [← Sg_congr (fun j hj => h3 j hj (by omega))] at h6
    exact h6.1 (spec_full G hod h1 h4 h6.2.1)
  have a := key hs hs' hp hr
  have b := key hs' hs (fun j h1 h2 => (hp j h2 h1).symm) hr'
  have : i = i' := by omega
  subst this
  exact ⟨rfl, fun j hj => hp j hj hj⟩
/-! at most eight generators, where there are fewer than 512 classes whose square is principal -/
theorem Sg_mono (G : isG mul e inv) {od : Fin h → Nat} {gs : Nat → Fin h} {i : Nat} {x : Fin h} (hx : Sg mul e od gs i x) (ho : 0 < od (gs i)) : Sg mul e od gs (i + 1) x := by
  obtain ⟨c, hc, rfl⟩ := hx
  refine ⟨c, ?_, ?_⟩
  · exact Nat.lt_of_lt_of_le hc (Nat.le_mul_of_pos_right _ ho)
  · simp only [elf]
    rw [Nat.mod_eq_of_lt hc, Nat.div_eq_of_lt hc]
    exact G.2.2.1 _
theorem Sg_monos (G : isG mul e inv) {od : Fin h → Nat} (hod : ∀ x, isOrd mul e x (od x)) {gs : Nat → Fin h} {i : Nat} (hs : spec mul e od gs i) {x : Fin h} : ∀ {j : Nat}, j ≤ i → Sg mul e od gs j x → Sg mul e od gs i x := by
  induction i with
  | zero => intro j hj hx; have : j = 0 := by omega
            subst this; exact hx
  | succ i ih =>
    intro j hj hx
    by_cases q : j = i + 1
    · subst q; exact hx
    · have hs' : spec mul e od gs i := fun k hk => hs k (by omega)
      exact Sg_mono G (ih hs' (by omega) hx) (hod _).1
theorem Sg_gen (G : isG mul e inv) {od : Fin h → Nat} (hod : ∀ x, isOrd mul e x (od x)) {gs : Nat → Fin h} {i : Nat} (hs : spec mul e od gs (i + 1)) (n : Nat) : Sg mul e od gs (i + 1) (gp mul e (gs i) n) := by
  obtain ⟨-, hS, hE, -⟩ := spec_main G hod (i := i) (fun k hk => hs k (by omega))
  obtain ⟨-, hS1, hE1, -⟩ := spec_main G hod hs
  have hA := adj_enum G hS (spec_main G hod (i := i) (fun k hk => hs k (by omega))).1 hE (hs i (by omega)).2.1 (hod (gs i))
  exact (hA.2 _).mp (adj_right G hS _ n)
theorem tors_list (G : isG mul e inv) {od : Fin h → Nat} (hod : ∀ x, isOrd mul e x (od x)) {gs : Nat → Fin h} : ∀ {i : Nat}, spec mul e od gs i → (∀ j, j < i → 2 ∣ od (gs j)) → ∃ l : List (Fin h), l.Nodup ∧ l.length = 2 ^ i ∧ ∀ x, x ∈ l → mul x x = e ∧ Sg mul e od gs i x := by
  intro i
  induction i with
  | zero =>
    intro _ _
    exact ⟨[e], by simp, rfl, fun x hx => by
      have : x = e := by simpa using hx
      subst this
      exact ⟨g_one G _, 0, Nat.one_pos, rfl⟩⟩
  | succ i ih =>
    intro hs h2
    have hs' : spec mul e od gs i := fun j hj => hs j (by omega)
    obtain ⟨l, l1, l2, l3⟩ := ih hs' (fun j hj => h2 j (by omega))
    obtain ⟨q, hq⟩ := h2 i (by omega)
    obtain ⟨hr0, hS, hE, -⟩ := spec_main G hod hs'
    obtain ⟨-, hS1, -, -⟩ := spec_main G hod hs
    have ho := hod (gs i)
    have t2 : mul (gp mul e (gs i) q) (gp mul e (gs i) q) = e := by
      rw [← gp_add G, show q + q = od (gs i) by omega]; exact ho.2.1
    have tne : gp mul e (gs i) q ≠ e := ho.2.2 q (by have := ho.1; omega) (by have := ho.1; omega)
    refine ⟨l ++ l.map (fun x => mul x (gp mul e (gs i) q)), ?_, ?_, ?_⟩
    · rw [List.nodup_append]
      refine ⟨l1, nd_map l1 (fun x y _ _ hxy => ?_), ?_⟩
      · rw [G.2.1, G.2.1 y] at hxy; exact g_cancel G hxy
      · intro x hx y hy hxy
        obtain ⟨z, hz, rfl⟩ := List.mem_map.1 hy
        have e1 : gp mul e (gs i) q = mul (inv z) x := by rw [hxy, ← G.1, G.2.1 (inv z), G.2.2.2, g_one G]
        exact tne ((hs i (by omega)).2.1 q (by rw [e1]; exact hS.2.1 _ _ (hS.2.2 _ (l3 z hz).2) (l3 x hx).2))
    · rw [List.length_append, List.length_map, l2, Nat.pow_succ]; omega
    · intro x hx
      rcases List.mem_append.1 hx with hx | hx
      · exact ⟨(l3 x hx).1, Sg_mono G (l3 x hx).2 ho.1⟩
      · obtain ⟨z, hz, rfl⟩ := List.mem_map.1 hx
        refine ⟨?_, hS1.2.1 _ _ (Sg_mono G (l3 z hz).2 ho.1) (Sg_gen G hod hs q)⟩
        rw [g_swap G, (l3 z hz).1, t2, G.2.2.1]
theorem spec_anti (G : isG mul e inv) {od : Fin h → Nat} (hod : ∀ x, isOrd mul e x (od x)) {gs : Nat → Fin h} {i : Nat} (hs : spec mul e od gs i) {j k : Nat} (hjk : j < k) (hk : k < i) : od (gs k) ≤ od (gs j) ∧ (od (gs k) = 2 → 2 ∣ od (gs j)) := by
  obtain ⟨a1, a2, m, a3, a4⟩ := hs j (by omega)
  obtain ⟨b1, b2, m', b3, b4⟩ := hs k hk
  have hm := ord_uni G a3 (hod (gs j))
  subst hm
  have hs1 : spec mul e od gs (j + 1) := fun l hl => hs l (by omega)
  have hsk : spec mul e od gs k := fun l hl => hs l (by omega)
  have hsj : spec mul e od gs j := fun l hl => hs l (by omega)
  have hSj := (spec_main G hod hsj).2.1
  have ind : indp mul e (Sg mul e od gs j) (gs k) := fun n hn => b2 n (Sg_monos G hod hsk (by omega) hn)
  refine ⟨(a4 _ _ b1 ind (hod _)).1, fun h2 => ?_⟩
  apply Decidable.byContradiction
  intro hodd
  -- the product of both has twice the order
  have hcop : Nat.Coprime (od (gs j)) 2 := by
    have : od (gs j) % 2 = 1 := by
      rcases Nat.mod_two_eq_zero_or_one (od (gs j)) with q | q
      · exact absurd (Nat.dvd_of_mod_eq_zero q) hodd
      · exact q
    rw [Nat.Coprime, Nat.gcd_comm, Nat.gcd_rec, this]; rfl
  have hok := hod (gs k)
  rw [h2] at hok
  have hprod := ord_cop G (hod (gs j)) hok hcop
  have indp2 : indp mul e (Sg mul e od gs j) (mul (gs j) (gs k)) := by
    intro n hn
    rw [gp_dist G] at hn ⊢
    have hS1 := (spec_main G hod hs1).2.1
    have h3 : Sg mul e od gs (j + 1) (gp mul e (gs k) n) := by
      have e1 : gp mul e (gs k) n = mul (inv (gp mul e (gs j) n)) (mul (gp mul e (gs j) n) (gp mul e (gs k) n)) := by
        rw [← G.1, G.2.1 (inv _), G.2.2.2, g_one G]
      rw [e1]
      exact hS1.2.1 _ _ (hS1.2.2 _ (Sg_gen G hod hs1 n)) (Sg_mono G hn (hod _).1)
    have h4 := b2 n (Sg_monos G hod hsk (by omega) h3)
    rw [h4, G.2.2.1] at hn ⊢
    exact a2 n hn
  have hne : mul (gs j) (gs k) ≠ e := by
    intro hh
    have := (ord_dvd G hprod 1).mp (by rw [gp_one G]; exact hh)
    have := Nat.le_of_dvd (by omega) this
    have := (hod (gs j)).1
    omega
  have := (a4 _ _ hne indp2 hprod).1
  have := (hod (gs j)).1
  omega
theorem spec_rank (G : isG mul e inv) {od : Fin h → Nat} (hod : ∀ x, isOrd mul e x (od x)) {gs : Nat → Fin h} (hh : h ≤ 1908) (ht : ∀ l : List (Fin h), l.Nodup → (∀ x, x ∈ l → mul x x = e) → l.length < 512) {i : Nat} (hs : spec mul e od gs i) : i ≤ 8 := by
  apply Decidable.byContradiction
  intro hi
  have hs9 : spec mul e od gs 9 := fun j hj => hs j (by omega)
  have h8 := od_two G hod (hs9 8 (by omega)).1
  by_cases h3 : 3 ≤ od (gs 8)
  · have key : ∀ n, n ≤ 9 → 3 ^ n ≤ rr od gs n := by
      intro n
      induction n with
      | zero => intro _; exact Nat.le_refl 1
      | succ n ih =>
        intro hn
        have h1 := ih (by omega)
        have h2 : 3 ≤ od (gs n) := by
          by_cases q : n = 8
          · subst q; exact h3
          · have := (spec_anti G hod hs9 (j := n) (k := 8) (by omega) (by omega)).1; omega
        rw [Nat.pow_succ]
        exact Nat.mul_le_mul h1 h2
    have h1 := key 9 (by omega)
    have h2 := (spec_le G hod hs9).1
    have : (3 : Nat) ^ 9 = 19683 := by decide
    omega
  · have h2 : od (gs 8) = 2 := by omega
    obtain ⟨l, l1, l2, l3⟩ := tors_list G hod hs9 (fun j hj => by
      by_cases q : j = 8
      · subst q; rw [h2]; exact Nat.dvd_refl 2
      · exact (spec_anti G hod hs9 (j := j) (k := 8) (by omega) (by omega)).2 h2)
    have := ht l l1 (fun x hx => (l3 x hx).1)
    rw [l2] at this
    exact absurd this (by decide)
end Grd
