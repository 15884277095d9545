/-! An element of the greatest order splits off; so the generators make the whole group -/
section Cpl
variable {h : Nat} {mul : Fin h → Fin h → Fin h} {e : Fin h} {inv : Fin h → Fin h}
theorem sub_gp {S : Fin h → Prop} (hS : isSub mul e inv S) {x : Fin h} (hx : S x) (n : Nat) : S (gp mul e x n) := by
  induction n with
  | zero => exact hS.1
  | succ n ih => exact hS.2.1 _ _ ih hx
theorem inv_uni (G : isG mul e inv) {x y : Fin h} (hh : mul x y = e) : y = inv x := g_cancel G (hh.trans (G.2.2.2 x).symm)
theorem ord_cop (G : isG mul e inv) {y z : Fin h} {d m : Nat} (hy : isOrd mul e y d) (hz : isOrd mul e z m) (hc : Nat.Coprime d m) : isOrd mul e (mul y z) (d * m) := by
  refine ord_of G (Nat.mul_pos hy.1 hz.1) fun k => ⟨fun hk => ?_, ?_⟩
  · rw [gp_dist G] at hk
    have h1 : d ∣ k * m := by
      have : gp mul e _ m = gp mul e _ m := congrArg (fun x => gp mul e x m) hk
      rw [gp_e G, gp_dist G, ← gp_mul G, ← gp_mul G, (ord_dvd G hz (k * m)).mpr (Nat.dvd_mul_left m k), G.2.2.1] at this
      exact (ord_dvd G hy _).mp this
    have h2 : m ∣ k * d := by
      have : gp mul e _ d = gp mul e _ d := congrArg (fun x => gp mul e x d) hk
      rw [gp_e G, gp_dist G, ← gp_mul G, ← gp_mul G, (ord_dvd G hy (k * d)).mpr (Nat.dvd_mul_left d k), g_one G] at this
      exact (ord_dvd G hz _).mp this
    rw [Nat.mul_comm] at h1 h2
    exact hc.mul_dvd_of_dvd_of_dvd (hc.dvd_of_dvd_mul_left h1) (hc.symm.dvd_of_dvd_mul_left h2)
  · intro hk
    rw [gp_dist G, (ord_dvd G hy k).mpr (Nat.dvd_trans (Nat.dvd_mul_right d m) hk), (ord_dvd G hz k).mpr (Nat.dvd_trans (Nat.dvd_mul_left m d) hk), G.2.2.1]
/-- in a subgroup, every order goes into the greatest -/
theorem ord_max (G : isG mul e inv) {K : Fin h → Prop} (hK : isSub mul e inv K) {g : Fin h} {m : Nat} (hg : K g) (hm : isOrd mul e g m) (hmax : ∀ x n, K x → isOrd mul e x n → n ≤ m) {x : Fin h} (hx : K x) : gp mul e x m = e := by
  obtain ⟨n, hn, -⟩ := ord_ex G x
  by_cases hnm : n ∣ m
  · exact (ord_dvd G hn m).mpr hnm
  · exfalso
    obtain ⟨d, ⟨hd1, hd2⟩, hmin⟩ := pk_least (fun d => d ∣ n ∧ ¬ d ∣ m) ⟨n, Nat.dvd_refl n, hnm⟩
    have hd0 : 0 < d := Nat.pos_of_dvd_of_pos hd1 hn.1
    have hprop : ∀ v, v ∣ d → v < d → v ∣ m := by
      intro v hv hlt
      by_cases g : v ∣ m
      · exact g
      · exact absurd ⟨Nat.dvd_trans hv hd1, g⟩ (hmin v hlt)
    obtain ⟨m', hm'⟩ := Nat.gcd_dvd_right d m
    obtain ⟨t, ht⟩ := Nat.gcd_dvd_left d m
    have hD0 : 0 < Nat.gcd d m := Nat.gcd_pos_of_pos_left m hd0
    have hcop : Nat.Coprime d m' := by
      by_cases hg1 : Nat.gcd d m' = 1
      · exact hg1
      · exfalso
        obtain ⟨v, hv⟩ := Nat.gcd_dvd_left d m'
        have hG0 : 0 < Nat.gcd d m' := Nat.gcd_pos_of_pos_left m' hd0
        have hvd : v ∣ d := ⟨Nat.gcd d m', by rw [Nat.mul_comm]; exact hv⟩
        have hv0 : 0 < v := Nat.pos_of_dvd_of_pos hvd hd0
        have hlt : v < d := by
          have : 2 * v ≤ Nat.gcd d m' * v := Nat.mul_le_mul_right v (by omega)
          omega
        obtain ⟨w, hw⟩ := Nat.dvd_gcd hvd (hprop v hvd hlt)
        have e1 : v * Nat.gcd d m' = v * (w * t) := by
          rw [← Nat.mul_assoc, ← hw, ← ht, Nat.mul_comm]; exact hv.symm
        have e2 : Nat.gcd d m' = w * t := Nat.eq_of_mul_eq_mul_left hv0 e1
        have htm : t ∣ m' := Nat.dvd_trans ⟨w, by rw [e2, Nat.mul_comm]⟩ (Nat.gcd_dvd_right d m')
        apply hd2
        obtain ⟨z, hz⟩ := htm
        exact ⟨z, by rw [hm', hz, ← Nat.mul_assoc, ← ht]⟩
    have hy : isOrd mul e (gp mul e x (n / d)) d := by
      have := ord_pow G hn (n / d)
      obtain ⟨k, hk⟩ := hd1
      have hk0 : 0 < k := by
        rcases Nat.eq_zero_or_pos k with h | h
        · rw [h, Nat.mul_zero] at hk; have := hn.1; omega
        · exact h
      have e1 : n / d = k := by rw [hk, Nat.mul_div_cancel_left _ hd0]
      have e2 : Nat.gcd n k = k := Nat.gcd_eq_right ⟨d, by rw [hk, Nat.mul_comm]⟩
      rw [e1, e2] at this
      rw [e1]
      have e3 : n / k = d := by rw [hk, Nat.mul_div_cancel _ hk0]
      rw [e3] at this; exact this
    have hz : isOrd mul e (gp mul e g (Nat.gcd d m)) m' := by
      have := ord_pow G hm (Nat.gcd d m)
      have e2 : Nat.gcd m (Nat.gcd d m) = Nat.gcd d m := Nat.gcd_eq_right (Nat.gcd_dvd_right d m)
      rw [e2] at this
      have e3 : m / Nat.gcd d m = m' := by
        have : m / Nat.gcd d m = (Nat.gcd d m * m') / Nat.gcd d m := by rw [← hm']
        rw [this, Nat.mul_div_cancel_left _ hD0]
      rw [e3] at this; exact this
    have hw := hmax _ _ (hK.2.1 _ _ (sub_gp hK hx (n / d)) (sub_gp hK hg (Nat.gcd d m))) (ord_cop G hy hz hcop)
    have hlt : Nat.gcd d m < d := by
      have h1 := Nat.le_of_dvd hd0 (Nat.gcd_dvd_left d m)
      rcases Nat.lt_or_ge (Nat.gcd d m) d with g | g
      · exact g
      · exfalso; apply hd2
        have : Nat.gcd d m = d := by omega
        rw [← this]; exact Nat.gcd_dvd_right d m
    have hm0 : 0 < m' := hz.1
    have : Nat.gcd d m * m' < d * m' := (Nat.mul_lt_mul_right hm0).mpr hlt
    omega
/-- the products of a subgroup's elements and the powers of x -/
def adj (mul : Fin h → Fin h → Fin h) (e : Fin h) (S : Fin h → Prop) (x : Fin h) : Fin h → Prop := fun z => ∃ s i, S s ∧ z = mul s (gp mul e x i)
theorem adj_sub (G : isG mul e inv) {S : Fin h → Prop} (hS : isSub mul e inv S) (x : Fin h) : isSub mul e inv (adj mul e S x) := by
  refine ⟨⟨e, 0, hS.1, (G.2.2.1 e).symm⟩, ?_, ?_⟩
  · rintro a b ⟨s, i, hs, rfl⟩ ⟨s', i', hs', rfl⟩
    exact ⟨mul s s', i + i', hS.2.1 _ _ hs hs', by rw [gp_add G, g_swap G]⟩
  · rintro a ⟨s, i, hs, rfl⟩
    obtain ⟨n, hn, -⟩ := ord_ex G x
    refine ⟨inv s, n * i - i, hS.2.2 _ hs, ?_⟩
    refine (inv_uni G ?_).symm
    rw [g_swap G, G.2.2.2, ← gp_add G, g_one G]
    have : i + (n * i - i) = n * i := by
      have : i ≤ n * i := Nat.le_mul_of_pos_left i hn.1
      omega
    rw [this, gp_mul G, hn.2.1, gp_e G]
theorem adj_left (G : isG mul e inv) {S : Fin h → Prop} {x z : Fin h} (hz : S z) : adj mul e S x z := ⟨z, 0, hz, (G.2.2.1 z).symm⟩
theorem adj_right (G : isG mul e inv) {S : Fin h → Prop} (hS : isSub mul e inv S) (x : Fin h) (i : Nat) : adj mul e S x (gp mul e x i) := ⟨e, i, hS.1, (g_one G _).symm⟩
/-- the powers of y that lie in a subgroup -/
theorem sub_dvd (G : isG mul e inv) {P : Fin h → Prop} (hP : isSub mul e inv P) (y : Fin h) : ∃ d, 0 < d ∧ ∀ j, P (gp mul e y j) ↔ d ∣ j := by
  obtain ⟨n, hn, -⟩ := ord_ex G y
  obtain ⟨d, ⟨hd0, hd1⟩, hmin⟩ := pk_least (fun d => 0 < d ∧ P (gp mul e y d)) ⟨n, hn.1, by rw [hn.2.1]; exact hP.1⟩
  refine ⟨d, hd0, fun j => ⟨fun hj => ?_, ?_⟩⟩
  · have hq : P (gp mul e y (d * (j / d))) := by rw [gp_mul G]; exact sub_gp hP hd1 _
    have hr : P (gp mul e y (j % d)) := by
      have e1 : gp mul e y j = mul (gp mul e y (d * (j / d))) (gp mul e y (j % d)) := by rw [← gp_add G, Nat.div_add_mod]
      have := hP.2.1 _ _ (hP.2.2 _ hq) hj
      rw [e1, ← G.1, G.2.1 (inv _), G.2.2.2, g_one G] at this
      exact this
    rcases Nat.eq_zero_or_pos (j % d) with g | g
    · exact Nat.dvd_of_mod_eq_zero g
    · exact absurd ⟨g, hr⟩ (hmin _ (Nat.mod_lt _ hd0))
  · rintro ⟨k, rfl⟩
    rw [gp_mul G]; exact sub_gp hP hd1 k
theorem split_off (G : isG mul e inv) {K : Fin h → Prop} (hK : isSub mul e inv K) {g : Fin h} {m : Nat} (hg : K g) (hm : isOrd mul e g m) (hexp : ∀ x, K x → gp mul e x m = e) :
    ∃ K' : Fin h → Prop, isSub mul e inv K' ∧ (∀ x, K' x → K x) ∧ (∀ i, K' (gp mul e g i) → gp mul e g i = e) ∧ ∀ x, K x → adj mul e K' g x := by
  have step : ∀ t : Nat, (∃ (K' : Fin h → Prop) (el : Nat → Fin h), isSub mul e inv K' ∧ (∀ x, K' x → K x) ∧ (∀ i, K' (gp mul e g i) → gp mul e g i = e) ∧ (∀ i j, i < t → j < t → el i = el j → i = j) ∧ ∀ i, i < t → K' (el i)) ∨
      (∃ K' : Fin h → Prop, isSub mul e inv K' ∧ (∀ x, K' x → K x) ∧ (∀ i, K' (gp mul e g i) → gp mul e g i = e) ∧ ∀ x, K x → adj mul e K' g x) := by
    intro t
    induction t with
    | zero =>
      left
      refine ⟨fun x => x = e, fun _ => e, ⟨rfl, ?_, ?_⟩, ?_, fun i hi => hi, fun i j hi => absurd hi (by omega), fun i hi => absurd hi (by omega)⟩
      · intro x y hx hy; rw [hx, hy]; exact G.2.2.1 e
      · intro x hx; rw [hx]; exact (inv_uni G (G.2.2.1 e)).symm
      · intro x hx; rw [hx]; exact hK.1
    | succ t ih =>
      rcases ih with ⟨K', el, hs, hle, hint, hinj, hin⟩ | ih
      · by_cases hall : ∀ x, K x → adj mul e K' g x
        · exact Or.inr ⟨K', hs, hle, hint, hall⟩
        · left
          obtain ⟨y, hy⟩ : ∃ y, K y ∧ ¬ adj mul e K' g y := by
            by_cases g1 : ∃ y, K y ∧ ¬ adj mul e K' g y
            · exact g1
            · exact absurd (fun x hx => Classical.byContradiction fun h => g1 ⟨x, hx, h⟩) hall
          have hP := adj_sub G hs g
          obtain ⟨d, hd0, hd⟩ := sub_dvd G hP y
          obtain ⟨c, t1, hc, hct⟩ := (hd d).mpr (Nat.dvd_refl d)
          have hdm : d ∣ m := (hd m).mp (by rw [hexp y hy.1]; exact hP.1)
          obtain ⟨m1, hm1⟩ := hdm
          have hm10 : 0 < m1 := by
            rcases Nat.eq_zero_or_pos m1 with h | h
            · rw [h, Nat.mul_zero] at hm1; have := hm.1; omega
            · exact h
          have hdt : d ∣ t1 := by
            have h1 : gp mul e (gp mul e y d) m1 = e := by rw [← gp_mul G, ← hm1]; exact hexp y hy.1
            rw [hct, gp_dist G, ← gp_mul G] at h1
            have h2 : K' (gp mul e g (t1 * m1)) := by
              have := inv_uni G h1
              rw [this]
              exact hs.2.2 _ (sub_gp hs hc m1)
            have h3 := (ord_dvd G hm _).mp (hint _ h2)
            rw [hm1] at h3
            exact Nat.dvd_of_mul_dvd_mul_right hm10 h3
          obtain ⟨t2, ht2⟩ := hdt
          -- y' = y less t2 times g
          let y' := mul y (inv (gp mul e g t2))
          have hyy : ∀ j, gp mul e y' j = mul (gp mul e y j) (inv (gp mul e g (t2 * j))) := by
            intro j
            show gp mul e (mul y (inv (gp mul e g t2))) j = _
            rw [gp_dist G]
            congr 1
            refine inv_uni G ?_
            rw [gp_mul G, ← gp_dist G, G.2.2.2, gp_e G]
          have hyd : gp mul e y' d = c := by
            rw [hyy, hct, ht2, Nat.mul_comm d t2, G.1, G.2.2.2, G.2.2.1]
          have hPy : ∀ j, adj mul e K' g (gp mul e y' j) ↔ d ∣ j := by
            intro j
            rw [← hd j, hyy]
            constructor
            · intro hh
              have := hP.2.1 _ _ hh (adj_right G hs g (t2 * j))
              rw [G.1, G.2.1 (inv _), G.2.2.2, G.2.2.1] at this
              exact this
            · intro hh
              exact hP.2.1 _ _ hh (hP.2.2 _ (adj_right G hs g (t2 * j)))
          have hKy' : K y' := hK.2.1 _ _ hy.1 (hK.2.2 _ (sub_gp hK hg t2))
          refine ⟨adj mul e K' y', fun i => if i < t then el i else y', adj_sub G hs y', ?_, ?_, ?_, ?_⟩
          · rintro x ⟨s, i, hss, rfl⟩
            exact hK.2.1 _ _ (hle s hss) (sub_gp hK hKy' i)
          · rintro i ⟨s, j, hss, hj⟩
            have h1 : adj mul e K' g (gp mul e y' j) := by
              have h2 : gp mul e y' j = mul (inv s) (gp mul e g i) := by
                rw [hj, ← G.1, G.2.1 (inv s), G.2.2.2, g_one G]
              rw [h2]; exact ⟨inv s, i, hs.2.2 _ hss, rfl⟩
            obtain ⟨k, hk⟩ := (hPy j).mp h1
            refine hint i ?_
            rw [hj, hk, gp_mul G, hyd]
            exact hs.2.1 _ _ hss (sub_gp hs hc k)
          · have hnot : ∀ i, i < t → el i ≠ y' := by
              intro i hi eq
              have h1 : adj mul e K' g (gp mul e y' 1) := by
                rw [gp_one G, ← eq]; exact adj_left G (hin i hi)
              have := Nat.le_of_dvd (by decide) ((hPy 1).mp h1)
              have hd1 : d = 1 := by omega
              apply hy.2
              have := (hd 1).mpr (by rw [hd1]; exact Nat.dvd_refl 1)
              rw [gp_one G] at this; exact this
            intro i j hi hj eq
            simp only at eq
            by_cases gi : i < t <;> by_cases gj : j < t
            · rw [if_pos gi, if_pos gj] at eq; exact hinj i j gi gj eq
            · rw [if_pos gi, if_neg gj] at eq; exact absurd eq (hnot i gi)
            · rw [if_neg gi, if_pos gj] at eq; exact absurd eq.symm (hnot j gj)
            · omega
          · intro i hi
            simp only
            by_cases gi : i < t
            · rw [if_pos gi]; exact adj_left G (hin i gi)
            · rw [if_neg gi]
              have := adj_right G hs y' 1
              rw [gp_one G] at this; exact this
      · exact Or.inr ih
  rcases step (h + 1) with ⟨K', el, -, -, -, hinj, -⟩ | g
  · have := inj_le hinj
    omega
  · exact g
/-- a complement of S -/
def cpl (mul : Fin h → Fin h → Fin h) (e : Fin h) (inv : Fin h → Fin h) (S K : Fin h → Prop) : Prop := isSub mul e inv K ∧ (∀ x, S x → K x → x = e) ∧ ∀ x, ∃ s k, S s ∧ K k ∧ x = mul s k
/-- no power of x but e is in S -/
def indp (mul : Fin h → Fin h → Fin h) (e : Fin h) (S : Fin h → Prop) (x : Fin h) : Prop := ∀ i, S (gp mul e x i) → gp mul e x i = e
theorem cpl_indp (G : isG mul e inv) {S K : Fin h → Prop} (hC : cpl mul e inv S K) {k : Fin h} (hk : K k) : indp mul e S k := fun i hi => hC.2.1 _ hi (sub_gp hC.1 hk i)
theorem cpl_step (G : isG mul e inv) {S K : Fin h → Prop} (hS : isSub mul e inv S) (hC : cpl mul e inv S K) {g : Fin h} {m : Nat} (hg : indp mul e S g) (hm : isOrd mul e g m) (hmax : ∀ x n, indp mul e S x → isOrd mul e x n → n ≤ m) : ∃ K', cpl mul e inv (adj mul e S g) K' := by
  obtain ⟨s0, k0, hs0, hk0, rfl⟩ := hC.2.2 g
  have hpow : ∀ j, gp mul e (mul s0 k0) j = mul (gp mul e s0 j) (gp mul e k0 j) := gp_dist G s0 k0
  have hm0 : isOrd mul e k0 m := by
    refine ord_of G hm.1 fun j => ⟨fun hj => ?_, fun hj => ?_⟩
    · have h1 : gp mul e (mul s0 k0) j = e := hg j (by rw [hpow, hj, G.2.2.1]; exact sub_gp hS hs0 j)
      exact (ord_dvd G hm j).mp h1
    · have h1 := (ord_dvd G hm j).mpr hj
      rw [hpow] at h1
      have h2 := inv_uni G h1
      refine hC.2.1 _ ?_ (sub_gp hC.1 hk0 j)
      rw [h2]; exact hS.2.2 _ (sub_gp hS hs0 j)
  have hexp : ∀ x, K x → gp mul e x m = e := fun x hx => ord_max G hC.1 hk0 hm0 (fun y n hy hn => hmax y n (cpl_indp G hC hy) hn) hx
  obtain ⟨K', h1, h2, h3, h4⟩ := split_off G hC.1 hk0 hm0 hexp
  refine ⟨K', h1, ?_, ?_⟩
  · rintro x ⟨s, i, hs, hx⟩ hKx
    rw [hpow, ← G.1] at hx
    have e1 : mul s (gp mul e s0 i) = mul x (inv (gp mul e k0 i)) := by rw [hx, G.1, G.2.2.2, G.2.2.1]
    have e2 : mul s (gp mul e s0 i) = e := hC.2.1 _ (hS.2.1 _ _ hs (sub_gp hS hs0 i)) (by rw [e1]; exact hC.1.2.1 _ _ (h2 x hKx) (hC.1.2.2 _ (sub_gp hC.1 hk0 i)))
    rw [e2, g_one G] at hx
    rw [hx] at hKx ⊢
    exact h3 i hKx
  · intro x
    obtain ⟨s, k, hs, hk, rfl⟩ := hC.2.2 x
    obtain ⟨k', i, hk', rfl⟩ := h4 k hk
    refine ⟨mul (mul s (inv (gp mul e s0 i))) (gp mul e (mul s0 k0) i), k', ⟨_, i, hS.2.1 _ _ hs (hS.2.2 _ (sub_gp hS hs0 i)), rfl⟩, hk', ?_⟩
    rw [hpow, G.1 s, ← G.1 (inv _), G.2.1 (inv (gp mul e s0 i)), G.2.2.2, g_one G, G.1, G.2.1 k']
end Cpl
