/-! D below 0: cells (y, x): y tells a and the sign of b, x tells b -/
def ngO1 (p k a : Nat) : Nat := a * a - (k * k + p * k) - 1
def ngO2 (p k a : Nat) : Nat := a * a + a - (k * k + p * k) - 1
def ngQ (a o T : Nat) : Nat := Nat.shiftLeft (row 19 a ((262144 - o) / a + 1) T) (19 * o)
def ngV (p : Nat) : Nat → Nat → Nat → Nat → Nat → Nat
  | 0, _, _, _, V => V
  | n + 1, k, T, S, V =>
    frc (cond (Nat.beq (2 * k + p) 0) V (V + ngQ (2 * k + p) (ngO1 p k (2 * k + p)) T)) (fun V1 =>
    frc (V1 + ngQ (2 * k + p + 1) (ngO1 p k (2 * k + p + 1)) T) (fun V2 =>
    frc (V2 + ngQ (2 * k + p + 1) (ngO2 p k (2 * k + p + 1)) S) (fun V3 =>
    frc (V3 + ngQ (2 * k + p + 2) (ngO2 p k (2 * k + p + 2)) S) (fun V4 =>
    frc (Nat.shiftLeft T (19 * (2 * k + 1 + p)) + 1) (fun T' => frc (Nat.shiftLeft S (19 * (2 * k + 1 + p)) + 1) (fun S' => ngV p n (k + 1) T' S' V4))))))
def ngA (p y : Nat) : Nat := if y % 4 = 0 then 2 * (y / 4) + p else if y % 4 = 3 then 2 * (y / 4) + p + 2 else 2 * (y / 4) + p + 1
def ngM (p y : Nat) : Nat := if y % 4 < 2 then (if ngA p y = 0 then 0 else y / 4 + 1) else y / 4 + p
def ngO (p y x : Nat) : Nat := if y % 4 < 2 then ngA p y * ngA p y - (x * x + p * x) - 1 else ngA p y * ngA p y + ngA p y - ((x + 1 - p) * (x + 1 - p) + p * (x + 1 - p)) - 1
def ngR (p i y : Nat) : Nat := (List.range (ngM p y)).countP (fun x => rc (ngA p y) i (ngO p y x))
def ngT (p k : Nat) : List Nat := (List.range (k + 1)).map (fun x => (k * k + p * k) - (x * x + p * x))
def ngS (p k : Nat) : List Nat := (List.range (k + p)).map (fun x => (k * k + p * k) - ((x + 1 - p) * (x + 1 - p) + p * (x + 1 - p)))
theorem mono2 (p : Nat) {x k : Nat} (h : x ≤ k) : x * x + p * x ≤ k * k + p * k := Nat.add_le_add (Nat.mul_le_mul h h) (Nat.mul_le_mul_left _ h)
theorem step2 (p k : Nat) : (k + 1) * (k + 1) + p * (k + 1) = (k * k + p * k) + (2 * k + 1 + p) := by rw [Nat.mul_succ p, Nat.mul_succ, Nat.succ_mul]; omega
theorem ngT_s (p k : Nat) : ngT p (k + 1) = (ngT p k).map (· + (2 * k + 1 + p)) ++ [0] := by
  unfold ngT
  rw [List.range_succ, List.map_append, List.map_map]
  congr 1
  · apply List.map_congr_left
    intro x hx
    have := mono2 p (show x ≤ k by have := List.mem_range.1 hx; omega)
    simp only [Function.comp]
    rw [step2]; omega
  · simp
theorem ngS_s (p k : Nat) : ngS p (k + 1) = (ngS p k).map (· + (2 * k + 1 + p)) ++ [0] := by
  unfold ngS
  rw [show k + 1 + p = (k + p) + 1 by omega, List.range_succ, List.map_append, List.map_map]
  congr 1
  · apply List.map_congr_left
    intro x hx
    have := mono2 p (show x + 1 - p ≤ k by have := List.mem_range.1 hx; omega)
    simp only [Function.comp]
    rw [step2]; omega
  · rw [List.map_cons, List.map_nil, show k + p + 1 - p = k + 1 by omega, Nat.sub_self]
theorem ngQ_rep {a o T : Nat} (ha : 0 < a) {L : List Nat} (h : pkr 19 262144 T (dl L)) : pkr 19 262144 (ngQ a o T) (fun i => (L.map (· + o)).countP (rc a i)) := by
  have h4 : ngQ a o T = row 19 a ((262144 - o) / a + 1) (T * 2 ^ (19 * o)) := by
    unfold ngQ
    rw [row_eq ha (by omega), row_eq ha (by omega)]
    show (T * gs 19 a ((262144 - o) / a + 1)) <<< (19 * o) = _
    rw [Nat.shiftLeft_eq, Nat.mul_assoc, Nat.mul_comm (gs _ _ _), ← Nat.mul_assoc]
  rw [h4]
  refine row_rep ha (by omega) (pkr_shd h o) ?_
  intro q i hq hi _
  obtain ⟨z, _, rfl⟩ := List.mem_map.1 hq
  have : (i - (z + o)) / a ≤ (262144 - o) / a := Nat.div_le_div_right (by omega)
  omega
theorem shT (q c : Nat) (o : Nat → Nat) (n : Nat) (ho : ∀ x, x < n → o x ≤ q) (hc : q + 1 ≤ c) :
    ((List.range n).map (fun x => q - o x)).map (· + (c - q - 1)) = (List.range n).map (fun x => c - o x - 1) := by
  rw [List.map_map]
  apply List.map_congr_left
  intro x hx
  have := ho x (List.mem_range.1 hx)
  simp only [Function.comp]; omega
theorem ngR_eq {p k y : Nat} (hp : p = 0 ∨ p = 1) (i : Nat) (hy : y / 4 = k) : (y % 4 < 2 → ngA p y ≠ 0 → ((ngT p k).map (· + ngO1 p k (ngA p y))).countP (rc (ngA p y) i) = ngR p i y) ∧ (¬ y % 4 < 2 → ((ngS p k).map (· + ngO2 p k (ngA p y))).countP (rc (ngA p y) i) = ngR p i y) := by
  subst hy
  generalize hk : y / 4 = k
  constructor
  · intro h1 h2
    have hA : 2 * k + p ≤ ngA p y := by unfold ngA; rw [hk]; split; omega; split <;> omega
    have hb : k * k + p * k + 1 ≤ ngA p y * ngA p y := by
      have h5 := Nat.mul_le_mul hA hA
      generalize ngA p y = a at *
      have h6 : (2 * k + p) * (2 * k + p) = 4 * (k * k) + 4 * (p * k) + p * p := by grind
      by_cases e : k = 0 ∧ p = 0
      · obtain ⟨rfl, rfl⟩ := e
        have := Nat.mul_le_mul (show 1 ≤ a by omega) (show 1 ≤ a by omega)
        omega
      · have h7 : 1 ≤ k * k + p * p := by
          by_cases e2 : k = 0
          · have : p = 1 := by omega
            subst this; omega
          · have := Nat.mul_le_mul (show 1 ≤ k by omega) (show 1 ≤ k by omega); omega
        omega
    unfold ngT ngO1
    rw [shT _ _ _ _ (fun x hx => mono2 p (by omega)) hb, cp_map]
    unfold ngR ngM ngO
    rw [if_pos h1, if_neg h2, hk]
    simp only [h1, if_true]
  · intro h1
    have hA : 2 * k + p + 1 ≤ ngA p y := by unfold ngA; rw [hk]; split; omega; split <;> omega
    have hb : k * k + p * k + 1 ≤ ngA p y * ngA p y + ngA p y := by
      have h5 := Nat.mul_le_mul hA hA
      generalize ngA p y = a at *
      have h6 : (2 * k + p + 1) * (2 * k + p + 1) = 4 * (k * k) + 4 * (p * k) + p * p + 4 * k + 2 * p + 1 := by grind
      omega
    unfold ngS ngO2
    rw [shT _ _ _ _ (fun x hx => mono2 p (by omega)) hb, cp_map]
    unfold ngR ngM ngO
    rw [if_neg h1, hk]
    simp only [h1, if_false]
theorem ng_rep {p : Nat} (hp : p = 0 ∨ p = 1) : ∀ (n k T S V : Nat), pkr 19 262144 T (dl (ngT p k)) → pkr 19 262144 S (dl (ngS p k)) → pkr 19 262144 V (fun i => sm (ngR p i) (4 * k)) →
    pkr 19 262144 (ngV p n k T S V) (fun i => sm (ngR p i) (4 * (k + n))) := by
  intro n
  induction n with
  | zero => intro k T S V _ _ h; exact h
  | succ n ih =>
    intro k T S V hT hS h
    show pkr _ _ (frc _ _) _
    simp only [frc_eq]
    rw [show k + (n + 1) = (k + 1) + n by omega]
    have a0 : ngA p (4 * k) = 2 * k + p := by unfold ngA; rw [if_pos (by omega)]; omega
    have a1 : ngA p (4 * k + 1) = 2 * k + p + 1 := by unfold ngA; rw [if_neg (by omega), if_neg (by omega)]; omega
    have a2 : ngA p (4 * k + 2) = 2 * k + p + 1 := by unfold ngA; rw [if_neg (by omega), if_neg (by omega)]; omega
    have a3 : ngA p (4 * k + 3) = 2 * k + p + 2 := by unfold ngA; rw [if_neg (by omega), if_pos (by omega)]; omega
    have v1 : pkr 19 262144 (cond (Nat.beq (2 * k + p) 0) V (V + ngQ (2 * k + p) (ngO1 p k (2 * k + p)) T)) (fun i => sm (ngR p i) (4 * k + 1)) := by
      cases hb : Nat.beq (2 * k + p) 0 with
      | true =>
        have hz := Nat.eq_of_beq_eq_true hb
        refine pkr_congr h (fun i _ => ?_)
        show _ = sm (ngR p i) (4 * k) + ngR p i (4 * k)
        have : ngR p i (4 * k) = 0 := by unfold ngR ngM; rw [if_pos (by omega), a0, if_pos hz]; rfl
        omega
      | false =>
        have hz : 2 * k + p ≠ 0 := Nat.ne_of_beq_eq_false hb
        refine pkr_congr (pkr_add h (ngQ_rep (by omega) hT)) (fun i _ => ?_)
        have := (ngR_eq hp i (y := 4 * k) (k := k) (by omega)).1 (by omega) (by rw [a0]; exact hz)
        rw [a0] at this
        show _ + _ = sm (ngR p i) (4 * k) + ngR p i (4 * k)
        rw [← this]
    have v2 := pkr_congr (pkr_add v1 (ngQ_rep (o := ngO1 p k (2 * k + p + 1)) (a := 2 * k + p + 1) (by omega) hT)) (m := fun i => sm (ngR p i) (4 * k + 2)) (fun i _ => by
      have := (ngR_eq hp i (y := 4 * k + 1) (k := k) (by omega)).1 (by omega) (by rw [a1]; omega)
      rw [a1] at this
      show _ + _ = sm (ngR p i) (4 * k + 1) + ngR p i (4 * k + 1)
      rw [← this])
    have v3 := pkr_congr (pkr_add v2 (ngQ_rep (o := ngO2 p k (2 * k + p + 1)) (a := 2 * k + p + 1) (by omega) hS)) (m := fun i => sm (ngR p i) (4 * k + 3)) (fun i _ => by
      have := (ngR_eq hp i (y := 4 * k + 2) (k := k) (by omega)).2 (by omega)
      rw [a2] at this
      show _ + _ = sm (ngR p i) (4 * k + 2) + ngR p i (4 * k + 2)
      rw [← this])
    have v4 := pkr_congr (pkr_add v3 (ngQ_rep (o := ngO2 p k (2 * k + p + 2)) (a := 2 * k + p + 2) (by omega) hS)) (m := fun i => sm (ngR p i) (4 * (k + 1))) (fun i _ => by
      have := (ngR_eq hp i (y := 4 * k + 3) (k := k) (by omega)).2 (by omega)
      rw [a3] at this
      show _ + _ = sm (ngR p i) (4 * k + 3) + ngR p i (4 * k + 3)
      rw [← this])
    have one : pkr 19 262144 1 (dl [0]) := pkr_one (by omega)
    have t1 := pkr_cat (pkr_shd hT (2 * k + 1 + p)) one
    rw [← ngT_s, ← Nat.shiftLeft_eq] at t1
    have s1 := pkr_cat (pkr_shd hS (2 * k + 1 + p)) one
    rw [← ngS_s, ← Nat.shiftLeft_eq] at s1
    exact ih (k + 1) _ _ _ t1 s1 v4
def ngOK (p : Nat) : Bool := frc (ngV p 296 0 1 p 0) (fun V => frc (onesV 19 262144) (fun J => chk 19 1908 V J 0))
set_option maxRecDepth 100000 in
theorem ng_ok0 : ngOK 0 = true := by decide +kernel
set_option maxRecDepth 100000 in
theorem ng_ok1 : ngOK 1 = true := by decide +kernel
theorem ng_cap {p i : Nat} (hp : p = 0 ∨ p = 1) (hi : i < 262144) : sm (ngR p i) 1184 ≤ 1908 := by
  have hok : ngOK p = true := by rcases hp with rfl | rfl; exact ng_ok0; exact ng_ok1
  unfold ngOK at hok
  simp only [frc_eq] at hok
  have hT : pkr 19 262144 1 (dl (ngT p 0)) := by
    have : ngT p 0 = [0] := by simp [ngT]
    rw [this]; exact pkr_one (by omega)
  have hS : pkr 19 262144 p (dl (ngS p 0)) := by
    rcases hp with rfl | rfl
    · exact pkr_nil _ _
    · have : ngS 1 0 = [0] := by simp [ngS, List.range_succ]
      rw [this]; exact pkr_one (by omega)
  have hV := ng_rep hp 296 0 1 p 0 hT hS (pkr_congr (pkr_nil _ _) (fun i _ => rfl))
  rw [show 4 * (0 + 296) = 1184 from rfl] at hV
  have hJ := ones_rep (w := 19) (N := 262144) (by omega) (by omega)
  refine pkk_chk hV hJ (pkr_nil 19 262144) (by omega) ?_ ?_ (by omega) (chk_eq hok) hi rfl
  · intro j _
    have h4 : ∀ y, y < 1184 → ngR p j y ≤ y / 4 + 1 := by
      intro y _
      have h5 : ngR p j y ≤ _ := List.countP_le_length
      rw [List.length_range] at h5
      have h6 : ngM p y ≤ y / 4 + 1 := by unfold ngM; split; split <;> omega; omega
      omega
    have h7 := sm_le h4
    have h8 : sm (fun y => y / 4 + 1) 1184 = 175824 := by decide +kernel
    show sm (ngR p j) 1184 < 2 ^ (19 - 1)
    omega
  · intro j _; exact Nat.two_pow_pos 19
