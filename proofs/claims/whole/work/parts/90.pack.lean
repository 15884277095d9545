/-! Counting by one large number: fields of w bits -/
def frc {α : Type} (n : Nat) (f : Nat → α) : α := Nat.rec (f 0) (fun m _ => f (Nat.succ m)) n
theorem frc_eq {α : Type} (n : Nat) (f : Nat → α) : frc n f = f n := by cases n <;> rfl
def pk (w : Nat) (n : Nat → Nat) : Nat → Nat
  | 0 => 0
  | N + 1 => pk w n N + n N * 2 ^ (w * N)
def pkr (w N V : Nat) (n : Nat → Nat) : Prop := V % 2 ^ (w * N) = pk w n N % 2 ^ (w * N)
def shf (n : Nat → Nat) (s i : Nat) : Nat := if s ≤ i then n (i - s) else 0
theorem pkk_add (w : Nat) (n m : Nat → Nat) (N : Nat) : pk w (fun i => n i + m i) N = pk w n N + pk w m N := by
  induction N with
  | zero => rfl
  | succ N ih => simp only [pk, ih, Nat.add_mul]; omega
theorem pkk_congr {w : Nat} {n m : Nat → Nat} {N : Nat} (h : ∀ i, i < N → n i = m i) : pk w n N = pk w m N := by
  induction N with
  | zero => rfl
  | succ N ih => simp only [pk]; rw [ih (fun i hi => h i (by omega)), h N (by omega)]
theorem pkk_zero {w : Nat} {n : Nat → Nat} {N : Nat} (h : ∀ i, i < N → n i = 0) : pk w n N = 0 := by
  induction N with
  | zero => rfl
  | succ N ih => simp only [pk]; rw [ih (fun i hi => h i (by omega)), h N (by omega), Nat.zero_mul]
theorem pkk_shf (w : Nat) (n : Nat → Nat) (s M : Nat) : pk w (shf n s) (M + s) = pk w n M * 2 ^ (w * s) := by
  induction M with
  | zero => rw [Nat.zero_add, pkk_zero (fun i hi => by simp only [shf]; rw [if_neg (by omega)])]; simp [pk]
  | succ M ih =>
    rw [show M + 1 + s = (M + s) + 1 by omega]
    simp only [pk]
    rw [ih, Nat.add_mul]
    simp only [shf]
    rw [if_pos (by omega), show M + s - s = M by omega, Nat.mul_assoc, ← Nat.pow_add, ← Nat.mul_add]
theorem pkk_cut (w : Nat) (n : Nat → Nat) (N k : Nat) : pk w n (N + k) % 2 ^ (w * N) = pk w n N % 2 ^ (w * N) := by
  induction k with
  | zero => rfl
  | succ k ih =>
    rw [show N + (k + 1) = (N + k) + 1 by omega]
    simp only [pk]
    rw [show n (N + k) * 2 ^ (w * (N + k)) = 2 ^ (w * N) * (n (N + k) * 2 ^ (w * k)) by rw [Nat.mul_add w, Nat.pow_add]; exact Nat.mul_left_comm _ _ _, Nat.add_mul_mod_self_left, ih]
theorem pkr_add {w N V W : Nat} {n m : Nat → Nat} (h : pkr w N V n) (k : pkr w N W m) : pkr w N (V + W) (fun i => n i + m i) := by
  unfold pkr at *
  rw [pkk_add, Nat.add_mod, h, k, ← Nat.add_mod]
theorem pkr_mod {w N V : Nat} {n : Nat → Nat} (h : pkr w N V n) : pkr w N (V % 2 ^ (w * N)) n := by
  unfold pkr at *
  rw [Nat.mod_mod, h]
theorem pkr_congr {w N V : Nat} {n m : Nat → Nat} (h : pkr w N V n) (k : ∀ i, i < N → n i = m i) : pkr w N V m := by
  unfold pkr at *
  rw [h, pkk_congr k]
theorem pkr_shl {w N V : Nat} {n : Nat → Nat} (h : pkr w N V n) (s : Nat) : pkr w N (V * 2 ^ (w * s)) (shf n s) := by
  unfold pkr at *
  rw [Nat.mul_mod, h, ← Nat.mul_mod, ← pkk_shf, pkk_cut]
/-! the numbers of a list, counted -/
def dl (L : List Nat) (i : Nat) : Nat := L.count i
theorem dl_app (L M : List Nat) (i : Nat) : dl (L ++ M) i = dl L i + dl M i := List.count_append
theorem dl_shf (L : List Nat) (s i : Nat) : shf (dl L) s i = dl (L.map (· + s)) i := by
  unfold shf dl
  induction L with
  | nil => simp
  | cons x L ih =>
    simp only [List.map_cons, List.count_cons]
    rw [← ih]
    by_cases h : s ≤ i
    · simp only [h, if_true]
      congr 1
      simp only [beq_iff_eq]
      by_cases h2 : x = i - s
      · rw [if_pos h2, if_pos (by omega)]
      · rw [if_neg h2, if_neg (by omega)]
    · simp only [h, if_false]
      rw [if_neg (by simp only [beq_iff_eq]; omega)]
theorem pkr_shd {w N V : Nat} {L : List Nat} (h : pkr w N V (dl L)) (s : Nat) : pkr w N (V * 2 ^ (w * s)) (dl (L.map (· + s))) :=
  pkr_congr (pkr_shl h s) (fun i _ => dl_shf L s i)
theorem pkr_cat {w N V W : Nat} {L M : List Nat} (h : pkr w N V (dl L)) (k : pkr w N W (dl M)) : pkr w N (V + W) (dl (L ++ M)) :=
  pkr_congr (pkr_add h k) (fun i _ => (dl_app L M i).symm)
theorem pkr_nil (w N : Nat) : pkr w N 0 (dl []) := by
  unfold pkr; rw [pkk_zero (n := dl []) (fun i _ => rfl)]
theorem pkr_one {w N : Nat} (hN : 0 < N) : pkr w N 1 (dl [0]) := by
  unfold pkr
  obtain ⟨M, rfl⟩ : ∃ M, N = 1 + M := ⟨N - 1, by omega⟩
  have h1 : pk w (dl [0]) 1 = 1 := by simp [pk, dl]
  have h2 : pk w (dl [0]) (1 + M) = 1 := by
    clear hN
    induction M with
    | zero => exact h1
    | succ M ih => rw [show 1 + (M + 1) = (1 + M) + 1 by omega]; simp only [pk]; rw [ih, show dl [0] (1 + M) = 0 by unfold dl; rw [List.count_cons]; simp; omega]; simp
  rw [h2]
theorem pkr_at {w N : Nat} (hN : 0 < N) (o : Nat) : pkr w N (2 ^ (w * o)) (dl [o]) := by
  have := pkr_shd (pkr_one (w := w) hN) o
  simpa using this
/-! progressions -/
def rc (s i o : Nat) : Bool := decide (o ≤ i) && decide ((i - o) % s = 0)
/-- Q, and its copies s fields apart: M of them -/
def row (w s M Q : Nat) : Nat := Nat.div (Nat.sub (Nat.shiftLeft Q (w * s * M)) Q) (Nat.sub (2 ^ (w * s)) 1)
def gs (w s : Nat) : Nat → Nat
  | 0 => 0
  | M + 1 => gs w s M + 2 ^ (w * s * M)
theorem gs_mul (w s M : Nat) : gs w s M * (2 ^ (w * s) - 1) + 1 = 2 ^ (w * s * M) := by
  induction M with
  | zero => simp [gs]
  | succ M ih =>
    simp only [gs]
    have h1 := Nat.two_pow_pos (w * s)
    rw [Nat.mul_succ, Nat.pow_add, Nat.add_mul, Nat.mul_sub (2 ^ (w * s * M)), Nat.mul_one]
    have h2 : 2 ^ (w * s * M) ≤ 2 ^ (w * s * M) * 2 ^ (w * s) := Nat.le_mul_of_pos_right _ h1
    omega
theorem row_eq {w s : Nat} (hs : 0 < s) (hw : 0 < w) (M Q : Nat) : row w s M Q = Q * gs w s M := by
  show (Q <<< (w * s * M) - Q) / (2 ^ (w * s) - 1) = _
  have h1 : 1 < 2 ^ (w * s) := Nat.one_lt_two_pow (by have := Nat.mul_pos hw hs; omega)
  rw [Nat.shiftLeft_eq, ← gs_mul, Nat.mul_add, Nat.mul_one, Nat.add_sub_cancel, ← Nat.mul_assoc, Nat.mul_div_cancel _ (by omega)]
theorem cp_one (s i o : Nat) : (List.countP (rc s i) [o]) = if rc s i o then 1 else 0 := by simp [List.countP_cons]
def rcM (s M i o : Nat) : Bool := decide (o ≤ i) && decide ((i - o) % s = 0) && decide ((i - o) / s < M)
theorem rcM_step {s : Nat} (hs : 0 < s) (M i o : Nat) : (if rcM s (M + 1) i o then 1 else 0) = (if rcM s M i o then 1 else 0) + (if o + s * M = i then 1 else 0) := by
  unfold rcM
  by_cases h : o ≤ i
  · obtain ⟨d, rfl⟩ : ∃ d, i = o + d := ⟨i - o, by omega⟩
    rw [show o + d - o = d by omega]
    by_cases h1 : d % s = 0
    · have h2 := Nat.div_add_mod d s
      by_cases h3 : d / s < M
      · have h4 : ¬ (o + s * M = o + d) := by
          intro hh
          rw [h1, Nat.add_zero] at h2
          have : s * (d / s) = s * M := by omega
          have := Nat.eq_of_mul_eq_mul_left hs this
          omega
        have h5 : d / s < M + 1 := by omega
        simp [h1, h3, h5]; omega
      · by_cases h4 : d / s = M
        · have h5 : o + s * M = o + d := by rw [← h4]; omega
          have h6 : d / s < M + 1 := by omega
          simp [h1, h3, h5, h6]
        · have h5 : ¬ (o + s * M = o + d) := by
            intro hh
            apply h4
            have : d = s * M := by omega
            rw [this, Nat.mul_div_cancel_left _ hs]
          have h6 : ¬ d / s < M + 1 := by omega
          simp [h1, h3, h6]; omega
    · have h5 : ¬ (o + s * M = o + d) := by
        intro hh
        apply h1
        have : d = s * M := by omega
        rw [this, Nat.mul_mod_right]
      simp [h1]; omega
  · have : ¬ (o + s * M = i) := by have := Nat.zero_le (s * M); omega
    simp [h, this]
theorem row_rep {w N s : Nat} (hs : 0 < s) (hw : 0 < w) {V : Nat} {L : List Nat} (h : pkr w N V (dl L)) {M : Nat} (hM : ∀ o i, o ∈ L → i < N → o ≤ i → (i - o) / s < M) : pkr w N (row w s M V) (fun i => L.countP (rc s i)) := by
  rw [row_eq hs hw]
  have key : ∀ M, pkr w N (V * gs w s M) (fun i => L.countP (rcM s M i)) := by
    intro M
    induction M with
    | zero =>
      refine pkr_congr (V := V * 0) (n := dl []) ?_ ?_
      · rw [Nat.mul_zero]; exact pkr_nil _ _
      · intro i _
        symm
        show List.countP _ L = 0
        rw [List.countP_eq_zero]
        intro a _; simp [rcM]
    | succ M ih =>
      show pkr w N (V * (gs w s M + 2 ^ (w * s * M))) _
      rw [Nat.mul_add, Nat.mul_assoc w s M]
      refine pkr_congr (pkr_add ih (pkr_shd h (s * M))) ?_
      intro i _
      show L.countP (rcM s M i) + (L.map (· + s * M)).count i = L.countP (rcM s (M + 1) i)
      clear h hM ih
      induction L with
      | nil => rfl
      | cons x L ih =>
        rw [List.countP_cons, List.countP_cons, List.map_cons, List.count_cons, rcM_step hs, ← ih]
        simp only [beq_iff_eq]
        omega
  refine pkr_congr (key M) ?_
  intro i hi
  apply List.countP_congr
  intro o ho
  unfold rcM rc
  by_cases h1 : o ≤ i
  · have := hM o i ho hi h1
    simp [h1, this]
  · simp [h1]
/-! reading the fields -/
theorem pkk_lt {w : Nat} {n : Nat → Nat} {N : Nat} (h : ∀ i, i < N → n i < 2 ^ w) : pk w n N < 2 ^ (w * N) := by
  induction N with
  | zero => simp [pk]
  | succ N ih =>
    simp only [pk]
    have h1 := ih (fun i hi => h i (by omega))
    have h2 := h N (by omega)
    rw [show w * (N + 1) = w + w * N by rw [Nat.mul_succ]; omega, Nat.pow_add]
    have h3 : (n N + 1) * 2 ^ (w * N) ≤ 2 ^ w * 2 ^ (w * N) := Nat.mul_le_mul_right _ h2
    rw [Nat.add_mul] at h3
    omega
theorem pkk_digit {w : Nat} {n : Nat → Nat} {N : Nat} (h : ∀ i, i < N → n i < 2 ^ w) {i : Nat} (hi : i < N) : pk w n N / 2 ^ (w * i) % 2 ^ w = n i := by
  obtain ⟨k, rfl⟩ : ∃ k, N = (i + 1) + k := ⟨N - (i + 1), by omega⟩
  have h1 : pk w n (i + 1 + k) / 2 ^ (w * i) % 2 ^ w = pk w n (i + 1) / 2 ^ (w * i) % 2 ^ w := by
    have := pkk_cut w n (i + 1) k
    rw [show w * (i + 1) = w * i + w by rw [Nat.mul_succ], Nat.pow_add] at this
    rw [← Nat.mod_mul_right_div_self, ← Nat.mod_mul_right_div_self, this]
  rw [h1]
  simp only [pk]
  have h2 := pkk_lt (w := w) (n := n) (N := i) (fun j hj => h j (by omega))
  rw [Nat.add_mul_div_right _ _ (Nat.two_pow_pos _), Nat.div_eq_of_lt h2, Nat.zero_add, Nat.mod_eq_of_lt (h i (by omega))]
theorem pkk_bit {w : Nat} {n : Nat → Nat} {N V : Nat} (hV : pkr w N V n) (h : ∀ i, i < N → n i < 2 ^ w) {i b : Nat} (hi : i < N) (hb : b < w) : V.testBit (w * i + b) = (n i).testBit b := by
  have h1 := pkk_lt h
  unfold pkr at hV
  rw [Nat.mod_eq_of_lt h1] at hV
  have h2 : w * i + b < w * N := by
    have : w * (i + 1) ≤ w * N := Nat.mul_le_mul_left _ (by omega)
    rw [Nat.mul_succ] at this; omega
  have h3 : V.testBit (w * i + b) = (pk w n N).testBit (w * i + b) := by
    rw [← hV, Nat.testBit_mod_two_pow]; simp [h2]
  rw [h3, ← pkk_digit h hi, Nat.testBit_mod_two_pow, Nat.testBit_div_two_pow]
  simp [hb, Nat.add_comm]
/-- every field is at most c, but where X has a field -/
theorem pkk_chk {w N V J X c : Nat} {n x : Nat → Nat} (hV : pkr w N V n) (hJ : pkr w N J (fun _ => 1)) (hX : pkr w N X x) (hw : 1 ≤ w) (hn : ∀ i, i < N → n i < 2 ^ (w - 1)) (hx : ∀ i, i < N → x i < 2 ^ w) (hc : c < 2 ^ (w - 1))
    (h : ((V + J * (2 ^ (w - 1) - 1 - c)) / 2 ^ (w - 1)) &&& (J ^^^ X) = 0) {i : Nat} (hi : i < N) (h0 : x i = 0) : n i ≤ c := by
  have hp : 2 ^ w = 2 * 2 ^ (w - 1) := by
    obtain ⟨v, rfl⟩ : ∃ v, w = v + 1 := ⟨w - 1, by omega⟩
    rw [show v + 1 - 1 = v by omega, Nat.pow_succ]; omega
  have hk : ∀ k : Nat, pkr w N (J * k) (fun _ => k) := by
    intro k
    induction k with
    | zero => rw [Nat.mul_zero]; unfold pkr; rw [pkk_zero (n := fun _ => 0) (fun _ _ => rfl)]
    | succ k ih => rw [Nat.mul_succ]; exact pkr_add ih hJ
  have hU := pkr_add hV (hk (2 ^ (w - 1) - 1 - c))
  have hb := pkk_bit hU (i := i) (b := w - 1) (fun j hj => by have := hn j hj; omega) hi (by omega)
  have hj := pkk_bit hJ (i := i) (b := 0) (fun j hj => by rw [hp]; have := Nat.two_pow_pos (w - 1); omega) hi (by omega)
  have hxx := pkk_bit hX (i := i) (b := 0) hx hi (by omega)
  have ht : (((V + J * (2 ^ (w - 1) - 1 - c)) / 2 ^ (w - 1)) &&& (J ^^^ X)).testBit (w * i) = false := by rw [h]; simp
  rw [Nat.testBit_and, Nat.testBit_xor, Nat.testBit_div_two_pow] at ht
  try rw [Nat.add_comm (w - 1) (w * i)] at ht
  rw [Nat.add_zero] at hj hxx
  rw [hb, hj, hxx, h0] at ht
  simp at ht
  have h5 : n i + (2 ^ (w - 1) - 1 - c) < 2 ^ (w - 1) := by
    apply Decidable.byContradiction
    intro h6
    have h7 := hn i hi
    have : (n i + (2 ^ (w - 1) - 1 - c)).testBit (w - 1) = true := by
      rw [Nat.testBit_eq_decide_div_mod_eq]
      have e : n i + (2 ^ (w - 1) - 1 - c) = (n i + (2 ^ (w - 1) - 1 - c) - 2 ^ (w - 1)) + 1 * 2 ^ (w - 1) := by omega
      rw [e, Nat.add_mul_div_right _ _ (Nat.two_pow_pos _), Nat.div_eq_of_lt (by omega)]; rfl
    rw [ht] at this; exact absurd this (by decide)
  omega
/-! sums, and rows of cells -/
def sm (r : Nat → Nat) : Nat → Nat
  | 0 => 0
  | n + 1 => sm r n + r n
theorem sm_le {r q : Nat → Nat} {n : Nat} (h : ∀ i, i < n → r i ≤ q i) : sm r n ≤ sm q n := by
  induction n with
  | zero => exact Nat.le_refl _
  | succ n ih => have := ih (fun i hi => h i (by omega)); have := h n (by omega); simp only [sm]; omega
theorem nd_le {α : Type} : ∀ (l m : List α), l.Nodup → (∀ x, x ∈ l → x ∈ m) → l.length ≤ m.length := by
  classical
  intro l
  induction l with
  | nil => intros; simp
  | cons x l ih =>
    intro m hn hs
    have hx := hs x (by simp)
    have hn' := List.nodup_cons.1 hn
    have := ih (m.erase x) hn'.2 (fun y hy => (List.mem_erase_of_ne (by rintro rfl; exact hn'.1 hy)).2 (hs y (by simp [hy])))
    rw [List.length_erase_of_mem hx] at this
    have hp : 0 < m.length := List.length_pos_of_mem hx
    simp only [List.length_cons]; omega
def cells (m : Nat → Nat) (p : Nat → Nat → Bool) (A : Nat) : List (Nat × Nat) := (List.range A).flatMap (fun a => ((List.range (m a)).filter (p a)).map (fun x => (a, x)))
theorem cells_len (m : Nat → Nat) (p : Nat → Nat → Bool) (A : Nat) : (cells m p A).length = sm (fun a => (List.range (m a)).countP (p a)) A := by
  unfold cells
  induction A with
  | zero => rfl
  | succ A ih => rw [List.range_succ, List.flatMap_append, List.length_append, ih]; simp [sm, List.countP_eq_length_filter]
theorem cells_mem {m : Nat → Nat} {p : Nat → Nat → Bool} {A a x : Nat} (ha : a < A) (hx : x < m a) (hp : p a x = true) : (a, x) ∈ cells m p A := by
  unfold cells
  rw [List.mem_flatMap]
  exact ⟨a, List.mem_range.2 ha, List.mem_map.2 ⟨x, List.mem_filter.2 ⟨List.mem_range.2 hx, hp⟩, rfl⟩⟩
/-- what is told apart by its cell is no more than the cells -/
theorem cells_cap {α : Type} {m : Nat → Nat} {p : Nat → Nat → Bool} {A : Nat} (l : List α) (hl : l.Nodup) (c : α → Nat × Nat) (hc : ∀ x, x ∈ l → (c x).1 < A ∧ (c x).2 < m (c x).1 ∧ p (c x).1 (c x).2 = true) (hi : ∀ x y, x ∈ l → y ∈ l → c x = c y → x = y) : l.length ≤ sm (fun a => (List.range (m a)).countP (p a)) A := by
  rw [← cells_len]
  have h1 : (l.map c).Nodup := by
    rw [List.Nodup, List.pairwise_map]
    refine List.Pairwise.imp_of_mem ?_ hl
    intro x y hx hy hne he
    exact hne (hi x y hx hy he)
  have := nd_le (l.map c) (cells m p A) h1 (fun z hz => by
    obtain ⟨x, hx, rfl⟩ := List.mem_map.1 hz
    have := hc x hx
    exact cells_mem this.1 this.2.1 this.2.2)
  simpa using this
theorem cp_map (s i m : Nat) (o : Nat → Nat) : ((List.range m).map o).countP (rc s i) = (List.range m).countP (fun x => rc s i (o x)) := by
  rw [List.countP_map]; rfl
/-! J: a one in every field -/
def onesV (w N : Nat) : Nat := row w 1 N 1
theorem ones_rep {w N : Nat} (hw : 0 < w) (hN : 0 < N) : pkr w N (onesV w N) (fun _ => 1) := by
  refine pkr_congr (row_rep (by omega) hw (pkr_one hN) (M := N) (by intro o i _ h _; rw [Nat.div_one]; omega)) ?_
  intro i _
  simp [rc, Nat.mod_one]
def chk (w c V J X : Nat) : Bool := Nat.beq (((V + J * (2 ^ (w - 1) - 1 - c)) / 2 ^ (w - 1)) &&& (J ^^^ X)) 0
theorem sm_cap {r : Nat → Nat} {n c : Nat} (h : ∀ i, i < n → r i ≤ c) : sm r n ≤ n * c := by
  induction n with
  | zero => simp [sm]
  | succ n ih => have := ih (fun i hi => h i (by omega)); have := h n (by omega); simp only [sm]; rw [Nat.succ_mul]; omega
theorem chk_eq {w c V J X : Nat} (h : chk w c V J X = true) : ((V + J * (2 ^ (w - 1) - 1 - c)) / 2 ^ (w - 1)) &&& (J ^^^ X) = 0 := Nat.eq_of_beq_eq_true h
theorem dl_lt (M : List Nat) (i : Nat) : dl M i ≤ M.length := List.count_le_length
