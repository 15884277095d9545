/-! Modules of forms; the composition of two forms as a product of modules. A form is a, t, c with a c = t t + s t - n; b = s + 2 t. -/
def qAll : QE → Prop := fun _ => True
def qIdl (s n : Int) (M : QE → Prop) : Prop := ∀ u z, M z → M (qm s n u z)
def prim (a b c : Int) : Prop := ∃ x y z : Int, x * a + y * b + z * c = 1
theorem qMod_smul {M : QE → Prop} (hM : qMod M) {z : QE} (hz : M z) (k : Int) : M (k * z.1, k * z.2) := by
  have hn : ∀ j : Nat, M ((j : Int) * z.1, (j : Int) * z.2) := by
    intro j
    induction j with
    | zero => have := hM.1; simpa using this
    | succ j ih =>
      have := hM.2.1 _ _ ih hz
      have e : qa ((j : Int) * z.1, (j : Int) * z.2) z = (((j + 1 : Nat) : Int) * z.1, ((j + 1 : Nat) : Int) * z.2) := by
        refine qe_ext ?_ ?_ <;> simp only [qa] <;> grind
      rw [e] at this; exact this
  rcases Int.le_total 0 k with h | h
  · have := hn k.toNat
    rw [Int.toNat_of_nonneg h] at this; exact this
  · have := hM.2.2 _ (hn (-k).toNat)
    rw [Int.toNat_of_nonneg (by omega)] at this
    have e : qn (-k * z.1, -k * z.2) = (k * z.1, k * z.2) := by
      refine qe_ext ?_ ?_ <;> simp only [qn] <;> grind
    rw [e] at this; exact this
theorem qJ_idl {s n a t : Int} (h : a ∣ t * t + s * t - n) : qIdl s n (qJ a t) := by
  rintro u z ⟨k, hk⟩
  obtain ⟨c, hc⟩ := h
  refine ⟨u.1 * k - u.2 * k * t - u.2 * z.2 * c, ?_⟩
  simp only [qm]
  grind
theorem mm_all {s n : Int} {M : QE → Prop} (hM : qMod M) (hI : qIdl s n M) : mm s n M qAll = M := by
  refine pr_ext (mm_le hM fun u v hu _ => ?_) fun z hz => ?_
  · rw [qm_comm]; exact hI v u hu
  · have := mm_in (s := s) (n := n) hz (show qAll (1, 0) from trivial)
    rw [qm_comm, qm_one] at this; exact this
theorem mm_idl {s n : Int} {M N : QE → Prop} (hI : qIdl s n M) : qIdl s n (mm s n M N) := by
  intro u z hz
  exact hz (fun z => mm s n M N (qm s n u z)) (qMod_pre (mm_mod s n _ _) u) (fun x y hx hy => by
    show mm s n M N (qm s n u (qm s n x y))
    rw [← qm_assoc]; exact mm_in (hI u x hx) hy)
/-- what a module times its conjugate is: a times all z whose first number less t times its second is in the ideal of a, b, c -/
theorem mm_conj_in {s n a t c : Int} (hc : a * c = t * t + s * t - n) : ∀ z, mm s n (qJ a t) (qJ a (-s - t)) z → ∃ i j x y u : Int, z = (a * i, a * j) ∧ i - j * t = x * a + y * (s + 2 * t) + u * c := by
  refine mm_le (P := fun z => ∃ i j x y u : Int, z = (a * i, a * j) ∧ i - j * t = x * a + y * (s + 2 * t) + u * c) ⟨?_, ?_, ?_⟩ ?_
  · exact ⟨0, 0, 0, 0, 0, by simp, by simp⟩
  · rintro z z' ⟨i, j, x, y, u, rfl, h⟩ ⟨i', j', x', y', u', rfl, h'⟩
    refine ⟨i + i', j + j', x + x', y + y', u + u', ?_, by grind⟩
    refine qe_ext ?_ ?_ <;> simp only [qa] <;> grind
  · rintro z ⟨i, j, x, y, u, rfl, h⟩
    refine ⟨-i, -j, -x, -y, -u, ?_, by grind⟩
    refine qe_ext ?_ ?_ <;> simp only [qn] <;> grind
  · rintro z z' ⟨k, hk⟩ ⟨l, hl⟩
    refine ⟨a * k * l + k * z'.2 * (-s - t) + l * z.2 * t - z.2 * z'.2 * c, k * z'.2 + l * z.2, k * l, -(k * z'.2), -(z.2 * z'.2), ?_, by grind⟩
    have h1 : z.1 = z.2 * t + a * k := by grind
    have h2 : z'.1 = z'.2 * (-s - t) + a * l := by grind
    refine qe_ext ?_ ?_ <;> simp only [qm] <;> grind
theorem mm_conj_le {s n a t c : Int} (hc : a * c = t * t + s * t - n) : ∀ z, mm s n (qJ a t) (qJ a (-s - t)) z → sc s n (a, 0) qAll z := by
  intro z hz
  obtain ⟨i, j, -, -, -, rfl, -⟩ := mm_conj_in hc z hz
  refine ⟨(i, j), trivial, ?_⟩
  refine qe_ext ?_ ?_ <;> simp only [qm] <;> grind
theorem mm_conj {s n a t c : Int} (hc : a * c = t * t + s * t - n) (hp : prim a (s + 2 * t) c) : mm s n (qJ a t) (qJ a (-s - t)) = sc s n (a, 0) qAll := by
  refine pr_ext (mm_conj_le hc) ?_
  rintro z ⟨⟨i, j⟩, -, rfl⟩
  obtain ⟨x, y, u, hx⟩ := hp
  have hM := mm_mod s n (qJ a t) (qJ a (-s - t))
  have a1 : qJ a t (a, 0) := ⟨1, by simp⟩
  have a2 : qJ a (-s - t) (a, 0) := ⟨1, by simp⟩
  have w1 : qJ a t (t, 1) := ⟨0, by simp⟩
  have w2 : qJ a (-s - t) (-s - t, 1) := ⟨0, by simp⟩
  have p1 := qMod_smul hM (mm_in (s := s) (n := n) a1 a2) (x * i - x * j * t)
  have p2 := qMod_smul hM (mm_in (s := s) (n := n) w1 a2) (y * (i - j * t) + j)
  have p3 := qMod_smul hM (mm_in (s := s) (n := n) a1 w2) (-(y * (i - j * t)))
  have p4 := qMod_smul hM (mm_in (s := s) (n := n) w1 w2) (-(u * (i - j * t)))
  have := hM.2.1 _ _ (hM.2.1 _ _ p1 p2) (hM.2.1 _ _ p3 p4)
  have e : qm s n (a, 0) (i, j) = qa (qa ((x * i - x * j * t) * (qm s n (a, 0) (a, 0)).1, (x * i - x * j * t) * (qm s n (a, 0) (a, 0)).2) ((y * (i - j * t) + j) * (qm s n (t, 1) (a, 0)).1, (y * (i - j * t) + j) * (qm s n (t, 1) (a, 0)).2))
      (qa (-(y * (i - j * t)) * (qm s n (a, 0) (-s - t, 1)).1, -(y * (i - j * t)) * (qm s n (a, 0) (-s - t, 1)).2) (-(u * (i - j * t)) * (qm s n (t, 1) (-s - t, 1)).1, -(u * (i - j * t)) * (qm s n (t, 1) (-s - t, 1)).2)) := by
    refine qe_ext ?_ ?_
    · simp only [qm, qa]
      have : (a * i : Int) = a * (i - j * t) * (x * a + y * (s + 2 * t) + u * c) + a * j * t := by rw [hx]; grind
      grind
    · simp only [qm, qa]; grind
  rw [e]; exact this
theorem prim_of {s n a t c : Int} (ha : a ≠ 0) (hc : a * c = t * t + s * t - n) (h : mm s n (qJ a t) (qJ a (-s - t)) (a, 0)) : prim a (s + 2 * t) c := by
  obtain ⟨i, j, x, y, u, h1, h2⟩ := mm_conj_in hc _ h
  have e1 : a = a * i := congrArg Prod.fst h1
  have e2 : (0 : Int) = a * j := congrArg Prod.snd h1
  have hj : j = 0 := by
    rcases Int.mul_eq_zero.mp e2.symm with h | h
    · exact absurd h ha
    · exact h
  have hi : i = 1 := Int.eq_of_mul_eq_mul_left ha (by rw [← e1, Int.mul_one])
  subst hj; subst hi
  exact ⟨x, y, u, by grind⟩
