/-! The quadratic ring: pairs (x, y) for x + y w, w w = s w + n; D = s s + 4 n. Modules as predicates; their products. -/
abbrev QE : Type := Int × Int
def qm (s n : Int) (u v : QE) : QE := (u.1 * v.1 + n * (u.2 * v.2), u.1 * v.2 + u.2 * v.1 + s * (u.2 * v.2))
def qa (u v : QE) : QE := (u.1 + v.1, u.2 + v.2)
def qn (u : QE) : QE := (-u.1, -u.2)
def qc (s : Int) (u : QE) : QE := (u.1 + s * u.2, -u.2)
def qN (s n : Int) (u : QE) : Int := u.1 * u.1 + s * u.1 * u.2 - n * u.2 * u.2
theorem qe_ext {u v : QE} (h1 : u.1 = v.1) (h2 : u.2 = v.2) : u = v := Prod.ext h1 h2
theorem qm_comm (s n : Int) (u v : QE) : qm s n u v = qm s n v u := by
  refine qe_ext ?_ ?_ <;> simp only [qm] <;> grind
theorem qm_assoc (s n : Int) (u v w : QE) : qm s n (qm s n u v) w = qm s n u (qm s n v w) := by
  refine qe_ext ?_ ?_ <;> simp only [qm] <;> grind
theorem qm_add (s n : Int) (u v w : QE) : qm s n u (qa v w) = qa (qm s n u v) (qm s n u w) := by
  refine qe_ext ?_ ?_ <;> simp only [qm, qa] <;> grind
theorem qm_neg (s n : Int) (u v : QE) : qm s n u (qn v) = qn (qm s n u v) := by
  refine qe_ext ?_ ?_ <;> simp only [qm, qn] <;> grind
theorem qm_zero (s n : Int) (u : QE) : qm s n u (0, 0) = (0, 0) := by
  refine qe_ext ?_ ?_ <;> simp only [qm] <;> grind
theorem qm_one (s n : Int) (u : QE) : qm s n (1, 0) u = u := by
  refine qe_ext ?_ ?_ <;> simp only [qm] <;> grind
theorem qN_mul (s n : Int) (u v : QE) : qN s n (qm s n u v) = qN s n u * qN s n v := by
  simp only [qN, qm]; grind
theorem qm_conj (s n : Int) (u : QE) : qm s n u (qc s u) = (qN s n u, 0) := by
  refine qe_ext ?_ ?_ <;> simp only [qm, qc, qN] <;> grind
theorem qc_mul (s n : Int) (u v : QE) : qc s (qm s n u v) = qm s n (qc s u) (qc s v) := by
  refine qe_ext ?_ ?_ <;> simp only [qm, qc] <;> grind
theorem qN_conj (s n : Int) (u : QE) : qN s n (qc s u) = qN s n u := by
  simp only [qN, qc]; grind
theorem qN_int (s n k : Int) : qN s n (k, 0) = k * k := by
  simp only [qN]; grind
def qMod (M : QE → Prop) : Prop := M (0, 0) ∧ (∀ u v, M u → M v → M (qa u v)) ∧ ∀ u, M u → M (qn u)
def mm (s n : Int) (M N : QE → Prop) : QE → Prop := fun z => ∀ P : QE → Prop, qMod P → (∀ u v, M u → N v → P (qm s n u v)) → P z
def sc (s n : Int) (a : QE) (M : QE → Prop) : QE → Prop := fun z => ∃ w, M w ∧ z = qm s n a w
theorem mm_mod (s n : Int) (M N : QE → Prop) : qMod (mm s n M N) :=
  ⟨fun P hP _ => hP.1, fun u v hu hv P hP h => hP.2.1 u v (hu P hP h) (hv P hP h), fun u hu P hP h => hP.2.2 u (hu P hP h)⟩
theorem mm_in {s n : Int} {M N : QE → Prop} {u v : QE} (hu : M u) (hv : N v) : mm s n M N (qm s n u v) := fun _ _ h => h u v hu hv
theorem mm_le {s n : Int} {M N P : QE → Prop} (hP : qMod P) (h : ∀ u v, M u → N v → P (qm s n u v)) : ∀ z, mm s n M N z → P z := fun _ hz => hz P hP h
theorem pr_ext {M N : QE → Prop} (h1 : ∀ z, M z → N z) (h2 : ∀ z, N z → M z) : M = N := funext fun z => propext ⟨h1 z, h2 z⟩
theorem mm_comm (s n : Int) (M N : QE → Prop) : mm s n M N = mm s n N M :=
  pr_ext (mm_le (mm_mod s n N M) fun u v hu hv => by rw [qm_comm]; exact mm_in hv hu) (mm_le (mm_mod s n M N) fun u v hu hv => by rw [qm_comm]; exact mm_in hv hu)
theorem mm_mono {s n : Int} {M N M' N' : QE → Prop} (h1 : ∀ z, M z → M' z) (h2 : ∀ z, N z → N' z) : ∀ z, mm s n M N z → mm s n M' N' z :=
  mm_le (mm_mod s n M' N') fun u v hu hv => mm_in (h1 u hu) (h2 v hv)
theorem qMod_pre {s n : Int} {P : QE → Prop} (hP : qMod P) (a : QE) : qMod (fun z => P (qm s n a z)) := by
  refine ⟨?_, fun u v hu hv => ?_, fun u hu => ?_⟩
  · show P (qm s n a (0, 0)); rw [qm_zero]; exact hP.1
  · show P (qm s n a (qa u v)); rw [qm_add]; exact hP.2.1 _ _ hu hv
  · show P (qm s n a (qn u)); rw [qm_neg]; exact hP.2.2 _ hu
theorem mm_assoc (s n : Int) (M N L : QE → Prop) : mm s n (mm s n M N) L = mm s n M (mm s n N L) := by
  refine pr_ext (mm_le (mm_mod s n _ _) fun u v hu hv => ?_) (mm_le (mm_mod s n _ _) fun u v hu hv => ?_)
  · have h := hu (fun z => mm s n M (mm s n N L) (qm s n v z)) (qMod_pre (mm_mod s n _ _) v) (fun x y hx hy => by
      show mm s n M (mm s n N L) (qm s n v (qm s n x y))
      rw [qm_comm s n v, qm_assoc]; exact mm_in hx (mm_in hy hv))
    rw [qm_comm]; exact h
  · exact hv (fun z => mm s n (mm s n M N) L (qm s n u z)) (qMod_pre (mm_mod s n _ _) u) (fun x y hx hy => by
      show mm s n (mm s n M N) L (qm s n u (qm s n x y))
      rw [← qm_assoc]; exact mm_in (mm_in hu hx) hy)
theorem sc_mod {s n : Int} {M : QE → Prop} (hM : qMod M) (a : QE) : qMod (sc s n a M) := by
  refine ⟨⟨_, hM.1, (qm_zero s n a).symm⟩, ?_, ?_⟩
  · rintro u v ⟨x, hx, rfl⟩ ⟨y, hy, rfl⟩
    exact ⟨_, hM.2.1 _ _ hx hy, (qm_add s n a x y).symm⟩
  · rintro u ⟨x, hx, rfl⟩
    exact ⟨_, hM.2.2 _ hx, (qm_neg s n a x).symm⟩
theorem sc_sc (s n : Int) (a b : QE) (M : QE → Prop) : sc s n a (sc s n b M) = sc s n (qm s n a b) M := by
  refine pr_ext ?_ ?_
  · rintro z ⟨w, ⟨x, hx, rfl⟩, rfl⟩; exact ⟨x, hx, (qm_assoc s n a b x).symm⟩
  · rintro z ⟨x, hx, rfl⟩; exact ⟨_, ⟨x, hx, rfl⟩, qm_assoc s n a b x⟩
theorem mm_sc (s n : Int) (a : QE) (M N : QE → Prop) : mm s n (sc s n a M) N = sc s n a (mm s n M N) := by
  refine pr_ext (mm_le (sc_mod (mm_mod s n M N) a) ?_) ?_
  · rintro u v ⟨x, hx, rfl⟩ hv
    exact ⟨_, mm_in hx hv, qm_assoc s n a x v⟩
  · rintro z ⟨w, hw, rfl⟩
    exact hw (fun z => mm s n (sc s n a M) N (qm s n a z)) (qMod_pre (mm_mod s n _ _) a) (fun x y hx hy => by
      show mm s n (sc s n a M) N (qm s n a (qm s n x y))
      rw [← qm_assoc]; exact mm_in ⟨x, hx, rfl⟩ hy)
theorem mm_sc2 (s n : Int) (a b : QE) (M N : QE → Prop) : mm s n (sc s n a M) (sc s n b N) = sc s n (qm s n a b) (mm s n M N) := by
  rw [mm_sc, mm_comm, mm_sc, sc_sc, mm_comm]
/-- the module of a form a, b = s + 2 t: all x a + y (w + t) -/
def qJ (a t : Int) : QE → Prop := fun z => a ∣ z.1 - z.2 * t
theorem qJ_mod (a t : Int) : qMod (qJ a t) := by
  refine ⟨?_, ?_, ?_⟩
  · show a ∣ 0 - 0 * t; simp
  · intro u v hu hv
    show a ∣ (u.1 + v.1) - (u.2 + v.2) * t
    have := Int.dvd_add hu hv
    have e : u.1 - u.2 * t + (v.1 - v.2 * t) = (u.1 + v.1) - (u.2 + v.2) * t := by grind
    rw [e] at this; exact this
  · intro u hu
    show a ∣ (-u.1) - (-u.2) * t
    have := Int.dvd_neg.mpr hu
    have e : -(u.1 - u.2 * t) = (-u.1) - (-u.2) * t := by grind
    rw [e] at this; exact this
