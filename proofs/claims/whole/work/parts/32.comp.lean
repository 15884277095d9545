/-- h = (p1 p2, T) is composed of f = (a1, t1) and g = (a2, t2): e goes into a1, a2 and s + t1 + t2, and T fits both -/
def cmpd (s n a1 t1 a2 t2 e p1 p2 q r T k1 k2 k : Int) : Prop := a1 = e * p1 ∧ a2 = e * p2 ∧ s + t1 + t2 = e * q ∧ t1 * t2 + n = e * r ∧ T - t1 = p1 * k1 ∧ T - t2 = p2 * k2 ∧ q * T - r = p1 * p2 * k
theorem cmpd_c {s n a1 t1 a2 t2 e p1 p2 q r T k1 k2 k : Int} (h : cmpd s n a1 t1 a2 t2 e p1 p2 q r T k1 k2 k) : (p1 * p2) * (e * k + k1 * k2) = T * T + s * T - n := by
  obtain ⟨h1, h2, h3, h4, h5, h6, h7⟩ := h
  have e1 : t1 = T - p1 * k1 := by omega
  have e2 : t2 = T - p2 * k2 := by omega
  have a : e * (q * T - r) = e * (p1 * p2 * k) := by rw [h7]
  have b : e * q * T - e * r = e * (p1 * p2 * k) := by grind
  rw [← h3, ← h4, e1, e2] at b
  grind
theorem cmpd_conj {s n a1 t1 a2 t2 e p1 p2 q r T k1 k2 k : Int} (h : cmpd s n a1 t1 a2 t2 e p1 p2 q r T k1 k2 k) : cmpd s n a1 (-s - t1) a2 (-s - t2) e p1 p2 (-q) (s * q + r) (-s - T) (-k1) (-k2) k := by
  obtain ⟨h1, h2, h3, h4, h5, h6, h7⟩ := h
  refine ⟨h1, h2, by grind, ?_, by grind, by grind, by grind⟩
  have : e * (s * q + r) = s * (e * q) + e * r := by grind
  rw [this, ← h3, ← h4]; grind
theorem cmpd_le {s n a1 t1 a2 t2 e p1 p2 q r T k1 k2 k : Int} (h : cmpd s n a1 t1 a2 t2 e p1 p2 q r T k1 k2 k) : ∀ z, mm s n (qJ a1 t1) (qJ a2 t2) z → sc s n (e, 0) (qJ (p1 * p2) T) z := by
  refine mm_le (sc_mod (qJ_mod _ _) _) ?_
  obtain ⟨h1, h2, h3, h4, h5, h6, h7⟩ := h
  rintro u v ⟨x, hx⟩ ⟨y, hy⟩
  have eu : u.1 = u.2 * t1 + a1 * x := by omega
  have ev : v.1 = v.2 * t2 + a2 * y := by omega
  refine ⟨(e * p1 * p2 * x * y + p1 * x * v.2 * t2 + p2 * y * u.2 * t1 + u.2 * v.2 * r, p1 * x * v.2 + p2 * y * u.2 + u.2 * v.2 * q), ?_, ?_⟩
  · refine ⟨e * x * y - x * v.2 * k2 - y * u.2 * k1 - u.2 * v.2 * k, ?_⟩
    have f1 : t1 = T - p1 * k1 := by omega
    have f2 : t2 = T - p2 * k2 := by omega
    have f3 : r = q * T - p1 * p2 * k := by omega
    rw [f1, f2, f3]
    grind
  · refine qe_ext ?_ ?_
    · simp only [qm]
      rw [eu, ev, h1, h2]
      have : u.2 * v.2 * (e * r) = u.2 * v.2 * (t1 * t2 + n) := by rw [h4]
      grind
    · simp only [qm]
      rw [eu, ev, h1, h2]
      have : u.2 * v.2 * (e * q) = u.2 * v.2 * (s + t1 + t2) := by rw [h3]
      grind
theorem qAll_mod : qMod qAll := ⟨trivial, fun _ _ _ _ => trivial, fun _ _ => trivial⟩
theorem qAll_idl (s n : Int) : qIdl s n qAll := fun _ _ _ => trivial
theorem sc_idl {s n : Int} {M : QE → Prop} (hI : qIdl s n M) (a : QE) : qIdl s n (sc s n a M) := by
  rintro u z ⟨w, hw, rfl⟩
  exact ⟨qm s n u w, hI u w hw, by rw [← qm_assoc, qm_comm s n u a, qm_assoc]⟩
theorem sc_cancel {s n k : Int} (hk : k ≠ 0) {M : QE → Prop} {w : QE} (h : sc s n (k, 0) M (qm s n (k, 0) w)) : M w := by
  obtain ⟨x, hx, e⟩ := h
  have e1 : k * w.1 = k * x.1 := by have := congrArg Prod.fst e; simpa [qm] using this
  have e2 : k * w.2 = k * x.2 := by have := congrArg Prod.snd e; simpa [qm] using this
  have : w = x := qe_ext (Int.eq_of_mul_eq_mul_left hk e1) (Int.eq_of_mul_eq_mul_left hk e2)
  rw [this]; exact hx
theorem qm_int (s n k l : Int) : qm s n (k, 0) (l, 0) = (k * l, 0) := by
  refine qe_ext ?_ ?_ <;> simp only [qm] <;> grind
theorem sc_mono {s n : Int} {M N : QE → Prop} (h : ∀ z, M z → N z) (a : QE) : ∀ z, sc s n a M z → sc s n a N z := fun _ ⟨w, hw, e⟩ => ⟨w, h w hw, e⟩
theorem cmpd_eq {s n a1 t1 c1 a2 t2 c2 e p1 p2 q r T k1 k2 k : Int} (h : cmpd s n a1 t1 a2 t2 e p1 p2 q r T k1 k2 k) (ha1 : a1 ≠ 0) (ha2 : a2 ≠ 0) (hc1 : a1 * c1 = t1 * t1 + s * t1 - n) (hc2 : a2 * c2 = t2 * t2 + s * t2 - n)
    (hp1 : prim a1 (s + 2 * t1) c1) (hp2 : prim a2 (s + 2 * t2) c2) : mm s n (qJ a1 t1) (qJ a2 t2) = sc s n (e, 0) (qJ (p1 * p2) T) := by
  refine pr_ext (cmpd_le h) ?_
  have hcH := cmpd_c h
  have hH : qIdl s n (qJ (p1 * p2) T) := qJ_idl ⟨_, hcH.symm⟩
  have hF : qIdl s n (qJ a1 t1) := qJ_idl ⟨_, hc1.symm⟩
  have hFG : qIdl s n (mm s n (qJ a1 t1) (qJ a2 t2)) := mm_idl hF
  have hOO : mm s n qAll qAll = qAll := mm_all qAll_mod (qAll_idl s n)
  -- the eightfold product in two ways
  have A : mm s n (sc s n (e, 0) (qJ (p1 * p2) T)) (mm s n (mm s n (qJ a1 t1) (qJ a1 (-s - t1))) (mm s n (qJ a2 t2) (qJ a2 (-s - t2)))) = sc s n (a1 * a2, 0) (sc s n (e, 0) (qJ (p1 * p2) T)) := by
    rw [mm_conj hc1 hp1, mm_conj hc2 hp2, mm_sc2, hOO, qm_int, mm_comm, mm_sc, mm_comm, mm_all (sc_mod (qJ_mod _ _) _) (sc_idl hH _)]
  have B : mm s n (sc s n (e, 0) (qJ (p1 * p2) T)) (mm s n (mm s n (qJ a1 t1) (qJ a1 (-s - t1))) (mm s n (qJ a2 t2) (qJ a2 (-s - t2)))) = mm s n (mm s n (qJ a1 t1) (qJ a2 t2)) (mm s n (sc s n (e, 0) (qJ (p1 * p2) T)) (mm s n (qJ a1 (-s - t1)) (qJ a2 (-s - t2)))) := by
    generalize sc s n (e, 0) (qJ (p1 * p2) T) = E
    generalize qJ a1 t1 = F
    generalize qJ a1 (-s - t1) = F'
    generalize qJ a2 t2 = G
    generalize qJ a2 (-s - t2) = G'
    calc mm s n E (mm s n (mm s n F F') (mm s n G G')) = mm s n E (mm s n F (mm s n F' (mm s n G G'))) := by rw [mm_assoc s n F]
      _ = mm s n E (mm s n F (mm s n G (mm s n F' G'))) := by rw [← mm_assoc s n F' G G', mm_comm s n F' G, mm_assoc s n G F' G']
      _ = mm s n E (mm s n (mm s n F G) (mm s n F' G')) := by rw [mm_assoc s n F G]
      _ = mm s n (mm s n F G) (mm s n E (mm s n F' G')) := by rw [← mm_assoc, mm_comm s n E, mm_assoc]
  have C : ∀ z, mm s n (sc s n (e, 0) (qJ (p1 * p2) T)) (mm s n (qJ a1 (-s - t1)) (qJ a2 (-s - t2))) z → sc s n (a1 * a2, 0) qAll z := by
    intro z hz
    have h1 := mm_mono (fun _ h => h) (cmpd_le (cmpd_conj h)) z hz
    rw [mm_sc2, qm_int] at h1
    have h2 := sc_mono (mm_conj_le hcH) _ z h1
    rw [sc_sc, qm_int] at h2
    have e1 : e * e * (p1 * p2) = a1 * a2 := by rw [h.1, h.2.1]; grind
    rw [e1] at h2; exact h2
  intro z hz
  refine sc_cancel (k := a1 * a2) (s := s) (n := n) (Int.mul_ne_zero ha1 ha2) ?_
  have hz2 : sc s n (a1 * a2, 0) (sc s n (e, 0) (qJ (p1 * p2) T)) (qm s n (a1 * a2, 0) z) := ⟨z, hz, rfl⟩
  rw [← A, B] at hz2
  have h3 := mm_mono (fun _ h => h) C _ hz2
  rw [mm_comm, mm_sc, mm_comm, mm_all (mm_mod _ _ _ _) hFG] at h3
  exact h3
theorem cmpd_prim {s n a1 t1 c1 a2 t2 c2 e p1 p2 q r T k1 k2 k : Int} (h : cmpd s n a1 t1 a2 t2 e p1 p2 q r T k1 k2 k) (ha1 : a1 ≠ 0) (ha2 : a2 ≠ 0) (hc1 : a1 * c1 = t1 * t1 + s * t1 - n) (hc2 : a2 * c2 = t2 * t2 + s * t2 - n)
    (hp1 : prim a1 (s + 2 * t1) c1) (hp2 : prim a2 (s + 2 * t2) c2) : prim (p1 * p2) (s + 2 * T) (e * k + k1 * k2) := by
  have he : e ≠ 0 := fun h0 => ha1 (by rw [h.1, h0, Int.zero_mul])
  have hq1 : p1 ≠ 0 := fun h0 => ha1 (by rw [h.1, h0, Int.mul_zero])
  have hq2 : p2 ≠ 0 := fun h0 => ha2 (by rw [h.2.1, h0, Int.mul_zero])
  refine prim_of (Int.mul_ne_zero hq1 hq2) (cmpd_c h) (s := s) (n := n) ?_
  have hcj : ∀ {a t c : Int}, a * c = t * t + s * t - n → a * c = (-s - t) * (-s - t) + s * (-s - t) - n := fun h => by rw [h]; grind
  have hpj : ∀ {a t c : Int}, prim a (s + 2 * t) c → prim a (s + 2 * (-s - t)) c := fun ⟨x, y, z, h⟩ => ⟨x, -y, z, by rw [← h]; grind⟩
  have E1 := cmpd_eq h ha1 ha2 hc1 hc2 hp1 hp2
  have E2 := cmpd_eq (cmpd_conj h) ha1 ha2 (hcj hc1) (hcj hc2) (hpj hp1) (hpj hp2)
  have hOO : mm s n qAll qAll = qAll := mm_all qAll_mod (qAll_idl s n)
  have K : sc s n (e * e, 0) (mm s n (qJ (p1 * p2) T) (qJ (p1 * p2) (-s - T))) = sc s n (a1 * a2, 0) qAll := by
    rw [← qm_int s n e e, ← mm_sc2, ← E1, ← E2, mm_assoc, ← mm_assoc s n (qJ a2 t2), mm_comm s n (qJ a2 t2), mm_assoc s n (qJ a1 (-s - t1)), ← mm_assoc s n (qJ a1 t1), mm_conj hc1 hp1, mm_conj hc2 hp2, mm_sc2, hOO, qm_int]
  refine sc_cancel (k := e * e) (s := s) (n := n) (Int.mul_ne_zero he he) ?_
  rw [K]
  refine ⟨(1, 0), trivial, ?_⟩
  rw [qm_int, qm_int, h.1, h.2.1]
  refine qe_ext ?_ rfl
  show e * e * (p1 * p2) = e * p1 * (e * p2) * 1
  grind
