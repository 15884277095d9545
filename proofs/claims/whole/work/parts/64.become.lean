/-! become: the class holds D -/
theorem okD_of (F : Nat) (hF : 100 ≤ F) {D : Int} (hT : takeable D) : ∃ R : Nat, f_rootOf F (i3 D) = some (i3 R) ∧ okD D R := by
  obtain ⟨h1, h2, h3, h4⟩ := id hT
  obtain ⟨R, q1, q2, q3, q4⟩ := rootOf_s F hF h1 h2
  refine ⟨R, q1, hT, fun g => ?_, fun g => ?_⟩
  · have hle : (R : Int) * R ≤ D := by
      rcases q2 with q | q
      · subst q; simp; omega
      · exact q
    refine ⟨⟨by omega, hle, q3⟩, ?_⟩
    by_cases k : (R : Int) < 1024
    · exact k
    · have : 1024 * 1024 ≤ (R : Int) * R := Int.mul_le_mul (by omega) (by omega) (by omega) (by omega)
      have := h4 R
      omega
  · rcases q2 with q | q
    · rw [q]; rfl
    · have : 0 ≤ (R : Int) * R := Int.mul_nonneg (by omega) (by omega)
      omega
theorem prin_s (F : Nat) (hF : 1000000 ≤ F) {D R : Int} (hO : okD D R) {An : Nat → Int32} {cl : Nat} {fm : Nat → FT} (hN : isNF D R An cl fm) {α : Type} (K : Int32 → Int64 → Int64 → Int64 → Option α) :
    ∃ (i : Nat) (g : FT), isPr D cl fm i ∧ bnd (i3 D &&& 1) (fun v2_8 => Option.bind (f_Form_set F 1 ((v2_8).toInt64) ((((v2_8 - i3 D) / 4)).toInt64)) (fun (u_a1_9, u_b1_10, u_c1_11) => Option.bind (f_reduce F (i3 D) (i3 R) u_a1_9 u_b1_10 u_c1_11) (fun (u_a1_12, u_b1_13, u_c1_14) => Option.bind (f_leastKey F (i3 D) (i3 R) u_a1_12 u_b1_13 u_c1_14) (fun (r_15, u_a1_16, u_b1_17, u_c1_18) => Option.bind (f_classAt F (i3 cl) An r_15) (fun r_19 => K r_19 u_a1_16 u_b1_17 u_c1_18))))) = K (i3 i) (i6 g.1) (i6 g.2.1) (i6 g.2.2) := by
  obtain ⟨hD0, hss, hs01⟩ := D_sn hO
  have hD1 := hO.1.1; have hD2 := hO.1.2.1
  have hd : fdisc (1, sg D, -nn D) = D := by simp only [fdisc]; omega
  have hf : okF D (1, sg D, -nn D) := ⟨hd, ⟨1, 0, 0, by grind⟩, fun _ => by simp only; omega⟩
  have hB : Bd (1, sg D, -nn D) := ⟨⟨by simp only; omega, by simp only; omega⟩, ⟨by simp only; omega, by simp only; omega⟩, ⟨by simp only; omega, by simp only; omega⟩⟩
  obtain ⟨g, i, hi, r1, r2, r3, r4, -⟩ := num_s F hF hO hN hf hB
  simp only at r1 r4
  refine ⟨i, g, ⟨hi, 0, -nn D, ⟨by decide, by grind, ⟨1, 0, 0, by grind⟩⟩, ?_⟩, ?_⟩
  · have e : sg D + 2 * 0 = sg D := by omega
    rw [e]; exact r4
  · rw [and1 ⟨by omega, by omega⟩]
    have e1 : (i3 (D % 2)).toInt64 = i6 (sg D) := i36 ⟨by omega, by omega⟩
    have e2 : ((i3 (D % 2) - i3 D) / 4).toInt64 = i6 (-nn D) := by
      have e3 : D % 2 - D = 4 * -nn D := by have : sg D = D % 2 := rfl; omega
      rw [i3_sub, show (4 : Int32) = i3 4 from rfl, (i3_div (a := D % 2 - D) (b := 4) ⟨by omega, by omega⟩ ⟨by decide, by decide⟩ (by decide) (by omega)).1, tdiv_ex (by decide) e3, i36 ⟨by omega, by omega⟩]
    show Option.bind (f_Form_set F 1 ((i3 (D % 2)).toInt64) (((i3 (D % 2) - i3 D) / 4).toInt64)) _ = _
    rw [e1, e2]
    show Option.bind (f_reduce F (i3 D) (i3 R) (i6 1) (i6 (sg D)) (i6 (-nn D))) _ = _
    rw [r1]
    simp only [Option.bind_some]
    rw [r2]
    simp only [Option.bind_some]
    rw [r3]
    rfl
/-- what the class holds when D is taken -/
def holdsD (D R : Int) (An : Nat → Int32) (cl rf pr : Nat) (fm : Nat → FT) : Prop := okD D R ∧ isNF D R An cl fm ∧ cntF rf (fun f => okF D f ∧ redI D R f) ∧ isPr D cl fm pr
theorem become_s (F : Nat) (hF : 1000000 ≤ F) {D : Int} (hT : takeable D) (hcap : ∀ R, okD D R → capD D R) (An : Nat → Int32) (a b c : Int64) :
    ∃ (R cl rf pr : Nat) (An' : Nat → Int32) (x y z : Int64) (fm : Nat → FT), f_become F An a b c (i3 D) = some (i3 D, i3 R, i3 cl, i3 rf, i3 pr, 0, An', x, y, z) ∧ holdsD D R An' cl rf pr fm := by
  obtain ⟨R, hR, hO⟩ := okD_of F (by omega) hT
  have hD1 := hT.1; have hD2 := hT.2.1
  have hC := hcap R hO
  unfold f_become
  rw [hR]
  simp only [Option.bind_some]
  rcases Int.lt_or_gt_of_ne (okD_ne hO) with g0 | g0
  · rw [if_f (fun q => by have := (c_le0 (a := D) ⟨by omega, by omega⟩).mp q; omega)]
    obtain ⟨cl, An', q1, q2⟩ := nameDef_s F (by omega) hO g0 hC An
    obtain ⟨fm, hN⟩ := nf_of hO hC q2
    rw [q1]
    simp only [Option.bind_some]
    obtain ⟨i, g, p1, p2⟩ := prin_s F hF hO hN (fun r x y z => some (i3 D, i3 (R : Int), i3 cl, i3 cl, r, (0 : Int32), An', x, y, z))
    refine ⟨R, cl, cl, i, An', i6 g.1, i6 g.2.1, i6 g.2.2, fm, p2, hO, hN, ?_, p1⟩
    refine ⟨fm, fun i j hi hj e => ?_, fun f => ⟨fun ⟨h1, h2⟩ => hN.2.2.2 f ⟨h1, h2, fun q => by omega⟩, fun ⟨i, hi, e⟩ => ?_⟩⟩
    · rcases Nat.lt_trichotomy i j with q | q | q
      · have := hN.2.2.1 i j q hj; rw [e] at this; omega
      · exact q
      · have := hN.2.2.1 j i q hi; rw [e] at this; omega
    · rw [← e]; exact ⟨(hN.2.1 i hi).1.1, (hN.2.1 i hi).1.2.1⟩
  · rw [if_t ((c_le0 (a := D) ⟨by omega, by omega⟩).mpr (by omega))]
    obtain ⟨cl, rf, An', x1, y1, z1, q1, q2, q3⟩ := nameInd_s F hF hO g0 hC An a b c
    obtain ⟨fm, hN⟩ := nf_of hO hC q2
    rw [q1]
    simp only [Option.bind_some]
    obtain ⟨i, g, p1, p2⟩ := prin_s F hF hO hN (fun r x y z => some (i3 D, i3 (R : Int), i3 cl, i3 rf, r, (0 : Int32), An', x, y, z))
    exact ⟨R, cl, rf, i, An', i6 g.1, i6 g.2.1, i6 g.2.2, fm, p2, hO, hN, q3, p1⟩
