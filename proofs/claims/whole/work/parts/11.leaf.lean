def f_Form_set (F : Nat) (x1 : Int64) (x3 : Int64) (x5 : Int64) : Option (Int64 × Int64 × Int64) := some (x1, x3, x5)
set_option maxHeartbeats 4000000 in
set_option maxRecDepth 100000 in
theorem c_Form_set (l : Launch) (dC : Nat → ClassId) (dI : Nat → Nat → Nat) (pf : Nat) (a1 : Int64) (b1 : Int64) (c1 : Int64) (x1 : Int64) (x3 : Int64) (x5 : Int64) (sz : Nat) (F : Nat) (out : Int64 × Int64 × Int64) (hf : f_Form_set F x1 x3 x5 = some out) : Met l yX1_set wsX1_set ({ frames := 0, cells := 0, slots := 0, locals := 0 }) (va_Pc [.ref pf, .long x1, .long x3, .long x5] (fun U => U.heap.size = sz ∧ va_P (dC, dI) vwCl [(pf, .inr (1, [.long a1, .long b1, .long c1]))] U.heap ∧ va_K (dC, dI) vwCl [] U ∧ va_D (fun _ => True) [(pf, .inr (1, [.long a1, .long b1, .long c1]))])) (va_Qv (fun (u : Int64 × Int64 × Int64) => u = out) (fun (u : Int64 × Int64 × Int64) t => match u with | (u_a1, u_b1, u_c1) => va_P (dC, dI) vwCl [(pf, .inr (1, [.long u_a1, .long u_b1, .long u_c1]))] t.heap ∧ va_K (dC, dI) vwCl [] t ∧ va_D (va_A [(pf, .inr (1, [.long a1, .long b1, .long c1]))] sz) [(pf, .inr (1, [.long u_a1, .long u_b1, .long u_c1]))]) (va_A [(pf, .inr (1, [.long a1, .long b1, .long c1]))] sz)) 0 0 (va_A [(pf, .inr (1, [.long a1, .long b1, .long c1]))] sz) := by
  refine Met.ofW (cc := cX1_set) (maxL := 7) (ret := none) (by decide +kernel) rfl ?_
  intro p e s m args below meth c s₁ B hml hv
  obtain ⟨rfl, hsz, hP, hK, hD0⟩ := hv
  have hx := B.exec
  have hb := B.bytes
  have hr := B.returns
  have hts := atoms_spec (ws := wsX1_set) B.pre
  have hown : s.vm.findClass "ClassGroup$Form" = some m.cls := findClass_of_methodNamed B.named
  have hlocks := B.notSynchronized
  subst hsz
  have hD := hD0.self (sz := s.heap.size)
  generalize hAe : va_A [(pf, .inr (1, [.long a1, .long b1, .long c1]))] s.heap.size = A at hD ⊢
  have hA : ∀ q : Nat, s.heap.size ≤ q → A q := fun q h => by rw [← hAe]; exact Or.inr h
  have hS : va_S A s.heap s.heap [] := va_S.rf
  have hl := lv_entry ([.ref pf, .long x1, .long x3, .long x5]) (n := 7) (Nat.le_of_ble_eq_true rfl)
  rw [lg_entry_eq]
  generalize (lg_sl ([.ref pf, .long x1, .long x3, .long x5]) ++ List.replicate (7 - (lg_sl ([.ref pf, .long x1, .long x3, .long x5])).length) Slot.unset).toArray = ls at hl ⊢
  have hl : lv_has ls 7 [(0, .ref pf), (1, .long x1), (3, .long x3), (5, .long x5)] := hl
  unfold f_Form_set at hf
  refine lv_aload_n hx hb dX1_set_0 rfl (lv_at hl 0 rfl) ?_
  refine lv_lload_n hx hb dX1_set_1 rfl (lv_at hl 1 rfl) ?_
  refine va_put (D := (dC, dI)) (ci := 1) (v := .long x1) (ty := .long) (C := "ClassGroup$Form") (T := TX1) (N := 3) hx hb hts (fun w h => List.mem_cons_of_mem _ (iwX1 w h)) tyX1 tyokX1 nmX1 hown hK hP hD hS 0 rfl rfl 0 (by decide) (hts _ (List.mem_cons_of_mem _ kw_26)) (fun _ h9 => h9) rfl (by decide +kernel) rfl rfl (Nat.le_of_ble_eq_true rfl) dX1_set_2 (fun H locs hP hD hS => ?_)
  have hP : va_P (dC, dI) vwCl [(pf, .inr (1, [.long x1, .long b1, .long c1]))] H := hP
  have hD : va_D A [(pf, .inr (1, [.long x1, .long b1, .long c1]))] := hD
  refine lv_aload_n hx hb dX1_set_5 rfl (lv_at hl 0 rfl) ?_
  refine lv_lload_n hx hb dX1_set_6 rfl (lv_at hl 2 rfl) ?_
  refine va_put (D := (dC, dI)) (ci := 1) (v := .long x3) (ty := .long) (C := "ClassGroup$Form") (T := TX1) (N := 3) hx hb hts (fun w h => List.mem_cons_of_mem _ (iwX1 w h)) tyX1 tyokX1 nmX1 hown hK hP hD hS 0 rfl rfl 1 (by decide) (hts _ (List.mem_cons_of_mem _ kw_28)) (fun _ h9 => h9) rfl (by decide +kernel) rfl rfl (Nat.le_of_ble_eq_true rfl) dX1_set_7 (fun H locs hP hD hS => ?_)
  have hP : va_P (dC, dI) vwCl [(pf, .inr (1, [.long x1, .long x3, .long c1]))] H := hP
  have hD : va_D A [(pf, .inr (1, [.long x1, .long x3, .long c1]))] := hD
  refine lv_aload_n hx hb dX1_set_10 rfl (lv_at hl 0 rfl) ?_
  refine lv_lload hx hb dX1_set_11 (lv_at hl 3 rfl) ?_
  refine va_put (D := (dC, dI)) (ci := 1) (v := .long x5) (ty := .long) (C := "ClassGroup$Form") (T := TX1) (N := 3) hx hb hts (fun w h => List.mem_cons_of_mem _ (iwX1 w h)) tyX1 tyokX1 nmX1 hown hK hP hD hS 0 rfl rfl 2 (by decide) (hts _ (List.mem_cons_of_mem _ kw_30)) (fun _ h9 => h9) rfl (by decide +kernel) rfl rfl (Nat.le_of_ble_eq_true rfl) dX1_set_13 (fun H locs hP hD hS => ?_)
  have hP : va_P (dC, dI) vwCl [(pf, .inr (1, [.long x1, .long x3, .long x5]))] H := hP
  have hD : va_D A [(pf, .inr (1, [.long x1, .long x3, .long x5]))] := hD
  have hP9 := hP.sub (ws' := [(pf, .inr (1, [.long x1, .long x3, .long x5]))]) [0] rfl
  have hD9 := hD.sub (ws' := [(pf, .inr (1, [.long x1, .long x3, .long x5]))]) [0] (by decide) rfl
  have hK9 := hK.sub (tys' := []) [] rfl
  exact W.vret hx hb hr (fun t ht hW => ⟨⟨(x1, x3, x5), rfl, (Option.some.inj hf), by rw [ht]; exact hP9, va_K.moved hW.alike hK9, hD9⟩, hS.F ht⟩) hS.2.2 dX1_set_16

def f_Bz_solve_L27 (F : Nat)  : Nat → Int64 → Int64 → Int64 → Int32 → Int64 → Int64 → Int64 → Option (Int64 × Int64 × Int64)
  | 0, _, _, _, _, _, _, _ => none
  | n27 + 1, w5_1, w7_2, w9_3, w11_4, m_zg_5, m_z1_6, m_z2_7 => (if (1000000 : Int32) ≤ w11_4 then some (m_zg_5, m_z1_6, m_z2_7) else (if (lg_cmp w5_1 0) = 0 then some (m_zg_5, m_z1_6, m_z2_7) else (if ¬ w5_1 = 0 then bnd (m_zg_5 / w5_1) (fun v12_8 => bnd (m_zg_5 - (v12_8 * w5_1)) (fun v14_9 => bnd (m_z1_6 - (v12_8 * w7_2)) (fun v16_10 => bnd (m_z2_7 - (v12_8 * w9_3)) (fun v18_11 => bnd (w11_4 + 1) (fun v11_12 => f_Bz_solve_L27 F n27 v14_9 v16_10 v18_11 v11_12 w5_1 w7_2 w9_3))))) else none)))
def f_Bz_solve (F : Nat) (x1 : Int64) (x3 : Int64) : Option (Int64 × Int64 × Int64) := Option.bind (f_Bz_solve_L27 F F x3 0 1 0 x1 1 0) (fun (y_zg_13, y_z1_14, y_z2_15) => (if (0 : Int32) ≤ (lg_cmp y_zg_13 0) then some (y_zg_13, y_z1_14, y_z2_15) else bnd (-y_zg_13) (fun f_greatest_16 => bnd (-y_z1_14) (fun f_first_17 => bnd (-y_z2_15) (fun f_second_18 => some (f_greatest_16, f_first_17, f_second_18))))))
set_option maxHeartbeats 4000000 in
set_option maxRecDepth 100000 in
theorem c_Bz_solve (l : Launch) (dC : Nat → ClassId) (dI : Nat → Nat → Nat) (pz : Nat) (zg : Int64) (z1 : Int64) (z2 : Int64) (x1 : Int64) (x3 : Int64) (sz : Nat) (F : Nat) (out : Int64 × Int64 × Int64) (hf : f_Bz_solve F x1 x3 = some out) : Met l yX2_solve wsX2_solve ({ frames := 0, cells := 0, slots := 0, locals := 0 }) (va_Pc [.ref pz, .long x1, .long x3] (fun U => U.heap.size = sz ∧ va_P (dC, dI) vwCl [(pz, .inr (2, [.long zg, .long z1, .long z2]))] U.heap ∧ va_K (dC, dI) vwCl [] U ∧ va_D (fun _ => True) [(pz, .inr (2, [.long zg, .long z1, .long z2]))])) (va_Qv (fun (u : Int64 × Int64 × Int64) => u = out) (fun (u : Int64 × Int64 × Int64) t => match u with | (u_zg, u_z1, u_z2) => va_P (dC, dI) vwCl [(pz, .inr (2, [.long u_zg, .long u_z1, .long u_z2]))] t.heap ∧ va_K (dC, dI) vwCl [] t ∧ va_D (va_A [(pz, .inr (2, [.long zg, .long z1, .long z2]))] sz) [(pz, .inr (2, [.long u_zg, .long u_z1, .long u_z2]))]) (va_A [(pz, .inr (2, [.long zg, .long z1, .long z2]))] sz)) 0 0 (va_A [(pz, .inr (2, [.long zg, .long z1, .long z2]))] sz) := by
  refine Met.ofW (cc := cX2_solve) (maxL := 20) (ret := none) (by decide +kernel) rfl ?_
  intro p e s m args below meth c s₁ B hml hv
  obtain ⟨rfl, hsz, hP, hK, hD0⟩ := hv
  have hx := B.exec
  have hb := B.bytes
  have hr := B.returns
  have hts := atoms_spec (ws := wsX2_solve) B.pre
  have hown : s.vm.findClass "ClassGroup$Bezout" = some m.cls := findClass_of_methodNamed B.named
  have hlocks := B.notSynchronized
  subst hsz
  have hD := hD0.self (sz := s.heap.size)
  generalize hAe : va_A [(pz, .inr (2, [.long zg, .long z1, .long z2]))] s.heap.size = A at hD ⊢
  have hA : ∀ q : Nat, s.heap.size ≤ q → A q := fun q h => by rw [← hAe]; exact Or.inr h
  have hS : va_S A s.heap s.heap [] := va_S.rf
  have hl := lv_entry ([.ref pz, .long x1, .long x3]) (n := 20) (Nat.le_of_ble_eq_true rfl)
  rw [lg_entry_eq]
  generalize (lg_sl ([.ref pz, .long x1, .long x3]) ++ List.replicate (20 - (lg_sl ([.ref pz, .long x1, .long x3])).length) Slot.unset).toArray = ls at hl ⊢
  have hl : lv_has ls 20 [(0, .ref pz), (1, .long x1), (3, .long x3)] := hl
  unfold f_Bz_solve at hf
  refine lv_aload_n hx hb dX2_solve_0 rfl (lv_at hl 0 rfl) ?_
  refine lv_lload_n hx hb dX2_solve_1 rfl (lv_at hl 1 rfl) ?_
  refine va_put (D := (dC, dI)) (ci := 2) (v := .long x1) (ty := .long) (C := "ClassGroup$Bezout") (T := TX2) (N := 3) hx hb hts (fun w h => List.mem_cons_of_mem _ (iwX2 w h)) tyX2 tyokX2 nmX2 hown hK hP hD hS 0 rfl rfl 0 (by decide) (hts _ (List.mem_cons_of_mem _ kw_46)) (fun _ h9 => h9) rfl (by decide +kernel) rfl rfl (Nat.le_of_ble_eq_true rfl) dX2_solve_2 (fun H locs hP hD hS => ?_)
  have hP : va_P (dC, dI) vwCl [(pz, .inr (2, [.long x1, .long z1, .long z2]))] H := hP
  have hD : va_D A [(pz, .inr (2, [.long x1, .long z1, .long z2]))] := hD
  refine lv_aload_n hx hb dX2_solve_5 rfl (lv_at hl 0 rfl) ?_
  refine lv_lconst (v := 1) hx hb dX2_solve_6 (by decide) ?_
  refine va_put (D := (dC, dI)) (ci := 2) (v := .long 1) (ty := .long) (C := "ClassGroup$Bezout") (T := TX2) (N := 3) hx hb hts (fun w h => List.mem_cons_of_mem _ (iwX2 w h)) tyX2 tyokX2 nmX2 hown hK hP hD hS 0 rfl rfl 1 (by decide) (hts _ (List.mem_cons_of_mem _ kw_48)) (fun _ h9 => h9) rfl (by decide +kernel) rfl rfl (Nat.le_of_ble_eq_true rfl) dX2_solve_7 (fun H locs hP hD hS => ?_)
  have hP : va_P (dC, dI) vwCl [(pz, .inr (2, [.long x1, .long 1, .long z2]))] H := hP
  have hD : va_D A [(pz, .inr (2, [.long x1, .long 1, .long z2]))] := hD
  refine lv_aload_n hx hb dX2_solve_10 rfl (lv_at hl 0 rfl) ?_
  refine lv_lconst (v := 0) hx hb dX2_solve_11 (by decide) ?_
  refine va_put (D := (dC, dI)) (ci := 2) (v := .long 0) (ty := .long) (C := "ClassGroup$Bezout") (T := TX2) (N := 3) hx hb hts (fun w h => List.mem_cons_of_mem _ (iwX2 w h)) tyX2 tyokX2 nmX2 hown hK hP hD hS 0 rfl rfl 2 (by decide) (hts _ (List.mem_cons_of_mem _ kw_50)) (fun _ h9 => h9) rfl (by decide +kernel) rfl rfl (Nat.le_of_ble_eq_true rfl) dX2_solve_12 (fun H locs hP hD hS => ?_)
  have hP : va_P (dC, dI) vwCl [(pz, .inr (2, [.long x1, .long 1, .long 0]))] H := hP
  have hD : va_D A [(pz, .inr (2, [.long x1, .long 1, .long 0]))] := hD
  refine lv_lload_n hx hb dX2_solve_15 rfl (lv_at hl 2 rfl) ?_
  refine lv_lstore (lv' := [(5, .long x3), (0, .ref pz), (1, .long x1), (3, .long x3)]) hx hb dX2_solve_16 hl (by decide) rfl (fun ls hl => ?_)
  refine lv_lconst (v := 0) hx hb dX2_solve_18 (by decide) ?_
  refine lv_lstore (lv' := [(7, .long 0), (5, .long x3), (0, .ref pz), (1, .long x1), (3, .long x3)]) hx hb dX2_solve_19 hl (by decide) rfl (fun ls hl => ?_)
  refine lv_lconst (v := 1) hx hb dX2_solve_21 (by decide) ?_
  refine lv_lstore (lv' := [(9, .long 1), (7, .long 0), (5, .long x3), (0, .ref pz), (1, .long x1), (3, .long x3)]) hx hb dX2_solve_22 hl (by decide) rfl (fun ls hl => ?_)
  refine lv_iconst (v := 0) hx hb dX2_solve_24 (by decide) ?_
  refine lv_istore (lv' := [(11, .int 0), (9, .long 1), (7, .long 0), (5, .long x3), (0, .ref pz), (1, .long x1), (3, .long x3)]) hx hb dX2_solve_25 hl (by decide) rfl (fun ls hl => ?_)
  have hL27 : ∀ (n27 : Nat) (w5_1 : Int64) (w7_2 : Int64) (w9_3 : Int64) (w11_4 : Int32) (m_zg_5 : Int64) (m_z1_6 : Int64) (m_z2_7 : Int64) (res : Int64 × Int64 × Int64) (H : Heap) (locs : List Loc) (ls : Array Slot) (Q : State → Prop), f_Bz_solve_L27 F n27 w5_1 w7_2 w9_3 w11_4 m_zg_5 m_z1_6 m_z2_7 = some res → va_P (dC, dI) vwCl [(pz, .inr (2, [.long m_zg_5, .long m_z1_6, .long m_z2_7]))] H → va_D A [(pz, .inr (2, [.long m_zg_5, .long m_z1_6, .long m_z2_7]))] → va_S A s.heap H locs → lv_has ls 20 [(0, .ref pz), (5, .long w5_1), (7, .long w7_2), (9, .long w9_3), (11, .int w11_4)] → (∀ (y_zg_13 : Int64) (y_z1_14 : Int64) (y_z2_15 : Int64) (H : Heap) (locs : List Loc) (ls : Array Slot), (y_zg_13, y_z1_14, y_z2_15) = res → va_P (dC, dI) vwCl [(pz, .inr (2, [.long y_zg_13, .long y_z1_14, .long y_z2_15]))] H → va_D A [(pz, .inr (2, [.long y_zg_13, .long y_z1_14, .long y_z2_15]))] → va_S A s.heap H locs → lv_has ls 20 [(0, .ref pz)] → W p l e ((headSpec wsX2_solve ({ frames := 0, cells := 0, slots := 0, locals := 0 })).room) s m ([.ref pz, .long x1, .long x3] : List Value).toArray below meth c H locs 0 0 Q (F0 m 122 ls [])) → W p l e ((headSpec wsX2_solve ({ frames := 0, cells := 0, slots := 0, locals := 0 })).room) s m ([.ref pz, .long x1, .long x3] : List Value).toArray below meth c H locs 0 0 Q (F0 m 27 ls []) := by
    intro n27
    induction n27 with
    | zero => intro w5_1 w7_2 w9_3 w11_4 m_zg_5 m_z1_6 m_z2_7 res H locs ls Q hf; simp [f_Bz_solve_L27] at hf
    | succ n27 ih27 =>
      intro w5_1 w7_2 w9_3 w11_4 m_zg_5 m_z1_6 m_z2_7 res H locs ls Q hf hP hD hS hl k27_0
      rw [f_Bz_solve_L27] at hf
      refine lv_iload hx hb dX2_solve_27 (lv_at hl 4 rfl) ?_
      refine lv_ldc (v := 1000000) hx hb hown (hts _ (List.mem_cons_of_mem _ kw_240)) dX2_solve_29 ?_
      refine lv_icmp_ge (tgt := 122) hx hb dX2_solve_31 (by decide) (fun c_31 => ?_) (fun c_31 => ?_)
      · have hf := ok_t c_31 hf
        exact k27_0 m_zg_5 m_z1_6 m_z2_7 _ _ _ (Option.some.inj hf) (hP.sub [0] rfl) (hD.sub [0] (by decide) rfl) hS (lv_sub hl [0] rfl)
      · have hf := ok_f c_31 hf
        refine lv_lload hx hb dX2_solve_34 (lv_at hl 1 rfl) ?_
        refine lv_lconst (v := 0) hx hb dX2_solve_36 (by decide) ?_
        refine W.lcmp hx hb dX2_solve_37 ?_
        refine lv_if_eq (tgt := 122) hx hb dX2_solve_38 (by decide) (fun c_38 => ?_) (fun c_38 => ?_)
        · have hf := ok_t c_38 hf
          exact k27_0 m_zg_5 m_z1_6 m_z2_7 _ _ _ (Option.some.inj hf) (hP.sub [0] rfl) (hD.sub [0] (by decide) rfl) hS (lv_sub hl [0] rfl)
        · have hf := ok_f c_38 hf
          refine lv_aload_n hx hb dX2_solve_41 rfl (lv_at hl 0 rfl) ?_
          refine va_get (D := (dC, dI)) (ci := 2) (v := .long m_zg_5) (C := "ClassGroup$Bezout") (T := TX2) (N := 3) hx hb hts (fun w h => List.mem_cons_of_mem _ (iwX2 w h)) hown hK hP 0 rfl rfl 0 (by decide) (hts _ (List.mem_cons_of_mem _ kw_46)) (fun _ h9 => h9) rfl dX2_solve_42 ?_
          refine lv_lload hx hb dX2_solve_45 (lv_at hl 1 rfl) ?_
          obtain ⟨g_47, hf⟩ := ok_g hf
          refine lv_ldiv hx hb dX2_solve_47 g_47 ?_
          refine lv_topl (fun v12_8 ev12_8 => ?_)
          replace hf := bnd_ok ev12_8 hf
          refine lv_lstore (lv' := [(12, .long v12_8), (0, .ref pz), (5, .long w5_1), (7, .long w7_2), (9, .long w9_3), (11, .int w11_4)]) hx hb dX2_solve_48 hl (by decide) rfl (fun ls hl => ?_)
          refine lv_aload_n hx hb dX2_solve_50 rfl (lv_at hl 1 rfl) ?_
          refine va_get (D := (dC, dI)) (ci := 2) (v := .long m_zg_5) (C := "ClassGroup$Bezout") (T := TX2) (N := 3) hx hb hts (fun w h => List.mem_cons_of_mem _ (iwX2 w h)) hown hK hP 0 rfl rfl 0 (by decide) (hts _ (List.mem_cons_of_mem _ kw_46)) (fun _ h9 => h9) rfl dX2_solve_51 ?_
          refine lv_lload hx hb dX2_solve_54 (lv_at hl 0 rfl) ?_
          refine lv_lload hx hb dX2_solve_56 (lv_at hl 2 rfl) ?_
          refine lv_lmul hx hb dX2_solve_58 ?_
          refine lv_lsub hx hb dX2_solve_59 ?_
          refine lv_topl (fun v14_9 ev14_9 => ?_)
          replace hf := bnd_ok ev14_9 hf
          refine lv_lstore (lv' := [(14, .long v14_9), (12, .long v12_8), (0, .ref pz), (5, .long w5_1), (7, .long w7_2), (9, .long w9_3), (11, .int w11_4)]) hx hb dX2_solve_60 hl (by decide) rfl (fun ls hl => ?_)
          refine lv_aload_n hx hb dX2_solve_62 rfl (lv_at hl 2 rfl) ?_
          refine va_get (D := (dC, dI)) (ci := 2) (v := .long m_z1_6) (C := "ClassGroup$Bezout") (T := TX2) (N := 3) hx hb hts (fun w h => List.mem_cons_of_mem _ (iwX2 w h)) hown hK hP 0 rfl rfl 1 (by decide) (hts _ (List.mem_cons_of_mem _ kw_48)) (fun _ h9 => h9) rfl dX2_solve_63 ?_
          refine lv_lload hx hb dX2_solve_66 (lv_at hl 1 rfl) ?_
          refine lv_lload hx hb dX2_solve_68 (lv_at hl 4 rfl) ?_
          refine lv_lmul hx hb dX2_solve_70 ?_
          refine lv_lsub hx hb dX2_solve_71 ?_
          refine lv_topl (fun v16_10 ev16_10 => ?_)
          replace hf := bnd_ok ev16_10 hf
          refine lv_lstore (lv' := [(16, .long v16_10), (14, .long v14_9), (12, .long v12_8), (0, .ref pz), (5, .long w5_1), (7, .long w7_2), (9, .long w9_3), (11, .int w11_4)]) hx hb dX2_solve_72 hl (by decide) rfl (fun ls hl => ?_)
          refine lv_aload_n hx hb dX2_solve_74 rfl (lv_at hl 3 rfl) ?_
          refine va_get (D := (dC, dI)) (ci := 2) (v := .long m_z2_7) (C := "ClassGroup$Bezout") (T := TX2) (N := 3) hx hb hts (fun w h => List.mem_cons_of_mem _ (iwX2 w h)) hown hK hP 0 rfl rfl 2 (by decide) (hts _ (List.mem_cons_of_mem _ kw_50)) (fun _ h9 => h9) rfl dX2_solve_75 ?_
          refine lv_lload hx hb dX2_solve_78 (lv_at hl 2 rfl) ?_
          refine lv_lload hx hb dX2_solve_80 (lv_at hl 6 rfl) ?_
          refine lv_lmul hx hb dX2_solve_82 ?_
          refine lv_lsub hx hb dX2_solve_83 ?_
          refine lv_topl (fun v18_11 ev18_11 => ?_)
          replace hf := bnd_ok ev18_11 hf
          refine lv_lstore (lv' := [(18, .long v18_11), (16, .long v16_10), (14, .long v14_9), (12, .long v12_8), (0, .ref pz), (5, .long w5_1), (7, .long w7_2), (9, .long w9_3), (11, .int w11_4)]) hx hb dX2_solve_84 hl (by decide) rfl (fun ls hl => ?_)
          refine lv_aload_n hx hb dX2_solve_86 rfl (lv_at hl 4 rfl) ?_
          refine lv_lload hx hb dX2_solve_87 (lv_at hl 5 rfl) ?_
          refine va_put (D := (dC, dI)) (ci := 2) (v := .long w5_1) (ty := .long) (C := "ClassGroup$Bezout") (T := TX2) (N := 3) hx hb hts (fun w h => List.mem_cons_of_mem _ (iwX2 w h)) tyX2 tyokX2 nmX2 hown hK hP hD hS 0 rfl rfl 0 (by decide) (hts _ (List.mem_cons_of_mem _ kw_46)) (fun _ h9 => h9) rfl (by decide +kernel) rfl rfl (Nat.le_of_ble_eq_true rfl) dX2_solve_89 (fun H locs hP hD hS => ?_)
          have hP : va_P (dC, dI) vwCl [(pz, .inr (2, [.long w5_1, .long m_z1_6, .long m_z2_7]))] H := hP
          have hD : va_D A [(pz, .inr (2, [.long w5_1, .long m_z1_6, .long m_z2_7]))] := hD
          refine lv_aload_n hx hb dX2_solve_92 rfl (lv_at hl 4 rfl) ?_
          refine lv_lload hx hb dX2_solve_93 (lv_at hl 6 rfl) ?_
          refine va_put (D := (dC, dI)) (ci := 2) (v := .long w7_2) (ty := .long) (C := "ClassGroup$Bezout") (T := TX2) (N := 3) hx hb hts (fun w h => List.mem_cons_of_mem _ (iwX2 w h)) tyX2 tyokX2 nmX2 hown hK hP hD hS 0 rfl rfl 1 (by decide) (hts _ (List.mem_cons_of_mem _ kw_48)) (fun _ h9 => h9) rfl (by decide +kernel) rfl rfl (Nat.le_of_ble_eq_true rfl) dX2_solve_95 (fun H locs hP hD hS => ?_)
          have hP : va_P (dC, dI) vwCl [(pz, .inr (2, [.long w5_1, .long w7_2, .long m_z2_7]))] H := hP
          have hD : va_D A [(pz, .inr (2, [.long w5_1, .long w7_2, .long m_z2_7]))] := hD
          refine lv_aload_n hx hb dX2_solve_98 rfl (lv_at hl 4 rfl) ?_
          refine lv_lload hx hb dX2_solve_99 (lv_at hl 7 rfl) ?_
          refine va_put (D := (dC, dI)) (ci := 2) (v := .long w9_3) (ty := .long) (C := "ClassGroup$Bezout") (T := TX2) (N := 3) hx hb hts (fun w h => List.mem_cons_of_mem _ (iwX2 w h)) tyX2 tyokX2 nmX2 hown hK hP hD hS 0 rfl rfl 2 (by decide) (hts _ (List.mem_cons_of_mem _ kw_50)) (fun _ h9 => h9) rfl (by decide +kernel) rfl rfl (Nat.le_of_ble_eq_true rfl) dX2_solve_101 (fun H locs hP hD hS => ?_)
          have hP : va_P (dC, dI) vwCl [(pz, .inr (2, [.long w5_1, .long w7_2, .long w9_3]))] H := hP
          have hD : va_D A [(pz, .inr (2, [.long w5_1, .long w7_2, .long w9_3]))] := hD
          refine lv_lload hx hb dX2_solve_104 (lv_at hl 2 rfl) ?_
          refine lv_lstore (lv' := [(5, .long v14_9), (18, .long v18_11), (16, .long v16_10), (14, .long v14_9), (12, .long v12_8), (0, .ref pz), (7, .long w7_2), (9, .long w9_3), (11, .int w11_4)]) hx hb dX2_solve_106 hl (by decide) rfl (fun ls hl => ?_)
          refine lv_lload hx hb dX2_solve_108 (lv_at hl 2 rfl) ?_
          refine lv_lstore (lv' := [(7, .long v16_10), (5, .long v14_9), (18, .long v18_11), (16, .long v16_10), (14, .long v14_9), (12, .long v12_8), (0, .ref pz), (9, .long w9_3), (11, .int w11_4)]) hx hb dX2_solve_110 hl (by decide) rfl (fun ls hl => ?_)
          refine lv_lload hx hb dX2_solve_112 (lv_at hl 2 rfl) ?_
          refine lv_lstore (lv' := [(9, .long v18_11), (7, .long v16_10), (5, .long v14_9), (18, .long v18_11), (16, .long v16_10), (14, .long v14_9), (12, .long v12_8), (0, .ref pz), (11, .int w11_4)]) hx hb dX2_solve_114 hl (by decide) rfl (fun ls hl => ?_)
          obtain ⟨v11_12, ev11_12⟩ : ∃ y : Int32, y = w11_4 + 1 := ⟨_, rfl⟩
          replace hf := bnd_ok ev11_12 hf
          refine lv_iinc (v := v11_12) (lv' := [(11, .int v11_12), (9, .long v18_11), (7, .long v16_10), (5, .long v14_9), (18, .long v18_11), (16, .long v16_10), (14, .long v14_9), (12, .long v12_8), (0, .ref pz)]) hx hb dX2_solve_116 hl (k := 8) rfl (by rw [ev11_12]; rfl) (by decide) rfl (fun ls hl => ?_)
          refine lv_goto (tgt := 27) hx hb dX2_solve_119 (by decide) ?_
          exact ih27 v14_9 v16_10 v18_11 v11_12 w5_1 w7_2 w9_3 _ _ _ _ _ hf (hP.sub [0] rfl) (hD.sub [0] (by decide) rfl) hS (lv_sub hl [8, 3, 2, 1, 0] rfl) k27_0
  obtain ⟨res27, hL27_r, hf⟩ := ok_b hf
  refine hL27 F x3 0 1 0 x1 1 0 res27 _ _ _ _ hL27_r (hP.sub [0] rfl) (hD.sub [0] (by decide) rfl) hS (lv_sub hl [4, 3, 2, 1, 0] rfl) (fun y_zg_13 y_z1_14 y_z2_15 H locs ls hres hP hD hS hl => ?_)
  subst hres
  refine lv_aload_n hx hb dX2_solve_122 rfl (lv_at hl 0 rfl) ?_
  refine va_get (D := (dC, dI)) (ci := 2) (v := .long y_zg_13) (C := "ClassGroup$Bezout") (T := TX2) (N := 3) hx hb hts (fun w h => List.mem_cons_of_mem _ (iwX2 w h)) hown hK hP 0 rfl rfl 0 (by decide) (hts _ (List.mem_cons_of_mem _ kw_46)) (fun _ h9 => h9) rfl dX2_solve_123 ?_
  refine lv_lconst (v := 0) hx hb dX2_solve_126 (by decide) ?_
  refine W.lcmp hx hb dX2_solve_127 ?_
  refine lv_if_ge (tgt := 158) hx hb dX2_solve_128 (by decide) (fun c_128 => ?_) (fun c_128 => ?_)
  · have hf := ok_t c_128 hf
    have hP9 := hP.sub (ws' := [(pz, .inr (2, [.long y_zg_13, .long y_z1_14, .long y_z2_15]))]) [0] rfl
    have hD9 := hD.sub (ws' := [(pz, .inr (2, [.long y_zg_13, .long y_z1_14, .long y_z2_15]))]) [0] (by decide) rfl
    have hK9 := hK.sub (tys' := []) [] rfl
    exact W.vret hx hb hr (fun t ht hW => ⟨⟨(y_zg_13, y_z1_14, y_z2_15), rfl, (Option.some.inj hf), by rw [ht]; exact hP9, va_K.moved hW.alike hK9, hD9⟩, hS.F ht⟩) hS.2.2 dX2_solve_158
  · have hf := ok_f c_128 hf
    refine lv_aload_n hx hb dX2_solve_131 rfl (lv_at hl 0 rfl) ?_
    refine lv_aload_n hx hb dX2_solve_132 rfl (lv_at hl 0 rfl) ?_
    refine va_get (D := (dC, dI)) (ci := 2) (v := .long y_zg_13) (C := "ClassGroup$Bezout") (T := TX2) (N := 3) hx hb hts (fun w h => List.mem_cons_of_mem _ (iwX2 w h)) hown hK hP 0 rfl rfl 0 (by decide) (hts _ (List.mem_cons_of_mem _ kw_46)) (fun _ h9 => h9) rfl dX2_solve_133 ?_
    refine lv_lneg hx hb dX2_solve_136 ?_
    refine lv_topl (fun f_greatest_16 ef_greatest_16 => ?_)
    replace hf := bnd_ok ef_greatest_16 hf
    refine va_put (D := (dC, dI)) (ci := 2) (v := .long f_greatest_16) (ty := .long) (C := "ClassGroup$Bezout") (T := TX2) (N := 3) hx hb hts (fun w h => List.mem_cons_of_mem _ (iwX2 w h)) tyX2 tyokX2 nmX2 hown hK hP hD hS 0 rfl rfl 0 (by decide) (hts _ (List.mem_cons_of_mem _ kw_46)) (fun _ h9 => h9) rfl (by decide +kernel) rfl rfl (Nat.le_of_ble_eq_true rfl) dX2_solve_137 (fun H locs hP hD hS => ?_)
    have hP : va_P (dC, dI) vwCl [(pz, .inr (2, [.long f_greatest_16, .long y_z1_14, .long y_z2_15]))] H := hP
    have hD : va_D A [(pz, .inr (2, [.long f_greatest_16, .long y_z1_14, .long y_z2_15]))] := hD
    refine lv_aload_n hx hb dX2_solve_140 rfl (lv_at hl 0 rfl) ?_
    refine lv_aload_n hx hb dX2_solve_141 rfl (lv_at hl 0 rfl) ?_
    refine va_get (D := (dC, dI)) (ci := 2) (v := .long y_z1_14) (C := "ClassGroup$Bezout") (T := TX2) (N := 3) hx hb hts (fun w h => List.mem_cons_of_mem _ (iwX2 w h)) hown hK hP 0 rfl rfl 1 (by decide) (hts _ (List.mem_cons_of_mem _ kw_48)) (fun _ h9 => h9) rfl dX2_solve_142 ?_
    refine lv_lneg hx hb dX2_solve_145 ?_
    refine lv_topl (fun f_first_17 ef_first_17 => ?_)
    replace hf := bnd_ok ef_first_17 hf
    refine va_put (D := (dC, dI)) (ci := 2) (v := .long f_first_17) (ty := .long) (C := "ClassGroup$Bezout") (T := TX2) (N := 3) hx hb hts (fun w h => List.mem_cons_of_mem _ (iwX2 w h)) tyX2 tyokX2 nmX2 hown hK hP hD hS 0 rfl rfl 1 (by decide) (hts _ (List.mem_cons_of_mem _ kw_48)) (fun _ h9 => h9) rfl (by decide +kernel) rfl rfl (Nat.le_of_ble_eq_true rfl) dX2_solve_146 (fun H locs hP hD hS => ?_)
    have hP : va_P (dC, dI) vwCl [(pz, .inr (2, [.long f_greatest_16, .long f_first_17, .long y_z2_15]))] H := hP
    have hD : va_D A [(pz, .inr (2, [.long f_greatest_16, .long f_first_17, .long y_z2_15]))] := hD
    refine lv_aload_n hx hb dX2_solve_149 rfl (lv_at hl 0 rfl) ?_
    refine lv_aload_n hx hb dX2_solve_150 rfl (lv_at hl 0 rfl) ?_
    refine va_get (D := (dC, dI)) (ci := 2) (v := .long y_z2_15) (C := "ClassGroup$Bezout") (T := TX2) (N := 3) hx hb hts (fun w h => List.mem_cons_of_mem _ (iwX2 w h)) hown hK hP 0 rfl rfl 2 (by decide) (hts _ (List.mem_cons_of_mem _ kw_50)) (fun _ h9 => h9) rfl dX2_solve_151 ?_
    refine lv_lneg hx hb dX2_solve_154 ?_
    refine lv_topl (fun f_second_18 ef_second_18 => ?_)
    replace hf := bnd_ok ef_second_18 hf
    refine va_put (D := (dC, dI)) (ci := 2) (v := .long f_second_18) (ty := .long) (C := "ClassGroup$Bezout") (T := TX2) (N := 3) hx hb hts (fun w h => List.mem_cons_of_mem _ (iwX2 w h)) tyX2 tyokX2 nmX2 hown hK hP hD hS 0 rfl rfl 2 (by decide) (hts _ (List.mem_cons_of_mem _ kw_50)) (fun _ h9 => h9) rfl (by decide +kernel) rfl rfl (Nat.le_of_ble_eq_true rfl) dX2_solve_155 (fun H locs hP hD hS => ?_)
    have hP : va_P (dC, dI) vwCl [(pz, .inr (2, [.long f_greatest_16, .long f_first_17, .long f_second_18]))] H := hP
    have hD : va_D A [(pz, .inr (2, [.long f_greatest_16, .long f_first_17, .long f_second_18]))] := hD
    have hP9 := hP.sub (ws' := [(pz, .inr (2, [.long f_greatest_16, .long f_first_17, .long f_second_18]))]) [0] rfl
    have hD9 := hD.sub (ws' := [(pz, .inr (2, [.long f_greatest_16, .long f_first_17, .long f_second_18]))]) [0] (by decide) rfl
    have hK9 := hK.sub (tys' := []) [] rfl
    exact W.vret hx hb hr (fun t ht hW => ⟨⟨(f_greatest_16, f_first_17, f_second_18), rfl, (Option.some.inj hf), by rw [ht]; exact hP9, va_K.moved hW.alike hK9, hD9⟩, hS.F ht⟩) hS.2.2 dX2_solve_158

def f_isCoef (F : Nat) (x0 : Int32) : Option (Int32) := (if x0 < (-1073741824) then some 0 else (if (1073741824 : Int32) < x0 then some 0 else some 1))
set_option maxHeartbeats 4000000 in
set_option maxRecDepth 100000 in
theorem c_isCoef (l : Launch) (dC : Nat → ClassId) (dI : Nat → Nat → Nat) (x0 : Int32) (sz : Nat) (F : Nat) (out : Int32) (hf : f_isCoef F x0 = some out) : Met l yX0_isCoefficient wsX0_isCoefficient ({ frames := 0, cells := 0, slots := 0, locals := 0 }) (va_Pc [.int x0] (fun U => U.heap.size = sz ∧ va_P (dC, dI) vwCl [] U.heap ∧ va_K (dC, dI) vwCl [] U ∧ va_D (fun _ => True) [])) (va_Qi (fun (r : Int32) (u : Unit) => r = out) (fun (u : Unit) t => match u with | _ => va_P (dC, dI) vwCl [] t.heap ∧ va_K (dC, dI) vwCl [] t ∧ va_D (va_A [] sz) []) (va_A [] sz)) 0 0 (va_A [] sz) := by
  refine Met.ofW (cc := cX0_isCoefficient) (maxL := 1) (ret := (some .boolean)) (by decide +kernel) rfl ?_
  intro p e s m args below meth c s₁ B hml hv
  obtain ⟨rfl, hsz, hP, hK, hD0⟩ := hv
  have hx := B.exec
  have hb := B.bytes
  have hr := B.returns
  have hts := atoms_spec (ws := wsX0_isCoefficient) B.pre
  have hown : s.vm.findClass "ClassGroup" = some m.cls := findClass_of_methodNamed B.named
  have hlocks := B.notSynchronized
  subst hsz
  have hD := hD0.self (sz := s.heap.size)
  generalize hAe : va_A [] s.heap.size = A at hD ⊢
  have hA : ∀ q : Nat, s.heap.size ≤ q → A q := fun q h => by rw [← hAe]; exact Or.inr h
  have hS : va_S A s.heap s.heap [] := va_S.rf
  have hl := lv_entry ([.int x0]) (n := 1) (Nat.le_of_ble_eq_true rfl)
  rw [lg_entry_eq]
  generalize (lg_sl ([.int x0]) ++ List.replicate (1 - (lg_sl ([.int x0])).length) Slot.unset).toArray = ls at hl ⊢
  have hl : lv_has ls 1 [(0, .int x0)] := hl
  unfold f_isCoef at hf
  refine lv_iload_n hx hb dX0_isCoefficient_0 rfl (lv_at hl 0 rfl) ?_
  refine lv_ldc (v := (-1073741824)) hx hb hown (hts _ (List.mem_cons_of_mem _ kw_377)) dX0_isCoefficient_1 ?_
  refine lv_icmp_lt (tgt := 16) hx hb dX0_isCoefficient_3 (by decide) (fun c_3 => ?_) (fun c_3 => ?_)
  · have hf := ok_t c_3 hf
    refine lv_iconst (v := 0) hx hb dX0_isCoefficient_16 (by decide) ?_
    have hP9 := hP.sub (ws' := []) [] rfl
    have hD9 := hD.sub (ws' := []) [] (by decide) rfl
    have hK9 := hK.sub (tys' := []) [] rfl
    exact W.zret (v := 0) (ty := .boolean) hx hb hr rfl (fun t ht hW => ⟨⟨0, (), rfl, (Option.some.inj hf), by rw [ht]; exact hP9, va_K.moved hW.alike hK9, hD9⟩, hS.F ht⟩) hS.2.2 dX0_isCoefficient_17
  · have hf := ok_f c_3 hf
    refine lv_iload_n hx hb dX0_isCoefficient_6 rfl (lv_at hl 0 rfl) ?_
    refine lv_ldc (v := 1073741824) hx hb hown (hts _ (List.mem_cons_of_mem _ kw_378)) dX0_isCoefficient_7 ?_
    refine lv_icmp_gt (tgt := 16) hx hb dX0_isCoefficient_9 (by decide) (fun c_9 => ?_) (fun c_9 => ?_)
    · have hf := ok_t c_9 hf
      refine lv_iconst (v := 0) hx hb dX0_isCoefficient_16 (by decide) ?_
      have hP9 := hP.sub (ws' := []) [] rfl
      have hD9 := hD.sub (ws' := []) [] (by decide) rfl
      have hK9 := hK.sub (tys' := []) [] rfl
      exact W.zret (v := 0) (ty := .boolean) hx hb hr rfl (fun t ht hW => ⟨⟨0, (), rfl, (Option.some.inj hf), by rw [ht]; exact hP9, va_K.moved hW.alike hK9, hD9⟩, hS.F ht⟩) hS.2.2 dX0_isCoefficient_17
    · have hf := ok_f c_9 hf
      refine lv_iconst (v := 1) hx hb dX0_isCoefficient_12 (by decide) ?_
      refine lv_goto (tgt := 17) hx hb dX0_isCoefficient_13 (by decide) ?_
      have hP9 := hP.sub (ws' := []) [] rfl
      have hD9 := hD.sub (ws' := []) [] (by decide) rfl
      have hK9 := hK.sub (tys' := []) [] rfl
      exact W.zret (v := 1) (ty := .boolean) hx hb hr rfl (fun t ht hW => ⟨⟨1, (), rfl, (Option.some.inj hf), by rw [ht]; exact hP9, va_K.moved hW.alike hK9, hD9⟩, hS.F ht⟩) hS.2.2 dX0_isCoefficient_17

def f_gcd_L13 (F : Nat)  : Nat → Int32 → Int32 → Int32 → Option (Int32)
  | 0, _, _, _ => none
  | n13 + 1, w2_3, w3_4, w4_5 => (if (1000000 : Int32) ≤ w4_5 then some w2_3 else (if w3_4 = 0 then some w2_3 else (if ¬ w3_4 = 0 then bnd (w2_3 - w2_3 / w3_4 * w3_4) (fun v5_6 => bnd (w4_5 + 1) (fun v4_7 => f_gcd_L13 F n13 w3_4 v5_6 v4_7)) else none)))
def f_gcd (F : Nat) (x0 : Int32) (x1 : Int32) : Option (Int32) := Option.bind (f_absI F x0) (fun r_1 => Option.bind (f_absI F x1) (fun r_2 => Option.bind (f_gcd_L13 F F r_1 r_2 0) (fun x2_8 => some x2_8)))
set_option maxHeartbeats 4000000 in
set_option maxRecDepth 100000 in
theorem c_gcd (l : Launch) (dC : Nat → ClassId) (dI : Nat → Nat → Nat) (x0 : Int32) (x1 : Int32) (sz : Nat) (F : Nat) (out : Int32) (hf : f_gcd F x0 x1 = some out) : Met l yX0_greatestDivisor wsX0_greatestDivisor ({ frames := 1, cells := 0, slots := 0, locals := 20 }) (va_Pc [.int x0, .int x1] (fun U => U.heap.size = sz ∧ va_P (dC, dI) vwCl [] U.heap ∧ va_K (dC, dI) vwCl [] U ∧ va_D (fun _ => True) [])) (va_Qi (fun (r : Int32) (u : Unit) => r = out) (fun (u : Unit) t => match u with | _ => va_P (dC, dI) vwCl [] t.heap ∧ va_K (dC, dI) vwCl [] t ∧ va_D (va_A [] sz) []) (va_A [] sz)) 0 0 (va_A [] sz) := by
  refine Met.ofW (cc := cX0_greatestDivisor) (maxL := 6) (ret := (some .int)) (by decide +kernel) rfl ?_
  intro p e s m args below meth c s₁ B hml hv
  obtain ⟨rfl, hsz, hP, hK, hD0⟩ := hv
  have hx := B.exec
  have hb := B.bytes
  have hr := B.returns
  have hts := atoms_spec (ws := wsX0_greatestDivisor) B.pre
  have hown : s.vm.findClass "ClassGroup" = some m.cls := findClass_of_methodNamed B.named
  have hlocks := B.notSynchronized
  subst hsz
  have hD := hD0.self (sz := s.heap.size)
  generalize hAe : va_A [] s.heap.size = A at hD ⊢
  have hA : ∀ q : Nat, s.heap.size ≤ q → A q := fun q h => by rw [← hAe]; exact Or.inr h
  have hS : va_S A s.heap s.heap [] := va_S.rf
  have hl := lv_entry ([.int x0, .int x1]) (n := 6) (Nat.le_of_ble_eq_true rfl)
  rw [lg_entry_eq]
  generalize (lg_sl ([.int x0, .int x1]) ++ List.replicate (6 - (lg_sl ([.int x0, .int x1])).length) Slot.unset).toArray = ls at hl ⊢
  have hl : lv_has ls 6 [(0, .int x0), (1, .int x1)] := hl
  unfold f_gcd at hf
  refine lv_iload_n hx hb dX0_greatestDivisor_0 rfl (lv_at hl 0 rfl) ?_
  obtain ⟨xc1, hc1, hf⟩ := ok_b hf
  have hPc := hP.sub (ws' := []) [] rfl
  have hDc := hD.sub (ws' := []) [] (by decide) rfl
  have hKc := hK.sub (tys' := []) [] rfl
  have hFc := va_free (wc := []) hD hS hA [] rfl
  refine va_calli (va_runS (As := [.int x0]) (rest := []) ⟨hx, hb, hml, hown, hts⟩ (c_absI l dC dI x0 s.heap.size F xc1 hc1) (va_cwS 1 hts (gwS kw_84 kw_85 kw_4 kw_86) rfl rfl rfl (by decide +kernel) ⟨Nat.le_of_ble_eq_true rfl, Nat.le_of_ble_eq_true rfl⟩) ⟨fun a U g mk q => by obtain ⟨q0, q1, qP, qK, qD⟩ := q; exact ⟨q0, q1, qP, va_K.moved (u := U) (U := U.calling g mk a) (Vm.Alike.refl U.vm) qK, qD⟩, fun U hU hW => ⟨rfl, by rw [hU], by rw [hU]; exact hPc, va_K.moved hW.alike hKc, hDc.weaken (fun _ _ _ _ => trivial)⟩⟩ rfl rfl hl.1 rfl (lv_room (Nat.le_of_ble_eq_true rfl)) dX0_greatestDivisor_1 ⟨Nat.zero_le _, Nat.zero_le _⟩) hS (fun q _ h => hFc q h) hFc (fun r_1 u t H1 locs ht hvm hw hB hz1 hk1 hS => ?_)
  obtain ⟨⟩ := u
  obtain ⟨hP1, hK1, hD1⟩ := hB
  rw [ht] at hP1
  subst hw
  obtain ⟨hP, hD⟩ := va_join (wr := []) (w1 := []) hP hD [] [] rfl rfl (by decide) (by decide) hk1 hFc hP1 hD1
  generalize H1 = H at hP hS ⊢
  have hP : va_P (dC, dI) vwCl [] H := hP
  have hD : va_D A [] := hD
  refine lv_istore_n (lv' := [(2, .int r_1), (0, .int x0), (1, .int x1)]) hx hb dX0_greatestDivisor_4 rfl hl (by decide) rfl (fun ls hl => ?_)
  refine lv_iload_n hx hb dX0_greatestDivisor_5 rfl (lv_at hl 2 rfl) ?_
  obtain ⟨xc6, hc6, hf⟩ := ok_b hf
  have hPc := hP.sub (ws' := []) [] rfl
  have hDc := hD.sub (ws' := []) [] (by decide) rfl
  have hKc := hK.sub (tys' := []) [] rfl
  have hFc := va_free (wc := []) hD hS hA [] rfl
  refine va_calli (va_runS (As := [.int x1]) (rest := []) ⟨hx, hb, hml, hown, hts⟩ (c_absI l dC dI x1 H.size F xc6 hc6) (va_cwS 1 hts (gwS kw_84 kw_85 kw_4 kw_86) rfl rfl rfl (by decide +kernel) ⟨Nat.le_of_ble_eq_true rfl, Nat.le_of_ble_eq_true rfl⟩) ⟨fun a U g mk q => by obtain ⟨q0, q1, qP, qK, qD⟩ := q; exact ⟨q0, q1, qP, va_K.moved (u := U) (U := U.calling g mk a) (Vm.Alike.refl U.vm) qK, qD⟩, fun U hU hW => ⟨rfl, by rw [hU], by rw [hU]; exact hPc, va_K.moved hW.alike hKc, hDc.weaken (fun _ _ _ _ => trivial)⟩⟩ rfl rfl hl.1 rfl (lv_room (Nat.le_of_ble_eq_true rfl)) dX0_greatestDivisor_6 ⟨Nat.zero_le _, Nat.zero_le _⟩) hS (fun q _ h => hFc q h) hFc (fun r_2 u t H1 locs ht hvm hw hB hz1 hk1 hS => ?_)
  obtain ⟨⟩ := u
  obtain ⟨hP1, hK1, hD1⟩ := hB
  rw [ht] at hP1
  subst hw
  obtain ⟨hP, hD⟩ := va_join (wr := []) (w1 := []) hP hD [] [] rfl rfl (by decide) (by decide) hk1 hFc hP1 hD1
  generalize H1 = H at hP hS ⊢
  have hP : va_P (dC, dI) vwCl [] H := hP
  have hD : va_D A [] := hD
  refine lv_istore_n (lv' := [(3, .int r_2), (2, .int r_1), (0, .int x0), (1, .int x1)]) hx hb dX0_greatestDivisor_9 rfl hl (by decide) rfl (fun ls hl => ?_)
  refine lv_iconst (v := 0) hx hb dX0_greatestDivisor_10 (by decide) ?_
  refine lv_istore (lv' := [(4, .int 0), (3, .int r_2), (2, .int r_1), (0, .int x0), (1, .int x1)]) hx hb dX0_greatestDivisor_11 hl (by decide) rfl (fun ls hl => ?_)
  have hL13 : ∀ (n13 : Nat) (w2_3 : Int32) (w3_4 : Int32) (w4_5 : Int32) (res : Int32) (H : Heap) (locs : List Loc) (ls : Array Slot) (Q : State → Prop), f_gcd_L13 F n13 w2_3 w3_4 w4_5 = some res → va_P (dC, dI) vwCl [] H → va_D A [] → va_S A s.heap H locs → lv_has ls 6 [(2, .int w2_3), (3, .int w3_4), (4, .int w4_5)] → (∀ (x2_8 : Int32) (H : Heap) (locs : List Loc) (ls : Array Slot), x2_8 = res → va_P (dC, dI) vwCl [] H → va_D A [] → va_S A s.heap H locs → lv_has ls 6 [(2, .int x2_8)] → W p l e ((headSpec wsX0_greatestDivisor ({ frames := 1, cells := 0, slots := 0, locals := 20 })).room) s m ([.int x0, .int x1] : List Value).toArray below meth c H locs 0 0 Q (F0 m 40 ls [])) → W p l e ((headSpec wsX0_greatestDivisor ({ frames := 1, cells := 0, slots := 0, locals := 20 })).room) s m ([.int x0, .int x1] : List Value).toArray below meth c H locs 0 0 Q (F0 m 13 ls []) := by
    intro n13
    induction n13 with
    | zero => intro w2_3 w3_4 w4_5 res H locs ls Q hf; simp [f_gcd_L13] at hf
    | succ n13 ih13 =>
      intro w2_3 w3_4 w4_5 res H locs ls Q hf hP hD hS hl k13_0
      rw [f_gcd_L13] at hf
      refine lv_iload hx hb dX0_greatestDivisor_13 (lv_at hl 2 rfl) ?_
      refine lv_ldc (v := 1000000) hx hb hown (hts _ (List.mem_cons_of_mem _ kw_87)) dX0_greatestDivisor_15 ?_
      refine lv_icmp_ge (tgt := 40) hx hb dX0_greatestDivisor_17 (by decide) (fun c_17 => ?_) (fun c_17 => ?_)
      · have hf := ok_t c_17 hf
        exact k13_0 w2_3 _ _ _ (Option.some.inj hf) (hP.sub [] rfl) (hD.sub [] (by decide) rfl) hS (lv_sub hl [0] rfl)
      · have hf := ok_f c_17 hf
        refine lv_iload_n hx hb dX0_greatestDivisor_20 rfl (lv_at hl 1 rfl) ?_
        refine lv_if_eq (tgt := 40) hx hb dX0_greatestDivisor_21 (by decide) (fun c_21 => ?_) (fun c_21 => ?_)
        · have hf := ok_t c_21 hf
          exact k13_0 w2_3 _ _ _ (Option.some.inj hf) (hP.sub [] rfl) (hD.sub [] (by decide) rfl) hS (lv_sub hl [0] rfl)
        · have hf := ok_f c_21 hf
          refine lv_iload_n hx hb dX0_greatestDivisor_24 rfl (lv_at hl 0 rfl) ?_
          refine lv_iload_n hx hb dX0_greatestDivisor_25 rfl (lv_at hl 1 rfl) ?_
          obtain ⟨g_26, hf⟩ := ok_g hf
          refine lv_irem hx hb dX0_greatestDivisor_26 g_26 ?_
          refine lv_topi (fun v5_6 ev5_6 => ?_)
          replace hf := bnd_ok ev5_6 hf
          refine lv_istore (lv' := [(5, .int v5_6), (2, .int w2_3), (3, .int w3_4), (4, .int w4_5)]) hx hb dX0_greatestDivisor_27 hl (by decide) rfl (fun ls hl => ?_)
          refine lv_iload_n hx hb dX0_greatestDivisor_29 rfl (lv_at hl 2 rfl) ?_
          refine lv_istore_n (lv' := [(2, .int w3_4), (5, .int v5_6), (3, .int w3_4), (4, .int w4_5)]) hx hb dX0_greatestDivisor_30 rfl hl (by decide) rfl (fun ls hl => ?_)
          refine lv_iload hx hb dX0_greatestDivisor_31 (lv_at hl 1 rfl) ?_
          refine lv_istore_n (lv' := [(3, .int v5_6), (2, .int w3_4), (5, .int v5_6), (4, .int w4_5)]) hx hb dX0_greatestDivisor_33 rfl hl (by decide) rfl (fun ls hl => ?_)
          obtain ⟨v4_7, ev4_7⟩ : ∃ y : Int32, y = w4_5 + 1 := ⟨_, rfl⟩
          replace hf := bnd_ok ev4_7 hf
          refine lv_iinc (v := v4_7) (lv' := [(4, .int v4_7), (3, .int v5_6), (2, .int w3_4), (5, .int v5_6)]) hx hb dX0_greatestDivisor_34 hl (k := 3) rfl (by rw [ev4_7]; rfl) (by decide) rfl (fun ls hl => ?_)
          refine lv_goto (tgt := 13) hx hb dX0_greatestDivisor_37 (by decide) ?_
          exact ih13 w3_4 v5_6 v4_7 _ _ _ _ _ hf (hP.sub [] rfl) (hD.sub [] (by decide) rfl) hS (lv_sub hl [2, 1, 0] rfl) k13_0
  obtain ⟨res13, hL13_r, hf⟩ := ok_b hf
  refine hL13 F r_1 r_2 0 res13 _ _ _ _ hL13_r (hP.sub [] rfl) (hD.sub [] (by decide) rfl) hS (lv_sub hl [2, 1, 0] rfl) (fun x2_8 H locs ls hres hP hD hS hl => ?_)
  subst hres
  refine lv_iload_n hx hb dX0_greatestDivisor_40 rfl (lv_at hl 0 rfl) ?_
  have hP9 := hP.sub (ws' := []) [] rfl
  have hD9 := hD.sub (ws' := []) [] (by decide) rfl
  have hK9 := hK.sub (tys' := []) [] rfl
  exact W.iret (v := x2_8) hx hb hr (fun t ht hW => ⟨⟨x2_8, (), rfl, (Option.some.inj hf), by rw [ht]; exact hP9, va_K.moved hW.alike hK9, hD9⟩, hS.F ht⟩) hS.2.2 dX0_greatestDivisor_41

def f_isPrim (F : Nat) (x0 : Int32) (x1 : Int32) (x2 : Int32) : Option (Int32) := Option.bind (f_gcd F x0 x1) (fun r_1 => Option.bind (f_gcd F r_1 x2) (fun r_2 => (if r_2 = 1 then some 1 else some 0)))
set_option maxHeartbeats 4000000 in
set_option maxRecDepth 100000 in
theorem c_isPrim (l : Launch) (dC : Nat → ClassId) (dI : Nat → Nat → Nat) (x0 : Int32) (x1 : Int32) (x2 : Int32) (sz : Nat) (F : Nat) (out : Int32) (hf : f_isPrim F x0 x1 x2 = some out) : Met l yX0_isPrimitive wsX0_isPrimitive ({ frames := 2, cells := 0, slots := 0, locals := 45 }) (va_Pc [.int x0, .int x1, .int x2] (fun U => U.heap.size = sz ∧ va_P (dC, dI) vwCl [] U.heap ∧ va_K (dC, dI) vwCl [] U ∧ va_D (fun _ => True) [])) (va_Qi (fun (r : Int32) (u : Unit) => r = out) (fun (u : Unit) t => match u with | _ => va_P (dC, dI) vwCl [] t.heap ∧ va_K (dC, dI) vwCl [] t ∧ va_D (va_A [] sz) []) (va_A [] sz)) 0 0 (va_A [] sz) := by
  refine Met.ofW (cc := cX0_isPrimitive) (maxL := 3) (ret := (some .boolean)) (by decide +kernel) rfl ?_
  intro p e s m args below meth c s₁ B hml hv
  obtain ⟨rfl, hsz, hP, hK, hD0⟩ := hv
  have hx := B.exec
  have hb := B.bytes
  have hr := B.returns
  have hts := atoms_spec (ws := wsX0_isPrimitive) B.pre
  have hown : s.vm.findClass "ClassGroup" = some m.cls := findClass_of_methodNamed B.named
  have hlocks := B.notSynchronized
  subst hsz
  have hD := hD0.self (sz := s.heap.size)
  generalize hAe : va_A [] s.heap.size = A at hD ⊢
  have hA : ∀ q : Nat, s.heap.size ≤ q → A q := fun q h => by rw [← hAe]; exact Or.inr h
  have hS : va_S A s.heap s.heap [] := va_S.rf
  have hl := lv_entry ([.int x0, .int x1, .int x2]) (n := 3) (Nat.le_of_ble_eq_true rfl)
  rw [lg_entry_eq]
  generalize (lg_sl ([.int x0, .int x1, .int x2]) ++ List.replicate (3 - (lg_sl ([.int x0, .int x1, .int x2])).length) Slot.unset).toArray = ls at hl ⊢
  have hl : lv_has ls 3 [(0, .int x0), (1, .int x1), (2, .int x2)] := hl
  unfold f_isPrim at hf
  refine lv_iload_n hx hb dX0_isPrimitive_0 rfl (lv_at hl 0 rfl) ?_
  refine lv_iload_n hx hb dX0_isPrimitive_1 rfl (lv_at hl 1 rfl) ?_
  obtain ⟨xc2, hc2, hf⟩ := ok_b hf
  have hPc := hP.sub (ws' := []) [] rfl
  have hDc := hD.sub (ws' := []) [] (by decide) rfl
  have hKc := hK.sub (tys' := []) [] rfl
  have hFc := va_free (wc := []) hD hS hA [] rfl
  refine va_calli (va_runS (As := [.int x0, .int x1]) (rest := []) ⟨hx, hb, hml, hown, hts⟩ (c_gcd l dC dI x0 x1 s.heap.size F xc2 hc2) (va_cwS 2 hts (gwS kw_81 kw_82 kw_1 kw_83) rfl rfl rfl (by decide +kernel) ⟨Nat.le_of_ble_eq_true rfl, Nat.le_of_ble_eq_true rfl⟩) ⟨fun a U g mk q => by obtain ⟨q0, q1, qP, qK, qD⟩ := q; exact ⟨q0, q1, qP, va_K.moved (u := U) (U := U.calling g mk a) (Vm.Alike.refl U.vm) qK, qD⟩, fun U hU hW => ⟨rfl, by rw [hU], by rw [hU]; exact hPc, va_K.moved hW.alike hKc, hDc.weaken (fun _ _ _ _ => trivial)⟩⟩ rfl rfl hl.1 rfl (lv_room (Nat.le_of_ble_eq_true rfl)) dX0_isPrimitive_2 ⟨Nat.zero_le _, Nat.zero_le _⟩) hS (fun q _ h => hFc q h) hFc (fun r_1 u t H1 locs ht hvm hw hB hz1 hk1 hS => ?_)
  obtain ⟨⟩ := u
  obtain ⟨hP1, hK1, hD1⟩ := hB
  rw [ht] at hP1
  subst hw
  obtain ⟨hP, hD⟩ := va_join (wr := []) (w1 := []) hP hD [] [] rfl rfl (by decide) (by decide) hk1 hFc hP1 hD1
  generalize H1 = H at hP hS ⊢
  have hP : va_P (dC, dI) vwCl [] H := hP
  have hD : va_D A [] := hD
  refine lv_iload_n hx hb dX0_isPrimitive_5 rfl (lv_at hl 2 rfl) ?_
  obtain ⟨xc6, hc6, hf⟩ := ok_b hf
  have hPc := hP.sub (ws' := []) [] rfl
  have hDc := hD.sub (ws' := []) [] (by decide) rfl
  have hKc := hK.sub (tys' := []) [] rfl
  have hFc := va_free (wc := []) hD hS hA [] rfl
  refine va_calli (va_runS (As := [.int r_1, .int x2]) (rest := []) ⟨hx, hb, hml, hown, hts⟩ (c_gcd l dC dI r_1 x2 H.size F xc6 hc6) (va_cwS 2 hts (gwS kw_81 kw_82 kw_1 kw_83) rfl rfl rfl (by decide +kernel) ⟨Nat.le_of_ble_eq_true rfl, Nat.le_of_ble_eq_true rfl⟩) ⟨fun a U g mk q => by obtain ⟨q0, q1, qP, qK, qD⟩ := q; exact ⟨q0, q1, qP, va_K.moved (u := U) (U := U.calling g mk a) (Vm.Alike.refl U.vm) qK, qD⟩, fun U hU hW => ⟨rfl, by rw [hU], by rw [hU]; exact hPc, va_K.moved hW.alike hKc, hDc.weaken (fun _ _ _ _ => trivial)⟩⟩ rfl rfl hl.1 rfl (lv_room (Nat.le_of_ble_eq_true rfl)) dX0_isPrimitive_6 ⟨Nat.zero_le _, Nat.zero_le _⟩) hS (fun q _ h => hFc q h) hFc (fun r_2 u t H1 locs ht hvm hw hB hz1 hk1 hS => ?_)
  obtain ⟨⟩ := u
  obtain ⟨hP1, hK1, hD1⟩ := hB
  rw [ht] at hP1
  subst hw
  obtain ⟨hP, hD⟩ := va_join (wr := []) (w1 := []) hP hD [] [] rfl rfl (by decide) (by decide) hk1 hFc hP1 hD1
  generalize H1 = H at hP hS ⊢
  have hP : va_P (dC, dI) vwCl [] H := hP
  have hD : va_D A [] := hD
  refine lv_iconst (v := 1) hx hb dX0_isPrimitive_9 (by decide) ?_
  refine lv_icmp_ne (tgt := 17) hx hb dX0_isPrimitive_10 (by decide) (fun c_10 => ?_) (fun c_10 => ?_)
  · have hf := ok_f c_10 hf
    refine lv_iconst (v := 0) hx hb dX0_isPrimitive_17 (by decide) ?_
    have hP9 := hP.sub (ws' := []) [] rfl
    have hD9 := hD.sub (ws' := []) [] (by decide) rfl
    have hK9 := hK.sub (tys' := []) [] rfl
    exact W.zret (v := 0) (ty := .boolean) hx hb hr rfl (fun t ht hW => ⟨⟨0, (), rfl, (Option.some.inj hf), by rw [ht]; exact hP9, va_K.moved hW.alike hK9, hD9⟩, hS.F ht⟩) hS.2.2 dX0_isPrimitive_18
  · have hf := ok_t c_10 hf
    refine lv_iconst (v := 1) hx hb dX0_isPrimitive_13 (by decide) ?_
    refine lv_goto (tgt := 18) hx hb dX0_isPrimitive_14 (by decide) ?_
    have hP9 := hP.sub (ws' := []) [] rfl
    have hD9 := hD.sub (ws' := []) [] (by decide) rfl
    have hK9 := hK.sub (tys' := []) [] rfl
    exact W.zret (v := 1) (ty := .boolean) hx hb hr rfl (fun t ht hW => ⟨⟨1, (), rfl, (Option.some.inj hf), by rw [ht]; exact hP9, va_K.moved hW.alike hK9, hD9⟩, hS.F ht⟩) hS.2.2 dX0_isPrimitive_18

def f_rootOf_L6 (F : Nat) (x0 : Int32) : Nat → Int32 → Int32 → Option (Int32)
  | 0, _, _ => none
  | n6 + 1, w1_1, w2_2 => (if w2_2 ≤ 0 then some w1_1 else (if x0 < ((w1_1 + w2_2) * (w1_1 + w2_2)) then bnd (w2_2 >>> (1 &&& 31)) (fun v2_3 => f_rootOf_L6 F x0 n6 w1_1 v2_3) else bnd (w1_1 + w2_2) (fun v1_4 => bnd (w2_2 >>> (1 &&& 31)) (fun v2_5 => f_rootOf_L6 F x0 n6 v1_4 v2_5))))
def f_rootOf (F : Nat) (x0 : Int32) : Option (Int32) := Option.bind (f_rootOf_L6 F x0 F 0 1024) (fun x1_6 => some x1_6)
set_option maxHeartbeats 4000000 in
set_option maxRecDepth 100000 in
theorem c_rootOf (l : Launch) (dC : Nat → ClassId) (dI : Nat → Nat → Nat) (x0 : Int32) (sz : Nat) (F : Nat) (out : Int32) (hf : f_rootOf F x0 = some out) : Met l yX0_rootOf wsX0_rootOf ({ frames := 0, cells := 0, slots := 0, locals := 0 }) (va_Pc [.int x0] (fun U => U.heap.size = sz ∧ va_P (dC, dI) vwCl [] U.heap ∧ va_K (dC, dI) vwCl [] U ∧ va_D (fun _ => True) [])) (va_Qi (fun (r : Int32) (u : Unit) => r = out) (fun (u : Unit) t => match u with | _ => va_P (dC, dI) vwCl [] t.heap ∧ va_K (dC, dI) vwCl [] t ∧ va_D (va_A [] sz) []) (va_A [] sz)) 0 0 (va_A [] sz) := by
  refine Met.ofW (cc := cX0_rootOf) (maxL := 3) (ret := (some .int)) (by decide +kernel) rfl ?_
  intro p e s m args below meth c s₁ B hml hv
  obtain ⟨rfl, hsz, hP, hK, hD0⟩ := hv
  have hx := B.exec
  have hb := B.bytes
  have hr := B.returns
  have hts := atoms_spec (ws := wsX0_rootOf) B.pre
  have hown : s.vm.findClass "ClassGroup" = some m.cls := findClass_of_methodNamed B.named
  have hlocks := B.notSynchronized
  subst hsz
  have hD := hD0.self (sz := s.heap.size)
  generalize hAe : va_A [] s.heap.size = A at hD ⊢
  have hA : ∀ q : Nat, s.heap.size ≤ q → A q := fun q h => by rw [← hAe]; exact Or.inr h
  have hS : va_S A s.heap s.heap [] := va_S.rf
  have hl := lv_entry ([.int x0]) (n := 3) (Nat.le_of_ble_eq_true rfl)
  rw [lg_entry_eq]
  generalize (lg_sl ([.int x0]) ++ List.replicate (3 - (lg_sl ([.int x0])).length) Slot.unset).toArray = ls at hl ⊢
  have hl : lv_has ls 3 [(0, .int x0)] := hl
  unfold f_rootOf at hf
  refine lv_iconst (v := 0) hx hb dX0_rootOf_0 (by decide) ?_
  refine lv_istore_n (lv' := [(1, .int 0), (0, .int x0)]) hx hb dX0_rootOf_1 rfl hl (by decide) rfl (fun ls hl => ?_)
  refine lv_sipush (v := 1024) hx hb dX0_rootOf_2 (by decide) ?_
  refine lv_istore_n (lv' := [(2, .int 1024), (1, .int 0), (0, .int x0)]) hx hb dX0_rootOf_5 rfl hl (by decide) rfl (fun ls hl => ?_)
  have hL6 : ∀ (n6 : Nat) (w1_1 : Int32) (w2_2 : Int32) (res : Int32) (H : Heap) (locs : List Loc) (ls : Array Slot) (Q : State → Prop), f_rootOf_L6 F x0 n6 w1_1 w2_2 = some res → va_P (dC, dI) vwCl [] H → va_D A [] → va_S A s.heap H locs → lv_has ls 3 [(0, .int x0), (1, .int w1_1), (2, .int w2_2)] → (∀ (x1_6 : Int32) (H : Heap) (locs : List Loc) (ls : Array Slot), x1_6 = res → va_P (dC, dI) vwCl [] H → va_D A [] → va_S A s.heap H locs → lv_has ls 3 [(1, .int x1_6)] → W p l e ((headSpec wsX0_rootOf ({ frames := 0, cells := 0, slots := 0, locals := 0 })).room) s m ([.int x0] : List Value).toArray below meth c H locs 0 0 Q (F0 m 32 ls [])) → W p l e ((headSpec wsX0_rootOf ({ frames := 0, cells := 0, slots := 0, locals := 0 })).room) s m ([.int x0] : List Value).toArray below meth c H locs 0 0 Q (F0 m 6 ls []) := by
    intro n6
    induction n6 with
    | zero => intro w1_1 w2_2 res H locs ls Q hf; simp [f_rootOf_L6] at hf
    | succ n6 ih6 =>
      intro w1_1 w2_2 res H locs ls Q hf hP hD hS hl k6_0
      rw [f_rootOf_L6] at hf
      refine lv_iload_n hx hb dX0_rootOf_6 rfl (lv_at hl 2 rfl) ?_
      refine lv_if_le (tgt := 32) hx hb dX0_rootOf_7 (by decide) (fun c_7 => ?_) (fun c_7 => ?_)
      · have hf := ok_t c_7 hf
        exact k6_0 w1_1 _ _ _ (Option.some.inj hf) (hP.sub [] rfl) (hD.sub [] (by decide) rfl) hS (lv_sub hl [1] rfl)
      · have hf := ok_f c_7 hf
        refine lv_iload_n hx hb dX0_rootOf_10 rfl (lv_at hl 1 rfl) ?_
        refine lv_iload_n hx hb dX0_rootOf_11 rfl (lv_at hl 2 rfl) ?_
        refine lv_iadd hx hb dX0_rootOf_12 ?_
        refine lv_iload_n hx hb dX0_rootOf_13 rfl (lv_at hl 1 rfl) ?_
        refine lv_iload_n hx hb dX0_rootOf_14 rfl (lv_at hl 2 rfl) ?_
        refine lv_iadd hx hb dX0_rootOf_15 ?_
        refine lv_imul hx hb dX0_rootOf_16 ?_
        refine lv_iload_n hx hb dX0_rootOf_17 rfl (lv_at hl 0 rfl) ?_
        refine lv_icmp_gt (tgt := 25) hx hb dX0_rootOf_18 (by decide) (fun c_18 => ?_) (fun c_18 => ?_)
        · have hf := ok_t c_18 hf
          refine lv_iload_n hx hb dX0_rootOf_25 rfl (lv_at hl 2 rfl) ?_
          refine lv_iconst (v := 1) hx hb dX0_rootOf_26 (by decide) ?_
          refine lv_ishr hx hb dX0_rootOf_27 ?_
          refine lv_topi (fun v2_3 ev2_3 => ?_)
          replace hf := bnd_ok ev2_3 hf
          refine lv_istore_n (lv' := [(2, .int v2_3), (0, .int x0), (1, .int w1_1)]) hx hb dX0_rootOf_28 rfl hl (by decide) rfl (fun ls hl => ?_)
          refine lv_goto (tgt := 6) hx hb dX0_rootOf_29 (by decide) ?_
          exact ih6 w1_1 v2_3 _ _ _ _ _ hf (hP.sub [] rfl) (hD.sub [] (by decide) rfl) hS (lv_sub hl [1, 2, 0] rfl) k6_0
        · have hf := ok_f c_18 hf
          refine lv_iload_n hx hb dX0_rootOf_21 rfl (lv_at hl 1 rfl) ?_
          refine lv_iload_n hx hb dX0_rootOf_22 rfl (lv_at hl 2 rfl) ?_
          refine lv_iadd hx hb dX0_rootOf_23 ?_
          refine lv_topi (fun v1_4 ev1_4 => ?_)
          replace hf := bnd_ok ev1_4 hf
          refine lv_istore_n (lv' := [(1, .int v1_4), (0, .int x0), (2, .int w2_2)]) hx hb dX0_rootOf_24 rfl hl (by decide) rfl (fun ls hl => ?_)
          refine lv_iload_n hx hb dX0_rootOf_25 rfl (lv_at hl 2 rfl) ?_
          refine lv_iconst (v := 1) hx hb dX0_rootOf_26 (by decide) ?_
          refine lv_ishr hx hb dX0_rootOf_27 ?_
          refine lv_topi (fun v2_5 ev2_5 => ?_)
          replace hf := bnd_ok ev2_5 hf
          refine lv_istore_n (lv' := [(2, .int v2_5), (1, .int v1_4), (0, .int x0)]) hx hb dX0_rootOf_28 rfl hl (by decide) rfl (fun ls hl => ?_)
          refine lv_goto (tgt := 6) hx hb dX0_rootOf_29 (by decide) ?_
          exact ih6 v1_4 v2_5 _ _ _ _ _ hf (hP.sub [] rfl) (hD.sub [] (by decide) rfl) hS (lv_sub hl [2, 1, 0] rfl) k6_0
  obtain ⟨res6, hL6_r, hf⟩ := ok_b hf
  refine hL6 F 0 1024 res6 _ _ _ _ hL6_r (hP.sub [] rfl) (hD.sub [] (by decide) rfl) hS (lv_sub hl [2, 1, 0] rfl) (fun x1_6 H locs ls hres hP hD hS hl => ?_)
  subst hres
  refine lv_iload_n hx hb dX0_rootOf_32 rfl (lv_at hl 0 rfl) ?_
  have hP9 := hP.sub (ws' := []) [] rfl
  have hD9 := hD.sub (ws' := []) [] (by decide) rfl
  have hK9 := hK.sub (tys' := []) [] rfl
  exact W.iret (v := x1_6) hx hb hr (fun t ht hW => ⟨⟨x1_6, (), rfl, (Option.some.inj hf), by rw [ht]; exact hP9, va_K.moved hW.alike hK9, hD9⟩, hS.F ht⟩) hS.2.2 dX0_rootOf_33

def f_isClass (F : Nat) (cl : Int32) (x1 : Int32) : Option (Int32) := (if x1 < 0 then some 0 else (if cl ≤ x1 then some 0 else some 1))
set_option maxHeartbeats 4000000 in
set_option maxRecDepth 100000 in
theorem c_isClass (l : Launch) (dC : Nat → ClassId) (dI : Nat → Nat → Nat) (ph : Nat) (dd : Int32) (rt : Int32) (cl : Int32) (rf : Int32) (pr : Int32) (pn : Nat) (gk : Int32) (go : Int32) (gc : Int32) (pg : Nat) (ps : Nat) (po : Nat) (pc : Nat) (pe : Nat) (p1 : Nat) (p2 : Nat) (pz : Nat) (x1 : Int32) (sz : Nat) (F : Nat) (out : Int32) (hf : f_isClass F cl x1 = some out) : Met l yX0_isClass wsX0_isClass ({ frames := 0, cells := 0, slots := 0, locals := 0 }) (va_Pc [.ref ph, .int x1] (fun U => U.heap.size = sz ∧ va_P (dC, dI) vwCl [(ph, .inr (0, [.int dd, .int rt, .int cl, .int rf, .int pr, .ref pn, .int gk, .int go, .int gc, .ref pg, .ref ps, .ref po, .ref pc, .ref pe, .ref p1, .ref p2, .ref pz]))] U.heap ∧ va_K (dC, dI) vwCl [] U ∧ va_D (fun _ => True) [(ph, .inr (0, [.int dd, .int rt, .int cl, .int rf, .int pr, .ref pn, .int gk, .int go, .int gc, .ref pg, .ref ps, .ref po, .ref pc, .ref pe, .ref p1, .ref p2, .ref pz]))])) (va_Qi (fun (r : Int32) (u : Unit) => r = out) (fun (u : Unit) t => match u with | _ => va_P (dC, dI) vwCl [(ph, .inr (0, [.int dd, .int rt, .int cl, .int rf, .int pr, .ref pn, .int gk, .int go, .int gc, .ref pg, .ref ps, .ref po, .ref pc, .ref pe, .ref p1, .ref p2, .ref pz]))] t.heap ∧ va_K (dC, dI) vwCl [] t ∧ va_D (va_A [(ph, .inr (0, [.int dd, .int rt, .int cl, .int rf, .int pr, .ref pn, .int gk, .int go, .int gc, .ref pg, .ref ps, .ref po, .ref pc, .ref pe, .ref p1, .ref p2, .ref pz]))] sz) [(ph, .inr (0, [.int dd, .int rt, .int cl, .int rf, .int pr, .ref pn, .int gk, .int go, .int gc, .ref pg, .ref ps, .ref po, .ref pc, .ref pe, .ref p1, .ref p2, .ref pz]))]) (va_A [(ph, .inr (0, [.int dd, .int rt, .int cl, .int rf, .int pr, .ref pn, .int gk, .int go, .int gc, .ref pg, .ref ps, .ref po, .ref pc, .ref pe, .ref p1, .ref p2, .ref pz]))] sz)) 0 0 (va_A [(ph, .inr (0, [.int dd, .int rt, .int cl, .int rf, .int pr, .ref pn, .int gk, .int go, .int gc, .ref pg, .ref ps, .ref po, .ref pc, .ref pe, .ref p1, .ref p2, .ref pz]))] sz) := by
  refine Met.ofW (cc := cX0_isClass) (maxL := 2) (ret := (some .boolean)) (by decide +kernel) rfl ?_
  intro p e s m args below meth c s₁ B hml hv
  obtain ⟨rfl, hsz, hP, hK, hD0⟩ := hv
  have hx := B.exec
  have hb := B.bytes
  have hr := B.returns
  have hts := atoms_spec (ws := wsX0_isClass) B.pre
  have hown : s.vm.findClass "ClassGroup" = some m.cls := findClass_of_methodNamed B.named
  have hlocks := B.notSynchronized
  subst hsz
  have hD := hD0.self (sz := s.heap.size)
  generalize hAe : va_A [(ph, .inr (0, [.int dd, .int rt, .int cl, .int rf, .int pr, .ref pn, .int gk, .int go, .int gc, .ref pg, .ref ps, .ref po, .ref pc, .ref pe, .ref p1, .ref p2, .ref pz]))] s.heap.size = A at hD ⊢
  have hA : ∀ q : Nat, s.heap.size ≤ q → A q := fun q h => by rw [← hAe]; exact Or.inr h
  have hS : va_S A s.heap s.heap [] := va_S.rf
  have hl := lv_entry ([.ref ph, .int x1]) (n := 2) (Nat.le_of_ble_eq_true rfl)
  rw [lg_entry_eq]
  generalize (lg_sl ([.ref ph, .int x1]) ++ List.replicate (2 - (lg_sl ([.ref ph, .int x1])).length) Slot.unset).toArray = ls at hl ⊢
  have hl : lv_has ls 2 [(0, .ref ph), (1, .int x1)] := hl
  unfold f_isClass at hf
  refine lv_iload_n hx hb dX0_isClass_0 rfl (lv_at hl 1 rfl) ?_
  refine lv_if_lt (tgt := 16) hx hb dX0_isClass_1 (by decide) (fun c_1 => ?_) (fun c_1 => ?_)
  · have hf := ok_t c_1 hf
    refine lv_iconst (v := 0) hx hb dX0_isClass_16 (by decide) ?_
    have hP9 := hP.sub (ws' := [(ph, .inr (0, [.int dd, .int rt, .int cl, .int rf, .int pr, .ref pn, .int gk, .int go, .int gc, .ref pg, .ref ps, .ref po, .ref pc, .ref pe, .ref p1, .ref p2, .ref pz]))]) [0] rfl
    have hD9 := hD.sub (ws' := [(ph, .inr (0, [.int dd, .int rt, .int cl, .int rf, .int pr, .ref pn, .int gk, .int go, .int gc, .ref pg, .ref ps, .ref po, .ref pc, .ref pe, .ref p1, .ref p2, .ref pz]))]) [0] (by decide) rfl
    have hK9 := hK.sub (tys' := []) [] rfl
    exact W.zret (v := 0) (ty := .boolean) hx hb hr rfl (fun t ht hW => ⟨⟨0, (), rfl, (Option.some.inj hf), by rw [ht]; exact hP9, va_K.moved hW.alike hK9, hD9⟩, hS.F ht⟩) hS.2.2 dX0_isClass_17
  · have hf := ok_f c_1 hf
    refine lv_iload_n hx hb dX0_isClass_4 rfl (lv_at hl 1 rfl) ?_
    refine lv_aload_n hx hb dX0_isClass_5 rfl (lv_at hl 0 rfl) ?_
    refine va_get (D := (dC, dI)) (ci := 0) (v := .int cl) (C := "ClassGroup") (T := TX0) (N := 17) hx hb hts (fun w h => List.mem_cons_of_mem _ (iwX0 w h)) hown hK hP 0 rfl rfl 2 (by decide) (hts _ (List.mem_cons_of_mem _ kw_152)) (fun _ h9 => h9) rfl dX0_isClass_6 ?_
    refine lv_icmp_ge (tgt := 16) hx hb dX0_isClass_9 (by decide) (fun c_9 => ?_) (fun c_9 => ?_)
    · have hf := ok_t c_9 hf
      refine lv_iconst (v := 0) hx hb dX0_isClass_16 (by decide) ?_
      have hP9 := hP.sub (ws' := [(ph, .inr (0, [.int dd, .int rt, .int cl, .int rf, .int pr, .ref pn, .int gk, .int go, .int gc, .ref pg, .ref ps, .ref po, .ref pc, .ref pe, .ref p1, .ref p2, .ref pz]))]) [0] rfl
      have hD9 := hD.sub (ws' := [(ph, .inr (0, [.int dd, .int rt, .int cl, .int rf, .int pr, .ref pn, .int gk, .int go, .int gc, .ref pg, .ref ps, .ref po, .ref pc, .ref pe, .ref p1, .ref p2, .ref pz]))]) [0] (by decide) rfl
      have hK9 := hK.sub (tys' := []) [] rfl
      exact W.zret (v := 0) (ty := .boolean) hx hb hr rfl (fun t ht hW => ⟨⟨0, (), rfl, (Option.some.inj hf), by rw [ht]; exact hP9, va_K.moved hW.alike hK9, hD9⟩, hS.F ht⟩) hS.2.2 dX0_isClass_17
    · have hf := ok_f c_9 hf
      refine lv_iconst (v := 1) hx hb dX0_isClass_12 (by decide) ?_
      refine lv_goto (tgt := 17) hx hb dX0_isClass_13 (by decide) ?_
      have hP9 := hP.sub (ws' := [(ph, .inr (0, [.int dd, .int rt, .int cl, .int rf, .int pr, .ref pn, .int gk, .int go, .int gc, .ref pg, .ref ps, .ref po, .ref pc, .ref pe, .ref p1, .ref p2, .ref pz]))]) [0] rfl
      have hD9 := hD.sub (ws' := [(ph, .inr (0, [.int dd, .int rt, .int cl, .int rf, .int pr, .ref pn, .int gk, .int go, .int gc, .ref pg, .ref ps, .ref po, .ref pc, .ref pe, .ref p1, .ref p2, .ref pz]))]) [0] (by decide) rfl
      have hK9 := hK.sub (tys' := []) [] rfl
      exact W.zret (v := 1) (ty := .boolean) hx hb hr rfl (fun t ht hW => ⟨⟨1, (), rfl, (Option.some.inj hf), by rw [ht]; exact hP9, va_K.moved hW.alike hK9, hD9⟩, hS.F ht⟩) hS.2.2 dX0_isClass_17

def f_isGen (F : Nat) (gc : Int32) (x1 : Int32) : Option (Int32) := (if x1 < 0 then some 0 else (if gc ≤ x1 then some 0 else some 1))
set_option maxHeartbeats 4000000 in
set_option maxRecDepth 100000 in
theorem c_isGen (l : Launch) (dC : Nat → ClassId) (dI : Nat → Nat → Nat) (ph : Nat) (dd : Int32) (rt : Int32) (cl : Int32) (rf : Int32) (pr : Int32) (pn : Nat) (gk : Int32) (go : Int32) (gc : Int32) (pg : Nat) (ps : Nat) (po : Nat) (pc : Nat) (pe : Nat) (p1 : Nat) (p2 : Nat) (pz : Nat) (x1 : Int32) (sz : Nat) (F : Nat) (out : Int32) (hf : f_isGen F gc x1 = some out) : Met l yX0_isGenerator wsX0_isGenerator ({ frames := 0, cells := 0, slots := 0, locals := 0 }) (va_Pc [.ref ph, .int x1] (fun U => U.heap.size = sz ∧ va_P (dC, dI) vwCl [(ph, .inr (0, [.int dd, .int rt, .int cl, .int rf, .int pr, .ref pn, .int gk, .int go, .int gc, .ref pg, .ref ps, .ref po, .ref pc, .ref pe, .ref p1, .ref p2, .ref pz]))] U.heap ∧ va_K (dC, dI) vwCl [] U ∧ va_D (fun _ => True) [(ph, .inr (0, [.int dd, .int rt, .int cl, .int rf, .int pr, .ref pn, .int gk, .int go, .int gc, .ref pg, .ref ps, .ref po, .ref pc, .ref pe, .ref p1, .ref p2, .ref pz]))])) (va_Qi (fun (r : Int32) (u : Unit) => r = out) (fun (u : Unit) t => match u with | _ => va_P (dC, dI) vwCl [(ph, .inr (0, [.int dd, .int rt, .int cl, .int rf, .int pr, .ref pn, .int gk, .int go, .int gc, .ref pg, .ref ps, .ref po, .ref pc, .ref pe, .ref p1, .ref p2, .ref pz]))] t.heap ∧ va_K (dC, dI) vwCl [] t ∧ va_D (va_A [(ph, .inr (0, [.int dd, .int rt, .int cl, .int rf, .int pr, .ref pn, .int gk, .int go, .int gc, .ref pg, .ref ps, .ref po, .ref pc, .ref pe, .ref p1, .ref p2, .ref pz]))] sz) [(ph, .inr (0, [.int dd, .int rt, .int cl, .int rf, .int pr, .ref pn, .int gk, .int go, .int gc, .ref pg, .ref ps, .ref po, .ref pc, .ref pe, .ref p1, .ref p2, .ref pz]))]) (va_A [(ph, .inr (0, [.int dd, .int rt, .int cl, .int rf, .int pr, .ref pn, .int gk, .int go, .int gc, .ref pg, .ref ps, .ref po, .ref pc, .ref pe, .ref p1, .ref p2, .ref pz]))] sz)) 0 0 (va_A [(ph, .inr (0, [.int dd, .int rt, .int cl, .int rf, .int pr, .ref pn, .int gk, .int go, .int gc, .ref pg, .ref ps, .ref po, .ref pc, .ref pe, .ref p1, .ref p2, .ref pz]))] sz) := by
  refine Met.ofW (cc := cX0_isGenerator) (maxL := 2) (ret := (some .boolean)) (by decide +kernel) rfl ?_
  intro p e s m args below meth c s₁ B hml hv
  obtain ⟨rfl, hsz, hP, hK, hD0⟩ := hv
  have hx := B.exec
  have hb := B.bytes
  have hr := B.returns
  have hts := atoms_spec (ws := wsX0_isGenerator) B.pre
  have hown : s.vm.findClass "ClassGroup" = some m.cls := findClass_of_methodNamed B.named
  have hlocks := B.notSynchronized
  subst hsz
  have hD := hD0.self (sz := s.heap.size)
  generalize hAe : va_A [(ph, .inr (0, [.int dd, .int rt, .int cl, .int rf, .int pr, .ref pn, .int gk, .int go, .int gc, .ref pg, .ref ps, .ref po, .ref pc, .ref pe, .ref p1, .ref p2, .ref pz]))] s.heap.size = A at hD ⊢
  have hA : ∀ q : Nat, s.heap.size ≤ q → A q := fun q h => by rw [← hAe]; exact Or.inr h
  have hS : va_S A s.heap s.heap [] := va_S.rf
  have hl := lv_entry ([.ref ph, .int x1]) (n := 2) (Nat.le_of_ble_eq_true rfl)
  rw [lg_entry_eq]
  generalize (lg_sl ([.ref ph, .int x1]) ++ List.replicate (2 - (lg_sl ([.ref ph, .int x1])).length) Slot.unset).toArray = ls at hl ⊢
  have hl : lv_has ls 2 [(0, .ref ph), (1, .int x1)] := hl
  unfold f_isGen at hf
  refine lv_iload_n hx hb dX0_isGenerator_0 rfl (lv_at hl 1 rfl) ?_
  refine lv_if_lt (tgt := 16) hx hb dX0_isGenerator_1 (by decide) (fun c_1 => ?_) (fun c_1 => ?_)
  · have hf := ok_t c_1 hf
    refine lv_iconst (v := 0) hx hb dX0_isGenerator_16 (by decide) ?_
    have hP9 := hP.sub (ws' := [(ph, .inr (0, [.int dd, .int rt, .int cl, .int rf, .int pr, .ref pn, .int gk, .int go, .int gc, .ref pg, .ref ps, .ref po, .ref pc, .ref pe, .ref p1, .ref p2, .ref pz]))]) [0] rfl
    have hD9 := hD.sub (ws' := [(ph, .inr (0, [.int dd, .int rt, .int cl, .int rf, .int pr, .ref pn, .int gk, .int go, .int gc, .ref pg, .ref ps, .ref po, .ref pc, .ref pe, .ref p1, .ref p2, .ref pz]))]) [0] (by decide) rfl
    have hK9 := hK.sub (tys' := []) [] rfl
    exact W.zret (v := 0) (ty := .boolean) hx hb hr rfl (fun t ht hW => ⟨⟨0, (), rfl, (Option.some.inj hf), by rw [ht]; exact hP9, va_K.moved hW.alike hK9, hD9⟩, hS.F ht⟩) hS.2.2 dX0_isGenerator_17
  · have hf := ok_f c_1 hf
    refine lv_iload_n hx hb dX0_isGenerator_4 rfl (lv_at hl 1 rfl) ?_
    refine lv_aload_n hx hb dX0_isGenerator_5 rfl (lv_at hl 0 rfl) ?_
    refine va_get (D := (dC, dI)) (ci := 0) (v := .int gc) (C := "ClassGroup") (T := TX0) (N := 17) hx hb hts (fun w h => List.mem_cons_of_mem _ (iwX0 w h)) hown hK hP 0 rfl rfl 8 (by decide) (hts _ (List.mem_cons_of_mem _ kw_158)) (fun _ h9 => h9) rfl dX0_isGenerator_6 ?_
    refine lv_icmp_ge (tgt := 16) hx hb dX0_isGenerator_9 (by decide) (fun c_9 => ?_) (fun c_9 => ?_)
    · have hf := ok_t c_9 hf
      refine lv_iconst (v := 0) hx hb dX0_isGenerator_16 (by decide) ?_
      have hP9 := hP.sub (ws' := [(ph, .inr (0, [.int dd, .int rt, .int cl, .int rf, .int pr, .ref pn, .int gk, .int go, .int gc, .ref pg, .ref ps, .ref po, .ref pc, .ref pe, .ref p1, .ref p2, .ref pz]))]) [0] rfl
      have hD9 := hD.sub (ws' := [(ph, .inr (0, [.int dd, .int rt, .int cl, .int rf, .int pr, .ref pn, .int gk, .int go, .int gc, .ref pg, .ref ps, .ref po, .ref pc, .ref pe, .ref p1, .ref p2, .ref pz]))]) [0] (by decide) rfl
      have hK9 := hK.sub (tys' := []) [] rfl
      exact W.zret (v := 0) (ty := .boolean) hx hb hr rfl (fun t ht hW => ⟨⟨0, (), rfl, (Option.some.inj hf), by rw [ht]; exact hP9, va_K.moved hW.alike hK9, hD9⟩, hS.F ht⟩) hS.2.2 dX0_isGenerator_17
    · have hf := ok_f c_9 hf
      refine lv_iconst (v := 1) hx hb dX0_isGenerator_12 (by decide) ?_
      refine lv_goto (tgt := 17) hx hb dX0_isGenerator_13 (by decide) ?_
      have hP9 := hP.sub (ws' := [(ph, .inr (0, [.int dd, .int rt, .int cl, .int rf, .int pr, .ref pn, .int gk, .int go, .int gc, .ref pg, .ref ps, .ref po, .ref pc, .ref pe, .ref p1, .ref p2, .ref pz]))]) [0] rfl
      have hD9 := hD.sub (ws' := [(ph, .inr (0, [.int dd, .int rt, .int cl, .int rf, .int pr, .ref pn, .int gk, .int go, .int gc, .ref pg, .ref ps, .ref po, .ref pc, .ref pe, .ref p1, .ref p2, .ref pz]))]) [0] (by decide) rfl
      have hK9 := hK.sub (tys' := []) [] rfl
      exact W.zret (v := 1) (ty := .boolean) hx hb hr rfl (fun t ht hW => ⟨⟨1, (), rfl, (Option.some.inj hf), by rw [ht]; exact hP9, va_K.moved hW.alike hK9, hD9⟩, hS.F ht⟩) hS.2.2 dX0_isGenerator_17

def f_isForm (F : Nat) (dd : Int32) (x1 : Int32) (x2 : Int32) (x3 : Int32) : Option (Int32) := Option.bind (f_isCoef F x1) (fun r_1 => (if r_1 = 0 then some 0 else Option.bind (f_isCoef F x2) (fun r_2 => (if r_2 = 0 then some 0 else Option.bind (f_isCoef F x3) (fun r_3 => (if r_3 = 0 then some 0 else (if (lg_cmp (((x2).toInt64 * (x2).toInt64) - ((4 * (x1).toInt64) * (x3).toInt64)) ((dd).toInt64)) = 0 then (if (0 : Int32) < dd then Option.bind (f_isPrim F x1 x2 x3) (fun r_4 => (if r_4 = 0 then some 0 else some 1)) else (if x1 ≤ 0 then some 0 else Option.bind (f_isPrim F x1 x2 x3) (fun r_5 => (if r_5 = 0 then some 0 else some 1)))) else some 0)))))))
set_option maxHeartbeats 4000000 in
set_option maxRecDepth 100000 in
theorem c_isForm (l : Launch) (dC : Nat → ClassId) (dI : Nat → Nat → Nat) (ph : Nat) (dd : Int32) (rt : Int32) (cl : Int32) (rf : Int32) (pr : Int32) (pn : Nat) (gk : Int32) (go : Int32) (gc : Int32) (pg : Nat) (ps : Nat) (po : Nat) (pc : Nat) (pe : Nat) (p1 : Nat) (p2 : Nat) (pz : Nat) (x1 : Int32) (x2 : Int32) (x3 : Int32) (sz : Nat) (F : Nat) (out : Int32) (hf : f_isForm F dd x1 x2 x3 = some out) : Met l yX0_isForm wsX0_isForm ({ frames := 3, cells := 0, slots := 0, locals := 67 }) (va_Pc [.ref ph, .int x1, .int x2, .int x3] (fun U => U.heap.size = sz ∧ va_P (dC, dI) vwCl [(ph, .inr (0, [.int dd, .int rt, .int cl, .int rf, .int pr, .ref pn, .int gk, .int go, .int gc, .ref pg, .ref ps, .ref po, .ref pc, .ref pe, .ref p1, .ref p2, .ref pz]))] U.heap ∧ va_K (dC, dI) vwCl [] U ∧ va_D (fun _ => True) [(ph, .inr (0, [.int dd, .int rt, .int cl, .int rf, .int pr, .ref pn, .int gk, .int go, .int gc, .ref pg, .ref ps, .ref po, .ref pc, .ref pe, .ref p1, .ref p2, .ref pz]))])) (va_Qi (fun (r : Int32) (u : Unit) => r = out) (fun (u : Unit) t => match u with | _ => va_P (dC, dI) vwCl [(ph, .inr (0, [.int dd, .int rt, .int cl, .int rf, .int pr, .ref pn, .int gk, .int go, .int gc, .ref pg, .ref ps, .ref po, .ref pc, .ref pe, .ref p1, .ref p2, .ref pz]))] t.heap ∧ va_K (dC, dI) vwCl [] t ∧ va_D (va_A [(ph, .inr (0, [.int dd, .int rt, .int cl, .int rf, .int pr, .ref pn, .int gk, .int go, .int gc, .ref pg, .ref ps, .ref po, .ref pc, .ref pe, .ref p1, .ref p2, .ref pz]))] sz) [(ph, .inr (0, [.int dd, .int rt, .int cl, .int rf, .int pr, .ref pn, .int gk, .int go, .int gc, .ref pg, .ref ps, .ref po, .ref pc, .ref pe, .ref p1, .ref p2, .ref pz]))]) (va_A [(ph, .inr (0, [.int dd, .int rt, .int cl, .int rf, .int pr, .ref pn, .int gk, .int go, .int gc, .ref pg, .ref ps, .ref po, .ref pc, .ref pe, .ref p1, .ref p2, .ref pz]))] sz)) 0 0 (va_A [(ph, .inr (0, [.int dd, .int rt, .int cl, .int rf, .int pr, .ref pn, .int gk, .int go, .int gc, .ref pg, .ref ps, .ref po, .ref pc, .ref pe, .ref p1, .ref p2, .ref pz]))] sz) := by
  refine Met.ofW (cc := cX0_isForm) (maxL := 4) (ret := (some .boolean)) (by decide +kernel) rfl ?_
  intro p e s m args below meth c s₁ B hml hv
  obtain ⟨rfl, hsz, hP, hK, hD0⟩ := hv
  have hx := B.exec
  have hb := B.bytes
  have hr := B.returns
  have hts := atoms_spec (ws := wsX0_isForm) B.pre
  have hown : s.vm.findClass "ClassGroup" = some m.cls := findClass_of_methodNamed B.named
  have hlocks := B.notSynchronized
  subst hsz
  have hD := hD0.self (sz := s.heap.size)
  generalize hAe : va_A [(ph, .inr (0, [.int dd, .int rt, .int cl, .int rf, .int pr, .ref pn, .int gk, .int go, .int gc, .ref pg, .ref ps, .ref po, .ref pc, .ref pe, .ref p1, .ref p2, .ref pz]))] s.heap.size = A at hD ⊢
  have hA : ∀ q : Nat, s.heap.size ≤ q → A q := fun q h => by rw [← hAe]; exact Or.inr h
  have hS : va_S A s.heap s.heap [] := va_S.rf
  have hl := lv_entry ([.ref ph, .int x1, .int x2, .int x3]) (n := 4) (Nat.le_of_ble_eq_true rfl)
  rw [lg_entry_eq]
  generalize (lg_sl ([.ref ph, .int x1, .int x2, .int x3]) ++ List.replicate (4 - (lg_sl ([.ref ph, .int x1, .int x2, .int x3])).length) Slot.unset).toArray = ls at hl ⊢
  have hl : lv_has ls 4 [(0, .ref ph), (1, .int x1), (2, .int x2), (3, .int x3)] := hl
  unfold f_isForm at hf
  refine lv_iload_n hx hb dX0_isForm_0 rfl (lv_at hl 1 rfl) ?_
  obtain ⟨xc1, hc1, hf⟩ := ok_b hf
  have hPc := hP.sub (ws' := []) [] rfl
  have hDc := hD.sub (ws' := []) [] (by decide) rfl
  have hKc := hK.sub (tys' := []) [] rfl
  have hFc := va_free (wc := []) hD hS hA [] rfl
  refine va_calli (va_runS (As := [.int x1]) (rest := []) ⟨hx, hb, hml, hown, hts⟩ (c_isCoef l dC dI x1 s.heap.size F xc1 hc1) (va_cwS 1 hts (gwS kw_374 kw_375 kw_1 kw_376) rfl rfl rfl (by decide +kernel) ⟨Nat.le_of_ble_eq_true rfl, Nat.le_of_ble_eq_true rfl⟩) ⟨fun a U g mk q => by obtain ⟨q0, q1, qP, qK, qD⟩ := q; exact ⟨q0, q1, qP, va_K.moved (u := U) (U := U.calling g mk a) (Vm.Alike.refl U.vm) qK, qD⟩, fun U hU hW => ⟨rfl, by rw [hU], by rw [hU]; exact hPc, va_K.moved hW.alike hKc, hDc.weaken (fun _ _ _ _ => trivial)⟩⟩ rfl rfl hl.1 rfl (lv_room (Nat.le_of_ble_eq_true rfl)) dX0_isForm_1 ⟨Nat.zero_le _, Nat.zero_le _⟩) hS (fun q _ h => hFc q h) hFc (fun r_1 u t H1 locs ht hvm hw hB hz1 hk1 hS => ?_)
  obtain ⟨⟩ := u
  obtain ⟨hP1, hK1, hD1⟩ := hB
  rw [ht] at hP1
  subst hw
  obtain ⟨hP, hD⟩ := va_join (wr := [(ph, .inr (0, [.int dd, .int rt, .int cl, .int rf, .int pr, .ref pn, .int gk, .int go, .int gc, .ref pg, .ref ps, .ref po, .ref pc, .ref pe, .ref p1, .ref p2, .ref pz]))]) (w1 := []) hP hD [] [0] rfl rfl (by decide) (by decide) hk1 hFc hP1 hD1
  generalize H1 = H at hP hS ⊢
  have hP : va_P (dC, dI) vwCl [(ph, .inr (0, [.int dd, .int rt, .int cl, .int rf, .int pr, .ref pn, .int gk, .int go, .int gc, .ref pg, .ref ps, .ref po, .ref pc, .ref pe, .ref p1, .ref p2, .ref pz]))] H := hP
  have hD : va_D A [(ph, .inr (0, [.int dd, .int rt, .int cl, .int rf, .int pr, .ref pn, .int gk, .int go, .int gc, .ref pg, .ref ps, .ref po, .ref pc, .ref pe, .ref p1, .ref p2, .ref pz]))] := hD
  refine lv_if_eq (tgt := 69) hx hb dX0_isForm_4 (by decide) (fun c_4 => ?_) (fun c_4 => ?_)
  · have hf := ok_t c_4 hf
    refine lv_iconst (v := 0) hx hb dX0_isForm_69 (by decide) ?_
    have hP9 := hP.sub (ws' := [(ph, .inr (0, [.int dd, .int rt, .int cl, .int rf, .int pr, .ref pn, .int gk, .int go, .int gc, .ref pg, .ref ps, .ref po, .ref pc, .ref pe, .ref p1, .ref p2, .ref pz]))]) [0] rfl
    have hD9 := hD.sub (ws' := [(ph, .inr (0, [.int dd, .int rt, .int cl, .int rf, .int pr, .ref pn, .int gk, .int go, .int gc, .ref pg, .ref ps, .ref po, .ref pc, .ref pe, .ref p1, .ref p2, .ref pz]))]) [0] (by decide) rfl
    have hK9 := hK.sub (tys' := []) [] rfl
    exact W.zret (v := 0) (ty := .boolean) hx hb hr rfl (fun t ht hW => ⟨⟨0, (), rfl, (Option.some.inj hf), by rw [ht]; exact hP9, va_K.moved hW.alike hK9, hD9⟩, hS.F ht⟩) hS.2.2 dX0_isForm_70
  · have hf := ok_f c_4 hf
    refine lv_iload_n hx hb dX0_isForm_7 rfl (lv_at hl 2 rfl) ?_
    obtain ⟨xc8, hc8, hf⟩ := ok_b hf
    have hPc := hP.sub (ws' := []) [] rfl
    have hDc := hD.sub (ws' := []) [] (by decide) rfl
    have hKc := hK.sub (tys' := []) [] rfl
    have hFc := va_free (wc := []) hD hS hA [] rfl
    refine va_calli (va_runS (As := [.int x2]) (rest := []) ⟨hx, hb, hml, hown, hts⟩ (c_isCoef l dC dI x2 H.size F xc8 hc8) (va_cwS 1 hts (gwS kw_374 kw_375 kw_1 kw_376) rfl rfl rfl (by decide +kernel) ⟨Nat.le_of_ble_eq_true rfl, Nat.le_of_ble_eq_true rfl⟩) ⟨fun a U g mk q => by obtain ⟨q0, q1, qP, qK, qD⟩ := q; exact ⟨q0, q1, qP, va_K.moved (u := U) (U := U.calling g mk a) (Vm.Alike.refl U.vm) qK, qD⟩, fun U hU hW => ⟨rfl, by rw [hU], by rw [hU]; exact hPc, va_K.moved hW.alike hKc, hDc.weaken (fun _ _ _ _ => trivial)⟩⟩ rfl rfl hl.1 rfl (lv_room (Nat.le_of_ble_eq_true rfl)) dX0_isForm_8 ⟨Nat.zero_le _, Nat.zero_le _⟩) hS (fun q _ h => hFc q h) hFc (fun r_2 u t H1 locs ht hvm hw hB hz1 hk1 hS => ?_)
    obtain ⟨⟩ := u
    obtain ⟨hP1, hK1, hD1⟩ := hB
    rw [ht] at hP1
    subst hw
    obtain ⟨hP, hD⟩ := va_join (wr := [(ph, .inr (0, [.int dd, .int rt, .int cl, .int rf, .int pr, .ref pn, .int gk, .int go, .int gc, .ref pg, .ref ps, .ref po, .ref pc, .ref pe, .ref p1, .ref p2, .ref pz]))]) (w1 := []) hP hD [] [0] rfl rfl (by decide) (by decide) hk1 hFc hP1 hD1
    generalize H1 = H at hP hS ⊢
    have hP : va_P (dC, dI) vwCl [(ph, .inr (0, [.int dd, .int rt, .int cl, .int rf, .int pr, .ref pn, .int gk, .int go, .int gc, .ref pg, .ref ps, .ref po, .ref pc, .ref pe, .ref p1, .ref p2, .ref pz]))] H := hP
    have hD : va_D A [(ph, .inr (0, [.int dd, .int rt, .int cl, .int rf, .int pr, .ref pn, .int gk, .int go, .int gc, .ref pg, .ref ps, .ref po, .ref pc, .ref pe, .ref p1, .ref p2, .ref pz]))] := hD
    refine lv_if_eq (tgt := 69) hx hb dX0_isForm_11 (by decide) (fun c_11 => ?_) (fun c_11 => ?_)
    · have hf := ok_t c_11 hf
      refine lv_iconst (v := 0) hx hb dX0_isForm_69 (by decide) ?_
      have hP9 := hP.sub (ws' := [(ph, .inr (0, [.int dd, .int rt, .int cl, .int rf, .int pr, .ref pn, .int gk, .int go, .int gc, .ref pg, .ref ps, .ref po, .ref pc, .ref pe, .ref p1, .ref p2, .ref pz]))]) [0] rfl
      have hD9 := hD.sub (ws' := [(ph, .inr (0, [.int dd, .int rt, .int cl, .int rf, .int pr, .ref pn, .int gk, .int go, .int gc, .ref pg, .ref ps, .ref po, .ref pc, .ref pe, .ref p1, .ref p2, .ref pz]))]) [0] (by decide) rfl
      have hK9 := hK.sub (tys' := []) [] rfl
      exact W.zret (v := 0) (ty := .boolean) hx hb hr rfl (fun t ht hW => ⟨⟨0, (), rfl, (Option.some.inj hf), by rw [ht]; exact hP9, va_K.moved hW.alike hK9, hD9⟩, hS.F ht⟩) hS.2.2 dX0_isForm_70
    · have hf := ok_f c_11 hf
      refine lv_iload_n hx hb dX0_isForm_14 rfl (lv_at hl 3 rfl) ?_
      obtain ⟨xc15, hc15, hf⟩ := ok_b hf
      have hPc := hP.sub (ws' := []) [] rfl
      have hDc := hD.sub (ws' := []) [] (by decide) rfl
      have hKc := hK.sub (tys' := []) [] rfl
      have hFc := va_free (wc := []) hD hS hA [] rfl
      refine va_calli (va_runS (As := [.int x3]) (rest := []) ⟨hx, hb, hml, hown, hts⟩ (c_isCoef l dC dI x3 H.size F xc15 hc15) (va_cwS 1 hts (gwS kw_374 kw_375 kw_1 kw_376) rfl rfl rfl (by decide +kernel) ⟨Nat.le_of_ble_eq_true rfl, Nat.le_of_ble_eq_true rfl⟩) ⟨fun a U g mk q => by obtain ⟨q0, q1, qP, qK, qD⟩ := q; exact ⟨q0, q1, qP, va_K.moved (u := U) (U := U.calling g mk a) (Vm.Alike.refl U.vm) qK, qD⟩, fun U hU hW => ⟨rfl, by rw [hU], by rw [hU]; exact hPc, va_K.moved hW.alike hKc, hDc.weaken (fun _ _ _ _ => trivial)⟩⟩ rfl rfl hl.1 rfl (lv_room (Nat.le_of_ble_eq_true rfl)) dX0_isForm_15 ⟨Nat.zero_le _, Nat.zero_le _⟩) hS (fun q _ h => hFc q h) hFc (fun r_3 u t H1 locs ht hvm hw hB hz1 hk1 hS => ?_)
      obtain ⟨⟩ := u
      obtain ⟨hP1, hK1, hD1⟩ := hB
      rw [ht] at hP1
      subst hw
      obtain ⟨hP, hD⟩ := va_join (wr := [(ph, .inr (0, [.int dd, .int rt, .int cl, .int rf, .int pr, .ref pn, .int gk, .int go, .int gc, .ref pg, .ref ps, .ref po, .ref pc, .ref pe, .ref p1, .ref p2, .ref pz]))]) (w1 := []) hP hD [] [0] rfl rfl (by decide) (by decide) hk1 hFc hP1 hD1
      generalize H1 = H at hP hS ⊢
      have hP : va_P (dC, dI) vwCl [(ph, .inr (0, [.int dd, .int rt, .int cl, .int rf, .int pr, .ref pn, .int gk, .int go, .int gc, .ref pg, .ref ps, .ref po, .ref pc, .ref pe, .ref p1, .ref p2, .ref pz]))] H := hP
      have hD : va_D A [(ph, .inr (0, [.int dd, .int rt, .int cl, .int rf, .int pr, .ref pn, .int gk, .int go, .int gc, .ref pg, .ref ps, .ref po, .ref pc, .ref pe, .ref p1, .ref p2, .ref pz]))] := hD
      refine lv_if_eq (tgt := 69) hx hb dX0_isForm_18 (by decide) (fun c_18 => ?_) (fun c_18 => ?_)
      · have hf := ok_t c_18 hf
        refine lv_iconst (v := 0) hx hb dX0_isForm_69 (by decide) ?_
        have hP9 := hP.sub (ws' := [(ph, .inr (0, [.int dd, .int rt, .int cl, .int rf, .int pr, .ref pn, .int gk, .int go, .int gc, .ref pg, .ref ps, .ref po, .ref pc, .ref pe, .ref p1, .ref p2, .ref pz]))]) [0] rfl
        have hD9 := hD.sub (ws' := [(ph, .inr (0, [.int dd, .int rt, .int cl, .int rf, .int pr, .ref pn, .int gk, .int go, .int gc, .ref pg, .ref ps, .ref po, .ref pc, .ref pe, .ref p1, .ref p2, .ref pz]))]) [0] (by decide) rfl
        have hK9 := hK.sub (tys' := []) [] rfl
        exact W.zret (v := 0) (ty := .boolean) hx hb hr rfl (fun t ht hW => ⟨⟨0, (), rfl, (Option.some.inj hf), by rw [ht]; exact hP9, va_K.moved hW.alike hK9, hD9⟩, hS.F ht⟩) hS.2.2 dX0_isForm_70
      · have hf := ok_f c_18 hf
        refine lv_iload_n hx hb dX0_isForm_21 rfl (lv_at hl 2 rfl) ?_
        refine lv_i2l (v := (x2).toInt64) hx hb dX0_isForm_22 rfl ?_
        refine lv_iload_n hx hb dX0_isForm_23 rfl (lv_at hl 2 rfl) ?_
        refine lv_i2l (v := (x2).toInt64) hx hb dX0_isForm_24 rfl ?_
        refine lv_lmul hx hb dX0_isForm_25 ?_
        refine lv_ldc2 (v := 4) hx hb hown (hts _ (List.mem_cons_of_mem _ kw_126)) dX0_isForm_26 ?_
        refine lv_iload_n hx hb dX0_isForm_29 rfl (lv_at hl 1 rfl) ?_
        refine lv_i2l (v := (x1).toInt64) hx hb dX0_isForm_30 rfl ?_
        refine lv_lmul hx hb dX0_isForm_31 ?_
        refine lv_iload_n hx hb dX0_isForm_32 rfl (lv_at hl 3 rfl) ?_
        refine lv_i2l (v := (x3).toInt64) hx hb dX0_isForm_33 rfl ?_
        refine lv_lmul hx hb dX0_isForm_34 ?_
        refine lv_lsub hx hb dX0_isForm_35 ?_
        refine lv_aload_n hx hb dX0_isForm_36 rfl (lv_at hl 0 rfl) ?_
        refine va_get (D := (dC, dI)) (ci := 0) (v := .int dd) (C := "ClassGroup") (T := TX0) (N := 17) hx hb hts (fun w h => List.mem_cons_of_mem _ (iwX0 w h)) hown hK hP 0 rfl rfl 0 (by decide) (hts _ (List.mem_cons_of_mem _ kw_150)) (fun _ h9 => h9) rfl dX0_isForm_37 ?_
        refine lv_i2l (v := (dd).toInt64) hx hb dX0_isForm_40 rfl ?_
        refine W.lcmp hx hb dX0_isForm_41 ?_
        refine lv_if_ne (tgt := 69) hx hb dX0_isForm_42 (by decide) (fun c_42 => ?_) (fun c_42 => ?_)
        · have hf := ok_f c_42 hf
          refine lv_iconst (v := 0) hx hb dX0_isForm_69 (by decide) ?_
          have hP9 := hP.sub (ws' := [(ph, .inr (0, [.int dd, .int rt, .int cl, .int rf, .int pr, .ref pn, .int gk, .int go, .int gc, .ref pg, .ref ps, .ref po, .ref pc, .ref pe, .ref p1, .ref p2, .ref pz]))]) [0] rfl
          have hD9 := hD.sub (ws' := [(ph, .inr (0, [.int dd, .int rt, .int cl, .int rf, .int pr, .ref pn, .int gk, .int go, .int gc, .ref pg, .ref ps, .ref po, .ref pc, .ref pe, .ref p1, .ref p2, .ref pz]))]) [0] (by decide) rfl
          have hK9 := hK.sub (tys' := []) [] rfl
          exact W.zret (v := 0) (ty := .boolean) hx hb hr rfl (fun t ht hW => ⟨⟨0, (), rfl, (Option.some.inj hf), by rw [ht]; exact hP9, va_K.moved hW.alike hK9, hD9⟩, hS.F ht⟩) hS.2.2 dX0_isForm_70
        · have hf := ok_t c_42 hf
          refine lv_aload_n hx hb dX0_isForm_45 rfl (lv_at hl 0 rfl) ?_
          refine va_get (D := (dC, dI)) (ci := 0) (v := .int dd) (C := "ClassGroup") (T := TX0) (N := 17) hx hb hts (fun w h => List.mem_cons_of_mem _ (iwX0 w h)) hown hK hP 0 rfl rfl 0 (by decide) (hts _ (List.mem_cons_of_mem _ kw_150)) (fun _ h9 => h9) rfl dX0_isForm_46 ?_
          refine lv_if_gt (tgt := 56) hx hb dX0_isForm_49 (by decide) (fun c_49 => ?_) (fun c_49 => ?_)
          · have hf := ok_t c_49 hf
            refine lv_iload_n hx hb dX0_isForm_56 rfl (lv_at hl 1 rfl) ?_
            refine lv_iload_n hx hb dX0_isForm_57 rfl (lv_at hl 2 rfl) ?_
            refine lv_iload_n hx hb dX0_isForm_58 rfl (lv_at hl 3 rfl) ?_
            obtain ⟨xc59, hc59, hf⟩ := ok_b hf
            have hPc := hP.sub (ws' := []) [] rfl
            have hDc := hD.sub (ws' := []) [] (by decide) rfl
            have hKc := hK.sub (tys' := []) [] rfl
            have hFc := va_free (wc := []) hD hS hA [] rfl
            refine va_calli (va_runS (As := [.int x1, .int x2, .int x3]) (rest := []) ⟨hx, hb, hml, hown, hts⟩ (c_isPrim l dC dI x1 x2 x3 H.size F xc59 hc59) (va_cwS 3 hts (gwS kw_78 kw_79 kw_1 kw_80) rfl rfl rfl (by decide +kernel) ⟨Nat.le_of_ble_eq_true rfl, Nat.le_of_ble_eq_true rfl⟩) ⟨fun a U g mk q => by obtain ⟨q0, q1, qP, qK, qD⟩ := q; exact ⟨q0, q1, qP, va_K.moved (u := U) (U := U.calling g mk a) (Vm.Alike.refl U.vm) qK, qD⟩, fun U hU hW => ⟨rfl, by rw [hU], by rw [hU]; exact hPc, va_K.moved hW.alike hKc, hDc.weaken (fun _ _ _ _ => trivial)⟩⟩ rfl rfl hl.1 rfl (lv_room (Nat.le_of_ble_eq_true rfl)) dX0_isForm_59 ⟨Nat.zero_le _, Nat.zero_le _⟩) hS (fun q _ h => hFc q h) hFc (fun r_4 u t H1 locs ht hvm hw hB hz1 hk1 hS => ?_)
            obtain ⟨⟩ := u
            obtain ⟨hP1, hK1, hD1⟩ := hB
            rw [ht] at hP1
            subst hw
            obtain ⟨hP, hD⟩ := va_join (wr := [(ph, .inr (0, [.int dd, .int rt, .int cl, .int rf, .int pr, .ref pn, .int gk, .int go, .int gc, .ref pg, .ref ps, .ref po, .ref pc, .ref pe, .ref p1, .ref p2, .ref pz]))]) (w1 := []) hP hD [] [0] rfl rfl (by decide) (by decide) hk1 hFc hP1 hD1
            generalize H1 = H at hP hS ⊢
            have hP : va_P (dC, dI) vwCl [(ph, .inr (0, [.int dd, .int rt, .int cl, .int rf, .int pr, .ref pn, .int gk, .int go, .int gc, .ref pg, .ref ps, .ref po, .ref pc, .ref pe, .ref p1, .ref p2, .ref pz]))] H := hP
            have hD : va_D A [(ph, .inr (0, [.int dd, .int rt, .int cl, .int rf, .int pr, .ref pn, .int gk, .int go, .int gc, .ref pg, .ref ps, .ref po, .ref pc, .ref pe, .ref p1, .ref p2, .ref pz]))] := hD
            refine lv_if_eq (tgt := 69) hx hb dX0_isForm_62 (by decide) (fun c_62 => ?_) (fun c_62 => ?_)
            · have hf := ok_t c_62 hf
              refine lv_iconst (v := 0) hx hb dX0_isForm_69 (by decide) ?_
              have hP9 := hP.sub (ws' := [(ph, .inr (0, [.int dd, .int rt, .int cl, .int rf, .int pr, .ref pn, .int gk, .int go, .int gc, .ref pg, .ref ps, .ref po, .ref pc, .ref pe, .ref p1, .ref p2, .ref pz]))]) [0] rfl
              have hD9 := hD.sub (ws' := [(ph, .inr (0, [.int dd, .int rt, .int cl, .int rf, .int pr, .ref pn, .int gk, .int go, .int gc, .ref pg, .ref ps, .ref po, .ref pc, .ref pe, .ref p1, .ref p2, .ref pz]))]) [0] (by decide) rfl
              have hK9 := hK.sub (tys' := []) [] rfl
              exact W.zret (v := 0) (ty := .boolean) hx hb hr rfl (fun t ht hW => ⟨⟨0, (), rfl, (Option.some.inj hf), by rw [ht]; exact hP9, va_K.moved hW.alike hK9, hD9⟩, hS.F ht⟩) hS.2.2 dX0_isForm_70
            · have hf := ok_f c_62 hf
              refine lv_iconst (v := 1) hx hb dX0_isForm_65 (by decide) ?_
              refine lv_goto (tgt := 70) hx hb dX0_isForm_66 (by decide) ?_
              have hP9 := hP.sub (ws' := [(ph, .inr (0, [.int dd, .int rt, .int cl, .int rf, .int pr, .ref pn, .int gk, .int go, .int gc, .ref pg, .ref ps, .ref po, .ref pc, .ref pe, .ref p1, .ref p2, .ref pz]))]) [0] rfl
              have hD9 := hD.sub (ws' := [(ph, .inr (0, [.int dd, .int rt, .int cl, .int rf, .int pr, .ref pn, .int gk, .int go, .int gc, .ref pg, .ref ps, .ref po, .ref pc, .ref pe, .ref p1, .ref p2, .ref pz]))]) [0] (by decide) rfl
              have hK9 := hK.sub (tys' := []) [] rfl
              exact W.zret (v := 1) (ty := .boolean) hx hb hr rfl (fun t ht hW => ⟨⟨1, (), rfl, (Option.some.inj hf), by rw [ht]; exact hP9, va_K.moved hW.alike hK9, hD9⟩, hS.F ht⟩) hS.2.2 dX0_isForm_70
          · have hf := ok_f c_49 hf
            refine lv_iload_n hx hb dX0_isForm_52 rfl (lv_at hl 1 rfl) ?_
            refine lv_if_le (tgt := 69) hx hb dX0_isForm_53 (by decide) (fun c_53 => ?_) (fun c_53 => ?_)
            · have hf := ok_t c_53 hf
              refine lv_iconst (v := 0) hx hb dX0_isForm_69 (by decide) ?_
              have hP9 := hP.sub (ws' := [(ph, .inr (0, [.int dd, .int rt, .int cl, .int rf, .int pr, .ref pn, .int gk, .int go, .int gc, .ref pg, .ref ps, .ref po, .ref pc, .ref pe, .ref p1, .ref p2, .ref pz]))]) [0] rfl
              have hD9 := hD.sub (ws' := [(ph, .inr (0, [.int dd, .int rt, .int cl, .int rf, .int pr, .ref pn, .int gk, .int go, .int gc, .ref pg, .ref ps, .ref po, .ref pc, .ref pe, .ref p1, .ref p2, .ref pz]))]) [0] (by decide) rfl
              have hK9 := hK.sub (tys' := []) [] rfl
              exact W.zret (v := 0) (ty := .boolean) hx hb hr rfl (fun t ht hW => ⟨⟨0, (), rfl, (Option.some.inj hf), by rw [ht]; exact hP9, va_K.moved hW.alike hK9, hD9⟩, hS.F ht⟩) hS.2.2 dX0_isForm_70
            · have hf := ok_f c_53 hf
              refine lv_iload_n hx hb dX0_isForm_56 rfl (lv_at hl 1 rfl) ?_
              refine lv_iload_n hx hb dX0_isForm_57 rfl (lv_at hl 2 rfl) ?_
              refine lv_iload_n hx hb dX0_isForm_58 rfl (lv_at hl 3 rfl) ?_
              obtain ⟨xc59, hc59, hf⟩ := ok_b hf
              have hPc := hP.sub (ws' := []) [] rfl
              have hDc := hD.sub (ws' := []) [] (by decide) rfl
              have hKc := hK.sub (tys' := []) [] rfl
              have hFc := va_free (wc := []) hD hS hA [] rfl
              refine va_calli (va_runS (As := [.int x1, .int x2, .int x3]) (rest := []) ⟨hx, hb, hml, hown, hts⟩ (c_isPrim l dC dI x1 x2 x3 H.size F xc59 hc59) (va_cwS 3 hts (gwS kw_78 kw_79 kw_1 kw_80) rfl rfl rfl (by decide +kernel) ⟨Nat.le_of_ble_eq_true rfl, Nat.le_of_ble_eq_true rfl⟩) ⟨fun a U g mk q => by obtain ⟨q0, q1, qP, qK, qD⟩ := q; exact ⟨q0, q1, qP, va_K.moved (u := U) (U := U.calling g mk a) (Vm.Alike.refl U.vm) qK, qD⟩, fun U hU hW => ⟨rfl, by rw [hU], by rw [hU]; exact hPc, va_K.moved hW.alike hKc, hDc.weaken (fun _ _ _ _ => trivial)⟩⟩ rfl rfl hl.1 rfl (lv_room (Nat.le_of_ble_eq_true rfl)) dX0_isForm_59 ⟨Nat.zero_le _, Nat.zero_le _⟩) hS (fun q _ h => hFc q h) hFc (fun r_5 u t H1 locs ht hvm hw hB hz1 hk1 hS => ?_)
              obtain ⟨⟩ := u
              obtain ⟨hP1, hK1, hD1⟩ := hB
              rw [ht] at hP1
              subst hw
              obtain ⟨hP, hD⟩ := va_join (wr := [(ph, .inr (0, [.int dd, .int rt, .int cl, .int rf, .int pr, .ref pn, .int gk, .int go, .int gc, .ref pg, .ref ps, .ref po, .ref pc, .ref pe, .ref p1, .ref p2, .ref pz]))]) (w1 := []) hP hD [] [0] rfl rfl (by decide) (by decide) hk1 hFc hP1 hD1
              generalize H1 = H at hP hS ⊢
              have hP : va_P (dC, dI) vwCl [(ph, .inr (0, [.int dd, .int rt, .int cl, .int rf, .int pr, .ref pn, .int gk, .int go, .int gc, .ref pg, .ref ps, .ref po, .ref pc, .ref pe, .ref p1, .ref p2, .ref pz]))] H := hP
              have hD : va_D A [(ph, .inr (0, [.int dd, .int rt, .int cl, .int rf, .int pr, .ref pn, .int gk, .int go, .int gc, .ref pg, .ref ps, .ref po, .ref pc, .ref pe, .ref p1, .ref p2, .ref pz]))] := hD
              refine lv_if_eq (tgt := 69) hx hb dX0_isForm_62 (by decide) (fun c_62 => ?_) (fun c_62 => ?_)
              · have hf := ok_t c_62 hf
                refine lv_iconst (v := 0) hx hb dX0_isForm_69 (by decide) ?_
                have hP9 := hP.sub (ws' := [(ph, .inr (0, [.int dd, .int rt, .int cl, .int rf, .int pr, .ref pn, .int gk, .int go, .int gc, .ref pg, .ref ps, .ref po, .ref pc, .ref pe, .ref p1, .ref p2, .ref pz]))]) [0] rfl
                have hD9 := hD.sub (ws' := [(ph, .inr (0, [.int dd, .int rt, .int cl, .int rf, .int pr, .ref pn, .int gk, .int go, .int gc, .ref pg, .ref ps, .ref po, .ref pc, .ref pe, .ref p1, .ref p2, .ref pz]))]) [0] (by decide) rfl
                have hK9 := hK.sub (tys' := []) [] rfl
                exact W.zret (v := 0) (ty := .boolean) hx hb hr rfl (fun t ht hW => ⟨⟨0, (), rfl, (Option.some.inj hf), by rw [ht]; exact hP9, va_K.moved hW.alike hK9, hD9⟩, hS.F ht⟩) hS.2.2 dX0_isForm_70
              · have hf := ok_f c_62 hf
                refine lv_iconst (v := 1) hx hb dX0_isForm_65 (by decide) ?_
                refine lv_goto (tgt := 70) hx hb dX0_isForm_66 (by decide) ?_
                have hP9 := hP.sub (ws' := [(ph, .inr (0, [.int dd, .int rt, .int cl, .int rf, .int pr, .ref pn, .int gk, .int go, .int gc, .ref pg, .ref ps, .ref po, .ref pc, .ref pe, .ref p1, .ref p2, .ref pz]))]) [0] rfl
                have hD9 := hD.sub (ws' := [(ph, .inr (0, [.int dd, .int rt, .int cl, .int rf, .int pr, .ref pn, .int gk, .int go, .int gc, .ref pg, .ref ps, .ref po, .ref pc, .ref pe, .ref p1, .ref p2, .ref pz]))]) [0] (by decide) rfl
                have hK9 := hK.sub (tys' := []) [] rfl
                exact W.zret (v := 1) (ty := .boolean) hx hb hr rfl (fun t ht hW => ⟨⟨1, (), rfl, (Option.some.inj hf), by rw [ht]; exact hP9, va_K.moved hW.alike hK9, hD9⟩, hS.F ht⟩) hS.2.2 dX0_isForm_70

