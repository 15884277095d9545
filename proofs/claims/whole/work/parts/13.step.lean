def f_step (F : Nat) (dd : Int32) (rt : Int32) (a1 : Int64) (b1 : Int64) (c1 : Int64) : Option (Int64 × Int64 × Int64) := Option.bind (f_absJ F c1) (fun r_1 => (if (lg_cmp r_1 0) = 0 then some (a1, b1, c1) else (if dd ≤ 0 then Option.bind (f_fmodJ F (r_1 + b1) (2 * r_1)) (fun r_2 => bnd (r_1 - r_2) (fun v6_3 => (if ¬ (4 * c1) = 0 then Option.bind (f_Form_set F c1 v6_3 (((v6_3 * v6_3) - (dd).toInt64) / (4 * c1))) (fun (u_a1_4, u_b1_5, u_c1_6) => some (u_a1_4, u_b1_5, u_c1_6)) else none))) else (if (0 : Int32) < (lg_cmp r_1 ((rt).toInt64)) then Option.bind (f_fmodJ F (r_1 + b1) (2 * r_1)) (fun r_7 => bnd (r_1 - r_7) (fun v6_8 => (if ¬ (4 * c1) = 0 then Option.bind (f_Form_set F c1 v6_8 (((v6_8 * v6_8) - (dd).toInt64) / (4 * c1))) (fun (u_a1_9, u_b1_10, u_c1_11) => some (u_a1_9, u_b1_10, u_c1_11)) else none))) else bnd ((rt).toInt64) (fun v4_12 => Option.bind (f_fmodJ F (v4_12 + b1) (2 * r_1)) (fun r_13 => bnd (v4_12 - r_13) (fun v6_14 => (if ¬ (4 * c1) = 0 then Option.bind (f_Form_set F c1 v6_14 (((v6_14 * v6_14) - (dd).toInt64) / (4 * c1))) (fun (u_a1_15, u_b1_16, u_c1_17) => some (u_a1_15, u_b1_16, u_c1_17)) else none))))))))
set_option maxHeartbeats 4000000 in
set_option maxRecDepth 100000 in
theorem c_step (l : Launch) (dC : Nat → ClassId) (dI : Nat → Nat → Nat) (ph : Nat) (dd : Int32) (rt : Int32) (cl : Int32) (rf : Int32) (pr : Int32) (pn : Nat) (gk : Int32) (go : Int32) (gc : Int32) (pg : Nat) (ps : Nat) (po : Nat) (pc : Nat) (pe : Nat) (p1 : Nat) (p2 : Nat) (pz : Nat) (pf : Nat) (a1 : Int64) (b1 : Int64) (c1 : Int64) (sz : Nat) (F : Nat) (out : Int64 × Int64 × Int64) (hf : f_step F dd rt a1 b1 c1 = some out) : Met l yX0_step wsX0_step ({ frames := 1, cells := 0, slots := 0, locals := 26 }) (va_Pc [.ref ph, .ref pf] (fun U => U.heap.size = sz ∧ va_P (dC, dI) vwCl [(ph, .inr (0, [.int dd, .int rt, .int cl, .int rf, .int pr, .ref pn, .int gk, .int go, .int gc, .ref pg, .ref ps, .ref po, .ref pc, .ref pe, .ref p1, .ref p2, .ref pz])), (pf, .inr (1, [.long a1, .long b1, .long c1]))] U.heap ∧ va_K (dC, dI) vwCl [] U ∧ va_D (fun _ => True) [(ph, .inr (0, [.int dd, .int rt, .int cl, .int rf, .int pr, .ref pn, .int gk, .int go, .int gc, .ref pg, .ref ps, .ref po, .ref pc, .ref pe, .ref p1, .ref p2, .ref pz])), (pf, .inr (1, [.long a1, .long b1, .long c1]))])) (va_Qv (fun (u : Int64 × Int64 × Int64) => u = out) (fun (u : Int64 × Int64 × Int64) t => match u with | (u_a1, u_b1, u_c1) => va_P (dC, dI) vwCl [(ph, .inr (0, [.int dd, .int rt, .int cl, .int rf, .int pr, .ref pn, .int gk, .int go, .int gc, .ref pg, .ref ps, .ref po, .ref pc, .ref pe, .ref p1, .ref p2, .ref pz])), (pf, .inr (1, [.long u_a1, .long u_b1, .long u_c1]))] t.heap ∧ va_K (dC, dI) vwCl [] t ∧ va_D (va_A [(ph, .inr (0, [.int dd, .int rt, .int cl, .int rf, .int pr, .ref pn, .int gk, .int go, .int gc, .ref pg, .ref ps, .ref po, .ref pc, .ref pe, .ref p1, .ref p2, .ref pz])), (pf, .inr (1, [.long a1, .long b1, .long c1]))] sz) [(ph, .inr (0, [.int dd, .int rt, .int cl, .int rf, .int pr, .ref pn, .int gk, .int go, .int gc, .ref pg, .ref ps, .ref po, .ref pc, .ref pe, .ref p1, .ref p2, .ref pz])), (pf, .inr (1, [.long u_a1, .long u_b1, .long u_c1]))]) (va_A [(ph, .inr (0, [.int dd, .int rt, .int cl, .int rf, .int pr, .ref pn, .int gk, .int go, .int gc, .ref pg, .ref ps, .ref po, .ref pc, .ref pe, .ref p1, .ref p2, .ref pz])), (pf, .inr (1, [.long a1, .long b1, .long c1]))] sz)) 0 0 (va_A [(ph, .inr (0, [.int dd, .int rt, .int cl, .int rf, .int pr, .ref pn, .int gk, .int go, .int gc, .ref pg, .ref ps, .ref po, .ref pc, .ref pe, .ref p1, .ref p2, .ref pz])), (pf, .inr (1, [.long a1, .long b1, .long c1]))] sz) := by
  refine Met.ofW (cc := cX0_step) (maxL := 8) (ret := none) (by decide +kernel) rfl ?_
  intro p e s m args below meth c s₁ B hml hv
  obtain ⟨rfl, hsz, hP, hK, hD0⟩ := hv
  have hx := B.exec
  have hb := B.bytes
  have hr := B.returns
  have hts := atoms_spec (ws := wsX0_step) B.pre
  have hown : s.vm.findClass "ClassGroup" = some m.cls := findClass_of_methodNamed B.named
  have hlocks := B.notSynchronized
  subst hsz
  have hD := hD0.self (sz := s.heap.size)
  generalize hAe : va_A [(ph, .inr (0, [.int dd, .int rt, .int cl, .int rf, .int pr, .ref pn, .int gk, .int go, .int gc, .ref pg, .ref ps, .ref po, .ref pc, .ref pe, .ref p1, .ref p2, .ref pz])), (pf, .inr (1, [.long a1, .long b1, .long c1]))] s.heap.size = A at hD ⊢
  have hA : ∀ q : Nat, s.heap.size ≤ q → A q := fun q h => by rw [← hAe]; exact Or.inr h
  have hS : va_S A s.heap s.heap [] := va_S.rf
  have hl := lv_entry ([.ref ph, .ref pf]) (n := 8) (Nat.le_of_ble_eq_true rfl)
  rw [lg_entry_eq]
  generalize (lg_sl ([.ref ph, .ref pf]) ++ List.replicate (8 - (lg_sl ([.ref ph, .ref pf])).length) Slot.unset).toArray = ls at hl ⊢
  have hl : lv_has ls 8 [(0, .ref ph), (1, .ref pf)] := hl
  unfold f_step at hf
  refine lv_aload_n hx hb dX0_step_0 rfl (lv_at hl 1 rfl) ?_
  refine va_get (D := (dC, dI)) (ci := 1) (v := .long c1) (C := "ClassGroup$Form") (T := TX1) (N := 3) hx hb hts (fun w h => List.mem_cons_of_mem _ (iwX1 w h)) hown hK hP 1 rfl rfl 2 (by decide) (hts _ (List.mem_cons_of_mem _ kw_31)) (fun _ h9 => h9) rfl dX0_step_1 ?_
  obtain ⟨xc4, hc4, hf⟩ := ok_b hf
  have hPc := hP.sub (ws' := []) [] rfl
  have hDc := hD.sub (ws' := []) [] (by decide) rfl
  have hKc := hK.sub (tys' := []) [] rfl
  have hFc := va_free (wc := []) hD hS hA [] rfl
  refine va_calll (va_runS (As := [.long c1]) (rest := []) ⟨hx, hb, hml, hown, hts⟩ (c_absJ l dC dI c1 s.heap.size F xc4 hc4) (va_cwS 1 hts (gwS kw_119 kw_120 kw_4 kw_121) rfl rfl rfl (by decide +kernel) ⟨Nat.le_of_ble_eq_true rfl, Nat.le_of_ble_eq_true rfl⟩) ⟨fun a U g mk q => by obtain ⟨q0, q1, qP, qK, qD⟩ := q; exact ⟨q0, q1, qP, va_K.moved (u := U) (U := U.calling g mk a) (Vm.Alike.refl U.vm) qK, qD⟩, fun U hU hW => ⟨rfl, by rw [hU], by rw [hU]; exact hPc, va_K.moved hW.alike hKc, hDc.weaken (fun _ _ _ _ => trivial)⟩⟩ rfl rfl hl.1 rfl (lv_room (Nat.le_of_ble_eq_true rfl)) dX0_step_4 ⟨Nat.zero_le _, Nat.zero_le _⟩) hS (fun q _ h => hFc q h) hFc (fun r_1 u t H1 locs ht hvm hw hB hz1 hk1 hS => ?_)
  obtain ⟨⟩ := u
  obtain ⟨hP1, hK1, hD1⟩ := hB
  rw [ht] at hP1
  subst hw
  obtain ⟨hP, hD⟩ := va_join (wr := [(ph, .inr (0, [.int dd, .int rt, .int cl, .int rf, .int pr, .ref pn, .int gk, .int go, .int gc, .ref pg, .ref ps, .ref po, .ref pc, .ref pe, .ref p1, .ref p2, .ref pz])), (pf, .inr (1, [.long a1, .long b1, .long c1]))]) (w1 := []) hP hD [] [0, 1] rfl rfl (by decide) (by decide) hk1 hFc hP1 hD1
  generalize H1 = H at hP hS ⊢
  have hP : va_P (dC, dI) vwCl [(ph, .inr (0, [.int dd, .int rt, .int cl, .int rf, .int pr, .ref pn, .int gk, .int go, .int gc, .ref pg, .ref ps, .ref po, .ref pc, .ref pe, .ref p1, .ref p2, .ref pz])), (pf, .inr (1, [.long a1, .long b1, .long c1]))] H := hP
  have hD : va_D A [(ph, .inr (0, [.int dd, .int rt, .int cl, .int rf, .int pr, .ref pn, .int gk, .int go, .int gc, .ref pg, .ref ps, .ref po, .ref pc, .ref pe, .ref p1, .ref p2, .ref pz])), (pf, .inr (1, [.long a1, .long b1, .long c1]))] := hD
  refine lv_lstore_n (lv' := [(2, .long r_1), (0, .ref ph), (1, .ref pf)]) hx hb dX0_step_7 rfl hl (by decide) rfl (fun ls hl => ?_)
  refine lv_lload_n hx hb dX0_step_8 rfl (lv_at hl 0 rfl) ?_
  refine lv_lconst (v := 0) hx hb dX0_step_9 (by decide) ?_
  refine W.lcmp hx hb dX0_step_10 ?_
  refine lv_if_ne (tgt := 15) hx hb dX0_step_11 (by decide) (fun c_11 => ?_) (fun c_11 => ?_)
  · have hf := ok_f c_11 hf
    refine lv_aload_n hx hb dX0_step_15 rfl (lv_at hl 1 rfl) ?_
    refine va_get (D := (dC, dI)) (ci := 0) (v := .int dd) (C := "ClassGroup") (T := TX0) (N := 17) hx hb hts (fun w h => List.mem_cons_of_mem _ (iwX0 w h)) hown hK hP 0 rfl rfl 0 (by decide) (hts _ (List.mem_cons_of_mem _ kw_150)) (fun _ h9 => h9) rfl dX0_step_16 ?_
    refine lv_if_le (tgt := 40) hx hb dX0_step_19 (by decide) (fun c_19 => ?_) (fun c_19 => ?_)
    · have hf := ok_t c_19 hf
      refine lv_lload_n hx hb dX0_step_40 rfl (lv_at hl 0 rfl) ?_
      refine lv_lstore (lv' := [(4, .long r_1), (2, .long r_1), (0, .ref ph), (1, .ref pf)]) hx hb dX0_step_41 hl (by decide) rfl (fun ls hl => ?_)
      refine lv_lload hx hb dX0_step_43 (lv_at hl 0 rfl) ?_
      refine lv_lload hx hb dX0_step_45 (lv_at hl 0 rfl) ?_
      refine lv_aload_n hx hb dX0_step_47 rfl (lv_at hl 3 rfl) ?_
      refine va_get (D := (dC, dI)) (ci := 1) (v := .long b1) (C := "ClassGroup$Form") (T := TX1) (N := 3) hx hb hts (fun w h => List.mem_cons_of_mem _ (iwX1 w h)) hown hK hP 1 rfl rfl 1 (by decide) (hts _ (List.mem_cons_of_mem _ kw_29)) (fun _ h9 => h9) rfl dX0_step_48 ?_
      refine lv_ladd hx hb dX0_step_51 ?_
      refine lv_ldc2 (v := 2) hx hb hown (hts _ (List.mem_cons_of_mem _ kw_122)) dX0_step_52 ?_
      refine lv_lload_n hx hb dX0_step_55 rfl (lv_at hl 1 rfl) ?_
      refine lv_lmul hx hb dX0_step_56 ?_
      obtain ⟨xc57, hc57, hf⟩ := ok_b hf
      have hPc := hP.sub (ws' := []) [] rfl
      have hDc := hD.sub (ws' := []) [] (by decide) rfl
      have hKc := hK.sub (tys' := []) [] rfl
      have hFc := va_free (wc := []) hD hS hA [] rfl
      refine va_calll (va_runS (As := [.long (r_1 + b1), .long (2 * r_1)]) (rest := [.long r_1]) ⟨hx, hb, hml, hown, hts⟩ (c_fmodJ l dC dI (r_1 + b1) (2 * r_1) H.size F xc57 hc57) (va_cwS 2 hts (gwS kw_123 kw_124 kw_4 kw_125) rfl rfl rfl (by decide +kernel) ⟨Nat.le_of_ble_eq_true rfl, Nat.le_of_ble_eq_true rfl⟩) ⟨fun a U g mk q => by obtain ⟨q0, q1, qP, qK, qD⟩ := q; exact ⟨q0, q1, qP, va_K.moved (u := U) (U := U.calling g mk a) (Vm.Alike.refl U.vm) qK, qD⟩, fun U hU hW => ⟨rfl, by rw [hU], by rw [hU]; exact hPc, va_K.moved hW.alike hKc, hDc.weaken (fun _ _ _ _ => trivial)⟩⟩ rfl rfl hl.1 rfl (lv_room (Nat.le_of_ble_eq_true rfl)) dX0_step_57 ⟨Nat.zero_le _, Nat.zero_le _⟩) hS (fun q _ h => hFc q h) hFc (fun r_2 u t H1 locs ht hvm hw hB hz1 hk1 hS => ?_)
      obtain ⟨⟩ := u
      obtain ⟨hP1, hK1, hD1⟩ := hB
      rw [ht] at hP1
      subst hw
      obtain ⟨hP, hD⟩ := va_join (wr := [(ph, .inr (0, [.int dd, .int rt, .int cl, .int rf, .int pr, .ref pn, .int gk, .int go, .int gc, .ref pg, .ref ps, .ref po, .ref pc, .ref pe, .ref p1, .ref p2, .ref pz])), (pf, .inr (1, [.long a1, .long b1, .long c1]))]) (w1 := []) hP hD [] [0, 1] rfl rfl (by decide) (by decide) hk1 hFc hP1 hD1
      generalize H1 = H at hP hS ⊢
      have hP : va_P (dC, dI) vwCl [(ph, .inr (0, [.int dd, .int rt, .int cl, .int rf, .int pr, .ref pn, .int gk, .int go, .int gc, .ref pg, .ref ps, .ref po, .ref pc, .ref pe, .ref p1, .ref p2, .ref pz])), (pf, .inr (1, [.long a1, .long b1, .long c1]))] H := hP
      have hD : va_D A [(ph, .inr (0, [.int dd, .int rt, .int cl, .int rf, .int pr, .ref pn, .int gk, .int go, .int gc, .ref pg, .ref ps, .ref po, .ref pc, .ref pe, .ref p1, .ref p2, .ref pz])), (pf, .inr (1, [.long a1, .long b1, .long c1]))] := hD
      refine lv_lsub hx hb dX0_step_60 ?_
      refine lv_topl (fun v6_3 ev6_3 => ?_)
      replace hf := bnd_ok ev6_3 hf
      refine lv_lstore (lv' := [(6, .long v6_3), (4, .long r_1), (2, .long r_1), (0, .ref ph), (1, .ref pf)]) hx hb dX0_step_61 hl (by decide) rfl (fun ls hl => ?_)
      refine lv_aload_n hx hb dX0_step_63 rfl (lv_at hl 4 rfl) ?_
      refine lv_aload_n hx hb dX0_step_64 rfl (lv_at hl 4 rfl) ?_
      refine va_get (D := (dC, dI)) (ci := 1) (v := .long c1) (C := "ClassGroup$Form") (T := TX1) (N := 3) hx hb hts (fun w h => List.mem_cons_of_mem _ (iwX1 w h)) hown hK hP 1 rfl rfl 2 (by decide) (hts _ (List.mem_cons_of_mem _ kw_31)) (fun _ h9 => h9) rfl dX0_step_65 ?_
      refine lv_lload hx hb dX0_step_68 (lv_at hl 0 rfl) ?_
      refine lv_lload hx hb dX0_step_70 (lv_at hl 0 rfl) ?_
      refine lv_lload hx hb dX0_step_72 (lv_at hl 0 rfl) ?_
      refine lv_lmul hx hb dX0_step_74 ?_
      refine lv_aload_n hx hb dX0_step_75 rfl (lv_at hl 3 rfl) ?_
      refine va_get (D := (dC, dI)) (ci := 0) (v := .int dd) (C := "ClassGroup") (T := TX0) (N := 17) hx hb hts (fun w h => List.mem_cons_of_mem _ (iwX0 w h)) hown hK hP 0 rfl rfl 0 (by decide) (hts _ (List.mem_cons_of_mem _ kw_150)) (fun _ h9 => h9) rfl dX0_step_76 ?_
      refine lv_i2l (v := (dd).toInt64) hx hb dX0_step_79 rfl ?_
      refine lv_lsub hx hb dX0_step_80 ?_
      refine lv_ldc2 (v := 4) hx hb hown (hts _ (List.mem_cons_of_mem _ kw_126)) dX0_step_81 ?_
      refine lv_aload_n hx hb dX0_step_84 rfl (lv_at hl 4 rfl) ?_
      refine va_get (D := (dC, dI)) (ci := 1) (v := .long c1) (C := "ClassGroup$Form") (T := TX1) (N := 3) hx hb hts (fun w h => List.mem_cons_of_mem _ (iwX1 w h)) hown hK hP 1 rfl rfl 2 (by decide) (hts _ (List.mem_cons_of_mem _ kw_31)) (fun _ h9 => h9) rfl dX0_step_85 ?_
      refine lv_lmul hx hb dX0_step_88 ?_
      obtain ⟨g_89, hf⟩ := ok_g hf
      refine lv_ldiv hx hb dX0_step_89 g_89 ?_
      obtain ⟨xc90, hc90, hf⟩ := ok_b hf
      have hPc := hP.sub (ws' := [(pf, .inr (1, [.long a1, .long b1, .long c1]))]) [1] rfl
      have hDc := hD.sub (ws' := [(pf, .inr (1, [.long a1, .long b1, .long c1]))]) [1] (by decide) rfl
      have hKc := hK.sub (tys' := []) [] rfl
      have hFc := va_free (wc := [(pf, .inr (1, [.long a1, .long b1, .long c1]))]) hD hS hA [1] rfl
      refine va_callv (va_runV (As := [.long c1, .long v6_3, .long (((v6_3 * v6_3) - (dd).toInt64) / (4 * c1))]) (rest := []) ⟨hx, hb, hml, hown, hts⟩ (c_Form_set l dC dI pf a1 b1 c1 c1 v6_3 (((v6_3 * v6_3) - (dd).toInt64) / (4 * c1)) H.size F xc90 hc90) (cwV 3 hts (gwV kw_104 kw_105 kw_106 kw_2 kw_107) rfl rfl rfl (by decide +kernel) ⟨Nat.le_of_ble_eq_true rfl, Nat.le_of_ble_eq_true rfl⟩) ⟨fun a U g mk q => by obtain ⟨q0, q1, qP, qK, qD⟩ := q; exact ⟨q0, q1, qP, va_K.moved (u := U) (U := U.calling g mk a) (Vm.Alike.refl U.vm) qK, qD⟩, va_recv hKc hPc (ci := 1) (q0 := 0) rfl rfl, fun U hU hW => ⟨rfl, by rw [hU], by rw [hU]; exact hPc, va_K.moved hW.alike hKc, hDc.weaken (fun _ _ _ _ => trivial)⟩⟩ rfl rfl hl.1 rfl (lv_room (Nat.le_of_ble_eq_true rfl)) dX0_step_90 ⟨Nat.zero_le _, Nat.zero_le _⟩) hS (fun q _ h => hFc q h) hFc (fun u t H1 locs ht hvm hw hB hz1 hk1 hS => ?_)
      obtain ⟨u_a1_4, u_b1_5, u_c1_6⟩ := u
      obtain ⟨hP1, hK1, hD1⟩ := hB
      rw [ht] at hP1
      subst hw
      obtain ⟨hP, hD⟩ := va_join (wr := [(ph, .inr (0, [.int dd, .int rt, .int cl, .int rf, .int pr, .ref pn, .int gk, .int go, .int gc, .ref pg, .ref ps, .ref po, .ref pc, .ref pe, .ref p1, .ref p2, .ref pz]))]) (w1 := [(pf, .inr (1, [.long u_a1_4, .long u_b1_5, .long u_c1_6]))]) hP hD [1] [0] rfl rfl (by decide) (by decide) hk1 hFc hP1 hD1
      generalize H1 = H at hP hS ⊢
      have hP : va_P (dC, dI) vwCl [(ph, .inr (0, [.int dd, .int rt, .int cl, .int rf, .int pr, .ref pn, .int gk, .int go, .int gc, .ref pg, .ref ps, .ref po, .ref pc, .ref pe, .ref p1, .ref p2, .ref pz])), (pf, .inr (1, [.long u_a1_4, .long u_b1_5, .long u_c1_6]))] H := hP
      have hD : va_D A [(ph, .inr (0, [.int dd, .int rt, .int cl, .int rf, .int pr, .ref pn, .int gk, .int go, .int gc, .ref pg, .ref ps, .ref po, .ref pc, .ref pe, .ref p1, .ref p2, .ref pz])), (pf, .inr (1, [.long u_a1_4, .long u_b1_5, .long u_c1_6]))] := hD
      have hP9 := hP.sub (ws' := [(ph, .inr (0, [.int dd, .int rt, .int cl, .int rf, .int pr, .ref pn, .int gk, .int go, .int gc, .ref pg, .ref ps, .ref po, .ref pc, .ref pe, .ref p1, .ref p2, .ref pz])), (pf, .inr (1, [.long u_a1_4, .long u_b1_5, .long u_c1_6]))]) [0, 1] rfl
      have hD9 := hD.sub (ws' := [(ph, .inr (0, [.int dd, .int rt, .int cl, .int rf, .int pr, .ref pn, .int gk, .int go, .int gc, .ref pg, .ref ps, .ref po, .ref pc, .ref pe, .ref p1, .ref p2, .ref pz])), (pf, .inr (1, [.long u_a1_4, .long u_b1_5, .long u_c1_6]))]) [0, 1] (by decide) rfl
      have hK9 := hK.sub (tys' := []) [] rfl
      exact W.vret hx hb hr (fun t ht hW => ⟨⟨(u_a1_4, u_b1_5, u_c1_6), rfl, (Option.some.inj hf), by rw [ht]; exact hP9, va_K.moved hW.alike hK9, hD9⟩, hS.F ht⟩) hS.2.2 dX0_step_93
    · have hf := ok_f c_19 hf
      refine lv_lload_n hx hb dX0_step_22 rfl (lv_at hl 0 rfl) ?_
      refine lv_aload_n hx hb dX0_step_23 rfl (lv_at hl 1 rfl) ?_
      refine va_get (D := (dC, dI)) (ci := 0) (v := .int rt) (C := "ClassGroup") (T := TX0) (N := 17) hx hb hts (fun w h => List.mem_cons_of_mem _ (iwX0 w h)) hown hK hP 0 rfl rfl 1 (by decide) (hts _ (List.mem_cons_of_mem _ kw_151)) (fun _ h9 => h9) rfl dX0_step_24 ?_
      refine lv_i2l (v := (rt).toInt64) hx hb dX0_step_27 rfl ?_
      refine W.lcmp hx hb dX0_step_28 ?_
      refine lv_if_gt (tgt := 40) hx hb dX0_step_29 (by decide) (fun c_29 => ?_) (fun c_29 => ?_)
      · have hf := ok_t c_29 hf
        refine lv_lload_n hx hb dX0_step_40 rfl (lv_at hl 0 rfl) ?_
        refine lv_lstore (lv' := [(4, .long r_1), (2, .long r_1), (0, .ref ph), (1, .ref pf)]) hx hb dX0_step_41 hl (by decide) rfl (fun ls hl => ?_)
        refine lv_lload hx hb dX0_step_43 (lv_at hl 0 rfl) ?_
        refine lv_lload hx hb dX0_step_45 (lv_at hl 0 rfl) ?_
        refine lv_aload_n hx hb dX0_step_47 rfl (lv_at hl 3 rfl) ?_
        refine va_get (D := (dC, dI)) (ci := 1) (v := .long b1) (C := "ClassGroup$Form") (T := TX1) (N := 3) hx hb hts (fun w h => List.mem_cons_of_mem _ (iwX1 w h)) hown hK hP 1 rfl rfl 1 (by decide) (hts _ (List.mem_cons_of_mem _ kw_29)) (fun _ h9 => h9) rfl dX0_step_48 ?_
        refine lv_ladd hx hb dX0_step_51 ?_
        refine lv_ldc2 (v := 2) hx hb hown (hts _ (List.mem_cons_of_mem _ kw_122)) dX0_step_52 ?_
        refine lv_lload_n hx hb dX0_step_55 rfl (lv_at hl 1 rfl) ?_
        refine lv_lmul hx hb dX0_step_56 ?_
        obtain ⟨xc57, hc57, hf⟩ := ok_b hf
        have hPc := hP.sub (ws' := []) [] rfl
        have hDc := hD.sub (ws' := []) [] (by decide) rfl
        have hKc := hK.sub (tys' := []) [] rfl
        have hFc := va_free (wc := []) hD hS hA [] rfl
        refine va_calll (va_runS (As := [.long (r_1 + b1), .long (2 * r_1)]) (rest := [.long r_1]) ⟨hx, hb, hml, hown, hts⟩ (c_fmodJ l dC dI (r_1 + b1) (2 * r_1) H.size F xc57 hc57) (va_cwS 2 hts (gwS kw_123 kw_124 kw_4 kw_125) rfl rfl rfl (by decide +kernel) ⟨Nat.le_of_ble_eq_true rfl, Nat.le_of_ble_eq_true rfl⟩) ⟨fun a U g mk q => by obtain ⟨q0, q1, qP, qK, qD⟩ := q; exact ⟨q0, q1, qP, va_K.moved (u := U) (U := U.calling g mk a) (Vm.Alike.refl U.vm) qK, qD⟩, fun U hU hW => ⟨rfl, by rw [hU], by rw [hU]; exact hPc, va_K.moved hW.alike hKc, hDc.weaken (fun _ _ _ _ => trivial)⟩⟩ rfl rfl hl.1 rfl (lv_room (Nat.le_of_ble_eq_true rfl)) dX0_step_57 ⟨Nat.zero_le _, Nat.zero_le _⟩) hS (fun q _ h => hFc q h) hFc (fun r_7 u t H1 locs ht hvm hw hB hz1 hk1 hS => ?_)
        obtain ⟨⟩ := u
        obtain ⟨hP1, hK1, hD1⟩ := hB
        rw [ht] at hP1
        subst hw
        obtain ⟨hP, hD⟩ := va_join (wr := [(ph, .inr (0, [.int dd, .int rt, .int cl, .int rf, .int pr, .ref pn, .int gk, .int go, .int gc, .ref pg, .ref ps, .ref po, .ref pc, .ref pe, .ref p1, .ref p2, .ref pz])), (pf, .inr (1, [.long a1, .long b1, .long c1]))]) (w1 := []) hP hD [] [0, 1] rfl rfl (by decide) (by decide) hk1 hFc hP1 hD1
        generalize H1 = H at hP hS ⊢
        have hP : va_P (dC, dI) vwCl [(ph, .inr (0, [.int dd, .int rt, .int cl, .int rf, .int pr, .ref pn, .int gk, .int go, .int gc, .ref pg, .ref ps, .ref po, .ref pc, .ref pe, .ref p1, .ref p2, .ref pz])), (pf, .inr (1, [.long a1, .long b1, .long c1]))] H := hP
        have hD : va_D A [(ph, .inr (0, [.int dd, .int rt, .int cl, .int rf, .int pr, .ref pn, .int gk, .int go, .int gc, .ref pg, .ref ps, .ref po, .ref pc, .ref pe, .ref p1, .ref p2, .ref pz])), (pf, .inr (1, [.long a1, .long b1, .long c1]))] := hD
        refine lv_lsub hx hb dX0_step_60 ?_
        refine lv_topl (fun v6_8 ev6_8 => ?_)
        replace hf := bnd_ok ev6_8 hf
        refine lv_lstore (lv' := [(6, .long v6_8), (4, .long r_1), (2, .long r_1), (0, .ref ph), (1, .ref pf)]) hx hb dX0_step_61 hl (by decide) rfl (fun ls hl => ?_)
        refine lv_aload_n hx hb dX0_step_63 rfl (lv_at hl 4 rfl) ?_
        refine lv_aload_n hx hb dX0_step_64 rfl (lv_at hl 4 rfl) ?_
        refine va_get (D := (dC, dI)) (ci := 1) (v := .long c1) (C := "ClassGroup$Form") (T := TX1) (N := 3) hx hb hts (fun w h => List.mem_cons_of_mem _ (iwX1 w h)) hown hK hP 1 rfl rfl 2 (by decide) (hts _ (List.mem_cons_of_mem _ kw_31)) (fun _ h9 => h9) rfl dX0_step_65 ?_
        refine lv_lload hx hb dX0_step_68 (lv_at hl 0 rfl) ?_
        refine lv_lload hx hb dX0_step_70 (lv_at hl 0 rfl) ?_
        refine lv_lload hx hb dX0_step_72 (lv_at hl 0 rfl) ?_
        refine lv_lmul hx hb dX0_step_74 ?_
        refine lv_aload_n hx hb dX0_step_75 rfl (lv_at hl 3 rfl) ?_
        refine va_get (D := (dC, dI)) (ci := 0) (v := .int dd) (C := "ClassGroup") (T := TX0) (N := 17) hx hb hts (fun w h => List.mem_cons_of_mem _ (iwX0 w h)) hown hK hP 0 rfl rfl 0 (by decide) (hts _ (List.mem_cons_of_mem _ kw_150)) (fun _ h9 => h9) rfl dX0_step_76 ?_
        refine lv_i2l (v := (dd).toInt64) hx hb dX0_step_79 rfl ?_
        refine lv_lsub hx hb dX0_step_80 ?_
        refine lv_ldc2 (v := 4) hx hb hown (hts _ (List.mem_cons_of_mem _ kw_126)) dX0_step_81 ?_
        refine lv_aload_n hx hb dX0_step_84 rfl (lv_at hl 4 rfl) ?_
        refine va_get (D := (dC, dI)) (ci := 1) (v := .long c1) (C := "ClassGroup$Form") (T := TX1) (N := 3) hx hb hts (fun w h => List.mem_cons_of_mem _ (iwX1 w h)) hown hK hP 1 rfl rfl 2 (by decide) (hts _ (List.mem_cons_of_mem _ kw_31)) (fun _ h9 => h9) rfl dX0_step_85 ?_
        refine lv_lmul hx hb dX0_step_88 ?_
        obtain ⟨g_89, hf⟩ := ok_g hf
        refine lv_ldiv hx hb dX0_step_89 g_89 ?_
        obtain ⟨xc90, hc90, hf⟩ := ok_b hf
        have hPc := hP.sub (ws' := [(pf, .inr (1, [.long a1, .long b1, .long c1]))]) [1] rfl
        have hDc := hD.sub (ws' := [(pf, .inr (1, [.long a1, .long b1, .long c1]))]) [1] (by decide) rfl
        have hKc := hK.sub (tys' := []) [] rfl
        have hFc := va_free (wc := [(pf, .inr (1, [.long a1, .long b1, .long c1]))]) hD hS hA [1] rfl
        refine va_callv (va_runV (As := [.long c1, .long v6_8, .long (((v6_8 * v6_8) - (dd).toInt64) / (4 * c1))]) (rest := []) ⟨hx, hb, hml, hown, hts⟩ (c_Form_set l dC dI pf a1 b1 c1 c1 v6_8 (((v6_8 * v6_8) - (dd).toInt64) / (4 * c1)) H.size F xc90 hc90) (cwV 3 hts (gwV kw_104 kw_105 kw_106 kw_2 kw_107) rfl rfl rfl (by decide +kernel) ⟨Nat.le_of_ble_eq_true rfl, Nat.le_of_ble_eq_true rfl⟩) ⟨fun a U g mk q => by obtain ⟨q0, q1, qP, qK, qD⟩ := q; exact ⟨q0, q1, qP, va_K.moved (u := U) (U := U.calling g mk a) (Vm.Alike.refl U.vm) qK, qD⟩, va_recv hKc hPc (ci := 1) (q0 := 0) rfl rfl, fun U hU hW => ⟨rfl, by rw [hU], by rw [hU]; exact hPc, va_K.moved hW.alike hKc, hDc.weaken (fun _ _ _ _ => trivial)⟩⟩ rfl rfl hl.1 rfl (lv_room (Nat.le_of_ble_eq_true rfl)) dX0_step_90 ⟨Nat.zero_le _, Nat.zero_le _⟩) hS (fun q _ h => hFc q h) hFc (fun u t H1 locs ht hvm hw hB hz1 hk1 hS => ?_)
        obtain ⟨u_a1_9, u_b1_10, u_c1_11⟩ := u
        obtain ⟨hP1, hK1, hD1⟩ := hB
        rw [ht] at hP1
        subst hw
        obtain ⟨hP, hD⟩ := va_join (wr := [(ph, .inr (0, [.int dd, .int rt, .int cl, .int rf, .int pr, .ref pn, .int gk, .int go, .int gc, .ref pg, .ref ps, .ref po, .ref pc, .ref pe, .ref p1, .ref p2, .ref pz]))]) (w1 := [(pf, .inr (1, [.long u_a1_9, .long u_b1_10, .long u_c1_11]))]) hP hD [1] [0] rfl rfl (by decide) (by decide) hk1 hFc hP1 hD1
        generalize H1 = H at hP hS ⊢
        have hP : va_P (dC, dI) vwCl [(ph, .inr (0, [.int dd, .int rt, .int cl, .int rf, .int pr, .ref pn, .int gk, .int go, .int gc, .ref pg, .ref ps, .ref po, .ref pc, .ref pe, .ref p1, .ref p2, .ref pz])), (pf, .inr (1, [.long u_a1_9, .long u_b1_10, .long u_c1_11]))] H := hP
        have hD : va_D A [(ph, .inr (0, [.int dd, .int rt, .int cl, .int rf, .int pr, .ref pn, .int gk, .int go, .int gc, .ref pg, .ref ps, .ref po, .ref pc, .ref pe, .ref p1, .ref p2, .ref pz])), (pf, .inr (1, [.long u_a1_9, .long u_b1_10, .long u_c1_11]))] := hD
        have hP9 := hP.sub (ws' := [(ph, .inr (0, [.int dd, .int rt, .int cl, .int rf, .int pr, .ref pn, .int gk, .int go, .int gc, .ref pg, .ref ps, .ref po, .ref pc, .ref pe, .ref p1, .ref p2, .ref pz])), (pf, .inr (1, [.long u_a1_9, .long u_b1_10, .long u_c1_11]))]) [0, 1] rfl
        have hD9 := hD.sub (ws' := [(ph, .inr (0, [.int dd, .int rt, .int cl, .int rf, .int pr, .ref pn, .int gk, .int go, .int gc, .ref pg, .ref ps, .ref po, .ref pc, .ref pe, .ref p1, .ref p2, .ref pz])), (pf, .inr (1, [.long u_a1_9, .long u_b1_10, .long u_c1_11]))]) [0, 1] (by decide) rfl
        have hK9 := hK.sub (tys' := []) [] rfl
        exact W.vret hx hb hr (fun t ht hW => ⟨⟨(u_a1_9, u_b1_10, u_c1_11), rfl, (Option.some.inj hf), by rw [ht]; exact hP9, va_K.moved hW.alike hK9, hD9⟩, hS.F ht⟩) hS.2.2 dX0_step_93
      · have hf := ok_f c_29 hf
        refine lv_aload_n hx hb dX0_step_32 rfl (lv_at hl 1 rfl) ?_
        refine va_get (D := (dC, dI)) (ci := 0) (v := .int rt) (C := "ClassGroup") (T := TX0) (N := 17) hx hb hts (fun w h => List.mem_cons_of_mem _ (iwX0 w h)) hown hK hP 0 rfl rfl 1 (by decide) (hts _ (List.mem_cons_of_mem _ kw_151)) (fun _ h9 => h9) rfl dX0_step_33 ?_
        refine lv_i2l (v := (rt).toInt64) hx hb dX0_step_36 rfl ?_
        refine lv_goto (tgt := 41) hx hb dX0_step_37 (by decide) ?_
        refine lv_topl (fun v4_12 ev4_12 => ?_)
        replace hf := bnd_ok ev4_12 hf
        refine lv_lstore (lv' := [(4, .long v4_12), (2, .long r_1), (0, .ref ph), (1, .ref pf)]) hx hb dX0_step_41 hl (by decide) rfl (fun ls hl => ?_)
        refine lv_lload hx hb dX0_step_43 (lv_at hl 0 rfl) ?_
        refine lv_lload hx hb dX0_step_45 (lv_at hl 0 rfl) ?_
        refine lv_aload_n hx hb dX0_step_47 rfl (lv_at hl 3 rfl) ?_
        refine va_get (D := (dC, dI)) (ci := 1) (v := .long b1) (C := "ClassGroup$Form") (T := TX1) (N := 3) hx hb hts (fun w h => List.mem_cons_of_mem _ (iwX1 w h)) hown hK hP 1 rfl rfl 1 (by decide) (hts _ (List.mem_cons_of_mem _ kw_29)) (fun _ h9 => h9) rfl dX0_step_48 ?_
        refine lv_ladd hx hb dX0_step_51 ?_
        refine lv_ldc2 (v := 2) hx hb hown (hts _ (List.mem_cons_of_mem _ kw_122)) dX0_step_52 ?_
        refine lv_lload_n hx hb dX0_step_55 rfl (lv_at hl 1 rfl) ?_
        refine lv_lmul hx hb dX0_step_56 ?_
        obtain ⟨xc57, hc57, hf⟩ := ok_b hf
        have hPc := hP.sub (ws' := []) [] rfl
        have hDc := hD.sub (ws' := []) [] (by decide) rfl
        have hKc := hK.sub (tys' := []) [] rfl
        have hFc := va_free (wc := []) hD hS hA [] rfl
        refine va_calll (va_runS (As := [.long (v4_12 + b1), .long (2 * r_1)]) (rest := [.long v4_12]) ⟨hx, hb, hml, hown, hts⟩ (c_fmodJ l dC dI (v4_12 + b1) (2 * r_1) H.size F xc57 hc57) (va_cwS 2 hts (gwS kw_123 kw_124 kw_4 kw_125) rfl rfl rfl (by decide +kernel) ⟨Nat.le_of_ble_eq_true rfl, Nat.le_of_ble_eq_true rfl⟩) ⟨fun a U g mk q => by obtain ⟨q0, q1, qP, qK, qD⟩ := q; exact ⟨q0, q1, qP, va_K.moved (u := U) (U := U.calling g mk a) (Vm.Alike.refl U.vm) qK, qD⟩, fun U hU hW => ⟨rfl, by rw [hU], by rw [hU]; exact hPc, va_K.moved hW.alike hKc, hDc.weaken (fun _ _ _ _ => trivial)⟩⟩ rfl rfl hl.1 rfl (lv_room (Nat.le_of_ble_eq_true rfl)) dX0_step_57 ⟨Nat.zero_le _, Nat.zero_le _⟩) hS (fun q _ h => hFc q h) hFc (fun r_13 u t H1 locs ht hvm hw hB hz1 hk1 hS => ?_)
        obtain ⟨⟩ := u
        obtain ⟨hP1, hK1, hD1⟩ := hB
        rw [ht] at hP1
        subst hw
        obtain ⟨hP, hD⟩ := va_join (wr := [(ph, .inr (0, [.int dd, .int rt, .int cl, .int rf, .int pr, .ref pn, .int gk, .int go, .int gc, .ref pg, .ref ps, .ref po, .ref pc, .ref pe, .ref p1, .ref p2, .ref pz])), (pf, .inr (1, [.long a1, .long b1, .long c1]))]) (w1 := []) hP hD [] [0, 1] rfl rfl (by decide) (by decide) hk1 hFc hP1 hD1
        generalize H1 = H at hP hS ⊢
        have hP : va_P (dC, dI) vwCl [(ph, .inr (0, [.int dd, .int rt, .int cl, .int rf, .int pr, .ref pn, .int gk, .int go, .int gc, .ref pg, .ref ps, .ref po, .ref pc, .ref pe, .ref p1, .ref p2, .ref pz])), (pf, .inr (1, [.long a1, .long b1, .long c1]))] H := hP
        have hD : va_D A [(ph, .inr (0, [.int dd, .int rt, .int cl, .int rf, .int pr, .ref pn, .int gk, .int go, .int gc, .ref pg, .ref ps, .ref po, .ref pc, .ref pe, .ref p1, .ref p2, .ref pz])), (pf, .inr (1, [.long a1, .long b1, .long c1]))] := hD
        refine lv_lsub hx hb dX0_step_60 ?_
        refine lv_topl (fun v6_14 ev6_14 => ?_)
        replace hf := bnd_ok ev6_14 hf
        refine lv_lstore (lv' := [(6, .long v6_14), (4, .long v4_12), (2, .long r_1), (0, .ref ph), (1, .ref pf)]) hx hb dX0_step_61 hl (by decide) rfl (fun ls hl => ?_)
        refine lv_aload_n hx hb dX0_step_63 rfl (lv_at hl 4 rfl) ?_
        refine lv_aload_n hx hb dX0_step_64 rfl (lv_at hl 4 rfl) ?_
        refine va_get (D := (dC, dI)) (ci := 1) (v := .long c1) (C := "ClassGroup$Form") (T := TX1) (N := 3) hx hb hts (fun w h => List.mem_cons_of_mem _ (iwX1 w h)) hown hK hP 1 rfl rfl 2 (by decide) (hts _ (List.mem_cons_of_mem _ kw_31)) (fun _ h9 => h9) rfl dX0_step_65 ?_
        refine lv_lload hx hb dX0_step_68 (lv_at hl 0 rfl) ?_
        refine lv_lload hx hb dX0_step_70 (lv_at hl 0 rfl) ?_
        refine lv_lload hx hb dX0_step_72 (lv_at hl 0 rfl) ?_
        refine lv_lmul hx hb dX0_step_74 ?_
        refine lv_aload_n hx hb dX0_step_75 rfl (lv_at hl 3 rfl) ?_
        refine va_get (D := (dC, dI)) (ci := 0) (v := .int dd) (C := "ClassGroup") (T := TX0) (N := 17) hx hb hts (fun w h => List.mem_cons_of_mem _ (iwX0 w h)) hown hK hP 0 rfl rfl 0 (by decide) (hts _ (List.mem_cons_of_mem _ kw_150)) (fun _ h9 => h9) rfl dX0_step_76 ?_
        refine lv_i2l (v := (dd).toInt64) hx hb dX0_step_79 rfl ?_
        refine lv_lsub hx hb dX0_step_80 ?_
        refine lv_ldc2 (v := 4) hx hb hown (hts _ (List.mem_cons_of_mem _ kw_126)) dX0_step_81 ?_
        refine lv_aload_n hx hb dX0_step_84 rfl (lv_at hl 4 rfl) ?_
        refine va_get (D := (dC, dI)) (ci := 1) (v := .long c1) (C := "ClassGroup$Form") (T := TX1) (N := 3) hx hb hts (fun w h => List.mem_cons_of_mem _ (iwX1 w h)) hown hK hP 1 rfl rfl 2 (by decide) (hts _ (List.mem_cons_of_mem _ kw_31)) (fun _ h9 => h9) rfl dX0_step_85 ?_
        refine lv_lmul hx hb dX0_step_88 ?_
        obtain ⟨g_89, hf⟩ := ok_g hf
        refine lv_ldiv hx hb dX0_step_89 g_89 ?_
        obtain ⟨xc90, hc90, hf⟩ := ok_b hf
        have hPc := hP.sub (ws' := [(pf, .inr (1, [.long a1, .long b1, .long c1]))]) [1] rfl
        have hDc := hD.sub (ws' := [(pf, .inr (1, [.long a1, .long b1, .long c1]))]) [1] (by decide) rfl
        have hKc := hK.sub (tys' := []) [] rfl
        have hFc := va_free (wc := [(pf, .inr (1, [.long a1, .long b1, .long c1]))]) hD hS hA [1] rfl
        refine va_callv (va_runV (As := [.long c1, .long v6_14, .long (((v6_14 * v6_14) - (dd).toInt64) / (4 * c1))]) (rest := []) ⟨hx, hb, hml, hown, hts⟩ (c_Form_set l dC dI pf a1 b1 c1 c1 v6_14 (((v6_14 * v6_14) - (dd).toInt64) / (4 * c1)) H.size F xc90 hc90) (cwV 3 hts (gwV kw_104 kw_105 kw_106 kw_2 kw_107) rfl rfl rfl (by decide +kernel) ⟨Nat.le_of_ble_eq_true rfl, Nat.le_of_ble_eq_true rfl⟩) ⟨fun a U g mk q => by obtain ⟨q0, q1, qP, qK, qD⟩ := q; exact ⟨q0, q1, qP, va_K.moved (u := U) (U := U.calling g mk a) (Vm.Alike.refl U.vm) qK, qD⟩, va_recv hKc hPc (ci := 1) (q0 := 0) rfl rfl, fun U hU hW => ⟨rfl, by rw [hU], by rw [hU]; exact hPc, va_K.moved hW.alike hKc, hDc.weaken (fun _ _ _ _ => trivial)⟩⟩ rfl rfl hl.1 rfl (lv_room (Nat.le_of_ble_eq_true rfl)) dX0_step_90 ⟨Nat.zero_le _, Nat.zero_le _⟩) hS (fun q _ h => hFc q h) hFc (fun u t H1 locs ht hvm hw hB hz1 hk1 hS => ?_)
        obtain ⟨u_a1_15, u_b1_16, u_c1_17⟩ := u
        obtain ⟨hP1, hK1, hD1⟩ := hB
        rw [ht] at hP1
        subst hw
        obtain ⟨hP, hD⟩ := va_join (wr := [(ph, .inr (0, [.int dd, .int rt, .int cl, .int rf, .int pr, .ref pn, .int gk, .int go, .int gc, .ref pg, .ref ps, .ref po, .ref pc, .ref pe, .ref p1, .ref p2, .ref pz]))]) (w1 := [(pf, .inr (1, [.long u_a1_15, .long u_b1_16, .long u_c1_17]))]) hP hD [1] [0] rfl rfl (by decide) (by decide) hk1 hFc hP1 hD1
        generalize H1 = H at hP hS ⊢
        have hP : va_P (dC, dI) vwCl [(ph, .inr (0, [.int dd, .int rt, .int cl, .int rf, .int pr, .ref pn, .int gk, .int go, .int gc, .ref pg, .ref ps, .ref po, .ref pc, .ref pe, .ref p1, .ref p2, .ref pz])), (pf, .inr (1, [.long u_a1_15, .long u_b1_16, .long u_c1_17]))] H := hP
        have hD : va_D A [(ph, .inr (0, [.int dd, .int rt, .int cl, .int rf, .int pr, .ref pn, .int gk, .int go, .int gc, .ref pg, .ref ps, .ref po, .ref pc, .ref pe, .ref p1, .ref p2, .ref pz])), (pf, .inr (1, [.long u_a1_15, .long u_b1_16, .long u_c1_17]))] := hD
        have hP9 := hP.sub (ws' := [(ph, .inr (0, [.int dd, .int rt, .int cl, .int rf, .int pr, .ref pn, .int gk, .int go, .int gc, .ref pg, .ref ps, .ref po, .ref pc, .ref pe, .ref p1, .ref p2, .ref pz])), (pf, .inr (1, [.long u_a1_15, .long u_b1_16, .long u_c1_17]))]) [0, 1] rfl
        have hD9 := hD.sub (ws' := [(ph, .inr (0, [.int dd, .int rt, .int cl, .int rf, .int pr, .ref pn, .int gk, .int go, .int gc, .ref pg, .ref ps, .ref po, .ref pc, .ref pe, .ref p1, .ref p2, .ref pz])), (pf, .inr (1, [.long u_a1_15, .long u_b1_16, .long u_c1_17]))]) [0, 1] (by decide) rfl
        have hK9 := hK.sub (tys' := []) [] rfl
        exact W.vret hx hb hr (fun t ht hW => ⟨⟨(u_a1_15, u_b1_16, u_c1_17), rfl, (Option.some.inj hf), by rw [ht]; exact hP9, va_K.moved hW.alike hK9, hD9⟩, hS.F ht⟩) hS.2.2 dX0_step_93
  · have hf := ok_t c_11 hf
    have hP9 := hP.sub (ws' := [(ph, .inr (0, [.int dd, .int rt, .int cl, .int rf, .int pr, .ref pn, .int gk, .int go, .int gc, .ref pg, .ref ps, .ref po, .ref pc, .ref pe, .ref p1, .ref p2, .ref pz])), (pf, .inr (1, [.long a1, .long b1, .long c1]))]) [0, 1] rfl
    have hD9 := hD.sub (ws' := [(ph, .inr (0, [.int dd, .int rt, .int cl, .int rf, .int pr, .ref pn, .int gk, .int go, .int gc, .ref pg, .ref ps, .ref po, .ref pc, .ref pe, .ref p1, .ref p2, .ref pz])), (pf, .inr (1, [.long a1, .long b1, .long c1]))]) [0, 1] (by decide) rfl
    have hK9 := hK.sub (tys' := []) [] rfl
    exact W.vret hx hb hr (fun t ht hW => ⟨⟨(a1, b1, c1), rfl, (Option.some.inj hf), by rw [ht]; exact hP9, va_K.moved hW.alike hK9, hD9⟩, hS.F ht⟩) hS.2.2 dX0_step_14

def f_reduce_L2 (F : Nat) (dd : Int32) (rt : Int32) : Nat → Int32 → Int64 → Int64 → Int64 → Option (Int64 × Int64 × Int64)
  | 0, _, _, _, _ => none
  | n2 + 1, w2_1, m_a1_2, m_b1_3, m_c1_4 => (if (1000000 : Int32) ≤ w2_1 then some (m_a1_2, m_b1_3, m_c1_4) else Option.bind (f_isRed F dd rt m_a1_2 m_b1_3 m_c1_4) (fun r_5 => (if r_5 = 0 then Option.bind (f_step F dd rt m_a1_2 m_b1_3 m_c1_4) (fun (u_a1_6, u_b1_7, u_c1_8) => bnd (w2_1 + 1) (fun v2_9 => f_reduce_L2 F dd rt n2 v2_9 u_a1_6 u_b1_7 u_c1_8)) else some (m_a1_2, m_b1_3, m_c1_4))))
def f_reduce (F : Nat) (dd : Int32) (rt : Int32) (a1 : Int64) (b1 : Int64) (c1 : Int64) : Option (Int64 × Int64 × Int64) := Option.bind (f_reduce_L2 F dd rt F 0 a1 b1 c1) (fun (y_a1_10, y_b1_11, y_c1_12) => some (y_a1_10, y_b1_11, y_c1_12))
set_option maxHeartbeats 4000000 in
set_option maxRecDepth 100000 in
theorem c_reduce (l : Launch) (dC : Nat → ClassId) (dI : Nat → Nat → Nat) (ph : Nat) (dd : Int32) (rt : Int32) (cl : Int32) (rf : Int32) (pr : Int32) (pn : Nat) (gk : Int32) (go : Int32) (gc : Int32) (pg : Nat) (ps : Nat) (po : Nat) (pc : Nat) (pe : Nat) (p1 : Nat) (p2 : Nat) (pz : Nat) (pf : Nat) (a1 : Int64) (b1 : Int64) (c1 : Int64) (sz : Nat) (F : Nat) (out : Int64 × Int64 × Int64) (hf : f_reduce F dd rt a1 b1 c1 = some out) : Met l yX0_reduce wsX0_reduce ({ frames := 2, cells := 0, slots := 0, locals := 53 }) (va_Pc [.ref ph, .ref pf] (fun U => U.heap.size = sz ∧ va_P (dC, dI) vwCl [(ph, .inr (0, [.int dd, .int rt, .int cl, .int rf, .int pr, .ref pn, .int gk, .int go, .int gc, .ref pg, .ref ps, .ref po, .ref pc, .ref pe, .ref p1, .ref p2, .ref pz])), (pf, .inr (1, [.long a1, .long b1, .long c1]))] U.heap ∧ va_K (dC, dI) vwCl [] U ∧ va_D (fun _ => True) [(ph, .inr (0, [.int dd, .int rt, .int cl, .int rf, .int pr, .ref pn, .int gk, .int go, .int gc, .ref pg, .ref ps, .ref po, .ref pc, .ref pe, .ref p1, .ref p2, .ref pz])), (pf, .inr (1, [.long a1, .long b1, .long c1]))])) (va_Qv (fun (u : Int64 × Int64 × Int64) => u = out) (fun (u : Int64 × Int64 × Int64) t => match u with | (u_a1, u_b1, u_c1) => va_P (dC, dI) vwCl [(ph, .inr (0, [.int dd, .int rt, .int cl, .int rf, .int pr, .ref pn, .int gk, .int go, .int gc, .ref pg, .ref ps, .ref po, .ref pc, .ref pe, .ref p1, .ref p2, .ref pz])), (pf, .inr (1, [.long u_a1, .long u_b1, .long u_c1]))] t.heap ∧ va_K (dC, dI) vwCl [] t ∧ va_D (va_A [(ph, .inr (0, [.int dd, .int rt, .int cl, .int rf, .int pr, .ref pn, .int gk, .int go, .int gc, .ref pg, .ref ps, .ref po, .ref pc, .ref pe, .ref p1, .ref p2, .ref pz])), (pf, .inr (1, [.long a1, .long b1, .long c1]))] sz) [(ph, .inr (0, [.int dd, .int rt, .int cl, .int rf, .int pr, .ref pn, .int gk, .int go, .int gc, .ref pg, .ref ps, .ref po, .ref pc, .ref pe, .ref p1, .ref p2, .ref pz])), (pf, .inr (1, [.long u_a1, .long u_b1, .long u_c1]))]) (va_A [(ph, .inr (0, [.int dd, .int rt, .int cl, .int rf, .int pr, .ref pn, .int gk, .int go, .int gc, .ref pg, .ref ps, .ref po, .ref pc, .ref pe, .ref p1, .ref p2, .ref pz])), (pf, .inr (1, [.long a1, .long b1, .long c1]))] sz)) 0 0 (va_A [(ph, .inr (0, [.int dd, .int rt, .int cl, .int rf, .int pr, .ref pn, .int gk, .int go, .int gc, .ref pg, .ref ps, .ref po, .ref pc, .ref pe, .ref p1, .ref p2, .ref pz])), (pf, .inr (1, [.long a1, .long b1, .long c1]))] sz) := by
  refine Met.ofW (cc := cX0_reduce) (maxL := 3) (ret := none) (by decide +kernel) rfl ?_
  intro p e s m args below meth c s₁ B hml hv
  obtain ⟨rfl, hsz, hP, hK, hD0⟩ := hv
  have hx := B.exec
  have hb := B.bytes
  have hr := B.returns
  have hts := atoms_spec (ws := wsX0_reduce) B.pre
  have hown : s.vm.findClass "ClassGroup" = some m.cls := findClass_of_methodNamed B.named
  have hlocks := B.notSynchronized
  subst hsz
  have hD := hD0.self (sz := s.heap.size)
  generalize hAe : va_A [(ph, .inr (0, [.int dd, .int rt, .int cl, .int rf, .int pr, .ref pn, .int gk, .int go, .int gc, .ref pg, .ref ps, .ref po, .ref pc, .ref pe, .ref p1, .ref p2, .ref pz])), (pf, .inr (1, [.long a1, .long b1, .long c1]))] s.heap.size = A at hD ⊢
  have hA : ∀ q : Nat, s.heap.size ≤ q → A q := fun q h => by rw [← hAe]; exact Or.inr h
  have hS : va_S A s.heap s.heap [] := va_S.rf
  have hl := lv_entry ([.ref ph, .ref pf]) (n := 3) (Nat.le_of_ble_eq_true rfl)
  rw [lg_entry_eq]
  generalize (lg_sl ([.ref ph, .ref pf]) ++ List.replicate (3 - (lg_sl ([.ref ph, .ref pf])).length) Slot.unset).toArray = ls at hl ⊢
  have hl : lv_has ls 3 [(0, .ref ph), (1, .ref pf)] := hl
  unfold f_reduce at hf
  refine lv_iconst (v := 0) hx hb dX0_reduce_0 (by decide) ?_
  refine lv_istore_n (lv' := [(2, .int 0), (0, .ref ph), (1, .ref pf)]) hx hb dX0_reduce_1 rfl hl (by decide) rfl (fun ls hl => ?_)
  have hL2 : ∀ (n2 : Nat) (w2_1 : Int32) (m_a1_2 : Int64) (m_b1_3 : Int64) (m_c1_4 : Int64) (res : Int64 × Int64 × Int64) (H : Heap) (locs : List Loc) (ls : Array Slot) (Q : State → Prop), f_reduce_L2 F dd rt n2 w2_1 m_a1_2 m_b1_3 m_c1_4 = some res → va_P (dC, dI) vwCl [(ph, .inr (0, [.int dd, .int rt, .int cl, .int rf, .int pr, .ref pn, .int gk, .int go, .int gc, .ref pg, .ref ps, .ref po, .ref pc, .ref pe, .ref p1, .ref p2, .ref pz])), (pf, .inr (1, [.long m_a1_2, .long m_b1_3, .long m_c1_4]))] H → va_D A [(ph, .inr (0, [.int dd, .int rt, .int cl, .int rf, .int pr, .ref pn, .int gk, .int go, .int gc, .ref pg, .ref ps, .ref po, .ref pc, .ref pe, .ref p1, .ref p2, .ref pz])), (pf, .inr (1, [.long m_a1_2, .long m_b1_3, .long m_c1_4]))] → va_S A s.heap H locs → lv_has ls 3 [(0, .ref ph), (1, .ref pf), (2, .int w2_1)] → (∀ (y_a1_10 : Int64) (y_b1_11 : Int64) (y_c1_12 : Int64) (H : Heap) (locs : List Loc) (ls : Array Slot), (y_a1_10, y_b1_11, y_c1_12) = res → va_P (dC, dI) vwCl [(ph, .inr (0, [.int dd, .int rt, .int cl, .int rf, .int pr, .ref pn, .int gk, .int go, .int gc, .ref pg, .ref ps, .ref po, .ref pc, .ref pe, .ref p1, .ref p2, .ref pz])), (pf, .inr (1, [.long y_a1_10, .long y_b1_11, .long y_c1_12]))] H → va_D A [(ph, .inr (0, [.int dd, .int rt, .int cl, .int rf, .int pr, .ref pn, .int gk, .int go, .int gc, .ref pg, .ref ps, .ref po, .ref pc, .ref pe, .ref p1, .ref p2, .ref pz])), (pf, .inr (1, [.long y_a1_10, .long y_b1_11, .long y_c1_12]))] → va_S A s.heap H locs → lv_has ls 3 [] → W p l e ((headSpec wsX0_reduce ({ frames := 2, cells := 0, slots := 0, locals := 53 })).room) s m ([.ref ph, .ref pf] : List Value).toArray below meth c H locs 0 0 Q (F0 m 27 ls [])) → W p l e ((headSpec wsX0_reduce ({ frames := 2, cells := 0, slots := 0, locals := 53 })).room) s m ([.ref ph, .ref pf] : List Value).toArray below meth c H locs 0 0 Q (F0 m 2 ls []) := by
    intro n2
    induction n2 with
    | zero => intro w2_1 m_a1_2 m_b1_3 m_c1_4 res H locs ls Q hf; simp [f_reduce_L2] at hf
    | succ n2 ih2 =>
      intro w2_1 m_a1_2 m_b1_3 m_c1_4 res H locs ls Q hf hP hD hS hl k2_0
      rw [f_reduce_L2] at hf
      refine lv_iload_n hx hb dX0_reduce_2 rfl (lv_at hl 2 rfl) ?_
      refine lv_ldc (v := 1000000) hx hb hown (hts _ (List.mem_cons_of_mem _ kw_87)) dX0_reduce_3 ?_
      refine lv_icmp_ge (tgt := 27) hx hb dX0_reduce_5 (by decide) (fun c_5 => ?_) (fun c_5 => ?_)
      · have hf := ok_t c_5 hf
        exact k2_0 m_a1_2 m_b1_3 m_c1_4 _ _ _ (Option.some.inj hf) (hP.sub [0, 1] rfl) (hD.sub [0, 1] (by decide) rfl) hS (lv_sub hl [] rfl)
      · have hf := ok_f c_5 hf
        refine lv_aload_n hx hb dX0_reduce_8 rfl (lv_at hl 0 rfl) ?_
        refine lv_aload_n hx hb dX0_reduce_9 rfl (lv_at hl 1 rfl) ?_
        obtain ⟨xc10, hc10, hf⟩ := ok_b hf
        have hPc := hP.sub (ws' := [(ph, .inr (0, [.int dd, .int rt, .int cl, .int rf, .int pr, .ref pn, .int gk, .int go, .int gc, .ref pg, .ref ps, .ref po, .ref pc, .ref pe, .ref p1, .ref p2, .ref pz])), (pf, .inr (1, [.long m_a1_2, .long m_b1_3, .long m_c1_4]))]) [0, 1] rfl
        have hDc := hD.sub (ws' := [(ph, .inr (0, [.int dd, .int rt, .int cl, .int rf, .int pr, .ref pn, .int gk, .int go, .int gc, .ref pg, .ref ps, .ref po, .ref pc, .ref pe, .ref p1, .ref p2, .ref pz])), (pf, .inr (1, [.long m_a1_2, .long m_b1_3, .long m_c1_4]))]) [0, 1] (by decide) rfl
        have hKc := hK.sub (tys' := []) [] rfl
        have hFc := va_free (wc := [(ph, .inr (0, [.int dd, .int rt, .int cl, .int rf, .int pr, .ref pn, .int gk, .int go, .int gc, .ref pg, .ref ps, .ref po, .ref pc, .ref pe, .ref p1, .ref p2, .ref pz])), (pf, .inr (1, [.long m_a1_2, .long m_b1_3, .long m_c1_4]))]) hD hS hA [0, 1] rfl
        refine va_calli (va_runV (As := [.ref pf]) (rest := []) ⟨hx, hb, hml, hown, hts⟩ (c_isRed l dC dI ph dd rt cl rf pr pn gk go gc pg ps po pc pe p1 p2 pz pf m_a1_2 m_b1_3 m_c1_4 H.size F xc10 hc10) (cwV 1 hts (gwV kw_131 kw_133 ks_11 kw_1 kw_134) rfl rfl rfl (by decide +kernel) ⟨Nat.le_of_ble_eq_true rfl, Nat.le_of_ble_eq_true rfl⟩) ⟨fun a U g mk q => by obtain ⟨q0, q1, qP, qK, qD⟩ := q; exact ⟨q0, q1, qP, va_K.moved (u := U) (U := U.calling g mk a) (Vm.Alike.refl U.vm) qK, qD⟩, va_recv hKc hPc (ci := 0) (q0 := 0) rfl rfl, fun U hU hW => ⟨rfl, by rw [hU], by rw [hU]; exact hPc, va_K.moved hW.alike hKc, hDc.weaken (fun _ _ _ _ => trivial)⟩⟩ rfl rfl hl.1 rfl (lv_room (Nat.le_of_ble_eq_true rfl)) dX0_reduce_10 ⟨Nat.zero_le _, Nat.zero_le _⟩) hS (fun q _ h => hFc q h) hFc (fun r_5 u t H1 locs ht hvm hw hB hz1 hk1 hS => ?_)
        obtain ⟨⟩ := u
        obtain ⟨hP1, hK1, hD1⟩ := hB
        rw [ht] at hP1
        subst hw
        obtain ⟨hP, hD⟩ := va_join (wr := []) (w1 := [(ph, .inr (0, [.int dd, .int rt, .int cl, .int rf, .int pr, .ref pn, .int gk, .int go, .int gc, .ref pg, .ref ps, .ref po, .ref pc, .ref pe, .ref p1, .ref p2, .ref pz])), (pf, .inr (1, [.long m_a1_2, .long m_b1_3, .long m_c1_4]))]) hP hD [0, 1] [] rfl rfl (by decide) (by decide) hk1 hFc hP1 hD1
        generalize H1 = H at hP hS ⊢
        have hP : va_P (dC, dI) vwCl [(ph, .inr (0, [.int dd, .int rt, .int cl, .int rf, .int pr, .ref pn, .int gk, .int go, .int gc, .ref pg, .ref ps, .ref po, .ref pc, .ref pe, .ref p1, .ref p2, .ref pz])), (pf, .inr (1, [.long m_a1_2, .long m_b1_3, .long m_c1_4]))] H := hP
        have hD : va_D A [(ph, .inr (0, [.int dd, .int rt, .int cl, .int rf, .int pr, .ref pn, .int gk, .int go, .int gc, .ref pg, .ref ps, .ref po, .ref pc, .ref pe, .ref p1, .ref p2, .ref pz])), (pf, .inr (1, [.long m_a1_2, .long m_b1_3, .long m_c1_4]))] := hD
        refine lv_if_ne (tgt := 27) hx hb dX0_reduce_13 (by decide) (fun c_13 => ?_) (fun c_13 => ?_)
        · have hf := ok_f c_13 hf
          exact k2_0 m_a1_2 m_b1_3 m_c1_4 _ _ _ (Option.some.inj hf) (hP.sub [0, 1] rfl) (hD.sub [0, 1] (by decide) rfl) hS (lv_sub hl [] rfl)
        · have hf := ok_t c_13 hf
          refine lv_aload_n hx hb dX0_reduce_16 rfl (lv_at hl 0 rfl) ?_
          refine lv_aload_n hx hb dX0_reduce_17 rfl (lv_at hl 1 rfl) ?_
          obtain ⟨xc18, hc18, hf⟩ := ok_b hf
          have hPc := hP.sub (ws' := [(ph, .inr (0, [.int dd, .int rt, .int cl, .int rf, .int pr, .ref pn, .int gk, .int go, .int gc, .ref pg, .ref ps, .ref po, .ref pc, .ref pe, .ref p1, .ref p2, .ref pz])), (pf, .inr (1, [.long m_a1_2, .long m_b1_3, .long m_c1_4]))]) [0, 1] rfl
          have hDc := hD.sub (ws' := [(ph, .inr (0, [.int dd, .int rt, .int cl, .int rf, .int pr, .ref pn, .int gk, .int go, .int gc, .ref pg, .ref ps, .ref po, .ref pc, .ref pe, .ref p1, .ref p2, .ref pz])), (pf, .inr (1, [.long m_a1_2, .long m_b1_3, .long m_c1_4]))]) [0, 1] (by decide) rfl
          have hKc := hK.sub (tys' := []) [] rfl
          have hFc := va_free (wc := [(ph, .inr (0, [.int dd, .int rt, .int cl, .int rf, .int pr, .ref pn, .int gk, .int go, .int gc, .ref pg, .ref ps, .ref po, .ref pc, .ref pe, .ref p1, .ref p2, .ref pz])), (pf, .inr (1, [.long m_a1_2, .long m_b1_3, .long m_c1_4]))]) hD hS hA [0, 1] rfl
          refine va_callv (va_runV (As := [.ref pf]) (rest := []) ⟨hx, hb, hml, hown, hts⟩ (c_step l dC dI ph dd rt cl rf pr pn gk go gc pg ps po pc pe p1 p2 pz pf m_a1_2 m_b1_3 m_c1_4 H.size F xc18 hc18) (cwV 1 hts (gwV kw_115 kw_117 ks_9 kw_1 kw_118) rfl rfl rfl (by decide +kernel) ⟨Nat.le_of_ble_eq_true rfl, Nat.le_of_ble_eq_true rfl⟩) ⟨fun a U g mk q => by obtain ⟨q0, q1, qP, qK, qD⟩ := q; exact ⟨q0, q1, qP, va_K.moved (u := U) (U := U.calling g mk a) (Vm.Alike.refl U.vm) qK, qD⟩, va_recv hKc hPc (ci := 0) (q0 := 0) rfl rfl, fun U hU hW => ⟨rfl, by rw [hU], by rw [hU]; exact hPc, va_K.moved hW.alike hKc, hDc.weaken (fun _ _ _ _ => trivial)⟩⟩ rfl rfl hl.1 rfl (lv_room (Nat.le_of_ble_eq_true rfl)) dX0_reduce_18 ⟨Nat.zero_le _, Nat.zero_le _⟩) hS (fun q _ h => hFc q h) hFc (fun u t H1 locs ht hvm hw hB hz1 hk1 hS => ?_)
          obtain ⟨u_a1_6, u_b1_7, u_c1_8⟩ := u
          obtain ⟨hP1, hK1, hD1⟩ := hB
          rw [ht] at hP1
          subst hw
          obtain ⟨hP, hD⟩ := va_join (wr := []) (w1 := [(ph, .inr (0, [.int dd, .int rt, .int cl, .int rf, .int pr, .ref pn, .int gk, .int go, .int gc, .ref pg, .ref ps, .ref po, .ref pc, .ref pe, .ref p1, .ref p2, .ref pz])), (pf, .inr (1, [.long u_a1_6, .long u_b1_7, .long u_c1_8]))]) hP hD [0, 1] [] rfl rfl (by decide) (by decide) hk1 hFc hP1 hD1
          generalize H1 = H at hP hS ⊢
          have hP : va_P (dC, dI) vwCl [(ph, .inr (0, [.int dd, .int rt, .int cl, .int rf, .int pr, .ref pn, .int gk, .int go, .int gc, .ref pg, .ref ps, .ref po, .ref pc, .ref pe, .ref p1, .ref p2, .ref pz])), (pf, .inr (1, [.long u_a1_6, .long u_b1_7, .long u_c1_8]))] H := hP
          have hD : va_D A [(ph, .inr (0, [.int dd, .int rt, .int cl, .int rf, .int pr, .ref pn, .int gk, .int go, .int gc, .ref pg, .ref ps, .ref po, .ref pc, .ref pe, .ref p1, .ref p2, .ref pz])), (pf, .inr (1, [.long u_a1_6, .long u_b1_7, .long u_c1_8]))] := hD
          obtain ⟨v2_9, ev2_9⟩ : ∃ y : Int32, y = w2_1 + 1 := ⟨_, rfl⟩
          replace hf := bnd_ok ev2_9 hf
          refine lv_iinc (v := v2_9) (lv' := [(2, .int v2_9), (0, .ref ph), (1, .ref pf)]) hx hb dX0_reduce_21 hl (k := 2) rfl (by rw [ev2_9]; rfl) (by decide) rfl (fun ls hl => ?_)
          refine lv_goto (tgt := 2) hx hb dX0_reduce_24 (by decide) ?_
          exact ih2 v2_9 u_a1_6 u_b1_7 u_c1_8 _ _ _ _ _ hf (hP.sub [0, 1] rfl) (hD.sub [0, 1] (by decide) rfl) hS (lv_sub hl [1, 2, 0] rfl) k2_0
  obtain ⟨res2, hL2_r, hf⟩ := ok_b hf
  refine hL2 F 0 a1 b1 c1 res2 _ _ _ _ hL2_r (hP.sub [0, 1] rfl) (hD.sub [0, 1] (by decide) rfl) hS (lv_sub hl [1, 2, 0] rfl) (fun y_a1_10 y_b1_11 y_c1_12 H locs ls hres hP hD hS hl => ?_)
  subst hres
  have hP9 := hP.sub (ws' := [(ph, .inr (0, [.int dd, .int rt, .int cl, .int rf, .int pr, .ref pn, .int gk, .int go, .int gc, .ref pg, .ref ps, .ref po, .ref pc, .ref pe, .ref p1, .ref p2, .ref pz])), (pf, .inr (1, [.long y_a1_10, .long y_b1_11, .long y_c1_12]))]) [0, 1] rfl
  have hD9 := hD.sub (ws' := [(ph, .inr (0, [.int dd, .int rt, .int cl, .int rf, .int pr, .ref pn, .int gk, .int go, .int gc, .ref pg, .ref ps, .ref po, .ref pc, .ref pe, .ref p1, .ref p2, .ref pz])), (pf, .inr (1, [.long y_a1_10, .long y_b1_11, .long y_c1_12]))]) [0, 1] (by decide) rfl
  have hK9 := hK.sub (tys' := []) [] rfl
  exact W.vret hx hb hr (fun t ht hW => ⟨⟨(y_a1_10, y_b1_11, y_c1_12), rfl, (Option.some.inj hf), by rw [ht]; exact hP9, va_K.moved hW.alike hK9, hD9⟩, hS.F ht⟩) hS.2.2 dX0_reduce_27

def f_isLeast_L7 (F : Nat) (dd : Int32) (rt : Int32) (r_1 : Int32) : Nat → Int32 → Int64 → Int64 → Int64 → Option ((Int64 × Int64 × Int64) ⊕ (Int32 × Int64 × Int64 × Int64))
  | 0, _, _, _, _ => none
  | n7 + 1, w3_2, m_a1_3, m_b1_4, m_c1_5 => (if (1000000 : Int32) ≤ w3_2 then some (Sum.inl (m_a1_3, m_b1_4, m_c1_5)) else Option.bind (f_step F dd rt m_a1_3 m_b1_4 m_c1_5) (fun (u_a1_6, u_b1_7, u_c1_8) => Option.bind (f_keyOf F u_a1_6 u_b1_7) (fun r_9 => (if r_1 < r_9 then bnd (w3_2 + 1) (fun v3_10 => f_isLeast_L7 F dd rt r_1 n7 v3_10 u_a1_6 u_b1_7 u_c1_8) else some (Sum.inr (r_9, u_a1_6, u_b1_7, u_c1_8))))))
def f_isLeast (F : Nat) (dd : Int32) (rt : Int32) (a1 : Int64) (b1 : Int64) (c1 : Int64) : Option (Int32 × Int64 × Int64 × Int64) := Option.bind (f_keyOf F a1 b1) (fun r_1 => Option.bind (f_isLeast_L7 F dd rt r_1 F 0 a1 b1 c1) (fun res => match res with | .inl (y_a1_11, y_b1_12, y_c1_13) => some (0, y_a1_11, y_b1_12, y_c1_13) | .inr (x4_14, y_a1_15, y_b1_16, y_c1_17) => (if x4_14 = r_1 then some (1, y_a1_15, y_b1_16, y_c1_17) else some (0, y_a1_15, y_b1_16, y_c1_17))))
set_option maxHeartbeats 4000000 in
set_option maxRecDepth 100000 in
theorem c_isLeast (l : Launch) (dC : Nat → ClassId) (dI : Nat → Nat → Nat) (ph : Nat) (dd : Int32) (rt : Int32) (cl : Int32) (rf : Int32) (pr : Int32) (pn : Nat) (gk : Int32) (go : Int32) (gc : Int32) (pg : Nat) (ps : Nat) (po : Nat) (pc : Nat) (pe : Nat) (p1 : Nat) (p2 : Nat) (pz : Nat) (pf : Nat) (a1 : Int64) (b1 : Int64) (c1 : Int64) (sz : Nat) (F : Nat) (out : Int32 × Int64 × Int64 × Int64) (hf : f_isLeast F dd rt a1 b1 c1 = some out) : Met l yX0_isLeastOfCycle wsX0_isLeastOfCycle ({ frames := 2, cells := 0, slots := 0, locals := 53 }) (va_Pc [.ref ph, .ref pf] (fun U => U.heap.size = sz ∧ va_P (dC, dI) vwCl [(ph, .inr (0, [.int dd, .int rt, .int cl, .int rf, .int pr, .ref pn, .int gk, .int go, .int gc, .ref pg, .ref ps, .ref po, .ref pc, .ref pe, .ref p1, .ref p2, .ref pz])), (pf, .inr (1, [.long a1, .long b1, .long c1]))] U.heap ∧ va_K (dC, dI) vwCl [] U ∧ va_D (fun _ => True) [(ph, .inr (0, [.int dd, .int rt, .int cl, .int rf, .int pr, .ref pn, .int gk, .int go, .int gc, .ref pg, .ref ps, .ref po, .ref pc, .ref pe, .ref p1, .ref p2, .ref pz])), (pf, .inr (1, [.long a1, .long b1, .long c1]))])) (va_Qi (fun (r : Int32) (u : Int64 × Int64 × Int64) => (r, u) = out) (fun (u : Int64 × Int64 × Int64) t => match u with | (u_a1, u_b1, u_c1) => va_P (dC, dI) vwCl [(ph, .inr (0, [.int dd, .int rt, .int cl, .int rf, .int pr, .ref pn, .int gk, .int go, .int gc, .ref pg, .ref ps, .ref po, .ref pc, .ref pe, .ref p1, .ref p2, .ref pz])), (pf, .inr (1, [.long u_a1, .long u_b1, .long u_c1]))] t.heap ∧ va_K (dC, dI) vwCl [] t ∧ va_D (va_A [(ph, .inr (0, [.int dd, .int rt, .int cl, .int rf, .int pr, .ref pn, .int gk, .int go, .int gc, .ref pg, .ref ps, .ref po, .ref pc, .ref pe, .ref p1, .ref p2, .ref pz])), (pf, .inr (1, [.long a1, .long b1, .long c1]))] sz) [(ph, .inr (0, [.int dd, .int rt, .int cl, .int rf, .int pr, .ref pn, .int gk, .int go, .int gc, .ref pg, .ref ps, .ref po, .ref pc, .ref pe, .ref p1, .ref p2, .ref pz])), (pf, .inr (1, [.long u_a1, .long u_b1, .long u_c1]))]) (va_A [(ph, .inr (0, [.int dd, .int rt, .int cl, .int rf, .int pr, .ref pn, .int gk, .int go, .int gc, .ref pg, .ref ps, .ref po, .ref pc, .ref pe, .ref p1, .ref p2, .ref pz])), (pf, .inr (1, [.long a1, .long b1, .long c1]))] sz)) 0 0 (va_A [(ph, .inr (0, [.int dd, .int rt, .int cl, .int rf, .int pr, .ref pn, .int gk, .int go, .int gc, .ref pg, .ref ps, .ref po, .ref pc, .ref pe, .ref p1, .ref p2, .ref pz])), (pf, .inr (1, [.long a1, .long b1, .long c1]))] sz) := by
  refine Met.ofW (cc := cX0_isLeastOfCycle) (maxL := 5) (ret := (some .boolean)) (by decide +kernel) rfl ?_
  intro p e s m args below meth c s₁ B hml hv
  obtain ⟨rfl, hsz, hP, hK, hD0⟩ := hv
  have hx := B.exec
  have hb := B.bytes
  have hr := B.returns
  have hts := atoms_spec (ws := wsX0_isLeastOfCycle) B.pre
  have hown : s.vm.findClass "ClassGroup" = some m.cls := findClass_of_methodNamed B.named
  have hlocks := B.notSynchronized
  subst hsz
  have hD := hD0.self (sz := s.heap.size)
  generalize hAe : va_A [(ph, .inr (0, [.int dd, .int rt, .int cl, .int rf, .int pr, .ref pn, .int gk, .int go, .int gc, .ref pg, .ref ps, .ref po, .ref pc, .ref pe, .ref p1, .ref p2, .ref pz])), (pf, .inr (1, [.long a1, .long b1, .long c1]))] s.heap.size = A at hD ⊢
  have hA : ∀ q : Nat, s.heap.size ≤ q → A q := fun q h => by rw [← hAe]; exact Or.inr h
  have hS : va_S A s.heap s.heap [] := va_S.rf
  have hl := lv_entry ([.ref ph, .ref pf]) (n := 5) (Nat.le_of_ble_eq_true rfl)
  rw [lg_entry_eq]
  generalize (lg_sl ([.ref ph, .ref pf]) ++ List.replicate (5 - (lg_sl ([.ref ph, .ref pf])).length) Slot.unset).toArray = ls at hl ⊢
  have hl : lv_has ls 5 [(0, .ref ph), (1, .ref pf)] := hl
  unfold f_isLeast at hf
  refine lv_aload_n hx hb dX0_isLeastOfCycle_0 rfl (lv_at hl 1 rfl) ?_
  obtain ⟨xc1, hc1, hf⟩ := ok_b hf
  have hPc := hP.sub (ws' := [(pf, .inr (1, [.long a1, .long b1, .long c1]))]) [1] rfl
  have hDc := hD.sub (ws' := [(pf, .inr (1, [.long a1, .long b1, .long c1]))]) [1] (by decide) rfl
  have hKc := hK.sub (tys' := []) [] rfl
  have hFc := va_free (wc := [(pf, .inr (1, [.long a1, .long b1, .long c1]))]) hD hS hA [1] rfl
  refine va_calli (va_runS (As := [.ref pf]) (rest := []) ⟨hx, hb, hml, hown, hts⟩ (c_keyOf l dC dI pf a1 b1 c1 s.heap.size F xc1 hc1) (va_cwS 1 hts (gwS kw_112 kw_113 kw_1 kw_114) rfl rfl rfl (by decide +kernel) ⟨Nat.le_of_ble_eq_true rfl, Nat.le_of_ble_eq_true rfl⟩) ⟨fun a U g mk q => by obtain ⟨q0, q1, qP, qK, qD⟩ := q; exact ⟨q0, q1, qP, va_K.moved (u := U) (U := U.calling g mk a) (Vm.Alike.refl U.vm) qK, qD⟩, fun U hU hW => ⟨rfl, by rw [hU], by rw [hU]; exact hPc, va_K.moved hW.alike hKc, hDc.weaken (fun _ _ _ _ => trivial)⟩⟩ rfl rfl hl.1 rfl (lv_room (Nat.le_of_ble_eq_true rfl)) dX0_isLeastOfCycle_1 ⟨Nat.zero_le _, Nat.zero_le _⟩) hS (fun q _ h => hFc q h) hFc (fun r_1 u t H1 locs ht hvm hw hB hz1 hk1 hS => ?_)
  obtain ⟨⟩ := u
  obtain ⟨hP1, hK1, hD1⟩ := hB
  rw [ht] at hP1
  subst hw
  obtain ⟨hP, hD⟩ := va_join (wr := [(ph, .inr (0, [.int dd, .int rt, .int cl, .int rf, .int pr, .ref pn, .int gk, .int go, .int gc, .ref pg, .ref ps, .ref po, .ref pc, .ref pe, .ref p1, .ref p2, .ref pz]))]) (w1 := [(pf, .inr (1, [.long a1, .long b1, .long c1]))]) hP hD [1] [0] rfl rfl (by decide) (by decide) hk1 hFc hP1 hD1
  generalize H1 = H at hP hS ⊢
  have hP : va_P (dC, dI) vwCl [(ph, .inr (0, [.int dd, .int rt, .int cl, .int rf, .int pr, .ref pn, .int gk, .int go, .int gc, .ref pg, .ref ps, .ref po, .ref pc, .ref pe, .ref p1, .ref p2, .ref pz])), (pf, .inr (1, [.long a1, .long b1, .long c1]))] H := hP
  have hD : va_D A [(ph, .inr (0, [.int dd, .int rt, .int cl, .int rf, .int pr, .ref pn, .int gk, .int go, .int gc, .ref pg, .ref ps, .ref po, .ref pc, .ref pe, .ref p1, .ref p2, .ref pz])), (pf, .inr (1, [.long a1, .long b1, .long c1]))] := hD
  refine lv_istore_n (lv' := [(2, .int r_1), (0, .ref ph), (1, .ref pf)]) hx hb dX0_isLeastOfCycle_4 rfl hl (by decide) rfl (fun ls hl => ?_)
  refine lv_iconst (v := 0) hx hb dX0_isLeastOfCycle_5 (by decide) ?_
  refine lv_istore_n (lv' := [(3, .int 0), (2, .int r_1), (0, .ref ph), (1, .ref pf)]) hx hb dX0_isLeastOfCycle_6 rfl hl (by decide) rfl (fun ls hl => ?_)
  have hL7 : ∀ (n7 : Nat) (w3_2 : Int32) (m_a1_3 : Int64) (m_b1_4 : Int64) (m_c1_5 : Int64) (res : (Int64 × Int64 × Int64) ⊕ (Int32 × Int64 × Int64 × Int64)) (H : Heap) (locs : List Loc) (ls : Array Slot) (Q : State → Prop), f_isLeast_L7 F dd rt r_1 n7 w3_2 m_a1_3 m_b1_4 m_c1_5 = some res → va_P (dC, dI) vwCl [(ph, .inr (0, [.int dd, .int rt, .int cl, .int rf, .int pr, .ref pn, .int gk, .int go, .int gc, .ref pg, .ref ps, .ref po, .ref pc, .ref pe, .ref p1, .ref p2, .ref pz])), (pf, .inr (1, [.long m_a1_3, .long m_b1_4, .long m_c1_5]))] H → va_D A [(ph, .inr (0, [.int dd, .int rt, .int cl, .int rf, .int pr, .ref pn, .int gk, .int go, .int gc, .ref pg, .ref ps, .ref po, .ref pc, .ref pe, .ref p1, .ref p2, .ref pz])), (pf, .inr (1, [.long m_a1_3, .long m_b1_4, .long m_c1_5]))] → va_S A s.heap H locs → lv_has ls 5 [(0, .ref ph), (1, .ref pf), (2, .int r_1), (3, .int w3_2)] → (∀ (y_a1_11 : Int64) (y_b1_12 : Int64) (y_c1_13 : Int64) (H : Heap) (locs : List Loc) (ls : Array Slot), (Sum.inl (y_a1_11, y_b1_12, y_c1_13)) = res → va_P (dC, dI) vwCl [(ph, .inr (0, [.int dd, .int rt, .int cl, .int rf, .int pr, .ref pn, .int gk, .int go, .int gc, .ref pg, .ref ps, .ref po, .ref pc, .ref pe, .ref p1, .ref p2, .ref pz])), (pf, .inr (1, [.long y_a1_11, .long y_b1_12, .long y_c1_13]))] H → va_D A [(ph, .inr (0, [.int dd, .int rt, .int cl, .int rf, .int pr, .ref pn, .int gk, .int go, .int gc, .ref pg, .ref ps, .ref po, .ref pc, .ref pe, .ref p1, .ref p2, .ref pz])), (pf, .inr (1, [.long y_a1_11, .long y_b1_12, .long y_c1_13]))] → va_S A s.heap H locs → lv_has ls 5 [] → W p l e ((headSpec wsX0_isLeastOfCycle ({ frames := 2, cells := 0, slots := 0, locals := 53 })).room) s m ([.ref ph, .ref pf] : List Value).toArray below meth c H locs 0 0 Q (F0 m 48 ls [])) → (∀ (x4_14 : Int32) (y_a1_15 : Int64) (y_b1_16 : Int64) (y_c1_17 : Int64) (H : Heap) (locs : List Loc) (ls : Array Slot), (Sum.inr (x4_14, y_a1_15, y_b1_16, y_c1_17)) = res → va_P (dC, dI) vwCl [(ph, .inr (0, [.int dd, .int rt, .int cl, .int rf, .int pr, .ref pn, .int gk, .int go, .int gc, .ref pg, .ref ps, .ref po, .ref pc, .ref pe, .ref p1, .ref p2, .ref pz])), (pf, .inr (1, [.long y_a1_15, .long y_b1_16, .long y_c1_17]))] H → va_D A [(ph, .inr (0, [.int dd, .int rt, .int cl, .int rf, .int pr, .ref pn, .int gk, .int go, .int gc, .ref pg, .ref ps, .ref po, .ref pc, .ref pe, .ref p1, .ref p2, .ref pz])), (pf, .inr (1, [.long y_a1_15, .long y_b1_16, .long y_c1_17]))] → va_S A s.heap H locs → lv_has ls 5 [(2, .int r_1), (4, .int x4_14)] → W p l e ((headSpec wsX0_isLeastOfCycle ({ frames := 2, cells := 0, slots := 0, locals := 53 })).room) s m ([.ref ph, .ref pf] : List Value).toArray below meth c H locs 0 0 Q (F0 m 30 ls [])) → W p l e ((headSpec wsX0_isLeastOfCycle ({ frames := 2, cells := 0, slots := 0, locals := 53 })).room) s m ([.ref ph, .ref pf] : List Value).toArray below meth c H locs 0 0 Q (F0 m 7 ls []) := by
    intro n7
    induction n7 with
    | zero => intro w3_2 m_a1_3 m_b1_4 m_c1_5 res H locs ls Q hf; simp [f_isLeast_L7] at hf
    | succ n7 ih7 =>
      intro w3_2 m_a1_3 m_b1_4 m_c1_5 res H locs ls Q hf hP hD hS hl k7_0 k7_1
      rw [f_isLeast_L7] at hf
      refine lv_iload_n hx hb dX0_isLeastOfCycle_7 rfl (lv_at hl 3 rfl) ?_
      refine lv_ldc (v := 1000000) hx hb hown (hts _ (List.mem_cons_of_mem _ kw_87)) dX0_isLeastOfCycle_8 ?_
      refine lv_icmp_ge (tgt := 48) hx hb dX0_isLeastOfCycle_10 (by decide) (fun c_10 => ?_) (fun c_10 => ?_)
      · have hf := ok_t c_10 hf
        exact k7_0 m_a1_3 m_b1_4 m_c1_5 _ _ _ (Option.some.inj hf) (hP.sub [0, 1] rfl) (hD.sub [0, 1] (by decide) rfl) hS (lv_sub hl [] rfl)
      · have hf := ok_f c_10 hf
        refine lv_aload_n hx hb dX0_isLeastOfCycle_13 rfl (lv_at hl 0 rfl) ?_
        refine lv_aload_n hx hb dX0_isLeastOfCycle_14 rfl (lv_at hl 1 rfl) ?_
        obtain ⟨xc15, hc15, hf⟩ := ok_b hf
        have hPc := hP.sub (ws' := [(ph, .inr (0, [.int dd, .int rt, .int cl, .int rf, .int pr, .ref pn, .int gk, .int go, .int gc, .ref pg, .ref ps, .ref po, .ref pc, .ref pe, .ref p1, .ref p2, .ref pz])), (pf, .inr (1, [.long m_a1_3, .long m_b1_4, .long m_c1_5]))]) [0, 1] rfl
        have hDc := hD.sub (ws' := [(ph, .inr (0, [.int dd, .int rt, .int cl, .int rf, .int pr, .ref pn, .int gk, .int go, .int gc, .ref pg, .ref ps, .ref po, .ref pc, .ref pe, .ref p1, .ref p2, .ref pz])), (pf, .inr (1, [.long m_a1_3, .long m_b1_4, .long m_c1_5]))]) [0, 1] (by decide) rfl
        have hKc := hK.sub (tys' := []) [] rfl
        have hFc := va_free (wc := [(ph, .inr (0, [.int dd, .int rt, .int cl, .int rf, .int pr, .ref pn, .int gk, .int go, .int gc, .ref pg, .ref ps, .ref po, .ref pc, .ref pe, .ref p1, .ref p2, .ref pz])), (pf, .inr (1, [.long m_a1_3, .long m_b1_4, .long m_c1_5]))]) hD hS hA [0, 1] rfl
        refine va_callv (va_runV (As := [.ref pf]) (rest := []) ⟨hx, hb, hml, hown, hts⟩ (c_step l dC dI ph dd rt cl rf pr pn gk go gc pg ps po pc pe p1 p2 pz pf m_a1_3 m_b1_4 m_c1_5 H.size F xc15 hc15) (cwV 1 hts (gwV kw_115 kw_117 ks_9 kw_1 kw_118) rfl rfl rfl (by decide +kernel) ⟨Nat.le_of_ble_eq_true rfl, Nat.le_of_ble_eq_true rfl⟩) ⟨fun a U g mk q => by obtain ⟨q0, q1, qP, qK, qD⟩ := q; exact ⟨q0, q1, qP, va_K.moved (u := U) (U := U.calling g mk a) (Vm.Alike.refl U.vm) qK, qD⟩, va_recv hKc hPc (ci := 0) (q0 := 0) rfl rfl, fun U hU hW => ⟨rfl, by rw [hU], by rw [hU]; exact hPc, va_K.moved hW.alike hKc, hDc.weaken (fun _ _ _ _ => trivial)⟩⟩ rfl rfl hl.1 rfl (lv_room (Nat.le_of_ble_eq_true rfl)) dX0_isLeastOfCycle_15 ⟨Nat.zero_le _, Nat.zero_le _⟩) hS (fun q _ h => hFc q h) hFc (fun u t H1 locs ht hvm hw hB hz1 hk1 hS => ?_)
        obtain ⟨u_a1_6, u_b1_7, u_c1_8⟩ := u
        obtain ⟨hP1, hK1, hD1⟩ := hB
        rw [ht] at hP1
        subst hw
        obtain ⟨hP, hD⟩ := va_join (wr := []) (w1 := [(ph, .inr (0, [.int dd, .int rt, .int cl, .int rf, .int pr, .ref pn, .int gk, .int go, .int gc, .ref pg, .ref ps, .ref po, .ref pc, .ref pe, .ref p1, .ref p2, .ref pz])), (pf, .inr (1, [.long u_a1_6, .long u_b1_7, .long u_c1_8]))]) hP hD [0, 1] [] rfl rfl (by decide) (by decide) hk1 hFc hP1 hD1
        generalize H1 = H at hP hS ⊢
        have hP : va_P (dC, dI) vwCl [(ph, .inr (0, [.int dd, .int rt, .int cl, .int rf, .int pr, .ref pn, .int gk, .int go, .int gc, .ref pg, .ref ps, .ref po, .ref pc, .ref pe, .ref p1, .ref p2, .ref pz])), (pf, .inr (1, [.long u_a1_6, .long u_b1_7, .long u_c1_8]))] H := hP
        have hD : va_D A [(ph, .inr (0, [.int dd, .int rt, .int cl, .int rf, .int pr, .ref pn, .int gk, .int go, .int gc, .ref pg, .ref ps, .ref po, .ref pc, .ref pe, .ref p1, .ref p2, .ref pz])), (pf, .inr (1, [.long u_a1_6, .long u_b1_7, .long u_c1_8]))] := hD
        refine lv_aload_n hx hb dX0_isLeastOfCycle_18 rfl (lv_at hl 1 rfl) ?_
        obtain ⟨xc19, hc19, hf⟩ := ok_b hf
        have hPc := hP.sub (ws' := [(pf, .inr (1, [.long u_a1_6, .long u_b1_7, .long u_c1_8]))]) [1] rfl
        have hDc := hD.sub (ws' := [(pf, .inr (1, [.long u_a1_6, .long u_b1_7, .long u_c1_8]))]) [1] (by decide) rfl
        have hKc := hK.sub (tys' := []) [] rfl
        have hFc := va_free (wc := [(pf, .inr (1, [.long u_a1_6, .long u_b1_7, .long u_c1_8]))]) hD hS hA [1] rfl
        refine va_calli (va_runS (As := [.ref pf]) (rest := []) ⟨hx, hb, hml, hown, hts⟩ (c_keyOf l dC dI pf u_a1_6 u_b1_7 u_c1_8 H.size F xc19 hc19) (va_cwS 1 hts (gwS kw_112 kw_113 kw_1 kw_114) rfl rfl rfl (by decide +kernel) ⟨Nat.le_of_ble_eq_true rfl, Nat.le_of_ble_eq_true rfl⟩) ⟨fun a U g mk q => by obtain ⟨q0, q1, qP, qK, qD⟩ := q; exact ⟨q0, q1, qP, va_K.moved (u := U) (U := U.calling g mk a) (Vm.Alike.refl U.vm) qK, qD⟩, fun U hU hW => ⟨rfl, by rw [hU], by rw [hU]; exact hPc, va_K.moved hW.alike hKc, hDc.weaken (fun _ _ _ _ => trivial)⟩⟩ rfl rfl hl.1 rfl (lv_room (Nat.le_of_ble_eq_true rfl)) dX0_isLeastOfCycle_19 ⟨Nat.zero_le _, Nat.zero_le _⟩) hS (fun q _ h => hFc q h) hFc (fun r_9 u t H1 locs ht hvm hw hB hz1 hk1 hS => ?_)
        obtain ⟨⟩ := u
        obtain ⟨hP1, hK1, hD1⟩ := hB
        rw [ht] at hP1
        subst hw
        obtain ⟨hP, hD⟩ := va_join (wr := [(ph, .inr (0, [.int dd, .int rt, .int cl, .int rf, .int pr, .ref pn, .int gk, .int go, .int gc, .ref pg, .ref ps, .ref po, .ref pc, .ref pe, .ref p1, .ref p2, .ref pz]))]) (w1 := [(pf, .inr (1, [.long u_a1_6, .long u_b1_7, .long u_c1_8]))]) hP hD [1] [0] rfl rfl (by decide) (by decide) hk1 hFc hP1 hD1
        generalize H1 = H at hP hS ⊢
        have hP : va_P (dC, dI) vwCl [(ph, .inr (0, [.int dd, .int rt, .int cl, .int rf, .int pr, .ref pn, .int gk, .int go, .int gc, .ref pg, .ref ps, .ref po, .ref pc, .ref pe, .ref p1, .ref p2, .ref pz])), (pf, .inr (1, [.long u_a1_6, .long u_b1_7, .long u_c1_8]))] H := hP
        have hD : va_D A [(ph, .inr (0, [.int dd, .int rt, .int cl, .int rf, .int pr, .ref pn, .int gk, .int go, .int gc, .ref pg, .ref ps, .ref po, .ref pc, .ref pe, .ref p1, .ref p2, .ref pz])), (pf, .inr (1, [.long u_a1_6, .long u_b1_7, .long u_c1_8]))] := hD
        refine lv_istore (lv' := [(4, .int r_9), (0, .ref ph), (1, .ref pf), (2, .int r_1), (3, .int w3_2)]) hx hb dX0_isLeastOfCycle_22 hl (by decide) rfl (fun ls hl => ?_)
        refine lv_iload hx hb dX0_isLeastOfCycle_24 (lv_at hl 0 rfl) ?_
        refine lv_iload_n hx hb dX0_isLeastOfCycle_26 rfl (lv_at hl 3 rfl) ?_
        refine lv_icmp_gt (tgt := 42) hx hb dX0_isLeastOfCycle_27 (by decide) (fun c_27 => ?_) (fun c_27 => ?_)
        · have hf := ok_t c_27 hf
          obtain ⟨v3_10, ev3_10⟩ : ∃ y : Int32, y = w3_2 + 1 := ⟨_, rfl⟩
          replace hf := bnd_ok ev3_10 hf
          refine lv_iinc (v := v3_10) (lv' := [(3, .int v3_10), (4, .int r_9), (0, .ref ph), (1, .ref pf), (2, .int r_1)]) hx hb dX0_isLeastOfCycle_42 hl (k := 4) rfl (by rw [ev3_10]; rfl) (by decide) rfl (fun ls hl => ?_)
          refine lv_goto (tgt := 7) hx hb dX0_isLeastOfCycle_45 (by decide) ?_
          exact ih7 v3_10 u_a1_6 u_b1_7 u_c1_8 _ _ _ _ _ hf (hP.sub [0, 1] rfl) (hD.sub [0, 1] (by decide) rfl) hS (lv_sub hl [2, 3, 4, 0] rfl) k7_0 k7_1
        · have hf := ok_f c_27 hf
          exact k7_1 r_9 u_a1_6 u_b1_7 u_c1_8 _ _ _ (Option.some.inj hf) (hP.sub [0, 1] rfl) (hD.sub [0, 1] (by decide) rfl) hS (lv_sub hl [3, 0] rfl)
  obtain ⟨res7, hL7_r, hf⟩ := ok_b hf
  refine hL7 F 0 a1 b1 c1 res7 _ _ _ _ hL7_r (hP.sub [0, 1] rfl) (hD.sub [0, 1] (by decide) rfl) hS (lv_sub hl [2, 3, 1, 0] rfl) (fun y_a1_11 y_b1_12 y_c1_13 H locs ls hres hP hD hS hl => ?_) (fun x4_14 y_a1_15 y_b1_16 y_c1_17 H locs ls hres hP hD hS hl => ?_)
  · subst hres
    refine lv_iconst (v := 0) hx hb dX0_isLeastOfCycle_48 (by decide) ?_
    have hP9 := hP.sub (ws' := [(ph, .inr (0, [.int dd, .int rt, .int cl, .int rf, .int pr, .ref pn, .int gk, .int go, .int gc, .ref pg, .ref ps, .ref po, .ref pc, .ref pe, .ref p1, .ref p2, .ref pz])), (pf, .inr (1, [.long y_a1_11, .long y_b1_12, .long y_c1_13]))]) [0, 1] rfl
    have hD9 := hD.sub (ws' := [(ph, .inr (0, [.int dd, .int rt, .int cl, .int rf, .int pr, .ref pn, .int gk, .int go, .int gc, .ref pg, .ref ps, .ref po, .ref pc, .ref pe, .ref p1, .ref p2, .ref pz])), (pf, .inr (1, [.long y_a1_11, .long y_b1_12, .long y_c1_13]))]) [0, 1] (by decide) rfl
    have hK9 := hK.sub (tys' := []) [] rfl
    exact W.zret (v := 0) (ty := .boolean) hx hb hr rfl (fun t ht hW => ⟨⟨0, (y_a1_11, y_b1_12, y_c1_13), rfl, (Option.some.inj hf), by rw [ht]; exact hP9, va_K.moved hW.alike hK9, hD9⟩, hS.F ht⟩) hS.2.2 dX0_isLeastOfCycle_49
  · subst hres
    refine lv_iload hx hb dX0_isLeastOfCycle_30 (lv_at hl 1 rfl) ?_
    refine lv_iload_n hx hb dX0_isLeastOfCycle_32 rfl (lv_at hl 0 rfl) ?_
    refine lv_icmp_ne (tgt := 40) hx hb dX0_isLeastOfCycle_33 (by decide) (fun c_33 => ?_) (fun c_33 => ?_)
    · have hf := ok_f c_33 hf
      refine lv_iconst (v := 0) hx hb dX0_isLeastOfCycle_40 (by decide) ?_
      have hP9 := hP.sub (ws' := [(ph, .inr (0, [.int dd, .int rt, .int cl, .int rf, .int pr, .ref pn, .int gk, .int go, .int gc, .ref pg, .ref ps, .ref po, .ref pc, .ref pe, .ref p1, .ref p2, .ref pz])), (pf, .inr (1, [.long y_a1_15, .long y_b1_16, .long y_c1_17]))]) [0, 1] rfl
      have hD9 := hD.sub (ws' := [(ph, .inr (0, [.int dd, .int rt, .int cl, .int rf, .int pr, .ref pn, .int gk, .int go, .int gc, .ref pg, .ref ps, .ref po, .ref pc, .ref pe, .ref p1, .ref p2, .ref pz])), (pf, .inr (1, [.long y_a1_15, .long y_b1_16, .long y_c1_17]))]) [0, 1] (by decide) rfl
      have hK9 := hK.sub (tys' := []) [] rfl
      exact W.zret (v := 0) (ty := .boolean) hx hb hr rfl (fun t ht hW => ⟨⟨0, (y_a1_15, y_b1_16, y_c1_17), rfl, (Option.some.inj hf), by rw [ht]; exact hP9, va_K.moved hW.alike hK9, hD9⟩, hS.F ht⟩) hS.2.2 dX0_isLeastOfCycle_41
    · have hf := ok_t c_33 hf
      refine lv_iconst (v := 1) hx hb dX0_isLeastOfCycle_36 (by decide) ?_
      refine lv_goto (tgt := 41) hx hb dX0_isLeastOfCycle_37 (by decide) ?_
      have hP9 := hP.sub (ws' := [(ph, .inr (0, [.int dd, .int rt, .int cl, .int rf, .int pr, .ref pn, .int gk, .int go, .int gc, .ref pg, .ref ps, .ref po, .ref pc, .ref pe, .ref p1, .ref p2, .ref pz])), (pf, .inr (1, [.long y_a1_15, .long y_b1_16, .long y_c1_17]))]) [0, 1] rfl
      have hD9 := hD.sub (ws' := [(ph, .inr (0, [.int dd, .int rt, .int cl, .int rf, .int pr, .ref pn, .int gk, .int go, .int gc, .ref pg, .ref ps, .ref po, .ref pc, .ref pe, .ref p1, .ref p2, .ref pz])), (pf, .inr (1, [.long y_a1_15, .long y_b1_16, .long y_c1_17]))]) [0, 1] (by decide) rfl
      have hK9 := hK.sub (tys' := []) [] rfl
      exact W.zret (v := 1) (ty := .boolean) hx hb hr rfl (fun t ht hW => ⟨⟨1, (y_a1_15, y_b1_16, y_c1_17), rfl, (Option.some.inj hf), by rw [ht]; exact hP9, va_K.moved hW.alike hK9, hD9⟩, hS.F ht⟩) hS.2.2 dX0_isLeastOfCycle_41

def f_leastKey_L19 (F : Nat) (dd : Int32) (rt : Int32) (r_1 : Int32) : Nat → Int32 → Int32 → Int64 → Int64 → Int64 → Option ((Int32 × Int64 × Int64 × Int64) ⊕ (Int32 × Int64 × Int64 × Int64))
  | 0, _, _, _, _, _ => none
  | n19 + 1, w3_2, w4_3, m_a1_4, m_b1_5, m_c1_6 => (if (1000000 : Int32) ≤ w4_3 then some (Sum.inl (w3_2, m_a1_4, m_b1_5, m_c1_6)) else Option.bind (f_step F dd rt m_a1_4 m_b1_5 m_c1_6) (fun (u_a1_7, u_b1_8, u_c1_9) => Option.bind (f_keyOf F u_a1_7 u_b1_8) (fun r_10 => (if r_10 = r_1 then some (Sum.inr (w3_2, u_a1_7, u_b1_8, u_c1_9)) else Option.bind (f_minI F w3_2 r_10) (fun r_11 => bnd (w4_3 + 1) (fun v4_12 => f_leastKey_L19 F dd rt r_1 n19 r_11 v4_12 u_a1_7 u_b1_8 u_c1_9))))))
def f_leastKey (F : Nat) (dd : Int32) (rt : Int32) (a1 : Int64) (b1 : Int64) (c1 : Int64) : Option (Int32 × Int64 × Int64 × Int64) := Option.bind (f_keyOf F a1 b1) (fun r_1 => (if (0 : Int32) ≤ dd then Option.bind (f_leastKey_L19 F dd rt r_1 F r_1 0 a1 b1 c1) (fun res => match res with | .inl (x3_13, y_a1_14, y_b1_15, y_c1_16) => some (x3_13, y_a1_14, y_b1_15, y_c1_16) | .inr (x3_17, y_a1_18, y_b1_19, y_c1_20) => some (x3_17, y_a1_18, y_b1_19, y_c1_20)) else some (r_1, a1, b1, c1)))
set_option maxHeartbeats 4000000 in
set_option maxRecDepth 100000 in
theorem c_leastKey (l : Launch) (dC : Nat → ClassId) (dI : Nat → Nat → Nat) (ph : Nat) (dd : Int32) (rt : Int32) (cl : Int32) (rf : Int32) (pr : Int32) (pn : Nat) (gk : Int32) (go : Int32) (gc : Int32) (pg : Nat) (ps : Nat) (po : Nat) (pc : Nat) (pe : Nat) (p1 : Nat) (p2 : Nat) (pz : Nat) (pf : Nat) (a1 : Int64) (b1 : Int64) (c1 : Int64) (sz : Nat) (F : Nat) (out : Int32 × Int64 × Int64 × Int64) (hf : f_leastKey F dd rt a1 b1 c1 = some out) : Met l yX0_leastKey wsX0_leastKey ({ frames := 2, cells := 0, slots := 0, locals := 53 }) (va_Pc [.ref ph, .ref pf] (fun U => U.heap.size = sz ∧ va_P (dC, dI) vwCl [(ph, .inr (0, [.int dd, .int rt, .int cl, .int rf, .int pr, .ref pn, .int gk, .int go, .int gc, .ref pg, .ref ps, .ref po, .ref pc, .ref pe, .ref p1, .ref p2, .ref pz])), (pf, .inr (1, [.long a1, .long b1, .long c1]))] U.heap ∧ va_K (dC, dI) vwCl [] U ∧ va_D (fun _ => True) [(ph, .inr (0, [.int dd, .int rt, .int cl, .int rf, .int pr, .ref pn, .int gk, .int go, .int gc, .ref pg, .ref ps, .ref po, .ref pc, .ref pe, .ref p1, .ref p2, .ref pz])), (pf, .inr (1, [.long a1, .long b1, .long c1]))])) (va_Qi (fun (r : Int32) (u : Int64 × Int64 × Int64) => (r, u) = out) (fun (u : Int64 × Int64 × Int64) t => match u with | (u_a1, u_b1, u_c1) => va_P (dC, dI) vwCl [(ph, .inr (0, [.int dd, .int rt, .int cl, .int rf, .int pr, .ref pn, .int gk, .int go, .int gc, .ref pg, .ref ps, .ref po, .ref pc, .ref pe, .ref p1, .ref p2, .ref pz])), (pf, .inr (1, [.long u_a1, .long u_b1, .long u_c1]))] t.heap ∧ va_K (dC, dI) vwCl [] t ∧ va_D (va_A [(ph, .inr (0, [.int dd, .int rt, .int cl, .int rf, .int pr, .ref pn, .int gk, .int go, .int gc, .ref pg, .ref ps, .ref po, .ref pc, .ref pe, .ref p1, .ref p2, .ref pz])), (pf, .inr (1, [.long a1, .long b1, .long c1]))] sz) [(ph, .inr (0, [.int dd, .int rt, .int cl, .int rf, .int pr, .ref pn, .int gk, .int go, .int gc, .ref pg, .ref ps, .ref po, .ref pc, .ref pe, .ref p1, .ref p2, .ref pz])), (pf, .inr (1, [.long u_a1, .long u_b1, .long u_c1]))]) (va_A [(ph, .inr (0, [.int dd, .int rt, .int cl, .int rf, .int pr, .ref pn, .int gk, .int go, .int gc, .ref pg, .ref ps, .ref po, .ref pc, .ref pe, .ref p1, .ref p2, .ref pz])), (pf, .inr (1, [.long a1, .long b1, .long c1]))] sz)) 0 0 (va_A [(ph, .inr (0, [.int dd, .int rt, .int cl, .int rf, .int pr, .ref pn, .int gk, .int go, .int gc, .ref pg, .ref ps, .ref po, .ref pc, .ref pe, .ref p1, .ref p2, .ref pz])), (pf, .inr (1, [.long a1, .long b1, .long c1]))] sz) := by
  refine Met.ofW (cc := cX0_leastKey) (maxL := 6) (ret := (some .int)) (by decide +kernel) rfl ?_
  intro p e s m args below meth c s₁ B hml hv
  obtain ⟨rfl, hsz, hP, hK, hD0⟩ := hv
  have hx := B.exec
  have hb := B.bytes
  have hr := B.returns
  have hts := atoms_spec (ws := wsX0_leastKey) B.pre
  have hown : s.vm.findClass "ClassGroup" = some m.cls := findClass_of_methodNamed B.named
  have hlocks := B.notSynchronized
  subst hsz
  have hD := hD0.self (sz := s.heap.size)
  generalize hAe : va_A [(ph, .inr (0, [.int dd, .int rt, .int cl, .int rf, .int pr, .ref pn, .int gk, .int go, .int gc, .ref pg, .ref ps, .ref po, .ref pc, .ref pe, .ref p1, .ref p2, .ref pz])), (pf, .inr (1, [.long a1, .long b1, .long c1]))] s.heap.size = A at hD ⊢
  have hA : ∀ q : Nat, s.heap.size ≤ q → A q := fun q h => by rw [← hAe]; exact Or.inr h
  have hS : va_S A s.heap s.heap [] := va_S.rf
  have hl := lv_entry ([.ref ph, .ref pf]) (n := 6) (Nat.le_of_ble_eq_true rfl)
  rw [lg_entry_eq]
  generalize (lg_sl ([.ref ph, .ref pf]) ++ List.replicate (6 - (lg_sl ([.ref ph, .ref pf])).length) Slot.unset).toArray = ls at hl ⊢
  have hl : lv_has ls 6 [(0, .ref ph), (1, .ref pf)] := hl
  unfold f_leastKey at hf
  refine lv_aload_n hx hb dX0_leastKey_0 rfl (lv_at hl 1 rfl) ?_
  obtain ⟨xc1, hc1, hf⟩ := ok_b hf
  have hPc := hP.sub (ws' := [(pf, .inr (1, [.long a1, .long b1, .long c1]))]) [1] rfl
  have hDc := hD.sub (ws' := [(pf, .inr (1, [.long a1, .long b1, .long c1]))]) [1] (by decide) rfl
  have hKc := hK.sub (tys' := []) [] rfl
  have hFc := va_free (wc := [(pf, .inr (1, [.long a1, .long b1, .long c1]))]) hD hS hA [1] rfl
  refine va_calli (va_runS (As := [.ref pf]) (rest := []) ⟨hx, hb, hml, hown, hts⟩ (c_keyOf l dC dI pf a1 b1 c1 s.heap.size F xc1 hc1) (va_cwS 1 hts (gwS kw_112 kw_113 kw_1 kw_114) rfl rfl rfl (by decide +kernel) ⟨Nat.le_of_ble_eq_true rfl, Nat.le_of_ble_eq_true rfl⟩) ⟨fun a U g mk q => by obtain ⟨q0, q1, qP, qK, qD⟩ := q; exact ⟨q0, q1, qP, va_K.moved (u := U) (U := U.calling g mk a) (Vm.Alike.refl U.vm) qK, qD⟩, fun U hU hW => ⟨rfl, by rw [hU], by rw [hU]; exact hPc, va_K.moved hW.alike hKc, hDc.weaken (fun _ _ _ _ => trivial)⟩⟩ rfl rfl hl.1 rfl (lv_room (Nat.le_of_ble_eq_true rfl)) dX0_leastKey_1 ⟨Nat.zero_le _, Nat.zero_le _⟩) hS (fun q _ h => hFc q h) hFc (fun r_1 u t H1 locs ht hvm hw hB hz1 hk1 hS => ?_)
  obtain ⟨⟩ := u
  obtain ⟨hP1, hK1, hD1⟩ := hB
  rw [ht] at hP1
  subst hw
  obtain ⟨hP, hD⟩ := va_join (wr := [(ph, .inr (0, [.int dd, .int rt, .int cl, .int rf, .int pr, .ref pn, .int gk, .int go, .int gc, .ref pg, .ref ps, .ref po, .ref pc, .ref pe, .ref p1, .ref p2, .ref pz]))]) (w1 := [(pf, .inr (1, [.long a1, .long b1, .long c1]))]) hP hD [1] [0] rfl rfl (by decide) (by decide) hk1 hFc hP1 hD1
  generalize H1 = H at hP hS ⊢
  have hP : va_P (dC, dI) vwCl [(ph, .inr (0, [.int dd, .int rt, .int cl, .int rf, .int pr, .ref pn, .int gk, .int go, .int gc, .ref pg, .ref ps, .ref po, .ref pc, .ref pe, .ref p1, .ref p2, .ref pz])), (pf, .inr (1, [.long a1, .long b1, .long c1]))] H := hP
  have hD : va_D A [(ph, .inr (0, [.int dd, .int rt, .int cl, .int rf, .int pr, .ref pn, .int gk, .int go, .int gc, .ref pg, .ref ps, .ref po, .ref pc, .ref pe, .ref p1, .ref p2, .ref pz])), (pf, .inr (1, [.long a1, .long b1, .long c1]))] := hD
  refine lv_istore_n (lv' := [(2, .int r_1), (0, .ref ph), (1, .ref pf)]) hx hb dX0_leastKey_4 rfl hl (by decide) rfl (fun ls hl => ?_)
  refine lv_iload_n hx hb dX0_leastKey_5 rfl (lv_at hl 0 rfl) ?_
  refine lv_istore_n (lv' := [(3, .int r_1), (2, .int r_1), (0, .ref ph), (1, .ref pf)]) hx hb dX0_leastKey_6 rfl hl (by decide) rfl (fun ls hl => ?_)
  refine lv_aload_n hx hb dX0_leastKey_7 rfl (lv_at hl 2 rfl) ?_
  refine va_get (D := (dC, dI)) (ci := 0) (v := .int dd) (C := "ClassGroup") (T := TX0) (N := 17) hx hb hts (fun w h => List.mem_cons_of_mem _ (iwX0 w h)) hown hK hP 0 rfl rfl 0 (by decide) (hts _ (List.mem_cons_of_mem _ kw_150)) (fun _ h9 => h9) rfl dX0_leastKey_8 ?_
  refine lv_if_ge (tgt := 16) hx hb dX0_leastKey_11 (by decide) (fun c_11 => ?_) (fun c_11 => ?_)
  · have hf := ok_t c_11 hf
    refine lv_iconst (v := 0) hx hb dX0_leastKey_16 (by decide) ?_
    refine lv_istore (lv' := [(4, .int 0), (3, .int r_1), (2, .int r_1), (0, .ref ph), (1, .ref pf)]) hx hb dX0_leastKey_17 hl (by decide) rfl (fun ls hl => ?_)
    have hL19 : ∀ (n19 : Nat) (w3_2 : Int32) (w4_3 : Int32) (m_a1_4 : Int64) (m_b1_5 : Int64) (m_c1_6 : Int64) (res : (Int32 × Int64 × Int64 × Int64) ⊕ (Int32 × Int64 × Int64 × Int64)) (H : Heap) (locs : List Loc) (ls : Array Slot) (Q : State → Prop), f_leastKey_L19 F dd rt r_1 n19 w3_2 w4_3 m_a1_4 m_b1_5 m_c1_6 = some res → va_P (dC, dI) vwCl [(ph, .inr (0, [.int dd, .int rt, .int cl, .int rf, .int pr, .ref pn, .int gk, .int go, .int gc, .ref pg, .ref ps, .ref po, .ref pc, .ref pe, .ref p1, .ref p2, .ref pz])), (pf, .inr (1, [.long m_a1_4, .long m_b1_5, .long m_c1_6]))] H → va_D A [(ph, .inr (0, [.int dd, .int rt, .int cl, .int rf, .int pr, .ref pn, .int gk, .int go, .int gc, .ref pg, .ref ps, .ref po, .ref pc, .ref pe, .ref p1, .ref p2, .ref pz])), (pf, .inr (1, [.long m_a1_4, .long m_b1_5, .long m_c1_6]))] → va_S A s.heap H locs → lv_has ls 6 [(0, .ref ph), (1, .ref pf), (2, .int r_1), (3, .int w3_2), (4, .int w4_3)] → (∀ (x3_13 : Int32) (y_a1_14 : Int64) (y_b1_15 : Int64) (y_c1_16 : Int64) (H : Heap) (locs : List Loc) (ls : Array Slot), (Sum.inl (x3_13, y_a1_14, y_b1_15, y_c1_16)) = res → va_P (dC, dI) vwCl [(ph, .inr (0, [.int dd, .int rt, .int cl, .int rf, .int pr, .ref pn, .int gk, .int go, .int gc, .ref pg, .ref ps, .ref po, .ref pc, .ref pe, .ref p1, .ref p2, .ref pz])), (pf, .inr (1, [.long y_a1_14, .long y_b1_15, .long y_c1_16]))] H → va_D A [(ph, .inr (0, [.int dd, .int rt, .int cl, .int rf, .int pr, .ref pn, .int gk, .int go, .int gc, .ref pg, .ref ps, .ref po, .ref pc, .ref pe, .ref p1, .ref p2, .ref pz])), (pf, .inr (1, [.long y_a1_14, .long y_b1_15, .long y_c1_16]))] → va_S A s.heap H locs → lv_has ls 6 [(3, .int x3_13)] → W p l e ((headSpec wsX0_leastKey ({ frames := 2, cells := 0, slots := 0, locals := 53 })).room) s m ([.ref ph, .ref pf] : List Value).toArray below meth c H locs 0 0 Q (F0 m 59 ls [])) → (∀ (x3_17 : Int32) (y_a1_18 : Int64) (y_b1_19 : Int64) (y_c1_20 : Int64) (H : Heap) (locs : List Loc) (ls : Array Slot), (Sum.inr (x3_17, y_a1_18, y_b1_19, y_c1_20)) = res → va_P (dC, dI) vwCl [(ph, .inr (0, [.int dd, .int rt, .int cl, .int rf, .int pr, .ref pn, .int gk, .int go, .int gc, .ref pg, .ref ps, .ref po, .ref pc, .ref pe, .ref p1, .ref p2, .ref pz])), (pf, .inr (1, [.long y_a1_18, .long y_b1_19, .long y_c1_20]))] H → va_D A [(ph, .inr (0, [.int dd, .int rt, .int cl, .int rf, .int pr, .ref pn, .int gk, .int go, .int gc, .ref pg, .ref ps, .ref po, .ref pc, .ref pe, .ref p1, .ref p2, .ref pz])), (pf, .inr (1, [.long y_a1_18, .long y_b1_19, .long y_c1_20]))] → va_S A s.heap H locs → lv_has ls 6 [(3, .int x3_17)] → W p l e ((headSpec wsX0_leastKey ({ frames := 2, cells := 0, slots := 0, locals := 53 })).room) s m ([.ref ph, .ref pf] : List Value).toArray below meth c H locs 0 0 Q (F0 m 43 ls [])) → W p l e ((headSpec wsX0_leastKey ({ frames := 2, cells := 0, slots := 0, locals := 53 })).room) s m ([.ref ph, .ref pf] : List Value).toArray below meth c H locs 0 0 Q (F0 m 19 ls []) := by
      intro n19
      induction n19 with
      | zero => intro w3_2 w4_3 m_a1_4 m_b1_5 m_c1_6 res H locs ls Q hf; simp [f_leastKey_L19] at hf
      | succ n19 ih19 =>
        intro w3_2 w4_3 m_a1_4 m_b1_5 m_c1_6 res H locs ls Q hf hP hD hS hl k19_0 k19_1
        rw [f_leastKey_L19] at hf
        refine lv_iload hx hb dX0_leastKey_19 (lv_at hl 4 rfl) ?_
        refine lv_ldc (v := 1000000) hx hb hown (hts _ (List.mem_cons_of_mem _ kw_87)) dX0_leastKey_21 ?_
        refine lv_icmp_ge (tgt := 59) hx hb dX0_leastKey_23 (by decide) (fun c_23 => ?_) (fun c_23 => ?_)
        · have hf := ok_t c_23 hf
          exact k19_0 w3_2 m_a1_4 m_b1_5 m_c1_6 _ _ _ (Option.some.inj hf) (hP.sub [0, 1] rfl) (hD.sub [0, 1] (by decide) rfl) hS (lv_sub hl [3] rfl)
        · have hf := ok_f c_23 hf
          refine lv_aload_n hx hb dX0_leastKey_26 rfl (lv_at hl 0 rfl) ?_
          refine lv_aload_n hx hb dX0_leastKey_27 rfl (lv_at hl 1 rfl) ?_
          obtain ⟨xc28, hc28, hf⟩ := ok_b hf
          have hPc := hP.sub (ws' := [(ph, .inr (0, [.int dd, .int rt, .int cl, .int rf, .int pr, .ref pn, .int gk, .int go, .int gc, .ref pg, .ref ps, .ref po, .ref pc, .ref pe, .ref p1, .ref p2, .ref pz])), (pf, .inr (1, [.long m_a1_4, .long m_b1_5, .long m_c1_6]))]) [0, 1] rfl
          have hDc := hD.sub (ws' := [(ph, .inr (0, [.int dd, .int rt, .int cl, .int rf, .int pr, .ref pn, .int gk, .int go, .int gc, .ref pg, .ref ps, .ref po, .ref pc, .ref pe, .ref p1, .ref p2, .ref pz])), (pf, .inr (1, [.long m_a1_4, .long m_b1_5, .long m_c1_6]))]) [0, 1] (by decide) rfl
          have hKc := hK.sub (tys' := []) [] rfl
          have hFc := va_free (wc := [(ph, .inr (0, [.int dd, .int rt, .int cl, .int rf, .int pr, .ref pn, .int gk, .int go, .int gc, .ref pg, .ref ps, .ref po, .ref pc, .ref pe, .ref p1, .ref p2, .ref pz])), (pf, .inr (1, [.long m_a1_4, .long m_b1_5, .long m_c1_6]))]) hD hS hA [0, 1] rfl
          refine va_callv (va_runV (As := [.ref pf]) (rest := []) ⟨hx, hb, hml, hown, hts⟩ (c_step l dC dI ph dd rt cl rf pr pn gk go gc pg ps po pc pe p1 p2 pz pf m_a1_4 m_b1_5 m_c1_6 H.size F xc28 hc28) (cwV 1 hts (gwV kw_115 kw_117 ks_9 kw_1 kw_118) rfl rfl rfl (by decide +kernel) ⟨Nat.le_of_ble_eq_true rfl, Nat.le_of_ble_eq_true rfl⟩) ⟨fun a U g mk q => by obtain ⟨q0, q1, qP, qK, qD⟩ := q; exact ⟨q0, q1, qP, va_K.moved (u := U) (U := U.calling g mk a) (Vm.Alike.refl U.vm) qK, qD⟩, va_recv hKc hPc (ci := 0) (q0 := 0) rfl rfl, fun U hU hW => ⟨rfl, by rw [hU], by rw [hU]; exact hPc, va_K.moved hW.alike hKc, hDc.weaken (fun _ _ _ _ => trivial)⟩⟩ rfl rfl hl.1 rfl (lv_room (Nat.le_of_ble_eq_true rfl)) dX0_leastKey_28 ⟨Nat.zero_le _, Nat.zero_le _⟩) hS (fun q _ h => hFc q h) hFc (fun u t H1 locs ht hvm hw hB hz1 hk1 hS => ?_)
          obtain ⟨u_a1_7, u_b1_8, u_c1_9⟩ := u
          obtain ⟨hP1, hK1, hD1⟩ := hB
          rw [ht] at hP1
          subst hw
          obtain ⟨hP, hD⟩ := va_join (wr := []) (w1 := [(ph, .inr (0, [.int dd, .int rt, .int cl, .int rf, .int pr, .ref pn, .int gk, .int go, .int gc, .ref pg, .ref ps, .ref po, .ref pc, .ref pe, .ref p1, .ref p2, .ref pz])), (pf, .inr (1, [.long u_a1_7, .long u_b1_8, .long u_c1_9]))]) hP hD [0, 1] [] rfl rfl (by decide) (by decide) hk1 hFc hP1 hD1
          generalize H1 = H at hP hS ⊢
          have hP : va_P (dC, dI) vwCl [(ph, .inr (0, [.int dd, .int rt, .int cl, .int rf, .int pr, .ref pn, .int gk, .int go, .int gc, .ref pg, .ref ps, .ref po, .ref pc, .ref pe, .ref p1, .ref p2, .ref pz])), (pf, .inr (1, [.long u_a1_7, .long u_b1_8, .long u_c1_9]))] H := hP
          have hD : va_D A [(ph, .inr (0, [.int dd, .int rt, .int cl, .int rf, .int pr, .ref pn, .int gk, .int go, .int gc, .ref pg, .ref ps, .ref po, .ref pc, .ref pe, .ref p1, .ref p2, .ref pz])), (pf, .inr (1, [.long u_a1_7, .long u_b1_8, .long u_c1_9]))] := hD
          refine lv_aload_n hx hb dX0_leastKey_31 rfl (lv_at hl 1 rfl) ?_
          obtain ⟨xc32, hc32, hf⟩ := ok_b hf
          have hPc := hP.sub (ws' := [(pf, .inr (1, [.long u_a1_7, .long u_b1_8, .long u_c1_9]))]) [1] rfl
          have hDc := hD.sub (ws' := [(pf, .inr (1, [.long u_a1_7, .long u_b1_8, .long u_c1_9]))]) [1] (by decide) rfl
          have hKc := hK.sub (tys' := []) [] rfl
          have hFc := va_free (wc := [(pf, .inr (1, [.long u_a1_7, .long u_b1_8, .long u_c1_9]))]) hD hS hA [1] rfl
          refine va_calli (va_runS (As := [.ref pf]) (rest := []) ⟨hx, hb, hml, hown, hts⟩ (c_keyOf l dC dI pf u_a1_7 u_b1_8 u_c1_9 H.size F xc32 hc32) (va_cwS 1 hts (gwS kw_112 kw_113 kw_1 kw_114) rfl rfl rfl (by decide +kernel) ⟨Nat.le_of_ble_eq_true rfl, Nat.le_of_ble_eq_true rfl⟩) ⟨fun a U g mk q => by obtain ⟨q0, q1, qP, qK, qD⟩ := q; exact ⟨q0, q1, qP, va_K.moved (u := U) (U := U.calling g mk a) (Vm.Alike.refl U.vm) qK, qD⟩, fun U hU hW => ⟨rfl, by rw [hU], by rw [hU]; exact hPc, va_K.moved hW.alike hKc, hDc.weaken (fun _ _ _ _ => trivial)⟩⟩ rfl rfl hl.1 rfl (lv_room (Nat.le_of_ble_eq_true rfl)) dX0_leastKey_32 ⟨Nat.zero_le _, Nat.zero_le _⟩) hS (fun q _ h => hFc q h) hFc (fun r_10 u t H1 locs ht hvm hw hB hz1 hk1 hS => ?_)
          obtain ⟨⟩ := u
          obtain ⟨hP1, hK1, hD1⟩ := hB
          rw [ht] at hP1
          subst hw
          obtain ⟨hP, hD⟩ := va_join (wr := [(ph, .inr (0, [.int dd, .int rt, .int cl, .int rf, .int pr, .ref pn, .int gk, .int go, .int gc, .ref pg, .ref ps, .ref po, .ref pc, .ref pe, .ref p1, .ref p2, .ref pz]))]) (w1 := [(pf, .inr (1, [.long u_a1_7, .long u_b1_8, .long u_c1_9]))]) hP hD [1] [0] rfl rfl (by decide) (by decide) hk1 hFc hP1 hD1
          generalize H1 = H at hP hS ⊢
          have hP : va_P (dC, dI) vwCl [(ph, .inr (0, [.int dd, .int rt, .int cl, .int rf, .int pr, .ref pn, .int gk, .int go, .int gc, .ref pg, .ref ps, .ref po, .ref pc, .ref pe, .ref p1, .ref p2, .ref pz])), (pf, .inr (1, [.long u_a1_7, .long u_b1_8, .long u_c1_9]))] H := hP
          have hD : va_D A [(ph, .inr (0, [.int dd, .int rt, .int cl, .int rf, .int pr, .ref pn, .int gk, .int go, .int gc, .ref pg, .ref ps, .ref po, .ref pc, .ref pe, .ref p1, .ref p2, .ref pz])), (pf, .inr (1, [.long u_a1_7, .long u_b1_8, .long u_c1_9]))] := hD
          refine lv_istore (lv' := [(5, .int r_10), (0, .ref ph), (1, .ref pf), (2, .int r_1), (3, .int w3_2), (4, .int w4_3)]) hx hb dX0_leastKey_35 hl (by decide) rfl (fun ls hl => ?_)
          refine lv_iload hx hb dX0_leastKey_37 (lv_at hl 0 rfl) ?_
          refine lv_iload_n hx hb dX0_leastKey_39 rfl (lv_at hl 3 rfl) ?_
          refine lv_icmp_ne (tgt := 46) hx hb dX0_leastKey_40 (by decide) (fun c_40 => ?_) (fun c_40 => ?_)
          · have hf := ok_f c_40 hf
            refine lv_iload_n hx hb dX0_leastKey_46 rfl (lv_at hl 4 rfl) ?_
            refine lv_iload hx hb dX0_leastKey_47 (lv_at hl 0 rfl) ?_
            obtain ⟨xc49, hc49, hf⟩ := ok_b hf
            have hPc := hP.sub (ws' := []) [] rfl
            have hDc := hD.sub (ws' := []) [] (by decide) rfl
            have hKc := hK.sub (tys' := []) [] rfl
            have hFc := va_free (wc := []) hD hS hA [] rfl
            refine va_calli (va_runS (As := [.int w3_2, .int r_10]) (rest := []) ⟨hx, hb, hml, hown, hts⟩ (c_minI l dC dI w3_2 r_10 H.size F xc49 hc49) (va_cwS 2 hts (gwS kw_139 kw_140 kw_4 kw_141) rfl rfl rfl (by decide +kernel) ⟨Nat.le_of_ble_eq_true rfl, Nat.le_of_ble_eq_true rfl⟩) ⟨fun a U g mk q => by obtain ⟨q0, q1, qP, qK, qD⟩ := q; exact ⟨q0, q1, qP, va_K.moved (u := U) (U := U.calling g mk a) (Vm.Alike.refl U.vm) qK, qD⟩, fun U hU hW => ⟨rfl, by rw [hU], by rw [hU]; exact hPc, va_K.moved hW.alike hKc, hDc.weaken (fun _ _ _ _ => trivial)⟩⟩ rfl rfl hl.1 rfl (lv_room (Nat.le_of_ble_eq_true rfl)) dX0_leastKey_49 ⟨Nat.zero_le _, Nat.zero_le _⟩) hS (fun q _ h => hFc q h) hFc (fun r_11 u t H1 locs ht hvm hw hB hz1 hk1 hS => ?_)
            obtain ⟨⟩ := u
            obtain ⟨hP1, hK1, hD1⟩ := hB
            rw [ht] at hP1
            subst hw
            obtain ⟨hP, hD⟩ := va_join (wr := [(ph, .inr (0, [.int dd, .int rt, .int cl, .int rf, .int pr, .ref pn, .int gk, .int go, .int gc, .ref pg, .ref ps, .ref po, .ref pc, .ref pe, .ref p1, .ref p2, .ref pz])), (pf, .inr (1, [.long u_a1_7, .long u_b1_8, .long u_c1_9]))]) (w1 := []) hP hD [] [0, 1] rfl rfl (by decide) (by decide) hk1 hFc hP1 hD1
            generalize H1 = H at hP hS ⊢
            have hP : va_P (dC, dI) vwCl [(ph, .inr (0, [.int dd, .int rt, .int cl, .int rf, .int pr, .ref pn, .int gk, .int go, .int gc, .ref pg, .ref ps, .ref po, .ref pc, .ref pe, .ref p1, .ref p2, .ref pz])), (pf, .inr (1, [.long u_a1_7, .long u_b1_8, .long u_c1_9]))] H := hP
            have hD : va_D A [(ph, .inr (0, [.int dd, .int rt, .int cl, .int rf, .int pr, .ref pn, .int gk, .int go, .int gc, .ref pg, .ref ps, .ref po, .ref pc, .ref pe, .ref p1, .ref p2, .ref pz])), (pf, .inr (1, [.long u_a1_7, .long u_b1_8, .long u_c1_9]))] := hD
            refine lv_istore_n (lv' := [(3, .int r_11), (5, .int r_10), (0, .ref ph), (1, .ref pf), (2, .int r_1), (4, .int w4_3)]) hx hb dX0_leastKey_52 rfl hl (by decide) rfl (fun ls hl => ?_)
            obtain ⟨v4_12, ev4_12⟩ : ∃ y : Int32, y = w4_3 + 1 := ⟨_, rfl⟩
            replace hf := bnd_ok ev4_12 hf
            refine lv_iinc (v := v4_12) (lv' := [(4, .int v4_12), (3, .int r_11), (5, .int r_10), (0, .ref ph), (1, .ref pf), (2, .int r_1)]) hx hb dX0_leastKey_53 hl (k := 5) rfl (by rw [ev4_12]; rfl) (by decide) rfl (fun ls hl => ?_)
            refine lv_goto (tgt := 19) hx hb dX0_leastKey_56 (by decide) ?_
            exact ih19 r_11 v4_12 u_a1_7 u_b1_8 u_c1_9 _ _ _ _ _ hf (hP.sub [0, 1] rfl) (hD.sub [0, 1] (by decide) rfl) hS (lv_sub hl [3, 4, 5, 1, 0] rfl) k19_0 k19_1
          · have hf := ok_t c_40 hf
            exact k19_1 w3_2 u_a1_7 u_b1_8 u_c1_9 _ _ _ (Option.some.inj hf) (hP.sub [0, 1] rfl) (hD.sub [0, 1] (by decide) rfl) hS (lv_sub hl [4] rfl)
    obtain ⟨res19, hL19_r, hf⟩ := ok_b hf
    refine hL19 F r_1 0 a1 b1 c1 res19 _ _ _ _ hL19_r (hP.sub [0, 1] rfl) (hD.sub [0, 1] (by decide) rfl) hS (lv_sub hl [3, 4, 2, 1, 0] rfl) (fun x3_13 y_a1_14 y_b1_15 y_c1_16 H locs ls hres hP hD hS hl => ?_) (fun x3_17 y_a1_18 y_b1_19 y_c1_20 H locs ls hres hP hD hS hl => ?_)
    · subst hres
      refine lv_iload_n hx hb dX0_leastKey_59 rfl (lv_at hl 0 rfl) ?_
      have hP9 := hP.sub (ws' := [(ph, .inr (0, [.int dd, .int rt, .int cl, .int rf, .int pr, .ref pn, .int gk, .int go, .int gc, .ref pg, .ref ps, .ref po, .ref pc, .ref pe, .ref p1, .ref p2, .ref pz])), (pf, .inr (1, [.long y_a1_14, .long y_b1_15, .long y_c1_16]))]) [0, 1] rfl
      have hD9 := hD.sub (ws' := [(ph, .inr (0, [.int dd, .int rt, .int cl, .int rf, .int pr, .ref pn, .int gk, .int go, .int gc, .ref pg, .ref ps, .ref po, .ref pc, .ref pe, .ref p1, .ref p2, .ref pz])), (pf, .inr (1, [.long y_a1_14, .long y_b1_15, .long y_c1_16]))]) [0, 1] (by decide) rfl
      have hK9 := hK.sub (tys' := []) [] rfl
      exact W.iret (v := x3_13) hx hb hr (fun t ht hW => ⟨⟨x3_13, (y_a1_14, y_b1_15, y_c1_16), rfl, (Option.some.inj hf), by rw [ht]; exact hP9, va_K.moved hW.alike hK9, hD9⟩, hS.F ht⟩) hS.2.2 dX0_leastKey_60
    · subst hres
      refine lv_goto (tgt := 59) hx hb dX0_leastKey_43 (by decide) ?_
      refine lv_iload_n hx hb dX0_leastKey_59 rfl (lv_at hl 0 rfl) ?_
      have hP9 := hP.sub (ws' := [(ph, .inr (0, [.int dd, .int rt, .int cl, .int rf, .int pr, .ref pn, .int gk, .int go, .int gc, .ref pg, .ref ps, .ref po, .ref pc, .ref pe, .ref p1, .ref p2, .ref pz])), (pf, .inr (1, [.long y_a1_18, .long y_b1_19, .long y_c1_20]))]) [0, 1] rfl
      have hD9 := hD.sub (ws' := [(ph, .inr (0, [.int dd, .int rt, .int cl, .int rf, .int pr, .ref pn, .int gk, .int go, .int gc, .ref pg, .ref ps, .ref po, .ref pc, .ref pe, .ref p1, .ref p2, .ref pz])), (pf, .inr (1, [.long y_a1_18, .long y_b1_19, .long y_c1_20]))]) [0, 1] (by decide) rfl
      have hK9 := hK.sub (tys' := []) [] rfl
      exact W.iret (v := x3_17) hx hb hr (fun t ht hW => ⟨⟨x3_17, (y_a1_18, y_b1_19, y_c1_20), rfl, (Option.some.inj hf), by rw [ht]; exact hP9, va_K.moved hW.alike hK9, hD9⟩, hS.F ht⟩) hS.2.2 dX0_leastKey_60
  · have hf := ok_f c_11 hf
    refine lv_iload_n hx hb dX0_leastKey_14 rfl (lv_at hl 0 rfl) ?_
    have hP9 := hP.sub (ws' := [(ph, .inr (0, [.int dd, .int rt, .int cl, .int rf, .int pr, .ref pn, .int gk, .int go, .int gc, .ref pg, .ref ps, .ref po, .ref pc, .ref pe, .ref p1, .ref p2, .ref pz])), (pf, .inr (1, [.long a1, .long b1, .long c1]))]) [0, 1] rfl
    have hD9 := hD.sub (ws' := [(ph, .inr (0, [.int dd, .int rt, .int cl, .int rf, .int pr, .ref pn, .int gk, .int go, .int gc, .ref pg, .ref ps, .ref po, .ref pc, .ref pe, .ref p1, .ref p2, .ref pz])), (pf, .inr (1, [.long a1, .long b1, .long c1]))]) [0, 1] (by decide) rfl
    have hK9 := hK.sub (tys' := []) [] rfl
    exact W.iret (v := r_1) hx hb hr (fun t ht hW => ⟨⟨r_1, (a1, b1, c1), rfl, (Option.some.inj hf), by rw [ht]; exact hP9, va_K.moved hW.alike hK9, hD9⟩, hS.F ht⟩) hS.2.2 dX0_leastKey_15

