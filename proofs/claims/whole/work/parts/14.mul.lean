def f_compose (F : Nat) (dd : Int32) (a1 : Int64) (b1 : Int64) (c1 : Int64) (a2 : Int64) (b2 : Int64) (c2 : Int64) (zg : Int64) (z1 : Int64) (z2 : Int64) : Option (Int64 × Int64 × Int64 × Int64 × Int64 × Int64) := Option.bind (f_Bz_solve F a1 a2) (fun (u_zg_1, u_z1_2, u_z2_3) => Option.bind (f_Bz_solve F u_zg_1 ((b1 + b2) / 2)) (fun (u_zg_4, u_z1_5, u_z2_6) => (if (lg_cmp u_zg_4 0) = 0 then some (a1, b1, c1, u_zg_4, u_z1_5, u_z2_6) else bnd (u_z1_5 * u_z1_2) (fun v9_7 => bnd (u_z1_5 * u_z2_3) (fun v11_8 => (if ¬ u_zg_4 = 0 then (if ¬ u_zg_4 = 0 then bnd ((a1 / u_zg_4) * (a2 / u_zg_4)) (fun v15_9 => (if ¬ u_zg_4 = 0 then bnd (((((v9_7 * a1) * b2) + ((v11_8 * a2) * b1)) + (u_z2_6 * (((b1 * b2) + (dd).toInt64) / 2))) / u_zg_4) (fun v17_10 => (if (lg_cmp v15_9 0) = 0 then some (a1, b1, c1, u_zg_4, u_z1_5, u_z2_6) else Option.bind (f_absJ F v15_9) (fun r_11 => Option.bind (f_fmodJ F v17_10 (2 * r_11)) (fun r_12 => (if ¬ (4 * v15_9) = 0 then Option.bind (f_Form_set F v15_9 r_12 (((r_12 * r_12) - (dd).toInt64) / (4 * v15_9))) (fun (u_a1_13, u_b1_14, u_c1_15) => some (u_a1_13, u_b1_14, u_c1_15, u_zg_4, u_z1_5, u_z2_6)) else none))))) else none)) else none) else none))))))
set_option maxHeartbeats 4000000 in
set_option maxRecDepth 100000 in
theorem c_compose (l : Launch) (dC : Nat → ClassId) (dI : Nat → Nat → Nat) (ph : Nat) (dd : Int32) (rt : Int32) (cl : Int32) (rf : Int32) (pr : Int32) (pn : Nat) (gk : Int32) (go : Int32) (gc : Int32) (pg : Nat) (ps : Nat) (po : Nat) (pc : Nat) (pe : Nat) (p1 : Nat) (p2 : Nat) (pz : Nat) (pf : Nat) (a1 : Int64) (b1 : Int64) (c1 : Int64) (pg2 : Nat) (a2 : Int64) (b2 : Int64) (c2 : Int64) (zg : Int64) (z1 : Int64) (z2 : Int64) (sz : Nat) (F : Nat) (out : Int64 × Int64 × Int64 × Int64 × Int64 × Int64) (hf : f_compose F dd a1 b1 c1 a2 b2 c2 zg z1 z2 = some out) : Met l yX0_compose wsX0_compose ({ frames := 1, cells := 0, slots := 0, locals := 39 }) (va_Pc [.ref ph, .ref pf, .ref pg2] (fun U => U.heap.size = sz ∧ va_P (dC, dI) vwCl [(ph, .inr (0, [.int dd, .int rt, .int cl, .int rf, .int pr, .ref pn, .int gk, .int go, .int gc, .ref pg, .ref ps, .ref po, .ref pc, .ref pe, .ref p1, .ref p2, .ref pz])), (pf, .inr (1, [.long a1, .long b1, .long c1])), (pg2, .inr (1, [.long a2, .long b2, .long c2])), (pz, .inr (2, [.long zg, .long z1, .long z2]))] U.heap ∧ va_K (dC, dI) vwCl [] U ∧ va_D (fun _ => True) [(ph, .inr (0, [.int dd, .int rt, .int cl, .int rf, .int pr, .ref pn, .int gk, .int go, .int gc, .ref pg, .ref ps, .ref po, .ref pc, .ref pe, .ref p1, .ref p2, .ref pz])), (pf, .inr (1, [.long a1, .long b1, .long c1])), (pg2, .inr (1, [.long a2, .long b2, .long c2])), (pz, .inr (2, [.long zg, .long z1, .long z2]))])) (va_Qv (fun (u : Int64 × Int64 × Int64 × Int64 × Int64 × Int64) => u = out) (fun (u : Int64 × Int64 × Int64 × Int64 × Int64 × Int64) t => match u with | (u_a1, u_b1, u_c1, u_zg, u_z1, u_z2) => va_P (dC, dI) vwCl [(ph, .inr (0, [.int dd, .int rt, .int cl, .int rf, .int pr, .ref pn, .int gk, .int go, .int gc, .ref pg, .ref ps, .ref po, .ref pc, .ref pe, .ref p1, .ref p2, .ref pz])), (pf, .inr (1, [.long u_a1, .long u_b1, .long u_c1])), (pg2, .inr (1, [.long a2, .long b2, .long c2])), (pz, .inr (2, [.long u_zg, .long u_z1, .long u_z2]))] t.heap ∧ va_K (dC, dI) vwCl [] t ∧ va_D (va_A [(ph, .inr (0, [.int dd, .int rt, .int cl, .int rf, .int pr, .ref pn, .int gk, .int go, .int gc, .ref pg, .ref ps, .ref po, .ref pc, .ref pe, .ref p1, .ref p2, .ref pz])), (pf, .inr (1, [.long a1, .long b1, .long c1])), (pg2, .inr (1, [.long a2, .long b2, .long c2])), (pz, .inr (2, [.long zg, .long z1, .long z2]))] sz) [(ph, .inr (0, [.int dd, .int rt, .int cl, .int rf, .int pr, .ref pn, .int gk, .int go, .int gc, .ref pg, .ref ps, .ref po, .ref pc, .ref pe, .ref p1, .ref p2, .ref pz])), (pf, .inr (1, [.long u_a1, .long u_b1, .long u_c1])), (pg2, .inr (1, [.long a2, .long b2, .long c2])), (pz, .inr (2, [.long u_zg, .long u_z1, .long u_z2]))]) (va_A [(ph, .inr (0, [.int dd, .int rt, .int cl, .int rf, .int pr, .ref pn, .int gk, .int go, .int gc, .ref pg, .ref ps, .ref po, .ref pc, .ref pe, .ref p1, .ref p2, .ref pz])), (pf, .inr (1, [.long a1, .long b1, .long c1])), (pg2, .inr (1, [.long a2, .long b2, .long c2])), (pz, .inr (2, [.long zg, .long z1, .long z2]))] sz)) 0 0 (va_A [(ph, .inr (0, [.int dd, .int rt, .int cl, .int rf, .int pr, .ref pn, .int gk, .int go, .int gc, .ref pg, .ref ps, .ref po, .ref pc, .ref pe, .ref p1, .ref p2, .ref pz])), (pf, .inr (1, [.long a1, .long b1, .long c1])), (pg2, .inr (1, [.long a2, .long b2, .long c2])), (pz, .inr (2, [.long zg, .long z1, .long z2]))] sz) := by
  refine Met.ofW (cc := cX0_compose) (maxL := 19) (ret := none) (by decide +kernel) rfl ?_
  intro p e s m args below meth c s₁ B hml hv
  obtain ⟨rfl, hsz, hP, hK, hD0⟩ := hv
  have hx := B.exec
  have hb := B.bytes
  have hr := B.returns
  have hts := atoms_spec (ws := wsX0_compose) B.pre
  have hown : s.vm.findClass "ClassGroup" = some m.cls := findClass_of_methodNamed B.named
  have hlocks := B.notSynchronized
  subst hsz
  have hD := hD0.self (sz := s.heap.size)
  generalize hAe : va_A [(ph, .inr (0, [.int dd, .int rt, .int cl, .int rf, .int pr, .ref pn, .int gk, .int go, .int gc, .ref pg, .ref ps, .ref po, .ref pc, .ref pe, .ref p1, .ref p2, .ref pz])), (pf, .inr (1, [.long a1, .long b1, .long c1])), (pg2, .inr (1, [.long a2, .long b2, .long c2])), (pz, .inr (2, [.long zg, .long z1, .long z2]))] s.heap.size = A at hD ⊢
  have hA : ∀ q : Nat, s.heap.size ≤ q → A q := fun q h => by rw [← hAe]; exact Or.inr h
  have hS : va_S A s.heap s.heap [] := va_S.rf
  have hl := lv_entry ([.ref ph, .ref pf, .ref pg2]) (n := 19) (Nat.le_of_ble_eq_true rfl)
  rw [lg_entry_eq]
  generalize (lg_sl ([.ref ph, .ref pf, .ref pg2]) ++ List.replicate (19 - (lg_sl ([.ref ph, .ref pf, .ref pg2])).length) Slot.unset).toArray = ls at hl ⊢
  have hl : lv_has ls 19 [(0, .ref ph), (1, .ref pf), (2, .ref pg2)] := hl
  unfold f_compose at hf
  refine lv_aload_n hx hb dX0_compose_0 rfl (lv_at hl 0 rfl) ?_
  refine va_get (D := (dC, dI)) (ci := 0) (v := .ref pz) (C := "ClassGroup") (T := TX0) (N := 17) hx hb hts (fun w h => List.mem_cons_of_mem _ (iwX0 w h)) hown hK hP 0 rfl rfl 16 (by decide) (hts _ (List.mem_cons_of_mem _ kw_166)) (fun _ h9 => h9) rfl dX0_compose_1 ?_
  refine lv_aload_n hx hb dX0_compose_4 rfl (lv_at hl 1 rfl) ?_
  refine va_get (D := (dC, dI)) (ci := 1) (v := .long a1) (C := "ClassGroup$Form") (T := TX1) (N := 3) hx hb hts (fun w h => List.mem_cons_of_mem _ (iwX1 w h)) hown hK hP 1 rfl rfl 0 (by decide) (hts _ (List.mem_cons_of_mem _ kw_27)) (fun _ h9 => h9) rfl dX0_compose_5 ?_
  refine lv_aload_n hx hb dX0_compose_8 rfl (lv_at hl 2 rfl) ?_
  refine va_get (D := (dC, dI)) (ci := 1) (v := .long a2) (C := "ClassGroup$Form") (T := TX1) (N := 3) hx hb hts (fun w h => List.mem_cons_of_mem _ (iwX1 w h)) hown hK hP 2 rfl rfl 0 (by decide) (hts _ (List.mem_cons_of_mem _ kw_27)) (fun _ h9 => h9) rfl dX0_compose_9 ?_
  obtain ⟨xc12, hc12, hf⟩ := ok_b hf
  have hPc := hP.sub (ws' := [(pz, .inr (2, [.long zg, .long z1, .long z2]))]) [3] rfl
  have hDc := hD.sub (ws' := [(pz, .inr (2, [.long zg, .long z1, .long z2]))]) [3] (by decide) rfl
  have hKc := hK.sub (tys' := []) [] rfl
  have hFc := va_free (wc := [(pz, .inr (2, [.long zg, .long z1, .long z2]))]) hD hS hA [3] rfl
  refine va_callv (va_runV (As := [.long a1, .long a2]) (rest := []) ⟨hx, hb, hml, hown, hts⟩ (c_Bz_solve l dC dI pz zg z1 z2 a1 a2 s.heap.size F xc12 hc12) (cwV 2 hts (gwV kw_236 kw_237 kw_238 kw_3 kw_239) rfl rfl rfl (by decide +kernel) ⟨Nat.le_of_ble_eq_true rfl, Nat.le_of_ble_eq_true rfl⟩) ⟨fun a U g mk q => by obtain ⟨q0, q1, qP, qK, qD⟩ := q; exact ⟨q0, q1, qP, va_K.moved (u := U) (U := U.calling g mk a) (Vm.Alike.refl U.vm) qK, qD⟩, va_recv hKc hPc (ci := 2) (q0 := 0) rfl rfl, fun U hU hW => ⟨rfl, by rw [hU], by rw [hU]; exact hPc, va_K.moved hW.alike hKc, hDc.weaken (fun _ _ _ _ => trivial)⟩⟩ rfl rfl hl.1 rfl (lv_room (Nat.le_of_ble_eq_true rfl)) dX0_compose_12 ⟨Nat.zero_le _, Nat.zero_le _⟩) hS (fun q _ h => hFc q h) hFc (fun u t H1 locs ht hvm hw hB hz1 hk1 hS => ?_)
  obtain ⟨u_zg_1, u_z1_2, u_z2_3⟩ := u
  obtain ⟨hP1, hK1, hD1⟩ := hB
  rw [ht] at hP1
  subst hw
  obtain ⟨hP, hD⟩ := va_join (wr := [(ph, .inr (0, [.int dd, .int rt, .int cl, .int rf, .int pr, .ref pn, .int gk, .int go, .int gc, .ref pg, .ref ps, .ref po, .ref pc, .ref pe, .ref p1, .ref p2, .ref pz])), (pf, .inr (1, [.long a1, .long b1, .long c1])), (pg2, .inr (1, [.long a2, .long b2, .long c2]))]) (w1 := [(pz, .inr (2, [.long u_zg_1, .long u_z1_2, .long u_z2_3]))]) hP hD [3] [0, 1, 2] rfl rfl (by decide) (by decide) hk1 hFc hP1 hD1
  generalize H1 = H at hP hS ⊢
  have hP : va_P (dC, dI) vwCl [(ph, .inr (0, [.int dd, .int rt, .int cl, .int rf, .int pr, .ref pn, .int gk, .int go, .int gc, .ref pg, .ref ps, .ref po, .ref pc, .ref pe, .ref p1, .ref p2, .ref pz])), (pf, .inr (1, [.long a1, .long b1, .long c1])), (pg2, .inr (1, [.long a2, .long b2, .long c2])), (pz, .inr (2, [.long u_zg_1, .long u_z1_2, .long u_z2_3]))] H := hP
  have hD : va_D A [(ph, .inr (0, [.int dd, .int rt, .int cl, .int rf, .int pr, .ref pn, .int gk, .int go, .int gc, .ref pg, .ref ps, .ref po, .ref pc, .ref pe, .ref p1, .ref p2, .ref pz])), (pf, .inr (1, [.long a1, .long b1, .long c1])), (pg2, .inr (1, [.long a2, .long b2, .long c2])), (pz, .inr (2, [.long u_zg_1, .long u_z1_2, .long u_z2_3]))] := hD
  refine lv_aload_n hx hb dX0_compose_15 rfl (lv_at hl 0 rfl) ?_
  refine va_get (D := (dC, dI)) (ci := 0) (v := .ref pz) (C := "ClassGroup") (T := TX0) (N := 17) hx hb hts (fun w h => List.mem_cons_of_mem _ (iwX0 w h)) hown hK hP 0 rfl rfl 16 (by decide) (hts _ (List.mem_cons_of_mem _ kw_166)) (fun _ h9 => h9) rfl dX0_compose_16 ?_
  refine va_get (D := (dC, dI)) (ci := 2) (v := .long u_z1_2) (C := "ClassGroup$Bezout") (T := TX2) (N := 3) hx hb hts (fun w h => List.mem_cons_of_mem _ (iwX2 w h)) hown hK hP 3 rfl rfl 1 (by decide) (hts _ (List.mem_cons_of_mem _ kw_49)) (fun _ h9 => h9) rfl dX0_compose_19 ?_
  refine lv_lstore_n (lv' := [(3, .long u_z1_2), (0, .ref ph), (1, .ref pf), (2, .ref pg2)]) hx hb dX0_compose_22 rfl hl (by decide) rfl (fun ls hl => ?_)
  refine lv_aload_n hx hb dX0_compose_23 rfl (lv_at hl 1 rfl) ?_
  refine va_get (D := (dC, dI)) (ci := 0) (v := .ref pz) (C := "ClassGroup") (T := TX0) (N := 17) hx hb hts (fun w h => List.mem_cons_of_mem _ (iwX0 w h)) hown hK hP 0 rfl rfl 16 (by decide) (hts _ (List.mem_cons_of_mem _ kw_166)) (fun _ h9 => h9) rfl dX0_compose_24 ?_
  refine va_get (D := (dC, dI)) (ci := 2) (v := .long u_z2_3) (C := "ClassGroup$Bezout") (T := TX2) (N := 3) hx hb hts (fun w h => List.mem_cons_of_mem _ (iwX2 w h)) hown hK hP 3 rfl rfl 2 (by decide) (hts _ (List.mem_cons_of_mem _ kw_51)) (fun _ h9 => h9) rfl dX0_compose_27 ?_
  refine lv_lstore (lv' := [(5, .long u_z2_3), (3, .long u_z1_2), (0, .ref ph), (1, .ref pf), (2, .ref pg2)]) hx hb dX0_compose_30 hl (by decide) rfl (fun ls hl => ?_)
  refine lv_aload_n hx hb dX0_compose_32 rfl (lv_at hl 2 rfl) ?_
  refine va_get (D := (dC, dI)) (ci := 0) (v := .ref pz) (C := "ClassGroup") (T := TX0) (N := 17) hx hb hts (fun w h => List.mem_cons_of_mem _ (iwX0 w h)) hown hK hP 0 rfl rfl 16 (by decide) (hts _ (List.mem_cons_of_mem _ kw_166)) (fun _ h9 => h9) rfl dX0_compose_33 ?_
  refine lv_aload_n hx hb dX0_compose_36 rfl (lv_at hl 2 rfl) ?_
  refine va_get (D := (dC, dI)) (ci := 0) (v := .ref pz) (C := "ClassGroup") (T := TX0) (N := 17) hx hb hts (fun w h => List.mem_cons_of_mem _ (iwX0 w h)) hown hK hP 0 rfl rfl 16 (by decide) (hts _ (List.mem_cons_of_mem _ kw_166)) (fun _ h9 => h9) rfl dX0_compose_37 ?_
  refine va_get (D := (dC, dI)) (ci := 2) (v := .long u_zg_1) (C := "ClassGroup$Bezout") (T := TX2) (N := 3) hx hb hts (fun w h => List.mem_cons_of_mem _ (iwX2 w h)) hown hK hP 3 rfl rfl 0 (by decide) (hts _ (List.mem_cons_of_mem _ kw_47)) (fun _ h9 => h9) rfl dX0_compose_40 ?_
  refine lv_aload_n hx hb dX0_compose_43 rfl (lv_at hl 3 rfl) ?_
  refine va_get (D := (dC, dI)) (ci := 1) (v := .long b1) (C := "ClassGroup$Form") (T := TX1) (N := 3) hx hb hts (fun w h => List.mem_cons_of_mem _ (iwX1 w h)) hown hK hP 1 rfl rfl 1 (by decide) (hts _ (List.mem_cons_of_mem _ kw_29)) (fun _ h9 => h9) rfl dX0_compose_44 ?_
  refine lv_aload_n hx hb dX0_compose_47 rfl (lv_at hl 4 rfl) ?_
  refine va_get (D := (dC, dI)) (ci := 1) (v := .long b2) (C := "ClassGroup$Form") (T := TX1) (N := 3) hx hb hts (fun w h => List.mem_cons_of_mem _ (iwX1 w h)) hown hK hP 2 rfl rfl 1 (by decide) (hts _ (List.mem_cons_of_mem _ kw_29)) (fun _ h9 => h9) rfl dX0_compose_48 ?_
  refine lv_ladd hx hb dX0_compose_51 ?_
  refine lv_ldc2 (v := 2) hx hb hown (hts _ (List.mem_cons_of_mem _ kw_122)) dX0_compose_52 ?_
  refine lv_ldiv hx hb dX0_compose_55 (by decide) ?_
  obtain ⟨xc56, hc56, hf⟩ := ok_b hf
  have hPc := hP.sub (ws' := [(pz, .inr (2, [.long u_zg_1, .long u_z1_2, .long u_z2_3]))]) [3] rfl
  have hDc := hD.sub (ws' := [(pz, .inr (2, [.long u_zg_1, .long u_z1_2, .long u_z2_3]))]) [3] (by decide) rfl
  have hKc := hK.sub (tys' := []) [] rfl
  have hFc := va_free (wc := [(pz, .inr (2, [.long u_zg_1, .long u_z1_2, .long u_z2_3]))]) hD hS hA [3] rfl
  refine va_callv (va_runV (As := [.long u_zg_1, .long ((b1 + b2) / 2)]) (rest := []) ⟨hx, hb, hml, hown, hts⟩ (c_Bz_solve l dC dI pz u_zg_1 u_z1_2 u_z2_3 u_zg_1 ((b1 + b2) / 2) H.size F xc56 hc56) (cwV 2 hts (gwV kw_236 kw_237 kw_238 kw_3 kw_239) rfl rfl rfl (by decide +kernel) ⟨Nat.le_of_ble_eq_true rfl, Nat.le_of_ble_eq_true rfl⟩) ⟨fun a U g mk q => by obtain ⟨q0, q1, qP, qK, qD⟩ := q; exact ⟨q0, q1, qP, va_K.moved (u := U) (U := U.calling g mk a) (Vm.Alike.refl U.vm) qK, qD⟩, va_recv hKc hPc (ci := 2) (q0 := 0) rfl rfl, fun U hU hW => ⟨rfl, by rw [hU], by rw [hU]; exact hPc, va_K.moved hW.alike hKc, hDc.weaken (fun _ _ _ _ => trivial)⟩⟩ rfl rfl hl.1 rfl (lv_room (Nat.le_of_ble_eq_true rfl)) dX0_compose_56 ⟨Nat.zero_le _, Nat.zero_le _⟩) hS (fun q _ h => hFc q h) hFc (fun u t H1 locs ht hvm hw hB hz1 hk1 hS => ?_)
  obtain ⟨u_zg_4, u_z1_5, u_z2_6⟩ := u
  obtain ⟨hP1, hK1, hD1⟩ := hB
  rw [ht] at hP1
  subst hw
  obtain ⟨hP, hD⟩ := va_join (wr := [(ph, .inr (0, [.int dd, .int rt, .int cl, .int rf, .int pr, .ref pn, .int gk, .int go, .int gc, .ref pg, .ref ps, .ref po, .ref pc, .ref pe, .ref p1, .ref p2, .ref pz])), (pf, .inr (1, [.long a1, .long b1, .long c1])), (pg2, .inr (1, [.long a2, .long b2, .long c2]))]) (w1 := [(pz, .inr (2, [.long u_zg_4, .long u_z1_5, .long u_z2_6]))]) hP hD [3] [0, 1, 2] rfl rfl (by decide) (by decide) hk1 hFc hP1 hD1
  generalize H1 = H at hP hS ⊢
  have hP : va_P (dC, dI) vwCl [(ph, .inr (0, [.int dd, .int rt, .int cl, .int rf, .int pr, .ref pn, .int gk, .int go, .int gc, .ref pg, .ref ps, .ref po, .ref pc, .ref pe, .ref p1, .ref p2, .ref pz])), (pf, .inr (1, [.long a1, .long b1, .long c1])), (pg2, .inr (1, [.long a2, .long b2, .long c2])), (pz, .inr (2, [.long u_zg_4, .long u_z1_5, .long u_z2_6]))] H := hP
  have hD : va_D A [(ph, .inr (0, [.int dd, .int rt, .int cl, .int rf, .int pr, .ref pn, .int gk, .int go, .int gc, .ref pg, .ref ps, .ref po, .ref pc, .ref pe, .ref p1, .ref p2, .ref pz])), (pf, .inr (1, [.long a1, .long b1, .long c1])), (pg2, .inr (1, [.long a2, .long b2, .long c2])), (pz, .inr (2, [.long u_zg_4, .long u_z1_5, .long u_z2_6]))] := hD
  refine lv_aload_n hx hb dX0_compose_59 rfl (lv_at hl 2 rfl) ?_
  refine va_get (D := (dC, dI)) (ci := 0) (v := .ref pz) (C := "ClassGroup") (T := TX0) (N := 17) hx hb hts (fun w h => List.mem_cons_of_mem _ (iwX0 w h)) hown hK hP 0 rfl rfl 16 (by decide) (hts _ (List.mem_cons_of_mem _ kw_166)) (fun _ h9 => h9) rfl dX0_compose_60 ?_
  refine va_get (D := (dC, dI)) (ci := 2) (v := .long u_zg_4) (C := "ClassGroup$Bezout") (T := TX2) (N := 3) hx hb hts (fun w h => List.mem_cons_of_mem _ (iwX2 w h)) hown hK hP 3 rfl rfl 0 (by decide) (hts _ (List.mem_cons_of_mem _ kw_47)) (fun _ h9 => h9) rfl dX0_compose_63 ?_
  refine lv_lstore (lv' := [(7, .long u_zg_4), (5, .long u_z2_3), (3, .long u_z1_2), (0, .ref ph), (1, .ref pf), (2, .ref pg2)]) hx hb dX0_compose_66 hl (by decide) rfl (fun ls hl => ?_)
  refine lv_lload hx hb dX0_compose_68 (lv_at hl 0 rfl) ?_
  refine lv_lconst (v := 0) hx hb dX0_compose_70 (by decide) ?_
  refine W.lcmp hx hb dX0_compose_71 ?_
  refine lv_if_ne (tgt := 76) hx hb dX0_compose_72 (by decide) (fun c_72 => ?_) (fun c_72 => ?_)
  · have hf := ok_f c_72 hf
    refine lv_aload_n hx hb dX0_compose_76 rfl (lv_at hl 3 rfl) ?_
    refine va_get (D := (dC, dI)) (ci := 0) (v := .ref pz) (C := "ClassGroup") (T := TX0) (N := 17) hx hb hts (fun w h => List.mem_cons_of_mem _ (iwX0 w h)) hown hK hP 0 rfl rfl 16 (by decide) (hts _ (List.mem_cons_of_mem _ kw_166)) (fun _ h9 => h9) rfl dX0_compose_77 ?_
    refine va_get (D := (dC, dI)) (ci := 2) (v := .long u_z1_5) (C := "ClassGroup$Bezout") (T := TX2) (N := 3) hx hb hts (fun w h => List.mem_cons_of_mem _ (iwX2 w h)) hown hK hP 3 rfl rfl 1 (by decide) (hts _ (List.mem_cons_of_mem _ kw_49)) (fun _ h9 => h9) rfl dX0_compose_80 ?_
    refine lv_lload_n hx hb dX0_compose_83 rfl (lv_at hl 2 rfl) ?_
    refine lv_lmul hx hb dX0_compose_84 ?_
    refine lv_topl (fun v9_7 ev9_7 => ?_)
    replace hf := bnd_ok ev9_7 hf
    refine lv_lstore (lv' := [(9, .long v9_7), (7, .long u_zg_4), (5, .long u_z2_3), (3, .long u_z1_2), (0, .ref ph), (1, .ref pf), (2, .ref pg2)]) hx hb dX0_compose_85 hl (by decide) rfl (fun ls hl => ?_)
    refine lv_aload_n hx hb dX0_compose_87 rfl (lv_at hl 4 rfl) ?_
    refine va_get (D := (dC, dI)) (ci := 0) (v := .ref pz) (C := "ClassGroup") (T := TX0) (N := 17) hx hb hts (fun w h => List.mem_cons_of_mem _ (iwX0 w h)) hown hK hP 0 rfl rfl 16 (by decide) (hts _ (List.mem_cons_of_mem _ kw_166)) (fun _ h9 => h9) rfl dX0_compose_88 ?_
    refine va_get (D := (dC, dI)) (ci := 2) (v := .long u_z1_5) (C := "ClassGroup$Bezout") (T := TX2) (N := 3) hx hb hts (fun w h => List.mem_cons_of_mem _ (iwX2 w h)) hown hK hP 3 rfl rfl 1 (by decide) (hts _ (List.mem_cons_of_mem _ kw_49)) (fun _ h9 => h9) rfl dX0_compose_91 ?_
    refine lv_lload hx hb dX0_compose_94 (lv_at hl 2 rfl) ?_
    refine lv_lmul hx hb dX0_compose_96 ?_
    refine lv_topl (fun v11_8 ev11_8 => ?_)
    replace hf := bnd_ok ev11_8 hf
    refine lv_lstore (lv' := [(11, .long v11_8), (9, .long v9_7), (7, .long u_zg_4), (5, .long u_z2_3), (3, .long u_z1_2), (0, .ref ph), (1, .ref pf), (2, .ref pg2)]) hx hb dX0_compose_97 hl (by decide) rfl (fun ls hl => ?_)
    refine lv_aload_n hx hb dX0_compose_99 rfl (lv_at hl 5 rfl) ?_
    refine va_get (D := (dC, dI)) (ci := 0) (v := .ref pz) (C := "ClassGroup") (T := TX0) (N := 17) hx hb hts (fun w h => List.mem_cons_of_mem _ (iwX0 w h)) hown hK hP 0 rfl rfl 16 (by decide) (hts _ (List.mem_cons_of_mem _ kw_166)) (fun _ h9 => h9) rfl dX0_compose_100 ?_
    refine va_get (D := (dC, dI)) (ci := 2) (v := .long u_z2_6) (C := "ClassGroup$Bezout") (T := TX2) (N := 3) hx hb hts (fun w h => List.mem_cons_of_mem _ (iwX2 w h)) hown hK hP 3 rfl rfl 2 (by decide) (hts _ (List.mem_cons_of_mem _ kw_51)) (fun _ h9 => h9) rfl dX0_compose_103 ?_
    refine lv_lstore (lv' := [(13, .long u_z2_6), (11, .long v11_8), (9, .long v9_7), (7, .long u_zg_4), (5, .long u_z2_3), (3, .long u_z1_2), (0, .ref ph), (1, .ref pf), (2, .ref pg2)]) hx hb dX0_compose_106 hl (by decide) rfl (fun ls hl => ?_)
    refine lv_aload_n hx hb dX0_compose_108 rfl (lv_at hl 7 rfl) ?_
    refine va_get (D := (dC, dI)) (ci := 1) (v := .long a1) (C := "ClassGroup$Form") (T := TX1) (N := 3) hx hb hts (fun w h => List.mem_cons_of_mem _ (iwX1 w h)) hown hK hP 1 rfl rfl 0 (by decide) (hts _ (List.mem_cons_of_mem _ kw_27)) (fun _ h9 => h9) rfl dX0_compose_109 ?_
    refine lv_lload hx hb dX0_compose_112 (lv_at hl 3 rfl) ?_
    obtain ⟨g_114, hf⟩ := ok_g hf
    refine lv_ldiv hx hb dX0_compose_114 g_114 ?_
    refine lv_aload_n hx hb dX0_compose_115 rfl (lv_at hl 8 rfl) ?_
    refine va_get (D := (dC, dI)) (ci := 1) (v := .long a2) (C := "ClassGroup$Form") (T := TX1) (N := 3) hx hb hts (fun w h => List.mem_cons_of_mem _ (iwX1 w h)) hown hK hP 2 rfl rfl 0 (by decide) (hts _ (List.mem_cons_of_mem _ kw_27)) (fun _ h9 => h9) rfl dX0_compose_116 ?_
    refine lv_lload hx hb dX0_compose_119 (lv_at hl 3 rfl) ?_
    obtain ⟨g_121, hf⟩ := ok_g hf
    refine lv_ldiv hx hb dX0_compose_121 g_121 ?_
    refine lv_lmul hx hb dX0_compose_122 ?_
    refine lv_topl (fun v15_9 ev15_9 => ?_)
    replace hf := bnd_ok ev15_9 hf
    refine lv_lstore (lv' := [(15, .long v15_9), (13, .long u_z2_6), (11, .long v11_8), (9, .long v9_7), (7, .long u_zg_4), (5, .long u_z2_3), (3, .long u_z1_2), (0, .ref ph), (1, .ref pf), (2, .ref pg2)]) hx hb dX0_compose_123 hl (by decide) rfl (fun ls hl => ?_)
    refine lv_lload hx hb dX0_compose_125 (lv_at hl 3 rfl) ?_
    refine lv_aload_n hx hb dX0_compose_127 rfl (lv_at hl 8 rfl) ?_
    refine va_get (D := (dC, dI)) (ci := 1) (v := .long a1) (C := "ClassGroup$Form") (T := TX1) (N := 3) hx hb hts (fun w h => List.mem_cons_of_mem _ (iwX1 w h)) hown hK hP 1 rfl rfl 0 (by decide) (hts _ (List.mem_cons_of_mem _ kw_27)) (fun _ h9 => h9) rfl dX0_compose_128 ?_
    refine lv_lmul hx hb dX0_compose_131 ?_
    refine lv_aload_n hx hb dX0_compose_132 rfl (lv_at hl 9 rfl) ?_
    refine va_get (D := (dC, dI)) (ci := 1) (v := .long b2) (C := "ClassGroup$Form") (T := TX1) (N := 3) hx hb hts (fun w h => List.mem_cons_of_mem _ (iwX1 w h)) hown hK hP 2 rfl rfl 1 (by decide) (hts _ (List.mem_cons_of_mem _ kw_29)) (fun _ h9 => h9) rfl dX0_compose_133 ?_
    refine lv_lmul hx hb dX0_compose_136 ?_
    refine lv_lload hx hb dX0_compose_137 (lv_at hl 2 rfl) ?_
    refine lv_aload_n hx hb dX0_compose_139 rfl (lv_at hl 9 rfl) ?_
    refine va_get (D := (dC, dI)) (ci := 1) (v := .long a2) (C := "ClassGroup$Form") (T := TX1) (N := 3) hx hb hts (fun w h => List.mem_cons_of_mem _ (iwX1 w h)) hown hK hP 2 rfl rfl 0 (by decide) (hts _ (List.mem_cons_of_mem _ kw_27)) (fun _ h9 => h9) rfl dX0_compose_140 ?_
    refine lv_lmul hx hb dX0_compose_143 ?_
    refine lv_aload_n hx hb dX0_compose_144 rfl (lv_at hl 8 rfl) ?_
    refine va_get (D := (dC, dI)) (ci := 1) (v := .long b1) (C := "ClassGroup$Form") (T := TX1) (N := 3) hx hb hts (fun w h => List.mem_cons_of_mem _ (iwX1 w h)) hown hK hP 1 rfl rfl 1 (by decide) (hts _ (List.mem_cons_of_mem _ kw_29)) (fun _ h9 => h9) rfl dX0_compose_145 ?_
    refine lv_lmul hx hb dX0_compose_148 ?_
    refine lv_ladd hx hb dX0_compose_149 ?_
    refine lv_lload hx hb dX0_compose_150 (lv_at hl 1 rfl) ?_
    refine lv_aload_n hx hb dX0_compose_152 rfl (lv_at hl 8 rfl) ?_
    refine va_get (D := (dC, dI)) (ci := 1) (v := .long b1) (C := "ClassGroup$Form") (T := TX1) (N := 3) hx hb hts (fun w h => List.mem_cons_of_mem _ (iwX1 w h)) hown hK hP 1 rfl rfl 1 (by decide) (hts _ (List.mem_cons_of_mem _ kw_29)) (fun _ h9 => h9) rfl dX0_compose_153 ?_
    refine lv_aload_n hx hb dX0_compose_156 rfl (lv_at hl 9 rfl) ?_
    refine va_get (D := (dC, dI)) (ci := 1) (v := .long b2) (C := "ClassGroup$Form") (T := TX1) (N := 3) hx hb hts (fun w h => List.mem_cons_of_mem _ (iwX1 w h)) hown hK hP 2 rfl rfl 1 (by decide) (hts _ (List.mem_cons_of_mem _ kw_29)) (fun _ h9 => h9) rfl dX0_compose_157 ?_
    refine lv_lmul hx hb dX0_compose_160 ?_
    refine lv_aload_n hx hb dX0_compose_161 rfl (lv_at hl 7 rfl) ?_
    refine va_get (D := (dC, dI)) (ci := 0) (v := .int dd) (C := "ClassGroup") (T := TX0) (N := 17) hx hb hts (fun w h => List.mem_cons_of_mem _ (iwX0 w h)) hown hK hP 0 rfl rfl 0 (by decide) (hts _ (List.mem_cons_of_mem _ kw_150)) (fun _ h9 => h9) rfl dX0_compose_162 ?_
    refine lv_i2l (v := (dd).toInt64) hx hb dX0_compose_165 rfl ?_
    refine lv_ladd hx hb dX0_compose_166 ?_
    refine lv_ldc2 (v := 2) hx hb hown (hts _ (List.mem_cons_of_mem _ kw_122)) dX0_compose_167 ?_
    refine lv_ldiv hx hb dX0_compose_170 (by decide) ?_
    refine lv_lmul hx hb dX0_compose_171 ?_
    refine lv_ladd hx hb dX0_compose_172 ?_
    refine lv_lload hx hb dX0_compose_173 (lv_at hl 4 rfl) ?_
    obtain ⟨g_175, hf⟩ := ok_g hf
    refine lv_ldiv hx hb dX0_compose_175 g_175 ?_
    refine lv_topl (fun v17_10 ev17_10 => ?_)
    replace hf := bnd_ok ev17_10 hf
    refine lv_lstore (lv' := [(17, .long v17_10), (15, .long v15_9), (13, .long u_z2_6), (11, .long v11_8), (9, .long v9_7), (7, .long u_zg_4), (5, .long u_z2_3), (3, .long u_z1_2), (0, .ref ph), (1, .ref pf), (2, .ref pg2)]) hx hb dX0_compose_176 hl (by decide) rfl (fun ls hl => ?_)
    refine lv_lload hx hb dX0_compose_178 (lv_at hl 1 rfl) ?_
    refine lv_lconst (v := 0) hx hb dX0_compose_180 (by decide) ?_
    refine W.lcmp hx hb dX0_compose_181 ?_
    refine lv_if_eq (tgt := 227) hx hb dX0_compose_182 (by decide) (fun c_182 => ?_) (fun c_182 => ?_)
    · have hf := ok_t c_182 hf
      have hP9 := hP.sub (ws' := [(ph, .inr (0, [.int dd, .int rt, .int cl, .int rf, .int pr, .ref pn, .int gk, .int go, .int gc, .ref pg, .ref ps, .ref po, .ref pc, .ref pe, .ref p1, .ref p2, .ref pz])), (pf, .inr (1, [.long a1, .long b1, .long c1])), (pg2, .inr (1, [.long a2, .long b2, .long c2])), (pz, .inr (2, [.long u_zg_4, .long u_z1_5, .long u_z2_6]))]) [0, 1, 2, 3] rfl
      have hD9 := hD.sub (ws' := [(ph, .inr (0, [.int dd, .int rt, .int cl, .int rf, .int pr, .ref pn, .int gk, .int go, .int gc, .ref pg, .ref ps, .ref po, .ref pc, .ref pe, .ref p1, .ref p2, .ref pz])), (pf, .inr (1, [.long a1, .long b1, .long c1])), (pg2, .inr (1, [.long a2, .long b2, .long c2])), (pz, .inr (2, [.long u_zg_4, .long u_z1_5, .long u_z2_6]))]) [0, 1, 2, 3] (by decide) rfl
      have hK9 := hK.sub (tys' := []) [] rfl
      exact W.vret hx hb hr (fun t ht hW => ⟨⟨(a1, b1, c1, u_zg_4, u_z1_5, u_z2_6), rfl, (Option.some.inj hf), by rw [ht]; exact hP9, va_K.moved hW.alike hK9, hD9⟩, hS.F ht⟩) hS.2.2 dX0_compose_227
    · have hf := ok_f c_182 hf
      refine lv_lload hx hb dX0_compose_185 (lv_at hl 0 rfl) ?_
      refine lv_ldc2 (v := 2) hx hb hown (hts _ (List.mem_cons_of_mem _ kw_122)) dX0_compose_187 ?_
      refine lv_lload hx hb dX0_compose_190 (lv_at hl 1 rfl) ?_
      obtain ⟨xc192, hc192, hf⟩ := ok_b hf
      have hPc := hP.sub (ws' := []) [] rfl
      have hDc := hD.sub (ws' := []) [] (by decide) rfl
      have hKc := hK.sub (tys' := []) [] rfl
      have hFc := va_free (wc := []) hD hS hA [] rfl
      refine va_calll (va_runS (As := [.long v15_9]) (rest := [.long 2, .long v17_10]) ⟨hx, hb, hml, hown, hts⟩ (c_absJ l dC dI v15_9 H.size F xc192 hc192) (va_cwS 1 hts (gwS kw_119 kw_120 kw_4 kw_121) rfl rfl rfl (by decide +kernel) ⟨Nat.le_of_ble_eq_true rfl, Nat.le_of_ble_eq_true rfl⟩) ⟨fun a U g mk q => by obtain ⟨q0, q1, qP, qK, qD⟩ := q; exact ⟨q0, q1, qP, va_K.moved (u := U) (U := U.calling g mk a) (Vm.Alike.refl U.vm) qK, qD⟩, fun U hU hW => ⟨rfl, by rw [hU], by rw [hU]; exact hPc, va_K.moved hW.alike hKc, hDc.weaken (fun _ _ _ _ => trivial)⟩⟩ rfl rfl hl.1 rfl (lv_room (Nat.le_of_ble_eq_true rfl)) dX0_compose_192 ⟨Nat.zero_le _, Nat.zero_le _⟩) hS (fun q _ h => hFc q h) hFc (fun r_11 u t H1 locs ht hvm hw hB hz1 hk1 hS => ?_)
      obtain ⟨⟩ := u
      obtain ⟨hP1, hK1, hD1⟩ := hB
      rw [ht] at hP1
      subst hw
      obtain ⟨hP, hD⟩ := va_join (wr := [(ph, .inr (0, [.int dd, .int rt, .int cl, .int rf, .int pr, .ref pn, .int gk, .int go, .int gc, .ref pg, .ref ps, .ref po, .ref pc, .ref pe, .ref p1, .ref p2, .ref pz])), (pf, .inr (1, [.long a1, .long b1, .long c1])), (pg2, .inr (1, [.long a2, .long b2, .long c2])), (pz, .inr (2, [.long u_zg_4, .long u_z1_5, .long u_z2_6]))]) (w1 := []) hP hD [] [0, 1, 2, 3] rfl rfl (by decide) (by decide) hk1 hFc hP1 hD1
      generalize H1 = H at hP hS ⊢
      have hP : va_P (dC, dI) vwCl [(ph, .inr (0, [.int dd, .int rt, .int cl, .int rf, .int pr, .ref pn, .int gk, .int go, .int gc, .ref pg, .ref ps, .ref po, .ref pc, .ref pe, .ref p1, .ref p2, .ref pz])), (pf, .inr (1, [.long a1, .long b1, .long c1])), (pg2, .inr (1, [.long a2, .long b2, .long c2])), (pz, .inr (2, [.long u_zg_4, .long u_z1_5, .long u_z2_6]))] H := hP
      have hD : va_D A [(ph, .inr (0, [.int dd, .int rt, .int cl, .int rf, .int pr, .ref pn, .int gk, .int go, .int gc, .ref pg, .ref ps, .ref po, .ref pc, .ref pe, .ref p1, .ref p2, .ref pz])), (pf, .inr (1, [.long a1, .long b1, .long c1])), (pg2, .inr (1, [.long a2, .long b2, .long c2])), (pz, .inr (2, [.long u_zg_4, .long u_z1_5, .long u_z2_6]))] := hD
      refine lv_lmul hx hb dX0_compose_195 ?_
      obtain ⟨xc196, hc196, hf⟩ := ok_b hf
      have hPc := hP.sub (ws' := []) [] rfl
      have hDc := hD.sub (ws' := []) [] (by decide) rfl
      have hKc := hK.sub (tys' := []) [] rfl
      have hFc := va_free (wc := []) hD hS hA [] rfl
      refine va_calll (va_runS (As := [.long v17_10, .long (2 * r_11)]) (rest := []) ⟨hx, hb, hml, hown, hts⟩ (c_fmodJ l dC dI v17_10 (2 * r_11) H.size F xc196 hc196) (va_cwS 2 hts (gwS kw_123 kw_124 kw_4 kw_125) rfl rfl rfl (by decide +kernel) ⟨Nat.le_of_ble_eq_true rfl, Nat.le_of_ble_eq_true rfl⟩) ⟨fun a U g mk q => by obtain ⟨q0, q1, qP, qK, qD⟩ := q; exact ⟨q0, q1, qP, va_K.moved (u := U) (U := U.calling g mk a) (Vm.Alike.refl U.vm) qK, qD⟩, fun U hU hW => ⟨rfl, by rw [hU], by rw [hU]; exact hPc, va_K.moved hW.alike hKc, hDc.weaken (fun _ _ _ _ => trivial)⟩⟩ rfl rfl hl.1 rfl (lv_room (Nat.le_of_ble_eq_true rfl)) dX0_compose_196 ⟨Nat.zero_le _, Nat.zero_le _⟩) hS (fun q _ h => hFc q h) hFc (fun r_12 u t H1 locs ht hvm hw hB hz1 hk1 hS => ?_)
      obtain ⟨⟩ := u
      obtain ⟨hP1, hK1, hD1⟩ := hB
      rw [ht] at hP1
      subst hw
      obtain ⟨hP, hD⟩ := va_join (wr := [(ph, .inr (0, [.int dd, .int rt, .int cl, .int rf, .int pr, .ref pn, .int gk, .int go, .int gc, .ref pg, .ref ps, .ref po, .ref pc, .ref pe, .ref p1, .ref p2, .ref pz])), (pf, .inr (1, [.long a1, .long b1, .long c1])), (pg2, .inr (1, [.long a2, .long b2, .long c2])), (pz, .inr (2, [.long u_zg_4, .long u_z1_5, .long u_z2_6]))]) (w1 := []) hP hD [] [0, 1, 2, 3] rfl rfl (by decide) (by decide) hk1 hFc hP1 hD1
      generalize H1 = H at hP hS ⊢
      have hP : va_P (dC, dI) vwCl [(ph, .inr (0, [.int dd, .int rt, .int cl, .int rf, .int pr, .ref pn, .int gk, .int go, .int gc, .ref pg, .ref ps, .ref po, .ref pc, .ref pe, .ref p1, .ref p2, .ref pz])), (pf, .inr (1, [.long a1, .long b1, .long c1])), (pg2, .inr (1, [.long a2, .long b2, .long c2])), (pz, .inr (2, [.long u_zg_4, .long u_z1_5, .long u_z2_6]))] H := hP
      have hD : va_D A [(ph, .inr (0, [.int dd, .int rt, .int cl, .int rf, .int pr, .ref pn, .int gk, .int go, .int gc, .ref pg, .ref ps, .ref po, .ref pc, .ref pe, .ref p1, .ref p2, .ref pz])), (pf, .inr (1, [.long a1, .long b1, .long c1])), (pg2, .inr (1, [.long a2, .long b2, .long c2])), (pz, .inr (2, [.long u_zg_4, .long u_z1_5, .long u_z2_6]))] := hD
      refine lv_lstore (lv' := [(17, .long r_12), (15, .long v15_9), (13, .long u_z2_6), (11, .long v11_8), (9, .long v9_7), (7, .long u_zg_4), (5, .long u_z2_3), (3, .long u_z1_2), (0, .ref ph), (1, .ref pf), (2, .ref pg2)]) hx hb dX0_compose_199 hl (by decide) rfl (fun ls hl => ?_)
      refine lv_aload_n hx hb dX0_compose_201 rfl (lv_at hl 9 rfl) ?_
      refine lv_lload hx hb dX0_compose_202 (lv_at hl 1 rfl) ?_
      refine lv_lload hx hb dX0_compose_204 (lv_at hl 0 rfl) ?_
      refine lv_lload hx hb dX0_compose_206 (lv_at hl 0 rfl) ?_
      refine lv_lload hx hb dX0_compose_208 (lv_at hl 0 rfl) ?_
      refine lv_lmul hx hb dX0_compose_210 ?_
      refine lv_aload_n hx hb dX0_compose_211 rfl (lv_at hl 8 rfl) ?_
      refine va_get (D := (dC, dI)) (ci := 0) (v := .int dd) (C := "ClassGroup") (T := TX0) (N := 17) hx hb hts (fun w h => List.mem_cons_of_mem _ (iwX0 w h)) hown hK hP 0 rfl rfl 0 (by decide) (hts _ (List.mem_cons_of_mem _ kw_150)) (fun _ h9 => h9) rfl dX0_compose_212 ?_
      refine lv_i2l (v := (dd).toInt64) hx hb dX0_compose_215 rfl ?_
      refine lv_lsub hx hb dX0_compose_216 ?_
      refine lv_ldc2 (v := 4) hx hb hown (hts _ (List.mem_cons_of_mem _ kw_126)) dX0_compose_217 ?_
      refine lv_lload hx hb dX0_compose_220 (lv_at hl 1 rfl) ?_
      refine lv_lmul hx hb dX0_compose_222 ?_
      obtain ⟨g_223, hf⟩ := ok_g hf
      refine lv_ldiv hx hb dX0_compose_223 g_223 ?_
      obtain ⟨xc224, hc224, hf⟩ := ok_b hf
      have hPc := hP.sub (ws' := [(pf, .inr (1, [.long a1, .long b1, .long c1]))]) [1] rfl
      have hDc := hD.sub (ws' := [(pf, .inr (1, [.long a1, .long b1, .long c1]))]) [1] (by decide) rfl
      have hKc := hK.sub (tys' := []) [] rfl
      have hFc := va_free (wc := [(pf, .inr (1, [.long a1, .long b1, .long c1]))]) hD hS hA [1] rfl
      refine va_callv (va_runV (As := [.long v15_9, .long r_12, .long (((r_12 * r_12) - (dd).toInt64) / (4 * v15_9))]) (rest := []) ⟨hx, hb, hml, hown, hts⟩ (c_Form_set l dC dI pf a1 b1 c1 v15_9 r_12 (((r_12 * r_12) - (dd).toInt64) / (4 * v15_9)) H.size F xc224 hc224) (cwV 3 hts (gwV kw_104 kw_105 kw_106 kw_2 kw_107) rfl rfl rfl (by decide +kernel) ⟨Nat.le_of_ble_eq_true rfl, Nat.le_of_ble_eq_true rfl⟩) ⟨fun a U g mk q => by obtain ⟨q0, q1, qP, qK, qD⟩ := q; exact ⟨q0, q1, qP, va_K.moved (u := U) (U := U.calling g mk a) (Vm.Alike.refl U.vm) qK, qD⟩, va_recv hKc hPc (ci := 1) (q0 := 0) rfl rfl, fun U hU hW => ⟨rfl, by rw [hU], by rw [hU]; exact hPc, va_K.moved hW.alike hKc, hDc.weaken (fun _ _ _ _ => trivial)⟩⟩ rfl rfl hl.1 rfl (lv_room (Nat.le_of_ble_eq_true rfl)) dX0_compose_224 ⟨Nat.zero_le _, Nat.zero_le _⟩) hS (fun q _ h => hFc q h) hFc (fun u t H1 locs ht hvm hw hB hz1 hk1 hS => ?_)
      obtain ⟨u_a1_13, u_b1_14, u_c1_15⟩ := u
      obtain ⟨hP1, hK1, hD1⟩ := hB
      rw [ht] at hP1
      subst hw
      obtain ⟨hP, hD⟩ := va_join (wr := [(ph, .inr (0, [.int dd, .int rt, .int cl, .int rf, .int pr, .ref pn, .int gk, .int go, .int gc, .ref pg, .ref ps, .ref po, .ref pc, .ref pe, .ref p1, .ref p2, .ref pz])), (pg2, .inr (1, [.long a2, .long b2, .long c2])), (pz, .inr (2, [.long u_zg_4, .long u_z1_5, .long u_z2_6]))]) (w1 := [(pf, .inr (1, [.long u_a1_13, .long u_b1_14, .long u_c1_15]))]) hP hD [1] [0, 2, 3] rfl rfl (by decide) (by decide) hk1 hFc hP1 hD1
      generalize H1 = H at hP hS ⊢
      have hP : va_P (dC, dI) vwCl [(ph, .inr (0, [.int dd, .int rt, .int cl, .int rf, .int pr, .ref pn, .int gk, .int go, .int gc, .ref pg, .ref ps, .ref po, .ref pc, .ref pe, .ref p1, .ref p2, .ref pz])), (pg2, .inr (1, [.long a2, .long b2, .long c2])), (pz, .inr (2, [.long u_zg_4, .long u_z1_5, .long u_z2_6])), (pf, .inr (1, [.long u_a1_13, .long u_b1_14, .long u_c1_15]))] H := hP
      have hD : va_D A [(ph, .inr (0, [.int dd, .int rt, .int cl, .int rf, .int pr, .ref pn, .int gk, .int go, .int gc, .ref pg, .ref ps, .ref po, .ref pc, .ref pe, .ref p1, .ref p2, .ref pz])), (pg2, .inr (1, [.long a2, .long b2, .long c2])), (pz, .inr (2, [.long u_zg_4, .long u_z1_5, .long u_z2_6])), (pf, .inr (1, [.long u_a1_13, .long u_b1_14, .long u_c1_15]))] := hD
      have hP9 := hP.sub (ws' := [(ph, .inr (0, [.int dd, .int rt, .int cl, .int rf, .int pr, .ref pn, .int gk, .int go, .int gc, .ref pg, .ref ps, .ref po, .ref pc, .ref pe, .ref p1, .ref p2, .ref pz])), (pf, .inr (1, [.long u_a1_13, .long u_b1_14, .long u_c1_15])), (pg2, .inr (1, [.long a2, .long b2, .long c2])), (pz, .inr (2, [.long u_zg_4, .long u_z1_5, .long u_z2_6]))]) [0, 3, 1, 2] rfl
      have hD9 := hD.sub (ws' := [(ph, .inr (0, [.int dd, .int rt, .int cl, .int rf, .int pr, .ref pn, .int gk, .int go, .int gc, .ref pg, .ref ps, .ref po, .ref pc, .ref pe, .ref p1, .ref p2, .ref pz])), (pf, .inr (1, [.long u_a1_13, .long u_b1_14, .long u_c1_15])), (pg2, .inr (1, [.long a2, .long b2, .long c2])), (pz, .inr (2, [.long u_zg_4, .long u_z1_5, .long u_z2_6]))]) [0, 3, 1, 2] (by decide) rfl
      have hK9 := hK.sub (tys' := []) [] rfl
      exact W.vret hx hb hr (fun t ht hW => ⟨⟨(u_a1_13, u_b1_14, u_c1_15, u_zg_4, u_z1_5, u_z2_6), rfl, (Option.some.inj hf), by rw [ht]; exact hP9, va_K.moved hW.alike hK9, hD9⟩, hS.F ht⟩) hS.2.2 dX0_compose_227
  · have hf := ok_t c_72 hf
    have hP9 := hP.sub (ws' := [(ph, .inr (0, [.int dd, .int rt, .int cl, .int rf, .int pr, .ref pn, .int gk, .int go, .int gc, .ref pg, .ref ps, .ref po, .ref pc, .ref pe, .ref p1, .ref p2, .ref pz])), (pf, .inr (1, [.long a1, .long b1, .long c1])), (pg2, .inr (1, [.long a2, .long b2, .long c2])), (pz, .inr (2, [.long u_zg_4, .long u_z1_5, .long u_z2_6]))]) [0, 1, 2, 3] rfl
    have hD9 := hD.sub (ws' := [(ph, .inr (0, [.int dd, .int rt, .int cl, .int rf, .int pr, .ref pn, .int gk, .int go, .int gc, .ref pg, .ref ps, .ref po, .ref pc, .ref pe, .ref p1, .ref p2, .ref pz])), (pf, .inr (1, [.long a1, .long b1, .long c1])), (pg2, .inr (1, [.long a2, .long b2, .long c2])), (pz, .inr (2, [.long u_zg_4, .long u_z1_5, .long u_z2_6]))]) [0, 1, 2, 3] (by decide) rfl
    have hK9 := hK.sub (tys' := []) [] rfl
    exact W.vret hx hb hr (fun t ht hW => ⟨⟨(a1, b1, c1, u_zg_4, u_z1_5, u_z2_6), rfl, (Option.some.inj hf), by rw [ht]; exact hP9, va_K.moved hW.alike hK9, hD9⟩, hS.F ht⟩) hS.2.2 dX0_compose_75

def f_composeS (F : Nat) (dd : Int32) (a1 : Int64) (b1 : Int64) (c1 : Int64) (zg : Int64) (z1 : Int64) (z2 : Int64) : Option (Int64 × Int64 × Int64 × Int64 × Int64 × Int64) := Option.bind (f_Bz_solve F a1 a1) (fun (u_zg_1, u_z1_2, u_z2_3) => Option.bind (f_Bz_solve F u_zg_1 ((b1 + b1) / 2)) (fun (u_zg_4, u_z1_5, u_z2_6) => (if (lg_cmp u_zg_4 0) = 0 then some (a1, b1, c1, u_zg_4, u_z1_5, u_z2_6) else bnd (u_z1_5 * u_z1_2) (fun v9_7 => bnd (u_z1_5 * u_z2_3) (fun v11_8 => (if ¬ u_zg_4 = 0 then (if ¬ u_zg_4 = 0 then bnd ((a1 / u_zg_4) * (a1 / u_zg_4)) (fun v15_9 => (if ¬ u_zg_4 = 0 then bnd (((((v9_7 * a1) * b1) + ((v11_8 * a1) * b1)) + (u_z2_6 * (((b1 * b1) + (dd).toInt64) / 2))) / u_zg_4) (fun v17_10 => (if (lg_cmp v15_9 0) = 0 then some (a1, b1, c1, u_zg_4, u_z1_5, u_z2_6) else Option.bind (f_absJ F v15_9) (fun r_11 => Option.bind (f_fmodJ F v17_10 (2 * r_11)) (fun r_12 => (if ¬ (4 * v15_9) = 0 then Option.bind (f_Form_set F v15_9 r_12 (((r_12 * r_12) - (dd).toInt64) / (4 * v15_9))) (fun (u_a1_13, u_b1_14, u_c1_15) => some (u_a1_13, u_b1_14, u_c1_15, u_zg_4, u_z1_5, u_z2_6)) else none))))) else none)) else none) else none))))))
set_option maxHeartbeats 4000000 in
set_option maxRecDepth 100000 in
theorem c_composeS (l : Launch) (dC : Nat → ClassId) (dI : Nat → Nat → Nat) (ph : Nat) (dd : Int32) (rt : Int32) (cl : Int32) (rf : Int32) (pr : Int32) (pn : Nat) (gk : Int32) (go : Int32) (gc : Int32) (pg : Nat) (ps : Nat) (po : Nat) (pc : Nat) (pe : Nat) (p1 : Nat) (p2 : Nat) (pz : Nat) (pf : Nat) (a1 : Int64) (b1 : Int64) (c1 : Int64) (zg : Int64) (z1 : Int64) (z2 : Int64) (sz : Nat) (F : Nat) (out : Int64 × Int64 × Int64 × Int64 × Int64 × Int64) (hf : f_composeS F dd a1 b1 c1 zg z1 z2 = some out) : Met l yX0_compose wsX0_compose ({ frames := 1, cells := 0, slots := 0, locals := 39 }) (va_Pc [.ref ph, .ref pf, .ref pf] (fun U => U.heap.size = sz ∧ va_P (dC, dI) vwCl [(ph, .inr (0, [.int dd, .int rt, .int cl, .int rf, .int pr, .ref pn, .int gk, .int go, .int gc, .ref pg, .ref ps, .ref po, .ref pc, .ref pe, .ref p1, .ref p2, .ref pz])), (pf, .inr (1, [.long a1, .long b1, .long c1])), (pz, .inr (2, [.long zg, .long z1, .long z2]))] U.heap ∧ va_K (dC, dI) vwCl [] U ∧ va_D (fun _ => True) [(ph, .inr (0, [.int dd, .int rt, .int cl, .int rf, .int pr, .ref pn, .int gk, .int go, .int gc, .ref pg, .ref ps, .ref po, .ref pc, .ref pe, .ref p1, .ref p2, .ref pz])), (pf, .inr (1, [.long a1, .long b1, .long c1])), (pz, .inr (2, [.long zg, .long z1, .long z2]))])) (va_Qv (fun (u : Int64 × Int64 × Int64 × Int64 × Int64 × Int64) => u = out) (fun (u : Int64 × Int64 × Int64 × Int64 × Int64 × Int64) t => match u with | (u_a1, u_b1, u_c1, u_zg, u_z1, u_z2) => va_P (dC, dI) vwCl [(ph, .inr (0, [.int dd, .int rt, .int cl, .int rf, .int pr, .ref pn, .int gk, .int go, .int gc, .ref pg, .ref ps, .ref po, .ref pc, .ref pe, .ref p1, .ref p2, .ref pz])), (pf, .inr (1, [.long u_a1, .long u_b1, .long u_c1])), (pz, .inr (2, [.long u_zg, .long u_z1, .long u_z2]))] t.heap ∧ va_K (dC, dI) vwCl [] t ∧ va_D (va_A [(ph, .inr (0, [.int dd, .int rt, .int cl, .int rf, .int pr, .ref pn, .int gk, .int go, .int gc, .ref pg, .ref ps, .ref po, .ref pc, .ref pe, .ref p1, .ref p2, .ref pz])), (pf, .inr (1, [.long a1, .long b1, .long c1])), (pz, .inr (2, [.long zg, .long z1, .long z2]))] sz) [(ph, .inr (0, [.int dd, .int rt, .int cl, .int rf, .int pr, .ref pn, .int gk, .int go, .int gc, .ref pg, .ref ps, .ref po, .ref pc, .ref pe, .ref p1, .ref p2, .ref pz])), (pf, .inr (1, [.long u_a1, .long u_b1, .long u_c1])), (pz, .inr (2, [.long u_zg, .long u_z1, .long u_z2]))]) (va_A [(ph, .inr (0, [.int dd, .int rt, .int cl, .int rf, .int pr, .ref pn, .int gk, .int go, .int gc, .ref pg, .ref ps, .ref po, .ref pc, .ref pe, .ref p1, .ref p2, .ref pz])), (pf, .inr (1, [.long a1, .long b1, .long c1])), (pz, .inr (2, [.long zg, .long z1, .long z2]))] sz)) 0 0 (va_A [(ph, .inr (0, [.int dd, .int rt, .int cl, .int rf, .int pr, .ref pn, .int gk, .int go, .int gc, .ref pg, .ref ps, .ref po, .ref pc, .ref pe, .ref p1, .ref p2, .ref pz])), (pf, .inr (1, [.long a1, .long b1, .long c1])), (pz, .inr (2, [.long zg, .long z1, .long z2]))] sz) := by
  refine Met.ofW (cc := cX0_compose) (maxL := 19) (ret := none) (by decide +kernel) rfl ?_
  intro p e s m args below meth c s₁ B hml hv
  obtain ⟨rfl, hsz, hP, hK, hD0⟩ := hv
  have hx := B.exec
  have hb := B.bytes
  have hr := B.returns
  have hts := atoms_spec (ws := wsX0_compose) B.pre
  have hown : s.vm.findClass "ClassGroup" = some m.cls := findClass_of_methodNamed B.named
  have hlocks := B.notSynchronized
  subst hsz
  have hD := hD0.self (sz := s.heap.size)
  generalize hAe : va_A [(ph, .inr (0, [.int dd, .int rt, .int cl, .int rf, .int pr, .ref pn, .int gk, .int go, .int gc, .ref pg, .ref ps, .ref po, .ref pc, .ref pe, .ref p1, .ref p2, .ref pz])), (pf, .inr (1, [.long a1, .long b1, .long c1])), (pz, .inr (2, [.long zg, .long z1, .long z2]))] s.heap.size = A at hD ⊢
  have hA : ∀ q : Nat, s.heap.size ≤ q → A q := fun q h => by rw [← hAe]; exact Or.inr h
  have hS : va_S A s.heap s.heap [] := va_S.rf
  have hl := lv_entry ([.ref ph, .ref pf, .ref pf]) (n := 19) (Nat.le_of_ble_eq_true rfl)
  rw [lg_entry_eq]
  generalize (lg_sl ([.ref ph, .ref pf, .ref pf]) ++ List.replicate (19 - (lg_sl ([.ref ph, .ref pf, .ref pf])).length) Slot.unset).toArray = ls at hl ⊢
  have hl : lv_has ls 19 [(0, .ref ph), (1, .ref pf), (2, .ref pf)] := hl
  unfold f_composeS at hf
  refine lv_aload_n hx hb dX0_compose_0 rfl (lv_at hl 0 rfl) ?_
  refine va_get (D := (dC, dI)) (ci := 0) (v := .ref pz) (C := "ClassGroup") (T := TX0) (N := 17) hx hb hts (fun w h => List.mem_cons_of_mem _ (iwX0 w h)) hown hK hP 0 rfl rfl 16 (by decide) (hts _ (List.mem_cons_of_mem _ kw_166)) (fun _ h9 => h9) rfl dX0_compose_1 ?_
  refine lv_aload_n hx hb dX0_compose_4 rfl (lv_at hl 1 rfl) ?_
  refine va_get (D := (dC, dI)) (ci := 1) (v := .long a1) (C := "ClassGroup$Form") (T := TX1) (N := 3) hx hb hts (fun w h => List.mem_cons_of_mem _ (iwX1 w h)) hown hK hP 1 rfl rfl 0 (by decide) (hts _ (List.mem_cons_of_mem _ kw_27)) (fun _ h9 => h9) rfl dX0_compose_5 ?_
  refine lv_aload_n hx hb dX0_compose_8 rfl (lv_at hl 2 rfl) ?_
  refine va_get (D := (dC, dI)) (ci := 1) (v := .long a1) (C := "ClassGroup$Form") (T := TX1) (N := 3) hx hb hts (fun w h => List.mem_cons_of_mem _ (iwX1 w h)) hown hK hP 1 rfl rfl 0 (by decide) (hts _ (List.mem_cons_of_mem _ kw_27)) (fun _ h9 => h9) rfl dX0_compose_9 ?_
  obtain ⟨xc12, hc12, hf⟩ := ok_b hf
  have hPc := hP.sub (ws' := [(pz, .inr (2, [.long zg, .long z1, .long z2]))]) [2] rfl
  have hDc := hD.sub (ws' := [(pz, .inr (2, [.long zg, .long z1, .long z2]))]) [2] (by decide) rfl
  have hKc := hK.sub (tys' := []) [] rfl
  have hFc := va_free (wc := [(pz, .inr (2, [.long zg, .long z1, .long z2]))]) hD hS hA [2] rfl
  refine va_callv (va_runV (As := [.long a1, .long a1]) (rest := []) ⟨hx, hb, hml, hown, hts⟩ (c_Bz_solve l dC dI pz zg z1 z2 a1 a1 s.heap.size F xc12 hc12) (cwV 2 hts (gwV kw_236 kw_237 kw_238 kw_3 kw_239) rfl rfl rfl (by decide +kernel) ⟨Nat.le_of_ble_eq_true rfl, Nat.le_of_ble_eq_true rfl⟩) ⟨fun a U g mk q => by obtain ⟨q0, q1, qP, qK, qD⟩ := q; exact ⟨q0, q1, qP, va_K.moved (u := U) (U := U.calling g mk a) (Vm.Alike.refl U.vm) qK, qD⟩, va_recv hKc hPc (ci := 2) (q0 := 0) rfl rfl, fun U hU hW => ⟨rfl, by rw [hU], by rw [hU]; exact hPc, va_K.moved hW.alike hKc, hDc.weaken (fun _ _ _ _ => trivial)⟩⟩ rfl rfl hl.1 rfl (lv_room (Nat.le_of_ble_eq_true rfl)) dX0_compose_12 ⟨Nat.zero_le _, Nat.zero_le _⟩) hS (fun q _ h => hFc q h) hFc (fun u t H1 locs ht hvm hw hB hz1 hk1 hS => ?_)
  obtain ⟨u_zg_1, u_z1_2, u_z2_3⟩ := u
  obtain ⟨hP1, hK1, hD1⟩ := hB
  rw [ht] at hP1
  subst hw
  obtain ⟨hP, hD⟩ := va_join (wr := [(ph, .inr (0, [.int dd, .int rt, .int cl, .int rf, .int pr, .ref pn, .int gk, .int go, .int gc, .ref pg, .ref ps, .ref po, .ref pc, .ref pe, .ref p1, .ref p2, .ref pz])), (pf, .inr (1, [.long a1, .long b1, .long c1]))]) (w1 := [(pz, .inr (2, [.long u_zg_1, .long u_z1_2, .long u_z2_3]))]) hP hD [2] [0, 1] rfl rfl (by decide) (by decide) hk1 hFc hP1 hD1
  generalize H1 = H at hP hS ⊢
  have hP : va_P (dC, dI) vwCl [(ph, .inr (0, [.int dd, .int rt, .int cl, .int rf, .int pr, .ref pn, .int gk, .int go, .int gc, .ref pg, .ref ps, .ref po, .ref pc, .ref pe, .ref p1, .ref p2, .ref pz])), (pf, .inr (1, [.long a1, .long b1, .long c1])), (pz, .inr (2, [.long u_zg_1, .long u_z1_2, .long u_z2_3]))] H := hP
  have hD : va_D A [(ph, .inr (0, [.int dd, .int rt, .int cl, .int rf, .int pr, .ref pn, .int gk, .int go, .int gc, .ref pg, .ref ps, .ref po, .ref pc, .ref pe, .ref p1, .ref p2, .ref pz])), (pf, .inr (1, [.long a1, .long b1, .long c1])), (pz, .inr (2, [.long u_zg_1, .long u_z1_2, .long u_z2_3]))] := hD
  refine lv_aload_n hx hb dX0_compose_15 rfl (lv_at hl 0 rfl) ?_
  refine va_get (D := (dC, dI)) (ci := 0) (v := .ref pz) (C := "ClassGroup") (T := TX0) (N := 17) hx hb hts (fun w h => List.mem_cons_of_mem _ (iwX0 w h)) hown hK hP 0 rfl rfl 16 (by decide) (hts _ (List.mem_cons_of_mem _ kw_166)) (fun _ h9 => h9) rfl dX0_compose_16 ?_
  refine va_get (D := (dC, dI)) (ci := 2) (v := .long u_z1_2) (C := "ClassGroup$Bezout") (T := TX2) (N := 3) hx hb hts (fun w h => List.mem_cons_of_mem _ (iwX2 w h)) hown hK hP 2 rfl rfl 1 (by decide) (hts _ (List.mem_cons_of_mem _ kw_49)) (fun _ h9 => h9) rfl dX0_compose_19 ?_
  refine lv_lstore_n (lv' := [(3, .long u_z1_2), (0, .ref ph), (1, .ref pf), (2, .ref pf)]) hx hb dX0_compose_22 rfl hl (by decide) rfl (fun ls hl => ?_)
  refine lv_aload_n hx hb dX0_compose_23 rfl (lv_at hl 1 rfl) ?_
  refine va_get (D := (dC, dI)) (ci := 0) (v := .ref pz) (C := "ClassGroup") (T := TX0) (N := 17) hx hb hts (fun w h => List.mem_cons_of_mem _ (iwX0 w h)) hown hK hP 0 rfl rfl 16 (by decide) (hts _ (List.mem_cons_of_mem _ kw_166)) (fun _ h9 => h9) rfl dX0_compose_24 ?_
  refine va_get (D := (dC, dI)) (ci := 2) (v := .long u_z2_3) (C := "ClassGroup$Bezout") (T := TX2) (N := 3) hx hb hts (fun w h => List.mem_cons_of_mem _ (iwX2 w h)) hown hK hP 2 rfl rfl 2 (by decide) (hts _ (List.mem_cons_of_mem _ kw_51)) (fun _ h9 => h9) rfl dX0_compose_27 ?_
  refine lv_lstore (lv' := [(5, .long u_z2_3), (3, .long u_z1_2), (0, .ref ph), (1, .ref pf), (2, .ref pf)]) hx hb dX0_compose_30 hl (by decide) rfl (fun ls hl => ?_)
  refine lv_aload_n hx hb dX0_compose_32 rfl (lv_at hl 2 rfl) ?_
  refine va_get (D := (dC, dI)) (ci := 0) (v := .ref pz) (C := "ClassGroup") (T := TX0) (N := 17) hx hb hts (fun w h => List.mem_cons_of_mem _ (iwX0 w h)) hown hK hP 0 rfl rfl 16 (by decide) (hts _ (List.mem_cons_of_mem _ kw_166)) (fun _ h9 => h9) rfl dX0_compose_33 ?_
  refine lv_aload_n hx hb dX0_compose_36 rfl (lv_at hl 2 rfl) ?_
  refine va_get (D := (dC, dI)) (ci := 0) (v := .ref pz) (C := "ClassGroup") (T := TX0) (N := 17) hx hb hts (fun w h => List.mem_cons_of_mem _ (iwX0 w h)) hown hK hP 0 rfl rfl 16 (by decide) (hts _ (List.mem_cons_of_mem _ kw_166)) (fun _ h9 => h9) rfl dX0_compose_37 ?_
  refine va_get (D := (dC, dI)) (ci := 2) (v := .long u_zg_1) (C := "ClassGroup$Bezout") (T := TX2) (N := 3) hx hb hts (fun w h => List.mem_cons_of_mem _ (iwX2 w h)) hown hK hP 2 rfl rfl 0 (by decide) (hts _ (List.mem_cons_of_mem _ kw_47)) (fun _ h9 => h9) rfl dX0_compose_40 ?_
  refine lv_aload_n hx hb dX0_compose_43 rfl (lv_at hl 3 rfl) ?_
  refine va_get (D := (dC, dI)) (ci := 1) (v := .long b1) (C := "ClassGroup$Form") (T := TX1) (N := 3) hx hb hts (fun w h => List.mem_cons_of_mem _ (iwX1 w h)) hown hK hP 1 rfl rfl 1 (by decide) (hts _ (List.mem_cons_of_mem _ kw_29)) (fun _ h9 => h9) rfl dX0_compose_44 ?_
  refine lv_aload_n hx hb dX0_compose_47 rfl (lv_at hl 4 rfl) ?_
  refine va_get (D := (dC, dI)) (ci := 1) (v := .long b1) (C := "ClassGroup$Form") (T := TX1) (N := 3) hx hb hts (fun w h => List.mem_cons_of_mem _ (iwX1 w h)) hown hK hP 1 rfl rfl 1 (by decide) (hts _ (List.mem_cons_of_mem _ kw_29)) (fun _ h9 => h9) rfl dX0_compose_48 ?_
  refine lv_ladd hx hb dX0_compose_51 ?_
  refine lv_ldc2 (v := 2) hx hb hown (hts _ (List.mem_cons_of_mem _ kw_122)) dX0_compose_52 ?_
  refine lv_ldiv hx hb dX0_compose_55 (by decide) ?_
  obtain ⟨xc56, hc56, hf⟩ := ok_b hf
  have hPc := hP.sub (ws' := [(pz, .inr (2, [.long u_zg_1, .long u_z1_2, .long u_z2_3]))]) [2] rfl
  have hDc := hD.sub (ws' := [(pz, .inr (2, [.long u_zg_1, .long u_z1_2, .long u_z2_3]))]) [2] (by decide) rfl
  have hKc := hK.sub (tys' := []) [] rfl
  have hFc := va_free (wc := [(pz, .inr (2, [.long u_zg_1, .long u_z1_2, .long u_z2_3]))]) hD hS hA [2] rfl
  refine va_callv (va_runV (As := [.long u_zg_1, .long ((b1 + b1) / 2)]) (rest := []) ⟨hx, hb, hml, hown, hts⟩ (c_Bz_solve l dC dI pz u_zg_1 u_z1_2 u_z2_3 u_zg_1 ((b1 + b1) / 2) H.size F xc56 hc56) (cwV 2 hts (gwV kw_236 kw_237 kw_238 kw_3 kw_239) rfl rfl rfl (by decide +kernel) ⟨Nat.le_of_ble_eq_true rfl, Nat.le_of_ble_eq_true rfl⟩) ⟨fun a U g mk q => by obtain ⟨q0, q1, qP, qK, qD⟩ := q; exact ⟨q0, q1, qP, va_K.moved (u := U) (U := U.calling g mk a) (Vm.Alike.refl U.vm) qK, qD⟩, va_recv hKc hPc (ci := 2) (q0 := 0) rfl rfl, fun U hU hW => ⟨rfl, by rw [hU], by rw [hU]; exact hPc, va_K.moved hW.alike hKc, hDc.weaken (fun _ _ _ _ => trivial)⟩⟩ rfl rfl hl.1 rfl (lv_room (Nat.le_of_ble_eq_true rfl)) dX0_compose_56 ⟨Nat.zero_le _, Nat.zero_le _⟩) hS (fun q _ h => hFc q h) hFc (fun u t H1 locs ht hvm hw hB hz1 hk1 hS => ?_)
  obtain ⟨u_zg_4, u_z1_5, u_z2_6⟩ := u
  obtain ⟨hP1, hK1, hD1⟩ := hB
  rw [ht] at hP1
  subst hw
  obtain ⟨hP, hD⟩ := va_join (wr := [(ph, .inr (0, [.int dd, .int rt, .int cl, .int rf, .int pr, .ref pn, .int gk, .int go, .int gc, .ref pg, .ref ps, .ref po, .ref pc, .ref pe, .ref p1, .ref p2, .ref pz])), (pf, .inr (1, [.long a1, .long b1, .long c1]))]) (w1 := [(pz, .inr (2, [.long u_zg_4, .long u_z1_5, .long u_z2_6]))]) hP hD [2] [0, 1] rfl rfl (by decide) (by decide) hk1 hFc hP1 hD1
  generalize H1 = H at hP hS ⊢
  have hP : va_P (dC, dI) vwCl [(ph, .inr (0, [.int dd, .int rt, .int cl, .int rf, .int pr, .ref pn, .int gk, .int go, .int gc, .ref pg, .ref ps, .ref po, .ref pc, .ref pe, .ref p1, .ref p2, .ref pz])), (pf, .inr (1, [.long a1, .long b1, .long c1])), (pz, .inr (2, [.long u_zg_4, .long u_z1_5, .long u_z2_6]))] H := hP
  have hD : va_D A [(ph, .inr (0, [.int dd, .int rt, .int cl, .int rf, .int pr, .ref pn, .int gk, .int go, .int gc, .ref pg, .ref ps, .ref po, .ref pc, .ref pe, .ref p1, .ref p2, .ref pz])), (pf, .inr (1, [.long a1, .long b1, .long c1])), (pz, .inr (2, [.long u_zg_4, .long u_z1_5, .long u_z2_6]))] := hD
  refine lv_aload_n hx hb dX0_compose_59 rfl (lv_at hl 2 rfl) ?_
  refine va_get (D := (dC, dI)) (ci := 0) (v := .ref pz) (C := "ClassGroup") (T := TX0) (N := 17) hx hb hts (fun w h => List.mem_cons_of_mem _ (iwX0 w h)) hown hK hP 0 rfl rfl 16 (by decide) (hts _ (List.mem_cons_of_mem _ kw_166)) (fun _ h9 => h9) rfl dX0_compose_60 ?_
  refine va_get (D := (dC, dI)) (ci := 2) (v := .long u_zg_4) (C := "ClassGroup$Bezout") (T := TX2) (N := 3) hx hb hts (fun w h => List.mem_cons_of_mem _ (iwX2 w h)) hown hK hP 2 rfl rfl 0 (by decide) (hts _ (List.mem_cons_of_mem _ kw_47)) (fun _ h9 => h9) rfl dX0_compose_63 ?_
  refine lv_lstore (lv' := [(7, .long u_zg_4), (5, .long u_z2_3), (3, .long u_z1_2), (0, .ref ph), (1, .ref pf), (2, .ref pf)]) hx hb dX0_compose_66 hl (by decide) rfl (fun ls hl => ?_)
  refine lv_lload hx hb dX0_compose_68 (lv_at hl 0 rfl) ?_
  refine lv_lconst (v := 0) hx hb dX0_compose_70 (by decide) ?_
  refine W.lcmp hx hb dX0_compose_71 ?_
  refine lv_if_ne (tgt := 76) hx hb dX0_compose_72 (by decide) (fun c_72 => ?_) (fun c_72 => ?_)
  · have hf := ok_f c_72 hf
    refine lv_aload_n hx hb dX0_compose_76 rfl (lv_at hl 3 rfl) ?_
    refine va_get (D := (dC, dI)) (ci := 0) (v := .ref pz) (C := "ClassGroup") (T := TX0) (N := 17) hx hb hts (fun w h => List.mem_cons_of_mem _ (iwX0 w h)) hown hK hP 0 rfl rfl 16 (by decide) (hts _ (List.mem_cons_of_mem _ kw_166)) (fun _ h9 => h9) rfl dX0_compose_77 ?_
    refine va_get (D := (dC, dI)) (ci := 2) (v := .long u_z1_5) (C := "ClassGroup$Bezout") (T := TX2) (N := 3) hx hb hts (fun w h => List.mem_cons_of_mem _ (iwX2 w h)) hown hK hP 2 rfl rfl 1 (by decide) (hts _ (List.mem_cons_of_mem _ kw_49)) (fun _ h9 => h9) rfl dX0_compose_80 ?_
    refine lv_lload_n hx hb dX0_compose_83 rfl (lv_at hl 2 rfl) ?_
    refine lv_lmul hx hb dX0_compose_84 ?_
    refine lv_topl (fun v9_7 ev9_7 => ?_)
    replace hf := bnd_ok ev9_7 hf
    refine lv_lstore (lv' := [(9, .long v9_7), (7, .long u_zg_4), (5, .long u_z2_3), (3, .long u_z1_2), (0, .ref ph), (1, .ref pf), (2, .ref pf)]) hx hb dX0_compose_85 hl (by decide) rfl (fun ls hl => ?_)
    refine lv_aload_n hx hb dX0_compose_87 rfl (lv_at hl 4 rfl) ?_
    refine va_get (D := (dC, dI)) (ci := 0) (v := .ref pz) (C := "ClassGroup") (T := TX0) (N := 17) hx hb hts (fun w h => List.mem_cons_of_mem _ (iwX0 w h)) hown hK hP 0 rfl rfl 16 (by decide) (hts _ (List.mem_cons_of_mem _ kw_166)) (fun _ h9 => h9) rfl dX0_compose_88 ?_
    refine va_get (D := (dC, dI)) (ci := 2) (v := .long u_z1_5) (C := "ClassGroup$Bezout") (T := TX2) (N := 3) hx hb hts (fun w h => List.mem_cons_of_mem _ (iwX2 w h)) hown hK hP 2 rfl rfl 1 (by decide) (hts _ (List.mem_cons_of_mem _ kw_49)) (fun _ h9 => h9) rfl dX0_compose_91 ?_
    refine lv_lload hx hb dX0_compose_94 (lv_at hl 2 rfl) ?_
    refine lv_lmul hx hb dX0_compose_96 ?_
    refine lv_topl (fun v11_8 ev11_8 => ?_)
    replace hf := bnd_ok ev11_8 hf
    refine lv_lstore (lv' := [(11, .long v11_8), (9, .long v9_7), (7, .long u_zg_4), (5, .long u_z2_3), (3, .long u_z1_2), (0, .ref ph), (1, .ref pf), (2, .ref pf)]) hx hb dX0_compose_97 hl (by decide) rfl (fun ls hl => ?_)
    refine lv_aload_n hx hb dX0_compose_99 rfl (lv_at hl 5 rfl) ?_
    refine va_get (D := (dC, dI)) (ci := 0) (v := .ref pz) (C := "ClassGroup") (T := TX0) (N := 17) hx hb hts (fun w h => List.mem_cons_of_mem _ (iwX0 w h)) hown hK hP 0 rfl rfl 16 (by decide) (hts _ (List.mem_cons_of_mem _ kw_166)) (fun _ h9 => h9) rfl dX0_compose_100 ?_
    refine va_get (D := (dC, dI)) (ci := 2) (v := .long u_z2_6) (C := "ClassGroup$Bezout") (T := TX2) (N := 3) hx hb hts (fun w h => List.mem_cons_of_mem _ (iwX2 w h)) hown hK hP 2 rfl rfl 2 (by decide) (hts _ (List.mem_cons_of_mem _ kw_51)) (fun _ h9 => h9) rfl dX0_compose_103 ?_
    refine lv_lstore (lv' := [(13, .long u_z2_6), (11, .long v11_8), (9, .long v9_7), (7, .long u_zg_4), (5, .long u_z2_3), (3, .long u_z1_2), (0, .ref ph), (1, .ref pf), (2, .ref pf)]) hx hb dX0_compose_106 hl (by decide) rfl (fun ls hl => ?_)
    refine lv_aload_n hx hb dX0_compose_108 rfl (lv_at hl 7 rfl) ?_
    refine va_get (D := (dC, dI)) (ci := 1) (v := .long a1) (C := "ClassGroup$Form") (T := TX1) (N := 3) hx hb hts (fun w h => List.mem_cons_of_mem _ (iwX1 w h)) hown hK hP 1 rfl rfl 0 (by decide) (hts _ (List.mem_cons_of_mem _ kw_27)) (fun _ h9 => h9) rfl dX0_compose_109 ?_
    refine lv_lload hx hb dX0_compose_112 (lv_at hl 3 rfl) ?_
    obtain ⟨g_114, hf⟩ := ok_g hf
    refine lv_ldiv hx hb dX0_compose_114 g_114 ?_
    refine lv_aload_n hx hb dX0_compose_115 rfl (lv_at hl 8 rfl) ?_
    refine va_get (D := (dC, dI)) (ci := 1) (v := .long a1) (C := "ClassGroup$Form") (T := TX1) (N := 3) hx hb hts (fun w h => List.mem_cons_of_mem _ (iwX1 w h)) hown hK hP 1 rfl rfl 0 (by decide) (hts _ (List.mem_cons_of_mem _ kw_27)) (fun _ h9 => h9) rfl dX0_compose_116 ?_
    refine lv_lload hx hb dX0_compose_119 (lv_at hl 3 rfl) ?_
    obtain ⟨g_121, hf⟩ := ok_g hf
    refine lv_ldiv hx hb dX0_compose_121 g_121 ?_
    refine lv_lmul hx hb dX0_compose_122 ?_
    refine lv_topl (fun v15_9 ev15_9 => ?_)
    replace hf := bnd_ok ev15_9 hf
    refine lv_lstore (lv' := [(15, .long v15_9), (13, .long u_z2_6), (11, .long v11_8), (9, .long v9_7), (7, .long u_zg_4), (5, .long u_z2_3), (3, .long u_z1_2), (0, .ref ph), (1, .ref pf), (2, .ref pf)]) hx hb dX0_compose_123 hl (by decide) rfl (fun ls hl => ?_)
    refine lv_lload hx hb dX0_compose_125 (lv_at hl 3 rfl) ?_
    refine lv_aload_n hx hb dX0_compose_127 rfl (lv_at hl 8 rfl) ?_
    refine va_get (D := (dC, dI)) (ci := 1) (v := .long a1) (C := "ClassGroup$Form") (T := TX1) (N := 3) hx hb hts (fun w h => List.mem_cons_of_mem _ (iwX1 w h)) hown hK hP 1 rfl rfl 0 (by decide) (hts _ (List.mem_cons_of_mem _ kw_27)) (fun _ h9 => h9) rfl dX0_compose_128 ?_
    refine lv_lmul hx hb dX0_compose_131 ?_
    refine lv_aload_n hx hb dX0_compose_132 rfl (lv_at hl 9 rfl) ?_
    refine va_get (D := (dC, dI)) (ci := 1) (v := .long b1) (C := "ClassGroup$Form") (T := TX1) (N := 3) hx hb hts (fun w h => List.mem_cons_of_mem _ (iwX1 w h)) hown hK hP 1 rfl rfl 1 (by decide) (hts _ (List.mem_cons_of_mem _ kw_29)) (fun _ h9 => h9) rfl dX0_compose_133 ?_
    refine lv_lmul hx hb dX0_compose_136 ?_
    refine lv_lload hx hb dX0_compose_137 (lv_at hl 2 rfl) ?_
    refine lv_aload_n hx hb dX0_compose_139 rfl (lv_at hl 9 rfl) ?_
    refine va_get (D := (dC, dI)) (ci := 1) (v := .long a1) (C := "ClassGroup$Form") (T := TX1) (N := 3) hx hb hts (fun w h => List.mem_cons_of_mem _ (iwX1 w h)) hown hK hP 1 rfl rfl 0 (by decide) (hts _ (List.mem_cons_of_mem _ kw_27)) (fun _ h9 => h9) rfl dX0_compose_140 ?_
    refine lv_lmul hx hb dX0_compose_143 ?_
    refine lv_aload_n hx hb dX0_compose_144 rfl (lv_at hl 8 rfl) ?_
    refine va_get (D := (dC, dI)) (ci := 1) (v := .long b1) (C := "ClassGroup$Form") (T := TX1) (N := 3) hx hb hts (fun w h => List.mem_cons_of_mem _ (iwX1 w h)) hown hK hP 1 rfl rfl 1 (by decide) (hts _ (List.mem_cons_of_mem _ kw_29)) (fun _ h9 => h9) rfl dX0_compose_145 ?_
    refine lv_lmul hx hb dX0_compose_148 ?_
    refine lv_ladd hx hb dX0_compose_149 ?_
    refine lv_lload hx hb dX0_compose_150 (lv_at hl 1 rfl) ?_
    refine lv_aload_n hx hb dX0_compose_152 rfl (lv_at hl 8 rfl) ?_
    refine va_get (D := (dC, dI)) (ci := 1) (v := .long b1) (C := "ClassGroup$Form") (T := TX1) (N := 3) hx hb hts (fun w h => List.mem_cons_of_mem _ (iwX1 w h)) hown hK hP 1 rfl rfl 1 (by decide) (hts _ (List.mem_cons_of_mem _ kw_29)) (fun _ h9 => h9) rfl dX0_compose_153 ?_
    refine lv_aload_n hx hb dX0_compose_156 rfl (lv_at hl 9 rfl) ?_
    refine va_get (D := (dC, dI)) (ci := 1) (v := .long b1) (C := "ClassGroup$Form") (T := TX1) (N := 3) hx hb hts (fun w h => List.mem_cons_of_mem _ (iwX1 w h)) hown hK hP 1 rfl rfl 1 (by decide) (hts _ (List.mem_cons_of_mem _ kw_29)) (fun _ h9 => h9) rfl dX0_compose_157 ?_
    refine lv_lmul hx hb dX0_compose_160 ?_
    refine lv_aload_n hx hb dX0_compose_161 rfl (lv_at hl 7 rfl) ?_
    refine va_get (D := (dC, dI)) (ci := 0) (v := .int dd) (C := "ClassGroup") (T := TX0) (N := 17) hx hb hts (fun w h => List.mem_cons_of_mem _ (iwX0 w h)) hown hK hP 0 rfl rfl 0 (by decide) (hts _ (List.mem_cons_of_mem _ kw_150)) (fun _ h9 => h9) rfl dX0_compose_162 ?_
    refine lv_i2l (v := (dd).toInt64) hx hb dX0_compose_165 rfl ?_
    refine lv_ladd hx hb dX0_compose_166 ?_
    refine lv_ldc2 (v := 2) hx hb hown (hts _ (List.mem_cons_of_mem _ kw_122)) dX0_compose_167 ?_
    refine lv_ldiv hx hb dX0_compose_170 (by decide) ?_
    refine lv_lmul hx hb dX0_compose_171 ?_
    refine lv_ladd hx hb dX0_compose_172 ?_
    refine lv_lload hx hb dX0_compose_173 (lv_at hl 4 rfl) ?_
    obtain ⟨g_175, hf⟩ := ok_g hf
    refine lv_ldiv hx hb dX0_compose_175 g_175 ?_
    refine lv_topl (fun v17_10 ev17_10 => ?_)
    replace hf := bnd_ok ev17_10 hf
    refine lv_lstore (lv' := [(17, .long v17_10), (15, .long v15_9), (13, .long u_z2_6), (11, .long v11_8), (9, .long v9_7), (7, .long u_zg_4), (5, .long u_z2_3), (3, .long u_z1_2), (0, .ref ph), (1, .ref pf), (2, .ref pf)]) hx hb dX0_compose_176 hl (by decide) rfl (fun ls hl => ?_)
    refine lv_lload hx hb dX0_compose_178 (lv_at hl 1 rfl) ?_
    refine lv_lconst (v := 0) hx hb dX0_compose_180 (by decide) ?_
    refine W.lcmp hx hb dX0_compose_181 ?_
    refine lv_if_eq (tgt := 227) hx hb dX0_compose_182 (by decide) (fun c_182 => ?_) (fun c_182 => ?_)
    · have hf := ok_t c_182 hf
      have hP9 := hP.sub (ws' := [(ph, .inr (0, [.int dd, .int rt, .int cl, .int rf, .int pr, .ref pn, .int gk, .int go, .int gc, .ref pg, .ref ps, .ref po, .ref pc, .ref pe, .ref p1, .ref p2, .ref pz])), (pf, .inr (1, [.long a1, .long b1, .long c1])), (pz, .inr (2, [.long u_zg_4, .long u_z1_5, .long u_z2_6]))]) [0, 1, 2] rfl
      have hD9 := hD.sub (ws' := [(ph, .inr (0, [.int dd, .int rt, .int cl, .int rf, .int pr, .ref pn, .int gk, .int go, .int gc, .ref pg, .ref ps, .ref po, .ref pc, .ref pe, .ref p1, .ref p2, .ref pz])), (pf, .inr (1, [.long a1, .long b1, .long c1])), (pz, .inr (2, [.long u_zg_4, .long u_z1_5, .long u_z2_6]))]) [0, 1, 2] (by decide) rfl
      have hK9 := hK.sub (tys' := []) [] rfl
      exact W.vret hx hb hr (fun t ht hW => ⟨⟨(a1, b1, c1, u_zg_4, u_z1_5, u_z2_6), rfl, (Option.some.inj hf), by rw [ht]; exact hP9, va_K.moved hW.alike hK9, hD9⟩, hS.F ht⟩) hS.2.2 dX0_compose_227
    · have hf := ok_f c_182 hf
      refine lv_lload hx hb dX0_compose_185 (lv_at hl 0 rfl) ?_
      refine lv_ldc2 (v := 2) hx hb hown (hts _ (List.mem_cons_of_mem _ kw_122)) dX0_compose_187 ?_
      refine lv_lload hx hb dX0_compose_190 (lv_at hl 1 rfl) ?_
      obtain ⟨xc192, hc192, hf⟩ := ok_b hf
      have hPc := hP.sub (ws' := []) [] rfl
      have hDc := hD.sub (ws' := []) [] (by decide) rfl
      have hKc := hK.sub (tys' := []) [] rfl
      have hFc := va_free (wc := []) hD hS hA [] rfl
      refine va_calll (va_runS (As := [.long v15_9]) (rest := [.long 2, .long v17_10]) ⟨hx, hb, hml, hown, hts⟩ (c_absJ l dC dI v15_9 H.size F xc192 hc192) (va_cwS 1 hts (gwS kw_119 kw_120 kw_4 kw_121) rfl rfl rfl (by decide +kernel) ⟨Nat.le_of_ble_eq_true rfl, Nat.le_of_ble_eq_true rfl⟩) ⟨fun a U g mk q => by obtain ⟨q0, q1, qP, qK, qD⟩ := q; exact ⟨q0, q1, qP, va_K.moved (u := U) (U := U.calling g mk a) (Vm.Alike.refl U.vm) qK, qD⟩, fun U hU hW => ⟨rfl, by rw [hU], by rw [hU]; exact hPc, va_K.moved hW.alike hKc, hDc.weaken (fun _ _ _ _ => trivial)⟩⟩ rfl rfl hl.1 rfl (lv_room (Nat.le_of_ble_eq_true rfl)) dX0_compose_192 ⟨Nat.zero_le _, Nat.zero_le _⟩) hS (fun q _ h => hFc q h) hFc (fun r_11 u t H1 locs ht hvm hw hB hz1 hk1 hS => ?_)
      obtain ⟨⟩ := u
      obtain ⟨hP1, hK1, hD1⟩ := hB
      rw [ht] at hP1
      subst hw
      obtain ⟨hP, hD⟩ := va_join (wr := [(ph, .inr (0, [.int dd, .int rt, .int cl, .int rf, .int pr, .ref pn, .int gk, .int go, .int gc, .ref pg, .ref ps, .ref po, .ref pc, .ref pe, .ref p1, .ref p2, .ref pz])), (pf, .inr (1, [.long a1, .long b1, .long c1])), (pz, .inr (2, [.long u_zg_4, .long u_z1_5, .long u_z2_6]))]) (w1 := []) hP hD [] [0, 1, 2] rfl rfl (by decide) (by decide) hk1 hFc hP1 hD1
      generalize H1 = H at hP hS ⊢
      have hP : va_P (dC, dI) vwCl [(ph, .inr (0, [.int dd, .int rt, .int cl, .int rf, .int pr, .ref pn, .int gk, .int go, .int gc, .ref pg, .ref ps, .ref po, .ref pc, .ref pe, .ref p1, .ref p2, .ref pz])), (pf, .inr (1, [.long a1, .long b1, .long c1])), (pz, .inr (2, [.long u_zg_4, .long u_z1_5, .long u_z2_6]))] H := hP
      have hD : va_D A [(ph, .inr (0, [.int dd, .int rt, .int cl, .int rf, .int pr, .ref pn, .int gk, .int go, .int gc, .ref pg, .ref ps, .ref po, .ref pc, .ref pe, .ref p1, .ref p2, .ref pz])), (pf, .inr (1, [.long a1, .long b1, .long c1])), (pz, .inr (2, [.long u_zg_4, .long u_z1_5, .long u_z2_6]))] := hD
      refine lv_lmul hx hb dX0_compose_195 ?_
      obtain ⟨xc196, hc196, hf⟩ := ok_b hf
      have hPc := hP.sub (ws' := []) [] rfl
      have hDc := hD.sub (ws' := []) [] (by decide) rfl
      have hKc := hK.sub (tys' := []) [] rfl
      have hFc := va_free (wc := []) hD hS hA [] rfl
      refine va_calll (va_runS (As := [.long v17_10, .long (2 * r_11)]) (rest := []) ⟨hx, hb, hml, hown, hts⟩ (c_fmodJ l dC dI v17_10 (2 * r_11) H.size F xc196 hc196) (va_cwS 2 hts (gwS kw_123 kw_124 kw_4 kw_125) rfl rfl rfl (by decide +kernel) ⟨Nat.le_of_ble_eq_true rfl, Nat.le_of_ble_eq_true rfl⟩) ⟨fun a U g mk q => by obtain ⟨q0, q1, qP, qK, qD⟩ := q; exact ⟨q0, q1, qP, va_K.moved (u := U) (U := U.calling g mk a) (Vm.Alike.refl U.vm) qK, qD⟩, fun U hU hW => ⟨rfl, by rw [hU], by rw [hU]; exact hPc, va_K.moved hW.alike hKc, hDc.weaken (fun _ _ _ _ => trivial)⟩⟩ rfl rfl hl.1 rfl (lv_room (Nat.le_of_ble_eq_true rfl)) dX0_compose_196 ⟨Nat.zero_le _, Nat.zero_le _⟩) hS (fun q _ h => hFc q h) hFc (fun r_12 u t H1 locs ht hvm hw hB hz1 hk1 hS => ?_)
      obtain ⟨⟩ := u
      obtain ⟨hP1, hK1, hD1⟩ := hB
      rw [ht] at hP1
      subst hw
      obtain ⟨hP, hD⟩ := va_join (wr := [(ph, .inr (0, [.int dd, .int rt, .int cl, .int rf, .int pr, .ref pn, .int gk, .int go, .int gc, .ref pg, .ref ps, .ref po, .ref pc, .ref pe, .ref p1, .ref p2, .ref pz])), (pf, .inr (1, [.long a1, .long b1, .long c1])), (pz, .inr (2, [.long u_zg_4, .long u_z1_5, .long u_z2_6]))]) (w1 := []) hP hD [] [0, 1, 2] rfl rfl (by decide) (by decide) hk1 hFc hP1 hD1
      generalize H1 = H at hP hS ⊢
      have hP : va_P (dC, dI) vwCl [(ph, .inr (0, [.int dd, .int rt, .int cl, .int rf, .int pr, .ref pn, .int gk, .int go, .int gc, .ref pg, .ref ps, .ref po, .ref pc, .ref pe, .ref p1, .ref p2, .ref pz])), (pf, .inr (1, [.long a1, .long b1, .long c1])), (pz, .inr (2, [.long u_zg_4, .long u_z1_5, .long u_z2_6]))] H := hP
      have hD : va_D A [(ph, .inr (0, [.int dd, .int rt, .int cl, .int rf, .int pr, .ref pn, .int gk, .int go, .int gc, .ref pg, .ref ps, .ref po, .ref pc, .ref pe, .ref p1, .ref p2, .ref pz])), (pf, .inr (1, [.long a1, .long b1, .long c1])), (pz, .inr (2, [.long u_zg_4, .long u_z1_5, .long u_z2_6]))] := hD
      refine lv_lstore (lv' := [(17, .long r_12), (15, .long v15_9), (13, .long u_z2_6), (11, .long v11_8), (9, .long v9_7), (7, .long u_zg_4), (5, .long u_z2_3), (3, .long u_z1_2), (0, .ref ph), (1, .ref pf), (2, .ref pf)]) hx hb dX0_compose_199 hl (by decide) rfl (fun ls hl => ?_)
      refine lv_aload_n hx hb dX0_compose_201 rfl (lv_at hl 9 rfl) ?_
      refine lv_lload hx hb dX0_compose_202 (lv_at hl 1 rfl) ?_
      refine lv_lload hx hb dX0_compose_204 (lv_at hl 0 rfl) ?_
      refine lv_lload hx hb dX0_compose_206 (lv_at hl 0 rfl) ?_
      refine lv_lload hx hb dX0_compose_208 (lv_at hl 0 rfl) ?_
      refine lv_lmul hx hb dX0_compose_210 ?_
      refine lv_aload_n hx hb dX0_compose_211 rfl (lv_at hl 8 rfl) ?_
      refine va_get (D := (dC, dI)) (ci := 0) (v := .int dd) (C := "ClassGroup") (T := TX0) (N := 17) hx hb hts (fun w h => List.mem_cons_of_mem _ (iwX0 w h)) hown hK hP 0 rfl rfl 0 (by decide) (hts _ (List.mem_cons_of_mem _ kw_150)) (fun _ h9 => h9) rfl dX0_compose_212 ?_
      refine lv_i2l (v := (dd).toInt64) hx hb dX0_compose_215 rfl ?_
      refine lv_lsub hx hb dX0_compose_216 ?_
      refine lv_ldc2 (v := 4) hx hb hown (hts _ (List.mem_cons_of_mem _ kw_126)) dX0_compose_217 ?_
      refine lv_lload hx hb dX0_compose_220 (lv_at hl 1 rfl) ?_
      refine lv_lmul hx hb dX0_compose_222 ?_
      obtain ⟨g_223, hf⟩ := ok_g hf
      refine lv_ldiv hx hb dX0_compose_223 g_223 ?_
      obtain ⟨xc224, hc224, hf⟩ := ok_b hf
      have hPc := hP.sub (ws' := [(pf, .inr (1, [.long a1, .long b1, .long c1]))]) [1] rfl
      have hDc := hD.sub (ws' := [(pf, .inr (1, [.long a1, .long b1, .long c1]))]) [1] (by decide) rfl
      have hKc := hK.sub (tys' := []) [] rfl
      have hFc := va_free (wc := [(pf, .inr (1, [.long a1, .long b1, .long c1]))]) hD hS hA [1] rfl
      refine va_callv (va_runV (As := [.long v15_9, .long r_12, .long (((r_12 * r_12) - (dd).toInt64) / (4 * v15_9))]) (rest := []) ⟨hx, hb, hml, hown, hts⟩ (c_Form_set l dC dI pf a1 b1 c1 v15_9 r_12 (((r_12 * r_12) - (dd).toInt64) / (4 * v15_9)) H.size F xc224 hc224) (cwV 3 hts (gwV kw_104 kw_105 kw_106 kw_2 kw_107) rfl rfl rfl (by decide +kernel) ⟨Nat.le_of_ble_eq_true rfl, Nat.le_of_ble_eq_true rfl⟩) ⟨fun a U g mk q => by obtain ⟨q0, q1, qP, qK, qD⟩ := q; exact ⟨q0, q1, qP, va_K.moved (u := U) (U := U.calling g mk a) (Vm.Alike.refl U.vm) qK, qD⟩, va_recv hKc hPc (ci := 1) (q0 := 0) rfl rfl, fun U hU hW => ⟨rfl, by rw [hU], by rw [hU]; exact hPc, va_K.moved hW.alike hKc, hDc.weaken (fun _ _ _ _ => trivial)⟩⟩ rfl rfl hl.1 rfl (lv_room (Nat.le_of_ble_eq_true rfl)) dX0_compose_224 ⟨Nat.zero_le _, Nat.zero_le _⟩) hS (fun q _ h => hFc q h) hFc (fun u t H1 locs ht hvm hw hB hz1 hk1 hS => ?_)
      obtain ⟨u_a1_13, u_b1_14, u_c1_15⟩ := u
      obtain ⟨hP1, hK1, hD1⟩ := hB
      rw [ht] at hP1
      subst hw
      obtain ⟨hP, hD⟩ := va_join (wr := [(ph, .inr (0, [.int dd, .int rt, .int cl, .int rf, .int pr, .ref pn, .int gk, .int go, .int gc, .ref pg, .ref ps, .ref po, .ref pc, .ref pe, .ref p1, .ref p2, .ref pz])), (pz, .inr (2, [.long u_zg_4, .long u_z1_5, .long u_z2_6]))]) (w1 := [(pf, .inr (1, [.long u_a1_13, .long u_b1_14, .long u_c1_15]))]) hP hD [1] [0, 2] rfl rfl (by decide) (by decide) hk1 hFc hP1 hD1
      generalize H1 = H at hP hS ⊢
      have hP : va_P (dC, dI) vwCl [(ph, .inr (0, [.int dd, .int rt, .int cl, .int rf, .int pr, .ref pn, .int gk, .int go, .int gc, .ref pg, .ref ps, .ref po, .ref pc, .ref pe, .ref p1, .ref p2, .ref pz])), (pz, .inr (2, [.long u_zg_4, .long u_z1_5, .long u_z2_6])), (pf, .inr (1, [.long u_a1_13, .long u_b1_14, .long u_c1_15]))] H := hP
      have hD : va_D A [(ph, .inr (0, [.int dd, .int rt, .int cl, .int rf, .int pr, .ref pn, .int gk, .int go, .int gc, .ref pg, .ref ps, .ref po, .ref pc, .ref pe, .ref p1, .ref p2, .ref pz])), (pz, .inr (2, [.long u_zg_4, .long u_z1_5, .long u_z2_6])), (pf, .inr (1, [.long u_a1_13, .long u_b1_14, .long u_c1_15]))] := hD
      have hP9 := hP.sub (ws' := [(ph, .inr (0, [.int dd, .int rt, .int cl, .int rf, .int pr, .ref pn, .int gk, .int go, .int gc, .ref pg, .ref ps, .ref po, .ref pc, .ref pe, .ref p1, .ref p2, .ref pz])), (pf, .inr (1, [.long u_a1_13, .long u_b1_14, .long u_c1_15])), (pz, .inr (2, [.long u_zg_4, .long u_z1_5, .long u_z2_6]))]) [0, 2, 1] rfl
      have hD9 := hD.sub (ws' := [(ph, .inr (0, [.int dd, .int rt, .int cl, .int rf, .int pr, .ref pn, .int gk, .int go, .int gc, .ref pg, .ref ps, .ref po, .ref pc, .ref pe, .ref p1, .ref p2, .ref pz])), (pf, .inr (1, [.long u_a1_13, .long u_b1_14, .long u_c1_15])), (pz, .inr (2, [.long u_zg_4, .long u_z1_5, .long u_z2_6]))]) [0, 2, 1] (by decide) rfl
      have hK9 := hK.sub (tys' := []) [] rfl
      exact W.vret hx hb hr (fun t ht hW => ⟨⟨(u_a1_13, u_b1_14, u_c1_15, u_zg_4, u_z1_5, u_z2_6), rfl, (Option.some.inj hf), by rw [ht]; exact hP9, va_K.moved hW.alike hK9, hD9⟩, hS.F ht⟩) hS.2.2 dX0_compose_227
  · have hf := ok_t c_72 hf
    have hP9 := hP.sub (ws' := [(ph, .inr (0, [.int dd, .int rt, .int cl, .int rf, .int pr, .ref pn, .int gk, .int go, .int gc, .ref pg, .ref ps, .ref po, .ref pc, .ref pe, .ref p1, .ref p2, .ref pz])), (pf, .inr (1, [.long a1, .long b1, .long c1])), (pz, .inr (2, [.long u_zg_4, .long u_z1_5, .long u_z2_6]))]) [0, 1, 2] rfl
    have hD9 := hD.sub (ws' := [(ph, .inr (0, [.int dd, .int rt, .int cl, .int rf, .int pr, .ref pn, .int gk, .int go, .int gc, .ref pg, .ref ps, .ref po, .ref pc, .ref pe, .ref p1, .ref p2, .ref pz])), (pf, .inr (1, [.long a1, .long b1, .long c1])), (pz, .inr (2, [.long u_zg_4, .long u_z1_5, .long u_z2_6]))]) [0, 1, 2] (by decide) rfl
    have hK9 := hK.sub (tys' := []) [] rfl
    exact W.vret hx hb hr (fun t ht hW => ⟨⟨(a1, b1, c1, u_zg_4, u_z1_5, u_z2_6), rfl, (Option.some.inj hf), by rw [ht]; exact hP9, va_K.moved hW.alike hK9, hD9⟩, hS.F ht⟩) hS.2.2 dX0_compose_75

def f_mult (F : Nat) (dd : Int32) (rt : Int32) (cl : Int32) (An : Nat → Int32) (a1 : Int64) (b1 : Int64) (c1 : Int64) (a2 : Int64) (b2 : Int64) (c2 : Int64) (zg : Int64) (z1 : Int64) (z2 : Int64) (x1 : Int32) (x2 : Int32) : Option (Int32 × Int64 × Int64 × Int64 × Int64 × Int64 × Int64 × Int64 × Int64 × Int64) := Option.bind (f_setTo F dd cl An a1 b1 c1 x1) (fun (u_a1_1, u_b1_2, u_c1_3) => Option.bind (f_setTo F dd cl An a2 b2 c2 x2) (fun (u_a1_4, u_b1_5, u_c1_6) => Option.bind (f_compose F dd u_a1_1 u_b1_2 u_c1_3 u_a1_4 u_b1_5 u_c1_6 zg z1 z2) (fun (u_a1_7, u_b1_8, u_c1_9, u_zg_10, u_z1_11, u_z2_12) => Option.bind (f_reduce F dd rt u_a1_7 u_b1_8 u_c1_9) (fun (u_a1_13, u_b1_14, u_c1_15) => Option.bind (f_leastKey F dd rt u_a1_13 u_b1_14 u_c1_15) (fun (r_16, u_a1_17, u_b1_18, u_c1_19) => Option.bind (f_classAt F cl An r_16) (fun r_20 => some (r_20, u_a1_17, u_b1_18, u_c1_19, u_a1_4, u_b1_5, u_c1_6, u_zg_10, u_z1_11, u_z2_12)))))))
set_option maxHeartbeats 4000000 in
set_option maxRecDepth 100000 in
theorem c_mult (l : Launch) (dC : Nat → ClassId) (dI : Nat → Nat → Nat) (ph : Nat) (dd : Int32) (rt : Int32) (cl : Int32) (rf : Int32) (pr : Int32) (pn : Nat) (gk : Int32) (go : Int32) (gc : Int32) (pg : Nat) (ps : Nat) (po : Nat) (pc : Nat) (pe : Nat) (p1 : Nat) (p2 : Nat) (pz : Nat) (tn : ClassId) (An : Nat → Int32) (a1 : Int64) (b1 : Int64) (c1 : Int64) (a2 : Int64) (b2 : Int64) (c2 : Int64) (zg : Int64) (z1 : Int64) (z2 : Int64) (x1 : Int32) (x2 : Int32) (sz : Nat) (F : Nat) (out : Int32 × Int64 × Int64 × Int64 × Int64 × Int64 × Int64 × Int64 × Int64 × Int64) (hf : f_mult F dd rt cl An a1 b1 c1 a2 b2 c2 zg z1 z2 x1 x2 = some out) : Met l yX0_multiply wsX0_multiply ({ frames := 3, cells := 0, slots := 0, locals := 78 }) (va_Pc [.ref ph, .int x1, .int x2] (fun U => U.heap.size = sz ∧ va_P (dC, dI) vwCl [(ph, .inr (0, [.int dd, .int rt, .int cl, .int rf, .int pr, .ref pn, .int gk, .int go, .int gc, .ref pg, .ref ps, .ref po, .ref pc, .ref pe, .ref p1, .ref p2, .ref pz])), (pn, .inl (tn, 1908, .inl An)), (p1, .inr (1, [.long a1, .long b1, .long c1])), (p2, .inr (1, [.long a2, .long b2, .long c2])), (pz, .inr (2, [.long zg, .long z1, .long z2]))] U.heap ∧ va_K (dC, dI) vwCl [(tn, .int)] U ∧ va_D (fun _ => True) [(ph, .inr (0, [.int dd, .int rt, .int cl, .int rf, .int pr, .ref pn, .int gk, .int go, .int gc, .ref pg, .ref ps, .ref po, .ref pc, .ref pe, .ref p1, .ref p2, .ref pz])), (pn, .inl (tn, 1908, .inl An)), (p1, .inr (1, [.long a1, .long b1, .long c1])), (p2, .inr (1, [.long a2, .long b2, .long c2])), (pz, .inr (2, [.long zg, .long z1, .long z2]))])) (va_Qi (fun (r : Int32) (u : Int64 × Int64 × Int64 × Int64 × Int64 × Int64 × Int64 × Int64 × Int64) => (r, u) = out) (fun (u : Int64 × Int64 × Int64 × Int64 × Int64 × Int64 × Int64 × Int64 × Int64) t => match u with | (u_a1, u_b1, u_c1, u_a2, u_b2, u_c2, u_zg, u_z1, u_z2) => va_P (dC, dI) vwCl [(ph, .inr (0, [.int dd, .int rt, .int cl, .int rf, .int pr, .ref pn, .int gk, .int go, .int gc, .ref pg, .ref ps, .ref po, .ref pc, .ref pe, .ref p1, .ref p2, .ref pz])), (pn, .inl (tn, 1908, .inl An)), (p1, .inr (1, [.long u_a1, .long u_b1, .long u_c1])), (p2, .inr (1, [.long u_a2, .long u_b2, .long u_c2])), (pz, .inr (2, [.long u_zg, .long u_z1, .long u_z2]))] t.heap ∧ va_K (dC, dI) vwCl [(tn, .int)] t ∧ va_D (va_A [(ph, .inr (0, [.int dd, .int rt, .int cl, .int rf, .int pr, .ref pn, .int gk, .int go, .int gc, .ref pg, .ref ps, .ref po, .ref pc, .ref pe, .ref p1, .ref p2, .ref pz])), (pn, .inl (tn, 1908, .inl An)), (p1, .inr (1, [.long a1, .long b1, .long c1])), (p2, .inr (1, [.long a2, .long b2, .long c2])), (pz, .inr (2, [.long zg, .long z1, .long z2]))] sz) [(ph, .inr (0, [.int dd, .int rt, .int cl, .int rf, .int pr, .ref pn, .int gk, .int go, .int gc, .ref pg, .ref ps, .ref po, .ref pc, .ref pe, .ref p1, .ref p2, .ref pz])), (pn, .inl (tn, 1908, .inl An)), (p1, .inr (1, [.long u_a1, .long u_b1, .long u_c1])), (p2, .inr (1, [.long u_a2, .long u_b2, .long u_c2])), (pz, .inr (2, [.long u_zg, .long u_z1, .long u_z2]))]) (va_A [(ph, .inr (0, [.int dd, .int rt, .int cl, .int rf, .int pr, .ref pn, .int gk, .int go, .int gc, .ref pg, .ref ps, .ref po, .ref pc, .ref pe, .ref p1, .ref p2, .ref pz])), (pn, .inl (tn, 1908, .inl An)), (p1, .inr (1, [.long a1, .long b1, .long c1])), (p2, .inr (1, [.long a2, .long b2, .long c2])), (pz, .inr (2, [.long zg, .long z1, .long z2]))] sz)) 0 0 (va_A [(ph, .inr (0, [.int dd, .int rt, .int cl, .int rf, .int pr, .ref pn, .int gk, .int go, .int gc, .ref pg, .ref ps, .ref po, .ref pc, .ref pe, .ref p1, .ref p2, .ref pz])), (pn, .inl (tn, 1908, .inl An)), (p1, .inr (1, [.long a1, .long b1, .long c1])), (p2, .inr (1, [.long a2, .long b2, .long c2])), (pz, .inr (2, [.long zg, .long z1, .long z2]))] sz) := by
  refine Met.ofW (cc := cX0_multiply) (maxL := 3) (ret := (some .int)) (by decide +kernel) rfl ?_
  intro p e s m args below meth c s₁ B hml hv
  obtain ⟨rfl, hsz, hP, hK, hD0⟩ := hv
  have hx := B.exec
  have hb := B.bytes
  have hr := B.returns
  have hts := atoms_spec (ws := wsX0_multiply) B.pre
  have hown : s.vm.findClass "ClassGroup" = some m.cls := findClass_of_methodNamed B.named
  have hlocks := B.notSynchronized
  subst hsz
  have hD := hD0.self (sz := s.heap.size)
  generalize hAe : va_A [(ph, .inr (0, [.int dd, .int rt, .int cl, .int rf, .int pr, .ref pn, .int gk, .int go, .int gc, .ref pg, .ref ps, .ref po, .ref pc, .ref pe, .ref p1, .ref p2, .ref pz])), (pn, .inl (tn, 1908, .inl An)), (p1, .inr (1, [.long a1, .long b1, .long c1])), (p2, .inr (1, [.long a2, .long b2, .long c2])), (pz, .inr (2, [.long zg, .long z1, .long z2]))] s.heap.size = A at hD ⊢
  have hA : ∀ q : Nat, s.heap.size ≤ q → A q := fun q h => by rw [← hAe]; exact Or.inr h
  have hS : va_S A s.heap s.heap [] := va_S.rf
  have hl := lv_entry ([.ref ph, .int x1, .int x2]) (n := 3) (Nat.le_of_ble_eq_true rfl)
  rw [lg_entry_eq]
  generalize (lg_sl ([.ref ph, .int x1, .int x2]) ++ List.replicate (3 - (lg_sl ([.ref ph, .int x1, .int x2])).length) Slot.unset).toArray = ls at hl ⊢
  have hl : lv_has ls 3 [(0, .ref ph), (1, .int x1), (2, .int x2)] := hl
  unfold f_mult at hf
  refine lv_aload_n hx hb dX0_multiply_0 rfl (lv_at hl 0 rfl) ?_
  refine lv_aload_n hx hb dX0_multiply_1 rfl (lv_at hl 0 rfl) ?_
  refine va_get (D := (dC, dI)) (ci := 0) (v := .ref p1) (C := "ClassGroup") (T := TX0) (N := 17) hx hb hts (fun w h => List.mem_cons_of_mem _ (iwX0 w h)) hown hK hP 0 rfl rfl 14 (by decide) (hts _ (List.mem_cons_of_mem _ kw_164)) (fun _ h9 => h9) rfl dX0_multiply_2 ?_
  refine lv_iload_n hx hb dX0_multiply_5 rfl (lv_at hl 1 rfl) ?_
  obtain ⟨xc6, hc6, hf⟩ := ok_b hf
  have hPc := hP.sub (ws' := [(ph, .inr (0, [.int dd, .int rt, .int cl, .int rf, .int pr, .ref pn, .int gk, .int go, .int gc, .ref pg, .ref ps, .ref po, .ref pc, .ref pe, .ref p1, .ref p2, .ref pz])), (pn, .inl (tn, 1908, .inl An)), (p1, .inr (1, [.long a1, .long b1, .long c1]))]) [0, 1, 2] rfl
  have hDc := hD.sub (ws' := [(ph, .inr (0, [.int dd, .int rt, .int cl, .int rf, .int pr, .ref pn, .int gk, .int go, .int gc, .ref pg, .ref ps, .ref po, .ref pc, .ref pe, .ref p1, .ref p2, .ref pz])), (pn, .inl (tn, 1908, .inl An)), (p1, .inr (1, [.long a1, .long b1, .long c1]))]) [0, 1, 2] (by decide) rfl
  have hKc := hK.sub (tys' := [(tn, .int)]) [0] rfl
  have hFc := va_free (wc := [(ph, .inr (0, [.int dd, .int rt, .int cl, .int rf, .int pr, .ref pn, .int gk, .int go, .int gc, .ref pg, .ref ps, .ref po, .ref pc, .ref pe, .ref p1, .ref p2, .ref pz])), (pn, .inl (tn, 1908, .inl An)), (p1, .inr (1, [.long a1, .long b1, .long c1]))]) hD hS hA [0, 1, 2] rfl
  refine va_callv (va_runV (As := [.ref p1, .int x1]) (rest := []) ⟨hx, hb, hml, hown, hts⟩ (c_setTo l dC dI ph dd rt cl rf pr pn gk go gc pg ps po pc pe p1 p2 pz tn An p1 a1 b1 c1 x1 s.heap.size F xc6 hc6) (cwV 2 hts (gwV kw_225 kw_227 ks_19 kw_1 kw_228) rfl rfl rfl (by decide +kernel) ⟨Nat.le_of_ble_eq_true rfl, Nat.le_of_ble_eq_true rfl⟩) ⟨fun a U g mk q => by obtain ⟨q0, q1, qP, qK, qD⟩ := q; exact ⟨q0, q1, qP, va_K.moved (u := U) (U := U.calling g mk a) (Vm.Alike.refl U.vm) qK, qD⟩, va_recv hKc hPc (ci := 0) (q0 := 0) rfl rfl, fun U hU hW => ⟨rfl, by rw [hU], by rw [hU]; exact hPc, va_K.moved hW.alike hKc, hDc.weaken (fun _ _ _ _ => trivial)⟩⟩ rfl rfl hl.1 rfl (lv_room (Nat.le_of_ble_eq_true rfl)) dX0_multiply_6 ⟨Nat.zero_le _, Nat.zero_le _⟩) hS (fun q _ h => hFc q h) hFc (fun u t H1 locs ht hvm hw hB hz1 hk1 hS => ?_)
  obtain ⟨u_a1_1, u_b1_2, u_c1_3⟩ := u
  obtain ⟨hP1, hK1, hD1⟩ := hB
  rw [ht] at hP1
  subst hw
  obtain ⟨hP, hD⟩ := va_join (wr := [(p2, .inr (1, [.long a2, .long b2, .long c2])), (pz, .inr (2, [.long zg, .long z1, .long z2]))]) (w1 := [(ph, .inr (0, [.int dd, .int rt, .int cl, .int rf, .int pr, .ref pn, .int gk, .int go, .int gc, .ref pg, .ref ps, .ref po, .ref pc, .ref pe, .ref p1, .ref p2, .ref pz])), (pn, .inl (tn, 1908, .inl An)), (p1, .inr (1, [.long u_a1_1, .long u_b1_2, .long u_c1_3]))]) hP hD [0, 1, 2] [3, 4] rfl rfl (by decide) (by decide) hk1 hFc hP1 hD1
  generalize H1 = H at hP hS ⊢
  have hP : va_P (dC, dI) vwCl [(p2, .inr (1, [.long a2, .long b2, .long c2])), (pz, .inr (2, [.long zg, .long z1, .long z2])), (ph, .inr (0, [.int dd, .int rt, .int cl, .int rf, .int pr, .ref pn, .int gk, .int go, .int gc, .ref pg, .ref ps, .ref po, .ref pc, .ref pe, .ref p1, .ref p2, .ref pz])), (pn, .inl (tn, 1908, .inl An)), (p1, .inr (1, [.long u_a1_1, .long u_b1_2, .long u_c1_3]))] H := hP
  have hD : va_D A [(p2, .inr (1, [.long a2, .long b2, .long c2])), (pz, .inr (2, [.long zg, .long z1, .long z2])), (ph, .inr (0, [.int dd, .int rt, .int cl, .int rf, .int pr, .ref pn, .int gk, .int go, .int gc, .ref pg, .ref ps, .ref po, .ref pc, .ref pe, .ref p1, .ref p2, .ref pz])), (pn, .inl (tn, 1908, .inl An)), (p1, .inr (1, [.long u_a1_1, .long u_b1_2, .long u_c1_3]))] := hD
  refine lv_aload_n hx hb dX0_multiply_9 rfl (lv_at hl 0 rfl) ?_
  refine lv_aload_n hx hb dX0_multiply_10 rfl (lv_at hl 0 rfl) ?_
  refine va_get (D := (dC, dI)) (ci := 0) (v := .ref p2) (C := "ClassGroup") (T := TX0) (N := 17) hx hb hts (fun w h => List.mem_cons_of_mem _ (iwX0 w h)) hown hK hP 2 rfl rfl 15 (by decide) (hts _ (List.mem_cons_of_mem _ kw_165)) (fun _ h9 => h9) rfl dX0_multiply_11 ?_
  refine lv_iload_n hx hb dX0_multiply_14 rfl (lv_at hl 2 rfl) ?_
  obtain ⟨xc15, hc15, hf⟩ := ok_b hf
  have hPc := hP.sub (ws' := [(ph, .inr (0, [.int dd, .int rt, .int cl, .int rf, .int pr, .ref pn, .int gk, .int go, .int gc, .ref pg, .ref ps, .ref po, .ref pc, .ref pe, .ref p1, .ref p2, .ref pz])), (pn, .inl (tn, 1908, .inl An)), (p2, .inr (1, [.long a2, .long b2, .long c2]))]) [2, 3, 0] rfl
  have hDc := hD.sub (ws' := [(ph, .inr (0, [.int dd, .int rt, .int cl, .int rf, .int pr, .ref pn, .int gk, .int go, .int gc, .ref pg, .ref ps, .ref po, .ref pc, .ref pe, .ref p1, .ref p2, .ref pz])), (pn, .inl (tn, 1908, .inl An)), (p2, .inr (1, [.long a2, .long b2, .long c2]))]) [2, 3, 0] (by decide) rfl
  have hKc := hK.sub (tys' := [(tn, .int)]) [0] rfl
  have hFc := va_free (wc := [(ph, .inr (0, [.int dd, .int rt, .int cl, .int rf, .int pr, .ref pn, .int gk, .int go, .int gc, .ref pg, .ref ps, .ref po, .ref pc, .ref pe, .ref p1, .ref p2, .ref pz])), (pn, .inl (tn, 1908, .inl An)), (p2, .inr (1, [.long a2, .long b2, .long c2]))]) hD hS hA [2, 3, 0] rfl
  refine va_callv (va_runV (As := [.ref p2, .int x2]) (rest := []) ⟨hx, hb, hml, hown, hts⟩ (c_setTo l dC dI ph dd rt cl rf pr pn gk go gc pg ps po pc pe p1 p2 pz tn An p2 a2 b2 c2 x2 H.size F xc15 hc15) (cwV 2 hts (gwV kw_225 kw_227 ks_19 kw_1 kw_228) rfl rfl rfl (by decide +kernel) ⟨Nat.le_of_ble_eq_true rfl, Nat.le_of_ble_eq_true rfl⟩) ⟨fun a U g mk q => by obtain ⟨q0, q1, qP, qK, qD⟩ := q; exact ⟨q0, q1, qP, va_K.moved (u := U) (U := U.calling g mk a) (Vm.Alike.refl U.vm) qK, qD⟩, va_recv hKc hPc (ci := 0) (q0 := 0) rfl rfl, fun U hU hW => ⟨rfl, by rw [hU], by rw [hU]; exact hPc, va_K.moved hW.alike hKc, hDc.weaken (fun _ _ _ _ => trivial)⟩⟩ rfl rfl hl.1 rfl (lv_room (Nat.le_of_ble_eq_true rfl)) dX0_multiply_15 ⟨Nat.zero_le _, Nat.zero_le _⟩) hS (fun q _ h => hFc q h) hFc (fun u t H1 locs ht hvm hw hB hz1 hk1 hS => ?_)
  obtain ⟨u_a1_4, u_b1_5, u_c1_6⟩ := u
  obtain ⟨hP1, hK1, hD1⟩ := hB
  rw [ht] at hP1
  subst hw
  obtain ⟨hP, hD⟩ := va_join (wr := [(pz, .inr (2, [.long zg, .long z1, .long z2])), (p1, .inr (1, [.long u_a1_1, .long u_b1_2, .long u_c1_3]))]) (w1 := [(ph, .inr (0, [.int dd, .int rt, .int cl, .int rf, .int pr, .ref pn, .int gk, .int go, .int gc, .ref pg, .ref ps, .ref po, .ref pc, .ref pe, .ref p1, .ref p2, .ref pz])), (pn, .inl (tn, 1908, .inl An)), (p2, .inr (1, [.long u_a1_4, .long u_b1_5, .long u_c1_6]))]) hP hD [2, 3, 0] [1, 4] rfl rfl (by decide) (by decide) hk1 hFc hP1 hD1
  generalize H1 = H at hP hS ⊢
  have hP : va_P (dC, dI) vwCl [(pz, .inr (2, [.long zg, .long z1, .long z2])), (p1, .inr (1, [.long u_a1_1, .long u_b1_2, .long u_c1_3])), (ph, .inr (0, [.int dd, .int rt, .int cl, .int rf, .int pr, .ref pn, .int gk, .int go, .int gc, .ref pg, .ref ps, .ref po, .ref pc, .ref pe, .ref p1, .ref p2, .ref pz])), (pn, .inl (tn, 1908, .inl An)), (p2, .inr (1, [.long u_a1_4, .long u_b1_5, .long u_c1_6]))] H := hP
  have hD : va_D A [(pz, .inr (2, [.long zg, .long z1, .long z2])), (p1, .inr (1, [.long u_a1_1, .long u_b1_2, .long u_c1_3])), (ph, .inr (0, [.int dd, .int rt, .int cl, .int rf, .int pr, .ref pn, .int gk, .int go, .int gc, .ref pg, .ref ps, .ref po, .ref pc, .ref pe, .ref p1, .ref p2, .ref pz])), (pn, .inl (tn, 1908, .inl An)), (p2, .inr (1, [.long u_a1_4, .long u_b1_5, .long u_c1_6]))] := hD
  refine lv_aload_n hx hb dX0_multiply_18 rfl (lv_at hl 0 rfl) ?_
  refine lv_aload_n hx hb dX0_multiply_19 rfl (lv_at hl 0 rfl) ?_
  refine va_get (D := (dC, dI)) (ci := 0) (v := .ref p1) (C := "ClassGroup") (T := TX0) (N := 17) hx hb hts (fun w h => List.mem_cons_of_mem _ (iwX0 w h)) hown hK hP 2 rfl rfl 14 (by decide) (hts _ (List.mem_cons_of_mem _ kw_164)) (fun _ h9 => h9) rfl dX0_multiply_20 ?_
  refine lv_aload_n hx hb dX0_multiply_23 rfl (lv_at hl 0 rfl) ?_
  refine va_get (D := (dC, dI)) (ci := 0) (v := .ref p2) (C := "ClassGroup") (T := TX0) (N := 17) hx hb hts (fun w h => List.mem_cons_of_mem _ (iwX0 w h)) hown hK hP 2 rfl rfl 15 (by decide) (hts _ (List.mem_cons_of_mem _ kw_165)) (fun _ h9 => h9) rfl dX0_multiply_24 ?_
  obtain ⟨xc27, hc27, hf⟩ := ok_b hf
  have hPc := hP.sub (ws' := [(ph, .inr (0, [.int dd, .int rt, .int cl, .int rf, .int pr, .ref pn, .int gk, .int go, .int gc, .ref pg, .ref ps, .ref po, .ref pc, .ref pe, .ref p1, .ref p2, .ref pz])), (p1, .inr (1, [.long u_a1_1, .long u_b1_2, .long u_c1_3])), (p2, .inr (1, [.long u_a1_4, .long u_b1_5, .long u_c1_6])), (pz, .inr (2, [.long zg, .long z1, .long z2]))]) [2, 1, 4, 0] rfl
  have hDc := hD.sub (ws' := [(ph, .inr (0, [.int dd, .int rt, .int cl, .int rf, .int pr, .ref pn, .int gk, .int go, .int gc, .ref pg, .ref ps, .ref po, .ref pc, .ref pe, .ref p1, .ref p2, .ref pz])), (p1, .inr (1, [.long u_a1_1, .long u_b1_2, .long u_c1_3])), (p2, .inr (1, [.long u_a1_4, .long u_b1_5, .long u_c1_6])), (pz, .inr (2, [.long zg, .long z1, .long z2]))]) [2, 1, 4, 0] (by decide) rfl
  have hKc := hK.sub (tys' := []) [] rfl
  have hFc := va_free (wc := [(ph, .inr (0, [.int dd, .int rt, .int cl, .int rf, .int pr, .ref pn, .int gk, .int go, .int gc, .ref pg, .ref ps, .ref po, .ref pc, .ref pe, .ref p1, .ref p2, .ref pz])), (p1, .inr (1, [.long u_a1_1, .long u_b1_2, .long u_c1_3])), (p2, .inr (1, [.long u_a1_4, .long u_b1_5, .long u_c1_6])), (pz, .inr (2, [.long zg, .long z1, .long z2]))]) hD hS hA [2, 1, 4, 0] rfl
  refine va_callv (va_runV (As := [.ref p1, .ref p2]) (rest := []) ⟨hx, hb, hml, hown, hts⟩ (c_compose l dC dI ph dd rt cl rf pr pn gk go gc pg ps po pc pe p1 p2 pz p1 u_a1_1 u_b1_2 u_c1_3 p2 u_a1_4 u_b1_5 u_c1_6 zg z1 z2 H.size F xc27 hc27) (cwV 2 hts (gwV kw_232 kw_234 ks_20 kw_1 kw_235) rfl rfl rfl (by decide +kernel) ⟨Nat.le_of_ble_eq_true rfl, Nat.le_of_ble_eq_true rfl⟩) ⟨fun a U g mk q => by obtain ⟨q0, q1, qP, qK, qD⟩ := q; exact ⟨q0, q1, qP, va_K.moved (u := U) (U := U.calling g mk a) (Vm.Alike.refl U.vm) qK, qD⟩, va_recv hKc hPc (ci := 0) (q0 := 0) rfl rfl, fun U hU hW => ⟨rfl, by rw [hU], by rw [hU]; exact hPc, va_K.moved hW.alike hKc, hDc.weaken (fun _ _ _ _ => trivial)⟩⟩ rfl rfl hl.1 rfl (lv_room (Nat.le_of_ble_eq_true rfl)) dX0_multiply_27 ⟨Nat.zero_le _, Nat.zero_le _⟩) hS (fun q _ h => hFc q h) hFc (fun u t H1 locs ht hvm hw hB hz1 hk1 hS => ?_)
  obtain ⟨u_a1_7, u_b1_8, u_c1_9, u_zg_10, u_z1_11, u_z2_12⟩ := u
  obtain ⟨hP1, hK1, hD1⟩ := hB
  rw [ht] at hP1
  subst hw
  obtain ⟨hP, hD⟩ := va_join (wr := [(pn, .inl (tn, 1908, .inl An))]) (w1 := [(ph, .inr (0, [.int dd, .int rt, .int cl, .int rf, .int pr, .ref pn, .int gk, .int go, .int gc, .ref pg, .ref ps, .ref po, .ref pc, .ref pe, .ref p1, .ref p2, .ref pz])), (p1, .inr (1, [.long u_a1_7, .long u_b1_8, .long u_c1_9])), (p2, .inr (1, [.long u_a1_4, .long u_b1_5, .long u_c1_6])), (pz, .inr (2, [.long u_zg_10, .long u_z1_11, .long u_z2_12]))]) hP hD [2, 1, 4, 0] [3] rfl rfl (by decide) (by decide) hk1 hFc hP1 hD1
  generalize H1 = H at hP hS ⊢
  have hP : va_P (dC, dI) vwCl [(pn, .inl (tn, 1908, .inl An)), (ph, .inr (0, [.int dd, .int rt, .int cl, .int rf, .int pr, .ref pn, .int gk, .int go, .int gc, .ref pg, .ref ps, .ref po, .ref pc, .ref pe, .ref p1, .ref p2, .ref pz])), (p1, .inr (1, [.long u_a1_7, .long u_b1_8, .long u_c1_9])), (p2, .inr (1, [.long u_a1_4, .long u_b1_5, .long u_c1_6])), (pz, .inr (2, [.long u_zg_10, .long u_z1_11, .long u_z2_12]))] H := hP
  have hD : va_D A [(pn, .inl (tn, 1908, .inl An)), (ph, .inr (0, [.int dd, .int rt, .int cl, .int rf, .int pr, .ref pn, .int gk, .int go, .int gc, .ref pg, .ref ps, .ref po, .ref pc, .ref pe, .ref p1, .ref p2, .ref pz])), (p1, .inr (1, [.long u_a1_7, .long u_b1_8, .long u_c1_9])), (p2, .inr (1, [.long u_a1_4, .long u_b1_5, .long u_c1_6])), (pz, .inr (2, [.long u_zg_10, .long u_z1_11, .long u_z2_12]))] := hD
  refine lv_aload_n hx hb dX0_multiply_30 rfl (lv_at hl 0 rfl) ?_
  refine lv_aload_n hx hb dX0_multiply_31 rfl (lv_at hl 0 rfl) ?_
  refine va_get (D := (dC, dI)) (ci := 0) (v := .ref p1) (C := "ClassGroup") (T := TX0) (N := 17) hx hb hts (fun w h => List.mem_cons_of_mem _ (iwX0 w h)) hown hK hP 1 rfl rfl 14 (by decide) (hts _ (List.mem_cons_of_mem _ kw_164)) (fun _ h9 => h9) rfl dX0_multiply_32 ?_
  obtain ⟨xc35, hc35, hf⟩ := ok_b hf
  have hPc := hP.sub (ws' := [(ph, .inr (0, [.int dd, .int rt, .int cl, .int rf, .int pr, .ref pn, .int gk, .int go, .int gc, .ref pg, .ref ps, .ref po, .ref pc, .ref pe, .ref p1, .ref p2, .ref pz])), (p1, .inr (1, [.long u_a1_7, .long u_b1_8, .long u_c1_9]))]) [1, 2] rfl
  have hDc := hD.sub (ws' := [(ph, .inr (0, [.int dd, .int rt, .int cl, .int rf, .int pr, .ref pn, .int gk, .int go, .int gc, .ref pg, .ref ps, .ref po, .ref pc, .ref pe, .ref p1, .ref p2, .ref pz])), (p1, .inr (1, [.long u_a1_7, .long u_b1_8, .long u_c1_9]))]) [1, 2] (by decide) rfl
  have hKc := hK.sub (tys' := []) [] rfl
  have hFc := va_free (wc := [(ph, .inr (0, [.int dd, .int rt, .int cl, .int rf, .int pr, .ref pn, .int gk, .int go, .int gc, .ref pg, .ref ps, .ref po, .ref pc, .ref pe, .ref p1, .ref p2, .ref pz])), (p1, .inr (1, [.long u_a1_7, .long u_b1_8, .long u_c1_9]))]) hD hS hA [1, 2] rfl
  refine va_callv (va_runV (As := [.ref p1]) (rest := []) ⟨hx, hb, hml, hown, hts⟩ (c_reduce l dC dI ph dd rt cl rf pr pn gk go gc pg ps po pc pe p1 p2 pz p1 u_a1_7 u_b1_8 u_c1_9 H.size F xc35 hc35) (cwV 1 hts (gwV kw_127 kw_129 ks_10 kw_1 kw_130) rfl rfl rfl (by decide +kernel) ⟨Nat.le_of_ble_eq_true rfl, Nat.le_of_ble_eq_true rfl⟩) ⟨fun a U g mk q => by obtain ⟨q0, q1, qP, qK, qD⟩ := q; exact ⟨q0, q1, qP, va_K.moved (u := U) (U := U.calling g mk a) (Vm.Alike.refl U.vm) qK, qD⟩, va_recv hKc hPc (ci := 0) (q0 := 0) rfl rfl, fun U hU hW => ⟨rfl, by rw [hU], by rw [hU]; exact hPc, va_K.moved hW.alike hKc, hDc.weaken (fun _ _ _ _ => trivial)⟩⟩ rfl rfl hl.1 rfl (lv_room (Nat.le_of_ble_eq_true rfl)) dX0_multiply_35 ⟨Nat.zero_le _, Nat.zero_le _⟩) hS (fun q _ h => hFc q h) hFc (fun u t H1 locs ht hvm hw hB hz1 hk1 hS => ?_)
  obtain ⟨u_a1_13, u_b1_14, u_c1_15⟩ := u
  obtain ⟨hP1, hK1, hD1⟩ := hB
  rw [ht] at hP1
  subst hw
  obtain ⟨hP, hD⟩ := va_join (wr := [(pn, .inl (tn, 1908, .inl An)), (p2, .inr (1, [.long u_a1_4, .long u_b1_5, .long u_c1_6])), (pz, .inr (2, [.long u_zg_10, .long u_z1_11, .long u_z2_12]))]) (w1 := [(ph, .inr (0, [.int dd, .int rt, .int cl, .int rf, .int pr, .ref pn, .int gk, .int go, .int gc, .ref pg, .ref ps, .ref po, .ref pc, .ref pe, .ref p1, .ref p2, .ref pz])), (p1, .inr (1, [.long u_a1_13, .long u_b1_14, .long u_c1_15]))]) hP hD [1, 2] [0, 3, 4] rfl rfl (by decide) (by decide) hk1 hFc hP1 hD1
  generalize H1 = H at hP hS ⊢
  have hP : va_P (dC, dI) vwCl [(pn, .inl (tn, 1908, .inl An)), (p2, .inr (1, [.long u_a1_4, .long u_b1_5, .long u_c1_6])), (pz, .inr (2, [.long u_zg_10, .long u_z1_11, .long u_z2_12])), (ph, .inr (0, [.int dd, .int rt, .int cl, .int rf, .int pr, .ref pn, .int gk, .int go, .int gc, .ref pg, .ref ps, .ref po, .ref pc, .ref pe, .ref p1, .ref p2, .ref pz])), (p1, .inr (1, [.long u_a1_13, .long u_b1_14, .long u_c1_15]))] H := hP
  have hD : va_D A [(pn, .inl (tn, 1908, .inl An)), (p2, .inr (1, [.long u_a1_4, .long u_b1_5, .long u_c1_6])), (pz, .inr (2, [.long u_zg_10, .long u_z1_11, .long u_z2_12])), (ph, .inr (0, [.int dd, .int rt, .int cl, .int rf, .int pr, .ref pn, .int gk, .int go, .int gc, .ref pg, .ref ps, .ref po, .ref pc, .ref pe, .ref p1, .ref p2, .ref pz])), (p1, .inr (1, [.long u_a1_13, .long u_b1_14, .long u_c1_15]))] := hD
  refine lv_aload_n hx hb dX0_multiply_38 rfl (lv_at hl 0 rfl) ?_
  refine lv_aload_n hx hb dX0_multiply_39 rfl (lv_at hl 0 rfl) ?_
  refine lv_aload_n hx hb dX0_multiply_40 rfl (lv_at hl 0 rfl) ?_
  refine va_get (D := (dC, dI)) (ci := 0) (v := .ref p1) (C := "ClassGroup") (T := TX0) (N := 17) hx hb hts (fun w h => List.mem_cons_of_mem _ (iwX0 w h)) hown hK hP 3 rfl rfl 14 (by decide) (hts _ (List.mem_cons_of_mem _ kw_164)) (fun _ h9 => h9) rfl dX0_multiply_41 ?_
  obtain ⟨xc44, hc44, hf⟩ := ok_b hf
  have hPc := hP.sub (ws' := [(ph, .inr (0, [.int dd, .int rt, .int cl, .int rf, .int pr, .ref pn, .int gk, .int go, .int gc, .ref pg, .ref ps, .ref po, .ref pc, .ref pe, .ref p1, .ref p2, .ref pz])), (p1, .inr (1, [.long u_a1_13, .long u_b1_14, .long u_c1_15]))]) [3, 4] rfl
  have hDc := hD.sub (ws' := [(ph, .inr (0, [.int dd, .int rt, .int cl, .int rf, .int pr, .ref pn, .int gk, .int go, .int gc, .ref pg, .ref ps, .ref po, .ref pc, .ref pe, .ref p1, .ref p2, .ref pz])), (p1, .inr (1, [.long u_a1_13, .long u_b1_14, .long u_c1_15]))]) [3, 4] (by decide) rfl
  have hKc := hK.sub (tys' := []) [] rfl
  have hFc := va_free (wc := [(ph, .inr (0, [.int dd, .int rt, .int cl, .int rf, .int pr, .ref pn, .int gk, .int go, .int gc, .ref pg, .ref ps, .ref po, .ref pc, .ref pe, .ref p1, .ref p2, .ref pz])), (p1, .inr (1, [.long u_a1_13, .long u_b1_14, .long u_c1_15]))]) hD hS hA [3, 4] rfl
  refine va_calli (va_runV (As := [.ref p1]) (rest := [.ref ph]) ⟨hx, hb, hml, hown, hts⟩ (c_leastKey l dC dI ph dd rt cl rf pr pn gk go gc pg ps po pc pe p1 p2 pz p1 u_a1_13 u_b1_14 u_c1_15 H.size F xc44 hc44) (cwV 1 hts (gwV kw_135 kw_137 ks_12 kw_1 kw_138) rfl rfl rfl (by decide +kernel) ⟨Nat.le_of_ble_eq_true rfl, Nat.le_of_ble_eq_true rfl⟩) ⟨fun a U g mk q => by obtain ⟨q0, q1, qP, qK, qD⟩ := q; exact ⟨q0, q1, qP, va_K.moved (u := U) (U := U.calling g mk a) (Vm.Alike.refl U.vm) qK, qD⟩, va_recv hKc hPc (ci := 0) (q0 := 0) rfl rfl, fun U hU hW => ⟨rfl, by rw [hU], by rw [hU]; exact hPc, va_K.moved hW.alike hKc, hDc.weaken (fun _ _ _ _ => trivial)⟩⟩ rfl rfl hl.1 rfl (lv_room (Nat.le_of_ble_eq_true rfl)) dX0_multiply_44 ⟨Nat.zero_le _, Nat.zero_le _⟩) hS (fun q _ h => hFc q h) hFc (fun r_16 u t H1 locs ht hvm hw hB hz1 hk1 hS => ?_)
  obtain ⟨u_a1_17, u_b1_18, u_c1_19⟩ := u
  obtain ⟨hP1, hK1, hD1⟩ := hB
  rw [ht] at hP1
  subst hw
  obtain ⟨hP, hD⟩ := va_join (wr := [(pn, .inl (tn, 1908, .inl An)), (p2, .inr (1, [.long u_a1_4, .long u_b1_5, .long u_c1_6])), (pz, .inr (2, [.long u_zg_10, .long u_z1_11, .long u_z2_12]))]) (w1 := [(ph, .inr (0, [.int dd, .int rt, .int cl, .int rf, .int pr, .ref pn, .int gk, .int go, .int gc, .ref pg, .ref ps, .ref po, .ref pc, .ref pe, .ref p1, .ref p2, .ref pz])), (p1, .inr (1, [.long u_a1_17, .long u_b1_18, .long u_c1_19]))]) hP hD [3, 4] [0, 1, 2] rfl rfl (by decide) (by decide) hk1 hFc hP1 hD1
  generalize H1 = H at hP hS ⊢
  have hP : va_P (dC, dI) vwCl [(pn, .inl (tn, 1908, .inl An)), (p2, .inr (1, [.long u_a1_4, .long u_b1_5, .long u_c1_6])), (pz, .inr (2, [.long u_zg_10, .long u_z1_11, .long u_z2_12])), (ph, .inr (0, [.int dd, .int rt, .int cl, .int rf, .int pr, .ref pn, .int gk, .int go, .int gc, .ref pg, .ref ps, .ref po, .ref pc, .ref pe, .ref p1, .ref p2, .ref pz])), (p1, .inr (1, [.long u_a1_17, .long u_b1_18, .long u_c1_19]))] H := hP
  have hD : va_D A [(pn, .inl (tn, 1908, .inl An)), (p2, .inr (1, [.long u_a1_4, .long u_b1_5, .long u_c1_6])), (pz, .inr (2, [.long u_zg_10, .long u_z1_11, .long u_z2_12])), (ph, .inr (0, [.int dd, .int rt, .int cl, .int rf, .int pr, .ref pn, .int gk, .int go, .int gc, .ref pg, .ref ps, .ref po, .ref pc, .ref pe, .ref p1, .ref p2, .ref pz])), (p1, .inr (1, [.long u_a1_17, .long u_b1_18, .long u_c1_19]))] := hD
  obtain ⟨xc47, hc47, hf⟩ := ok_b hf
  have hPc := hP.sub (ws' := [(ph, .inr (0, [.int dd, .int rt, .int cl, .int rf, .int pr, .ref pn, .int gk, .int go, .int gc, .ref pg, .ref ps, .ref po, .ref pc, .ref pe, .ref p1, .ref p2, .ref pz])), (pn, .inl (tn, 1908, .inl An))]) [3, 0] rfl
  have hDc := hD.sub (ws' := [(ph, .inr (0, [.int dd, .int rt, .int cl, .int rf, .int pr, .ref pn, .int gk, .int go, .int gc, .ref pg, .ref ps, .ref po, .ref pc, .ref pe, .ref p1, .ref p2, .ref pz])), (pn, .inl (tn, 1908, .inl An))]) [3, 0] (by decide) rfl
  have hKc := hK.sub (tys' := [(tn, .int)]) [0] rfl
  have hFc := va_free (wc := [(ph, .inr (0, [.int dd, .int rt, .int cl, .int rf, .int pr, .ref pn, .int gk, .int go, .int gc, .ref pg, .ref ps, .ref po, .ref pc, .ref pe, .ref p1, .ref p2, .ref pz])), (pn, .inl (tn, 1908, .inl An))]) hD hS hA [3, 0] rfl
  refine va_calli (va_runV (As := [.int r_16]) (rest := []) ⟨hx, hb, hml, hown, hts⟩ (c_classAt l dC dI ph dd rt cl rf pr pn gk go gc pg ps po pc pe p1 p2 pz tn An r_16 H.size F xc47 hc47) (cwV 1 hts (gwV kw_142 kw_144 ks_13 kw_1 kw_145) rfl rfl rfl (by decide +kernel) ⟨Nat.le_of_ble_eq_true rfl, Nat.le_of_ble_eq_true rfl⟩) ⟨fun a U g mk q => by obtain ⟨q0, q1, qP, qK, qD⟩ := q; exact ⟨q0, q1, qP, va_K.moved (u := U) (U := U.calling g mk a) (Vm.Alike.refl U.vm) qK, qD⟩, va_recv hKc hPc (ci := 0) (q0 := 0) rfl rfl, fun U hU hW => ⟨rfl, by rw [hU], by rw [hU]; exact hPc, va_K.moved hW.alike hKc, hDc.weaken (fun _ _ _ _ => trivial)⟩⟩ rfl rfl hl.1 rfl (lv_room (Nat.le_of_ble_eq_true rfl)) dX0_multiply_47 ⟨Nat.zero_le _, Nat.zero_le _⟩) hS (fun q _ h => hFc q h) hFc (fun r_20 u t H1 locs ht hvm hw hB hz1 hk1 hS => ?_)
  obtain ⟨⟩ := u
  obtain ⟨hP1, hK1, hD1⟩ := hB
  rw [ht] at hP1
  subst hw
  obtain ⟨hP, hD⟩ := va_join (wr := [(p2, .inr (1, [.long u_a1_4, .long u_b1_5, .long u_c1_6])), (pz, .inr (2, [.long u_zg_10, .long u_z1_11, .long u_z2_12])), (p1, .inr (1, [.long u_a1_17, .long u_b1_18, .long u_c1_19]))]) (w1 := [(ph, .inr (0, [.int dd, .int rt, .int cl, .int rf, .int pr, .ref pn, .int gk, .int go, .int gc, .ref pg, .ref ps, .ref po, .ref pc, .ref pe, .ref p1, .ref p2, .ref pz])), (pn, .inl (tn, 1908, .inl An))]) hP hD [3, 0] [1, 2, 4] rfl rfl (by decide) (by decide) hk1 hFc hP1 hD1
  generalize H1 = H at hP hS ⊢
  have hP : va_P (dC, dI) vwCl [(p2, .inr (1, [.long u_a1_4, .long u_b1_5, .long u_c1_6])), (pz, .inr (2, [.long u_zg_10, .long u_z1_11, .long u_z2_12])), (p1, .inr (1, [.long u_a1_17, .long u_b1_18, .long u_c1_19])), (ph, .inr (0, [.int dd, .int rt, .int cl, .int rf, .int pr, .ref pn, .int gk, .int go, .int gc, .ref pg, .ref ps, .ref po, .ref pc, .ref pe, .ref p1, .ref p2, .ref pz])), (pn, .inl (tn, 1908, .inl An))] H := hP
  have hD : va_D A [(p2, .inr (1, [.long u_a1_4, .long u_b1_5, .long u_c1_6])), (pz, .inr (2, [.long u_zg_10, .long u_z1_11, .long u_z2_12])), (p1, .inr (1, [.long u_a1_17, .long u_b1_18, .long u_c1_19])), (ph, .inr (0, [.int dd, .int rt, .int cl, .int rf, .int pr, .ref pn, .int gk, .int go, .int gc, .ref pg, .ref ps, .ref po, .ref pc, .ref pe, .ref p1, .ref p2, .ref pz])), (pn, .inl (tn, 1908, .inl An))] := hD
  have hP9 := hP.sub (ws' := [(ph, .inr (0, [.int dd, .int rt, .int cl, .int rf, .int pr, .ref pn, .int gk, .int go, .int gc, .ref pg, .ref ps, .ref po, .ref pc, .ref pe, .ref p1, .ref p2, .ref pz])), (pn, .inl (tn, 1908, .inl An)), (p1, .inr (1, [.long u_a1_17, .long u_b1_18, .long u_c1_19])), (p2, .inr (1, [.long u_a1_4, .long u_b1_5, .long u_c1_6])), (pz, .inr (2, [.long u_zg_10, .long u_z1_11, .long u_z2_12]))]) [3, 4, 2, 0, 1] rfl
  have hD9 := hD.sub (ws' := [(ph, .inr (0, [.int dd, .int rt, .int cl, .int rf, .int pr, .ref pn, .int gk, .int go, .int gc, .ref pg, .ref ps, .ref po, .ref pc, .ref pe, .ref p1, .ref p2, .ref pz])), (pn, .inl (tn, 1908, .inl An)), (p1, .inr (1, [.long u_a1_17, .long u_b1_18, .long u_c1_19])), (p2, .inr (1, [.long u_a1_4, .long u_b1_5, .long u_c1_6])), (pz, .inr (2, [.long u_zg_10, .long u_z1_11, .long u_z2_12]))]) [3, 4, 2, 0, 1] (by decide) rfl
  have hK9 := hK.sub (tys' := [(tn, .int)]) [0] rfl
  exact W.iret (v := r_20) hx hb hr (fun t ht hW => ⟨⟨r_20, (u_a1_17, u_b1_18, u_c1_19, u_a1_4, u_b1_5, u_c1_6, u_zg_10, u_z1_11, u_z2_12), rfl, (Option.some.inj hf), by rw [ht]; exact hP9, va_K.moved hW.alike hK9, hD9⟩, hS.F ht⟩) hS.2.2 dX0_multiply_50

