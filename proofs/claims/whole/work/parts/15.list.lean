def f_keepDef (F : Nat) (cl : Int32) (rf : Int32) (An : Nat → Int32) (x1 : Int32) (x2 : Int32) (x3 : Int32) : Option (Int32 × Int32 × (Nat → Int32)) := (if x3 < x1 then some (cl, rf, An) else Option.bind (f_isPrim F x1 x2 x3) (fun r_1 => (if r_1 = 0 then some (cl, rf, An) else bnd (rf + 1) (fun f_reducedForms_2 => Option.bind (f_addName F cl An x1 x2) (fun (u_cl_3, u_An_4) => (if x2 ≤ 0 then some (u_cl_3, f_reducedForms_2, u_An_4) else (if x1 ≤ x2 then some (u_cl_3, f_reducedForms_2, u_An_4) else (if x3 ≤ x1 then some (u_cl_3, f_reducedForms_2, u_An_4) else bnd (f_reducedForms_2 + 1) (fun f_reducedForms_5 => Option.bind (f_addName F u_cl_3 u_An_4 x1 (-x2)) (fun (u_cl_6, u_An_7) => some (u_cl_6, f_reducedForms_5, u_An_7)))))))))))
set_option maxHeartbeats 4000000 in
set_option maxRecDepth 100000 in
theorem c_keepDef (l : Launch) (dC : Nat → ClassId) (dI : Nat → Nat → Nat) (ph : Nat) (dd : Int32) (rt : Int32) (cl : Int32) (rf : Int32) (pr : Int32) (pn : Nat) (gk : Int32) (go : Int32) (gc : Int32) (pg : Nat) (ps : Nat) (po : Nat) (pc : Nat) (pe : Nat) (p1 : Nat) (p2 : Nat) (pz : Nat) (tn : ClassId) (An : Nat → Int32) (x1 : Int32) (x2 : Int32) (x3 : Int32) (sz : Nat) (F : Nat) (out : Int32 × Int32 × (Nat → Int32)) (hf : f_keepDef F cl rf An x1 x2 x3 = some out) : Met l yX0_keepDefinite wsX0_keepDefinite ({ frames := 3, cells := 0, slots := 0, locals := 67 }) (va_Pc [.ref ph, .int x1, .int x2, .int x3] (fun U => U.heap.size = sz ∧ va_P (dC, dI) vwCl [(ph, .inr (0, [.int dd, .int rt, .int cl, .int rf, .int pr, .ref pn, .int gk, .int go, .int gc, .ref pg, .ref ps, .ref po, .ref pc, .ref pe, .ref p1, .ref p2, .ref pz])), (pn, .inl (tn, 1908, .inl An))] U.heap ∧ va_K (dC, dI) vwCl [(tn, .int)] U ∧ va_D (fun _ => True) [(ph, .inr (0, [.int dd, .int rt, .int cl, .int rf, .int pr, .ref pn, .int gk, .int go, .int gc, .ref pg, .ref ps, .ref po, .ref pc, .ref pe, .ref p1, .ref p2, .ref pz])), (pn, .inl (tn, 1908, .inl An))])) (va_Qv (fun (u : Int32 × Int32 × (Nat → Int32)) => u = out) (fun (u : Int32 × Int32 × (Nat → Int32)) t => match u with | (u_cl, u_rf, u_An) => va_P (dC, dI) vwCl [(ph, .inr (0, [.int dd, .int rt, .int u_cl, .int u_rf, .int pr, .ref pn, .int gk, .int go, .int gc, .ref pg, .ref ps, .ref po, .ref pc, .ref pe, .ref p1, .ref p2, .ref pz])), (pn, .inl (tn, 1908, .inl u_An))] t.heap ∧ va_K (dC, dI) vwCl [(tn, .int)] t ∧ va_D (va_A [(ph, .inr (0, [.int dd, .int rt, .int cl, .int rf, .int pr, .ref pn, .int gk, .int go, .int gc, .ref pg, .ref ps, .ref po, .ref pc, .ref pe, .ref p1, .ref p2, .ref pz])), (pn, .inl (tn, 1908, .inl An))] sz) [(ph, .inr (0, [.int dd, .int rt, .int u_cl, .int u_rf, .int pr, .ref pn, .int gk, .int go, .int gc, .ref pg, .ref ps, .ref po, .ref pc, .ref pe, .ref p1, .ref p2, .ref pz])), (pn, .inl (tn, 1908, .inl u_An))]) (va_A [(ph, .inr (0, [.int dd, .int rt, .int cl, .int rf, .int pr, .ref pn, .int gk, .int go, .int gc, .ref pg, .ref ps, .ref po, .ref pc, .ref pe, .ref p1, .ref p2, .ref pz])), (pn, .inl (tn, 1908, .inl An))] sz)) 0 0 (va_A [(ph, .inr (0, [.int dd, .int rt, .int cl, .int rf, .int pr, .ref pn, .int gk, .int go, .int gc, .ref pg, .ref ps, .ref po, .ref pc, .ref pe, .ref p1, .ref p2, .ref pz])), (pn, .inl (tn, 1908, .inl An))] sz) := by
  refine Met.ofW (cc := cX0_keepDefinite) (maxL := 4) (ret := none) (by decide +kernel) rfl ?_
  intro p e s m args below meth c s₁ B hml hv
  obtain ⟨rfl, hsz, hP, hK, hD0⟩ := hv
  have hx := B.exec
  have hb := B.bytes
  have hr := B.returns
  have hts := atoms_spec (ws := wsX0_keepDefinite) B.pre
  have hown : s.vm.findClass "ClassGroup" = some m.cls := findClass_of_methodNamed B.named
  have hlocks := B.notSynchronized
  subst hsz
  have hD := hD0.self (sz := s.heap.size)
  generalize hAe : va_A [(ph, .inr (0, [.int dd, .int rt, .int cl, .int rf, .int pr, .ref pn, .int gk, .int go, .int gc, .ref pg, .ref ps, .ref po, .ref pc, .ref pe, .ref p1, .ref p2, .ref pz])), (pn, .inl (tn, 1908, .inl An))] s.heap.size = A at hD ⊢
  have hA : ∀ q : Nat, s.heap.size ≤ q → A q := fun q h => by rw [← hAe]; exact Or.inr h
  have hS : va_S A s.heap s.heap [] := va_S.rf
  have hl := lv_entry ([.ref ph, .int x1, .int x2, .int x3]) (n := 4) (Nat.le_of_ble_eq_true rfl)
  rw [lg_entry_eq]
  generalize (lg_sl ([.ref ph, .int x1, .int x2, .int x3]) ++ List.replicate (4 - (lg_sl ([.ref ph, .int x1, .int x2, .int x3])).length) Slot.unset).toArray = ls at hl ⊢
  have hl : lv_has ls 4 [(0, .ref ph), (1, .int x1), (2, .int x2), (3, .int x3)] := hl
  unfold f_keepDef at hf
  refine lv_iload_n hx hb dX0_keepDefinite_0 rfl (lv_at hl 1 rfl) ?_
  refine lv_iload_n hx hb dX0_keepDefinite_1 rfl (lv_at hl 3 rfl) ?_
  refine lv_icmp_gt (tgt := 14) hx hb dX0_keepDefinite_2 (by decide) (fun c_2 => ?_) (fun c_2 => ?_)
  · have hf := ok_t c_2 hf
    have hP9 := hP.sub (ws' := [(ph, .inr (0, [.int dd, .int rt, .int cl, .int rf, .int pr, .ref pn, .int gk, .int go, .int gc, .ref pg, .ref ps, .ref po, .ref pc, .ref pe, .ref p1, .ref p2, .ref pz])), (pn, .inl (tn, 1908, .inl An))]) [0, 1] rfl
    have hD9 := hD.sub (ws' := [(ph, .inr (0, [.int dd, .int rt, .int cl, .int rf, .int pr, .ref pn, .int gk, .int go, .int gc, .ref pg, .ref ps, .ref po, .ref pc, .ref pe, .ref p1, .ref p2, .ref pz])), (pn, .inl (tn, 1908, .inl An))]) [0, 1] (by decide) rfl
    have hK9 := hK.sub (tys' := [(tn, .int)]) [0] rfl
    exact W.vret hx hb hr (fun t ht hW => ⟨⟨(cl, rf, An), rfl, (Option.some.inj hf), by rw [ht]; exact hP9, va_K.moved hW.alike hK9, hD9⟩, hS.F ht⟩) hS.2.2 dX0_keepDefinite_14
  · have hf := ok_f c_2 hf
    refine lv_iload_n hx hb dX0_keepDefinite_5 rfl (lv_at hl 1 rfl) ?_
    refine lv_iload_n hx hb dX0_keepDefinite_6 rfl (lv_at hl 2 rfl) ?_
    refine lv_iload_n hx hb dX0_keepDefinite_7 rfl (lv_at hl 3 rfl) ?_
    obtain ⟨xc8, hc8, hf⟩ := ok_b hf
    have hPc := hP.sub (ws' := []) [] rfl
    have hDc := hD.sub (ws' := []) [] (by decide) rfl
    have hKc := hK.sub (tys' := []) [] rfl
    have hFc := va_free (wc := []) hD hS hA [] rfl
    refine va_calli (va_runS (As := [.int x1, .int x2, .int x3]) (rest := []) ⟨hx, hb, hml, hown, hts⟩ (c_isPrim l dC dI x1 x2 x3 s.heap.size F xc8 hc8) (va_cwS 3 hts (gwS kw_78 kw_79 kw_1 kw_80) rfl rfl rfl (by decide +kernel) ⟨Nat.le_of_ble_eq_true rfl, Nat.le_of_ble_eq_true rfl⟩) ⟨fun a U g mk q => by obtain ⟨q0, q1, qP, qK, qD⟩ := q; exact ⟨q0, q1, qP, va_K.moved (u := U) (U := U.calling g mk a) (Vm.Alike.refl U.vm) qK, qD⟩, fun U hU hW => ⟨rfl, by rw [hU], by rw [hU]; exact hPc, va_K.moved hW.alike hKc, hDc.weaken (fun _ _ _ _ => trivial)⟩⟩ rfl rfl hl.1 rfl (lv_room (Nat.le_of_ble_eq_true rfl)) dX0_keepDefinite_8 ⟨Nat.zero_le _, Nat.zero_le _⟩) hS (fun q _ h => hFc q h) hFc (fun r_1 u t H1 locs ht hvm hw hB hz1 hk1 hS => ?_)
    obtain ⟨⟩ := u
    obtain ⟨hP1, hK1, hD1⟩ := hB
    rw [ht] at hP1
    subst hw
    obtain ⟨hP, hD⟩ := va_join (wr := [(ph, .inr (0, [.int dd, .int rt, .int cl, .int rf, .int pr, .ref pn, .int gk, .int go, .int gc, .ref pg, .ref ps, .ref po, .ref pc, .ref pe, .ref p1, .ref p2, .ref pz])), (pn, .inl (tn, 1908, .inl An))]) (w1 := []) hP hD [] [0, 1] rfl rfl (by decide) (by decide) hk1 hFc hP1 hD1
    generalize H1 = H at hP hS ⊢
    have hP : va_P (dC, dI) vwCl [(ph, .inr (0, [.int dd, .int rt, .int cl, .int rf, .int pr, .ref pn, .int gk, .int go, .int gc, .ref pg, .ref ps, .ref po, .ref pc, .ref pe, .ref p1, .ref p2, .ref pz])), (pn, .inl (tn, 1908, .inl An))] H := hP
    have hD : va_D A [(ph, .inr (0, [.int dd, .int rt, .int cl, .int rf, .int pr, .ref pn, .int gk, .int go, .int gc, .ref pg, .ref ps, .ref po, .ref pc, .ref pe, .ref p1, .ref p2, .ref pz])), (pn, .inl (tn, 1908, .inl An))] := hD
    refine lv_if_ne (tgt := 15) hx hb dX0_keepDefinite_11 (by decide) (fun c_11 => ?_) (fun c_11 => ?_)
    · have hf := ok_f c_11 hf
      refine lv_aload_n hx hb dX0_keepDefinite_15 rfl (lv_at hl 0 rfl) ?_
      refine lv_dup hx hb dX0_keepDefinite_16 rfl ?_
      refine va_get (D := (dC, dI)) (ci := 0) (v := .int rf) (C := "ClassGroup") (T := TX0) (N := 17) hx hb hts (fun w h => List.mem_cons_of_mem _ (iwX0 w h)) hown hK hP 0 rfl rfl 3 (by decide) (hts _ (List.mem_cons_of_mem _ kw_153)) (fun _ h9 => h9) rfl dX0_keepDefinite_17 ?_
      refine lv_iconst (v := 1) hx hb dX0_keepDefinite_20 (by decide) ?_
      refine lv_iadd hx hb dX0_keepDefinite_21 ?_
      refine lv_topi (fun f_reducedForms_2 ef_reducedForms_2 => ?_)
      replace hf := bnd_ok ef_reducedForms_2 hf
      refine va_put (D := (dC, dI)) (ci := 0) (v := .int f_reducedForms_2) (ty := .int) (C := "ClassGroup") (T := TX0) (N := 17) hx hb hts (fun w h => List.mem_cons_of_mem _ (iwX0 w h)) tyX0 tyokX0 nmX0 hown hK hP hD hS 0 rfl rfl 3 (by decide) (hts _ (List.mem_cons_of_mem _ kw_153)) (fun _ h9 => h9) rfl (by decide +kernel) rfl rfl (Nat.le_of_ble_eq_true rfl) dX0_keepDefinite_22 (fun H locs hP hD hS => ?_)
      have hP : va_P (dC, dI) vwCl [(ph, .inr (0, [.int dd, .int rt, .int cl, .int f_reducedForms_2, .int pr, .ref pn, .int gk, .int go, .int gc, .ref pg, .ref ps, .ref po, .ref pc, .ref pe, .ref p1, .ref p2, .ref pz])), (pn, .inl (tn, 1908, .inl An))] H := hP
      have hD : va_D A [(ph, .inr (0, [.int dd, .int rt, .int cl, .int f_reducedForms_2, .int pr, .ref pn, .int gk, .int go, .int gc, .ref pg, .ref ps, .ref po, .ref pc, .ref pe, .ref p1, .ref p2, .ref pz])), (pn, .inl (tn, 1908, .inl An))] := hD
      refine lv_aload_n hx hb dX0_keepDefinite_25 rfl (lv_at hl 0 rfl) ?_
      refine lv_iload_n hx hb dX0_keepDefinite_26 rfl (lv_at hl 1 rfl) ?_
      refine lv_iload_n hx hb dX0_keepDefinite_27 rfl (lv_at hl 2 rfl) ?_
      obtain ⟨xc28, hc28, hf⟩ := ok_b hf
      have hPc := hP.sub (ws' := [(ph, .inr (0, [.int dd, .int rt, .int cl, .int f_reducedForms_2, .int pr, .ref pn, .int gk, .int go, .int gc, .ref pg, .ref ps, .ref po, .ref pc, .ref pe, .ref p1, .ref p2, .ref pz])), (pn, .inl (tn, 1908, .inl An))]) [0, 1] rfl
      have hDc := hD.sub (ws' := [(ph, .inr (0, [.int dd, .int rt, .int cl, .int f_reducedForms_2, .int pr, .ref pn, .int gk, .int go, .int gc, .ref pg, .ref ps, .ref po, .ref pc, .ref pe, .ref p1, .ref p2, .ref pz])), (pn, .inl (tn, 1908, .inl An))]) [0, 1] (by decide) rfl
      have hKc := hK.sub (tys' := [(tn, .int)]) [0] rfl
      have hFc := va_free (wc := [(ph, .inr (0, [.int dd, .int rt, .int cl, .int f_reducedForms_2, .int pr, .ref pn, .int gk, .int go, .int gc, .ref pg, .ref ps, .ref po, .ref pc, .ref pe, .ref p1, .ref p2, .ref pz])), (pn, .inl (tn, 1908, .inl An))]) hD hS hA [0, 1] rfl
      refine va_callv (va_runV (As := [.int x1, .int x2]) (rest := []) ⟨hx, hb, hml, hown, hts⟩ (c_addName l dC dI ph dd rt cl f_reducedForms_2 pr pn gk go gc pg ps po pc pe p1 p2 pz tn An x1 x2 H.size F xc28 hc28) (cwV 2 hts (gwV kw_88 kw_90 ks_4 kw_1 kw_91) rfl rfl rfl (by decide +kernel) ⟨Nat.le_of_ble_eq_true rfl, Nat.le_of_ble_eq_true rfl⟩) ⟨fun a U g mk q => by obtain ⟨q0, q1, qP, qK, qD⟩ := q; exact ⟨q0, q1, qP, va_K.moved (u := U) (U := U.calling g mk a) (Vm.Alike.refl U.vm) qK, qD⟩, va_recv hKc hPc (ci := 0) (q0 := 0) rfl rfl, fun U hU hW => ⟨rfl, by rw [hU], by rw [hU]; exact hPc, va_K.moved hW.alike hKc, hDc.weaken (fun _ _ _ _ => trivial)⟩⟩ rfl rfl hl.1 rfl (lv_room (Nat.le_of_ble_eq_true rfl)) dX0_keepDefinite_28 ⟨Nat.zero_le _, Nat.zero_le _⟩) hS (fun q _ h => hFc q h) hFc (fun u t H1 locs ht hvm hw hB hz1 hk1 hS => ?_)
      obtain ⟨u_cl_3, u_An_4⟩ := u
      obtain ⟨hP1, hK1, hD1⟩ := hB
      rw [ht] at hP1
      subst hw
      obtain ⟨hP, hD⟩ := va_join (wr := []) (w1 := [(ph, .inr (0, [.int dd, .int rt, .int u_cl_3, .int f_reducedForms_2, .int pr, .ref pn, .int gk, .int go, .int gc, .ref pg, .ref ps, .ref po, .ref pc, .ref pe, .ref p1, .ref p2, .ref pz])), (pn, .inl (tn, 1908, .inl u_An_4))]) hP hD [0, 1] [] rfl rfl (by decide) (by decide) hk1 hFc hP1 hD1
      generalize H1 = H at hP hS ⊢
      have hP : va_P (dC, dI) vwCl [(ph, .inr (0, [.int dd, .int rt, .int u_cl_3, .int f_reducedForms_2, .int pr, .ref pn, .int gk, .int go, .int gc, .ref pg, .ref ps, .ref po, .ref pc, .ref pe, .ref p1, .ref p2, .ref pz])), (pn, .inl (tn, 1908, .inl u_An_4))] H := hP
      have hD : va_D A [(ph, .inr (0, [.int dd, .int rt, .int u_cl_3, .int f_reducedForms_2, .int pr, .ref pn, .int gk, .int go, .int gc, .ref pg, .ref ps, .ref po, .ref pc, .ref pe, .ref p1, .ref p2, .ref pz])), (pn, .inl (tn, 1908, .inl u_An_4))] := hD
      refine lv_iload_n hx hb dX0_keepDefinite_31 rfl (lv_at hl 2 rfl) ?_
      refine lv_if_le (tgt := 62) hx hb dX0_keepDefinite_32 (by decide) (fun c_32 => ?_) (fun c_32 => ?_)
      · have hf := ok_t c_32 hf
        have hP9 := hP.sub (ws' := [(ph, .inr (0, [.int dd, .int rt, .int u_cl_3, .int f_reducedForms_2, .int pr, .ref pn, .int gk, .int go, .int gc, .ref pg, .ref ps, .ref po, .ref pc, .ref pe, .ref p1, .ref p2, .ref pz])), (pn, .inl (tn, 1908, .inl u_An_4))]) [0, 1] rfl
        have hD9 := hD.sub (ws' := [(ph, .inr (0, [.int dd, .int rt, .int u_cl_3, .int f_reducedForms_2, .int pr, .ref pn, .int gk, .int go, .int gc, .ref pg, .ref ps, .ref po, .ref pc, .ref pe, .ref p1, .ref p2, .ref pz])), (pn, .inl (tn, 1908, .inl u_An_4))]) [0, 1] (by decide) rfl
        have hK9 := hK.sub (tys' := [(tn, .int)]) [0] rfl
        exact W.vret hx hb hr (fun t ht hW => ⟨⟨(u_cl_3, f_reducedForms_2, u_An_4), rfl, (Option.some.inj hf), by rw [ht]; exact hP9, va_K.moved hW.alike hK9, hD9⟩, hS.F ht⟩) hS.2.2 dX0_keepDefinite_62
      · have hf := ok_f c_32 hf
        refine lv_iload_n hx hb dX0_keepDefinite_35 rfl (lv_at hl 2 rfl) ?_
        refine lv_iload_n hx hb dX0_keepDefinite_36 rfl (lv_at hl 1 rfl) ?_
        refine lv_icmp_ge (tgt := 62) hx hb dX0_keepDefinite_37 (by decide) (fun c_37 => ?_) (fun c_37 => ?_)
        · have hf := ok_t c_37 hf
          have hP9 := hP.sub (ws' := [(ph, .inr (0, [.int dd, .int rt, .int u_cl_3, .int f_reducedForms_2, .int pr, .ref pn, .int gk, .int go, .int gc, .ref pg, .ref ps, .ref po, .ref pc, .ref pe, .ref p1, .ref p2, .ref pz])), (pn, .inl (tn, 1908, .inl u_An_4))]) [0, 1] rfl
          have hD9 := hD.sub (ws' := [(ph, .inr (0, [.int dd, .int rt, .int u_cl_3, .int f_reducedForms_2, .int pr, .ref pn, .int gk, .int go, .int gc, .ref pg, .ref ps, .ref po, .ref pc, .ref pe, .ref p1, .ref p2, .ref pz])), (pn, .inl (tn, 1908, .inl u_An_4))]) [0, 1] (by decide) rfl
          have hK9 := hK.sub (tys' := [(tn, .int)]) [0] rfl
          exact W.vret hx hb hr (fun t ht hW => ⟨⟨(u_cl_3, f_reducedForms_2, u_An_4), rfl, (Option.some.inj hf), by rw [ht]; exact hP9, va_K.moved hW.alike hK9, hD9⟩, hS.F ht⟩) hS.2.2 dX0_keepDefinite_62
        · have hf := ok_f c_37 hf
          refine lv_iload_n hx hb dX0_keepDefinite_40 rfl (lv_at hl 1 rfl) ?_
          refine lv_iload_n hx hb dX0_keepDefinite_41 rfl (lv_at hl 3 rfl) ?_
          refine lv_icmp_ge (tgt := 62) hx hb dX0_keepDefinite_42 (by decide) (fun c_42 => ?_) (fun c_42 => ?_)
          · have hf := ok_t c_42 hf
            have hP9 := hP.sub (ws' := [(ph, .inr (0, [.int dd, .int rt, .int u_cl_3, .int f_reducedForms_2, .int pr, .ref pn, .int gk, .int go, .int gc, .ref pg, .ref ps, .ref po, .ref pc, .ref pe, .ref p1, .ref p2, .ref pz])), (pn, .inl (tn, 1908, .inl u_An_4))]) [0, 1] rfl
            have hD9 := hD.sub (ws' := [(ph, .inr (0, [.int dd, .int rt, .int u_cl_3, .int f_reducedForms_2, .int pr, .ref pn, .int gk, .int go, .int gc, .ref pg, .ref ps, .ref po, .ref pc, .ref pe, .ref p1, .ref p2, .ref pz])), (pn, .inl (tn, 1908, .inl u_An_4))]) [0, 1] (by decide) rfl
            have hK9 := hK.sub (tys' := [(tn, .int)]) [0] rfl
            exact W.vret hx hb hr (fun t ht hW => ⟨⟨(u_cl_3, f_reducedForms_2, u_An_4), rfl, (Option.some.inj hf), by rw [ht]; exact hP9, va_K.moved hW.alike hK9, hD9⟩, hS.F ht⟩) hS.2.2 dX0_keepDefinite_62
          · have hf := ok_f c_42 hf
            refine lv_aload_n hx hb dX0_keepDefinite_45 rfl (lv_at hl 0 rfl) ?_
            refine lv_dup hx hb dX0_keepDefinite_46 rfl ?_
            refine va_get (D := (dC, dI)) (ci := 0) (v := .int f_reducedForms_2) (C := "ClassGroup") (T := TX0) (N := 17) hx hb hts (fun w h => List.mem_cons_of_mem _ (iwX0 w h)) hown hK hP 0 rfl rfl 3 (by decide) (hts _ (List.mem_cons_of_mem _ kw_153)) (fun _ h9 => h9) rfl dX0_keepDefinite_47 ?_
            refine lv_iconst (v := 1) hx hb dX0_keepDefinite_50 (by decide) ?_
            refine lv_iadd hx hb dX0_keepDefinite_51 ?_
            refine lv_topi (fun f_reducedForms_5 ef_reducedForms_5 => ?_)
            replace hf := bnd_ok ef_reducedForms_5 hf
            refine va_put (D := (dC, dI)) (ci := 0) (v := .int f_reducedForms_5) (ty := .int) (C := "ClassGroup") (T := TX0) (N := 17) hx hb hts (fun w h => List.mem_cons_of_mem _ (iwX0 w h)) tyX0 tyokX0 nmX0 hown hK hP hD hS 0 rfl rfl 3 (by decide) (hts _ (List.mem_cons_of_mem _ kw_153)) (fun _ h9 => h9) rfl (by decide +kernel) rfl rfl (Nat.le_of_ble_eq_true rfl) dX0_keepDefinite_52 (fun H locs hP hD hS => ?_)
            have hP : va_P (dC, dI) vwCl [(ph, .inr (0, [.int dd, .int rt, .int u_cl_3, .int f_reducedForms_5, .int pr, .ref pn, .int gk, .int go, .int gc, .ref pg, .ref ps, .ref po, .ref pc, .ref pe, .ref p1, .ref p2, .ref pz])), (pn, .inl (tn, 1908, .inl u_An_4))] H := hP
            have hD : va_D A [(ph, .inr (0, [.int dd, .int rt, .int u_cl_3, .int f_reducedForms_5, .int pr, .ref pn, .int gk, .int go, .int gc, .ref pg, .ref ps, .ref po, .ref pc, .ref pe, .ref p1, .ref p2, .ref pz])), (pn, .inl (tn, 1908, .inl u_An_4))] := hD
            refine lv_aload_n hx hb dX0_keepDefinite_55 rfl (lv_at hl 0 rfl) ?_
            refine lv_iload_n hx hb dX0_keepDefinite_56 rfl (lv_at hl 1 rfl) ?_
            refine lv_iload_n hx hb dX0_keepDefinite_57 rfl (lv_at hl 2 rfl) ?_
            refine lv_ineg hx hb dX0_keepDefinite_58 ?_
            obtain ⟨xc59, hc59, hf⟩ := ok_b hf
            have hPc := hP.sub (ws' := [(ph, .inr (0, [.int dd, .int rt, .int u_cl_3, .int f_reducedForms_5, .int pr, .ref pn, .int gk, .int go, .int gc, .ref pg, .ref ps, .ref po, .ref pc, .ref pe, .ref p1, .ref p2, .ref pz])), (pn, .inl (tn, 1908, .inl u_An_4))]) [0, 1] rfl
            have hDc := hD.sub (ws' := [(ph, .inr (0, [.int dd, .int rt, .int u_cl_3, .int f_reducedForms_5, .int pr, .ref pn, .int gk, .int go, .int gc, .ref pg, .ref ps, .ref po, .ref pc, .ref pe, .ref p1, .ref p2, .ref pz])), (pn, .inl (tn, 1908, .inl u_An_4))]) [0, 1] (by decide) rfl
            have hKc := hK.sub (tys' := [(tn, .int)]) [0] rfl
            have hFc := va_free (wc := [(ph, .inr (0, [.int dd, .int rt, .int u_cl_3, .int f_reducedForms_5, .int pr, .ref pn, .int gk, .int go, .int gc, .ref pg, .ref ps, .ref po, .ref pc, .ref pe, .ref p1, .ref p2, .ref pz])), (pn, .inl (tn, 1908, .inl u_An_4))]) hD hS hA [0, 1] rfl
            refine va_callv (va_runV (As := [.int x1, .int (-x2)]) (rest := []) ⟨hx, hb, hml, hown, hts⟩ (c_addName l dC dI ph dd rt u_cl_3 f_reducedForms_5 pr pn gk go gc pg ps po pc pe p1 p2 pz tn u_An_4 x1 (-x2) H.size F xc59 hc59) (cwV 2 hts (gwV kw_88 kw_90 ks_4 kw_1 kw_91) rfl rfl rfl (by decide +kernel) ⟨Nat.le_of_ble_eq_true rfl, Nat.le_of_ble_eq_true rfl⟩) ⟨fun a U g mk q => by obtain ⟨q0, q1, qP, qK, qD⟩ := q; exact ⟨q0, q1, qP, va_K.moved (u := U) (U := U.calling g mk a) (Vm.Alike.refl U.vm) qK, qD⟩, va_recv hKc hPc (ci := 0) (q0 := 0) rfl rfl, fun U hU hW => ⟨rfl, by rw [hU], by rw [hU]; exact hPc, va_K.moved hW.alike hKc, hDc.weaken (fun _ _ _ _ => trivial)⟩⟩ rfl rfl hl.1 rfl (lv_room (Nat.le_of_ble_eq_true rfl)) dX0_keepDefinite_59 ⟨Nat.zero_le _, Nat.zero_le _⟩) hS (fun q _ h => hFc q h) hFc (fun u t H1 locs ht hvm hw hB hz1 hk1 hS => ?_)
            obtain ⟨u_cl_6, u_An_7⟩ := u
            obtain ⟨hP1, hK1, hD1⟩ := hB
            rw [ht] at hP1
            subst hw
            obtain ⟨hP, hD⟩ := va_join (wr := []) (w1 := [(ph, .inr (0, [.int dd, .int rt, .int u_cl_6, .int f_reducedForms_5, .int pr, .ref pn, .int gk, .int go, .int gc, .ref pg, .ref ps, .ref po, .ref pc, .ref pe, .ref p1, .ref p2, .ref pz])), (pn, .inl (tn, 1908, .inl u_An_7))]) hP hD [0, 1] [] rfl rfl (by decide) (by decide) hk1 hFc hP1 hD1
            generalize H1 = H at hP hS ⊢
            have hP : va_P (dC, dI) vwCl [(ph, .inr (0, [.int dd, .int rt, .int u_cl_6, .int f_reducedForms_5, .int pr, .ref pn, .int gk, .int go, .int gc, .ref pg, .ref ps, .ref po, .ref pc, .ref pe, .ref p1, .ref p2, .ref pz])), (pn, .inl (tn, 1908, .inl u_An_7))] H := hP
            have hD : va_D A [(ph, .inr (0, [.int dd, .int rt, .int u_cl_6, .int f_reducedForms_5, .int pr, .ref pn, .int gk, .int go, .int gc, .ref pg, .ref ps, .ref po, .ref pc, .ref pe, .ref p1, .ref p2, .ref pz])), (pn, .inl (tn, 1908, .inl u_An_7))] := hD
            have hP9 := hP.sub (ws' := [(ph, .inr (0, [.int dd, .int rt, .int u_cl_6, .int f_reducedForms_5, .int pr, .ref pn, .int gk, .int go, .int gc, .ref pg, .ref ps, .ref po, .ref pc, .ref pe, .ref p1, .ref p2, .ref pz])), (pn, .inl (tn, 1908, .inl u_An_7))]) [0, 1] rfl
            have hD9 := hD.sub (ws' := [(ph, .inr (0, [.int dd, .int rt, .int u_cl_6, .int f_reducedForms_5, .int pr, .ref pn, .int gk, .int go, .int gc, .ref pg, .ref ps, .ref po, .ref pc, .ref pe, .ref p1, .ref p2, .ref pz])), (pn, .inl (tn, 1908, .inl u_An_7))]) [0, 1] (by decide) rfl
            have hK9 := hK.sub (tys' := [(tn, .int)]) [0] rfl
            exact W.vret hx hb hr (fun t ht hW => ⟨⟨(u_cl_6, f_reducedForms_5, u_An_7), rfl, (Option.some.inj hf), by rw [ht]; exact hP9, va_K.moved hW.alike hK9, hD9⟩, hS.F ht⟩) hS.2.2 dX0_keepDefinite_62
    · have hf := ok_t c_11 hf
      have hP9 := hP.sub (ws' := [(ph, .inr (0, [.int dd, .int rt, .int cl, .int rf, .int pr, .ref pn, .int gk, .int go, .int gc, .ref pg, .ref ps, .ref po, .ref pc, .ref pe, .ref p1, .ref p2, .ref pz])), (pn, .inl (tn, 1908, .inl An))]) [0, 1] rfl
      have hD9 := hD.sub (ws' := [(ph, .inr (0, [.int dd, .int rt, .int cl, .int rf, .int pr, .ref pn, .int gk, .int go, .int gc, .ref pg, .ref ps, .ref po, .ref pc, .ref pe, .ref p1, .ref p2, .ref pz])), (pn, .inl (tn, 1908, .inl An))]) [0, 1] (by decide) rfl
      have hK9 := hK.sub (tys' := [(tn, .int)]) [0] rfl
      exact W.vret hx hb hr (fun t ht hW => ⟨⟨(cl, rf, An), rfl, (Option.some.inj hf), by rw [ht]; exact hP9, va_K.moved hW.alike hK9, hD9⟩, hS.F ht⟩) hS.2.2 dX0_keepDefinite_14

def f_nameDef_L21 (F : Nat) (dd : Int32) (w1_1 : Int32) : Nat → Int32 → Int32 → Int32 → (Nat → Int32) → Option (Int32 × Int32 × (Nat → Int32))
  | 0, _, _, _, _ => none
  | n21 + 1, w2_6, m_cl_7, m_rf_8, m_An_9 => (if w1_1 < w2_6 then some (m_cl_7, m_rf_8, m_An_9) else bnd ((w2_6 * w2_6) - dd) (fun v3_10 => (if ¬ (4 * w1_1) = 0 then (if (v3_10 - v3_10 / (4 * w1_1) * (4 * w1_1)) = 0 then (if ¬ (4 * w1_1) = 0 then Option.bind (f_keepDef F m_cl_7 m_rf_8 m_An_9 w1_1 w2_6 (v3_10 / (4 * w1_1))) (fun (u_cl_12, u_rf_13, u_An_14) => bnd (w2_6 + 2) (fun v2_15 => f_nameDef_L21 F dd w1_1 n21 v2_15 u_cl_12 u_rf_13 u_An_14)) else none) else bnd (w2_6 + 2) (fun v2_11 => f_nameDef_L21 F dd w1_1 n21 v2_11 m_cl_7 m_rf_8 m_An_9)) else none)))
def f_nameDef_L2 (F : Nat) (dd : Int32) : Nat → Int32 → Int32 → Int32 → (Nat → Int32) → Option (Int32 × Int32 × (Nat → Int32))
  | 0, _, _, _, _ => none
  | n2 + 1, w1_1, m_cl_2, m_rf_3, m_An_4 => (if (-dd) < ((3 * w1_1) * w1_1) then some (m_cl_2, m_rf_3, m_An_4) else Option.bind (f_likeD F dd 0) (fun r_5 => Option.bind (f_nameDef_L21 F dd w1_1 F r_5 m_cl_2 m_rf_3 m_An_4) (fun (y_cl_16, y_rf_17, y_An_18) => bnd (w1_1 + 1) (fun v1_19 => f_nameDef_L2 F dd n2 v1_19 y_cl_16 y_rf_17 y_An_18))))
def f_nameDef (F : Nat) (dd : Int32) (cl : Int32) (rf : Int32) (An : Nat → Int32) : Option (Int32 × Int32 × (Nat → Int32)) := Option.bind (f_nameDef_L2 F dd F 1 cl rf An) (fun (y_cl_20, y_rf_21, y_An_22) => some (y_cl_20, y_rf_21, y_An_22))
set_option maxHeartbeats 4000000 in
set_option maxRecDepth 100000 in
theorem c_nameDef (l : Launch) (dC : Nat → ClassId) (dI : Nat → Nat → Nat) (ph : Nat) (dd : Int32) (rt : Int32) (cl : Int32) (rf : Int32) (pr : Int32) (pn : Nat) (gk : Int32) (go : Int32) (gc : Int32) (pg : Nat) (ps : Nat) (po : Nat) (pc : Nat) (pe : Nat) (p1 : Nat) (p2 : Nat) (pz : Nat) (tn : ClassId) (An : Nat → Int32) (sz : Nat) (F : Nat) (out : Int32 × Int32 × (Nat → Int32)) (hf : f_nameDef F dd cl rf An = some out) : Met l yX0_nameDefinite wsX0_nameDefinite ({ frames := 4, cells := 0, slots := 0, locals := 90 }) (va_Pc [.ref ph] (fun U => U.heap.size = sz ∧ va_P (dC, dI) vwCl [(ph, .inr (0, [.int dd, .int rt, .int cl, .int rf, .int pr, .ref pn, .int gk, .int go, .int gc, .ref pg, .ref ps, .ref po, .ref pc, .ref pe, .ref p1, .ref p2, .ref pz])), (pn, .inl (tn, 1908, .inl An))] U.heap ∧ va_K (dC, dI) vwCl [(tn, .int)] U ∧ va_D (fun _ => True) [(ph, .inr (0, [.int dd, .int rt, .int cl, .int rf, .int pr, .ref pn, .int gk, .int go, .int gc, .ref pg, .ref ps, .ref po, .ref pc, .ref pe, .ref p1, .ref p2, .ref pz])), (pn, .inl (tn, 1908, .inl An))])) (va_Qv (fun (u : Int32 × Int32 × (Nat → Int32)) => u = out) (fun (u : Int32 × Int32 × (Nat → Int32)) t => match u with | (u_cl, u_rf, u_An) => va_P (dC, dI) vwCl [(ph, .inr (0, [.int dd, .int rt, .int u_cl, .int u_rf, .int pr, .ref pn, .int gk, .int go, .int gc, .ref pg, .ref ps, .ref po, .ref pc, .ref pe, .ref p1, .ref p2, .ref pz])), (pn, .inl (tn, 1908, .inl u_An))] t.heap ∧ va_K (dC, dI) vwCl [(tn, .int)] t ∧ va_D (va_A [(ph, .inr (0, [.int dd, .int rt, .int cl, .int rf, .int pr, .ref pn, .int gk, .int go, .int gc, .ref pg, .ref ps, .ref po, .ref pc, .ref pe, .ref p1, .ref p2, .ref pz])), (pn, .inl (tn, 1908, .inl An))] sz) [(ph, .inr (0, [.int dd, .int rt, .int u_cl, .int u_rf, .int pr, .ref pn, .int gk, .int go, .int gc, .ref pg, .ref ps, .ref po, .ref pc, .ref pe, .ref p1, .ref p2, .ref pz])), (pn, .inl (tn, 1908, .inl u_An))]) (va_A [(ph, .inr (0, [.int dd, .int rt, .int cl, .int rf, .int pr, .ref pn, .int gk, .int go, .int gc, .ref pg, .ref ps, .ref po, .ref pc, .ref pe, .ref p1, .ref p2, .ref pz])), (pn, .inl (tn, 1908, .inl An))] sz)) 0 0 (va_A [(ph, .inr (0, [.int dd, .int rt, .int cl, .int rf, .int pr, .ref pn, .int gk, .int go, .int gc, .ref pg, .ref ps, .ref po, .ref pc, .ref pe, .ref p1, .ref p2, .ref pz])), (pn, .inl (tn, 1908, .inl An))] sz) := by
  refine Met.ofW (cc := cX0_nameDefinite) (maxL := 4) (ret := none) (by decide +kernel) rfl ?_
  intro p e s m args below meth c s₁ B hml hv
  obtain ⟨rfl, hsz, hP, hK, hD0⟩ := hv
  have hx := B.exec
  have hb := B.bytes
  have hr := B.returns
  have hts := atoms_spec (ws := wsX0_nameDefinite) B.pre
  have hown : s.vm.findClass "ClassGroup" = some m.cls := findClass_of_methodNamed B.named
  have hlocks := B.notSynchronized
  subst hsz
  have hD := hD0.self (sz := s.heap.size)
  generalize hAe : va_A [(ph, .inr (0, [.int dd, .int rt, .int cl, .int rf, .int pr, .ref pn, .int gk, .int go, .int gc, .ref pg, .ref ps, .ref po, .ref pc, .ref pe, .ref p1, .ref p2, .ref pz])), (pn, .inl (tn, 1908, .inl An))] s.heap.size = A at hD ⊢
  have hA : ∀ q : Nat, s.heap.size ≤ q → A q := fun q h => by rw [← hAe]; exact Or.inr h
  have hS : va_S A s.heap s.heap [] := va_S.rf
  have hl := lv_entry ([.ref ph]) (n := 4) (Nat.le_of_ble_eq_true rfl)
  rw [lg_entry_eq]
  generalize (lg_sl ([.ref ph]) ++ List.replicate (4 - (lg_sl ([.ref ph])).length) Slot.unset).toArray = ls at hl ⊢
  have hl : lv_has ls 4 [(0, .ref ph)] := hl
  unfold f_nameDef at hf
  refine lv_iconst (v := 1) hx hb dX0_nameDefinite_0 (by decide) ?_
  refine lv_istore_n (lv' := [(1, .int 1), (0, .ref ph)]) hx hb dX0_nameDefinite_1 rfl hl (by decide) rfl (fun ls hl => ?_)
  have hL2 : ∀ (n2 : Nat) (w1_1 : Int32) (m_cl_2 : Int32) (m_rf_3 : Int32) (m_An_4 : Nat → Int32) (res : Int32 × Int32 × (Nat → Int32)) (H : Heap) (locs : List Loc) (ls : Array Slot) (Q : State → Prop), f_nameDef_L2 F dd n2 w1_1 m_cl_2 m_rf_3 m_An_4 = some res → va_P (dC, dI) vwCl [(ph, .inr (0, [.int dd, .int rt, .int m_cl_2, .int m_rf_3, .int pr, .ref pn, .int gk, .int go, .int gc, .ref pg, .ref ps, .ref po, .ref pc, .ref pe, .ref p1, .ref p2, .ref pz])), (pn, .inl (tn, 1908, .inl m_An_4))] H → va_D A [(ph, .inr (0, [.int dd, .int rt, .int m_cl_2, .int m_rf_3, .int pr, .ref pn, .int gk, .int go, .int gc, .ref pg, .ref ps, .ref po, .ref pc, .ref pe, .ref p1, .ref p2, .ref pz])), (pn, .inl (tn, 1908, .inl m_An_4))] → va_S A s.heap H locs → lv_has ls 4 [(0, .ref ph), (1, .int w1_1)] → (∀ (y_cl_20 : Int32) (y_rf_21 : Int32) (y_An_22 : Nat → Int32) (H : Heap) (locs : List Loc) (ls : Array Slot), (y_cl_20, y_rf_21, y_An_22) = res → va_P (dC, dI) vwCl [(ph, .inr (0, [.int dd, .int rt, .int y_cl_20, .int y_rf_21, .int pr, .ref pn, .int gk, .int go, .int gc, .ref pg, .ref ps, .ref po, .ref pc, .ref pe, .ref p1, .ref p2, .ref pz])), (pn, .inl (tn, 1908, .inl y_An_22))] H → va_D A [(ph, .inr (0, [.int dd, .int rt, .int y_cl_20, .int y_rf_21, .int pr, .ref pn, .int gk, .int go, .int gc, .ref pg, .ref ps, .ref po, .ref pc, .ref pe, .ref p1, .ref p2, .ref pz])), (pn, .inl (tn, 1908, .inl y_An_22))] → va_S A s.heap H locs → lv_has ls 4 [] → W p l e ((headSpec wsX0_nameDefinite ({ frames := 4, cells := 0, slots := 0, locals := 90 })).room) s m ([.ref ph] : List Value).toArray below meth c H locs 0 0 Q (F0 m 66 ls [])) → W p l e ((headSpec wsX0_nameDefinite ({ frames := 4, cells := 0, slots := 0, locals := 90 })).room) s m ([.ref ph] : List Value).toArray below meth c H locs 0 0 Q (F0 m 2 ls []) := by
    intro n2
    induction n2 with
    | zero => intro w1_1 m_cl_2 m_rf_3 m_An_4 res H locs ls Q hf; simp [f_nameDef_L2] at hf
    | succ n2 ih2 =>
      intro w1_1 m_cl_2 m_rf_3 m_An_4 res H locs ls Q hf hP hD hS hl k2_0
      rw [f_nameDef_L2] at hf
      refine lv_iconst (v := 3) hx hb dX0_nameDefinite_2 (by decide) ?_
      refine lv_iload_n hx hb dX0_nameDefinite_3 rfl (lv_at hl 1 rfl) ?_
      refine lv_imul hx hb dX0_nameDefinite_4 ?_
      refine lv_iload_n hx hb dX0_nameDefinite_5 rfl (lv_at hl 1 rfl) ?_
      refine lv_imul hx hb dX0_nameDefinite_6 ?_
      refine lv_aload_n hx hb dX0_nameDefinite_7 rfl (lv_at hl 0 rfl) ?_
      refine va_get (D := (dC, dI)) (ci := 0) (v := .int dd) (C := "ClassGroup") (T := TX0) (N := 17) hx hb hts (fun w h => List.mem_cons_of_mem _ (iwX0 w h)) hown hK hP 0 rfl rfl 0 (by decide) (hts _ (List.mem_cons_of_mem _ kw_150)) (fun _ h9 => h9) rfl dX0_nameDefinite_8 ?_
      refine lv_ineg hx hb dX0_nameDefinite_11 ?_
      refine lv_icmp_gt (tgt := 66) hx hb dX0_nameDefinite_12 (by decide) (fun c_12 => ?_) (fun c_12 => ?_)
      · have hf := ok_t c_12 hf
        exact k2_0 m_cl_2 m_rf_3 m_An_4 _ _ _ (Option.some.inj hf) (hP.sub [0, 1] rfl) (hD.sub [0, 1] (by decide) rfl) hS (lv_sub hl [] rfl)
      · have hf := ok_f c_12 hf
        refine lv_aload_n hx hb dX0_nameDefinite_15 rfl (lv_at hl 0 rfl) ?_
        refine lv_iconst (v := 0) hx hb dX0_nameDefinite_16 (by decide) ?_
        obtain ⟨xc17, hc17, hf⟩ := ok_b hf
        have hPc := hP.sub (ws' := [(ph, .inr (0, [.int dd, .int rt, .int m_cl_2, .int m_rf_3, .int pr, .ref pn, .int gk, .int go, .int gc, .ref pg, .ref ps, .ref po, .ref pc, .ref pe, .ref p1, .ref p2, .ref pz]))]) [0] rfl
        have hDc := hD.sub (ws' := [(ph, .inr (0, [.int dd, .int rt, .int m_cl_2, .int m_rf_3, .int pr, .ref pn, .int gk, .int go, .int gc, .ref pg, .ref ps, .ref po, .ref pc, .ref pe, .ref p1, .ref p2, .ref pz]))]) [0] (by decide) rfl
        have hKc := hK.sub (tys' := []) [] rfl
        have hFc := va_free (wc := [(ph, .inr (0, [.int dd, .int rt, .int m_cl_2, .int m_rf_3, .int pr, .ref pn, .int gk, .int go, .int gc, .ref pg, .ref ps, .ref po, .ref pc, .ref pe, .ref p1, .ref p2, .ref pz]))]) hD hS hA [0] rfl
        refine va_calli (va_runV (As := [.int 0]) (rest := []) ⟨hx, hb, hml, hown, hts⟩ (c_likeD l dC dI ph dd rt m_cl_2 m_rf_3 pr pn gk go gc pg ps po pc pe p1 p2 pz 0 H.size F xc17 hc17) (cwV 1 hts (gwV kw_70 kw_72 ks_2 kw_1 kw_73) rfl rfl rfl (by decide +kernel) ⟨Nat.le_of_ble_eq_true rfl, Nat.le_of_ble_eq_true rfl⟩) ⟨fun a U g mk q => by obtain ⟨q0, q1, qP, qK, qD⟩ := q; exact ⟨q0, q1, qP, va_K.moved (u := U) (U := U.calling g mk a) (Vm.Alike.refl U.vm) qK, qD⟩, va_recv hKc hPc (ci := 0) (q0 := 0) rfl rfl, fun U hU hW => ⟨rfl, by rw [hU], by rw [hU]; exact hPc, va_K.moved hW.alike hKc, hDc.weaken (fun _ _ _ _ => trivial)⟩⟩ rfl rfl hl.1 rfl (lv_room (Nat.le_of_ble_eq_true rfl)) dX0_nameDefinite_17 ⟨Nat.zero_le _, Nat.zero_le _⟩) hS (fun q _ h => hFc q h) hFc (fun r_5 u t H1 locs ht hvm hw hB hz1 hk1 hS => ?_)
        obtain ⟨⟩ := u
        obtain ⟨hP1, hK1, hD1⟩ := hB
        rw [ht] at hP1
        subst hw
        obtain ⟨hP, hD⟩ := va_join (wr := [(pn, .inl (tn, 1908, .inl m_An_4))]) (w1 := [(ph, .inr (0, [.int dd, .int rt, .int m_cl_2, .int m_rf_3, .int pr, .ref pn, .int gk, .int go, .int gc, .ref pg, .ref ps, .ref po, .ref pc, .ref pe, .ref p1, .ref p2, .ref pz]))]) hP hD [0] [1] rfl rfl (by decide) (by decide) hk1 hFc hP1 hD1
        generalize H1 = H at hP hS ⊢
        have hP : va_P (dC, dI) vwCl [(pn, .inl (tn, 1908, .inl m_An_4)), (ph, .inr (0, [.int dd, .int rt, .int m_cl_2, .int m_rf_3, .int pr, .ref pn, .int gk, .int go, .int gc, .ref pg, .ref ps, .ref po, .ref pc, .ref pe, .ref p1, .ref p2, .ref pz]))] H := hP
        have hD : va_D A [(pn, .inl (tn, 1908, .inl m_An_4)), (ph, .inr (0, [.int dd, .int rt, .int m_cl_2, .int m_rf_3, .int pr, .ref pn, .int gk, .int go, .int gc, .ref pg, .ref ps, .ref po, .ref pc, .ref pe, .ref p1, .ref p2, .ref pz]))] := hD
        refine lv_istore_n (lv' := [(2, .int r_5), (0, .ref ph), (1, .int w1_1)]) hx hb dX0_nameDefinite_20 rfl hl (by decide) rfl (fun ls hl => ?_)
        have hL21 : ∀ (n21 : Nat) (w2_6 : Int32) (m_cl_7 : Int32) (m_rf_8 : Int32) (m_An_9 : Nat → Int32) (res : Int32 × Int32 × (Nat → Int32)) (H : Heap) (locs : List Loc) (ls : Array Slot) (Q : State → Prop), f_nameDef_L21 F dd w1_1 n21 w2_6 m_cl_7 m_rf_8 m_An_9 = some res → va_P (dC, dI) vwCl [(ph, .inr (0, [.int dd, .int rt, .int m_cl_7, .int m_rf_8, .int pr, .ref pn, .int gk, .int go, .int gc, .ref pg, .ref ps, .ref po, .ref pc, .ref pe, .ref p1, .ref p2, .ref pz])), (pn, .inl (tn, 1908, .inl m_An_9))] H → va_D A [(ph, .inr (0, [.int dd, .int rt, .int m_cl_7, .int m_rf_8, .int pr, .ref pn, .int gk, .int go, .int gc, .ref pg, .ref ps, .ref po, .ref pc, .ref pe, .ref p1, .ref p2, .ref pz])), (pn, .inl (tn, 1908, .inl m_An_9))] → va_S A s.heap H locs → lv_has ls 4 [(0, .ref ph), (1, .int w1_1), (2, .int w2_6)] → (∀ (y_cl_16 : Int32) (y_rf_17 : Int32) (y_An_18 : Nat → Int32) (H : Heap) (locs : List Loc) (ls : Array Slot), (y_cl_16, y_rf_17, y_An_18) = res → va_P (dC, dI) vwCl [(ph, .inr (0, [.int dd, .int rt, .int y_cl_16, .int y_rf_17, .int pr, .ref pn, .int gk, .int go, .int gc, .ref pg, .ref ps, .ref po, .ref pc, .ref pe, .ref p1, .ref p2, .ref pz])), (pn, .inl (tn, 1908, .inl y_An_18))] H → va_D A [(ph, .inr (0, [.int dd, .int rt, .int y_cl_16, .int y_rf_17, .int pr, .ref pn, .int gk, .int go, .int gc, .ref pg, .ref ps, .ref po, .ref pc, .ref pe, .ref p1, .ref p2, .ref pz])), (pn, .inl (tn, 1908, .inl y_An_18))] → va_S A s.heap H locs → lv_has ls 4 [(0, .ref ph), (1, .int w1_1)] → W p l e ((headSpec wsX0_nameDefinite ({ frames := 4, cells := 0, slots := 0, locals := 90 })).room) s m ([.ref ph] : List Value).toArray below meth c H locs 0 0 Q (F0 m 60 ls [])) → W p l e ((headSpec wsX0_nameDefinite ({ frames := 4, cells := 0, slots := 0, locals := 90 })).room) s m ([.ref ph] : List Value).toArray below meth c H locs 0 0 Q (F0 m 21 ls []) := by
          intro n21
          induction n21 with
          | zero => intro w2_6 m_cl_7 m_rf_8 m_An_9 res H locs ls Q hf; simp [f_nameDef_L21] at hf
          | succ n21 ih21 =>
            intro w2_6 m_cl_7 m_rf_8 m_An_9 res H locs ls Q hf hP hD hS hl k21_0
            rw [f_nameDef_L21] at hf
            refine lv_iload_n hx hb dX0_nameDefinite_21 rfl (lv_at hl 2 rfl) ?_
            refine lv_iload_n hx hb dX0_nameDefinite_22 rfl (lv_at hl 1 rfl) ?_
            refine lv_icmp_gt (tgt := 60) hx hb dX0_nameDefinite_23 (by decide) (fun c_23 => ?_) (fun c_23 => ?_)
            · have hf := ok_t c_23 hf
              exact k21_0 m_cl_7 m_rf_8 m_An_9 _ _ _ (Option.some.inj hf) (hP.sub [0, 1] rfl) (hD.sub [0, 1] (by decide) rfl) hS (lv_sub hl [0, 1] rfl)
            · have hf := ok_f c_23 hf
              refine lv_iload_n hx hb dX0_nameDefinite_26 rfl (lv_at hl 2 rfl) ?_
              refine lv_iload_n hx hb dX0_nameDefinite_27 rfl (lv_at hl 2 rfl) ?_
              refine lv_imul hx hb dX0_nameDefinite_28 ?_
              refine lv_aload_n hx hb dX0_nameDefinite_29 rfl (lv_at hl 0 rfl) ?_
              refine va_get (D := (dC, dI)) (ci := 0) (v := .int dd) (C := "ClassGroup") (T := TX0) (N := 17) hx hb hts (fun w h => List.mem_cons_of_mem _ (iwX0 w h)) hown hK hP 0 rfl rfl 0 (by decide) (hts _ (List.mem_cons_of_mem _ kw_150)) (fun _ h9 => h9) rfl dX0_nameDefinite_30 ?_
              refine lv_isub hx hb dX0_nameDefinite_33 ?_
              refine lv_topi (fun v3_10 ev3_10 => ?_)
              replace hf := bnd_ok ev3_10 hf
              refine lv_istore_n (lv' := [(3, .int v3_10), (0, .ref ph), (1, .int w1_1), (2, .int w2_6)]) hx hb dX0_nameDefinite_34 rfl hl (by decide) rfl (fun ls hl => ?_)
              refine lv_iload_n hx hb dX0_nameDefinite_35 rfl (lv_at hl 0 rfl) ?_
              refine lv_iconst (v := 4) hx hb dX0_nameDefinite_36 (by decide) ?_
              refine lv_iload_n hx hb dX0_nameDefinite_37 rfl (lv_at hl 2 rfl) ?_
              refine lv_imul hx hb dX0_nameDefinite_38 ?_
              obtain ⟨g_39, hf⟩ := ok_g hf
              refine lv_irem hx hb dX0_nameDefinite_39 g_39 ?_
              refine lv_if_ne (tgt := 54) hx hb dX0_nameDefinite_40 (by decide) (fun c_40 => ?_) (fun c_40 => ?_)
              · have hf := ok_f c_40 hf
                obtain ⟨v2_11, ev2_11⟩ : ∃ y : Int32, y = w2_6 + 2 := ⟨_, rfl⟩
                replace hf := bnd_ok ev2_11 hf
                refine lv_iinc (v := v2_11) (lv' := [(2, .int v2_11), (3, .int v3_10), (0, .ref ph), (1, .int w1_1)]) hx hb dX0_nameDefinite_54 hl (k := 3) rfl (by rw [ev2_11]; rfl) (by decide) rfl (fun ls hl => ?_)
                refine lv_goto (tgt := 21) hx hb dX0_nameDefinite_57 (by decide) ?_
                exact ih21 v2_11 m_cl_7 m_rf_8 m_An_9 _ _ _ _ _ hf (hP.sub [0, 1] rfl) (hD.sub [0, 1] (by decide) rfl) hS (lv_sub hl [2, 3, 0] rfl) k21_0
              · have hf := ok_t c_40 hf
                refine lv_aload_n hx hb dX0_nameDefinite_43 rfl (lv_at hl 1 rfl) ?_
                refine lv_iload_n hx hb dX0_nameDefinite_44 rfl (lv_at hl 2 rfl) ?_
                refine lv_iload_n hx hb dX0_nameDefinite_45 rfl (lv_at hl 3 rfl) ?_
                refine lv_iload_n hx hb dX0_nameDefinite_46 rfl (lv_at hl 0 rfl) ?_
                refine lv_iconst (v := 4) hx hb dX0_nameDefinite_47 (by decide) ?_
                refine lv_iload_n hx hb dX0_nameDefinite_48 rfl (lv_at hl 2 rfl) ?_
                refine lv_imul hx hb dX0_nameDefinite_49 ?_
                obtain ⟨g_50, hf⟩ := ok_g hf
                refine lv_idiv hx hb dX0_nameDefinite_50 g_50 ?_
                obtain ⟨xc51, hc51, hf⟩ := ok_b hf
                have hPc := hP.sub (ws' := [(ph, .inr (0, [.int dd, .int rt, .int m_cl_7, .int m_rf_8, .int pr, .ref pn, .int gk, .int go, .int gc, .ref pg, .ref ps, .ref po, .ref pc, .ref pe, .ref p1, .ref p2, .ref pz])), (pn, .inl (tn, 1908, .inl m_An_9))]) [0, 1] rfl
                have hDc := hD.sub (ws' := [(ph, .inr (0, [.int dd, .int rt, .int m_cl_7, .int m_rf_8, .int pr, .ref pn, .int gk, .int go, .int gc, .ref pg, .ref ps, .ref po, .ref pc, .ref pe, .ref p1, .ref p2, .ref pz])), (pn, .inl (tn, 1908, .inl m_An_9))]) [0, 1] (by decide) rfl
                have hKc := hK.sub (tys' := [(tn, .int)]) [0] rfl
                have hFc := va_free (wc := [(ph, .inr (0, [.int dd, .int rt, .int m_cl_7, .int m_rf_8, .int pr, .ref pn, .int gk, .int go, .int gc, .ref pg, .ref ps, .ref po, .ref pc, .ref pe, .ref p1, .ref p2, .ref pz])), (pn, .inl (tn, 1908, .inl m_An_9))]) hD hS hA [0, 1] rfl
                refine va_callv (va_runV (As := [.int w1_1, .int w2_6, .int (v3_10 / (4 * w1_1))]) (rest := []) ⟨hx, hb, hml, hown, hts⟩ (c_keepDef l dC dI ph dd rt m_cl_7 m_rf_8 pr pn gk go gc pg ps po pc pe p1 p2 pz tn m_An_9 w1_1 w2_6 (v3_10 / (4 * w1_1)) H.size F xc51 hc51) (cwV 3 hts (gwV kw_74 kw_76 ks_3 kw_1 kw_77) rfl rfl rfl (by decide +kernel) ⟨Nat.le_of_ble_eq_true rfl, Nat.le_of_ble_eq_true rfl⟩) ⟨fun a U g mk q => by obtain ⟨q0, q1, qP, qK, qD⟩ := q; exact ⟨q0, q1, qP, va_K.moved (u := U) (U := U.calling g mk a) (Vm.Alike.refl U.vm) qK, qD⟩, va_recv hKc hPc (ci := 0) (q0 := 0) rfl rfl, fun U hU hW => ⟨rfl, by rw [hU], by rw [hU]; exact hPc, va_K.moved hW.alike hKc, hDc.weaken (fun _ _ _ _ => trivial)⟩⟩ rfl rfl hl.1 rfl (lv_room (Nat.le_of_ble_eq_true rfl)) dX0_nameDefinite_51 ⟨Nat.zero_le _, Nat.zero_le _⟩) hS (fun q _ h => hFc q h) hFc (fun u t H1 locs ht hvm hw hB hz1 hk1 hS => ?_)
                obtain ⟨u_cl_12, u_rf_13, u_An_14⟩ := u
                obtain ⟨hP1, hK1, hD1⟩ := hB
                rw [ht] at hP1
                subst hw
                obtain ⟨hP, hD⟩ := va_join (wr := []) (w1 := [(ph, .inr (0, [.int dd, .int rt, .int u_cl_12, .int u_rf_13, .int pr, .ref pn, .int gk, .int go, .int gc, .ref pg, .ref ps, .ref po, .ref pc, .ref pe, .ref p1, .ref p2, .ref pz])), (pn, .inl (tn, 1908, .inl u_An_14))]) hP hD [0, 1] [] rfl rfl (by decide) (by decide) hk1 hFc hP1 hD1
                generalize H1 = H at hP hS ⊢
                have hP : va_P (dC, dI) vwCl [(ph, .inr (0, [.int dd, .int rt, .int u_cl_12, .int u_rf_13, .int pr, .ref pn, .int gk, .int go, .int gc, .ref pg, .ref ps, .ref po, .ref pc, .ref pe, .ref p1, .ref p2, .ref pz])), (pn, .inl (tn, 1908, .inl u_An_14))] H := hP
                have hD : va_D A [(ph, .inr (0, [.int dd, .int rt, .int u_cl_12, .int u_rf_13, .int pr, .ref pn, .int gk, .int go, .int gc, .ref pg, .ref ps, .ref po, .ref pc, .ref pe, .ref p1, .ref p2, .ref pz])), (pn, .inl (tn, 1908, .inl u_An_14))] := hD
                obtain ⟨v2_15, ev2_15⟩ : ∃ y : Int32, y = w2_6 + 2 := ⟨_, rfl⟩
                replace hf := bnd_ok ev2_15 hf
                refine lv_iinc (v := v2_15) (lv' := [(2, .int v2_15), (3, .int v3_10), (0, .ref ph), (1, .int w1_1)]) hx hb dX0_nameDefinite_54 hl (k := 3) rfl (by rw [ev2_15]; rfl) (by decide) rfl (fun ls hl => ?_)
                refine lv_goto (tgt := 21) hx hb dX0_nameDefinite_57 (by decide) ?_
                exact ih21 v2_15 u_cl_12 u_rf_13 u_An_14 _ _ _ _ _ hf (hP.sub [0, 1] rfl) (hD.sub [0, 1] (by decide) rfl) hS (lv_sub hl [2, 3, 0] rfl) k21_0
        obtain ⟨res21, hL21_r, hf⟩ := ok_b hf
        refine hL21 F r_5 m_cl_2 m_rf_3 m_An_4 res21 _ _ _ _ hL21_r (hP.sub [1, 0] rfl) (hD.sub [1, 0] (by decide) rfl) hS (lv_sub hl [1, 2, 0] rfl) (fun y_cl_16 y_rf_17 y_An_18 H locs ls hres hP hD hS hl => ?_)
        subst hres
        obtain ⟨v1_19, ev1_19⟩ : ∃ y : Int32, y = w1_1 + 1 := ⟨_, rfl⟩
        replace hf := bnd_ok ev1_19 hf
        refine lv_iinc (v := v1_19) (lv' := [(1, .int v1_19), (0, .ref ph)]) hx hb dX0_nameDefinite_60 hl (k := 1) rfl (by rw [ev1_19]; rfl) (by decide) rfl (fun ls hl => ?_)
        refine lv_goto (tgt := 2) hx hb dX0_nameDefinite_63 (by decide) ?_
        exact ih2 v1_19 y_cl_16 y_rf_17 y_An_18 _ _ _ _ _ hf (hP.sub [0, 1] rfl) (hD.sub [0, 1] (by decide) rfl) hS (lv_sub hl [1, 0] rfl) k2_0
  obtain ⟨res2, hL2_r, hf⟩ := ok_b hf
  refine hL2 F 1 cl rf An res2 _ _ _ _ hL2_r (hP.sub [0, 1] rfl) (hD.sub [0, 1] (by decide) rfl) hS (lv_sub hl [1, 0] rfl) (fun y_cl_20 y_rf_21 y_An_22 H locs ls hres hP hD hS hl => ?_)
  subst hres
  have hP9 := hP.sub (ws' := [(ph, .inr (0, [.int dd, .int rt, .int y_cl_20, .int y_rf_21, .int pr, .ref pn, .int gk, .int go, .int gc, .ref pg, .ref ps, .ref po, .ref pc, .ref pe, .ref p1, .ref p2, .ref pz])), (pn, .inl (tn, 1908, .inl y_An_22))]) [0, 1] rfl
  have hD9 := hD.sub (ws' := [(ph, .inr (0, [.int dd, .int rt, .int y_cl_20, .int y_rf_21, .int pr, .ref pn, .int gk, .int go, .int gc, .ref pg, .ref ps, .ref po, .ref pc, .ref pe, .ref p1, .ref p2, .ref pz])), (pn, .inl (tn, 1908, .inl y_An_22))]) [0, 1] (by decide) rfl
  have hK9 := hK.sub (tys' := [(tn, .int)]) [0] rfl
  exact W.vret hx hb hr (fun t ht hW => ⟨⟨(y_cl_20, y_rf_21, y_An_22), rfl, (Option.some.inj hf), by rw [ht]; exact hP9, va_K.moved hW.alike hK9, hD9⟩, hS.F ht⟩) hS.2.2 dX0_nameDefinite_66

def f_addLeast (F : Nat) (dd : Int32) (rt : Int32) (cl : Int32) (An : Nat → Int32) (a1 : Int64) (b1 : Int64) (c1 : Int64) (x1 : Int32) (x2 : Int32) (x3 : Int32) : Option (Int32 × (Nat → Int32) × Int64 × Int64 × Int64) := Option.bind (f_Form_set F ((x1).toInt64) ((x2).toInt64) ((x3).toInt64)) (fun (u_a1_1, u_b1_2, u_c1_3) => Option.bind (f_isLeast F dd rt u_a1_1 u_b1_2 u_c1_3) (fun (r_4, u_a1_5, u_b1_6, u_c1_7) => (if r_4 = 0 then some (cl, An, u_a1_5, u_b1_6, u_c1_7) else Option.bind (f_addName F cl An x1 x2) (fun (u_cl_8, u_An_9) => some (u_cl_8, u_An_9, u_a1_5, u_b1_6, u_c1_7)))))
set_option maxHeartbeats 4000000 in
set_option maxRecDepth 100000 in
theorem c_addLeast (l : Launch) (dC : Nat → ClassId) (dI : Nat → Nat → Nat) (ph : Nat) (dd : Int32) (rt : Int32) (cl : Int32) (rf : Int32) (pr : Int32) (pn : Nat) (gk : Int32) (go : Int32) (gc : Int32) (pg : Nat) (ps : Nat) (po : Nat) (pc : Nat) (pe : Nat) (p1 : Nat) (p2 : Nat) (pz : Nat) (tn : ClassId) (An : Nat → Int32) (a1 : Int64) (b1 : Int64) (c1 : Int64) (x1 : Int32) (x2 : Int32) (x3 : Int32) (sz : Nat) (F : Nat) (out : Int32 × (Nat → Int32) × Int64 × Int64 × Int64) (hf : f_addLeast F dd rt cl An a1 b1 c1 x1 x2 x3 = some out) : Met l yX0_addNameIfLeast wsX0_addNameIfLeast ({ frames := 3, cells := 0, slots := 0, locals := 77 }) (va_Pc [.ref ph, .int x1, .int x2, .int x3] (fun U => U.heap.size = sz ∧ va_P (dC, dI) vwCl [(ph, .inr (0, [.int dd, .int rt, .int cl, .int rf, .int pr, .ref pn, .int gk, .int go, .int gc, .ref pg, .ref ps, .ref po, .ref pc, .ref pe, .ref p1, .ref p2, .ref pz])), (pn, .inl (tn, 1908, .inl An)), (p1, .inr (1, [.long a1, .long b1, .long c1]))] U.heap ∧ va_K (dC, dI) vwCl [(tn, .int)] U ∧ va_D (fun _ => True) [(ph, .inr (0, [.int dd, .int rt, .int cl, .int rf, .int pr, .ref pn, .int gk, .int go, .int gc, .ref pg, .ref ps, .ref po, .ref pc, .ref pe, .ref p1, .ref p2, .ref pz])), (pn, .inl (tn, 1908, .inl An)), (p1, .inr (1, [.long a1, .long b1, .long c1]))])) (va_Qv (fun (u : Int32 × (Nat → Int32) × Int64 × Int64 × Int64) => u = out) (fun (u : Int32 × (Nat → Int32) × Int64 × Int64 × Int64) t => match u with | (u_cl, u_An, u_a1, u_b1, u_c1) => va_P (dC, dI) vwCl [(ph, .inr (0, [.int dd, .int rt, .int u_cl, .int rf, .int pr, .ref pn, .int gk, .int go, .int gc, .ref pg, .ref ps, .ref po, .ref pc, .ref pe, .ref p1, .ref p2, .ref pz])), (pn, .inl (tn, 1908, .inl u_An)), (p1, .inr (1, [.long u_a1, .long u_b1, .long u_c1]))] t.heap ∧ va_K (dC, dI) vwCl [(tn, .int)] t ∧ va_D (va_A [(ph, .inr (0, [.int dd, .int rt, .int cl, .int rf, .int pr, .ref pn, .int gk, .int go, .int gc, .ref pg, .ref ps, .ref po, .ref pc, .ref pe, .ref p1, .ref p2, .ref pz])), (pn, .inl (tn, 1908, .inl An)), (p1, .inr (1, [.long a1, .long b1, .long c1]))] sz) [(ph, .inr (0, [.int dd, .int rt, .int u_cl, .int rf, .int pr, .ref pn, .int gk, .int go, .int gc, .ref pg, .ref ps, .ref po, .ref pc, .ref pe, .ref p1, .ref p2, .ref pz])), (pn, .inl (tn, 1908, .inl u_An)), (p1, .inr (1, [.long u_a1, .long u_b1, .long u_c1]))]) (va_A [(ph, .inr (0, [.int dd, .int rt, .int cl, .int rf, .int pr, .ref pn, .int gk, .int go, .int gc, .ref pg, .ref ps, .ref po, .ref pc, .ref pe, .ref p1, .ref p2, .ref pz])), (pn, .inl (tn, 1908, .inl An)), (p1, .inr (1, [.long a1, .long b1, .long c1]))] sz)) 0 0 (va_A [(ph, .inr (0, [.int dd, .int rt, .int cl, .int rf, .int pr, .ref pn, .int gk, .int go, .int gc, .ref pg, .ref ps, .ref po, .ref pc, .ref pe, .ref p1, .ref p2, .ref pz])), (pn, .inl (tn, 1908, .inl An)), (p1, .inr (1, [.long a1, .long b1, .long c1]))] sz) := by
  refine Met.ofW (cc := cX0_addNameIfLeast) (maxL := 4) (ret := none) (by decide +kernel) rfl ?_
  intro p e s m args below meth c s₁ B hml hv
  obtain ⟨rfl, hsz, hP, hK, hD0⟩ := hv
  have hx := B.exec
  have hb := B.bytes
  have hr := B.returns
  have hts := atoms_spec (ws := wsX0_addNameIfLeast) B.pre
  have hown : s.vm.findClass "ClassGroup" = some m.cls := findClass_of_methodNamed B.named
  have hlocks := B.notSynchronized
  subst hsz
  have hD := hD0.self (sz := s.heap.size)
  generalize hAe : va_A [(ph, .inr (0, [.int dd, .int rt, .int cl, .int rf, .int pr, .ref pn, .int gk, .int go, .int gc, .ref pg, .ref ps, .ref po, .ref pc, .ref pe, .ref p1, .ref p2, .ref pz])), (pn, .inl (tn, 1908, .inl An)), (p1, .inr (1, [.long a1, .long b1, .long c1]))] s.heap.size = A at hD ⊢
  have hA : ∀ q : Nat, s.heap.size ≤ q → A q := fun q h => by rw [← hAe]; exact Or.inr h
  have hS : va_S A s.heap s.heap [] := va_S.rf
  have hl := lv_entry ([.ref ph, .int x1, .int x2, .int x3]) (n := 4) (Nat.le_of_ble_eq_true rfl)
  rw [lg_entry_eq]
  generalize (lg_sl ([.ref ph, .int x1, .int x2, .int x3]) ++ List.replicate (4 - (lg_sl ([.ref ph, .int x1, .int x2, .int x3])).length) Slot.unset).toArray = ls at hl ⊢
  have hl : lv_has ls 4 [(0, .ref ph), (1, .int x1), (2, .int x2), (3, .int x3)] := hl
  unfold f_addLeast at hf
  refine lv_aload_n hx hb dX0_addNameIfLeast_0 rfl (lv_at hl 0 rfl) ?_
  refine va_get (D := (dC, dI)) (ci := 0) (v := .ref p1) (C := "ClassGroup") (T := TX0) (N := 17) hx hb hts (fun w h => List.mem_cons_of_mem _ (iwX0 w h)) hown hK hP 0 rfl rfl 14 (by decide) (hts _ (List.mem_cons_of_mem _ kw_164)) (fun _ h9 => h9) rfl dX0_addNameIfLeast_1 ?_
  refine lv_iload_n hx hb dX0_addNameIfLeast_4 rfl (lv_at hl 1 rfl) ?_
  refine lv_i2l (v := (x1).toInt64) hx hb dX0_addNameIfLeast_5 rfl ?_
  refine lv_iload_n hx hb dX0_addNameIfLeast_6 rfl (lv_at hl 2 rfl) ?_
  refine lv_i2l (v := (x2).toInt64) hx hb dX0_addNameIfLeast_7 rfl ?_
  refine lv_iload_n hx hb dX0_addNameIfLeast_8 rfl (lv_at hl 3 rfl) ?_
  refine lv_i2l (v := (x3).toInt64) hx hb dX0_addNameIfLeast_9 rfl ?_
  obtain ⟨xc10, hc10, hf⟩ := ok_b hf
  have hPc := hP.sub (ws' := [(p1, .inr (1, [.long a1, .long b1, .long c1]))]) [2] rfl
  have hDc := hD.sub (ws' := [(p1, .inr (1, [.long a1, .long b1, .long c1]))]) [2] (by decide) rfl
  have hKc := hK.sub (tys' := []) [] rfl
  have hFc := va_free (wc := [(p1, .inr (1, [.long a1, .long b1, .long c1]))]) hD hS hA [2] rfl
  refine va_callv (va_runV (As := [.long (x1).toInt64, .long (x2).toInt64, .long (x3).toInt64]) (rest := []) ⟨hx, hb, hml, hown, hts⟩ (c_Form_set l dC dI p1 a1 b1 c1 ((x1).toInt64) ((x2).toInt64) ((x3).toInt64) s.heap.size F xc10 hc10) (cwV 3 hts (gwV kw_104 kw_105 kw_106 kw_2 kw_107) rfl rfl rfl (by decide +kernel) ⟨Nat.le_of_ble_eq_true rfl, Nat.le_of_ble_eq_true rfl⟩) ⟨fun a U g mk q => by obtain ⟨q0, q1, qP, qK, qD⟩ := q; exact ⟨q0, q1, qP, va_K.moved (u := U) (U := U.calling g mk a) (Vm.Alike.refl U.vm) qK, qD⟩, va_recv hKc hPc (ci := 1) (q0 := 0) rfl rfl, fun U hU hW => ⟨rfl, by rw [hU], by rw [hU]; exact hPc, va_K.moved hW.alike hKc, hDc.weaken (fun _ _ _ _ => trivial)⟩⟩ rfl rfl hl.1 rfl (lv_room (Nat.le_of_ble_eq_true rfl)) dX0_addNameIfLeast_10 ⟨Nat.zero_le _, Nat.zero_le _⟩) hS (fun q _ h => hFc q h) hFc (fun u t H1 locs ht hvm hw hB hz1 hk1 hS => ?_)
  obtain ⟨u_a1_1, u_b1_2, u_c1_3⟩ := u
  obtain ⟨hP1, hK1, hD1⟩ := hB
  rw [ht] at hP1
  subst hw
  obtain ⟨hP, hD⟩ := va_join (wr := [(ph, .inr (0, [.int dd, .int rt, .int cl, .int rf, .int pr, .ref pn, .int gk, .int go, .int gc, .ref pg, .ref ps, .ref po, .ref pc, .ref pe, .ref p1, .ref p2, .ref pz])), (pn, .inl (tn, 1908, .inl An))]) (w1 := [(p1, .inr (1, [.long u_a1_1, .long u_b1_2, .long u_c1_3]))]) hP hD [2] [0, 1] rfl rfl (by decide) (by decide) hk1 hFc hP1 hD1
  generalize H1 = H at hP hS ⊢
  have hP : va_P (dC, dI) vwCl [(ph, .inr (0, [.int dd, .int rt, .int cl, .int rf, .int pr, .ref pn, .int gk, .int go, .int gc, .ref pg, .ref ps, .ref po, .ref pc, .ref pe, .ref p1, .ref p2, .ref pz])), (pn, .inl (tn, 1908, .inl An)), (p1, .inr (1, [.long u_a1_1, .long u_b1_2, .long u_c1_3]))] H := hP
  have hD : va_D A [(ph, .inr (0, [.int dd, .int rt, .int cl, .int rf, .int pr, .ref pn, .int gk, .int go, .int gc, .ref pg, .ref ps, .ref po, .ref pc, .ref pe, .ref p1, .ref p2, .ref pz])), (pn, .inl (tn, 1908, .inl An)), (p1, .inr (1, [.long u_a1_1, .long u_b1_2, .long u_c1_3]))] := hD
  refine lv_aload_n hx hb dX0_addNameIfLeast_13 rfl (lv_at hl 0 rfl) ?_
  refine lv_aload_n hx hb dX0_addNameIfLeast_14 rfl (lv_at hl 0 rfl) ?_
  refine va_get (D := (dC, dI)) (ci := 0) (v := .ref p1) (C := "ClassGroup") (T := TX0) (N := 17) hx hb hts (fun w h => List.mem_cons_of_mem _ (iwX0 w h)) hown hK hP 0 rfl rfl 14 (by decide) (hts _ (List.mem_cons_of_mem _ kw_164)) (fun _ h9 => h9) rfl dX0_addNameIfLeast_15 ?_
  obtain ⟨xc18, hc18, hf⟩ := ok_b hf
  have hPc := hP.sub (ws' := [(ph, .inr (0, [.int dd, .int rt, .int cl, .int rf, .int pr, .ref pn, .int gk, .int go, .int gc, .ref pg, .ref ps, .ref po, .ref pc, .ref pe, .ref p1, .ref p2, .ref pz])), (p1, .inr (1, [.long u_a1_1, .long u_b1_2, .long u_c1_3]))]) [0, 2] rfl
  have hDc := hD.sub (ws' := [(ph, .inr (0, [.int dd, .int rt, .int cl, .int rf, .int pr, .ref pn, .int gk, .int go, .int gc, .ref pg, .ref ps, .ref po, .ref pc, .ref pe, .ref p1, .ref p2, .ref pz])), (p1, .inr (1, [.long u_a1_1, .long u_b1_2, .long u_c1_3]))]) [0, 2] (by decide) rfl
  have hKc := hK.sub (tys' := []) [] rfl
  have hFc := va_free (wc := [(ph, .inr (0, [.int dd, .int rt, .int cl, .int rf, .int pr, .ref pn, .int gk, .int go, .int gc, .ref pg, .ref ps, .ref po, .ref pc, .ref pe, .ref p1, .ref p2, .ref pz])), (p1, .inr (1, [.long u_a1_1, .long u_b1_2, .long u_c1_3]))]) hD hS hA [0, 2] rfl
  refine va_calli (va_runV (As := [.ref p1]) (rest := []) ⟨hx, hb, hml, hown, hts⟩ (c_isLeast l dC dI ph dd rt cl rf pr pn gk go gc pg ps po pc pe p1 p2 pz p1 u_a1_1 u_b1_2 u_c1_3 H.size F xc18 hc18) (cwV 1 hts (gwV kw_108 kw_110 ks_8 kw_1 kw_111) rfl rfl rfl (by decide +kernel) ⟨Nat.le_of_ble_eq_true rfl, Nat.le_of_ble_eq_true rfl⟩) ⟨fun a U g mk q => by obtain ⟨q0, q1, qP, qK, qD⟩ := q; exact ⟨q0, q1, qP, va_K.moved (u := U) (U := U.calling g mk a) (Vm.Alike.refl U.vm) qK, qD⟩, va_recv hKc hPc (ci := 0) (q0 := 0) rfl rfl, fun U hU hW => ⟨rfl, by rw [hU], by rw [hU]; exact hPc, va_K.moved hW.alike hKc, hDc.weaken (fun _ _ _ _ => trivial)⟩⟩ rfl rfl hl.1 rfl (lv_room (Nat.le_of_ble_eq_true rfl)) dX0_addNameIfLeast_18 ⟨Nat.zero_le _, Nat.zero_le _⟩) hS (fun q _ h => hFc q h) hFc (fun r_4 u t H1 locs ht hvm hw hB hz1 hk1 hS => ?_)
  obtain ⟨u_a1_5, u_b1_6, u_c1_7⟩ := u
  obtain ⟨hP1, hK1, hD1⟩ := hB
  rw [ht] at hP1
  subst hw
  obtain ⟨hP, hD⟩ := va_join (wr := [(pn, .inl (tn, 1908, .inl An))]) (w1 := [(ph, .inr (0, [.int dd, .int rt, .int cl, .int rf, .int pr, .ref pn, .int gk, .int go, .int gc, .ref pg, .ref ps, .ref po, .ref pc, .ref pe, .ref p1, .ref p2, .ref pz])), (p1, .inr (1, [.long u_a1_5, .long u_b1_6, .long u_c1_7]))]) hP hD [0, 2] [1] rfl rfl (by decide) (by decide) hk1 hFc hP1 hD1
  generalize H1 = H at hP hS ⊢
  have hP : va_P (dC, dI) vwCl [(pn, .inl (tn, 1908, .inl An)), (ph, .inr (0, [.int dd, .int rt, .int cl, .int rf, .int pr, .ref pn, .int gk, .int go, .int gc, .ref pg, .ref ps, .ref po, .ref pc, .ref pe, .ref p1, .ref p2, .ref pz])), (p1, .inr (1, [.long u_a1_5, .long u_b1_6, .long u_c1_7]))] H := hP
  have hD : va_D A [(pn, .inl (tn, 1908, .inl An)), (ph, .inr (0, [.int dd, .int rt, .int cl, .int rf, .int pr, .ref pn, .int gk, .int go, .int gc, .ref pg, .ref ps, .ref po, .ref pc, .ref pe, .ref p1, .ref p2, .ref pz])), (p1, .inr (1, [.long u_a1_5, .long u_b1_6, .long u_c1_7]))] := hD
  refine lv_if_eq (tgt := 30) hx hb dX0_addNameIfLeast_21 (by decide) (fun c_21 => ?_) (fun c_21 => ?_)
  · have hf := ok_t c_21 hf
    have hP9 := hP.sub (ws' := [(ph, .inr (0, [.int dd, .int rt, .int cl, .int rf, .int pr, .ref pn, .int gk, .int go, .int gc, .ref pg, .ref ps, .ref po, .ref pc, .ref pe, .ref p1, .ref p2, .ref pz])), (pn, .inl (tn, 1908, .inl An)), (p1, .inr (1, [.long u_a1_5, .long u_b1_6, .long u_c1_7]))]) [1, 0, 2] rfl
    have hD9 := hD.sub (ws' := [(ph, .inr (0, [.int dd, .int rt, .int cl, .int rf, .int pr, .ref pn, .int gk, .int go, .int gc, .ref pg, .ref ps, .ref po, .ref pc, .ref pe, .ref p1, .ref p2, .ref pz])), (pn, .inl (tn, 1908, .inl An)), (p1, .inr (1, [.long u_a1_5, .long u_b1_6, .long u_c1_7]))]) [1, 0, 2] (by decide) rfl
    have hK9 := hK.sub (tys' := [(tn, .int)]) [0] rfl
    exact W.vret hx hb hr (fun t ht hW => ⟨⟨(cl, An, u_a1_5, u_b1_6, u_c1_7), rfl, (Option.some.inj hf), by rw [ht]; exact hP9, va_K.moved hW.alike hK9, hD9⟩, hS.F ht⟩) hS.2.2 dX0_addNameIfLeast_30
  · have hf := ok_f c_21 hf
    refine lv_aload_n hx hb dX0_addNameIfLeast_24 rfl (lv_at hl 0 rfl) ?_
    refine lv_iload_n hx hb dX0_addNameIfLeast_25 rfl (lv_at hl 1 rfl) ?_
    refine lv_iload_n hx hb dX0_addNameIfLeast_26 rfl (lv_at hl 2 rfl) ?_
    obtain ⟨xc27, hc27, hf⟩ := ok_b hf
    have hPc := hP.sub (ws' := [(ph, .inr (0, [.int dd, .int rt, .int cl, .int rf, .int pr, .ref pn, .int gk, .int go, .int gc, .ref pg, .ref ps, .ref po, .ref pc, .ref pe, .ref p1, .ref p2, .ref pz])), (pn, .inl (tn, 1908, .inl An))]) [1, 0] rfl
    have hDc := hD.sub (ws' := [(ph, .inr (0, [.int dd, .int rt, .int cl, .int rf, .int pr, .ref pn, .int gk, .int go, .int gc, .ref pg, .ref ps, .ref po, .ref pc, .ref pe, .ref p1, .ref p2, .ref pz])), (pn, .inl (tn, 1908, .inl An))]) [1, 0] (by decide) rfl
    have hKc := hK.sub (tys' := [(tn, .int)]) [0] rfl
    have hFc := va_free (wc := [(ph, .inr (0, [.int dd, .int rt, .int cl, .int rf, .int pr, .ref pn, .int gk, .int go, .int gc, .ref pg, .ref ps, .ref po, .ref pc, .ref pe, .ref p1, .ref p2, .ref pz])), (pn, .inl (tn, 1908, .inl An))]) hD hS hA [1, 0] rfl
    refine va_callv (va_runV (As := [.int x1, .int x2]) (rest := []) ⟨hx, hb, hml, hown, hts⟩ (c_addName l dC dI ph dd rt cl rf pr pn gk go gc pg ps po pc pe p1 p2 pz tn An x1 x2 H.size F xc27 hc27) (cwV 2 hts (gwV kw_88 kw_90 ks_4 kw_1 kw_91) rfl rfl rfl (by decide +kernel) ⟨Nat.le_of_ble_eq_true rfl, Nat.le_of_ble_eq_true rfl⟩) ⟨fun a U g mk q => by obtain ⟨q0, q1, qP, qK, qD⟩ := q; exact ⟨q0, q1, qP, va_K.moved (u := U) (U := U.calling g mk a) (Vm.Alike.refl U.vm) qK, qD⟩, va_recv hKc hPc (ci := 0) (q0 := 0) rfl rfl, fun U hU hW => ⟨rfl, by rw [hU], by rw [hU]; exact hPc, va_K.moved hW.alike hKc, hDc.weaken (fun _ _ _ _ => trivial)⟩⟩ rfl rfl hl.1 rfl (lv_room (Nat.le_of_ble_eq_true rfl)) dX0_addNameIfLeast_27 ⟨Nat.zero_le _, Nat.zero_le _⟩) hS (fun q _ h => hFc q h) hFc (fun u t H1 locs ht hvm hw hB hz1 hk1 hS => ?_)
    obtain ⟨u_cl_8, u_An_9⟩ := u
    obtain ⟨hP1, hK1, hD1⟩ := hB
    rw [ht] at hP1
    subst hw
    obtain ⟨hP, hD⟩ := va_join (wr := [(p1, .inr (1, [.long u_a1_5, .long u_b1_6, .long u_c1_7]))]) (w1 := [(ph, .inr (0, [.int dd, .int rt, .int u_cl_8, .int rf, .int pr, .ref pn, .int gk, .int go, .int gc, .ref pg, .ref ps, .ref po, .ref pc, .ref pe, .ref p1, .ref p2, .ref pz])), (pn, .inl (tn, 1908, .inl u_An_9))]) hP hD [1, 0] [2] rfl rfl (by decide) (by decide) hk1 hFc hP1 hD1
    generalize H1 = H at hP hS ⊢
    have hP : va_P (dC, dI) vwCl [(p1, .inr (1, [.long u_a1_5, .long u_b1_6, .long u_c1_7])), (ph, .inr (0, [.int dd, .int rt, .int u_cl_8, .int rf, .int pr, .ref pn, .int gk, .int go, .int gc, .ref pg, .ref ps, .ref po, .ref pc, .ref pe, .ref p1, .ref p2, .ref pz])), (pn, .inl (tn, 1908, .inl u_An_9))] H := hP
    have hD : va_D A [(p1, .inr (1, [.long u_a1_5, .long u_b1_6, .long u_c1_7])), (ph, .inr (0, [.int dd, .int rt, .int u_cl_8, .int rf, .int pr, .ref pn, .int gk, .int go, .int gc, .ref pg, .ref ps, .ref po, .ref pc, .ref pe, .ref p1, .ref p2, .ref pz])), (pn, .inl (tn, 1908, .inl u_An_9))] := hD
    have hP9 := hP.sub (ws' := [(ph, .inr (0, [.int dd, .int rt, .int u_cl_8, .int rf, .int pr, .ref pn, .int gk, .int go, .int gc, .ref pg, .ref ps, .ref po, .ref pc, .ref pe, .ref p1, .ref p2, .ref pz])), (pn, .inl (tn, 1908, .inl u_An_9)), (p1, .inr (1, [.long u_a1_5, .long u_b1_6, .long u_c1_7]))]) [1, 2, 0] rfl
    have hD9 := hD.sub (ws' := [(ph, .inr (0, [.int dd, .int rt, .int u_cl_8, .int rf, .int pr, .ref pn, .int gk, .int go, .int gc, .ref pg, .ref ps, .ref po, .ref pc, .ref pe, .ref p1, .ref p2, .ref pz])), (pn, .inl (tn, 1908, .inl u_An_9)), (p1, .inr (1, [.long u_a1_5, .long u_b1_6, .long u_c1_7]))]) [1, 2, 0] (by decide) rfl
    have hK9 := hK.sub (tys' := [(tn, .int)]) [0] rfl
    exact W.vret hx hb hr (fun t ht hW => ⟨⟨(u_cl_8, u_An_9, u_a1_5, u_b1_6, u_c1_7), rfl, (Option.some.inj hf), by rw [ht]; exact hP9, va_K.moved hW.alike hK9, hD9⟩, hS.F ht⟩) hS.2.2 dX0_addNameIfLeast_30

def f_keepInd (F : Nat) (dd : Int32) (rt : Int32) (cl : Int32) (rf : Int32) (An : Nat → Int32) (a1 : Int64) (b1 : Int64) (c1 : Int64) (x1 : Int32) (x2 : Int32) (x3 : Int32) : Option (Int32 × Int32 × (Nat → Int32) × Int64 × Int64 × Int64) := Option.bind (f_isPrim F x1 x2 x3) (fun r_1 => (if r_1 = 0 then some (cl, rf, An, a1, b1, c1) else bnd (rf + 2) (fun f_reducedForms_2 => Option.bind (f_addLeast F dd rt cl An a1 b1 c1 (-x1) x2 x3) (fun (u_cl_3, u_An_4, u_a1_5, u_b1_6, u_c1_7) => (if x3 ≤ x1 then some (u_cl_3, f_reducedForms_2, u_An_4, u_a1_5, u_b1_6, u_c1_7) else bnd (f_reducedForms_2 + 2) (fun f_reducedForms_8 => Option.bind (f_addLeast F dd rt u_cl_3 u_An_4 u_a1_5 u_b1_6 u_c1_7 (-x3) x2 x1) (fun (u_cl_9, u_An_10, u_a1_11, u_b1_12, u_c1_13) => some (u_cl_9, f_reducedForms_8, u_An_10, u_a1_11, u_b1_12, u_c1_13))))))))
set_option maxHeartbeats 4000000 in
set_option maxRecDepth 100000 in
theorem c_keepInd (l : Launch) (dC : Nat → ClassId) (dI : Nat → Nat → Nat) (ph : Nat) (dd : Int32) (rt : Int32) (cl : Int32) (rf : Int32) (pr : Int32) (pn : Nat) (gk : Int32) (go : Int32) (gc : Int32) (pg : Nat) (ps : Nat) (po : Nat) (pc : Nat) (pe : Nat) (p1 : Nat) (p2 : Nat) (pz : Nat) (tn : ClassId) (An : Nat → Int32) (a1 : Int64) (b1 : Int64) (c1 : Int64) (x1 : Int32) (x2 : Int32) (x3 : Int32) (sz : Nat) (F : Nat) (out : Int32 × Int32 × (Nat → Int32) × Int64 × Int64 × Int64) (hf : f_keepInd F dd rt cl rf An a1 b1 c1 x1 x2 x3 = some out) : Met l yX0_keepIndefinite wsX0_keepIndefinite ({ frames := 4, cells := 0, slots := 0, locals := 100 }) (va_Pc [.ref ph, .int x1, .int x2, .int x3] (fun U => U.heap.size = sz ∧ va_P (dC, dI) vwCl [(ph, .inr (0, [.int dd, .int rt, .int cl, .int rf, .int pr, .ref pn, .int gk, .int go, .int gc, .ref pg, .ref ps, .ref po, .ref pc, .ref pe, .ref p1, .ref p2, .ref pz])), (pn, .inl (tn, 1908, .inl An)), (p1, .inr (1, [.long a1, .long b1, .long c1]))] U.heap ∧ va_K (dC, dI) vwCl [(tn, .int)] U ∧ va_D (fun _ => True) [(ph, .inr (0, [.int dd, .int rt, .int cl, .int rf, .int pr, .ref pn, .int gk, .int go, .int gc, .ref pg, .ref ps, .ref po, .ref pc, .ref pe, .ref p1, .ref p2, .ref pz])), (pn, .inl (tn, 1908, .inl An)), (p1, .inr (1, [.long a1, .long b1, .long c1]))])) (va_Qv (fun (u : Int32 × Int32 × (Nat → Int32) × Int64 × Int64 × Int64) => u = out) (fun (u : Int32 × Int32 × (Nat → Int32) × Int64 × Int64 × Int64) t => match u with | (u_cl, u_rf, u_An, u_a1, u_b1, u_c1) => va_P (dC, dI) vwCl [(ph, .inr (0, [.int dd, .int rt, .int u_cl, .int u_rf, .int pr, .ref pn, .int gk, .int go, .int gc, .ref pg, .ref ps, .ref po, .ref pc, .ref pe, .ref p1, .ref p2, .ref pz])), (pn, .inl (tn, 1908, .inl u_An)), (p1, .inr (1, [.long u_a1, .long u_b1, .long u_c1]))] t.heap ∧ va_K (dC, dI) vwCl [(tn, .int)] t ∧ va_D (va_A [(ph, .inr (0, [.int dd, .int rt, .int cl, .int rf, .int pr, .ref pn, .int gk, .int go, .int gc, .ref pg, .ref ps, .ref po, .ref pc, .ref pe, .ref p1, .ref p2, .ref pz])), (pn, .inl (tn, 1908, .inl An)), (p1, .inr (1, [.long a1, .long b1, .long c1]))] sz) [(ph, .inr (0, [.int dd, .int rt, .int u_cl, .int u_rf, .int pr, .ref pn, .int gk, .int go, .int gc, .ref pg, .ref ps, .ref po, .ref pc, .ref pe, .ref p1, .ref p2, .ref pz])), (pn, .inl (tn, 1908, .inl u_An)), (p1, .inr (1, [.long u_a1, .long u_b1, .long u_c1]))]) (va_A [(ph, .inr (0, [.int dd, .int rt, .int cl, .int rf, .int pr, .ref pn, .int gk, .int go, .int gc, .ref pg, .ref ps, .ref po, .ref pc, .ref pe, .ref p1, .ref p2, .ref pz])), (pn, .inl (tn, 1908, .inl An)), (p1, .inr (1, [.long a1, .long b1, .long c1]))] sz)) 0 0 (va_A [(ph, .inr (0, [.int dd, .int rt, .int cl, .int rf, .int pr, .ref pn, .int gk, .int go, .int gc, .ref pg, .ref ps, .ref po, .ref pc, .ref pe, .ref p1, .ref p2, .ref pz])), (pn, .inl (tn, 1908, .inl An)), (p1, .inr (1, [.long a1, .long b1, .long c1]))] sz) := by
  refine Met.ofW (cc := cX0_keepIndefinite) (maxL := 4) (ret := none) (by decide +kernel) rfl ?_
  intro p e s m args below meth c s₁ B hml hv
  obtain ⟨rfl, hsz, hP, hK, hD0⟩ := hv
  have hx := B.exec
  have hb := B.bytes
  have hr := B.returns
  have hts := atoms_spec (ws := wsX0_keepIndefinite) B.pre
  have hown : s.vm.findClass "ClassGroup" = some m.cls := findClass_of_methodNamed B.named
  have hlocks := B.notSynchronized
  subst hsz
  have hD := hD0.self (sz := s.heap.size)
  generalize hAe : va_A [(ph, .inr (0, [.int dd, .int rt, .int cl, .int rf, .int pr, .ref pn, .int gk, .int go, .int gc, .ref pg, .ref ps, .ref po, .ref pc, .ref pe, .ref p1, .ref p2, .ref pz])), (pn, .inl (tn, 1908, .inl An)), (p1, .inr (1, [.long a1, .long b1, .long c1]))] s.heap.size = A at hD ⊢
  have hA : ∀ q : Nat, s.heap.size ≤ q → A q := fun q h => by rw [← hAe]; exact Or.inr h
  have hS : va_S A s.heap s.heap [] := va_S.rf
  have hl := lv_entry ([.ref ph, .int x1, .int x2, .int x3]) (n := 4) (Nat.le_of_ble_eq_true rfl)
  rw [lg_entry_eq]
  generalize (lg_sl ([.ref ph, .int x1, .int x2, .int x3]) ++ List.replicate (4 - (lg_sl ([.ref ph, .int x1, .int x2, .int x3])).length) Slot.unset).toArray = ls at hl ⊢
  have hl : lv_has ls 4 [(0, .ref ph), (1, .int x1), (2, .int x2), (3, .int x3)] := hl
  unfold f_keepInd at hf
  refine lv_iload_n hx hb dX0_keepIndefinite_0 rfl (lv_at hl 1 rfl) ?_
  refine lv_iload_n hx hb dX0_keepIndefinite_1 rfl (lv_at hl 2 rfl) ?_
  refine lv_iload_n hx hb dX0_keepIndefinite_2 rfl (lv_at hl 3 rfl) ?_
  obtain ⟨xc3, hc3, hf⟩ := ok_b hf
  have hPc := hP.sub (ws' := []) [] rfl
  have hDc := hD.sub (ws' := []) [] (by decide) rfl
  have hKc := hK.sub (tys' := []) [] rfl
  have hFc := va_free (wc := []) hD hS hA [] rfl
  refine va_calli (va_runS (As := [.int x1, .int x2, .int x3]) (rest := []) ⟨hx, hb, hml, hown, hts⟩ (c_isPrim l dC dI x1 x2 x3 s.heap.size F xc3 hc3) (va_cwS 3 hts (gwS kw_78 kw_79 kw_1 kw_80) rfl rfl rfl (by decide +kernel) ⟨Nat.le_of_ble_eq_true rfl, Nat.le_of_ble_eq_true rfl⟩) ⟨fun a U g mk q => by obtain ⟨q0, q1, qP, qK, qD⟩ := q; exact ⟨q0, q1, qP, va_K.moved (u := U) (U := U.calling g mk a) (Vm.Alike.refl U.vm) qK, qD⟩, fun U hU hW => ⟨rfl, by rw [hU], by rw [hU]; exact hPc, va_K.moved hW.alike hKc, hDc.weaken (fun _ _ _ _ => trivial)⟩⟩ rfl rfl hl.1 rfl (lv_room (Nat.le_of_ble_eq_true rfl)) dX0_keepIndefinite_3 ⟨Nat.zero_le _, Nat.zero_le _⟩) hS (fun q _ h => hFc q h) hFc (fun r_1 u t H1 locs ht hvm hw hB hz1 hk1 hS => ?_)
  obtain ⟨⟩ := u
  obtain ⟨hP1, hK1, hD1⟩ := hB
  rw [ht] at hP1
  subst hw
  obtain ⟨hP, hD⟩ := va_join (wr := [(ph, .inr (0, [.int dd, .int rt, .int cl, .int rf, .int pr, .ref pn, .int gk, .int go, .int gc, .ref pg, .ref ps, .ref po, .ref pc, .ref pe, .ref p1, .ref p2, .ref pz])), (pn, .inl (tn, 1908, .inl An)), (p1, .inr (1, [.long a1, .long b1, .long c1]))]) (w1 := []) hP hD [] [0, 1, 2] rfl rfl (by decide) (by decide) hk1 hFc hP1 hD1
  generalize H1 = H at hP hS ⊢
  have hP : va_P (dC, dI) vwCl [(ph, .inr (0, [.int dd, .int rt, .int cl, .int rf, .int pr, .ref pn, .int gk, .int go, .int gc, .ref pg, .ref ps, .ref po, .ref pc, .ref pe, .ref p1, .ref p2, .ref pz])), (pn, .inl (tn, 1908, .inl An)), (p1, .inr (1, [.long a1, .long b1, .long c1]))] H := hP
  have hD : va_D A [(ph, .inr (0, [.int dd, .int rt, .int cl, .int rf, .int pr, .ref pn, .int gk, .int go, .int gc, .ref pg, .ref ps, .ref po, .ref pc, .ref pe, .ref p1, .ref p2, .ref pz])), (pn, .inl (tn, 1908, .inl An)), (p1, .inr (1, [.long a1, .long b1, .long c1]))] := hD
  refine lv_if_ne (tgt := 10) hx hb dX0_keepIndefinite_6 (by decide) (fun c_6 => ?_) (fun c_6 => ?_)
  · have hf := ok_f c_6 hf
    refine lv_aload_n hx hb dX0_keepIndefinite_10 rfl (lv_at hl 0 rfl) ?_
    refine lv_dup hx hb dX0_keepIndefinite_11 rfl ?_
    refine va_get (D := (dC, dI)) (ci := 0) (v := .int rf) (C := "ClassGroup") (T := TX0) (N := 17) hx hb hts (fun w h => List.mem_cons_of_mem _ (iwX0 w h)) hown hK hP 0 rfl rfl 3 (by decide) (hts _ (List.mem_cons_of_mem _ kw_153)) (fun _ h9 => h9) rfl dX0_keepIndefinite_12 ?_
    refine lv_iconst (v := 2) hx hb dX0_keepIndefinite_15 (by decide) ?_
    refine lv_iadd hx hb dX0_keepIndefinite_16 ?_
    refine lv_topi (fun f_reducedForms_2 ef_reducedForms_2 => ?_)
    replace hf := bnd_ok ef_reducedForms_2 hf
    refine va_put (D := (dC, dI)) (ci := 0) (v := .int f_reducedForms_2) (ty := .int) (C := "ClassGroup") (T := TX0) (N := 17) hx hb hts (fun w h => List.mem_cons_of_mem _ (iwX0 w h)) tyX0 tyokX0 nmX0 hown hK hP hD hS 0 rfl rfl 3 (by decide) (hts _ (List.mem_cons_of_mem _ kw_153)) (fun _ h9 => h9) rfl (by decide +kernel) rfl rfl (Nat.le_of_ble_eq_true rfl) dX0_keepIndefinite_17 (fun H locs hP hD hS => ?_)
    have hP : va_P (dC, dI) vwCl [(ph, .inr (0, [.int dd, .int rt, .int cl, .int f_reducedForms_2, .int pr, .ref pn, .int gk, .int go, .int gc, .ref pg, .ref ps, .ref po, .ref pc, .ref pe, .ref p1, .ref p2, .ref pz])), (pn, .inl (tn, 1908, .inl An)), (p1, .inr (1, [.long a1, .long b1, .long c1]))] H := hP
    have hD : va_D A [(ph, .inr (0, [.int dd, .int rt, .int cl, .int f_reducedForms_2, .int pr, .ref pn, .int gk, .int go, .int gc, .ref pg, .ref ps, .ref po, .ref pc, .ref pe, .ref p1, .ref p2, .ref pz])), (pn, .inl (tn, 1908, .inl An)), (p1, .inr (1, [.long a1, .long b1, .long c1]))] := hD
    refine lv_aload_n hx hb dX0_keepIndefinite_20 rfl (lv_at hl 0 rfl) ?_
    refine lv_iload_n hx hb dX0_keepIndefinite_21 rfl (lv_at hl 1 rfl) ?_
    refine lv_ineg hx hb dX0_keepIndefinite_22 ?_
    refine lv_iload_n hx hb dX0_keepIndefinite_23 rfl (lv_at hl 2 rfl) ?_
    refine lv_iload_n hx hb dX0_keepIndefinite_24 rfl (lv_at hl 3 rfl) ?_
    obtain ⟨xc25, hc25, hf⟩ := ok_b hf
    have hPc := hP.sub (ws' := [(ph, .inr (0, [.int dd, .int rt, .int cl, .int f_reducedForms_2, .int pr, .ref pn, .int gk, .int go, .int gc, .ref pg, .ref ps, .ref po, .ref pc, .ref pe, .ref p1, .ref p2, .ref pz])), (pn, .inl (tn, 1908, .inl An)), (p1, .inr (1, [.long a1, .long b1, .long c1]))]) [0, 1, 2] rfl
    have hDc := hD.sub (ws' := [(ph, .inr (0, [.int dd, .int rt, .int cl, .int f_reducedForms_2, .int pr, .ref pn, .int gk, .int go, .int gc, .ref pg, .ref ps, .ref po, .ref pc, .ref pe, .ref p1, .ref p2, .ref pz])), (pn, .inl (tn, 1908, .inl An)), (p1, .inr (1, [.long a1, .long b1, .long c1]))]) [0, 1, 2] (by decide) rfl
    have hKc := hK.sub (tys' := [(tn, .int)]) [0] rfl
    have hFc := va_free (wc := [(ph, .inr (0, [.int dd, .int rt, .int cl, .int f_reducedForms_2, .int pr, .ref pn, .int gk, .int go, .int gc, .ref pg, .ref ps, .ref po, .ref pc, .ref pe, .ref p1, .ref p2, .ref pz])), (pn, .inl (tn, 1908, .inl An)), (p1, .inr (1, [.long a1, .long b1, .long c1]))]) hD hS hA [0, 1, 2] rfl
    refine va_callv (va_runV (As := [.int (-x1), .int x2, .int x3]) (rest := []) ⟨hx, hb, hml, hown, hts⟩ (c_addLeast l dC dI ph dd rt cl f_reducedForms_2 pr pn gk go gc pg ps po pc pe p1 p2 pz tn An a1 b1 c1 (-x1) x2 x3 H.size F xc25 hc25) (cwV 3 hts (gwV kw_100 kw_102 ks_7 kw_1 kw_103) rfl rfl rfl (by decide +kernel) ⟨Nat.le_of_ble_eq_true rfl, Nat.le_of_ble_eq_true rfl⟩) ⟨fun a U g mk q => by obtain ⟨q0, q1, qP, qK, qD⟩ := q; exact ⟨q0, q1, qP, va_K.moved (u := U) (U := U.calling g mk a) (Vm.Alike.refl U.vm) qK, qD⟩, va_recv hKc hPc (ci := 0) (q0 := 0) rfl rfl, fun U hU hW => ⟨rfl, by rw [hU], by rw [hU]; exact hPc, va_K.moved hW.alike hKc, hDc.weaken (fun _ _ _ _ => trivial)⟩⟩ rfl rfl hl.1 rfl (lv_room (Nat.le_of_ble_eq_true rfl)) dX0_keepIndefinite_25 ⟨Nat.zero_le _, Nat.zero_le _⟩) hS (fun q _ h => hFc q h) hFc (fun u t H1 locs ht hvm hw hB hz1 hk1 hS => ?_)
    obtain ⟨u_cl_3, u_An_4, u_a1_5, u_b1_6, u_c1_7⟩ := u
    obtain ⟨hP1, hK1, hD1⟩ := hB
    rw [ht] at hP1
    subst hw
    obtain ⟨hP, hD⟩ := va_join (wr := []) (w1 := [(ph, .inr (0, [.int dd, .int rt, .int u_cl_3, .int f_reducedForms_2, .int pr, .ref pn, .int gk, .int go, .int gc, .ref pg, .ref ps, .ref po, .ref pc, .ref pe, .ref p1, .ref p2, .ref pz])), (pn, .inl (tn, 1908, .inl u_An_4)), (p1, .inr (1, [.long u_a1_5, .long u_b1_6, .long u_c1_7]))]) hP hD [0, 1, 2] [] rfl rfl (by decide) (by decide) hk1 hFc hP1 hD1
    generalize H1 = H at hP hS ⊢
    have hP : va_P (dC, dI) vwCl [(ph, .inr (0, [.int dd, .int rt, .int u_cl_3, .int f_reducedForms_2, .int pr, .ref pn, .int gk, .int go, .int gc, .ref pg, .ref ps, .ref po, .ref pc, .ref pe, .ref p1, .ref p2, .ref pz])), (pn, .inl (tn, 1908, .inl u_An_4)), (p1, .inr (1, [.long u_a1_5, .long u_b1_6, .long u_c1_7]))] H := hP
    have hD : va_D A [(ph, .inr (0, [.int dd, .int rt, .int u_cl_3, .int f_reducedForms_2, .int pr, .ref pn, .int gk, .int go, .int gc, .ref pg, .ref ps, .ref po, .ref pc, .ref pe, .ref p1, .ref p2, .ref pz])), (pn, .inl (tn, 1908, .inl u_An_4)), (p1, .inr (1, [.long u_a1_5, .long u_b1_6, .long u_c1_7]))] := hD
    refine lv_iload_n hx hb dX0_keepIndefinite_28 rfl (lv_at hl 1 rfl) ?_
    refine lv_iload_n hx hb dX0_keepIndefinite_29 rfl (lv_at hl 3 rfl) ?_
    refine lv_icmp_ge (tgt := 51) hx hb dX0_keepIndefinite_30 (by decide) (fun c_30 => ?_) (fun c_30 => ?_)
    · have hf := ok_t c_30 hf
      have hP9 := hP.sub (ws' := [(ph, .inr (0, [.int dd, .int rt, .int u_cl_3, .int f_reducedForms_2, .int pr, .ref pn, .int gk, .int go, .int gc, .ref pg, .ref ps, .ref po, .ref pc, .ref pe, .ref p1, .ref p2, .ref pz])), (pn, .inl (tn, 1908, .inl u_An_4)), (p1, .inr (1, [.long u_a1_5, .long u_b1_6, .long u_c1_7]))]) [0, 1, 2] rfl
      have hD9 := hD.sub (ws' := [(ph, .inr (0, [.int dd, .int rt, .int u_cl_3, .int f_reducedForms_2, .int pr, .ref pn, .int gk, .int go, .int gc, .ref pg, .ref ps, .ref po, .ref pc, .ref pe, .ref p1, .ref p2, .ref pz])), (pn, .inl (tn, 1908, .inl u_An_4)), (p1, .inr (1, [.long u_a1_5, .long u_b1_6, .long u_c1_7]))]) [0, 1, 2] (by decide) rfl
      have hK9 := hK.sub (tys' := [(tn, .int)]) [0] rfl
      exact W.vret hx hb hr (fun t ht hW => ⟨⟨(u_cl_3, f_reducedForms_2, u_An_4, u_a1_5, u_b1_6, u_c1_7), rfl, (Option.some.inj hf), by rw [ht]; exact hP9, va_K.moved hW.alike hK9, hD9⟩, hS.F ht⟩) hS.2.2 dX0_keepIndefinite_51
    · have hf := ok_f c_30 hf
      refine lv_aload_n hx hb dX0_keepIndefinite_33 rfl (lv_at hl 0 rfl) ?_
      refine lv_dup hx hb dX0_keepIndefinite_34 rfl ?_
      refine va_get (D := (dC, dI)) (ci := 0) (v := .int f_reducedForms_2) (C := "ClassGroup") (T := TX0) (N := 17) hx hb hts (fun w h => List.mem_cons_of_mem _ (iwX0 w h)) hown hK hP 0 rfl rfl 3 (by decide) (hts _ (List.mem_cons_of_mem _ kw_153)) (fun _ h9 => h9) rfl dX0_keepIndefinite_35 ?_
      refine lv_iconst (v := 2) hx hb dX0_keepIndefinite_38 (by decide) ?_
      refine lv_iadd hx hb dX0_keepIndefinite_39 ?_
      refine lv_topi (fun f_reducedForms_8 ef_reducedForms_8 => ?_)
      replace hf := bnd_ok ef_reducedForms_8 hf
      refine va_put (D := (dC, dI)) (ci := 0) (v := .int f_reducedForms_8) (ty := .int) (C := "ClassGroup") (T := TX0) (N := 17) hx hb hts (fun w h => List.mem_cons_of_mem _ (iwX0 w h)) tyX0 tyokX0 nmX0 hown hK hP hD hS 0 rfl rfl 3 (by decide) (hts _ (List.mem_cons_of_mem _ kw_153)) (fun _ h9 => h9) rfl (by decide +kernel) rfl rfl (Nat.le_of_ble_eq_true rfl) dX0_keepIndefinite_40 (fun H locs hP hD hS => ?_)
      have hP : va_P (dC, dI) vwCl [(ph, .inr (0, [.int dd, .int rt, .int u_cl_3, .int f_reducedForms_8, .int pr, .ref pn, .int gk, .int go, .int gc, .ref pg, .ref ps, .ref po, .ref pc, .ref pe, .ref p1, .ref p2, .ref pz])), (pn, .inl (tn, 1908, .inl u_An_4)), (p1, .inr (1, [.long u_a1_5, .long u_b1_6, .long u_c1_7]))] H := hP
      have hD : va_D A [(ph, .inr (0, [.int dd, .int rt, .int u_cl_3, .int f_reducedForms_8, .int pr, .ref pn, .int gk, .int go, .int gc, .ref pg, .ref ps, .ref po, .ref pc, .ref pe, .ref p1, .ref p2, .ref pz])), (pn, .inl (tn, 1908, .inl u_An_4)), (p1, .inr (1, [.long u_a1_5, .long u_b1_6, .long u_c1_7]))] := hD
      refine lv_aload_n hx hb dX0_keepIndefinite_43 rfl (lv_at hl 0 rfl) ?_
      refine lv_iload_n hx hb dX0_keepIndefinite_44 rfl (lv_at hl 3 rfl) ?_
      refine lv_ineg hx hb dX0_keepIndefinite_45 ?_
      refine lv_iload_n hx hb dX0_keepIndefinite_46 rfl (lv_at hl 2 rfl) ?_
      refine lv_iload_n hx hb dX0_keepIndefinite_47 rfl (lv_at hl 1 rfl) ?_
      obtain ⟨xc48, hc48, hf⟩ := ok_b hf
      have hPc := hP.sub (ws' := [(ph, .inr (0, [.int dd, .int rt, .int u_cl_3, .int f_reducedForms_8, .int pr, .ref pn, .int gk, .int go, .int gc, .ref pg, .ref ps, .ref po, .ref pc, .ref pe, .ref p1, .ref p2, .ref pz])), (pn, .inl (tn, 1908, .inl u_An_4)), (p1, .inr (1, [.long u_a1_5, .long u_b1_6, .long u_c1_7]))]) [0, 1, 2] rfl
      have hDc := hD.sub (ws' := [(ph, .inr (0, [.int dd, .int rt, .int u_cl_3, .int f_reducedForms_8, .int pr, .ref pn, .int gk, .int go, .int gc, .ref pg, .ref ps, .ref po, .ref pc, .ref pe, .ref p1, .ref p2, .ref pz])), (pn, .inl (tn, 1908, .inl u_An_4)), (p1, .inr (1, [.long u_a1_5, .long u_b1_6, .long u_c1_7]))]) [0, 1, 2] (by decide) rfl
      have hKc := hK.sub (tys' := [(tn, .int)]) [0] rfl
      have hFc := va_free (wc := [(ph, .inr (0, [.int dd, .int rt, .int u_cl_3, .int f_reducedForms_8, .int pr, .ref pn, .int gk, .int go, .int gc, .ref pg, .ref ps, .ref po, .ref pc, .ref pe, .ref p1, .ref p2, .ref pz])), (pn, .inl (tn, 1908, .inl u_An_4)), (p1, .inr (1, [.long u_a1_5, .long u_b1_6, .long u_c1_7]))]) hD hS hA [0, 1, 2] rfl
      refine va_callv (va_runV (As := [.int (-x3), .int x2, .int x1]) (rest := []) ⟨hx, hb, hml, hown, hts⟩ (c_addLeast l dC dI ph dd rt u_cl_3 f_reducedForms_8 pr pn gk go gc pg ps po pc pe p1 p2 pz tn u_An_4 u_a1_5 u_b1_6 u_c1_7 (-x3) x2 x1 H.size F xc48 hc48) (cwV 3 hts (gwV kw_100 kw_102 ks_7 kw_1 kw_103) rfl rfl rfl (by decide +kernel) ⟨Nat.le_of_ble_eq_true rfl, Nat.le_of_ble_eq_true rfl⟩) ⟨fun a U g mk q => by obtain ⟨q0, q1, qP, qK, qD⟩ := q; exact ⟨q0, q1, qP, va_K.moved (u := U) (U := U.calling g mk a) (Vm.Alike.refl U.vm) qK, qD⟩, va_recv hKc hPc (ci := 0) (q0 := 0) rfl rfl, fun U hU hW => ⟨rfl, by rw [hU], by rw [hU]; exact hPc, va_K.moved hW.alike hKc, hDc.weaken (fun _ _ _ _ => trivial)⟩⟩ rfl rfl hl.1 rfl (lv_room (Nat.le_of_ble_eq_true rfl)) dX0_keepIndefinite_48 ⟨Nat.zero_le _, Nat.zero_le _⟩) hS (fun q _ h => hFc q h) hFc (fun u t H1 locs ht hvm hw hB hz1 hk1 hS => ?_)
      obtain ⟨u_cl_9, u_An_10, u_a1_11, u_b1_12, u_c1_13⟩ := u
      obtain ⟨hP1, hK1, hD1⟩ := hB
      rw [ht] at hP1
      subst hw
      obtain ⟨hP, hD⟩ := va_join (wr := []) (w1 := [(ph, .inr (0, [.int dd, .int rt, .int u_cl_9, .int f_reducedForms_8, .int pr, .ref pn, .int gk, .int go, .int gc, .ref pg, .ref ps, .ref po, .ref pc, .ref pe, .ref p1, .ref p2, .ref pz])), (pn, .inl (tn, 1908, .inl u_An_10)), (p1, .inr (1, [.long u_a1_11, .long u_b1_12, .long u_c1_13]))]) hP hD [0, 1, 2] [] rfl rfl (by decide) (by decide) hk1 hFc hP1 hD1
      generalize H1 = H at hP hS ⊢
      have hP : va_P (dC, dI) vwCl [(ph, .inr (0, [.int dd, .int rt, .int u_cl_9, .int f_reducedForms_8, .int pr, .ref pn, .int gk, .int go, .int gc, .ref pg, .ref ps, .ref po, .ref pc, .ref pe, .ref p1, .ref p2, .ref pz])), (pn, .inl (tn, 1908, .inl u_An_10)), (p1, .inr (1, [.long u_a1_11, .long u_b1_12, .long u_c1_13]))] H := hP
      have hD : va_D A [(ph, .inr (0, [.int dd, .int rt, .int u_cl_9, .int f_reducedForms_8, .int pr, .ref pn, .int gk, .int go, .int gc, .ref pg, .ref ps, .ref po, .ref pc, .ref pe, .ref p1, .ref p2, .ref pz])), (pn, .inl (tn, 1908, .inl u_An_10)), (p1, .inr (1, [.long u_a1_11, .long u_b1_12, .long u_c1_13]))] := hD
      have hP9 := hP.sub (ws' := [(ph, .inr (0, [.int dd, .int rt, .int u_cl_9, .int f_reducedForms_8, .int pr, .ref pn, .int gk, .int go, .int gc, .ref pg, .ref ps, .ref po, .ref pc, .ref pe, .ref p1, .ref p2, .ref pz])), (pn, .inl (tn, 1908, .inl u_An_10)), (p1, .inr (1, [.long u_a1_11, .long u_b1_12, .long u_c1_13]))]) [0, 1, 2] rfl
      have hD9 := hD.sub (ws' := [(ph, .inr (0, [.int dd, .int rt, .int u_cl_9, .int f_reducedForms_8, .int pr, .ref pn, .int gk, .int go, .int gc, .ref pg, .ref ps, .ref po, .ref pc, .ref pe, .ref p1, .ref p2, .ref pz])), (pn, .inl (tn, 1908, .inl u_An_10)), (p1, .inr (1, [.long u_a1_11, .long u_b1_12, .long u_c1_13]))]) [0, 1, 2] (by decide) rfl
      have hK9 := hK.sub (tys' := [(tn, .int)]) [0] rfl
      exact W.vret hx hb hr (fun t ht hW => ⟨⟨(u_cl_9, f_reducedForms_8, u_An_10, u_a1_11, u_b1_12, u_c1_13), rfl, (Option.some.inj hf), by rw [ht]; exact hP9, va_K.moved hW.alike hK9, hD9⟩, hS.F ht⟩) hS.2.2 dX0_keepIndefinite_51
  · have hf := ok_t c_6 hf
    have hP9 := hP.sub (ws' := [(ph, .inr (0, [.int dd, .int rt, .int cl, .int rf, .int pr, .ref pn, .int gk, .int go, .int gc, .ref pg, .ref ps, .ref po, .ref pc, .ref pe, .ref p1, .ref p2, .ref pz])), (pn, .inl (tn, 1908, .inl An)), (p1, .inr (1, [.long a1, .long b1, .long c1]))]) [0, 1, 2] rfl
    have hD9 := hD.sub (ws' := [(ph, .inr (0, [.int dd, .int rt, .int cl, .int rf, .int pr, .ref pn, .int gk, .int go, .int gc, .ref pg, .ref ps, .ref po, .ref pc, .ref pe, .ref p1, .ref p2, .ref pz])), (pn, .inl (tn, 1908, .inl An)), (p1, .inr (1, [.long a1, .long b1, .long c1]))]) [0, 1, 2] (by decide) rfl
    have hK9 := hK.sub (tys' := [(tn, .int)]) [0] rfl
    exact W.vret hx hb hr (fun t ht hW => ⟨⟨(cl, rf, An, a1, b1, c1), rfl, (Option.some.inj hf), by rw [ht]; exact hP9, va_K.moved hW.alike hK9, hD9⟩, hS.F ht⟩) hS.2.2 dX0_keepIndefinite_9

def f_nameInd_L36 (F : Nat) (dd : Int32) (rt : Int32) (w1_2 : Int32) (v2_9 : Int32) : Nat → Int32 → Int32 → Int32 → (Nat → Int32) → Int64 → Int64 → Int64 → Option (Int32 × Int32 × (Nat → Int32) × Int64 × Int64 × Int64)
  | 0, _, _, _, _, _, _, _ => none
  | n36 + 1, w3_11, m_cl_12, m_rf_13, m_An_14, m_a1_15, m_b1_16, m_c1_17 => (if v2_9 < (w3_11 * w3_11) then some (m_cl_12, m_rf_13, m_An_14, m_a1_15, m_b1_16, m_c1_17) else (if ¬ w3_11 = 0 then (if (v2_9 - v2_9 / w3_11 * w3_11) = 0 then (if ¬ w3_11 = 0 then Option.bind (f_keepInd F dd rt m_cl_12 m_rf_13 m_An_14 m_a1_15 m_b1_16 m_c1_17 w3_11 w1_2 (v2_9 / w3_11)) (fun (u_cl_19, u_rf_20, u_An_21, u_a1_22, u_b1_23, u_c1_24) => bnd (w3_11 + 1) (fun v3_25 => f_nameInd_L36 F dd rt w1_2 v2_9 n36 v3_25 u_cl_19 u_rf_20 u_An_21 u_a1_22 u_b1_23 u_c1_24)) else none) else bnd (w3_11 + 1) (fun v3_18 => f_nameInd_L36 F dd rt w1_2 v2_9 n36 v3_18 m_cl_12 m_rf_13 m_An_14 m_a1_15 m_b1_16 m_c1_17)) else none))
def f_nameInd_L6 (F : Nat) (dd : Int32) (rt : Int32) : Nat → Int32 → Int32 → Int32 → (Nat → Int32) → Int64 → Int64 → Int64 → Option (Int32 × Int32 × (Nat → Int32) × Int64 × Int64 × Int64)
  | 0, _, _, _, _, _, _, _ => none
  | n6 + 1, w1_2, m_cl_3, m_rf_4, m_An_5, m_a1_6, m_b1_7, m_c1_8 => (if rt < w1_2 then some (m_cl_3, m_rf_4, m_An_5, m_a1_6, m_b1_7, m_c1_8) else bnd ((dd - (w1_2 * w1_2)) / 4) (fun v2_9 => bnd (((rt - w1_2) / 2) + 1) (fun v3_10 => Option.bind (f_nameInd_L36 F dd rt w1_2 v2_9 F v3_10 m_cl_3 m_rf_4 m_An_5 m_a1_6 m_b1_7 m_c1_8) (fun (y_cl_26, y_rf_27, y_An_28, y_a1_29, y_b1_30, y_c1_31) => bnd (w1_2 + 2) (fun v1_32 => f_nameInd_L6 F dd rt n6 v1_32 y_cl_26 y_rf_27 y_An_28 y_a1_29 y_b1_30 y_c1_31)))))
def f_nameInd (F : Nat) (dd : Int32) (rt : Int32) (cl : Int32) (rf : Int32) (An : Nat → Int32) (a1 : Int64) (b1 : Int64) (c1 : Int64) : Option (Int32 × Int32 × (Nat → Int32) × Int64 × Int64 × Int64) := Option.bind (f_likeD F dd 1) (fun r_1 => Option.bind (f_nameInd_L6 F dd rt F r_1 cl rf An a1 b1 c1) (fun (y_cl_33, y_rf_34, y_An_35, y_a1_36, y_b1_37, y_c1_38) => some (y_cl_33, y_rf_34, y_An_35, y_a1_36, y_b1_37, y_c1_38)))
set_option maxHeartbeats 4000000 in
set_option maxRecDepth 100000 in
theorem c_nameInd (l : Launch) (dC : Nat → ClassId) (dI : Nat → Nat → Nat) (ph : Nat) (dd : Int32) (rt : Int32) (cl : Int32) (rf : Int32) (pr : Int32) (pn : Nat) (gk : Int32) (go : Int32) (gc : Int32) (pg : Nat) (ps : Nat) (po : Nat) (pc : Nat) (pe : Nat) (p1 : Nat) (p2 : Nat) (pz : Nat) (tn : ClassId) (An : Nat → Int32) (a1 : Int64) (b1 : Int64) (c1 : Int64) (sz : Nat) (F : Nat) (out : Int32 × Int32 × (Nat → Int32) × Int64 × Int64 × Int64) (hf : f_nameInd F dd rt cl rf An a1 b1 c1 = some out) : Met l yX0_nameIndefinite wsX0_nameIndefinite ({ frames := 5, cells := 0, slots := 0, locals := 123 }) (va_Pc [.ref ph] (fun U => U.heap.size = sz ∧ va_P (dC, dI) vwCl [(ph, .inr (0, [.int dd, .int rt, .int cl, .int rf, .int pr, .ref pn, .int gk, .int go, .int gc, .ref pg, .ref ps, .ref po, .ref pc, .ref pe, .ref p1, .ref p2, .ref pz])), (pn, .inl (tn, 1908, .inl An)), (p1, .inr (1, [.long a1, .long b1, .long c1]))] U.heap ∧ va_K (dC, dI) vwCl [(tn, .int)] U ∧ va_D (fun _ => True) [(ph, .inr (0, [.int dd, .int rt, .int cl, .int rf, .int pr, .ref pn, .int gk, .int go, .int gc, .ref pg, .ref ps, .ref po, .ref pc, .ref pe, .ref p1, .ref p2, .ref pz])), (pn, .inl (tn, 1908, .inl An)), (p1, .inr (1, [.long a1, .long b1, .long c1]))])) (va_Qv (fun (u : Int32 × Int32 × (Nat → Int32) × Int64 × Int64 × Int64) => u = out) (fun (u : Int32 × Int32 × (Nat → Int32) × Int64 × Int64 × Int64) t => match u with | (u_cl, u_rf, u_An, u_a1, u_b1, u_c1) => va_P (dC, dI) vwCl [(ph, .inr (0, [.int dd, .int rt, .int u_cl, .int u_rf, .int pr, .ref pn, .int gk, .int go, .int gc, .ref pg, .ref ps, .ref po, .ref pc, .ref pe, .ref p1, .ref p2, .ref pz])), (pn, .inl (tn, 1908, .inl u_An)), (p1, .inr (1, [.long u_a1, .long u_b1, .long u_c1]))] t.heap ∧ va_K (dC, dI) vwCl [(tn, .int)] t ∧ va_D (va_A [(ph, .inr (0, [.int dd, .int rt, .int cl, .int rf, .int pr, .ref pn, .int gk, .int go, .int gc, .ref pg, .ref ps, .ref po, .ref pc, .ref pe, .ref p1, .ref p2, .ref pz])), (pn, .inl (tn, 1908, .inl An)), (p1, .inr (1, [.long a1, .long b1, .long c1]))] sz) [(ph, .inr (0, [.int dd, .int rt, .int u_cl, .int u_rf, .int pr, .ref pn, .int gk, .int go, .int gc, .ref pg, .ref ps, .ref po, .ref pc, .ref pe, .ref p1, .ref p2, .ref pz])), (pn, .inl (tn, 1908, .inl u_An)), (p1, .inr (1, [.long u_a1, .long u_b1, .long u_c1]))]) (va_A [(ph, .inr (0, [.int dd, .int rt, .int cl, .int rf, .int pr, .ref pn, .int gk, .int go, .int gc, .ref pg, .ref ps, .ref po, .ref pc, .ref pe, .ref p1, .ref p2, .ref pz])), (pn, .inl (tn, 1908, .inl An)), (p1, .inr (1, [.long a1, .long b1, .long c1]))] sz)) 0 0 (va_A [(ph, .inr (0, [.int dd, .int rt, .int cl, .int rf, .int pr, .ref pn, .int gk, .int go, .int gc, .ref pg, .ref ps, .ref po, .ref pc, .ref pe, .ref p1, .ref p2, .ref pz])), (pn, .inl (tn, 1908, .inl An)), (p1, .inr (1, [.long a1, .long b1, .long c1]))] sz) := by
  refine Met.ofW (cc := cX0_nameIndefinite) (maxL := 4) (ret := none) (by decide +kernel) rfl ?_
  intro p e s m args below meth c s₁ B hml hv
  obtain ⟨rfl, hsz, hP, hK, hD0⟩ := hv
  have hx := B.exec
  have hb := B.bytes
  have hr := B.returns
  have hts := atoms_spec (ws := wsX0_nameIndefinite) B.pre
  have hown : s.vm.findClass "ClassGroup" = some m.cls := findClass_of_methodNamed B.named
  have hlocks := B.notSynchronized
  subst hsz
  have hD := hD0.self (sz := s.heap.size)
  generalize hAe : va_A [(ph, .inr (0, [.int dd, .int rt, .int cl, .int rf, .int pr, .ref pn, .int gk, .int go, .int gc, .ref pg, .ref ps, .ref po, .ref pc, .ref pe, .ref p1, .ref p2, .ref pz])), (pn, .inl (tn, 1908, .inl An)), (p1, .inr (1, [.long a1, .long b1, .long c1]))] s.heap.size = A at hD ⊢
  have hA : ∀ q : Nat, s.heap.size ≤ q → A q := fun q h => by rw [← hAe]; exact Or.inr h
  have hS : va_S A s.heap s.heap [] := va_S.rf
  have hl := lv_entry ([.ref ph]) (n := 4) (Nat.le_of_ble_eq_true rfl)
  rw [lg_entry_eq]
  generalize (lg_sl ([.ref ph]) ++ List.replicate (4 - (lg_sl ([.ref ph])).length) Slot.unset).toArray = ls at hl ⊢
  have hl : lv_has ls 4 [(0, .ref ph)] := hl
  unfold f_nameInd at hf
  refine lv_aload_n hx hb dX0_nameIndefinite_0 rfl (lv_at hl 0 rfl) ?_
  refine lv_iconst (v := 1) hx hb dX0_nameIndefinite_1 (by decide) ?_
  obtain ⟨xc2, hc2, hf⟩ := ok_b hf
  have hPc := hP.sub (ws' := [(ph, .inr (0, [.int dd, .int rt, .int cl, .int rf, .int pr, .ref pn, .int gk, .int go, .int gc, .ref pg, .ref ps, .ref po, .ref pc, .ref pe, .ref p1, .ref p2, .ref pz]))]) [0] rfl
  have hDc := hD.sub (ws' := [(ph, .inr (0, [.int dd, .int rt, .int cl, .int rf, .int pr, .ref pn, .int gk, .int go, .int gc, .ref pg, .ref ps, .ref po, .ref pc, .ref pe, .ref p1, .ref p2, .ref pz]))]) [0] (by decide) rfl
  have hKc := hK.sub (tys' := []) [] rfl
  have hFc := va_free (wc := [(ph, .inr (0, [.int dd, .int rt, .int cl, .int rf, .int pr, .ref pn, .int gk, .int go, .int gc, .ref pg, .ref ps, .ref po, .ref pc, .ref pe, .ref p1, .ref p2, .ref pz]))]) hD hS hA [0] rfl
  refine va_calli (va_runV (As := [.int 1]) (rest := []) ⟨hx, hb, hml, hown, hts⟩ (c_likeD l dC dI ph dd rt cl rf pr pn gk go gc pg ps po pc pe p1 p2 pz 1 s.heap.size F xc2 hc2) (cwV 1 hts (gwV kw_70 kw_72 ks_2 kw_1 kw_73) rfl rfl rfl (by decide +kernel) ⟨Nat.le_of_ble_eq_true rfl, Nat.le_of_ble_eq_true rfl⟩) ⟨fun a U g mk q => by obtain ⟨q0, q1, qP, qK, qD⟩ := q; exact ⟨q0, q1, qP, va_K.moved (u := U) (U := U.calling g mk a) (Vm.Alike.refl U.vm) qK, qD⟩, va_recv hKc hPc (ci := 0) (q0 := 0) rfl rfl, fun U hU hW => ⟨rfl, by rw [hU], by rw [hU]; exact hPc, va_K.moved hW.alike hKc, hDc.weaken (fun _ _ _ _ => trivial)⟩⟩ rfl rfl hl.1 rfl (lv_room (Nat.le_of_ble_eq_true rfl)) dX0_nameIndefinite_2 ⟨Nat.zero_le _, Nat.zero_le _⟩) hS (fun q _ h => hFc q h) hFc (fun r_1 u t H1 locs ht hvm hw hB hz1 hk1 hS => ?_)
  obtain ⟨⟩ := u
  obtain ⟨hP1, hK1, hD1⟩ := hB
  rw [ht] at hP1
  subst hw
  obtain ⟨hP, hD⟩ := va_join (wr := [(pn, .inl (tn, 1908, .inl An)), (p1, .inr (1, [.long a1, .long b1, .long c1]))]) (w1 := [(ph, .inr (0, [.int dd, .int rt, .int cl, .int rf, .int pr, .ref pn, .int gk, .int go, .int gc, .ref pg, .ref ps, .ref po, .ref pc, .ref pe, .ref p1, .ref p2, .ref pz]))]) hP hD [0] [1, 2] rfl rfl (by decide) (by decide) hk1 hFc hP1 hD1
  generalize H1 = H at hP hS ⊢
  have hP : va_P (dC, dI) vwCl [(pn, .inl (tn, 1908, .inl An)), (p1, .inr (1, [.long a1, .long b1, .long c1])), (ph, .inr (0, [.int dd, .int rt, .int cl, .int rf, .int pr, .ref pn, .int gk, .int go, .int gc, .ref pg, .ref ps, .ref po, .ref pc, .ref pe, .ref p1, .ref p2, .ref pz]))] H := hP
  have hD : va_D A [(pn, .inl (tn, 1908, .inl An)), (p1, .inr (1, [.long a1, .long b1, .long c1])), (ph, .inr (0, [.int dd, .int rt, .int cl, .int rf, .int pr, .ref pn, .int gk, .int go, .int gc, .ref pg, .ref ps, .ref po, .ref pc, .ref pe, .ref p1, .ref p2, .ref pz]))] := hD
  refine lv_istore_n (lv' := [(1, .int r_1), (0, .ref ph)]) hx hb dX0_nameIndefinite_5 rfl hl (by decide) rfl (fun ls hl => ?_)
  have hL6 : ∀ (n6 : Nat) (w1_2 : Int32) (m_cl_3 : Int32) (m_rf_4 : Int32) (m_An_5 : Nat → Int32) (m_a1_6 : Int64) (m_b1_7 : Int64) (m_c1_8 : Int64) (res : Int32 × Int32 × (Nat → Int32) × Int64 × Int64 × Int64) (H : Heap) (locs : List Loc) (ls : Array Slot) (Q : State → Prop), f_nameInd_L6 F dd rt n6 w1_2 m_cl_3 m_rf_4 m_An_5 m_a1_6 m_b1_7 m_c1_8 = some res → va_P (dC, dI) vwCl [(ph, .inr (0, [.int dd, .int rt, .int m_cl_3, .int m_rf_4, .int pr, .ref pn, .int gk, .int go, .int gc, .ref pg, .ref ps, .ref po, .ref pc, .ref pe, .ref p1, .ref p2, .ref pz])), (pn, .inl (tn, 1908, .inl m_An_5)), (p1, .inr (1, [.long m_a1_6, .long m_b1_7, .long m_c1_8]))] H → va_D A [(ph, .inr (0, [.int dd, .int rt, .int m_cl_3, .int m_rf_4, .int pr, .ref pn, .int gk, .int go, .int gc, .ref pg, .ref ps, .ref po, .ref pc, .ref pe, .ref p1, .ref p2, .ref pz])), (pn, .inl (tn, 1908, .inl m_An_5)), (p1, .inr (1, [.long m_a1_6, .long m_b1_7, .long m_c1_8]))] → va_S A s.heap H locs → lv_has ls 4 [(0, .ref ph), (1, .int w1_2)] → (∀ (y_cl_33 : Int32) (y_rf_34 : Int32) (y_An_35 : Nat → Int32) (y_a1_36 : Int64) (y_b1_37 : Int64) (y_c1_38 : Int64) (H : Heap) (locs : List Loc) (ls : Array Slot), (y_cl_33, y_rf_34, y_An_35, y_a1_36, y_b1_37, y_c1_38) = res → va_P (dC, dI) vwCl [(ph, .inr (0, [.int dd, .int rt, .int y_cl_33, .int y_rf_34, .int pr, .ref pn, .int gk, .int go, .int gc, .ref pg, .ref ps, .ref po, .ref pc, .ref pe, .ref p1, .ref p2, .ref pz])), (pn, .inl (tn, 1908, .inl y_An_35)), (p1, .inr (1, [.long y_a1_36, .long y_b1_37, .long y_c1_38]))] H → va_D A [(ph, .inr (0, [.int dd, .int rt, .int y_cl_33, .int y_rf_34, .int pr, .ref pn, .int gk, .int go, .int gc, .ref pg, .ref ps, .ref po, .ref pc, .ref pe, .ref p1, .ref p2, .ref pz])), (pn, .inl (tn, 1908, .inl y_An_35)), (p1, .inr (1, [.long y_a1_36, .long y_b1_37, .long y_c1_38]))] → va_S A s.heap H locs → lv_has ls 4 [] → W p l e ((headSpec wsX0_nameIndefinite ({ frames := 5, cells := 0, slots := 0, locals := 123 })).room) s m ([.ref ph] : List Value).toArray below meth c H locs 0 0 Q (F0 m 70 ls [])) → W p l e ((headSpec wsX0_nameIndefinite ({ frames := 5, cells := 0, slots := 0, locals := 123 })).room) s m ([.ref ph] : List Value).toArray below meth c H locs 0 0 Q (F0 m 6 ls []) := by
    intro n6
    induction n6 with
    | zero => intro w1_2 m_cl_3 m_rf_4 m_An_5 m_a1_6 m_b1_7 m_c1_8 res H locs ls Q hf; simp [f_nameInd_L6] at hf
    | succ n6 ih6 =>
      intro w1_2 m_cl_3 m_rf_4 m_An_5 m_a1_6 m_b1_7 m_c1_8 res H locs ls Q hf hP hD hS hl k6_0
      rw [f_nameInd_L6] at hf
      refine lv_iload_n hx hb dX0_nameIndefinite_6 rfl (lv_at hl 1 rfl) ?_
      refine lv_aload_n hx hb dX0_nameIndefinite_7 rfl (lv_at hl 0 rfl) ?_
      refine va_get (D := (dC, dI)) (ci := 0) (v := .int rt) (C := "ClassGroup") (T := TX0) (N := 17) hx hb hts (fun w h => List.mem_cons_of_mem _ (iwX0 w h)) hown hK hP 0 rfl rfl 1 (by decide) (hts _ (List.mem_cons_of_mem _ kw_151)) (fun _ h9 => h9) rfl dX0_nameIndefinite_8 ?_
      refine lv_icmp_gt (tgt := 70) hx hb dX0_nameIndefinite_11 (by decide) (fun c_11 => ?_) (fun c_11 => ?_)
      · have hf := ok_t c_11 hf
        exact k6_0 m_cl_3 m_rf_4 m_An_5 m_a1_6 m_b1_7 m_c1_8 _ _ _ (Option.some.inj hf) (hP.sub [0, 1, 2] rfl) (hD.sub [0, 1, 2] (by decide) rfl) hS (lv_sub hl [] rfl)
      · have hf := ok_f c_11 hf
        refine lv_aload_n hx hb dX0_nameIndefinite_14 rfl (lv_at hl 0 rfl) ?_
        refine va_get (D := (dC, dI)) (ci := 0) (v := .int dd) (C := "ClassGroup") (T := TX0) (N := 17) hx hb hts (fun w h => List.mem_cons_of_mem _ (iwX0 w h)) hown hK hP 0 rfl rfl 0 (by decide) (hts _ (List.mem_cons_of_mem _ kw_150)) (fun _ h9 => h9) rfl dX0_nameIndefinite_15 ?_
        refine lv_iload_n hx hb dX0_nameIndefinite_18 rfl (lv_at hl 1 rfl) ?_
        refine lv_iload_n hx hb dX0_nameIndefinite_19 rfl (lv_at hl 1 rfl) ?_
        refine lv_imul hx hb dX0_nameIndefinite_20 ?_
        refine lv_isub hx hb dX0_nameIndefinite_21 ?_
        refine lv_iconst (v := 4) hx hb dX0_nameIndefinite_22 (by decide) ?_
        refine lv_idiv hx hb dX0_nameIndefinite_23 (by decide) ?_
        refine lv_topi (fun v2_9 ev2_9 => ?_)
        replace hf := bnd_ok ev2_9 hf
        refine lv_istore_n (lv' := [(2, .int v2_9), (0, .ref ph), (1, .int w1_2)]) hx hb dX0_nameIndefinite_24 rfl hl (by decide) rfl (fun ls hl => ?_)
        refine lv_aload_n hx hb dX0_nameIndefinite_25 rfl (lv_at hl 1 rfl) ?_
        refine va_get (D := (dC, dI)) (ci := 0) (v := .int rt) (C := "ClassGroup") (T := TX0) (N := 17) hx hb hts (fun w h => List.mem_cons_of_mem _ (iwX0 w h)) hown hK hP 0 rfl rfl 1 (by decide) (hts _ (List.mem_cons_of_mem _ kw_151)) (fun _ h9 => h9) rfl dX0_nameIndefinite_26 ?_
        refine lv_iload_n hx hb dX0_nameIndefinite_29 rfl (lv_at hl 2 rfl) ?_
        refine lv_isub hx hb dX0_nameIndefinite_30 ?_
        refine lv_iconst (v := 2) hx hb dX0_nameIndefinite_31 (by decide) ?_
        refine lv_idiv hx hb dX0_nameIndefinite_32 (by decide) ?_
        refine lv_iconst (v := 1) hx hb dX0_nameIndefinite_33 (by decide) ?_
        refine lv_iadd hx hb dX0_nameIndefinite_34 ?_
        refine lv_topi (fun v3_10 ev3_10 => ?_)
        replace hf := bnd_ok ev3_10 hf
        refine lv_istore_n (lv' := [(3, .int v3_10), (2, .int v2_9), (0, .ref ph), (1, .int w1_2)]) hx hb dX0_nameIndefinite_35 rfl hl (by decide) rfl (fun ls hl => ?_)
        have hL36 : ∀ (n36 : Nat) (w3_11 : Int32) (m_cl_12 : Int32) (m_rf_13 : Int32) (m_An_14 : Nat → Int32) (m_a1_15 : Int64) (m_b1_16 : Int64) (m_c1_17 : Int64) (res : Int32 × Int32 × (Nat → Int32) × Int64 × Int64 × Int64) (H : Heap) (locs : List Loc) (ls : Array Slot) (Q : State → Prop), f_nameInd_L36 F dd rt w1_2 v2_9 n36 w3_11 m_cl_12 m_rf_13 m_An_14 m_a1_15 m_b1_16 m_c1_17 = some res → va_P (dC, dI) vwCl [(ph, .inr (0, [.int dd, .int rt, .int m_cl_12, .int m_rf_13, .int pr, .ref pn, .int gk, .int go, .int gc, .ref pg, .ref ps, .ref po, .ref pc, .ref pe, .ref p1, .ref p2, .ref pz])), (pn, .inl (tn, 1908, .inl m_An_14)), (p1, .inr (1, [.long m_a1_15, .long m_b1_16, .long m_c1_17]))] H → va_D A [(ph, .inr (0, [.int dd, .int rt, .int m_cl_12, .int m_rf_13, .int pr, .ref pn, .int gk, .int go, .int gc, .ref pg, .ref ps, .ref po, .ref pc, .ref pe, .ref p1, .ref p2, .ref pz])), (pn, .inl (tn, 1908, .inl m_An_14)), (p1, .inr (1, [.long m_a1_15, .long m_b1_16, .long m_c1_17]))] → va_S A s.heap H locs → lv_has ls 4 [(0, .ref ph), (1, .int w1_2), (2, .int v2_9), (3, .int w3_11)] → (∀ (y_cl_26 : Int32) (y_rf_27 : Int32) (y_An_28 : Nat → Int32) (y_a1_29 : Int64) (y_b1_30 : Int64) (y_c1_31 : Int64) (H : Heap) (locs : List Loc) (ls : Array Slot), (y_cl_26, y_rf_27, y_An_28, y_a1_29, y_b1_30, y_c1_31) = res → va_P (dC, dI) vwCl [(ph, .inr (0, [.int dd, .int rt, .int y_cl_26, .int y_rf_27, .int pr, .ref pn, .int gk, .int go, .int gc, .ref pg, .ref ps, .ref po, .ref pc, .ref pe, .ref p1, .ref p2, .ref pz])), (pn, .inl (tn, 1908, .inl y_An_28)), (p1, .inr (1, [.long y_a1_29, .long y_b1_30, .long y_c1_31]))] H → va_D A [(ph, .inr (0, [.int dd, .int rt, .int y_cl_26, .int y_rf_27, .int pr, .ref pn, .int gk, .int go, .int gc, .ref pg, .ref ps, .ref po, .ref pc, .ref pe, .ref p1, .ref p2, .ref pz])), (pn, .inl (tn, 1908, .inl y_An_28)), (p1, .inr (1, [.long y_a1_29, .long y_b1_30, .long y_c1_31]))] → va_S A s.heap H locs → lv_has ls 4 [(0, .ref ph), (1, .int w1_2)] → W p l e ((headSpec wsX0_nameIndefinite ({ frames := 5, cells := 0, slots := 0, locals := 123 })).room) s m ([.ref ph] : List Value).toArray below meth c H locs 0 0 Q (F0 m 64 ls [])) → W p l e ((headSpec wsX0_nameIndefinite ({ frames := 5, cells := 0, slots := 0, locals := 123 })).room) s m ([.ref ph] : List Value).toArray below meth c H locs 0 0 Q (F0 m 36 ls []) := by
          intro n36
          induction n36 with
          | zero => intro w3_11 m_cl_12 m_rf_13 m_An_14 m_a1_15 m_b1_16 m_c1_17 res H locs ls Q hf; simp [f_nameInd_L36] at hf
          | succ n36 ih36 =>
            intro w3_11 m_cl_12 m_rf_13 m_An_14 m_a1_15 m_b1_16 m_c1_17 res H locs ls Q hf hP hD hS hl k36_0
            rw [f_nameInd_L36] at hf
            refine lv_iload_n hx hb dX0_nameIndefinite_36 rfl (lv_at hl 3 rfl) ?_
            refine lv_iload_n hx hb dX0_nameIndefinite_37 rfl (lv_at hl 3 rfl) ?_
            refine lv_imul hx hb dX0_nameIndefinite_38 ?_
            refine lv_iload_n hx hb dX0_nameIndefinite_39 rfl (lv_at hl 2 rfl) ?_
            refine lv_icmp_gt (tgt := 64) hx hb dX0_nameIndefinite_40 (by decide) (fun c_40 => ?_) (fun c_40 => ?_)
            · have hf := ok_t c_40 hf
              exact k36_0 m_cl_12 m_rf_13 m_An_14 m_a1_15 m_b1_16 m_c1_17 _ _ _ (Option.some.inj hf) (hP.sub [0, 1, 2] rfl) (hD.sub [0, 1, 2] (by decide) rfl) hS (lv_sub hl [0, 1] rfl)
            · have hf := ok_f c_40 hf
              refine lv_iload_n hx hb dX0_nameIndefinite_43 rfl (lv_at hl 2 rfl) ?_
              refine lv_iload_n hx hb dX0_nameIndefinite_44 rfl (lv_at hl 3 rfl) ?_
              obtain ⟨g_45, hf⟩ := ok_g hf
              refine lv_irem hx hb dX0_nameIndefinite_45 g_45 ?_
              refine lv_if_ne (tgt := 58) hx hb dX0_nameIndefinite_46 (by decide) (fun c_46 => ?_) (fun c_46 => ?_)
              · have hf := ok_f c_46 hf
                obtain ⟨v3_18, ev3_18⟩ : ∃ y : Int32, y = w3_11 + 1 := ⟨_, rfl⟩
                replace hf := bnd_ok ev3_18 hf
                refine lv_iinc (v := v3_18) (lv' := [(3, .int v3_18), (0, .ref ph), (1, .int w1_2), (2, .int v2_9)]) hx hb dX0_nameIndefinite_58 hl (k := 3) rfl (by rw [ev3_18]; rfl) (by decide) rfl (fun ls hl => ?_)
                refine lv_goto (tgt := 36) hx hb dX0_nameIndefinite_61 (by decide) ?_
                exact ih36 v3_18 m_cl_12 m_rf_13 m_An_14 m_a1_15 m_b1_16 m_c1_17 _ _ _ _ _ hf (hP.sub [0, 1, 2] rfl) (hD.sub [0, 1, 2] (by decide) rfl) hS (lv_sub hl [1, 2, 3, 0] rfl) k36_0
              · have hf := ok_t c_46 hf
                refine lv_aload_n hx hb dX0_nameIndefinite_49 rfl (lv_at hl 0 rfl) ?_
                refine lv_iload_n hx hb dX0_nameIndefinite_50 rfl (lv_at hl 3 rfl) ?_
                refine lv_iload_n hx hb dX0_nameIndefinite_51 rfl (lv_at hl 1 rfl) ?_
                refine lv_iload_n hx hb dX0_nameIndefinite_52 rfl (lv_at hl 2 rfl) ?_
                refine lv_iload_n hx hb dX0_nameIndefinite_53 rfl (lv_at hl 3 rfl) ?_
                obtain ⟨g_54, hf⟩ := ok_g hf
                refine lv_idiv hx hb dX0_nameIndefinite_54 g_54 ?_
                obtain ⟨xc55, hc55, hf⟩ := ok_b hf
                have hPc := hP.sub (ws' := [(ph, .inr (0, [.int dd, .int rt, .int m_cl_12, .int m_rf_13, .int pr, .ref pn, .int gk, .int go, .int gc, .ref pg, .ref ps, .ref po, .ref pc, .ref pe, .ref p1, .ref p2, .ref pz])), (pn, .inl (tn, 1908, .inl m_An_14)), (p1, .inr (1, [.long m_a1_15, .long m_b1_16, .long m_c1_17]))]) [0, 1, 2] rfl
                have hDc := hD.sub (ws' := [(ph, .inr (0, [.int dd, .int rt, .int m_cl_12, .int m_rf_13, .int pr, .ref pn, .int gk, .int go, .int gc, .ref pg, .ref ps, .ref po, .ref pc, .ref pe, .ref p1, .ref p2, .ref pz])), (pn, .inl (tn, 1908, .inl m_An_14)), (p1, .inr (1, [.long m_a1_15, .long m_b1_16, .long m_c1_17]))]) [0, 1, 2] (by decide) rfl
                have hKc := hK.sub (tys' := [(tn, .int)]) [0] rfl
                have hFc := va_free (wc := [(ph, .inr (0, [.int dd, .int rt, .int m_cl_12, .int m_rf_13, .int pr, .ref pn, .int gk, .int go, .int gc, .ref pg, .ref ps, .ref po, .ref pc, .ref pe, .ref p1, .ref p2, .ref pz])), (pn, .inl (tn, 1908, .inl m_An_14)), (p1, .inr (1, [.long m_a1_15, .long m_b1_16, .long m_c1_17]))]) hD hS hA [0, 1, 2] rfl
                refine va_callv (va_runV (As := [.int w3_11, .int w1_2, .int (v2_9 / w3_11)]) (rest := []) ⟨hx, hb, hml, hown, hts⟩ (c_keepInd l dC dI ph dd rt m_cl_12 m_rf_13 pr pn gk go gc pg ps po pc pe p1 p2 pz tn m_An_14 m_a1_15 m_b1_16 m_c1_17 w3_11 w1_2 (v2_9 / w3_11) H.size F xc55 hc55) (cwV 3 hts (gwV kw_96 kw_98 ks_6 kw_1 kw_99) rfl rfl rfl (by decide +kernel) ⟨Nat.le_of_ble_eq_true rfl, Nat.le_of_ble_eq_true rfl⟩) ⟨fun a U g mk q => by obtain ⟨q0, q1, qP, qK, qD⟩ := q; exact ⟨q0, q1, qP, va_K.moved (u := U) (U := U.calling g mk a) (Vm.Alike.refl U.vm) qK, qD⟩, va_recv hKc hPc (ci := 0) (q0 := 0) rfl rfl, fun U hU hW => ⟨rfl, by rw [hU], by rw [hU]; exact hPc, va_K.moved hW.alike hKc, hDc.weaken (fun _ _ _ _ => trivial)⟩⟩ rfl rfl hl.1 rfl (lv_room (Nat.le_of_ble_eq_true rfl)) dX0_nameIndefinite_55 ⟨Nat.zero_le _, Nat.zero_le _⟩) hS (fun q _ h => hFc q h) hFc (fun u t H1 locs ht hvm hw hB hz1 hk1 hS => ?_)
                obtain ⟨u_cl_19, u_rf_20, u_An_21, u_a1_22, u_b1_23, u_c1_24⟩ := u
                obtain ⟨hP1, hK1, hD1⟩ := hB
                rw [ht] at hP1
                subst hw
                obtain ⟨hP, hD⟩ := va_join (wr := []) (w1 := [(ph, .inr (0, [.int dd, .int rt, .int u_cl_19, .int u_rf_20, .int pr, .ref pn, .int gk, .int go, .int gc, .ref pg, .ref ps, .ref po, .ref pc, .ref pe, .ref p1, .ref p2, .ref pz])), (pn, .inl (tn, 1908, .inl u_An_21)), (p1, .inr (1, [.long u_a1_22, .long u_b1_23, .long u_c1_24]))]) hP hD [0, 1, 2] [] rfl rfl (by decide) (by decide) hk1 hFc hP1 hD1
                generalize H1 = H at hP hS ⊢
                have hP : va_P (dC, dI) vwCl [(ph, .inr (0, [.int dd, .int rt, .int u_cl_19, .int u_rf_20, .int pr, .ref pn, .int gk, .int go, .int gc, .ref pg, .ref ps, .ref po, .ref pc, .ref pe, .ref p1, .ref p2, .ref pz])), (pn, .inl (tn, 1908, .inl u_An_21)), (p1, .inr (1, [.long u_a1_22, .long u_b1_23, .long u_c1_24]))] H := hP
                have hD : va_D A [(ph, .inr (0, [.int dd, .int rt, .int u_cl_19, .int u_rf_20, .int pr, .ref pn, .int gk, .int go, .int gc, .ref pg, .ref ps, .ref po, .ref pc, .ref pe, .ref p1, .ref p2, .ref pz])), (pn, .inl (tn, 1908, .inl u_An_21)), (p1, .inr (1, [.long u_a1_22, .long u_b1_23, .long u_c1_24]))] := hD
                obtain ⟨v3_25, ev3_25⟩ : ∃ y : Int32, y = w3_11 + 1 := ⟨_, rfl⟩
                replace hf := bnd_ok ev3_25 hf
                refine lv_iinc (v := v3_25) (lv' := [(3, .int v3_25), (0, .ref ph), (1, .int w1_2), (2, .int v2_9)]) hx hb dX0_nameIndefinite_58 hl (k := 3) rfl (by rw [ev3_25]; rfl) (by decide) rfl (fun ls hl => ?_)
                refine lv_goto (tgt := 36) hx hb dX0_nameIndefinite_61 (by decide) ?_
                exact ih36 v3_25 u_cl_19 u_rf_20 u_An_21 u_a1_22 u_b1_23 u_c1_24 _ _ _ _ _ hf (hP.sub [0, 1, 2] rfl) (hD.sub [0, 1, 2] (by decide) rfl) hS (lv_sub hl [1, 2, 3, 0] rfl) k36_0
        obtain ⟨res36, hL36_r, hf⟩ := ok_b hf
        refine hL36 F v3_10 m_cl_3 m_rf_4 m_An_5 m_a1_6 m_b1_7 m_c1_8 res36 _ _ _ _ hL36_r (hP.sub [0, 1, 2] rfl) (hD.sub [0, 1, 2] (by decide) rfl) hS (lv_sub hl [2, 3, 1, 0] rfl) (fun y_cl_26 y_rf_27 y_An_28 y_a1_29 y_b1_30 y_c1_31 H locs ls hres hP hD hS hl => ?_)
        subst hres
        obtain ⟨v1_32, ev1_32⟩ : ∃ y : Int32, y = w1_2 + 2 := ⟨_, rfl⟩
        replace hf := bnd_ok ev1_32 hf
        refine lv_iinc (v := v1_32) (lv' := [(1, .int v1_32), (0, .ref ph)]) hx hb dX0_nameIndefinite_64 hl (k := 1) rfl (by rw [ev1_32]; rfl) (by decide) rfl (fun ls hl => ?_)
        refine lv_goto (tgt := 6) hx hb dX0_nameIndefinite_67 (by decide) ?_
        exact ih6 v1_32 y_cl_26 y_rf_27 y_An_28 y_a1_29 y_b1_30 y_c1_31 _ _ _ _ _ hf (hP.sub [0, 1, 2] rfl) (hD.sub [0, 1, 2] (by decide) rfl) hS (lv_sub hl [1, 0] rfl) k6_0
  obtain ⟨res6, hL6_r, hf⟩ := ok_b hf
  refine hL6 F r_1 cl rf An a1 b1 c1 res6 _ _ _ _ hL6_r (hP.sub [2, 0, 1] rfl) (hD.sub [2, 0, 1] (by decide) rfl) hS (lv_sub hl [1, 0] rfl) (fun y_cl_33 y_rf_34 y_An_35 y_a1_36 y_b1_37 y_c1_38 H locs ls hres hP hD hS hl => ?_)
  subst hres
  have hP9 := hP.sub (ws' := [(ph, .inr (0, [.int dd, .int rt, .int y_cl_33, .int y_rf_34, .int pr, .ref pn, .int gk, .int go, .int gc, .ref pg, .ref ps, .ref po, .ref pc, .ref pe, .ref p1, .ref p2, .ref pz])), (pn, .inl (tn, 1908, .inl y_An_35)), (p1, .inr (1, [.long y_a1_36, .long y_b1_37, .long y_c1_38]))]) [0, 1, 2] rfl
  have hD9 := hD.sub (ws' := [(ph, .inr (0, [.int dd, .int rt, .int y_cl_33, .int y_rf_34, .int pr, .ref pn, .int gk, .int go, .int gc, .ref pg, .ref ps, .ref po, .ref pc, .ref pe, .ref p1, .ref p2, .ref pz])), (pn, .inl (tn, 1908, .inl y_An_35)), (p1, .inr (1, [.long y_a1_36, .long y_b1_37, .long y_c1_38]))]) [0, 1, 2] (by decide) rfl
  have hK9 := hK.sub (tys' := [(tn, .int)]) [0] rfl
  exact W.vret hx hb hr (fun t ht hW => ⟨⟨(y_cl_33, y_rf_34, y_An_35, y_a1_36, y_b1_37, y_c1_38), rfl, (Option.some.inj hf), by rw [ht]; exact hP9, va_K.moved hW.alike hK9, hD9⟩, hS.F ht⟩) hS.2.2 dX0_nameIndefinite_70

def f_become (F : Nat) (An : Nat → Int32) (a1 : Int64) (b1 : Int64) (c1 : Int64) (x1 : Int32) : Option (Int32 × Int32 × Int32 × Int32 × Int32 × Int32 × (Nat → Int32) × Int64 × Int64 × Int64) := Option.bind (f_rootOf F x1) (fun r_1 => (if (0 : Int32) ≤ x1 then Option.bind (f_nameInd F x1 r_1 0 0 An a1 b1 c1) (fun (u_cl_2, u_rf_3, u_An_4, u_a1_5, u_b1_6, u_c1_7) => bnd (x1 &&& 1) (fun v2_8 => Option.bind (f_Form_set F 1 ((v2_8).toInt64) ((((v2_8 - x1) / 4)).toInt64)) (fun (u_a1_9, u_b1_10, u_c1_11) => Option.bind (f_reduce F x1 r_1 u_a1_9 u_b1_10 u_c1_11) (fun (u_a1_12, u_b1_13, u_c1_14) => Option.bind (f_leastKey F x1 r_1 u_a1_12 u_b1_13 u_c1_14) (fun (r_15, u_a1_16, u_b1_17, u_c1_18) => Option.bind (f_classAt F u_cl_2 u_An_4 r_15) (fun r_19 => some (x1, r_1, u_cl_2, u_rf_3, r_19, 0, u_An_4, u_a1_16, u_b1_17, u_c1_18))))))) else Option.bind (f_nameDef F x1 0 0 An) (fun (u_cl_20, u_rf_21, u_An_22) => bnd (x1 &&& 1) (fun v2_23 => Option.bind (f_Form_set F 1 ((v2_23).toInt64) ((((v2_23 - x1) / 4)).toInt64)) (fun (u_a1_24, u_b1_25, u_c1_26) => Option.bind (f_reduce F x1 r_1 u_a1_24 u_b1_25 u_c1_26) (fun (u_a1_27, u_b1_28, u_c1_29) => Option.bind (f_leastKey F x1 r_1 u_a1_27 u_b1_28 u_c1_29) (fun (r_30, u_a1_31, u_b1_32, u_c1_33) => Option.bind (f_classAt F u_cl_20 u_An_22 r_30) (fun r_34 => some (x1, r_1, u_cl_20, u_rf_21, r_34, 0, u_An_22, u_a1_31, u_b1_32, u_c1_33)))))))))
set_option maxHeartbeats 4000000 in
set_option maxRecDepth 100000 in
theorem c_become (l : Launch) (dC : Nat → ClassId) (dI : Nat → Nat → Nat) (ph : Nat) (dd : Int32) (rt : Int32) (cl : Int32) (rf : Int32) (pr : Int32) (pn : Nat) (gk : Int32) (go : Int32) (gc : Int32) (pg : Nat) (ps : Nat) (po : Nat) (pc : Nat) (pe : Nat) (p1 : Nat) (p2 : Nat) (pz : Nat) (tn : ClassId) (An : Nat → Int32) (a1 : Int64) (b1 : Int64) (c1 : Int64) (x1 : Int32) (sz : Nat) (F : Nat) (out : Int32 × Int32 × Int32 × Int32 × Int32 × Int32 × (Nat → Int32) × Int64 × Int64 × Int64) (hf : f_become F An a1 b1 c1 x1 = some out) : Met l yX0_become wsX0_become ({ frames := 6, cells := 0, slots := 0, locals := 146 }) (va_Pc [.ref ph, .int x1] (fun U => U.heap.size = sz ∧ va_P (dC, dI) vwCl [(ph, .inr (0, [.int dd, .int rt, .int cl, .int rf, .int pr, .ref pn, .int gk, .int go, .int gc, .ref pg, .ref ps, .ref po, .ref pc, .ref pe, .ref p1, .ref p2, .ref pz])), (pn, .inl (tn, 1908, .inl An)), (p1, .inr (1, [.long a1, .long b1, .long c1]))] U.heap ∧ va_K (dC, dI) vwCl [(tn, .int)] U ∧ va_D (fun _ => True) [(ph, .inr (0, [.int dd, .int rt, .int cl, .int rf, .int pr, .ref pn, .int gk, .int go, .int gc, .ref pg, .ref ps, .ref po, .ref pc, .ref pe, .ref p1, .ref p2, .ref pz])), (pn, .inl (tn, 1908, .inl An)), (p1, .inr (1, [.long a1, .long b1, .long c1]))])) (va_Qv (fun (u : Int32 × Int32 × Int32 × Int32 × Int32 × Int32 × (Nat → Int32) × Int64 × Int64 × Int64) => u = out) (fun (u : Int32 × Int32 × Int32 × Int32 × Int32 × Int32 × (Nat → Int32) × Int64 × Int64 × Int64) t => match u with | (u_dd, u_rt, u_cl, u_rf, u_pr, u_gk, u_An, u_a1, u_b1, u_c1) => va_P (dC, dI) vwCl [(ph, .inr (0, [.int u_dd, .int u_rt, .int u_cl, .int u_rf, .int u_pr, .ref pn, .int u_gk, .int go, .int gc, .ref pg, .ref ps, .ref po, .ref pc, .ref pe, .ref p1, .ref p2, .ref pz])), (pn, .inl (tn, 1908, .inl u_An)), (p1, .inr (1, [.long u_a1, .long u_b1, .long u_c1]))] t.heap ∧ va_K (dC, dI) vwCl [(tn, .int)] t ∧ va_D (va_A [(ph, .inr (0, [.int dd, .int rt, .int cl, .int rf, .int pr, .ref pn, .int gk, .int go, .int gc, .ref pg, .ref ps, .ref po, .ref pc, .ref pe, .ref p1, .ref p2, .ref pz])), (pn, .inl (tn, 1908, .inl An)), (p1, .inr (1, [.long a1, .long b1, .long c1]))] sz) [(ph, .inr (0, [.int u_dd, .int u_rt, .int u_cl, .int u_rf, .int u_pr, .ref pn, .int u_gk, .int go, .int gc, .ref pg, .ref ps, .ref po, .ref pc, .ref pe, .ref p1, .ref p2, .ref pz])), (pn, .inl (tn, 1908, .inl u_An)), (p1, .inr (1, [.long u_a1, .long u_b1, .long u_c1]))]) (va_A [(ph, .inr (0, [.int dd, .int rt, .int cl, .int rf, .int pr, .ref pn, .int gk, .int go, .int gc, .ref pg, .ref ps, .ref po, .ref pc, .ref pe, .ref p1, .ref p2, .ref pz])), (pn, .inl (tn, 1908, .inl An)), (p1, .inr (1, [.long a1, .long b1, .long c1]))] sz)) 0 0 (va_A [(ph, .inr (0, [.int dd, .int rt, .int cl, .int rf, .int pr, .ref pn, .int gk, .int go, .int gc, .ref pg, .ref ps, .ref po, .ref pc, .ref pe, .ref p1, .ref p2, .ref pz])), (pn, .inl (tn, 1908, .inl An)), (p1, .inr (1, [.long a1, .long b1, .long c1]))] sz) := by
  refine Met.ofW (cc := cX0_become) (maxL := 3) (ret := none) (by decide +kernel) rfl ?_
  intro p e s m args below meth c s₁ B hml hv
  obtain ⟨rfl, hsz, hP, hK, hD0⟩ := hv
  have hx := B.exec
  have hb := B.bytes
  have hr := B.returns
  have hts := atoms_spec (ws := wsX0_become) B.pre
  have hown : s.vm.findClass "ClassGroup" = some m.cls := findClass_of_methodNamed B.named
  have hlocks := B.notSynchronized
  subst hsz
  have hD := hD0.self (sz := s.heap.size)
  generalize hAe : va_A [(ph, .inr (0, [.int dd, .int rt, .int cl, .int rf, .int pr, .ref pn, .int gk, .int go, .int gc, .ref pg, .ref ps, .ref po, .ref pc, .ref pe, .ref p1, .ref p2, .ref pz])), (pn, .inl (tn, 1908, .inl An)), (p1, .inr (1, [.long a1, .long b1, .long c1]))] s.heap.size = A at hD ⊢
  have hA : ∀ q : Nat, s.heap.size ≤ q → A q := fun q h => by rw [← hAe]; exact Or.inr h
  have hS : va_S A s.heap s.heap [] := va_S.rf
  have hl := lv_entry ([.ref ph, .int x1]) (n := 3) (Nat.le_of_ble_eq_true rfl)
  rw [lg_entry_eq]
  generalize (lg_sl ([.ref ph, .int x1]) ++ List.replicate (3 - (lg_sl ([.ref ph, .int x1])).length) Slot.unset).toArray = ls at hl ⊢
  have hl : lv_has ls 3 [(0, .ref ph), (1, .int x1)] := hl
  unfold f_become at hf
  refine lv_aload_n hx hb dX0_become_0 rfl (lv_at hl 0 rfl) ?_
  refine lv_iload_n hx hb dX0_become_1 rfl (lv_at hl 1 rfl) ?_
  refine va_put (D := (dC, dI)) (ci := 0) (v := .int x1) (ty := .int) (C := "ClassGroup") (T := TX0) (N := 17) hx hb hts (fun w h => List.mem_cons_of_mem _ (iwX0 w h)) tyX0 tyokX0 nmX0 hown hK hP hD hS 0 rfl rfl 0 (by decide) (hts _ (List.mem_cons_of_mem _ kw_150)) (fun _ h9 => h9) rfl (by decide +kernel) rfl rfl (Nat.le_of_ble_eq_true rfl) dX0_become_2 (fun H locs hP hD hS => ?_)
  have hP : va_P (dC, dI) vwCl [(ph, .inr (0, [.int x1, .int rt, .int cl, .int rf, .int pr, .ref pn, .int gk, .int go, .int gc, .ref pg, .ref ps, .ref po, .ref pc, .ref pe, .ref p1, .ref p2, .ref pz])), (pn, .inl (tn, 1908, .inl An)), (p1, .inr (1, [.long a1, .long b1, .long c1]))] H := hP
  have hD : va_D A [(ph, .inr (0, [.int x1, .int rt, .int cl, .int rf, .int pr, .ref pn, .int gk, .int go, .int gc, .ref pg, .ref ps, .ref po, .ref pc, .ref pe, .ref p1, .ref p2, .ref pz])), (pn, .inl (tn, 1908, .inl An)), (p1, .inr (1, [.long a1, .long b1, .long c1]))] := hD
  refine lv_aload_n hx hb dX0_become_5 rfl (lv_at hl 0 rfl) ?_
  refine lv_iload_n hx hb dX0_become_6 rfl (lv_at hl 1 rfl) ?_
  obtain ⟨xc7, hc7, hf⟩ := ok_b hf
  have hPc := hP.sub (ws' := []) [] rfl
  have hDc := hD.sub (ws' := []) [] (by decide) rfl
  have hKc := hK.sub (tys' := []) [] rfl
  have hFc := va_free (wc := []) hD hS hA [] rfl
  refine va_calli (va_runS (As := [.int x1]) (rest := [.ref ph]) ⟨hx, hb, hml, hown, hts⟩ (c_rootOf l dC dI x1 H.size F xc7 hc7) (va_cwS 1 hts (gwS kw_63 kw_64 kw_1 kw_65) rfl rfl rfl (by decide +kernel) ⟨Nat.le_of_ble_eq_true rfl, Nat.le_of_ble_eq_true rfl⟩) ⟨fun a U g mk q => by obtain ⟨q0, q1, qP, qK, qD⟩ := q; exact ⟨q0, q1, qP, va_K.moved (u := U) (U := U.calling g mk a) (Vm.Alike.refl U.vm) qK, qD⟩, fun U hU hW => ⟨rfl, by rw [hU], by rw [hU]; exact hPc, va_K.moved hW.alike hKc, hDc.weaken (fun _ _ _ _ => trivial)⟩⟩ rfl rfl hl.1 rfl (lv_room (Nat.le_of_ble_eq_true rfl)) dX0_become_7 ⟨Nat.zero_le _, Nat.zero_le _⟩) hS (fun q _ h => hFc q h) hFc (fun r_1 u t H1 locs ht hvm hw hB hz1 hk1 hS => ?_)
  obtain ⟨⟩ := u
  obtain ⟨hP1, hK1, hD1⟩ := hB
  rw [ht] at hP1
  subst hw
  obtain ⟨hP, hD⟩ := va_join (wr := [(ph, .inr (0, [.int x1, .int rt, .int cl, .int rf, .int pr, .ref pn, .int gk, .int go, .int gc, .ref pg, .ref ps, .ref po, .ref pc, .ref pe, .ref p1, .ref p2, .ref pz])), (pn, .inl (tn, 1908, .inl An)), (p1, .inr (1, [.long a1, .long b1, .long c1]))]) (w1 := []) hP hD [] [0, 1, 2] rfl rfl (by decide) (by decide) hk1 hFc hP1 hD1
  generalize H1 = H at hP hS ⊢
  have hP : va_P (dC, dI) vwCl [(ph, .inr (0, [.int x1, .int rt, .int cl, .int rf, .int pr, .ref pn, .int gk, .int go, .int gc, .ref pg, .ref ps, .ref po, .ref pc, .ref pe, .ref p1, .ref p2, .ref pz])), (pn, .inl (tn, 1908, .inl An)), (p1, .inr (1, [.long a1, .long b1, .long c1]))] H := hP
  have hD : va_D A [(ph, .inr (0, [.int x1, .int rt, .int cl, .int rf, .int pr, .ref pn, .int gk, .int go, .int gc, .ref pg, .ref ps, .ref po, .ref pc, .ref pe, .ref p1, .ref p2, .ref pz])), (pn, .inl (tn, 1908, .inl An)), (p1, .inr (1, [.long a1, .long b1, .long c1]))] := hD
  refine va_put (D := (dC, dI)) (ci := 0) (v := .int r_1) (ty := .int) (C := "ClassGroup") (T := TX0) (N := 17) hx hb hts (fun w h => List.mem_cons_of_mem _ (iwX0 w h)) tyX0 tyokX0 nmX0 hown hK hP hD hS 0 rfl rfl 1 (by decide) (hts _ (List.mem_cons_of_mem _ kw_151)) (fun _ h9 => h9) rfl (by decide +kernel) rfl rfl (Nat.le_of_ble_eq_true rfl) dX0_become_10 (fun H locs hP hD hS => ?_)
  have hP : va_P (dC, dI) vwCl [(ph, .inr (0, [.int x1, .int r_1, .int cl, .int rf, .int pr, .ref pn, .int gk, .int go, .int gc, .ref pg, .ref ps, .ref po, .ref pc, .ref pe, .ref p1, .ref p2, .ref pz])), (pn, .inl (tn, 1908, .inl An)), (p1, .inr (1, [.long a1, .long b1, .long c1]))] H := hP
  have hD : va_D A [(ph, .inr (0, [.int x1, .int r_1, .int cl, .int rf, .int pr, .ref pn, .int gk, .int go, .int gc, .ref pg, .ref ps, .ref po, .ref pc, .ref pe, .ref p1, .ref p2, .ref pz])), (pn, .inl (tn, 1908, .inl An)), (p1, .inr (1, [.long a1, .long b1, .long c1]))] := hD
  refine lv_aload_n hx hb dX0_become_13 rfl (lv_at hl 0 rfl) ?_
  refine lv_iconst (v := 0) hx hb dX0_become_14 (by decide) ?_
  refine va_put (D := (dC, dI)) (ci := 0) (v := .int 0) (ty := .int) (C := "ClassGroup") (T := TX0) (N := 17) hx hb hts (fun w h => List.mem_cons_of_mem _ (iwX0 w h)) tyX0 tyokX0 nmX0 hown hK hP hD hS 0 rfl rfl 2 (by decide) (hts _ (List.mem_cons_of_mem _ kw_152)) (fun _ h9 => h9) rfl (by decide +kernel) rfl rfl (Nat.le_of_ble_eq_true rfl) dX0_become_15 (fun H locs hP hD hS => ?_)
  have hP : va_P (dC, dI) vwCl [(ph, .inr (0, [.int x1, .int r_1, .int 0, .int rf, .int pr, .ref pn, .int gk, .int go, .int gc, .ref pg, .ref ps, .ref po, .ref pc, .ref pe, .ref p1, .ref p2, .ref pz])), (pn, .inl (tn, 1908, .inl An)), (p1, .inr (1, [.long a1, .long b1, .long c1]))] H := hP
  have hD : va_D A [(ph, .inr (0, [.int x1, .int r_1, .int 0, .int rf, .int pr, .ref pn, .int gk, .int go, .int gc, .ref pg, .ref ps, .ref po, .ref pc, .ref pe, .ref p1, .ref p2, .ref pz])), (pn, .inl (tn, 1908, .inl An)), (p1, .inr (1, [.long a1, .long b1, .long c1]))] := hD
  refine lv_aload_n hx hb dX0_become_18 rfl (lv_at hl 0 rfl) ?_
  refine lv_iconst (v := 0) hx hb dX0_become_19 (by decide) ?_
  refine va_put (D := (dC, dI)) (ci := 0) (v := .int 0) (ty := .int) (C := "ClassGroup") (T := TX0) (N := 17) hx hb hts (fun w h => List.mem_cons_of_mem _ (iwX0 w h)) tyX0 tyokX0 nmX0 hown hK hP hD hS 0 rfl rfl 3 (by decide) (hts _ (List.mem_cons_of_mem _ kw_153)) (fun _ h9 => h9) rfl (by decide +kernel) rfl rfl (Nat.le_of_ble_eq_true rfl) dX0_become_20 (fun H locs hP hD hS => ?_)
  have hP : va_P (dC, dI) vwCl [(ph, .inr (0, [.int x1, .int r_1, .int 0, .int 0, .int pr, .ref pn, .int gk, .int go, .int gc, .ref pg, .ref ps, .ref po, .ref pc, .ref pe, .ref p1, .ref p2, .ref pz])), (pn, .inl (tn, 1908, .inl An)), (p1, .inr (1, [.long a1, .long b1, .long c1]))] H := hP
  have hD : va_D A [(ph, .inr (0, [.int x1, .int r_1, .int 0, .int 0, .int pr, .ref pn, .int gk, .int go, .int gc, .ref pg, .ref ps, .ref po, .ref pc, .ref pe, .ref p1, .ref p2, .ref pz])), (pn, .inl (tn, 1908, .inl An)), (p1, .inr (1, [.long a1, .long b1, .long c1]))] := hD
  refine lv_aload_n hx hb dX0_become_23 rfl (lv_at hl 0 rfl) ?_
  refine lv_iconst (v := 0) hx hb dX0_become_24 (by decide) ?_
  refine va_put (D := (dC, dI)) (ci := 0) (v := .int 0) (ty := .boolean) (C := "ClassGroup") (T := TX0) (N := 17) hx hb hts (fun w h => List.mem_cons_of_mem _ (iwX0 w h)) tyX0 tyokX0 nmX0 hown hK hP hD hS 0 rfl rfl 6 (by decide) (hts _ (List.mem_cons_of_mem _ kw_156)) (fun _ h9 => h9) rfl (by decide +kernel) rfl rfl (Nat.le_of_ble_eq_true rfl) dX0_become_25 (fun H locs hP hD hS => ?_)
  have hP : va_P (dC, dI) vwCl [(ph, .inr (0, [.int x1, .int r_1, .int 0, .int 0, .int pr, .ref pn, .int 0, .int go, .int gc, .ref pg, .ref ps, .ref po, .ref pc, .ref pe, .ref p1, .ref p2, .ref pz])), (pn, .inl (tn, 1908, .inl An)), (p1, .inr (1, [.long a1, .long b1, .long c1]))] H := hP
  have hD : va_D A [(ph, .inr (0, [.int x1, .int r_1, .int 0, .int 0, .int pr, .ref pn, .int 0, .int go, .int gc, .ref pg, .ref ps, .ref po, .ref pc, .ref pe, .ref p1, .ref p2, .ref pz])), (pn, .inl (tn, 1908, .inl An)), (p1, .inr (1, [.long a1, .long b1, .long c1]))] := hD
  refine lv_iload_n hx hb dX0_become_28 rfl (lv_at hl 1 rfl) ?_
  refine lv_if_ge (tgt := 39) hx hb dX0_become_29 (by decide) (fun c_29 => ?_) (fun c_29 => ?_)
  · have hf := ok_t c_29 hf
    refine lv_aload_n hx hb dX0_become_39 rfl (lv_at hl 0 rfl) ?_
    obtain ⟨xc40, hc40, hf⟩ := ok_b hf
    have hPc := hP.sub (ws' := [(ph, .inr (0, [.int x1, .int r_1, .int 0, .int 0, .int pr, .ref pn, .int 0, .int go, .int gc, .ref pg, .ref ps, .ref po, .ref pc, .ref pe, .ref p1, .ref p2, .ref pz])), (pn, .inl (tn, 1908, .inl An)), (p1, .inr (1, [.long a1, .long b1, .long c1]))]) [0, 1, 2] rfl
    have hDc := hD.sub (ws' := [(ph, .inr (0, [.int x1, .int r_1, .int 0, .int 0, .int pr, .ref pn, .int 0, .int go, .int gc, .ref pg, .ref ps, .ref po, .ref pc, .ref pe, .ref p1, .ref p2, .ref pz])), (pn, .inl (tn, 1908, .inl An)), (p1, .inr (1, [.long a1, .long b1, .long c1]))]) [0, 1, 2] (by decide) rfl
    have hKc := hK.sub (tys' := [(tn, .int)]) [0] rfl
    have hFc := va_free (wc := [(ph, .inr (0, [.int x1, .int r_1, .int 0, .int 0, .int pr, .ref pn, .int 0, .int go, .int gc, .ref pg, .ref ps, .ref po, .ref pc, .ref pe, .ref p1, .ref p2, .ref pz])), (pn, .inl (tn, 1908, .inl An)), (p1, .inr (1, [.long a1, .long b1, .long c1]))]) hD hS hA [0, 1, 2] rfl
    refine va_callv (va_runV (As := []) (rest := []) ⟨hx, hb, hml, hown, hts⟩ (c_nameInd l dC dI ph x1 r_1 0 0 pr pn 0 go gc pg ps po pc pe p1 p2 pz tn An a1 b1 c1 H.size F xc40 hc40) (cwV 0 hts (gwV kw_92 kw_94 ks_5 kw_1 kw_95) rfl rfl rfl (by decide +kernel) ⟨Nat.le_of_ble_eq_true rfl, Nat.le_of_ble_eq_true rfl⟩) ⟨fun a U g mk q => by obtain ⟨q0, q1, qP, qK, qD⟩ := q; exact ⟨q0, q1, qP, va_K.moved (u := U) (U := U.calling g mk a) (Vm.Alike.refl U.vm) qK, qD⟩, va_recv hKc hPc (ci := 0) (q0 := 0) rfl rfl, fun U hU hW => ⟨rfl, by rw [hU], by rw [hU]; exact hPc, va_K.moved hW.alike hKc, hDc.weaken (fun _ _ _ _ => trivial)⟩⟩ rfl rfl hl.1 rfl (lv_room (Nat.le_of_ble_eq_true rfl)) dX0_become_40 ⟨Nat.zero_le _, Nat.zero_le _⟩) hS (fun q _ h => hFc q h) hFc (fun u t H1 locs ht hvm hw hB hz1 hk1 hS => ?_)
    obtain ⟨u_cl_2, u_rf_3, u_An_4, u_a1_5, u_b1_6, u_c1_7⟩ := u
    obtain ⟨hP1, hK1, hD1⟩ := hB
    rw [ht] at hP1
    subst hw
    obtain ⟨hP, hD⟩ := va_join (wr := []) (w1 := [(ph, .inr (0, [.int x1, .int r_1, .int u_cl_2, .int u_rf_3, .int pr, .ref pn, .int 0, .int go, .int gc, .ref pg, .ref ps, .ref po, .ref pc, .ref pe, .ref p1, .ref p2, .ref pz])), (pn, .inl (tn, 1908, .inl u_An_4)), (p1, .inr (1, [.long u_a1_5, .long u_b1_6, .long u_c1_7]))]) hP hD [0, 1, 2] [] rfl rfl (by decide) (by decide) hk1 hFc hP1 hD1
    generalize H1 = H at hP hS ⊢
    have hP : va_P (dC, dI) vwCl [(ph, .inr (0, [.int x1, .int r_1, .int u_cl_2, .int u_rf_3, .int pr, .ref pn, .int 0, .int go, .int gc, .ref pg, .ref ps, .ref po, .ref pc, .ref pe, .ref p1, .ref p2, .ref pz])), (pn, .inl (tn, 1908, .inl u_An_4)), (p1, .inr (1, [.long u_a1_5, .long u_b1_6, .long u_c1_7]))] H := hP
    have hD : va_D A [(ph, .inr (0, [.int x1, .int r_1, .int u_cl_2, .int u_rf_3, .int pr, .ref pn, .int 0, .int go, .int gc, .ref pg, .ref ps, .ref po, .ref pc, .ref pe, .ref p1, .ref p2, .ref pz])), (pn, .inl (tn, 1908, .inl u_An_4)), (p1, .inr (1, [.long u_a1_5, .long u_b1_6, .long u_c1_7]))] := hD
    refine lv_iload_n hx hb dX0_become_43 rfl (lv_at hl 1 rfl) ?_
    refine lv_iconst (v := 1) hx hb dX0_become_44 (by decide) ?_
    refine lv_iand hx hb dX0_become_45 ?_
    refine lv_topi (fun v2_8 ev2_8 => ?_)
    replace hf := bnd_ok ev2_8 hf
    refine lv_istore_n (lv' := [(2, .int v2_8), (0, .ref ph), (1, .int x1)]) hx hb dX0_become_46 rfl hl (by decide) rfl (fun ls hl => ?_)
    refine lv_aload_n hx hb dX0_become_47 rfl (lv_at hl 1 rfl) ?_
    refine va_get (D := (dC, dI)) (ci := 0) (v := .ref p1) (C := "ClassGroup") (T := TX0) (N := 17) hx hb hts (fun w h => List.mem_cons_of_mem _ (iwX0 w h)) hown hK hP 0 rfl rfl 14 (by decide) (hts _ (List.mem_cons_of_mem _ kw_164)) (fun _ h9 => h9) rfl dX0_become_48 ?_
    refine lv_lconst (v := 1) hx hb dX0_become_51 (by decide) ?_
    refine lv_iload_n hx hb dX0_become_52 rfl (lv_at hl 0 rfl) ?_
    refine lv_i2l (v := (v2_8).toInt64) hx hb dX0_become_53 rfl ?_
    refine lv_iload_n hx hb dX0_become_54 rfl (lv_at hl 0 rfl) ?_
    refine lv_iload_n hx hb dX0_become_55 rfl (lv_at hl 2 rfl) ?_
    refine lv_isub hx hb dX0_become_56 ?_
    refine lv_iconst (v := 4) hx hb dX0_become_57 (by decide) ?_
    refine lv_idiv hx hb dX0_become_58 (by decide) ?_
    refine lv_i2l (v := (((v2_8 - x1) / 4)).toInt64) hx hb dX0_become_59 rfl ?_
    obtain ⟨xc60, hc60, hf⟩ := ok_b hf
    have hPc := hP.sub (ws' := [(p1, .inr (1, [.long u_a1_5, .long u_b1_6, .long u_c1_7]))]) [2] rfl
    have hDc := hD.sub (ws' := [(p1, .inr (1, [.long u_a1_5, .long u_b1_6, .long u_c1_7]))]) [2] (by decide) rfl
    have hKc := hK.sub (tys' := []) [] rfl
    have hFc := va_free (wc := [(p1, .inr (1, [.long u_a1_5, .long u_b1_6, .long u_c1_7]))]) hD hS hA [2] rfl
    refine va_callv (va_runV (As := [.long 1, .long (v2_8).toInt64, .long (((v2_8 - x1) / 4)).toInt64]) (rest := []) ⟨hx, hb, hml, hown, hts⟩ (c_Form_set l dC dI p1 u_a1_5 u_b1_6 u_c1_7 1 ((v2_8).toInt64) ((((v2_8 - x1) / 4)).toInt64) H.size F xc60 hc60) (cwV 3 hts (gwV kw_104 kw_105 kw_106 kw_2 kw_107) rfl rfl rfl (by decide +kernel) ⟨Nat.le_of_ble_eq_true rfl, Nat.le_of_ble_eq_true rfl⟩) ⟨fun a U g mk q => by obtain ⟨q0, q1, qP, qK, qD⟩ := q; exact ⟨q0, q1, qP, va_K.moved (u := U) (U := U.calling g mk a) (Vm.Alike.refl U.vm) qK, qD⟩, va_recv hKc hPc (ci := 1) (q0 := 0) rfl rfl, fun U hU hW => ⟨rfl, by rw [hU], by rw [hU]; exact hPc, va_K.moved hW.alike hKc, hDc.weaken (fun _ _ _ _ => trivial)⟩⟩ rfl rfl hl.1 rfl (lv_room (Nat.le_of_ble_eq_true rfl)) dX0_become_60 ⟨Nat.zero_le _, Nat.zero_le _⟩) hS (fun q _ h => hFc q h) hFc (fun u t H1 locs ht hvm hw hB hz1 hk1 hS => ?_)
    obtain ⟨u_a1_9, u_b1_10, u_c1_11⟩ := u
    obtain ⟨hP1, hK1, hD1⟩ := hB
    rw [ht] at hP1
    subst hw
    obtain ⟨hP, hD⟩ := va_join (wr := [(ph, .inr (0, [.int x1, .int r_1, .int u_cl_2, .int u_rf_3, .int pr, .ref pn, .int 0, .int go, .int gc, .ref pg, .ref ps, .ref po, .ref pc, .ref pe, .ref p1, .ref p2, .ref pz])), (pn, .inl (tn, 1908, .inl u_An_4))]) (w1 := [(p1, .inr (1, [.long u_a1_9, .long u_b1_10, .long u_c1_11]))]) hP hD [2] [0, 1] rfl rfl (by decide) (by decide) hk1 hFc hP1 hD1
    generalize H1 = H at hP hS ⊢
    have hP : va_P (dC, dI) vwCl [(ph, .inr (0, [.int x1, .int r_1, .int u_cl_2, .int u_rf_3, .int pr, .ref pn, .int 0, .int go, .int gc, .ref pg, .ref ps, .ref po, .ref pc, .ref pe, .ref p1, .ref p2, .ref pz])), (pn, .inl (tn, 1908, .inl u_An_4)), (p1, .inr (1, [.long u_a1_9, .long u_b1_10, .long u_c1_11]))] H := hP
    have hD : va_D A [(ph, .inr (0, [.int x1, .int r_1, .int u_cl_2, .int u_rf_3, .int pr, .ref pn, .int 0, .int go, .int gc, .ref pg, .ref ps, .ref po, .ref pc, .ref pe, .ref p1, .ref p2, .ref pz])), (pn, .inl (tn, 1908, .inl u_An_4)), (p1, .inr (1, [.long u_a1_9, .long u_b1_10, .long u_c1_11]))] := hD
    refine lv_aload_n hx hb dX0_become_63 rfl (lv_at hl 1 rfl) ?_
    refine lv_aload_n hx hb dX0_become_64 rfl (lv_at hl 1 rfl) ?_
    refine va_get (D := (dC, dI)) (ci := 0) (v := .ref p1) (C := "ClassGroup") (T := TX0) (N := 17) hx hb hts (fun w h => List.mem_cons_of_mem _ (iwX0 w h)) hown hK hP 0 rfl rfl 14 (by decide) (hts _ (List.mem_cons_of_mem _ kw_164)) (fun _ h9 => h9) rfl dX0_become_65 ?_
    obtain ⟨xc68, hc68, hf⟩ := ok_b hf
    have hPc := hP.sub (ws' := [(ph, .inr (0, [.int x1, .int r_1, .int u_cl_2, .int u_rf_3, .int pr, .ref pn, .int 0, .int go, .int gc, .ref pg, .ref ps, .ref po, .ref pc, .ref pe, .ref p1, .ref p2, .ref pz])), (p1, .inr (1, [.long u_a1_9, .long u_b1_10, .long u_c1_11]))]) [0, 2] rfl
    have hDc := hD.sub (ws' := [(ph, .inr (0, [.int x1, .int r_1, .int u_cl_2, .int u_rf_3, .int pr, .ref pn, .int 0, .int go, .int gc, .ref pg, .ref ps, .ref po, .ref pc, .ref pe, .ref p1, .ref p2, .ref pz])), (p1, .inr (1, [.long u_a1_9, .long u_b1_10, .long u_c1_11]))]) [0, 2] (by decide) rfl
    have hKc := hK.sub (tys' := []) [] rfl
    have hFc := va_free (wc := [(ph, .inr (0, [.int x1, .int r_1, .int u_cl_2, .int u_rf_3, .int pr, .ref pn, .int 0, .int go, .int gc, .ref pg, .ref ps, .ref po, .ref pc, .ref pe, .ref p1, .ref p2, .ref pz])), (p1, .inr (1, [.long u_a1_9, .long u_b1_10, .long u_c1_11]))]) hD hS hA [0, 2] rfl
    refine va_callv (va_runV (As := [.ref p1]) (rest := []) ⟨hx, hb, hml, hown, hts⟩ (c_reduce l dC dI ph x1 r_1 u_cl_2 u_rf_3 pr pn 0 go gc pg ps po pc pe p1 p2 pz p1 u_a1_9 u_b1_10 u_c1_11 H.size F xc68 hc68) (cwV 1 hts (gwV kw_127 kw_129 ks_10 kw_1 kw_130) rfl rfl rfl (by decide +kernel) ⟨Nat.le_of_ble_eq_true rfl, Nat.le_of_ble_eq_true rfl⟩) ⟨fun a U g mk q => by obtain ⟨q0, q1, qP, qK, qD⟩ := q; exact ⟨q0, q1, qP, va_K.moved (u := U) (U := U.calling g mk a) (Vm.Alike.refl U.vm) qK, qD⟩, va_recv hKc hPc (ci := 0) (q0 := 0) rfl rfl, fun U hU hW => ⟨rfl, by rw [hU], by rw [hU]; exact hPc, va_K.moved hW.alike hKc, hDc.weaken (fun _ _ _ _ => trivial)⟩⟩ rfl rfl hl.1 rfl (lv_room (Nat.le_of_ble_eq_true rfl)) dX0_become_68 ⟨Nat.zero_le _, Nat.zero_le _⟩) hS (fun q _ h => hFc q h) hFc (fun u t H1 locs ht hvm hw hB hz1 hk1 hS => ?_)
    obtain ⟨u_a1_12, u_b1_13, u_c1_14⟩ := u
    obtain ⟨hP1, hK1, hD1⟩ := hB
    rw [ht] at hP1
    subst hw
    obtain ⟨hP, hD⟩ := va_join (wr := [(pn, .inl (tn, 1908, .inl u_An_4))]) (w1 := [(ph, .inr (0, [.int x1, .int r_1, .int u_cl_2, .int u_rf_3, .int pr, .ref pn, .int 0, .int go, .int gc, .ref pg, .ref ps, .ref po, .ref pc, .ref pe, .ref p1, .ref p2, .ref pz])), (p1, .inr (1, [.long u_a1_12, .long u_b1_13, .long u_c1_14]))]) hP hD [0, 2] [1] rfl rfl (by decide) (by decide) hk1 hFc hP1 hD1
    generalize H1 = H at hP hS ⊢
    have hP : va_P (dC, dI) vwCl [(pn, .inl (tn, 1908, .inl u_An_4)), (ph, .inr (0, [.int x1, .int r_1, .int u_cl_2, .int u_rf_3, .int pr, .ref pn, .int 0, .int go, .int gc, .ref pg, .ref ps, .ref po, .ref pc, .ref pe, .ref p1, .ref p2, .ref pz])), (p1, .inr (1, [.long u_a1_12, .long u_b1_13, .long u_c1_14]))] H := hP
    have hD : va_D A [(pn, .inl (tn, 1908, .inl u_An_4)), (ph, .inr (0, [.int x1, .int r_1, .int u_cl_2, .int u_rf_3, .int pr, .ref pn, .int 0, .int go, .int gc, .ref pg, .ref ps, .ref po, .ref pc, .ref pe, .ref p1, .ref p2, .ref pz])), (p1, .inr (1, [.long u_a1_12, .long u_b1_13, .long u_c1_14]))] := hD
    refine lv_aload_n hx hb dX0_become_71 rfl (lv_at hl 1 rfl) ?_
    refine lv_aload_n hx hb dX0_become_72 rfl (lv_at hl 1 rfl) ?_
    refine lv_aload_n hx hb dX0_become_73 rfl (lv_at hl 1 rfl) ?_
    refine lv_aload_n hx hb dX0_become_74 rfl (lv_at hl 1 rfl) ?_
    refine va_get (D := (dC, dI)) (ci := 0) (v := .ref p1) (C := "ClassGroup") (T := TX0) (N := 17) hx hb hts (fun w h => List.mem_cons_of_mem _ (iwX0 w h)) hown hK hP 1 rfl rfl 14 (by decide) (hts _ (List.mem_cons_of_mem _ kw_164)) (fun _ h9 => h9) rfl dX0_become_75 ?_
    obtain ⟨xc78, hc78, hf⟩ := ok_b hf
    have hPc := hP.sub (ws' := [(ph, .inr (0, [.int x1, .int r_1, .int u_cl_2, .int u_rf_3, .int pr, .ref pn, .int 0, .int go, .int gc, .ref pg, .ref ps, .ref po, .ref pc, .ref pe, .ref p1, .ref p2, .ref pz])), (p1, .inr (1, [.long u_a1_12, .long u_b1_13, .long u_c1_14]))]) [1, 2] rfl
    have hDc := hD.sub (ws' := [(ph, .inr (0, [.int x1, .int r_1, .int u_cl_2, .int u_rf_3, .int pr, .ref pn, .int 0, .int go, .int gc, .ref pg, .ref ps, .ref po, .ref pc, .ref pe, .ref p1, .ref p2, .ref pz])), (p1, .inr (1, [.long u_a1_12, .long u_b1_13, .long u_c1_14]))]) [1, 2] (by decide) rfl
    have hKc := hK.sub (tys' := []) [] rfl
    have hFc := va_free (wc := [(ph, .inr (0, [.int x1, .int r_1, .int u_cl_2, .int u_rf_3, .int pr, .ref pn, .int 0, .int go, .int gc, .ref pg, .ref ps, .ref po, .ref pc, .ref pe, .ref p1, .ref p2, .ref pz])), (p1, .inr (1, [.long u_a1_12, .long u_b1_13, .long u_c1_14]))]) hD hS hA [1, 2] rfl
    refine va_calli (va_runV (As := [.ref p1]) (rest := [.ref ph, .ref ph]) ⟨hx, hb, hml, hown, hts⟩ (c_leastKey l dC dI ph x1 r_1 u_cl_2 u_rf_3 pr pn 0 go gc pg ps po pc pe p1 p2 pz p1 u_a1_12 u_b1_13 u_c1_14 H.size F xc78 hc78) (cwV 1 hts (gwV kw_135 kw_137 ks_12 kw_1 kw_138) rfl rfl rfl (by decide +kernel) ⟨Nat.le_of_ble_eq_true rfl, Nat.le_of_ble_eq_true rfl⟩) ⟨fun a U g mk q => by obtain ⟨q0, q1, qP, qK, qD⟩ := q; exact ⟨q0, q1, qP, va_K.moved (u := U) (U := U.calling g mk a) (Vm.Alike.refl U.vm) qK, qD⟩, va_recv hKc hPc (ci := 0) (q0 := 0) rfl rfl, fun U hU hW => ⟨rfl, by rw [hU], by rw [hU]; exact hPc, va_K.moved hW.alike hKc, hDc.weaken (fun _ _ _ _ => trivial)⟩⟩ rfl rfl hl.1 rfl (lv_room (Nat.le_of_ble_eq_true rfl)) dX0_become_78 ⟨Nat.zero_le _, Nat.zero_le _⟩) hS (fun q _ h => hFc q h) hFc (fun r_15 u t H1 locs ht hvm hw hB hz1 hk1 hS => ?_)
    obtain ⟨u_a1_16, u_b1_17, u_c1_18⟩ := u
    obtain ⟨hP1, hK1, hD1⟩ := hB
    rw [ht] at hP1
    subst hw
    obtain ⟨hP, hD⟩ := va_join (wr := [(pn, .inl (tn, 1908, .inl u_An_4))]) (w1 := [(ph, .inr (0, [.int x1, .int r_1, .int u_cl_2, .int u_rf_3, .int pr, .ref pn, .int 0, .int go, .int gc, .ref pg, .ref ps, .ref po, .ref pc, .ref pe, .ref p1, .ref p2, .ref pz])), (p1, .inr (1, [.long u_a1_16, .long u_b1_17, .long u_c1_18]))]) hP hD [1, 2] [0] rfl rfl (by decide) (by decide) hk1 hFc hP1 hD1
    generalize H1 = H at hP hS ⊢
    have hP : va_P (dC, dI) vwCl [(pn, .inl (tn, 1908, .inl u_An_4)), (ph, .inr (0, [.int x1, .int r_1, .int u_cl_2, .int u_rf_3, .int pr, .ref pn, .int 0, .int go, .int gc, .ref pg, .ref ps, .ref po, .ref pc, .ref pe, .ref p1, .ref p2, .ref pz])), (p1, .inr (1, [.long u_a1_16, .long u_b1_17, .long u_c1_18]))] H := hP
    have hD : va_D A [(pn, .inl (tn, 1908, .inl u_An_4)), (ph, .inr (0, [.int x1, .int r_1, .int u_cl_2, .int u_rf_3, .int pr, .ref pn, .int 0, .int go, .int gc, .ref pg, .ref ps, .ref po, .ref pc, .ref pe, .ref p1, .ref p2, .ref pz])), (p1, .inr (1, [.long u_a1_16, .long u_b1_17, .long u_c1_18]))] := hD
    obtain ⟨xc81, hc81, hf⟩ := ok_b hf
    have hPc := hP.sub (ws' := [(ph, .inr (0, [.int x1, .int r_1, .int u_cl_2, .int u_rf_3, .int pr, .ref pn, .int 0, .int go, .int gc, .ref pg, .ref ps, .ref po, .ref pc, .ref pe, .ref p1, .ref p2, .ref pz])), (pn, .inl (tn, 1908, .inl u_An_4))]) [1, 0] rfl
    have hDc := hD.sub (ws' := [(ph, .inr (0, [.int x1, .int r_1, .int u_cl_2, .int u_rf_3, .int pr, .ref pn, .int 0, .int go, .int gc, .ref pg, .ref ps, .ref po, .ref pc, .ref pe, .ref p1, .ref p2, .ref pz])), (pn, .inl (tn, 1908, .inl u_An_4))]) [1, 0] (by decide) rfl
    have hKc := hK.sub (tys' := [(tn, .int)]) [0] rfl
    have hFc := va_free (wc := [(ph, .inr (0, [.int x1, .int r_1, .int u_cl_2, .int u_rf_3, .int pr, .ref pn, .int 0, .int go, .int gc, .ref pg, .ref ps, .ref po, .ref pc, .ref pe, .ref p1, .ref p2, .ref pz])), (pn, .inl (tn, 1908, .inl u_An_4))]) hD hS hA [1, 0] rfl
    refine va_calli (va_runV (As := [.int r_15]) (rest := [.ref ph]) ⟨hx, hb, hml, hown, hts⟩ (c_classAt l dC dI ph x1 r_1 u_cl_2 u_rf_3 pr pn 0 go gc pg ps po pc pe p1 p2 pz tn u_An_4 r_15 H.size F xc81 hc81) (cwV 1 hts (gwV kw_142 kw_144 ks_13 kw_1 kw_145) rfl rfl rfl (by decide +kernel) ⟨Nat.le_of_ble_eq_true rfl, Nat.le_of_ble_eq_true rfl⟩) ⟨fun a U g mk q => by obtain ⟨q0, q1, qP, qK, qD⟩ := q; exact ⟨q0, q1, qP, va_K.moved (u := U) (U := U.calling g mk a) (Vm.Alike.refl U.vm) qK, qD⟩, va_recv hKc hPc (ci := 0) (q0 := 0) rfl rfl, fun U hU hW => ⟨rfl, by rw [hU], by rw [hU]; exact hPc, va_K.moved hW.alike hKc, hDc.weaken (fun _ _ _ _ => trivial)⟩⟩ rfl rfl hl.1 rfl (lv_room (Nat.le_of_ble_eq_true rfl)) dX0_become_81 ⟨Nat.zero_le _, Nat.zero_le _⟩) hS (fun q _ h => hFc q h) hFc (fun r_19 u t H1 locs ht hvm hw hB hz1 hk1 hS => ?_)
    obtain ⟨⟩ := u
    obtain ⟨hP1, hK1, hD1⟩ := hB
    rw [ht] at hP1
    subst hw
    obtain ⟨hP, hD⟩ := va_join (wr := [(p1, .inr (1, [.long u_a1_16, .long u_b1_17, .long u_c1_18]))]) (w1 := [(ph, .inr (0, [.int x1, .int r_1, .int u_cl_2, .int u_rf_3, .int pr, .ref pn, .int 0, .int go, .int gc, .ref pg, .ref ps, .ref po, .ref pc, .ref pe, .ref p1, .ref p2, .ref pz])), (pn, .inl (tn, 1908, .inl u_An_4))]) hP hD [1, 0] [2] rfl rfl (by decide) (by decide) hk1 hFc hP1 hD1
    generalize H1 = H at hP hS ⊢
    have hP : va_P (dC, dI) vwCl [(p1, .inr (1, [.long u_a1_16, .long u_b1_17, .long u_c1_18])), (ph, .inr (0, [.int x1, .int r_1, .int u_cl_2, .int u_rf_3, .int pr, .ref pn, .int 0, .int go, .int gc, .ref pg, .ref ps, .ref po, .ref pc, .ref pe, .ref p1, .ref p2, .ref pz])), (pn, .inl (tn, 1908, .inl u_An_4))] H := hP
    have hD : va_D A [(p1, .inr (1, [.long u_a1_16, .long u_b1_17, .long u_c1_18])), (ph, .inr (0, [.int x1, .int r_1, .int u_cl_2, .int u_rf_3, .int pr, .ref pn, .int 0, .int go, .int gc, .ref pg, .ref ps, .ref po, .ref pc, .ref pe, .ref p1, .ref p2, .ref pz])), (pn, .inl (tn, 1908, .inl u_An_4))] := hD
    refine va_put (D := (dC, dI)) (ci := 0) (v := .int r_19) (ty := .int) (C := "ClassGroup") (T := TX0) (N := 17) hx hb hts (fun w h => List.mem_cons_of_mem _ (iwX0 w h)) tyX0 tyokX0 nmX0 hown hK hP hD hS 1 rfl rfl 4 (by decide) (hts _ (List.mem_cons_of_mem _ kw_154)) (fun _ h9 => h9) rfl (by decide +kernel) rfl rfl (Nat.le_of_ble_eq_true rfl) dX0_become_84 (fun H locs hP hD hS => ?_)
    have hP : va_P (dC, dI) vwCl [(p1, .inr (1, [.long u_a1_16, .long u_b1_17, .long u_c1_18])), (ph, .inr (0, [.int x1, .int r_1, .int u_cl_2, .int u_rf_3, .int r_19, .ref pn, .int 0, .int go, .int gc, .ref pg, .ref ps, .ref po, .ref pc, .ref pe, .ref p1, .ref p2, .ref pz])), (pn, .inl (tn, 1908, .inl u_An_4))] H := hP
    have hD : va_D A [(p1, .inr (1, [.long u_a1_16, .long u_b1_17, .long u_c1_18])), (ph, .inr (0, [.int x1, .int r_1, .int u_cl_2, .int u_rf_3, .int r_19, .ref pn, .int 0, .int go, .int gc, .ref pg, .ref ps, .ref po, .ref pc, .ref pe, .ref p1, .ref p2, .ref pz])), (pn, .inl (tn, 1908, .inl u_An_4))] := hD
    have hP9 := hP.sub (ws' := [(ph, .inr (0, [.int x1, .int r_1, .int u_cl_2, .int u_rf_3, .int r_19, .ref pn, .int 0, .int go, .int gc, .ref pg, .ref ps, .ref po, .ref pc, .ref pe, .ref p1, .ref p2, .ref pz])), (pn, .inl (tn, 1908, .inl u_An_4)), (p1, .inr (1, [.long u_a1_16, .long u_b1_17, .long u_c1_18]))]) [1, 2, 0] rfl
    have hD9 := hD.sub (ws' := [(ph, .inr (0, [.int x1, .int r_1, .int u_cl_2, .int u_rf_3, .int r_19, .ref pn, .int 0, .int go, .int gc, .ref pg, .ref ps, .ref po, .ref pc, .ref pe, .ref p1, .ref p2, .ref pz])), (pn, .inl (tn, 1908, .inl u_An_4)), (p1, .inr (1, [.long u_a1_16, .long u_b1_17, .long u_c1_18]))]) [1, 2, 0] (by decide) rfl
    have hK9 := hK.sub (tys' := [(tn, .int)]) [0] rfl
    exact W.vret hx hb hr (fun t ht hW => ⟨⟨(x1, r_1, u_cl_2, u_rf_3, r_19, 0, u_An_4, u_a1_16, u_b1_17, u_c1_18), rfl, (Option.some.inj hf), by rw [ht]; exact hP9, va_K.moved hW.alike hK9, hD9⟩, hS.F ht⟩) hS.2.2 dX0_become_87
  · have hf := ok_f c_29 hf
    refine lv_aload_n hx hb dX0_become_32 rfl (lv_at hl 0 rfl) ?_
    obtain ⟨xc33, hc33, hf⟩ := ok_b hf
    have hPc := hP.sub (ws' := [(ph, .inr (0, [.int x1, .int r_1, .int 0, .int 0, .int pr, .ref pn, .int 0, .int go, .int gc, .ref pg, .ref ps, .ref po, .ref pc, .ref pe, .ref p1, .ref p2, .ref pz])), (pn, .inl (tn, 1908, .inl An))]) [0, 1] rfl
    have hDc := hD.sub (ws' := [(ph, .inr (0, [.int x1, .int r_1, .int 0, .int 0, .int pr, .ref pn, .int 0, .int go, .int gc, .ref pg, .ref ps, .ref po, .ref pc, .ref pe, .ref p1, .ref p2, .ref pz])), (pn, .inl (tn, 1908, .inl An))]) [0, 1] (by decide) rfl
    have hKc := hK.sub (tys' := [(tn, .int)]) [0] rfl
    have hFc := va_free (wc := [(ph, .inr (0, [.int x1, .int r_1, .int 0, .int 0, .int pr, .ref pn, .int 0, .int go, .int gc, .ref pg, .ref ps, .ref po, .ref pc, .ref pe, .ref p1, .ref p2, .ref pz])), (pn, .inl (tn, 1908, .inl An))]) hD hS hA [0, 1] rfl
    refine va_callv (va_runV (As := []) (rest := []) ⟨hx, hb, hml, hown, hts⟩ (c_nameDef l dC dI ph x1 r_1 0 0 pr pn 0 go gc pg ps po pc pe p1 p2 pz tn An H.size F xc33 hc33) (cwV 0 hts (gwV kw_66 kw_68 ks_1 kw_1 kw_69) rfl rfl rfl (by decide +kernel) ⟨Nat.le_of_ble_eq_true rfl, Nat.le_of_ble_eq_true rfl⟩) ⟨fun a U g mk q => by obtain ⟨q0, q1, qP, qK, qD⟩ := q; exact ⟨q0, q1, qP, va_K.moved (u := U) (U := U.calling g mk a) (Vm.Alike.refl U.vm) qK, qD⟩, va_recv hKc hPc (ci := 0) (q0 := 0) rfl rfl, fun U hU hW => ⟨rfl, by rw [hU], by rw [hU]; exact hPc, va_K.moved hW.alike hKc, hDc.weaken (fun _ _ _ _ => trivial)⟩⟩ rfl rfl hl.1 rfl (lv_room (Nat.le_of_ble_eq_true rfl)) dX0_become_33 ⟨Nat.zero_le _, Nat.zero_le _⟩) hS (fun q _ h => hFc q h) hFc (fun u t H1 locs ht hvm hw hB hz1 hk1 hS => ?_)
    obtain ⟨u_cl_20, u_rf_21, u_An_22⟩ := u
    obtain ⟨hP1, hK1, hD1⟩ := hB
    rw [ht] at hP1
    subst hw
    obtain ⟨hP, hD⟩ := va_join (wr := [(p1, .inr (1, [.long a1, .long b1, .long c1]))]) (w1 := [(ph, .inr (0, [.int x1, .int r_1, .int u_cl_20, .int u_rf_21, .int pr, .ref pn, .int 0, .int go, .int gc, .ref pg, .ref ps, .ref po, .ref pc, .ref pe, .ref p1, .ref p2, .ref pz])), (pn, .inl (tn, 1908, .inl u_An_22))]) hP hD [0, 1] [2] rfl rfl (by decide) (by decide) hk1 hFc hP1 hD1
    generalize H1 = H at hP hS ⊢
    have hP : va_P (dC, dI) vwCl [(p1, .inr (1, [.long a1, .long b1, .long c1])), (ph, .inr (0, [.int x1, .int r_1, .int u_cl_20, .int u_rf_21, .int pr, .ref pn, .int 0, .int go, .int gc, .ref pg, .ref ps, .ref po, .ref pc, .ref pe, .ref p1, .ref p2, .ref pz])), (pn, .inl (tn, 1908, .inl u_An_22))] H := hP
    have hD : va_D A [(p1, .inr (1, [.long a1, .long b1, .long c1])), (ph, .inr (0, [.int x1, .int r_1, .int u_cl_20, .int u_rf_21, .int pr, .ref pn, .int 0, .int go, .int gc, .ref pg, .ref ps, .ref po, .ref pc, .ref pe, .ref p1, .ref p2, .ref pz])), (pn, .inl (tn, 1908, .inl u_An_22))] := hD
    refine lv_goto (tgt := 43) hx hb dX0_become_36 (by decide) ?_
    refine lv_iload_n hx hb dX0_become_43 rfl (lv_at hl 1 rfl) ?_
    refine lv_iconst (v := 1) hx hb dX0_become_44 (by decide) ?_
    refine lv_iand hx hb dX0_become_45 ?_
    refine lv_topi (fun v2_23 ev2_23 => ?_)
    replace hf := bnd_ok ev2_23 hf
    refine lv_istore_n (lv' := [(2, .int v2_23), (0, .ref ph), (1, .int x1)]) hx hb dX0_become_46 rfl hl (by decide) rfl (fun ls hl => ?_)
    refine lv_aload_n hx hb dX0_become_47 rfl (lv_at hl 1 rfl) ?_
    refine va_get (D := (dC, dI)) (ci := 0) (v := .ref p1) (C := "ClassGroup") (T := TX0) (N := 17) hx hb hts (fun w h => List.mem_cons_of_mem _ (iwX0 w h)) hown hK hP 1 rfl rfl 14 (by decide) (hts _ (List.mem_cons_of_mem _ kw_164)) (fun _ h9 => h9) rfl dX0_become_48 ?_
    refine lv_lconst (v := 1) hx hb dX0_become_51 (by decide) ?_
    refine lv_iload_n hx hb dX0_become_52 rfl (lv_at hl 0 rfl) ?_
    refine lv_i2l (v := (v2_23).toInt64) hx hb dX0_become_53 rfl ?_
    refine lv_iload_n hx hb dX0_become_54 rfl (lv_at hl 0 rfl) ?_
    refine lv_iload_n hx hb dX0_become_55 rfl (lv_at hl 2 rfl) ?_
    refine lv_isub hx hb dX0_become_56 ?_
    refine lv_iconst (v := 4) hx hb dX0_become_57 (by decide) ?_
    refine lv_idiv hx hb dX0_become_58 (by decide) ?_
    refine lv_i2l (v := (((v2_23 - x1) / 4)).toInt64) hx hb dX0_become_59 rfl ?_
    obtain ⟨xc60, hc60, hf⟩ := ok_b hf
    have hPc := hP.sub (ws' := [(p1, .inr (1, [.long a1, .long b1, .long c1]))]) [0] rfl
    have hDc := hD.sub (ws' := [(p1, .inr (1, [.long a1, .long b1, .long c1]))]) [0] (by decide) rfl
    have hKc := hK.sub (tys' := []) [] rfl
    have hFc := va_free (wc := [(p1, .inr (1, [.long a1, .long b1, .long c1]))]) hD hS hA [0] rfl
    refine va_callv (va_runV (As := [.long 1, .long (v2_23).toInt64, .long (((v2_23 - x1) / 4)).toInt64]) (rest := []) ⟨hx, hb, hml, hown, hts⟩ (c_Form_set l dC dI p1 a1 b1 c1 1 ((v2_23).toInt64) ((((v2_23 - x1) / 4)).toInt64) H.size F xc60 hc60) (cwV 3 hts (gwV kw_104 kw_105 kw_106 kw_2 kw_107) rfl rfl rfl (by decide +kernel) ⟨Nat.le_of_ble_eq_true rfl, Nat.le_of_ble_eq_true rfl⟩) ⟨fun a U g mk q => by obtain ⟨q0, q1, qP, qK, qD⟩ := q; exact ⟨q0, q1, qP, va_K.moved (u := U) (U := U.calling g mk a) (Vm.Alike.refl U.vm) qK, qD⟩, va_recv hKc hPc (ci := 1) (q0 := 0) rfl rfl, fun U hU hW => ⟨rfl, by rw [hU], by rw [hU]; exact hPc, va_K.moved hW.alike hKc, hDc.weaken (fun _ _ _ _ => trivial)⟩⟩ rfl rfl hl.1 rfl (lv_room (Nat.le_of_ble_eq_true rfl)) dX0_become_60 ⟨Nat.zero_le _, Nat.zero_le _⟩) hS (fun q _ h => hFc q h) hFc (fun u t H1 locs ht hvm hw hB hz1 hk1 hS => ?_)
    obtain ⟨u_a1_24, u_b1_25, u_c1_26⟩ := u
    obtain ⟨hP1, hK1, hD1⟩ := hB
    rw [ht] at hP1
    subst hw
    obtain ⟨hP, hD⟩ := va_join (wr := [(ph, .inr (0, [.int x1, .int r_1, .int u_cl_20, .int u_rf_21, .int pr, .ref pn, .int 0, .int go, .int gc, .ref pg, .ref ps, .ref po, .ref pc, .ref pe, .ref p1, .ref p2, .ref pz])), (pn, .inl (tn, 1908, .inl u_An_22))]) (w1 := [(p1, .inr (1, [.long u_a1_24, .long u_b1_25, .long u_c1_26]))]) hP hD [0] [1, 2] rfl rfl (by decide) (by decide) hk1 hFc hP1 hD1
    generalize H1 = H at hP hS ⊢
    have hP : va_P (dC, dI) vwCl [(ph, .inr (0, [.int x1, .int r_1, .int u_cl_20, .int u_rf_21, .int pr, .ref pn, .int 0, .int go, .int gc, .ref pg, .ref ps, .ref po, .ref pc, .ref pe, .ref p1, .ref p2, .ref pz])), (pn, .inl (tn, 1908, .inl u_An_22)), (p1, .inr (1, [.long u_a1_24, .long u_b1_25, .long u_c1_26]))] H := hP
    have hD : va_D A [(ph, .inr (0, [.int x1, .int r_1, .int u_cl_20, .int u_rf_21, .int pr, .ref pn, .int 0, .int go, .int gc, .ref pg, .ref ps, .ref po, .ref pc, .ref pe, .ref p1, .ref p2, .ref pz])), (pn, .inl (tn, 1908, .inl u_An_22)), (p1, .inr (1, [.long u_a1_24, .long u_b1_25, .long u_c1_26]))] := hD
    refine lv_aload_n hx hb dX0_become_63 rfl (lv_at hl 1 rfl) ?_
    refine lv_aload_n hx hb dX0_become_64 rfl (lv_at hl 1 rfl) ?_
    refine va_get (D := (dC, dI)) (ci := 0) (v := .ref p1) (C := "ClassGroup") (T := TX0) (N := 17) hx hb hts (fun w h => List.mem_cons_of_mem _ (iwX0 w h)) hown hK hP 0 rfl rfl 14 (by decide) (hts _ (List.mem_cons_of_mem _ kw_164)) (fun _ h9 => h9) rfl dX0_become_65 ?_
    obtain ⟨xc68, hc68, hf⟩ := ok_b hf
    have hPc := hP.sub (ws' := [(ph, .inr (0, [.int x1, .int r_1, .int u_cl_20, .int u_rf_21, .int pr, .ref pn, .int 0, .int go, .int gc, .ref pg, .ref ps, .ref po, .ref pc, .ref pe, .ref p1, .ref p2, .ref pz])), (p1, .inr (1, [.long u_a1_24, .long u_b1_25, .long u_c1_26]))]) [0, 2] rfl
    have hDc := hD.sub (ws' := [(ph, .inr (0, [.int x1, .int r_1, .int u_cl_20, .int u_rf_21, .int pr, .ref pn, .int 0, .int go, .int gc, .ref pg, .ref ps, .ref po, .ref pc, .ref pe, .ref p1, .ref p2, .ref pz])), (p1, .inr (1, [.long u_a1_24, .long u_b1_25, .long u_c1_26]))]) [0, 2] (by decide) rfl
    have hKc := hK.sub (tys' := []) [] rfl
    have hFc := va_free (wc := [(ph, .inr (0, [.int x1, .int r_1, .int u_cl_20, .int u_rf_21, .int pr, .ref pn, .int 0, .int go, .int gc, .ref pg, .ref ps, .ref po, .ref pc, .ref pe, .ref p1, .ref p2, .ref pz])), (p1, .inr (1, [.long u_a1_24, .long u_b1_25, .long u_c1_26]))]) hD hS hA [0, 2] rfl
    refine va_callv (va_runV (As := [.ref p1]) (rest := []) ⟨hx, hb, hml, hown, hts⟩ (c_reduce l dC dI ph x1 r_1 u_cl_20 u_rf_21 pr pn 0 go gc pg ps po pc pe p1 p2 pz p1 u_a1_24 u_b1_25 u_c1_26 H.size F xc68 hc68) (cwV 1 hts (gwV kw_127 kw_129 ks_10 kw_1 kw_130) rfl rfl rfl (by decide +kernel) ⟨Nat.le_of_ble_eq_true rfl, Nat.le_of_ble_eq_true rfl⟩) ⟨fun a U g mk q => by obtain ⟨q0, q1, qP, qK, qD⟩ := q; exact ⟨q0, q1, qP, va_K.moved (u := U) (U := U.calling g mk a) (Vm.Alike.refl U.vm) qK, qD⟩, va_recv hKc hPc (ci := 0) (q0 := 0) rfl rfl, fun U hU hW => ⟨rfl, by rw [hU], by rw [hU]; exact hPc, va_K.moved hW.alike hKc, hDc.weaken (fun _ _ _ _ => trivial)⟩⟩ rfl rfl hl.1 rfl (lv_room (Nat.le_of_ble_eq_true rfl)) dX0_become_68 ⟨Nat.zero_le _, Nat.zero_le _⟩) hS (fun q _ h => hFc q h) hFc (fun u t H1 locs ht hvm hw hB hz1 hk1 hS => ?_)
    obtain ⟨u_a1_27, u_b1_28, u_c1_29⟩ := u
    obtain ⟨hP1, hK1, hD1⟩ := hB
    rw [ht] at hP1
    subst hw
    obtain ⟨hP, hD⟩ := va_join (wr := [(pn, .inl (tn, 1908, .inl u_An_22))]) (w1 := [(ph, .inr (0, [.int x1, .int r_1, .int u_cl_20, .int u_rf_21, .int pr, .ref pn, .int 0, .int go, .int gc, .ref pg, .ref ps, .ref po, .ref pc, .ref pe, .ref p1, .ref p2, .ref pz])), (p1, .inr (1, [.long u_a1_27, .long u_b1_28, .long u_c1_29]))]) hP hD [0, 2] [1] rfl rfl (by decide) (by decide) hk1 hFc hP1 hD1
    generalize H1 = H at hP hS ⊢
    have hP : va_P (dC, dI) vwCl [(pn, .inl (tn, 1908, .inl u_An_22)), (ph, .inr (0, [.int x1, .int r_1, .int u_cl_20, .int u_rf_21, .int pr, .ref pn, .int 0, .int go, .int gc, .ref pg, .ref ps, .ref po, .ref pc, .ref pe, .ref p1, .ref p2, .ref pz])), (p1, .inr (1, [.long u_a1_27, .long u_b1_28, .long u_c1_29]))] H := hP
    have hD : va_D A [(pn, .inl (tn, 1908, .inl u_An_22)), (ph, .inr (0, [.int x1, .int r_1, .int u_cl_20, .int u_rf_21, .int pr, .ref pn, .int 0, .int go, .int gc, .ref pg, .ref ps, .ref po, .ref pc, .ref pe, .ref p1, .ref p2, .ref pz])), (p1, .inr (1, [.long u_a1_27, .long u_b1_28, .long u_c1_29]))] := hD
    refine lv_aload_n hx hb dX0_become_71 rfl (lv_at hl 1 rfl) ?_
    refine lv_aload_n hx hb dX0_become_72 rfl (lv_at hl 1 rfl) ?_
    refine lv_aload_n hx hb dX0_become_73 rfl (lv_at hl 1 rfl) ?_
    refine lv_aload_n hx hb dX0_become_74 rfl (lv_at hl 1 rfl) ?_
    refine va_get (D := (dC, dI)) (ci := 0) (v := .ref p1) (C := "ClassGroup") (T := TX0) (N := 17) hx hb hts (fun w h => List.mem_cons_of_mem _ (iwX0 w h)) hown hK hP 1 rfl rfl 14 (by decide) (hts _ (List.mem_cons_of_mem _ kw_164)) (fun _ h9 => h9) rfl dX0_become_75 ?_
    obtain ⟨xc78, hc78, hf⟩ := ok_b hf
    have hPc := hP.sub (ws' := [(ph, .inr (0, [.int x1, .int r_1, .int u_cl_20, .int u_rf_21, .int pr, .ref pn, .int 0, .int go, .int gc, .ref pg, .ref ps, .ref po, .ref pc, .ref pe, .ref p1, .ref p2, .ref pz])), (p1, .inr (1, [.long u_a1_27, .long u_b1_28, .long u_c1_29]))]) [1, 2] rfl
    have hDc := hD.sub (ws' := [(ph, .inr (0, [.int x1, .int r_1, .int u_cl_20, .int u_rf_21, .int pr, .ref pn, .int 0, .int go, .int gc, .ref pg, .ref ps, .ref po, .ref pc, .ref pe, .ref p1, .ref p2, .ref pz])), (p1, .inr (1, [.long u_a1_27, .long u_b1_28, .long u_c1_29]))]) [1, 2] (by decide) rfl
    have hKc := hK.sub (tys' := []) [] rfl
    have hFc := va_free (wc := [(ph, .inr (0, [.int x1, .int r_1, .int u_cl_20, .int u_rf_21, .int pr, .ref pn, .int 0, .int go, .int gc, .ref pg, .ref ps, .ref po, .ref pc, .ref pe, .ref p1, .ref p2, .ref pz])), (p1, .inr (1, [.long u_a1_27, .long u_b1_28, .long u_c1_29]))]) hD hS hA [1, 2] rfl
    refine va_calli (va_runV (As := [.ref p1]) (rest := [.ref ph, .ref ph]) ⟨hx, hb, hml, hown, hts⟩ (c_leastKey l dC dI ph x1 r_1 u_cl_20 u_rf_21 pr pn 0 go gc pg ps po pc pe p1 p2 pz p1 u_a1_27 u_b1_28 u_c1_29 H.size F xc78 hc78) (cwV 1 hts (gwV kw_135 kw_137 ks_12 kw_1 kw_138) rfl rfl rfl (by decide +kernel) ⟨Nat.le_of_ble_eq_true rfl, Nat.le_of_ble_eq_true rfl⟩) ⟨fun a U g mk q => by obtain ⟨q0, q1, qP, qK, qD⟩ := q; exact ⟨q0, q1, qP, va_K.moved (u := U) (U := U.calling g mk a) (Vm.Alike.refl U.vm) qK, qD⟩, va_recv hKc hPc (ci := 0) (q0 := 0) rfl rfl, fun U hU hW => ⟨rfl, by rw [hU], by rw [hU]; exact hPc, va_K.moved hW.alike hKc, hDc.weaken (fun _ _ _ _ => trivial)⟩⟩ rfl rfl hl.1 rfl (lv_room (Nat.le_of_ble_eq_true rfl)) dX0_become_78 ⟨Nat.zero_le _, Nat.zero_le _⟩) hS (fun q _ h => hFc q h) hFc (fun r_30 u t H1 locs ht hvm hw hB hz1 hk1 hS => ?_)
    obtain ⟨u_a1_31, u_b1_32, u_c1_33⟩ := u
    obtain ⟨hP1, hK1, hD1⟩ := hB
    rw [ht] at hP1
    subst hw
    obtain ⟨hP, hD⟩ := va_join (wr := [(pn, .inl (tn, 1908, .inl u_An_22))]) (w1 := [(ph, .inr (0, [.int x1, .int r_1, .int u_cl_20, .int u_rf_21, .int pr, .ref pn, .int 0, .int go, .int gc, .ref pg, .ref ps, .ref po, .ref pc, .ref pe, .ref p1, .ref p2, .ref pz])), (p1, .inr (1, [.long u_a1_31, .long u_b1_32, .long u_c1_33]))]) hP hD [1, 2] [0] rfl rfl (by decide) (by decide) hk1 hFc hP1 hD1
    generalize H1 = H at hP hS ⊢
    have hP : va_P (dC, dI) vwCl [(pn, .inl (tn, 1908, .inl u_An_22)), (ph, .inr (0, [.int x1, .int r_1, .int u_cl_20, .int u_rf_21, .int pr, .ref pn, .int 0, .int go, .int gc, .ref pg, .ref ps, .ref po, .ref pc, .ref pe, .ref p1, .ref p2, .ref pz])), (p1, .inr (1, [.long u_a1_31, .long u_b1_32, .long u_c1_33]))] H := hP
    have hD : va_D A [(pn, .inl (tn, 1908, .inl u_An_22)), (ph, .inr (0, [.int x1, .int r_1, .int u_cl_20, .int u_rf_21, .int pr, .ref pn, .int 0, .int go, .int gc, .ref pg, .ref ps, .ref po, .ref pc, .ref pe, .ref p1, .ref p2, .ref pz])), (p1, .inr (1, [.long u_a1_31, .long u_b1_32, .long u_c1_33]))] := hD
    obtain ⟨xc81, hc81, hf⟩ := ok_b hf
    have hPc := hP.sub (ws' := [(ph, .inr (0, [.int x1, .int r_1, .int u_cl_20, .int u_rf_21, .int pr, .ref pn, .int 0, .int go, .int gc, .ref pg, .ref ps, .ref po, .ref pc, .ref pe, .ref p1, .ref p2, .ref pz])), (pn, .inl (tn, 1908, .inl u_An_22))]) [1, 0] rfl
    have hDc := hD.sub (ws' := [(ph, .inr (0, [.int x1, .int r_1, .int u_cl_20, .int u_rf_21, .int pr, .ref pn, .int 0, .int go, .int gc, .ref pg, .ref ps, .ref po, .ref pc, .ref pe, .ref p1, .ref p2, .ref pz])), (pn, .inl (tn, 1908, .inl u_An_22))]) [1, 0] (by decide) rfl
    have hKc := hK.sub (tys' := [(tn, .int)]) [0] rfl
    have hFc := va_free (wc := [(ph, .inr (0, [.int x1, .int r_1, .int u_cl_20, .int u_rf_21, .int pr, .ref pn, .int 0, .int go, .int gc, .ref pg, .ref ps, .ref po, .ref pc, .ref pe, .ref p1, .ref p2, .ref pz])), (pn, .inl (tn, 1908, .inl u_An_22))]) hD hS hA [1, 0] rfl
    refine va_calli (va_runV (As := [.int r_30]) (rest := [.ref ph]) ⟨hx, hb, hml, hown, hts⟩ (c_classAt l dC dI ph x1 r_1 u_cl_20 u_rf_21 pr pn 0 go gc pg ps po pc pe p1 p2 pz tn u_An_22 r_30 H.size F xc81 hc81) (cwV 1 hts (gwV kw_142 kw_144 ks_13 kw_1 kw_145) rfl rfl rfl (by decide +kernel) ⟨Nat.le_of_ble_eq_true rfl, Nat.le_of_ble_eq_true rfl⟩) ⟨fun a U g mk q => by obtain ⟨q0, q1, qP, qK, qD⟩ := q; exact ⟨q0, q1, qP, va_K.moved (u := U) (U := U.calling g mk a) (Vm.Alike.refl U.vm) qK, qD⟩, va_recv hKc hPc (ci := 0) (q0 := 0) rfl rfl, fun U hU hW => ⟨rfl, by rw [hU], by rw [hU]; exact hPc, va_K.moved hW.alike hKc, hDc.weaken (fun _ _ _ _ => trivial)⟩⟩ rfl rfl hl.1 rfl (lv_room (Nat.le_of_ble_eq_true rfl)) dX0_become_81 ⟨Nat.zero_le _, Nat.zero_le _⟩) hS (fun q _ h => hFc q h) hFc (fun r_34 u t H1 locs ht hvm hw hB hz1 hk1 hS => ?_)
    obtain ⟨⟩ := u
    obtain ⟨hP1, hK1, hD1⟩ := hB
    rw [ht] at hP1
    subst hw
    obtain ⟨hP, hD⟩ := va_join (wr := [(p1, .inr (1, [.long u_a1_31, .long u_b1_32, .long u_c1_33]))]) (w1 := [(ph, .inr (0, [.int x1, .int r_1, .int u_cl_20, .int u_rf_21, .int pr, .ref pn, .int 0, .int go, .int gc, .ref pg, .ref ps, .ref po, .ref pc, .ref pe, .ref p1, .ref p2, .ref pz])), (pn, .inl (tn, 1908, .inl u_An_22))]) hP hD [1, 0] [2] rfl rfl (by decide) (by decide) hk1 hFc hP1 hD1
    generalize H1 = H at hP hS ⊢
    have hP : va_P (dC, dI) vwCl [(p1, .inr (1, [.long u_a1_31, .long u_b1_32, .long u_c1_33])), (ph, .inr (0, [.int x1, .int r_1, .int u_cl_20, .int u_rf_21, .int pr, .ref pn, .int 0, .int go, .int gc, .ref pg, .ref ps, .ref po, .ref pc, .ref pe, .ref p1, .ref p2, .ref pz])), (pn, .inl (tn, 1908, .inl u_An_22))] H := hP
    have hD : va_D A [(p1, .inr (1, [.long u_a1_31, .long u_b1_32, .long u_c1_33])), (ph, .inr (0, [.int x1, .int r_1, .int u_cl_20, .int u_rf_21, .int pr, .ref pn, .int 0, .int go, .int gc, .ref pg, .ref ps, .ref po, .ref pc, .ref pe, .ref p1, .ref p2, .ref pz])), (pn, .inl (tn, 1908, .inl u_An_22))] := hD
    refine va_put (D := (dC, dI)) (ci := 0) (v := .int r_34) (ty := .int) (C := "ClassGroup") (T := TX0) (N := 17) hx hb hts (fun w h => List.mem_cons_of_mem _ (iwX0 w h)) tyX0 tyokX0 nmX0 hown hK hP hD hS 1 rfl rfl 4 (by decide) (hts _ (List.mem_cons_of_mem _ kw_154)) (fun _ h9 => h9) rfl (by decide +kernel) rfl rfl (Nat.le_of_ble_eq_true rfl) dX0_become_84 (fun H locs hP hD hS => ?_)
    have hP : va_P (dC, dI) vwCl [(p1, .inr (1, [.long u_a1_31, .long u_b1_32, .long u_c1_33])), (ph, .inr (0, [.int x1, .int r_1, .int u_cl_20, .int u_rf_21, .int r_34, .ref pn, .int 0, .int go, .int gc, .ref pg, .ref ps, .ref po, .ref pc, .ref pe, .ref p1, .ref p2, .ref pz])), (pn, .inl (tn, 1908, .inl u_An_22))] H := hP
    have hD : va_D A [(p1, .inr (1, [.long u_a1_31, .long u_b1_32, .long u_c1_33])), (ph, .inr (0, [.int x1, .int r_1, .int u_cl_20, .int u_rf_21, .int r_34, .ref pn, .int 0, .int go, .int gc, .ref pg, .ref ps, .ref po, .ref pc, .ref pe, .ref p1, .ref p2, .ref pz])), (pn, .inl (tn, 1908, .inl u_An_22))] := hD
    have hP9 := hP.sub (ws' := [(ph, .inr (0, [.int x1, .int r_1, .int u_cl_20, .int u_rf_21, .int r_34, .ref pn, .int 0, .int go, .int gc, .ref pg, .ref ps, .ref po, .ref pc, .ref pe, .ref p1, .ref p2, .ref pz])), (pn, .inl (tn, 1908, .inl u_An_22)), (p1, .inr (1, [.long u_a1_31, .long u_b1_32, .long u_c1_33]))]) [1, 2, 0] rfl
    have hD9 := hD.sub (ws' := [(ph, .inr (0, [.int x1, .int r_1, .int u_cl_20, .int u_rf_21, .int r_34, .ref pn, .int 0, .int go, .int gc, .ref pg, .ref ps, .ref po, .ref pc, .ref pe, .ref p1, .ref p2, .ref pz])), (pn, .inl (tn, 1908, .inl u_An_22)), (p1, .inr (1, [.long u_a1_31, .long u_b1_32, .long u_c1_33]))]) [1, 2, 0] (by decide) rfl
    have hK9 := hK.sub (tys' := [(tn, .int)]) [0] rfl
    exact W.vret hx hb hr (fun t ht hW => ⟨⟨(x1, r_1, u_cl_20, u_rf_21, r_34, 0, u_An_22, u_a1_31, u_b1_32, u_c1_33), rfl, (Option.some.inj hf), by rw [ht]; exact hP9, va_K.moved hW.alike hK9, hD9⟩, hS.F ht⟩) hS.2.2 dX0_become_87

