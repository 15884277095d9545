def f_p_take (F : Nat) (An : Nat → Int32) (a1 : Int64) (b1 : Int64) (c1 : Int64) (x1 : Int32) : Option (Int32 × Int32 × Int32 × Int32 × Int32 × Int32 × Int32 × (Nat → Int32) × Int64 × Int64 × Int64) := Option.bind (f_canTake F x1) (fun r_1 => (if r_1 = 0 then none else Option.bind (f_become F An a1 b1 c1 x1) (fun (u_dd_2, u_rt_3, u_cl_4, u_rf_5, u_pr_6, u_gk_7, u_An_8, u_a1_9, u_b1_10, u_c1_11) => some (u_cl_4, u_dd_2, u_rt_3, u_cl_4, u_rf_5, u_pr_6, u_gk_7, u_An_8, u_a1_9, u_b1_10, u_c1_11))))
set_option maxHeartbeats 4000000 in
set_option maxRecDepth 100000 in
theorem c_p_take (l : Launch) (dC : Nat → ClassId) (dI : Nat → Nat → Nat) (ph : Nat) (dd : Int32) (rt : Int32) (cl : Int32) (rf : Int32) (pr : Int32) (pn : Nat) (gk : Int32) (go : Int32) (gc : Int32) (pg : Nat) (ps : Nat) (po : Nat) (pc : Nat) (pe : Nat) (p1 : Nat) (p2 : Nat) (pz : Nat) (tn : ClassId) (An : Nat → Int32) (a1 : Int64) (b1 : Int64) (c1 : Int64) (x1 : Int32) (sz : Nat) (F : Nat) (out : Int32 × Int32 × Int32 × Int32 × Int32 × Int32 × Int32 × (Nat → Int32) × Int64 × Int64 × Int64) (hf : f_p_take F An a1 b1 c1 x1 = some out) : Met l yX0_take wsX0_take ({ frames := 7, cells := 0, slots := 0, locals := 168 }) (va_Pc [.ref ph, .int x1] (fun U => U.heap.size = sz ∧ va_P (dC, dI) vwCl [(ph, .inr (0, [.int dd, .int rt, .int cl, .int rf, .int pr, .ref pn, .int gk, .int go, .int gc, .ref pg, .ref ps, .ref po, .ref pc, .ref pe, .ref p1, .ref p2, .ref pz])), (pn, .inl (tn, 1908, .inl An)), (p1, .inr (1, [.long a1, .long b1, .long c1]))] U.heap ∧ va_K (dC, dI) vwCl [(tn, .int)] U ∧ va_D (fun _ => True) [(ph, .inr (0, [.int dd, .int rt, .int cl, .int rf, .int pr, .ref pn, .int gk, .int go, .int gc, .ref pg, .ref ps, .ref po, .ref pc, .ref pe, .ref p1, .ref p2, .ref pz])), (pn, .inl (tn, 1908, .inl An)), (p1, .inr (1, [.long a1, .long b1, .long c1]))])) (va_Qi (fun (r : Int32) (u : Int32 × Int32 × Int32 × Int32 × Int32 × Int32 × (Nat → Int32) × Int64 × Int64 × Int64) => (r, u) = out) (fun (u : Int32 × Int32 × Int32 × Int32 × Int32 × Int32 × (Nat → Int32) × Int64 × Int64 × Int64) t => match u with | (u_dd, u_rt, u_cl, u_rf, u_pr, u_gk, u_An, u_a1, u_b1, u_c1) => va_P (dC, dI) vwCl [(ph, .inr (0, [.int u_dd, .int u_rt, .int u_cl, .int u_rf, .int u_pr, .ref pn, .int u_gk, .int go, .int gc, .ref pg, .ref ps, .ref po, .ref pc, .ref pe, .ref p1, .ref p2, .ref pz])), (pn, .inl (tn, 1908, .inl u_An)), (p1, .inr (1, [.long u_a1, .long u_b1, .long u_c1]))] t.heap ∧ va_K (dC, dI) vwCl [(tn, .int)] t ∧ va_D (va_A [(ph, .inr (0, [.int dd, .int rt, .int cl, .int rf, .int pr, .ref pn, .int gk, .int go, .int gc, .ref pg, .ref ps, .ref po, .ref pc, .ref pe, .ref p1, .ref p2, .ref pz])), (pn, .inl (tn, 1908, .inl An)), (p1, .inr (1, [.long a1, .long b1, .long c1]))] sz) [(ph, .inr (0, [.int u_dd, .int u_rt, .int u_cl, .int u_rf, .int u_pr, .ref pn, .int u_gk, .int go, .int gc, .ref pg, .ref ps, .ref po, .ref pc, .ref pe, .ref p1, .ref p2, .ref pz])), (pn, .inl (tn, 1908, .inl u_An)), (p1, .inr (1, [.long u_a1, .long u_b1, .long u_c1]))]) (va_A [(ph, .inr (0, [.int dd, .int rt, .int cl, .int rf, .int pr, .ref pn, .int gk, .int go, .int gc, .ref pg, .ref ps, .ref po, .ref pc, .ref pe, .ref p1, .ref p2, .ref pz])), (pn, .inl (tn, 1908, .inl An)), (p1, .inr (1, [.long a1, .long b1, .long c1]))] sz)) 0 0 (va_A [(ph, .inr (0, [.int dd, .int rt, .int cl, .int rf, .int pr, .ref pn, .int gk, .int go, .int gc, .ref pg, .ref ps, .ref po, .ref pc, .ref pe, .ref p1, .ref p2, .ref pz])), (pn, .inl (tn, 1908, .inl An)), (p1, .inr (1, [.long a1, .long b1, .long c1]))] sz) := by
  refine Met.ofW (cc := cX0_take) (maxL := 2) (ret := (some .int)) (by decide +kernel) rfl ?_
  intro p e s m args below meth c s₁ B hml hv
  obtain ⟨rfl, hsz, hP, hK, hD0⟩ := hv
  have hx := B.exec
  have hb := B.bytes
  have hr := B.returns
  have hts := atoms_spec (ws := wsX0_take) B.pre
  have hown : s.vm.findClass "ClassGroup" = some m.cls := findClass_of_methodNamed B.named
  have hlocks := B.notSynchronized
  subst hsz
  have hD := hD0.self (sz := s.heap.size)
  generalize hAe : va_A [(ph, .inr (0, [.int dd, .int rt, .int cl, .int rf, .int pr, .ref pn, .int gk, .int go, .int gc, .ref pg, .ref ps, .ref po, .ref pc, .ref pe, .ref p1, .ref p2, .ref pz])), (pn, .inl (tn, 1908, .inl An)), (p1, .inr (1, [.long a1, .long b1, .long c1]))] s.heap.size = A at hD ⊢
  have hA : ∀ q : Nat, s.heap.size ≤ q → A q := fun q h => by rw [← hAe]; exact Or.inr h
  have hS : va_S A s.heap s.heap [] := va_S.rf
  have hl := lv_entry ([.ref ph, .int x1]) (n := 2) (Nat.le_of_ble_eq_true rfl)
  rw [lg_entry_eq]
  generalize (lg_sl ([.ref ph, .int x1]) ++ List.replicate (2 - (lg_sl ([.ref ph, .int x1])).length) Slot.unset).toArray = ls at hl ⊢
  have hl : lv_has ls 2 [(0, .ref ph), (1, .int x1)] := hl
  unfold f_p_take at hf
  refine lv_iload_n hx hb dX0_take_0 rfl (lv_at hl 1 rfl) ?_
  obtain ⟨xc1, hc1, hf⟩ := ok_b hf
  have hPc := hP.sub (ws' := []) [] rfl
  have hDc := hD.sub (ws' := []) [] (by decide) rfl
  have hKc := hK.sub (tys' := []) [] rfl
  have hFc := va_free (wc := []) hD hS hA [] rfl
  refine va_calli (va_runS (As := [.int x1]) (rest := []) ⟨hx, hb, hml, hown, hts⟩ (c_canTake l dC dI x1 s.heap.size F xc1 hc1) (va_cwS 1 hts (gwS kw_264 kw_265 kw_1 kw_266) rfl rfl rfl (by decide +kernel) ⟨Nat.le_of_ble_eq_true rfl, Nat.le_of_ble_eq_true rfl⟩) ⟨fun a U g mk q => by obtain ⟨q0, q1, qP, qK, qD⟩ := q; exact ⟨q0, q1, qP, va_K.moved (u := U) (U := U.calling g mk a) (Vm.Alike.refl U.vm) qK, qD⟩, fun U hU hW => ⟨rfl, by rw [hU], by rw [hU]; exact hPc, va_K.moved hW.alike hKc, hDc.weaken (fun _ _ _ _ => trivial)⟩⟩ rfl rfl hl.1 rfl (lv_room (Nat.le_of_ble_eq_true rfl)) dX0_take_1 ⟨Nat.zero_le _, Nat.zero_le _⟩) hS (fun q _ h => hFc q h) hFc (fun r_1 u t H1 locs ht hvm hw hB hz1 hk1 hS => ?_)
  obtain ⟨⟩ := u
  obtain ⟨hP1, hK1, hD1⟩ := hB
  rw [ht] at hP1
  subst hw
  obtain ⟨hP, hD⟩ := va_join (wr := [(ph, .inr (0, [.int dd, .int rt, .int cl, .int rf, .int pr, .ref pn, .int gk, .int go, .int gc, .ref pg, .ref ps, .ref po, .ref pc, .ref pe, .ref p1, .ref p2, .ref pz])), (pn, .inl (tn, 1908, .inl An)), (p1, .inr (1, [.long a1, .long b1, .long c1]))]) (w1 := []) hP hD [] [0, 1, 2] rfl rfl (by decide) (by decide) hk1 hFc hP1 hD1
  generalize H1 = H at hP hS ⊢
  have hP : va_P (dC, dI) vwCl [(ph, .inr (0, [.int dd, .int rt, .int cl, .int rf, .int pr, .ref pn, .int gk, .int go, .int gc, .ref pg, .ref ps, .ref po, .ref pc, .ref pe, .ref p1, .ref p2, .ref pz])), (pn, .inl (tn, 1908, .inl An)), (p1, .inr (1, [.long a1, .long b1, .long c1]))] H := hP
  have hD : va_D A [(ph, .inr (0, [.int dd, .int rt, .int cl, .int rf, .int pr, .ref pn, .int gk, .int go, .int gc, .ref pg, .ref ps, .ref po, .ref pc, .ref pe, .ref p1, .ref p2, .ref pz])), (pn, .inl (tn, 1908, .inl An)), (p1, .inr (1, [.long a1, .long b1, .long c1]))] := hD
  refine lv_if_ne (tgt := 17) hx hb dX0_take_4 (by decide) (fun c_4 => ?_) (fun c_4 => ?_)
  · have hf := ok_f c_4 hf
    refine lv_aload_n hx hb dX0_take_17 rfl (lv_at hl 0 rfl) ?_
    refine lv_iload_n hx hb dX0_take_18 rfl (lv_at hl 1 rfl) ?_
    obtain ⟨xc19, hc19, hf⟩ := ok_b hf
    have hPc := hP.sub (ws' := [(ph, .inr (0, [.int dd, .int rt, .int cl, .int rf, .int pr, .ref pn, .int gk, .int go, .int gc, .ref pg, .ref ps, .ref po, .ref pc, .ref pe, .ref p1, .ref p2, .ref pz])), (pn, .inl (tn, 1908, .inl An)), (p1, .inr (1, [.long a1, .long b1, .long c1]))]) [0, 1, 2] rfl
    have hDc := hD.sub (ws' := [(ph, .inr (0, [.int dd, .int rt, .int cl, .int rf, .int pr, .ref pn, .int gk, .int go, .int gc, .ref pg, .ref ps, .ref po, .ref pc, .ref pe, .ref p1, .ref p2, .ref pz])), (pn, .inl (tn, 1908, .inl An)), (p1, .inr (1, [.long a1, .long b1, .long c1]))]) [0, 1, 2] (by decide) rfl
    have hKc := hK.sub (tys' := [(tn, .int)]) [0] rfl
    have hFc := va_free (wc := [(ph, .inr (0, [.int dd, .int rt, .int cl, .int rf, .int pr, .ref pn, .int gk, .int go, .int gc, .ref pg, .ref ps, .ref po, .ref pc, .ref pe, .ref p1, .ref p2, .ref pz])), (pn, .inl (tn, 1908, .inl An)), (p1, .inr (1, [.long a1, .long b1, .long c1]))]) hD hS hA [0, 1, 2] rfl
    refine va_callv (va_runV (As := [.int x1]) (rest := []) ⟨hx, hb, hml, hown, hts⟩ (c_become l dC dI ph dd rt cl rf pr pn gk go gc pg ps po pc pe p1 p2 pz tn An a1 b1 c1 x1 H.size F xc19 hc19) (cwV 1 hts (gwV kw_59 kw_61 ks_0 kw_1 kw_62) rfl rfl rfl (by decide +kernel) ⟨Nat.le_of_ble_eq_true rfl, Nat.le_of_ble_eq_true rfl⟩) ⟨fun a U g mk q => by obtain ⟨q0, q1, qP, qK, qD⟩ := q; exact ⟨q0, q1, qP, va_K.moved (u := U) (U := U.calling g mk a) (Vm.Alike.refl U.vm) qK, qD⟩, va_recv hKc hPc (ci := 0) (q0 := 0) rfl rfl, fun U hU hW => ⟨rfl, by rw [hU], by rw [hU]; exact hPc, va_K.moved hW.alike hKc, hDc.weaken (fun _ _ _ _ => trivial)⟩⟩ rfl rfl hl.1 rfl (lv_room (Nat.le_of_ble_eq_true rfl)) dX0_take_19 ⟨Nat.zero_le _, Nat.zero_le _⟩) hS (fun q _ h => hFc q h) hFc (fun u t H1 locs ht hvm hw hB hz1 hk1 hS => ?_)
    obtain ⟨u_dd_2, u_rt_3, u_cl_4, u_rf_5, u_pr_6, u_gk_7, u_An_8, u_a1_9, u_b1_10, u_c1_11⟩ := u
    obtain ⟨hP1, hK1, hD1⟩ := hB
    rw [ht] at hP1
    subst hw
    obtain ⟨hP, hD⟩ := va_join (wr := []) (w1 := [(ph, .inr (0, [.int u_dd_2, .int u_rt_3, .int u_cl_4, .int u_rf_5, .int u_pr_6, .ref pn, .int u_gk_7, .int go, .int gc, .ref pg, .ref ps, .ref po, .ref pc, .ref pe, .ref p1, .ref p2, .ref pz])), (pn, .inl (tn, 1908, .inl u_An_8)), (p1, .inr (1, [.long u_a1_9, .long u_b1_10, .long u_c1_11]))]) hP hD [0, 1, 2] [] rfl rfl (by decide) (by decide) hk1 hFc hP1 hD1
    generalize H1 = H at hP hS ⊢
    have hP : va_P (dC, dI) vwCl [(ph, .inr (0, [.int u_dd_2, .int u_rt_3, .int u_cl_4, .int u_rf_5, .int u_pr_6, .ref pn, .int u_gk_7, .int go, .int gc, .ref pg, .ref ps, .ref po, .ref pc, .ref pe, .ref p1, .ref p2, .ref pz])), (pn, .inl (tn, 1908, .inl u_An_8)), (p1, .inr (1, [.long u_a1_9, .long u_b1_10, .long u_c1_11]))] H := hP
    have hD : va_D A [(ph, .inr (0, [.int u_dd_2, .int u_rt_3, .int u_cl_4, .int u_rf_5, .int u_pr_6, .ref pn, .int u_gk_7, .int go, .int gc, .ref pg, .ref ps, .ref po, .ref pc, .ref pe, .ref p1, .ref p2, .ref pz])), (pn, .inl (tn, 1908, .inl u_An_8)), (p1, .inr (1, [.long u_a1_9, .long u_b1_10, .long u_c1_11]))] := hD
    refine lv_aload_n hx hb dX0_take_22 rfl (lv_at hl 0 rfl) ?_
    refine va_get (D := (dC, dI)) (ci := 0) (v := .int u_cl_4) (C := "ClassGroup") (T := TX0) (N := 17) hx hb hts (fun w h => List.mem_cons_of_mem _ (iwX0 w h)) hown hK hP 0 rfl rfl 2 (by decide) (hts _ (List.mem_cons_of_mem _ kw_152)) (fun _ h9 => h9) rfl dX0_take_23 ?_
    have hP9 := hP.sub (ws' := [(ph, .inr (0, [.int u_dd_2, .int u_rt_3, .int u_cl_4, .int u_rf_5, .int u_pr_6, .ref pn, .int u_gk_7, .int go, .int gc, .ref pg, .ref ps, .ref po, .ref pc, .ref pe, .ref p1, .ref p2, .ref pz])), (pn, .inl (tn, 1908, .inl u_An_8)), (p1, .inr (1, [.long u_a1_9, .long u_b1_10, .long u_c1_11]))]) [0, 1, 2] rfl
    have hD9 := hD.sub (ws' := [(ph, .inr (0, [.int u_dd_2, .int u_rt_3, .int u_cl_4, .int u_rf_5, .int u_pr_6, .ref pn, .int u_gk_7, .int go, .int gc, .ref pg, .ref ps, .ref po, .ref pc, .ref pe, .ref p1, .ref p2, .ref pz])), (pn, .inl (tn, 1908, .inl u_An_8)), (p1, .inr (1, [.long u_a1_9, .long u_b1_10, .long u_c1_11]))]) [0, 1, 2] (by decide) rfl
    have hK9 := hK.sub (tys' := [(tn, .int)]) [0] rfl
    exact W.iret (v := u_cl_4) hx hb hr (fun t ht hW => ⟨⟨u_cl_4, (u_dd_2, u_rt_3, u_cl_4, u_rf_5, u_pr_6, u_gk_7, u_An_8, u_a1_9, u_b1_10, u_c1_11), rfl, (Option.some.inj hf), by rw [ht]; exact hP9, va_K.moved hW.alike hK9, hD9⟩, hS.F ht⟩) hS.2.2 dX0_take_26
  · have hf := ok_t c_4 hf
    cases hf

def f_x_take (F : Nat) (x1 : Int32) : Option (Unit) := Option.bind (f_canTake F x1) (fun r_1 => (if r_1 = 0 then some () else none))
set_option maxHeartbeats 4000000 in
set_option maxRecDepth 100000 in
theorem c_x_take (l : Launch) (hlt : l.stackTraces = false) (q0 : Nat) (u1 u2 : Value) (dC : Nat → ClassId) (dI : Nat → Nat → Nat) (ph : Nat) (dd : Int32) (rt : Int32) (cl : Int32) (rf : Int32) (pr : Int32) (pn : Nat) (gk : Int32) (go : Int32) (gc : Int32) (pg : Nat) (ps : Nat) (po : Nat) (pc : Nat) (pe : Nat) (p1 : Nat) (p2 : Nat) (pz : Nat) (tn : ClassId) (An : Nat → Int32) (a1 : Int64) (b1 : Int64) (c1 : Int64) (x1 : Int32) (sz : Nat) (F : Nat) (out : Unit) (hf : f_x_take F x1 = some out) : tw_Met l yX0_take wsX0_take ({ frames := 6, cells := 1, slots := 6, locals := 82 }) (va_Pc [.ref ph, .int x1] (fun U => U.heap.size = sz ∧ va_P (dC, dI) vwCl [(ph, .inr (0, [.int dd, .int rt, .int cl, .int rf, .int pr, .ref pn, .int gk, .int go, .int gc, .ref pg, .ref ps, .ref po, .ref pc, .ref pe, .ref p1, .ref p2, .ref pz])), (pn, .inl (tn, 1908, .inl An)), (p1, .inr (1, [.long a1, .long b1, .long c1]))] U.heap ∧ va_K (dC, dI) vwCl [(tn, .int)] U ∧ va_D (fun _ => True) [(ph, .inr (0, [.int dd, .int rt, .int cl, .int rf, .int pr, .ref pn, .int gk, .int go, .int gc, .ref pg, .ref ps, .ref po, .ref pc, .ref pe, .ref p1, .ref p2, .ref pz])), (pn, .inl (tn, 1908, .inl An)), (p1, .inr (1, [.long a1, .long b1, .long c1]))] ∧ tw_K "ClassGroup" 55 "this discriminant can't be taken" q0 u1 u2 (va_A [(ph, .inr (0, [.int dd, .int rt, .int cl, .int rf, .int pr, .ref pn, .int gk, .int go, .int gc, .ref pg, .ref ps, .ref po, .ref pc, .ref pe, .ref p1, .ref p2, .ref pz])), (pn, .inl (tn, 1908, .inl An)), (p1, .inr (1, [.long a1, .long b1, .long c1]))] sz) U U.heap)) (tw_Qx "java/lang/IllegalArgumentException" (fun (u : Unit) => u = out) (fun (u : Unit) t => match u with | _ => va_P (dC, dI) vwCl [(ph, .inr (0, [.int dd, .int rt, .int cl, .int rf, .int pr, .ref pn, .int gk, .int go, .int gc, .ref pg, .ref ps, .ref po, .ref pc, .ref pe, .ref p1, .ref p2, .ref pz])), (pn, .inl (tn, 1908, .inl An)), (p1, .inr (1, [.long a1, .long b1, .long c1]))] t.heap ∧ va_K (dC, dI) vwCl [(tn, .int)] t ∧ va_D (va_A [(ph, .inr (0, [.int dd, .int rt, .int cl, .int rf, .int pr, .ref pn, .int gk, .int go, .int gc, .ref pg, .ref ps, .ref po, .ref pc, .ref pe, .ref p1, .ref p2, .ref pz])), (pn, .inl (tn, 1908, .inl An)), (p1, .inr (1, [.long a1, .long b1, .long c1]))] sz) [(ph, .inr (0, [.int dd, .int rt, .int cl, .int rf, .int pr, .ref pn, .int gk, .int go, .int gc, .ref pg, .ref ps, .ref po, .ref pc, .ref pe, .ref p1, .ref p2, .ref pz])), (pn, .inl (tn, 1908, .inl An)), (p1, .inr (1, [.long a1, .long b1, .long c1]))]) (va_A [(ph, .inr (0, [.int dd, .int rt, .int cl, .int rf, .int pr, .ref pn, .int gk, .int go, .int gc, .ref pg, .ref ps, .ref po, .ref pc, .ref pe, .ref p1, .ref p2, .ref pz])), (pn, .inl (tn, 1908, .inl An)), (p1, .inr (1, [.long a1, .long b1, .long c1]))] sz)) 1 6 (va_A [(ph, .inr (0, [.int dd, .int rt, .int cl, .int rf, .int pr, .ref pn, .int gk, .int go, .int gc, .ref pg, .ref ps, .ref po, .ref pc, .ref pe, .ref p1, .ref p2, .ref pz])), (pn, .inl (tn, 1908, .inl An)), (p1, .inr (1, [.long a1, .long b1, .long c1]))] sz) := by
  refine tw_ofW (cc := cX0_take) (maxL := 2) (ret := (some .int)) (by decide +kernel) rfl ?_
  intro p e s m args below meth c s₁ B hml hv
  obtain ⟨rfl, hsz, hP, hK, hD0, hKt⟩ := hv
  have hx := B.exec
  have hb := B.bytes
  have hr := B.returns
  have hts := atoms_spec (ws := wsX0_take) B.pre
  have hown : s.vm.findClass "ClassGroup" = some m.cls := findClass_of_methodNamed B.named
  have hlocks := B.notSynchronized
  subst hsz
  have hD := hD0.self (sz := s.heap.size)
  generalize hAe : va_A [(ph, .inr (0, [.int dd, .int rt, .int cl, .int rf, .int pr, .ref pn, .int gk, .int go, .int gc, .ref pg, .ref ps, .ref po, .ref pc, .ref pe, .ref p1, .ref p2, .ref pz])), (pn, .inl (tn, 1908, .inl An)), (p1, .inr (1, [.long a1, .long b1, .long c1]))] s.heap.size = A at hD hKt ⊢
  have hA : ∀ q : Nat, s.heap.size ≤ q → A q := fun q h => by rw [← hAe]; exact Or.inr h
  have hS : va_S A s.heap s.heap [] := va_S.rf
  have hl := lv_entry ([.ref ph, .int x1]) (n := 2) (Nat.le_of_ble_eq_true rfl)
  rw [lg_entry_eq]
  generalize (lg_sl ([.ref ph, .int x1]) ++ List.replicate (2 - (lg_sl ([.ref ph, .int x1])).length) Slot.unset).toArray = ls at hl ⊢
  have hl : lv_has ls 2 [(0, .ref ph), (1, .int x1)] := hl
  unfold f_x_take at hf
  refine lv_iload_n hx hb dX0_take_0 rfl (lv_at hl 1 rfl) ?_
  obtain ⟨xc1, hc1, hf⟩ := ok_b hf
  have hPc := hP.sub (ws' := []) [] rfl
  have hDc := hD.sub (ws' := []) [] (by decide) rfl
  have hKc := hK.sub (tys' := []) [] rfl
  have hFc := va_free (wc := []) hD hS hA [] rfl
  refine va_calli (va_runS (As := [.int x1]) (rest := []) ⟨hx, hb, hml, hown, hts⟩ (c_canTake l dC dI x1 s.heap.size F xc1 hc1) (va_cwS 1 hts (gwS kw_264 kw_265 kw_1 kw_266) rfl rfl rfl (by decide +kernel) ⟨Nat.le_of_ble_eq_true rfl, Nat.le_of_ble_eq_true rfl⟩) ⟨fun a U g mk q => by obtain ⟨q0, q1, qP, qK, qD⟩ := q; exact ⟨q0, q1, qP, va_K.moved (u := U) (U := U.calling g mk a) (Vm.Alike.refl U.vm) qK, qD⟩, fun U hU hW => ⟨rfl, by rw [hU], by rw [hU]; exact hPc, va_K.moved hW.alike hKc, hDc.weaken (fun _ _ _ _ => trivial)⟩⟩ rfl rfl hl.1 rfl (lv_room (Nat.le_of_ble_eq_true rfl)) dX0_take_1 ⟨Nat.zero_le _, Nat.zero_le _⟩) hS (fun q _ h => hFc q h) hFc (fun r_1 u t H1 locs ht hvm hw hB hz1 hk1 hS => ?_)
  obtain ⟨⟩ := u
  obtain ⟨hP1, hK1, hD1⟩ := hB
  rw [ht] at hP1
  subst hw
  obtain ⟨hP, hD⟩ := va_join (wr := [(ph, .inr (0, [.int dd, .int rt, .int cl, .int rf, .int pr, .ref pn, .int gk, .int go, .int gc, .ref pg, .ref ps, .ref po, .ref pc, .ref pe, .ref p1, .ref p2, .ref pz])), (pn, .inl (tn, 1908, .inl An)), (p1, .inr (1, [.long a1, .long b1, .long c1]))]) (w1 := []) hP hD [] [0, 1, 2] rfl rfl (by decide) (by decide) hk1 hFc hP1 hD1
  generalize H1 = H at hP hS ⊢
  have hP : va_P (dC, dI) vwCl [(ph, .inr (0, [.int dd, .int rt, .int cl, .int rf, .int pr, .ref pn, .int gk, .int go, .int gc, .ref pg, .ref ps, .ref po, .ref pc, .ref pe, .ref p1, .ref p2, .ref pz])), (pn, .inl (tn, 1908, .inl An)), (p1, .inr (1, [.long a1, .long b1, .long c1]))] H := hP
  have hD : va_D A [(ph, .inr (0, [.int dd, .int rt, .int cl, .int rf, .int pr, .ref pn, .int gk, .int go, .int gc, .ref pg, .ref ps, .ref po, .ref pc, .ref pe, .ref p1, .ref p2, .ref pz])), (pn, .inl (tn, 1908, .inl An)), (p1, .inr (1, [.long a1, .long b1, .long c1]))] := hD
  refine lv_if_ne (tgt := 17) hx hb dX0_take_4 (by decide) (fun c_4 => ?_) (fun c_4 => ?_)
  · have hf := ok_f c_4 hf
    cases hf
  · have hf := ok_t c_4 hf
    have hP9 := hP.sub (ws' := [(ph, .inr (0, [.int dd, .int rt, .int cl, .int rf, .int pr, .ref pn, .int gk, .int go, .int gc, .ref pg, .ref ps, .ref po, .ref pc, .ref pe, .ref p1, .ref p2, .ref pz])), (pn, .inl (tn, 1908, .inl An)), (p1, .inr (1, [.long a1, .long b1, .long c1]))]) [0, 1, 2] rfl
    have hD9 := hD.sub (ws' := [(ph, .inr (0, [.int dd, .int rt, .int cl, .int rf, .int pr, .ref pn, .int gk, .int go, .int gc, .ref pg, .ref ps, .ref po, .ref pc, .ref pe, .ref p1, .ref p2, .ref pz])), (pn, .inl (tn, 1908, .inl An)), (p1, .inr (1, [.long a1, .long b1, .long c1]))]) [0, 1, 2] (by decide) rfl
    have hK9 := hK.sub (tys' := [(tn, .int)]) [0] rfl
    exact tw_throw (own := "ClassGroup") (cls := "java/lang/IllegalArgumentException") (names := tw_up) (ic := 57) (ix := 53) (il := 55) hx hb hlt hown (by decide +kernel) (by decide +kernel) (tw_on hts (hts _ (List.mem_cons_of_mem _ kw_273)) tw_atA) (hKt.kept hS.2.1) (hts _ (List.mem_cons_of_mem _ kw_272)) (hts _ (List.mem_cons_of_mem _ kw_273)) (hts _ (List.mem_cons_of_mem _ kw_9)) (hl.1.trans hml.symm) hlocks (B.noHandlers (hts _ List.mem_cons_self)) dX0_take_7 dX0_take_10 dX0_take_11 dX0_take_13 dX0_take_16 (Nat.le_of_ble_eq_true rfl) (Nat.le_of_ble_eq_true rfl) (Nat.le_of_ble_eq_true rfl) (Nat.le_of_ble_eq_true rfl) (fun t hz hk hce hW => ⟨⟨(), Option.some.inj hf, tw_P hP9 hk, va_K.moved hW.alike hK9, hD9⟩, tw_ce hW hce, tw_F hS hz hk⟩) hS.2.2

def f_p_name (F : Nat) (dd : Int32) (cl : Int32) (An : Nat → Int32) (a1 : Int64) (b1 : Int64) (c1 : Int64) (x1 : Int32) (x2 : Int32) : Option (Int32 × Int64 × Int64 × Int64) := Option.bind (f_isClass F cl x1) (fun r_1 => (if r_1 = 0 then none else (if x2 < 0 then none else (if x2 ≤ 2 then Option.bind (f_setTo F dd cl An a1 b1 c1 x1) (fun (u_a1_2, u_b1_3, u_c1_4) => bnd (fun (t_5 : Int64) => (some ((t_5).toInt32, u_a1_2, u_b1_3, u_c1_4) : Option (Int32 × Int64 × Int64 × Int64))) (fun kJ72 => (if x2 = 0 then kJ72 u_a1_2 else (if x2 = 1 then kJ72 u_b1_3 else kJ72 u_c1_4)))) else none))))
set_option maxHeartbeats 4000000 in
set_option maxRecDepth 100000 in
theorem c_p_name (l : Launch) (dC : Nat → ClassId) (dI : Nat → Nat → Nat) (ph : Nat) (dd : Int32) (rt : Int32) (cl : Int32) (rf : Int32) (pr : Int32) (pn : Nat) (gk : Int32) (go : Int32) (gc : Int32) (pg : Nat) (ps : Nat) (po : Nat) (pc : Nat) (pe : Nat) (p1 : Nat) (p2 : Nat) (pz : Nat) (tn : ClassId) (An : Nat → Int32) (a1 : Int64) (b1 : Int64) (c1 : Int64) (x1 : Int32) (x2 : Int32) (sz : Nat) (F : Nat) (out : Int32 × Int64 × Int64 × Int64) (hf : f_p_name F dd cl An a1 b1 c1 x1 x2 = some out) : Met l yX0_name wsX0_name ({ frames := 2, cells := 0, slots := 0, locals := 51 }) (va_Pc [.ref ph, .int x1, .int x2] (fun U => U.heap.size = sz ∧ va_P (dC, dI) vwCl [(ph, .inr (0, [.int dd, .int rt, .int cl, .int rf, .int pr, .ref pn, .int gk, .int go, .int gc, .ref pg, .ref ps, .ref po, .ref pc, .ref pe, .ref p1, .ref p2, .ref pz])), (pn, .inl (tn, 1908, .inl An)), (p1, .inr (1, [.long a1, .long b1, .long c1]))] U.heap ∧ va_K (dC, dI) vwCl [(tn, .int)] U ∧ va_D (fun _ => True) [(ph, .inr (0, [.int dd, .int rt, .int cl, .int rf, .int pr, .ref pn, .int gk, .int go, .int gc, .ref pg, .ref ps, .ref po, .ref pc, .ref pe, .ref p1, .ref p2, .ref pz])), (pn, .inl (tn, 1908, .inl An)), (p1, .inr (1, [.long a1, .long b1, .long c1]))])) (va_Qi (fun (r : Int32) (u : Int64 × Int64 × Int64) => (r, u) = out) (fun (u : Int64 × Int64 × Int64) t => match u with | (u_a1, u_b1, u_c1) => va_P (dC, dI) vwCl [(ph, .inr (0, [.int dd, .int rt, .int cl, .int rf, .int pr, .ref pn, .int gk, .int go, .int gc, .ref pg, .ref ps, .ref po, .ref pc, .ref pe, .ref p1, .ref p2, .ref pz])), (pn, .inl (tn, 1908, .inl An)), (p1, .inr (1, [.long u_a1, .long u_b1, .long u_c1]))] t.heap ∧ va_K (dC, dI) vwCl [(tn, .int)] t ∧ va_D (va_A [(ph, .inr (0, [.int dd, .int rt, .int cl, .int rf, .int pr, .ref pn, .int gk, .int go, .int gc, .ref pg, .ref ps, .ref po, .ref pc, .ref pe, .ref p1, .ref p2, .ref pz])), (pn, .inl (tn, 1908, .inl An)), (p1, .inr (1, [.long a1, .long b1, .long c1]))] sz) [(ph, .inr (0, [.int dd, .int rt, .int cl, .int rf, .int pr, .ref pn, .int gk, .int go, .int gc, .ref pg, .ref ps, .ref po, .ref pc, .ref pe, .ref p1, .ref p2, .ref pz])), (pn, .inl (tn, 1908, .inl An)), (p1, .inr (1, [.long u_a1, .long u_b1, .long u_c1]))]) (va_A [(ph, .inr (0, [.int dd, .int rt, .int cl, .int rf, .int pr, .ref pn, .int gk, .int go, .int gc, .ref pg, .ref ps, .ref po, .ref pc, .ref pe, .ref p1, .ref p2, .ref pz])), (pn, .inl (tn, 1908, .inl An)), (p1, .inr (1, [.long a1, .long b1, .long c1]))] sz)) 0 0 (va_A [(ph, .inr (0, [.int dd, .int rt, .int cl, .int rf, .int pr, .ref pn, .int gk, .int go, .int gc, .ref pg, .ref ps, .ref po, .ref pc, .ref pe, .ref p1, .ref p2, .ref pz])), (pn, .inl (tn, 1908, .inl An)), (p1, .inr (1, [.long a1, .long b1, .long c1]))] sz) := by
  refine Met.ofW (cc := cX0_name) (maxL := 3) (ret := (some .int)) (by decide +kernel) rfl ?_
  intro p e s m args below meth c s₁ B hml hv
  obtain ⟨rfl, hsz, hP, hK, hD0⟩ := hv
  have hx := B.exec
  have hb := B.bytes
  have hr := B.returns
  have hts := atoms_spec (ws := wsX0_name) B.pre
  have hown : s.vm.findClass "ClassGroup" = some m.cls := findClass_of_methodNamed B.named
  have hlocks := B.notSynchronized
  subst hsz
  have hD := hD0.self (sz := s.heap.size)
  generalize hAe : va_A [(ph, .inr (0, [.int dd, .int rt, .int cl, .int rf, .int pr, .ref pn, .int gk, .int go, .int gc, .ref pg, .ref ps, .ref po, .ref pc, .ref pe, .ref p1, .ref p2, .ref pz])), (pn, .inl (tn, 1908, .inl An)), (p1, .inr (1, [.long a1, .long b1, .long c1]))] s.heap.size = A at hD ⊢
  have hA : ∀ q : Nat, s.heap.size ≤ q → A q := fun q h => by rw [← hAe]; exact Or.inr h
  have hS : va_S A s.heap s.heap [] := va_S.rf
  have hl := lv_entry ([.ref ph, .int x1, .int x2]) (n := 3) (Nat.le_of_ble_eq_true rfl)
  rw [lg_entry_eq]
  generalize (lg_sl ([.ref ph, .int x1, .int x2]) ++ List.replicate (3 - (lg_sl ([.ref ph, .int x1, .int x2])).length) Slot.unset).toArray = ls at hl ⊢
  have hl : lv_has ls 3 [(0, .ref ph), (1, .int x1), (2, .int x2)] := hl
  unfold f_p_name at hf
  refine lv_aload_n hx hb dX0_name_0 rfl (lv_at hl 0 rfl) ?_
  refine lv_iload_n hx hb dX0_name_1 rfl (lv_at hl 1 rfl) ?_
  obtain ⟨xc2, hc2, hf⟩ := ok_b hf
  have hPc := hP.sub (ws' := [(ph, .inr (0, [.int dd, .int rt, .int cl, .int rf, .int pr, .ref pn, .int gk, .int go, .int gc, .ref pg, .ref ps, .ref po, .ref pc, .ref pe, .ref p1, .ref p2, .ref pz]))]) [0] rfl
  have hDc := hD.sub (ws' := [(ph, .inr (0, [.int dd, .int rt, .int cl, .int rf, .int pr, .ref pn, .int gk, .int go, .int gc, .ref pg, .ref ps, .ref po, .ref pc, .ref pe, .ref p1, .ref p2, .ref pz]))]) [0] (by decide) rfl
  have hKc := hK.sub (tys' := []) [] rfl
  have hFc := va_free (wc := [(ph, .inr (0, [.int dd, .int rt, .int cl, .int rf, .int pr, .ref pn, .int gk, .int go, .int gc, .ref pg, .ref ps, .ref po, .ref pc, .ref pe, .ref p1, .ref p2, .ref pz]))]) hD hS hA [0] rfl
  refine va_calli (va_runV (As := [.int x1]) (rest := []) ⟨hx, hb, hml, hown, hts⟩ (c_isClass l dC dI ph dd rt cl rf pr pn gk go gc pg ps po pc pe p1 p2 pz x1 s.heap.size F xc2 hc2) (cwV 1 hts (gwV kw_146 kw_148 ks_14 kw_1 kw_149) rfl rfl rfl (by decide +kernel) ⟨Nat.le_of_ble_eq_true rfl, Nat.le_of_ble_eq_true rfl⟩) ⟨fun a U g mk q => by obtain ⟨q0, q1, qP, qK, qD⟩ := q; exact ⟨q0, q1, qP, va_K.moved (u := U) (U := U.calling g mk a) (Vm.Alike.refl U.vm) qK, qD⟩, va_recv hKc hPc (ci := 0) (q0 := 0) rfl rfl, fun U hU hW => ⟨rfl, by rw [hU], by rw [hU]; exact hPc, va_K.moved hW.alike hKc, hDc.weaken (fun _ _ _ _ => trivial)⟩⟩ rfl rfl hl.1 rfl (lv_room (Nat.le_of_ble_eq_true rfl)) dX0_name_2 ⟨Nat.zero_le _, Nat.zero_le _⟩) hS (fun q _ h => hFc q h) hFc (fun r_1 u t H1 locs ht hvm hw hB hz1 hk1 hS => ?_)
  obtain ⟨⟩ := u
  obtain ⟨hP1, hK1, hD1⟩ := hB
  rw [ht] at hP1
  subst hw
  obtain ⟨hP, hD⟩ := va_join (wr := [(pn, .inl (tn, 1908, .inl An)), (p1, .inr (1, [.long a1, .long b1, .long c1]))]) (w1 := [(ph, .inr (0, [.int dd, .int rt, .int cl, .int rf, .int pr, .ref pn, .int gk, .int go, .int gc, .ref pg, .ref ps, .ref po, .ref pc, .ref pe, .ref p1, .ref p2, .ref pz]))]) hP hD [0] [1, 2] rfl rfl (by decide) (by decide) hk1 hFc hP1 hD1
  generalize H1 = H at hP hS ⊢
  have hP : va_P (dC, dI) vwCl [(pn, .inl (tn, 1908, .inl An)), (p1, .inr (1, [.long a1, .long b1, .long c1])), (ph, .inr (0, [.int dd, .int rt, .int cl, .int rf, .int pr, .ref pn, .int gk, .int go, .int gc, .ref pg, .ref ps, .ref po, .ref pc, .ref pe, .ref p1, .ref p2, .ref pz]))] H := hP
  have hD : va_D A [(pn, .inl (tn, 1908, .inl An)), (p1, .inr (1, [.long a1, .long b1, .long c1])), (ph, .inr (0, [.int dd, .int rt, .int cl, .int rf, .int pr, .ref pn, .int gk, .int go, .int gc, .ref pg, .ref ps, .ref po, .ref pc, .ref pe, .ref p1, .ref p2, .ref pz]))] := hD
  refine lv_if_eq (tgt := 17) hx hb dX0_name_5 (by decide) (fun c_5 => ?_) (fun c_5 => ?_)
  · have hf := ok_t c_5 hf
    cases hf
  · have hf := ok_f c_5 hf
    refine lv_iload_n hx hb dX0_name_8 rfl (lv_at hl 2 rfl) ?_
    refine lv_if_lt (tgt := 17) hx hb dX0_name_9 (by decide) (fun c_9 => ?_) (fun c_9 => ?_)
    · have hf := ok_t c_9 hf
      cases hf
    · have hf := ok_f c_9 hf
      refine lv_iload_n hx hb dX0_name_12 rfl (lv_at hl 2 rfl) ?_
      refine lv_iconst (v := 2) hx hb dX0_name_13 (by decide) ?_
      refine lv_icmp_le (tgt := 27) hx hb dX0_name_14 (by decide) (fun c_14 => ?_) (fun c_14 => ?_)
      · have hf := ok_t c_14 hf
        refine lv_aload_n hx hb dX0_name_27 rfl (lv_at hl 0 rfl) ?_
        refine lv_aload_n hx hb dX0_name_28 rfl (lv_at hl 0 rfl) ?_
        refine va_get (D := (dC, dI)) (ci := 0) (v := .ref p1) (C := "ClassGroup") (T := TX0) (N := 17) hx hb hts (fun w h => List.mem_cons_of_mem _ (iwX0 w h)) hown hK hP 2 rfl rfl 14 (by decide) (hts _ (List.mem_cons_of_mem _ kw_164)) (fun _ h9 => h9) rfl dX0_name_29 ?_
        refine lv_iload_n hx hb dX0_name_32 rfl (lv_at hl 1 rfl) ?_
        obtain ⟨xc33, hc33, hf⟩ := ok_b hf
        have hPc := hP.sub (ws' := [(ph, .inr (0, [.int dd, .int rt, .int cl, .int rf, .int pr, .ref pn, .int gk, .int go, .int gc, .ref pg, .ref ps, .ref po, .ref pc, .ref pe, .ref p1, .ref p2, .ref pz])), (pn, .inl (tn, 1908, .inl An)), (p1, .inr (1, [.long a1, .long b1, .long c1]))]) [2, 0, 1] rfl
        have hDc := hD.sub (ws' := [(ph, .inr (0, [.int dd, .int rt, .int cl, .int rf, .int pr, .ref pn, .int gk, .int go, .int gc, .ref pg, .ref ps, .ref po, .ref pc, .ref pe, .ref p1, .ref p2, .ref pz])), (pn, .inl (tn, 1908, .inl An)), (p1, .inr (1, [.long a1, .long b1, .long c1]))]) [2, 0, 1] (by decide) rfl
        have hKc := hK.sub (tys' := [(tn, .int)]) [0] rfl
        have hFc := va_free (wc := [(ph, .inr (0, [.int dd, .int rt, .int cl, .int rf, .int pr, .ref pn, .int gk, .int go, .int gc, .ref pg, .ref ps, .ref po, .ref pc, .ref pe, .ref p1, .ref p2, .ref pz])), (pn, .inl (tn, 1908, .inl An)), (p1, .inr (1, [.long a1, .long b1, .long c1]))]) hD hS hA [2, 0, 1] rfl
        refine va_callv (va_runV (As := [.ref p1, .int x1]) (rest := []) ⟨hx, hb, hml, hown, hts⟩ (c_setTo l dC dI ph dd rt cl rf pr pn gk go gc pg ps po pc pe p1 p2 pz tn An p1 a1 b1 c1 x1 H.size F xc33 hc33) (cwV 2 hts (gwV kw_225 kw_227 ks_19 kw_1 kw_228) rfl rfl rfl (by decide +kernel) ⟨Nat.le_of_ble_eq_true rfl, Nat.le_of_ble_eq_true rfl⟩) ⟨fun a U g mk q => by obtain ⟨q0, q1, qP, qK, qD⟩ := q; exact ⟨q0, q1, qP, va_K.moved (u := U) (U := U.calling g mk a) (Vm.Alike.refl U.vm) qK, qD⟩, va_recv hKc hPc (ci := 0) (q0 := 0) rfl rfl, fun U hU hW => ⟨rfl, by rw [hU], by rw [hU]; exact hPc, va_K.moved hW.alike hKc, hDc.weaken (fun _ _ _ _ => trivial)⟩⟩ rfl rfl hl.1 rfl (lv_room (Nat.le_of_ble_eq_true rfl)) dX0_name_33 ⟨Nat.zero_le _, Nat.zero_le _⟩) hS (fun q _ h => hFc q h) hFc (fun u t H1 locs ht hvm hw hB hz1 hk1 hS => ?_)
        obtain ⟨u_a1_2, u_b1_3, u_c1_4⟩ := u
        obtain ⟨hP1, hK1, hD1⟩ := hB
        rw [ht] at hP1
        subst hw
        obtain ⟨hP, hD⟩ := va_join (wr := []) (w1 := [(ph, .inr (0, [.int dd, .int rt, .int cl, .int rf, .int pr, .ref pn, .int gk, .int go, .int gc, .ref pg, .ref ps, .ref po, .ref pc, .ref pe, .ref p1, .ref p2, .ref pz])), (pn, .inl (tn, 1908, .inl An)), (p1, .inr (1, [.long u_a1_2, .long u_b1_3, .long u_c1_4]))]) hP hD [2, 0, 1] [] rfl rfl (by decide) (by decide) hk1 hFc hP1 hD1
        generalize H1 = H at hP hS ⊢
        have hP : va_P (dC, dI) vwCl [(ph, .inr (0, [.int dd, .int rt, .int cl, .int rf, .int pr, .ref pn, .int gk, .int go, .int gc, .ref pg, .ref ps, .ref po, .ref pc, .ref pe, .ref p1, .ref p2, .ref pz])), (pn, .inl (tn, 1908, .inl An)), (p1, .inr (1, [.long u_a1_2, .long u_b1_3, .long u_c1_4]))] H := hP
        have hD : va_D A [(ph, .inr (0, [.int dd, .int rt, .int cl, .int rf, .int pr, .ref pn, .int gk, .int go, .int gc, .ref pg, .ref ps, .ref po, .ref pc, .ref pe, .ref p1, .ref p2, .ref pz])), (pn, .inl (tn, 1908, .inl An)), (p1, .inr (1, [.long u_a1_2, .long u_b1_3, .long u_c1_4]))] := hD
        obtain ⟨kJ72, ekJ72, hf⟩ := bnd_ex hf
        have hJ72 : ∀ (t_5 : Int64) (H : Heap) (locs : List Loc) (ls : Array Slot), kJ72 t_5 = some out → va_P (dC, dI) vwCl [(ph, .inr (0, [.int dd, .int rt, .int cl, .int rf, .int pr, .ref pn, .int gk, .int go, .int gc, .ref pg, .ref ps, .ref po, .ref pc, .ref pe, .ref p1, .ref p2, .ref pz])), (pn, .inl (tn, 1908, .inl An)), (p1, .inr (1, [.long u_a1_2, .long u_b1_3, .long u_c1_4]))] H → va_D A [(ph, .inr (0, [.int dd, .int rt, .int cl, .int rf, .int pr, .ref pn, .int gk, .int go, .int gc, .ref pg, .ref ps, .ref po, .ref pc, .ref pe, .ref p1, .ref p2, .ref pz])), (pn, .inl (tn, 1908, .inl An)), (p1, .inr (1, [.long u_a1_2, .long u_b1_3, .long u_c1_4]))] → va_S A s.heap H locs → lv_has ls 3 [] → W p l e ((headSpec wsX0_name ({ frames := 2, cells := 0, slots := 0, locals := 51 })).room) s m ([.ref ph, .int x1, .int x2] : List Value).toArray below meth c H locs 0 0 (MQ below (va_Qi (fun (r : Int32) (u : Int64 × Int64 × Int64) => (r, u) = out) (fun (u : Int64 × Int64 × Int64) t => match u with | (u_a1, u_b1, u_c1) => va_P (dC, dI) vwCl [(ph, .inr (0, [.int dd, .int rt, .int cl, .int rf, .int pr, .ref pn, .int gk, .int go, .int gc, .ref pg, .ref ps, .ref po, .ref pc, .ref pe, .ref p1, .ref p2, .ref pz])), (pn, .inl (tn, 1908, .inl An)), (p1, .inr (1, [.long u_a1, .long u_b1, .long u_c1]))] t.heap ∧ va_K (dC, dI) vwCl [(tn, .int)] t ∧ va_D A [(ph, .inr (0, [.int dd, .int rt, .int cl, .int rf, .int pr, .ref pn, .int gk, .int go, .int gc, .ref pg, .ref ps, .ref po, .ref pc, .ref pe, .ref p1, .ref p2, .ref pz])), (pn, .inl (tn, 1908, .inl An)), (p1, .inr (1, [.long u_a1, .long u_b1, .long u_c1]))]) A) ([.ref ph, .int x1, .int x2] : List Value).toArray s 0 0 A) (F0 m 72 ls [.long t_5]) := by
          intro t_5 H locs ls hf hP hD hS hl
          rw [ekJ72] at hf
          refine lv_l2i (v := (t_5).toInt32) hx hb dX0_name_72 rfl ?_
          have hP9 := hP.sub (ws' := [(ph, .inr (0, [.int dd, .int rt, .int cl, .int rf, .int pr, .ref pn, .int gk, .int go, .int gc, .ref pg, .ref ps, .ref po, .ref pc, .ref pe, .ref p1, .ref p2, .ref pz])), (pn, .inl (tn, 1908, .inl An)), (p1, .inr (1, [.long u_a1_2, .long u_b1_3, .long u_c1_4]))]) [0, 1, 2] rfl
          have hD9 := hD.sub (ws' := [(ph, .inr (0, [.int dd, .int rt, .int cl, .int rf, .int pr, .ref pn, .int gk, .int go, .int gc, .ref pg, .ref ps, .ref po, .ref pc, .ref pe, .ref p1, .ref p2, .ref pz])), (pn, .inl (tn, 1908, .inl An)), (p1, .inr (1, [.long u_a1_2, .long u_b1_3, .long u_c1_4]))]) [0, 1, 2] (by decide) rfl
          have hK9 := hK.sub (tys' := [(tn, .int)]) [0] rfl
          exact W.iret (v := (t_5).toInt32) hx hb hr (fun t ht hW => ⟨⟨(t_5).toInt32, (u_a1_2, u_b1_3, u_c1_4), rfl, (Option.some.inj hf), by rw [ht]; exact hP9, va_K.moved hW.alike hK9, hD9⟩, hS.F ht⟩) hS.2.2 dX0_name_73
        refine lv_iload_n hx hb dX0_name_36 rfl (lv_at hl 2 rfl) ?_
        refine lv_if_ne (tgt := 50) hx hb dX0_name_37 (by decide) (fun c_37 => ?_) (fun c_37 => ?_)
        · have hf := ok_f c_37 hf
          refine lv_iload_n hx hb dX0_name_50 rfl (lv_at hl 2 rfl) ?_
          refine lv_iconst (v := 1) hx hb dX0_name_51 (by decide) ?_
          refine lv_icmp_ne (tgt := 65) hx hb dX0_name_52 (by decide) (fun c_52 => ?_) (fun c_52 => ?_)
          · have hf := ok_f c_52 hf
            refine lv_aload_n hx hb dX0_name_65 rfl (lv_at hl 0 rfl) ?_
            refine va_get (D := (dC, dI)) (ci := 0) (v := .ref p1) (C := "ClassGroup") (T := TX0) (N := 17) hx hb hts (fun w h => List.mem_cons_of_mem _ (iwX0 w h)) hown hK hP 0 rfl rfl 14 (by decide) (hts _ (List.mem_cons_of_mem _ kw_164)) (fun _ h9 => h9) rfl dX0_name_66 ?_
            refine va_get (D := (dC, dI)) (ci := 1) (v := .long u_c1_4) (C := "ClassGroup$Form") (T := TX1) (N := 3) hx hb hts (fun w h => List.mem_cons_of_mem _ (iwX1 w h)) hown hK hP 2 rfl rfl 2 (by decide) (hts _ (List.mem_cons_of_mem _ kw_31)) (fun _ h9 => h9) rfl dX0_name_69 ?_
            exact hJ72 u_c1_4 _ _ _ hf (hP.sub [0, 1, 2] rfl) (hD.sub [0, 1, 2] (by decide) rfl) hS (lv_sub hl [] rfl)
          · have hf := ok_t c_52 hf
            refine lv_aload_n hx hb dX0_name_55 rfl (lv_at hl 0 rfl) ?_
            refine va_get (D := (dC, dI)) (ci := 0) (v := .ref p1) (C := "ClassGroup") (T := TX0) (N := 17) hx hb hts (fun w h => List.mem_cons_of_mem _ (iwX0 w h)) hown hK hP 0 rfl rfl 14 (by decide) (hts _ (List.mem_cons_of_mem _ kw_164)) (fun _ h9 => h9) rfl dX0_name_56 ?_
            refine va_get (D := (dC, dI)) (ci := 1) (v := .long u_b1_3) (C := "ClassGroup$Form") (T := TX1) (N := 3) hx hb hts (fun w h => List.mem_cons_of_mem _ (iwX1 w h)) hown hK hP 2 rfl rfl 1 (by decide) (hts _ (List.mem_cons_of_mem _ kw_29)) (fun _ h9 => h9) rfl dX0_name_59 ?_
            refine lv_goto (tgt := 72) hx hb dX0_name_62 (by decide) ?_
            exact hJ72 u_b1_3 _ _ _ hf (hP.sub [0, 1, 2] rfl) (hD.sub [0, 1, 2] (by decide) rfl) hS (lv_sub hl [] rfl)
        · have hf := ok_t c_37 hf
          refine lv_aload_n hx hb dX0_name_40 rfl (lv_at hl 0 rfl) ?_
          refine va_get (D := (dC, dI)) (ci := 0) (v := .ref p1) (C := "ClassGroup") (T := TX0) (N := 17) hx hb hts (fun w h => List.mem_cons_of_mem _ (iwX0 w h)) hown hK hP 0 rfl rfl 14 (by decide) (hts _ (List.mem_cons_of_mem _ kw_164)) (fun _ h9 => h9) rfl dX0_name_41 ?_
          refine va_get (D := (dC, dI)) (ci := 1) (v := .long u_a1_2) (C := "ClassGroup$Form") (T := TX1) (N := 3) hx hb hts (fun w h => List.mem_cons_of_mem _ (iwX1 w h)) hown hK hP 2 rfl rfl 0 (by decide) (hts _ (List.mem_cons_of_mem _ kw_27)) (fun _ h9 => h9) rfl dX0_name_44 ?_
          refine lv_goto (tgt := 72) hx hb dX0_name_47 (by decide) ?_
          exact hJ72 u_a1_2 _ _ _ hf (hP.sub [0, 1, 2] rfl) (hD.sub [0, 1, 2] (by decide) rfl) hS (lv_sub hl [] rfl)
      · have hf := ok_f c_14 hf
        cases hf

def f_x_name (F : Nat) (cl : Int32) (x1 : Int32) (x2 : Int32) : Option (Unit) := Option.bind (f_isClass F cl x1) (fun r_1 => (if r_1 = 0 then some () else (if x2 < 0 then some () else (if x2 ≤ 2 then none else some ()))))
set_option maxHeartbeats 4000000 in
set_option maxRecDepth 100000 in
theorem c_x_name (l : Launch) (hlt : l.stackTraces = false) (q0 : Nat) (u1 u2 : Value) (dC : Nat → ClassId) (dI : Nat → Nat → Nat) (ph : Nat) (dd : Int32) (rt : Int32) (cl : Int32) (rf : Int32) (pr : Int32) (pn : Nat) (gk : Int32) (go : Int32) (gc : Int32) (pg : Nat) (ps : Nat) (po : Nat) (pc : Nat) (pe : Nat) (p1 : Nat) (p2 : Nat) (pz : Nat) (tn : ClassId) (An : Nat → Int32) (a1 : Int64) (b1 : Int64) (c1 : Int64) (x1 : Int32) (x2 : Int32) (sz : Nat) (F : Nat) (out : Unit) (hf : f_x_name F cl x1 x2 = some out) : tw_Met l yX0_name wsX0_name ({ frames := 6, cells := 1, slots := 6, locals := 82 }) (va_Pc [.ref ph, .int x1, .int x2] (fun U => U.heap.size = sz ∧ va_P (dC, dI) vwCl [(ph, .inr (0, [.int dd, .int rt, .int cl, .int rf, .int pr, .ref pn, .int gk, .int go, .int gc, .ref pg, .ref ps, .ref po, .ref pc, .ref pe, .ref p1, .ref p2, .ref pz])), (pn, .inl (tn, 1908, .inl An)), (p1, .inr (1, [.long a1, .long b1, .long c1]))] U.heap ∧ va_K (dC, dI) vwCl [(tn, .int)] U ∧ va_D (fun _ => True) [(ph, .inr (0, [.int dd, .int rt, .int cl, .int rf, .int pr, .ref pn, .int gk, .int go, .int gc, .ref pg, .ref ps, .ref po, .ref pc, .ref pe, .ref p1, .ref p2, .ref pz])), (pn, .inl (tn, 1908, .inl An)), (p1, .inr (1, [.long a1, .long b1, .long c1]))] ∧ tw_K "ClassGroup" 87 "no such class or coefficient" q0 u1 u2 (va_A [(ph, .inr (0, [.int dd, .int rt, .int cl, .int rf, .int pr, .ref pn, .int gk, .int go, .int gc, .ref pg, .ref ps, .ref po, .ref pc, .ref pe, .ref p1, .ref p2, .ref pz])), (pn, .inl (tn, 1908, .inl An)), (p1, .inr (1, [.long a1, .long b1, .long c1]))] sz) U U.heap)) (tw_Qx "java/lang/IndexOutOfBoundsException" (fun (u : Unit) => u = out) (fun (u : Unit) t => match u with | _ => va_P (dC, dI) vwCl [(ph, .inr (0, [.int dd, .int rt, .int cl, .int rf, .int pr, .ref pn, .int gk, .int go, .int gc, .ref pg, .ref ps, .ref po, .ref pc, .ref pe, .ref p1, .ref p2, .ref pz])), (pn, .inl (tn, 1908, .inl An)), (p1, .inr (1, [.long a1, .long b1, .long c1]))] t.heap ∧ va_K (dC, dI) vwCl [(tn, .int)] t ∧ va_D (va_A [(ph, .inr (0, [.int dd, .int rt, .int cl, .int rf, .int pr, .ref pn, .int gk, .int go, .int gc, .ref pg, .ref ps, .ref po, .ref pc, .ref pe, .ref p1, .ref p2, .ref pz])), (pn, .inl (tn, 1908, .inl An)), (p1, .inr (1, [.long a1, .long b1, .long c1]))] sz) [(ph, .inr (0, [.int dd, .int rt, .int cl, .int rf, .int pr, .ref pn, .int gk, .int go, .int gc, .ref pg, .ref ps, .ref po, .ref pc, .ref pe, .ref p1, .ref p2, .ref pz])), (pn, .inl (tn, 1908, .inl An)), (p1, .inr (1, [.long a1, .long b1, .long c1]))]) (va_A [(ph, .inr (0, [.int dd, .int rt, .int cl, .int rf, .int pr, .ref pn, .int gk, .int go, .int gc, .ref pg, .ref ps, .ref po, .ref pc, .ref pe, .ref p1, .ref p2, .ref pz])), (pn, .inl (tn, 1908, .inl An)), (p1, .inr (1, [.long a1, .long b1, .long c1]))] sz)) 1 6 (va_A [(ph, .inr (0, [.int dd, .int rt, .int cl, .int rf, .int pr, .ref pn, .int gk, .int go, .int gc, .ref pg, .ref ps, .ref po, .ref pc, .ref pe, .ref p1, .ref p2, .ref pz])), (pn, .inl (tn, 1908, .inl An)), (p1, .inr (1, [.long a1, .long b1, .long c1]))] sz) := by
  refine tw_ofW (cc := cX0_name) (maxL := 3) (ret := (some .int)) (by decide +kernel) rfl ?_
  intro p e s m args below meth c s₁ B hml hv
  obtain ⟨rfl, hsz, hP, hK, hD0, hKt⟩ := hv
  have hx := B.exec
  have hb := B.bytes
  have hr := B.returns
  have hts := atoms_spec (ws := wsX0_name) B.pre
  have hown : s.vm.findClass "ClassGroup" = some m.cls := findClass_of_methodNamed B.named
  have hlocks := B.notSynchronized
  subst hsz
  have hD := hD0.self (sz := s.heap.size)
  generalize hAe : va_A [(ph, .inr (0, [.int dd, .int rt, .int cl, .int rf, .int pr, .ref pn, .int gk, .int go, .int gc, .ref pg, .ref ps, .ref po, .ref pc, .ref pe, .ref p1, .ref p2, .ref pz])), (pn, .inl (tn, 1908, .inl An)), (p1, .inr (1, [.long a1, .long b1, .long c1]))] s.heap.size = A at hD hKt ⊢
  have hA : ∀ q : Nat, s.heap.size ≤ q → A q := fun q h => by rw [← hAe]; exact Or.inr h
  have hS : va_S A s.heap s.heap [] := va_S.rf
  have hl := lv_entry ([.ref ph, .int x1, .int x2]) (n := 3) (Nat.le_of_ble_eq_true rfl)
  rw [lg_entry_eq]
  generalize (lg_sl ([.ref ph, .int x1, .int x2]) ++ List.replicate (3 - (lg_sl ([.ref ph, .int x1, .int x2])).length) Slot.unset).toArray = ls at hl ⊢
  have hl : lv_has ls 3 [(0, .ref ph), (1, .int x1), (2, .int x2)] := hl
  unfold f_x_name at hf
  refine lv_aload_n hx hb dX0_name_0 rfl (lv_at hl 0 rfl) ?_
  refine lv_iload_n hx hb dX0_name_1 rfl (lv_at hl 1 rfl) ?_
  obtain ⟨xc2, hc2, hf⟩ := ok_b hf
  have hPc := hP.sub (ws' := [(ph, .inr (0, [.int dd, .int rt, .int cl, .int rf, .int pr, .ref pn, .int gk, .int go, .int gc, .ref pg, .ref ps, .ref po, .ref pc, .ref pe, .ref p1, .ref p2, .ref pz]))]) [0] rfl
  have hDc := hD.sub (ws' := [(ph, .inr (0, [.int dd, .int rt, .int cl, .int rf, .int pr, .ref pn, .int gk, .int go, .int gc, .ref pg, .ref ps, .ref po, .ref pc, .ref pe, .ref p1, .ref p2, .ref pz]))]) [0] (by decide) rfl
  have hKc := hK.sub (tys' := []) [] rfl
  have hFc := va_free (wc := [(ph, .inr (0, [.int dd, .int rt, .int cl, .int rf, .int pr, .ref pn, .int gk, .int go, .int gc, .ref pg, .ref ps, .ref po, .ref pc, .ref pe, .ref p1, .ref p2, .ref pz]))]) hD hS hA [0] rfl
  refine va_calli (va_runV (As := [.int x1]) (rest := []) ⟨hx, hb, hml, hown, hts⟩ (c_isClass l dC dI ph dd rt cl rf pr pn gk go gc pg ps po pc pe p1 p2 pz x1 s.heap.size F xc2 hc2) (cwV 1 hts (gwV kw_146 kw_148 ks_14 kw_1 kw_149) rfl rfl rfl (by decide +kernel) ⟨Nat.le_of_ble_eq_true rfl, Nat.le_of_ble_eq_true rfl⟩) ⟨fun a U g mk q => by obtain ⟨q0, q1, qP, qK, qD⟩ := q; exact ⟨q0, q1, qP, va_K.moved (u := U) (U := U.calling g mk a) (Vm.Alike.refl U.vm) qK, qD⟩, va_recv hKc hPc (ci := 0) (q0 := 0) rfl rfl, fun U hU hW => ⟨rfl, by rw [hU], by rw [hU]; exact hPc, va_K.moved hW.alike hKc, hDc.weaken (fun _ _ _ _ => trivial)⟩⟩ rfl rfl hl.1 rfl (lv_room (Nat.le_of_ble_eq_true rfl)) dX0_name_2 ⟨Nat.zero_le _, Nat.zero_le _⟩) hS (fun q _ h => hFc q h) hFc (fun r_1 u t H1 locs ht hvm hw hB hz1 hk1 hS => ?_)
  obtain ⟨⟩ := u
  obtain ⟨hP1, hK1, hD1⟩ := hB
  rw [ht] at hP1
  subst hw
  obtain ⟨hP, hD⟩ := va_join (wr := [(pn, .inl (tn, 1908, .inl An)), (p1, .inr (1, [.long a1, .long b1, .long c1]))]) (w1 := [(ph, .inr (0, [.int dd, .int rt, .int cl, .int rf, .int pr, .ref pn, .int gk, .int go, .int gc, .ref pg, .ref ps, .ref po, .ref pc, .ref pe, .ref p1, .ref p2, .ref pz]))]) hP hD [0] [1, 2] rfl rfl (by decide) (by decide) hk1 hFc hP1 hD1
  generalize H1 = H at hP hS ⊢
  have hP : va_P (dC, dI) vwCl [(pn, .inl (tn, 1908, .inl An)), (p1, .inr (1, [.long a1, .long b1, .long c1])), (ph, .inr (0, [.int dd, .int rt, .int cl, .int rf, .int pr, .ref pn, .int gk, .int go, .int gc, .ref pg, .ref ps, .ref po, .ref pc, .ref pe, .ref p1, .ref p2, .ref pz]))] H := hP
  have hD : va_D A [(pn, .inl (tn, 1908, .inl An)), (p1, .inr (1, [.long a1, .long b1, .long c1])), (ph, .inr (0, [.int dd, .int rt, .int cl, .int rf, .int pr, .ref pn, .int gk, .int go, .int gc, .ref pg, .ref ps, .ref po, .ref pc, .ref pe, .ref p1, .ref p2, .ref pz]))] := hD
  refine lv_if_eq (tgt := 17) hx hb dX0_name_5 (by decide) (fun c_5 => ?_) (fun c_5 => ?_)
  · have hf := ok_t c_5 hf
    have hP9 := hP.sub (ws' := [(ph, .inr (0, [.int dd, .int rt, .int cl, .int rf, .int pr, .ref pn, .int gk, .int go, .int gc, .ref pg, .ref ps, .ref po, .ref pc, .ref pe, .ref p1, .ref p2, .ref pz])), (pn, .inl (tn, 1908, .inl An)), (p1, .inr (1, [.long a1, .long b1, .long c1]))]) [2, 0, 1] rfl
    have hD9 := hD.sub (ws' := [(ph, .inr (0, [.int dd, .int rt, .int cl, .int rf, .int pr, .ref pn, .int gk, .int go, .int gc, .ref pg, .ref ps, .ref po, .ref pc, .ref pe, .ref p1, .ref p2, .ref pz])), (pn, .inl (tn, 1908, .inl An)), (p1, .inr (1, [.long a1, .long b1, .long c1]))]) [2, 0, 1] (by decide) rfl
    have hK9 := hK.sub (tys' := [(tn, .int)]) [0] rfl
    exact tw_throw (own := "ClassGroup") (cls := "java/lang/IndexOutOfBoundsException") (names := tw_up) (ic := 89) (ix := 85) (il := 87) hx hb hlt hown (by decide +kernel) (by decide +kernel) (tw_on hts (hts _ (List.mem_cons_of_mem _ kw_348)) tw_atB) (hKt.kept hS.2.1) (hts _ (List.mem_cons_of_mem _ kw_347)) (hts _ (List.mem_cons_of_mem _ kw_348)) (hts _ (List.mem_cons_of_mem _ kw_11)) (hl.1.trans hml.symm) hlocks (B.noHandlers (hts _ List.mem_cons_self)) dX0_name_17 dX0_name_20 dX0_name_21 dX0_name_23 dX0_name_26 (Nat.le_of_ble_eq_true rfl) (Nat.le_of_ble_eq_true rfl) (Nat.le_of_ble_eq_true rfl) (Nat.le_of_ble_eq_true rfl) (fun t hz hk hce hW => ⟨⟨(), Option.some.inj hf, tw_P hP9 hk, va_K.moved hW.alike hK9, hD9⟩, tw_ce hW hce, tw_F hS hz hk⟩) hS.2.2
  · have hf := ok_f c_5 hf
    refine lv_iload_n hx hb dX0_name_8 rfl (lv_at hl 2 rfl) ?_
    refine lv_if_lt (tgt := 17) hx hb dX0_name_9 (by decide) (fun c_9 => ?_) (fun c_9 => ?_)
    · have hf := ok_t c_9 hf
      have hP9 := hP.sub (ws' := [(ph, .inr (0, [.int dd, .int rt, .int cl, .int rf, .int pr, .ref pn, .int gk, .int go, .int gc, .ref pg, .ref ps, .ref po, .ref pc, .ref pe, .ref p1, .ref p2, .ref pz])), (pn, .inl (tn, 1908, .inl An)), (p1, .inr (1, [.long a1, .long b1, .long c1]))]) [2, 0, 1] rfl
      have hD9 := hD.sub (ws' := [(ph, .inr (0, [.int dd, .int rt, .int cl, .int rf, .int pr, .ref pn, .int gk, .int go, .int gc, .ref pg, .ref ps, .ref po, .ref pc, .ref pe, .ref p1, .ref p2, .ref pz])), (pn, .inl (tn, 1908, .inl An)), (p1, .inr (1, [.long a1, .long b1, .long c1]))]) [2, 0, 1] (by decide) rfl
      have hK9 := hK.sub (tys' := [(tn, .int)]) [0] rfl
      exact tw_throw (own := "ClassGroup") (cls := "java/lang/IndexOutOfBoundsException") (names := tw_up) (ic := 89) (ix := 85) (il := 87) hx hb hlt hown (by decide +kernel) (by decide +kernel) (tw_on hts (hts _ (List.mem_cons_of_mem _ kw_348)) tw_atB) (hKt.kept hS.2.1) (hts _ (List.mem_cons_of_mem _ kw_347)) (hts _ (List.mem_cons_of_mem _ kw_348)) (hts _ (List.mem_cons_of_mem _ kw_11)) (hl.1.trans hml.symm) hlocks (B.noHandlers (hts _ List.mem_cons_self)) dX0_name_17 dX0_name_20 dX0_name_21 dX0_name_23 dX0_name_26 (Nat.le_of_ble_eq_true rfl) (Nat.le_of_ble_eq_true rfl) (Nat.le_of_ble_eq_true rfl) (Nat.le_of_ble_eq_true rfl) (fun t hz hk hce hW => ⟨⟨(), Option.some.inj hf, tw_P hP9 hk, va_K.moved hW.alike hK9, hD9⟩, tw_ce hW hce, tw_F hS hz hk⟩) hS.2.2
    · have hf := ok_f c_9 hf
      refine lv_iload_n hx hb dX0_name_12 rfl (lv_at hl 2 rfl) ?_
      refine lv_iconst (v := 2) hx hb dX0_name_13 (by decide) ?_
      refine lv_icmp_le (tgt := 27) hx hb dX0_name_14 (by decide) (fun c_14 => ?_) (fun c_14 => ?_)
      · have hf := ok_t c_14 hf
        cases hf
      · have hf := ok_f c_14 hf
        have hP9 := hP.sub (ws' := [(ph, .inr (0, [.int dd, .int rt, .int cl, .int rf, .int pr, .ref pn, .int gk, .int go, .int gc, .ref pg, .ref ps, .ref po, .ref pc, .ref pe, .ref p1, .ref p2, .ref pz])), (pn, .inl (tn, 1908, .inl An)), (p1, .inr (1, [.long a1, .long b1, .long c1]))]) [2, 0, 1] rfl
        have hD9 := hD.sub (ws' := [(ph, .inr (0, [.int dd, .int rt, .int cl, .int rf, .int pr, .ref pn, .int gk, .int go, .int gc, .ref pg, .ref ps, .ref po, .ref pc, .ref pe, .ref p1, .ref p2, .ref pz])), (pn, .inl (tn, 1908, .inl An)), (p1, .inr (1, [.long a1, .long b1, .long c1]))]) [2, 0, 1] (by decide) rfl
        have hK9 := hK.sub (tys' := [(tn, .int)]) [0] rfl
        exact tw_throw (own := "ClassGroup") (cls := "java/lang/IndexOutOfBoundsException") (names := tw_up) (ic := 89) (ix := 85) (il := 87) hx hb hlt hown (by decide +kernel) (by decide +kernel) (tw_on hts (hts _ (List.mem_cons_of_mem _ kw_348)) tw_atB) (hKt.kept hS.2.1) (hts _ (List.mem_cons_of_mem _ kw_347)) (hts _ (List.mem_cons_of_mem _ kw_348)) (hts _ (List.mem_cons_of_mem _ kw_11)) (hl.1.trans hml.symm) hlocks (B.noHandlers (hts _ List.mem_cons_self)) dX0_name_17 dX0_name_20 dX0_name_21 dX0_name_23 dX0_name_26 (Nat.le_of_ble_eq_true rfl) (Nat.le_of_ble_eq_true rfl) (Nat.le_of_ble_eq_true rfl) (Nat.le_of_ble_eq_true rfl) (fun t hz hk hce hW => ⟨⟨(), Option.some.inj hf, tw_P hP9 hk, va_K.moved hW.alike hK9, hD9⟩, tw_ce hW hce, tw_F hS hz hk⟩) hS.2.2

def f_p_classOf (F : Nat) (dd : Int32) (rt : Int32) (cl : Int32) (An : Nat → Int32) (a1 : Int64) (b1 : Int64) (c1 : Int64) (x1 : Int32) (x2 : Int32) (x3 : Int32) : Option (Int32 × Int64 × Int64 × Int64) := Option.bind (f_isForm F dd x1 x2 x3) (fun r_1 => (if r_1 = 0 then none else Option.bind (f_Form_set F ((x1).toInt64) ((x2).toInt64) ((x3).toInt64)) (fun (u_a1_2, u_b1_3, u_c1_4) => Option.bind (f_reduce F dd rt u_a1_2 u_b1_3 u_c1_4) (fun (u_a1_5, u_b1_6, u_c1_7) => Option.bind (f_leastKey F dd rt u_a1_5 u_b1_6 u_c1_7) (fun (r_8, u_a1_9, u_b1_10, u_c1_11) => Option.bind (f_classAt F cl An r_8) (fun r_12 => some (r_12, u_a1_9, u_b1_10, u_c1_11)))))))
set_option maxHeartbeats 4000000 in
set_option maxRecDepth 100000 in
theorem c_p_classOf (l : Launch) (dC : Nat → ClassId) (dI : Nat → Nat → Nat) (ph : Nat) (dd : Int32) (rt : Int32) (cl : Int32) (rf : Int32) (pr : Int32) (pn : Nat) (gk : Int32) (go : Int32) (gc : Int32) (pg : Nat) (ps : Nat) (po : Nat) (pc : Nat) (pe : Nat) (p1 : Nat) (p2 : Nat) (pz : Nat) (tn : ClassId) (An : Nat → Int32) (a1 : Int64) (b1 : Int64) (c1 : Int64) (x1 : Int32) (x2 : Int32) (x3 : Int32) (sz : Nat) (F : Nat) (out : Int32 × Int64 × Int64 × Int64) (hf : f_p_classOf F dd rt cl An a1 b1 c1 x1 x2 x3 = some out) : Met l yX0_classOf wsX0_classOf ({ frames := 4, cells := 0, slots := 0, locals := 90 }) (va_Pc [.ref ph, .int x1, .int x2, .int x3] (fun U => U.heap.size = sz ∧ va_P (dC, dI) vwCl [(ph, .inr (0, [.int dd, .int rt, .int cl, .int rf, .int pr, .ref pn, .int gk, .int go, .int gc, .ref pg, .ref ps, .ref po, .ref pc, .ref pe, .ref p1, .ref p2, .ref pz])), (pn, .inl (tn, 1908, .inl An)), (p1, .inr (1, [.long a1, .long b1, .long c1]))] U.heap ∧ va_K (dC, dI) vwCl [(tn, .int)] U ∧ va_D (fun _ => True) [(ph, .inr (0, [.int dd, .int rt, .int cl, .int rf, .int pr, .ref pn, .int gk, .int go, .int gc, .ref pg, .ref ps, .ref po, .ref pc, .ref pe, .ref p1, .ref p2, .ref pz])), (pn, .inl (tn, 1908, .inl An)), (p1, .inr (1, [.long a1, .long b1, .long c1]))])) (va_Qi (fun (r : Int32) (u : Int64 × Int64 × Int64) => (r, u) = out) (fun (u : Int64 × Int64 × Int64) t => match u with | (u_a1, u_b1, u_c1) => va_P (dC, dI) vwCl [(ph, .inr (0, [.int dd, .int rt, .int cl, .int rf, .int pr, .ref pn, .int gk, .int go, .int gc, .ref pg, .ref ps, .ref po, .ref pc, .ref pe, .ref p1, .ref p2, .ref pz])), (pn, .inl (tn, 1908, .inl An)), (p1, .inr (1, [.long u_a1, .long u_b1, .long u_c1]))] t.heap ∧ va_K (dC, dI) vwCl [(tn, .int)] t ∧ va_D (va_A [(ph, .inr (0, [.int dd, .int rt, .int cl, .int rf, .int pr, .ref pn, .int gk, .int go, .int gc, .ref pg, .ref ps, .ref po, .ref pc, .ref pe, .ref p1, .ref p2, .ref pz])), (pn, .inl (tn, 1908, .inl An)), (p1, .inr (1, [.long a1, .long b1, .long c1]))] sz) [(ph, .inr (0, [.int dd, .int rt, .int cl, .int rf, .int pr, .ref pn, .int gk, .int go, .int gc, .ref pg, .ref ps, .ref po, .ref pc, .ref pe, .ref p1, .ref p2, .ref pz])), (pn, .inl (tn, 1908, .inl An)), (p1, .inr (1, [.long u_a1, .long u_b1, .long u_c1]))]) (va_A [(ph, .inr (0, [.int dd, .int rt, .int cl, .int rf, .int pr, .ref pn, .int gk, .int go, .int gc, .ref pg, .ref ps, .ref po, .ref pc, .ref pe, .ref p1, .ref p2, .ref pz])), (pn, .inl (tn, 1908, .inl An)), (p1, .inr (1, [.long a1, .long b1, .long c1]))] sz)) 0 0 (va_A [(ph, .inr (0, [.int dd, .int rt, .int cl, .int rf, .int pr, .ref pn, .int gk, .int go, .int gc, .ref pg, .ref ps, .ref po, .ref pc, .ref pe, .ref p1, .ref p2, .ref pz])), (pn, .inl (tn, 1908, .inl An)), (p1, .inr (1, [.long a1, .long b1, .long c1]))] sz) := by
  refine Met.ofW (cc := cX0_classOf) (maxL := 4) (ret := (some .int)) (by decide +kernel) rfl ?_
  intro p e s m args below meth c s₁ B hml hv
  obtain ⟨rfl, hsz, hP, hK, hD0⟩ := hv
  have hx := B.exec
  have hb := B.bytes
  have hr := B.returns
  have hts := atoms_spec (ws := wsX0_classOf) B.pre
  have hown : s.vm.findClass "ClassGroup" = some m.cls := findClass_of_methodNamed B.named
  have hlocks := B.notSynchronized
  subst hsz
  have hD := hD0.self (sz := s.heap.size)
  generalize hAe : va_A [(ph, .inr (0, [.int dd, .int rt, .int cl, .int rf, .int pr, .ref pn, .int gk, .int go, .int gc, .ref pg, .ref ps, .ref po, .ref pc, .ref pe, .ref p1, .ref p2, .ref pz])), (pn, .inl (tn, 1908, .inl An)), (p1, .inr (1, [.long a1, .long b1, .long c1]))] s.heap.size = A at hD ⊢
  have hA : ∀ q : Nat, s.heap.size ≤ q → A q := fun q h => by rw [← hAe]; exact Or.inr h
  have hS : va_S A s.heap s.heap [] := va_S.rf
  have hl := lv_entry ([.ref ph, .int x1, .int x2, .int x3]) (n := 4) (Nat.le_of_ble_eq_true rfl)
  rw [lg_entry_eq]
  generalize (lg_sl ([.ref ph, .int x1, .int x2, .int x3]) ++ List.replicate (4 - (lg_sl ([.ref ph, .int x1, .int x2, .int x3])).length) Slot.unset).toArray = ls at hl ⊢
  have hl : lv_has ls 4 [(0, .ref ph), (1, .int x1), (2, .int x2), (3, .int x3)] := hl
  unfold f_p_classOf at hf
  refine lv_aload_n hx hb dX0_classOf_0 rfl (lv_at hl 0 rfl) ?_
  refine lv_iload_n hx hb dX0_classOf_1 rfl (lv_at hl 1 rfl) ?_
  refine lv_iload_n hx hb dX0_classOf_2 rfl (lv_at hl 2 rfl) ?_
  refine lv_iload_n hx hb dX0_classOf_3 rfl (lv_at hl 3 rfl) ?_
  obtain ⟨xc4, hc4, hf⟩ := ok_b hf
  have hPc := hP.sub (ws' := [(ph, .inr (0, [.int dd, .int rt, .int cl, .int rf, .int pr, .ref pn, .int gk, .int go, .int gc, .ref pg, .ref ps, .ref po, .ref pc, .ref pe, .ref p1, .ref p2, .ref pz]))]) [0] rfl
  have hDc := hD.sub (ws' := [(ph, .inr (0, [.int dd, .int rt, .int cl, .int rf, .int pr, .ref pn, .int gk, .int go, .int gc, .ref pg, .ref ps, .ref po, .ref pc, .ref pe, .ref p1, .ref p2, .ref pz]))]) [0] (by decide) rfl
  have hKc := hK.sub (tys' := []) [] rfl
  have hFc := va_free (wc := [(ph, .inr (0, [.int dd, .int rt, .int cl, .int rf, .int pr, .ref pn, .int gk, .int go, .int gc, .ref pg, .ref ps, .ref po, .ref pc, .ref pe, .ref p1, .ref p2, .ref pz]))]) hD hS hA [0] rfl
  refine va_calli (va_runV (As := [.int x1, .int x2, .int x3]) (rest := []) ⟨hx, hb, hml, hown, hts⟩ (c_isForm l dC dI ph dd rt cl rf pr pn gk go gc pg ps po pc pe p1 p2 pz x1 x2 x3 s.heap.size F xc4 hc4) (cwV 3 hts (gwV kw_370 kw_372 ks_25 kw_1 kw_373) rfl rfl rfl (by decide +kernel) ⟨Nat.le_of_ble_eq_true rfl, Nat.le_of_ble_eq_true rfl⟩) ⟨fun a U g mk q => by obtain ⟨q0, q1, qP, qK, qD⟩ := q; exact ⟨q0, q1, qP, va_K.moved (u := U) (U := U.calling g mk a) (Vm.Alike.refl U.vm) qK, qD⟩, va_recv hKc hPc (ci := 0) (q0 := 0) rfl rfl, fun U hU hW => ⟨rfl, by rw [hU], by rw [hU]; exact hPc, va_K.moved hW.alike hKc, hDc.weaken (fun _ _ _ _ => trivial)⟩⟩ rfl rfl hl.1 rfl (lv_room (Nat.le_of_ble_eq_true rfl)) dX0_classOf_4 ⟨Nat.zero_le _, Nat.zero_le _⟩) hS (fun q _ h => hFc q h) hFc (fun r_1 u t H1 locs ht hvm hw hB hz1 hk1 hS => ?_)
  obtain ⟨⟩ := u
  obtain ⟨hP1, hK1, hD1⟩ := hB
  rw [ht] at hP1
  subst hw
  obtain ⟨hP, hD⟩ := va_join (wr := [(pn, .inl (tn, 1908, .inl An)), (p1, .inr (1, [.long a1, .long b1, .long c1]))]) (w1 := [(ph, .inr (0, [.int dd, .int rt, .int cl, .int rf, .int pr, .ref pn, .int gk, .int go, .int gc, .ref pg, .ref ps, .ref po, .ref pc, .ref pe, .ref p1, .ref p2, .ref pz]))]) hP hD [0] [1, 2] rfl rfl (by decide) (by decide) hk1 hFc hP1 hD1
  generalize H1 = H at hP hS ⊢
  have hP : va_P (dC, dI) vwCl [(pn, .inl (tn, 1908, .inl An)), (p1, .inr (1, [.long a1, .long b1, .long c1])), (ph, .inr (0, [.int dd, .int rt, .int cl, .int rf, .int pr, .ref pn, .int gk, .int go, .int gc, .ref pg, .ref ps, .ref po, .ref pc, .ref pe, .ref p1, .ref p2, .ref pz]))] H := hP
  have hD : va_D A [(pn, .inl (tn, 1908, .inl An)), (p1, .inr (1, [.long a1, .long b1, .long c1])), (ph, .inr (0, [.int dd, .int rt, .int cl, .int rf, .int pr, .ref pn, .int gk, .int go, .int gc, .ref pg, .ref ps, .ref po, .ref pc, .ref pe, .ref p1, .ref p2, .ref pz]))] := hD
  refine lv_if_ne (tgt := 20) hx hb dX0_classOf_7 (by decide) (fun c_7 => ?_) (fun c_7 => ?_)
  · have hf := ok_f c_7 hf
    refine lv_aload_n hx hb dX0_classOf_20 rfl (lv_at hl 0 rfl) ?_
    refine va_get (D := (dC, dI)) (ci := 0) (v := .ref p1) (C := "ClassGroup") (T := TX0) (N := 17) hx hb hts (fun w h => List.mem_cons_of_mem _ (iwX0 w h)) hown hK hP 2 rfl rfl 14 (by decide) (hts _ (List.mem_cons_of_mem _ kw_164)) (fun _ h9 => h9) rfl dX0_classOf_21 ?_
    refine lv_iload_n hx hb dX0_classOf_24 rfl (lv_at hl 1 rfl) ?_
    refine lv_i2l (v := (x1).toInt64) hx hb dX0_classOf_25 rfl ?_
    refine lv_iload_n hx hb dX0_classOf_26 rfl (lv_at hl 2 rfl) ?_
    refine lv_i2l (v := (x2).toInt64) hx hb dX0_classOf_27 rfl ?_
    refine lv_iload_n hx hb dX0_classOf_28 rfl (lv_at hl 3 rfl) ?_
    refine lv_i2l (v := (x3).toInt64) hx hb dX0_classOf_29 rfl ?_
    obtain ⟨xc30, hc30, hf⟩ := ok_b hf
    have hPc := hP.sub (ws' := [(p1, .inr (1, [.long a1, .long b1, .long c1]))]) [1] rfl
    have hDc := hD.sub (ws' := [(p1, .inr (1, [.long a1, .long b1, .long c1]))]) [1] (by decide) rfl
    have hKc := hK.sub (tys' := []) [] rfl
    have hFc := va_free (wc := [(p1, .inr (1, [.long a1, .long b1, .long c1]))]) hD hS hA [1] rfl
    refine va_callv (va_runV (As := [.long (x1).toInt64, .long (x2).toInt64, .long (x3).toInt64]) (rest := []) ⟨hx, hb, hml, hown, hts⟩ (c_Form_set l dC dI p1 a1 b1 c1 ((x1).toInt64) ((x2).toInt64) ((x3).toInt64) H.size F xc30 hc30) (cwV 3 hts (gwV kw_104 kw_105 kw_106 kw_2 kw_107) rfl rfl rfl (by decide +kernel) ⟨Nat.le_of_ble_eq_true rfl, Nat.le_of_ble_eq_true rfl⟩) ⟨fun a U g mk q => by obtain ⟨q0, q1, qP, qK, qD⟩ := q; exact ⟨q0, q1, qP, va_K.moved (u := U) (U := U.calling g mk a) (Vm.Alike.refl U.vm) qK, qD⟩, va_recv hKc hPc (ci := 1) (q0 := 0) rfl rfl, fun U hU hW => ⟨rfl, by rw [hU], by rw [hU]; exact hPc, va_K.moved hW.alike hKc, hDc.weaken (fun _ _ _ _ => trivial)⟩⟩ rfl rfl hl.1 rfl (lv_room (Nat.le_of_ble_eq_true rfl)) dX0_classOf_30 ⟨Nat.zero_le _, Nat.zero_le _⟩) hS (fun q _ h => hFc q h) hFc (fun u t H1 locs ht hvm hw hB hz1 hk1 hS => ?_)
    obtain ⟨u_a1_2, u_b1_3, u_c1_4⟩ := u
    obtain ⟨hP1, hK1, hD1⟩ := hB
    rw [ht] at hP1
    subst hw
    obtain ⟨hP, hD⟩ := va_join (wr := [(pn, .inl (tn, 1908, .inl An)), (ph, .inr (0, [.int dd, .int rt, .int cl, .int rf, .int pr, .ref pn, .int gk, .int go, .int gc, .ref pg, .ref ps, .ref po, .ref pc, .ref pe, .ref p1, .ref p2, .ref pz]))]) (w1 := [(p1, .inr (1, [.long u_a1_2, .long u_b1_3, .long u_c1_4]))]) hP hD [1] [0, 2] rfl rfl (by decide) (by decide) hk1 hFc hP1 hD1
    generalize H1 = H at hP hS ⊢
    have hP : va_P (dC, dI) vwCl [(pn, .inl (tn, 1908, .inl An)), (ph, .inr (0, [.int dd, .int rt, .int cl, .int rf, .int pr, .ref pn, .int gk, .int go, .int gc, .ref pg, .ref ps, .ref po, .ref pc, .ref pe, .ref p1, .ref p2, .ref pz])), (p1, .inr (1, [.long u_a1_2, .long u_b1_3, .long u_c1_4]))] H := hP
    have hD : va_D A [(pn, .inl (tn, 1908, .inl An)), (ph, .inr (0, [.int dd, .int rt, .int cl, .int rf, .int pr, .ref pn, .int gk, .int go, .int gc, .ref pg, .ref ps, .ref po, .ref pc, .ref pe, .ref p1, .ref p2, .ref pz])), (p1, .inr (1, [.long u_a1_2, .long u_b1_3, .long u_c1_4]))] := hD
    refine lv_aload_n hx hb dX0_classOf_33 rfl (lv_at hl 0 rfl) ?_
    refine lv_aload_n hx hb dX0_classOf_34 rfl (lv_at hl 0 rfl) ?_
    refine va_get (D := (dC, dI)) (ci := 0) (v := .ref p1) (C := "ClassGroup") (T := TX0) (N := 17) hx hb hts (fun w h => List.mem_cons_of_mem _ (iwX0 w h)) hown hK hP 1 rfl rfl 14 (by decide) (hts _ (List.mem_cons_of_mem _ kw_164)) (fun _ h9 => h9) rfl dX0_classOf_35 ?_
    obtain ⟨xc38, hc38, hf⟩ := ok_b hf
    have hPc := hP.sub (ws' := [(ph, .inr (0, [.int dd, .int rt, .int cl, .int rf, .int pr, .ref pn, .int gk, .int go, .int gc, .ref pg, .ref ps, .ref po, .ref pc, .ref pe, .ref p1, .ref p2, .ref pz])), (p1, .inr (1, [.long u_a1_2, .long u_b1_3, .long u_c1_4]))]) [1, 2] rfl
    have hDc := hD.sub (ws' := [(ph, .inr (0, [.int dd, .int rt, .int cl, .int rf, .int pr, .ref pn, .int gk, .int go, .int gc, .ref pg, .ref ps, .ref po, .ref pc, .ref pe, .ref p1, .ref p2, .ref pz])), (p1, .inr (1, [.long u_a1_2, .long u_b1_3, .long u_c1_4]))]) [1, 2] (by decide) rfl
    have hKc := hK.sub (tys' := []) [] rfl
    have hFc := va_free (wc := [(ph, .inr (0, [.int dd, .int rt, .int cl, .int rf, .int pr, .ref pn, .int gk, .int go, .int gc, .ref pg, .ref ps, .ref po, .ref pc, .ref pe, .ref p1, .ref p2, .ref pz])), (p1, .inr (1, [.long u_a1_2, .long u_b1_3, .long u_c1_4]))]) hD hS hA [1, 2] rfl
    refine va_callv (va_runV (As := [.ref p1]) (rest := []) ⟨hx, hb, hml, hown, hts⟩ (c_reduce l dC dI ph dd rt cl rf pr pn gk go gc pg ps po pc pe p1 p2 pz p1 u_a1_2 u_b1_3 u_c1_4 H.size F xc38 hc38) (cwV 1 hts (gwV kw_127 kw_129 ks_10 kw_1 kw_130) rfl rfl rfl (by decide +kernel) ⟨Nat.le_of_ble_eq_true rfl, Nat.le_of_ble_eq_true rfl⟩) ⟨fun a U g mk q => by obtain ⟨q0, q1, qP, qK, qD⟩ := q; exact ⟨q0, q1, qP, va_K.moved (u := U) (U := U.calling g mk a) (Vm.Alike.refl U.vm) qK, qD⟩, va_recv hKc hPc (ci := 0) (q0 := 0) rfl rfl, fun U hU hW => ⟨rfl, by rw [hU], by rw [hU]; exact hPc, va_K.moved hW.alike hKc, hDc.weaken (fun _ _ _ _ => trivial)⟩⟩ rfl rfl hl.1 rfl (lv_room (Nat.le_of_ble_eq_true rfl)) dX0_classOf_38 ⟨Nat.zero_le _, Nat.zero_le _⟩) hS (fun q _ h => hFc q h) hFc (fun u t H1 locs ht hvm hw hB hz1 hk1 hS => ?_)
    obtain ⟨u_a1_5, u_b1_6, u_c1_7⟩ := u
    obtain ⟨hP1, hK1, hD1⟩ := hB
    rw [ht] at hP1
    subst hw
    obtain ⟨hP, hD⟩ := va_join (wr := [(pn, .inl (tn, 1908, .inl An))]) (w1 := [(ph, .inr (0, [.int dd, .int rt, .int cl, .int rf, .int pr, .ref pn, .int gk, .int go, .int gc, .ref pg, .ref ps, .ref po, .ref pc, .ref pe, .ref p1, .ref p2, .ref pz])), (p1, .inr (1, [.long u_a1_5, .long u_b1_6, .long u_c1_7]))]) hP hD [1, 2] [0] rfl rfl (by decide) (by decide) hk1 hFc hP1 hD1
    generalize H1 = H at hP hS ⊢
    have hP : va_P (dC, dI) vwCl [(pn, .inl (tn, 1908, .inl An)), (ph, .inr (0, [.int dd, .int rt, .int cl, .int rf, .int pr, .ref pn, .int gk, .int go, .int gc, .ref pg, .ref ps, .ref po, .ref pc, .ref pe, .ref p1, .ref p2, .ref pz])), (p1, .inr (1, [.long u_a1_5, .long u_b1_6, .long u_c1_7]))] H := hP
    have hD : va_D A [(pn, .inl (tn, 1908, .inl An)), (ph, .inr (0, [.int dd, .int rt, .int cl, .int rf, .int pr, .ref pn, .int gk, .int go, .int gc, .ref pg, .ref ps, .ref po, .ref pc, .ref pe, .ref p1, .ref p2, .ref pz])), (p1, .inr (1, [.long u_a1_5, .long u_b1_6, .long u_c1_7]))] := hD
    refine lv_aload_n hx hb dX0_classOf_41 rfl (lv_at hl 0 rfl) ?_
    refine lv_aload_n hx hb dX0_classOf_42 rfl (lv_at hl 0 rfl) ?_
    refine lv_aload_n hx hb dX0_classOf_43 rfl (lv_at hl 0 rfl) ?_
    refine va_get (D := (dC, dI)) (ci := 0) (v := .ref p1) (C := "ClassGroup") (T := TX0) (N := 17) hx hb hts (fun w h => List.mem_cons_of_mem _ (iwX0 w h)) hown hK hP 1 rfl rfl 14 (by decide) (hts _ (List.mem_cons_of_mem _ kw_164)) (fun _ h9 => h9) rfl dX0_classOf_44 ?_
    obtain ⟨xc47, hc47, hf⟩ := ok_b hf
    have hPc := hP.sub (ws' := [(ph, .inr (0, [.int dd, .int rt, .int cl, .int rf, .int pr, .ref pn, .int gk, .int go, .int gc, .ref pg, .ref ps, .ref po, .ref pc, .ref pe, .ref p1, .ref p2, .ref pz])), (p1, .inr (1, [.long u_a1_5, .long u_b1_6, .long u_c1_7]))]) [1, 2] rfl
    have hDc := hD.sub (ws' := [(ph, .inr (0, [.int dd, .int rt, .int cl, .int rf, .int pr, .ref pn, .int gk, .int go, .int gc, .ref pg, .ref ps, .ref po, .ref pc, .ref pe, .ref p1, .ref p2, .ref pz])), (p1, .inr (1, [.long u_a1_5, .long u_b1_6, .long u_c1_7]))]) [1, 2] (by decide) rfl
    have hKc := hK.sub (tys' := []) [] rfl
    have hFc := va_free (wc := [(ph, .inr (0, [.int dd, .int rt, .int cl, .int rf, .int pr, .ref pn, .int gk, .int go, .int gc, .ref pg, .ref ps, .ref po, .ref pc, .ref pe, .ref p1, .ref p2, .ref pz])), (p1, .inr (1, [.long u_a1_5, .long u_b1_6, .long u_c1_7]))]) hD hS hA [1, 2] rfl
    refine va_calli (va_runV (As := [.ref p1]) (rest := [.ref ph]) ⟨hx, hb, hml, hown, hts⟩ (c_leastKey l dC dI ph dd rt cl rf pr pn gk go gc pg ps po pc pe p1 p2 pz p1 u_a1_5 u_b1_6 u_c1_7 H.size F xc47 hc47) (cwV 1 hts (gwV kw_135 kw_137 ks_12 kw_1 kw_138) rfl rfl rfl (by decide +kernel) ⟨Nat.le_of_ble_eq_true rfl, Nat.le_of_ble_eq_true rfl⟩) ⟨fun a U g mk q => by obtain ⟨q0, q1, qP, qK, qD⟩ := q; exact ⟨q0, q1, qP, va_K.moved (u := U) (U := U.calling g mk a) (Vm.Alike.refl U.vm) qK, qD⟩, va_recv hKc hPc (ci := 0) (q0 := 0) rfl rfl, fun U hU hW => ⟨rfl, by rw [hU], by rw [hU]; exact hPc, va_K.moved hW.alike hKc, hDc.weaken (fun _ _ _ _ => trivial)⟩⟩ rfl rfl hl.1 rfl (lv_room (Nat.le_of_ble_eq_true rfl)) dX0_classOf_47 ⟨Nat.zero_le _, Nat.zero_le _⟩) hS (fun q _ h => hFc q h) hFc (fun r_8 u t H1 locs ht hvm hw hB hz1 hk1 hS => ?_)
    obtain ⟨u_a1_9, u_b1_10, u_c1_11⟩ := u
    obtain ⟨hP1, hK1, hD1⟩ := hB
    rw [ht] at hP1
    subst hw
    obtain ⟨hP, hD⟩ := va_join (wr := [(pn, .inl (tn, 1908, .inl An))]) (w1 := [(ph, .inr (0, [.int dd, .int rt, .int cl, .int rf, .int pr, .ref pn, .int gk, .int go, .int gc, .ref pg, .ref ps, .ref po, .ref pc, .ref pe, .ref p1, .ref p2, .ref pz])), (p1, .inr (1, [.long u_a1_9, .long u_b1_10, .long u_c1_11]))]) hP hD [1, 2] [0] rfl rfl (by decide) (by decide) hk1 hFc hP1 hD1
    generalize H1 = H at hP hS ⊢
    have hP : va_P (dC, dI) vwCl [(pn, .inl (tn, 1908, .inl An)), (ph, .inr (0, [.int dd, .int rt, .int cl, .int rf, .int pr, .ref pn, .int gk, .int go, .int gc, .ref pg, .ref ps, .ref po, .ref pc, .ref pe, .ref p1, .ref p2, .ref pz])), (p1, .inr (1, [.long u_a1_9, .long u_b1_10, .long u_c1_11]))] H := hP
    have hD : va_D A [(pn, .inl (tn, 1908, .inl An)), (ph, .inr (0, [.int dd, .int rt, .int cl, .int rf, .int pr, .ref pn, .int gk, .int go, .int gc, .ref pg, .ref ps, .ref po, .ref pc, .ref pe, .ref p1, .ref p2, .ref pz])), (p1, .inr (1, [.long u_a1_9, .long u_b1_10, .long u_c1_11]))] := hD
    obtain ⟨xc50, hc50, hf⟩ := ok_b hf
    have hPc := hP.sub (ws' := [(ph, .inr (0, [.int dd, .int rt, .int cl, .int rf, .int pr, .ref pn, .int gk, .int go, .int gc, .ref pg, .ref ps, .ref po, .ref pc, .ref pe, .ref p1, .ref p2, .ref pz])), (pn, .inl (tn, 1908, .inl An))]) [1, 0] rfl
    have hDc := hD.sub (ws' := [(ph, .inr (0, [.int dd, .int rt, .int cl, .int rf, .int pr, .ref pn, .int gk, .int go, .int gc, .ref pg, .ref ps, .ref po, .ref pc, .ref pe, .ref p1, .ref p2, .ref pz])), (pn, .inl (tn, 1908, .inl An))]) [1, 0] (by decide) rfl
    have hKc := hK.sub (tys' := [(tn, .int)]) [0] rfl
    have hFc := va_free (wc := [(ph, .inr (0, [.int dd, .int rt, .int cl, .int rf, .int pr, .ref pn, .int gk, .int go, .int gc, .ref pg, .ref ps, .ref po, .ref pc, .ref pe, .ref p1, .ref p2, .ref pz])), (pn, .inl (tn, 1908, .inl An))]) hD hS hA [1, 0] rfl
    refine va_calli (va_runV (As := [.int r_8]) (rest := []) ⟨hx, hb, hml, hown, hts⟩ (c_classAt l dC dI ph dd rt cl rf pr pn gk go gc pg ps po pc pe p1 p2 pz tn An r_8 H.size F xc50 hc50) (cwV 1 hts (gwV kw_142 kw_144 ks_13 kw_1 kw_145) rfl rfl rfl (by decide +kernel) ⟨Nat.le_of_ble_eq_true rfl, Nat.le_of_ble_eq_true rfl⟩) ⟨fun a U g mk q => by obtain ⟨q0, q1, qP, qK, qD⟩ := q; exact ⟨q0, q1, qP, va_K.moved (u := U) (U := U.calling g mk a) (Vm.Alike.refl U.vm) qK, qD⟩, va_recv hKc hPc (ci := 0) (q0 := 0) rfl rfl, fun U hU hW => ⟨rfl, by rw [hU], by rw [hU]; exact hPc, va_K.moved hW.alike hKc, hDc.weaken (fun _ _ _ _ => trivial)⟩⟩ rfl rfl hl.1 rfl (lv_room (Nat.le_of_ble_eq_true rfl)) dX0_classOf_50 ⟨Nat.zero_le _, Nat.zero_le _⟩) hS (fun q _ h => hFc q h) hFc (fun r_12 u t H1 locs ht hvm hw hB hz1 hk1 hS => ?_)
    obtain ⟨⟩ := u
    obtain ⟨hP1, hK1, hD1⟩ := hB
    rw [ht] at hP1
    subst hw
    obtain ⟨hP, hD⟩ := va_join (wr := [(p1, .inr (1, [.long u_a1_9, .long u_b1_10, .long u_c1_11]))]) (w1 := [(ph, .inr (0, [.int dd, .int rt, .int cl, .int rf, .int pr, .ref pn, .int gk, .int go, .int gc, .ref pg, .ref ps, .ref po, .ref pc, .ref pe, .ref p1, .ref p2, .ref pz])), (pn, .inl (tn, 1908, .inl An))]) hP hD [1, 0] [2] rfl rfl (by decide) (by decide) hk1 hFc hP1 hD1
    generalize H1 = H at hP hS ⊢
    have hP : va_P (dC, dI) vwCl [(p1, .inr (1, [.long u_a1_9, .long u_b1_10, .long u_c1_11])), (ph, .inr (0, [.int dd, .int rt, .int cl, .int rf, .int pr, .ref pn, .int gk, .int go, .int gc, .ref pg, .ref ps, .ref po, .ref pc, .ref pe, .ref p1, .ref p2, .ref pz])), (pn, .inl (tn, 1908, .inl An))] H := hP
    have hD : va_D A [(p1, .inr (1, [.long u_a1_9, .long u_b1_10, .long u_c1_11])), (ph, .inr (0, [.int dd, .int rt, .int cl, .int rf, .int pr, .ref pn, .int gk, .int go, .int gc, .ref pg, .ref ps, .ref po, .ref pc, .ref pe, .ref p1, .ref p2, .ref pz])), (pn, .inl (tn, 1908, .inl An))] := hD
    have hP9 := hP.sub (ws' := [(ph, .inr (0, [.int dd, .int rt, .int cl, .int rf, .int pr, .ref pn, .int gk, .int go, .int gc, .ref pg, .ref ps, .ref po, .ref pc, .ref pe, .ref p1, .ref p2, .ref pz])), (pn, .inl (tn, 1908, .inl An)), (p1, .inr (1, [.long u_a1_9, .long u_b1_10, .long u_c1_11]))]) [1, 2, 0] rfl
    have hD9 := hD.sub (ws' := [(ph, .inr (0, [.int dd, .int rt, .int cl, .int rf, .int pr, .ref pn, .int gk, .int go, .int gc, .ref pg, .ref ps, .ref po, .ref pc, .ref pe, .ref p1, .ref p2, .ref pz])), (pn, .inl (tn, 1908, .inl An)), (p1, .inr (1, [.long u_a1_9, .long u_b1_10, .long u_c1_11]))]) [1, 2, 0] (by decide) rfl
    have hK9 := hK.sub (tys' := [(tn, .int)]) [0] rfl
    exact W.iret (v := r_12) hx hb hr (fun t ht hW => ⟨⟨r_12, (u_a1_9, u_b1_10, u_c1_11), rfl, (Option.some.inj hf), by rw [ht]; exact hP9, va_K.moved hW.alike hK9, hD9⟩, hS.F ht⟩) hS.2.2 dX0_classOf_53
  · have hf := ok_t c_7 hf
    cases hf

def f_x_classOf (F : Nat) (dd : Int32) (x1 : Int32) (x2 : Int32) (x3 : Int32) : Option (Unit) := Option.bind (f_isForm F dd x1 x2 x3) (fun r_1 => (if r_1 = 0 then some () else none))
set_option maxHeartbeats 4000000 in
set_option maxRecDepth 100000 in
theorem c_x_classOf (l : Launch) (hlt : l.stackTraces = false) (q0 : Nat) (u1 u2 : Value) (dC : Nat → ClassId) (dI : Nat → Nat → Nat) (ph : Nat) (dd : Int32) (rt : Int32) (cl : Int32) (rf : Int32) (pr : Int32) (pn : Nat) (gk : Int32) (go : Int32) (gc : Int32) (pg : Nat) (ps : Nat) (po : Nat) (pc : Nat) (pe : Nat) (p1 : Nat) (p2 : Nat) (pz : Nat) (tn : ClassId) (An : Nat → Int32) (a1 : Int64) (b1 : Int64) (c1 : Int64) (x1 : Int32) (x2 : Int32) (x3 : Int32) (sz : Nat) (F : Nat) (out : Unit) (hf : f_x_classOf F dd x1 x2 x3 = some out) : tw_Met l yX0_classOf wsX0_classOf ({ frames := 6, cells := 1, slots := 6, locals := 90 }) (va_Pc [.ref ph, .int x1, .int x2, .int x3] (fun U => U.heap.size = sz ∧ va_P (dC, dI) vwCl [(ph, .inr (0, [.int dd, .int rt, .int cl, .int rf, .int pr, .ref pn, .int gk, .int go, .int gc, .ref pg, .ref ps, .ref po, .ref pc, .ref pe, .ref p1, .ref p2, .ref pz])), (pn, .inl (tn, 1908, .inl An)), (p1, .inr (1, [.long a1, .long b1, .long c1]))] U.heap ∧ va_K (dC, dI) vwCl [(tn, .int)] U ∧ va_D (fun _ => True) [(ph, .inr (0, [.int dd, .int rt, .int cl, .int rf, .int pr, .ref pn, .int gk, .int go, .int gc, .ref pg, .ref ps, .ref po, .ref pc, .ref pe, .ref p1, .ref p2, .ref pz])), (pn, .inl (tn, 1908, .inl An)), (p1, .inr (1, [.long a1, .long b1, .long c1]))] ∧ tw_K "ClassGroup" 108 "no form of this discriminant" q0 u1 u2 (va_A [(ph, .inr (0, [.int dd, .int rt, .int cl, .int rf, .int pr, .ref pn, .int gk, .int go, .int gc, .ref pg, .ref ps, .ref po, .ref pc, .ref pe, .ref p1, .ref p2, .ref pz])), (pn, .inl (tn, 1908, .inl An)), (p1, .inr (1, [.long a1, .long b1, .long c1]))] sz) U U.heap)) (tw_Qx "java/lang/IllegalArgumentException" (fun (u : Unit) => u = out) (fun (u : Unit) t => match u with | _ => va_P (dC, dI) vwCl [(ph, .inr (0, [.int dd, .int rt, .int cl, .int rf, .int pr, .ref pn, .int gk, .int go, .int gc, .ref pg, .ref ps, .ref po, .ref pc, .ref pe, .ref p1, .ref p2, .ref pz])), (pn, .inl (tn, 1908, .inl An)), (p1, .inr (1, [.long a1, .long b1, .long c1]))] t.heap ∧ va_K (dC, dI) vwCl [(tn, .int)] t ∧ va_D (va_A [(ph, .inr (0, [.int dd, .int rt, .int cl, .int rf, .int pr, .ref pn, .int gk, .int go, .int gc, .ref pg, .ref ps, .ref po, .ref pc, .ref pe, .ref p1, .ref p2, .ref pz])), (pn, .inl (tn, 1908, .inl An)), (p1, .inr (1, [.long a1, .long b1, .long c1]))] sz) [(ph, .inr (0, [.int dd, .int rt, .int cl, .int rf, .int pr, .ref pn, .int gk, .int go, .int gc, .ref pg, .ref ps, .ref po, .ref pc, .ref pe, .ref p1, .ref p2, .ref pz])), (pn, .inl (tn, 1908, .inl An)), (p1, .inr (1, [.long a1, .long b1, .long c1]))]) (va_A [(ph, .inr (0, [.int dd, .int rt, .int cl, .int rf, .int pr, .ref pn, .int gk, .int go, .int gc, .ref pg, .ref ps, .ref po, .ref pc, .ref pe, .ref p1, .ref p2, .ref pz])), (pn, .inl (tn, 1908, .inl An)), (p1, .inr (1, [.long a1, .long b1, .long c1]))] sz)) 1 6 (va_A [(ph, .inr (0, [.int dd, .int rt, .int cl, .int rf, .int pr, .ref pn, .int gk, .int go, .int gc, .ref pg, .ref ps, .ref po, .ref pc, .ref pe, .ref p1, .ref p2, .ref pz])), (pn, .inl (tn, 1908, .inl An)), (p1, .inr (1, [.long a1, .long b1, .long c1]))] sz) := by
  refine tw_ofW (cc := cX0_classOf) (maxL := 4) (ret := (some .int)) (by decide +kernel) rfl ?_
  intro p e s m args below meth c s₁ B hml hv
  obtain ⟨rfl, hsz, hP, hK, hD0, hKt⟩ := hv
  have hx := B.exec
  have hb := B.bytes
  have hr := B.returns
  have hts := atoms_spec (ws := wsX0_classOf) B.pre
  have hown : s.vm.findClass "ClassGroup" = some m.cls := findClass_of_methodNamed B.named
  have hlocks := B.notSynchronized
  subst hsz
  have hD := hD0.self (sz := s.heap.size)
  generalize hAe : va_A [(ph, .inr (0, [.int dd, .int rt, .int cl, .int rf, .int pr, .ref pn, .int gk, .int go, .int gc, .ref pg, .ref ps, .ref po, .ref pc, .ref pe, .ref p1, .ref p2, .ref pz])), (pn, .inl (tn, 1908, .inl An)), (p1, .inr (1, [.long a1, .long b1, .long c1]))] s.heap.size = A at hD hKt ⊢
  have hA : ∀ q : Nat, s.heap.size ≤ q → A q := fun q h => by rw [← hAe]; exact Or.inr h
  have hS : va_S A s.heap s.heap [] := va_S.rf
  have hl := lv_entry ([.ref ph, .int x1, .int x2, .int x3]) (n := 4) (Nat.le_of_ble_eq_true rfl)
  rw [lg_entry_eq]
  generalize (lg_sl ([.ref ph, .int x1, .int x2, .int x3]) ++ List.replicate (4 - (lg_sl ([.ref ph, .int x1, .int x2, .int x3])).length) Slot.unset).toArray = ls at hl ⊢
  have hl : lv_has ls 4 [(0, .ref ph), (1, .int x1), (2, .int x2), (3, .int x3)] := hl
  unfold f_x_classOf at hf
  refine lv_aload_n hx hb dX0_classOf_0 rfl (lv_at hl 0 rfl) ?_
  refine lv_iload_n hx hb dX0_classOf_1 rfl (lv_at hl 1 rfl) ?_
  refine lv_iload_n hx hb dX0_classOf_2 rfl (lv_at hl 2 rfl) ?_
  refine lv_iload_n hx hb dX0_classOf_3 rfl (lv_at hl 3 rfl) ?_
  obtain ⟨xc4, hc4, hf⟩ := ok_b hf
  have hPc := hP.sub (ws' := [(ph, .inr (0, [.int dd, .int rt, .int cl, .int rf, .int pr, .ref pn, .int gk, .int go, .int gc, .ref pg, .ref ps, .ref po, .ref pc, .ref pe, .ref p1, .ref p2, .ref pz]))]) [0] rfl
  have hDc := hD.sub (ws' := [(ph, .inr (0, [.int dd, .int rt, .int cl, .int rf, .int pr, .ref pn, .int gk, .int go, .int gc, .ref pg, .ref ps, .ref po, .ref pc, .ref pe, .ref p1, .ref p2, .ref pz]))]) [0] (by decide) rfl
  have hKc := hK.sub (tys' := []) [] rfl
  have hFc := va_free (wc := [(ph, .inr (0, [.int dd, .int rt, .int cl, .int rf, .int pr, .ref pn, .int gk, .int go, .int gc, .ref pg, .ref ps, .ref po, .ref pc, .ref pe, .ref p1, .ref p2, .ref pz]))]) hD hS hA [0] rfl
  refine va_calli (va_runV (As := [.int x1, .int x2, .int x3]) (rest := []) ⟨hx, hb, hml, hown, hts⟩ (c_isForm l dC dI ph dd rt cl rf pr pn gk go gc pg ps po pc pe p1 p2 pz x1 x2 x3 s.heap.size F xc4 hc4) (cwV 3 hts (gwV kw_370 kw_372 ks_25 kw_1 kw_373) rfl rfl rfl (by decide +kernel) ⟨Nat.le_of_ble_eq_true rfl, Nat.le_of_ble_eq_true rfl⟩) ⟨fun a U g mk q => by obtain ⟨q0, q1, qP, qK, qD⟩ := q; exact ⟨q0, q1, qP, va_K.moved (u := U) (U := U.calling g mk a) (Vm.Alike.refl U.vm) qK, qD⟩, va_recv hKc hPc (ci := 0) (q0 := 0) rfl rfl, fun U hU hW => ⟨rfl, by rw [hU], by rw [hU]; exact hPc, va_K.moved hW.alike hKc, hDc.weaken (fun _ _ _ _ => trivial)⟩⟩ rfl rfl hl.1 rfl (lv_room (Nat.le_of_ble_eq_true rfl)) dX0_classOf_4 ⟨Nat.zero_le _, Nat.zero_le _⟩) hS (fun q _ h => hFc q h) hFc (fun r_1 u t H1 locs ht hvm hw hB hz1 hk1 hS => ?_)
  obtain ⟨⟩ := u
  obtain ⟨hP1, hK1, hD1⟩ := hB
  rw [ht] at hP1
  subst hw
  obtain ⟨hP, hD⟩ := va_join (wr := [(pn, .inl (tn, 1908, .inl An)), (p1, .inr (1, [.long a1, .long b1, .long c1]))]) (w1 := [(ph, .inr (0, [.int dd, .int rt, .int cl, .int rf, .int pr, .ref pn, .int gk, .int go, .int gc, .ref pg, .ref ps, .ref po, .ref pc, .ref pe, .ref p1, .ref p2, .ref pz]))]) hP hD [0] [1, 2] rfl rfl (by decide) (by decide) hk1 hFc hP1 hD1
  generalize H1 = H at hP hS ⊢
  have hP : va_P (dC, dI) vwCl [(pn, .inl (tn, 1908, .inl An)), (p1, .inr (1, [.long a1, .long b1, .long c1])), (ph, .inr (0, [.int dd, .int rt, .int cl, .int rf, .int pr, .ref pn, .int gk, .int go, .int gc, .ref pg, .ref ps, .ref po, .ref pc, .ref pe, .ref p1, .ref p2, .ref pz]))] H := hP
  have hD : va_D A [(pn, .inl (tn, 1908, .inl An)), (p1, .inr (1, [.long a1, .long b1, .long c1])), (ph, .inr (0, [.int dd, .int rt, .int cl, .int rf, .int pr, .ref pn, .int gk, .int go, .int gc, .ref pg, .ref ps, .ref po, .ref pc, .ref pe, .ref p1, .ref p2, .ref pz]))] := hD
  refine lv_if_ne (tgt := 20) hx hb dX0_classOf_7 (by decide) (fun c_7 => ?_) (fun c_7 => ?_)
  · have hf := ok_f c_7 hf
    cases hf
  · have hf := ok_t c_7 hf
    have hP9 := hP.sub (ws' := [(ph, .inr (0, [.int dd, .int rt, .int cl, .int rf, .int pr, .ref pn, .int gk, .int go, .int gc, .ref pg, .ref ps, .ref po, .ref pc, .ref pe, .ref p1, .ref p2, .ref pz])), (pn, .inl (tn, 1908, .inl An)), (p1, .inr (1, [.long a1, .long b1, .long c1]))]) [2, 0, 1] rfl
    have hD9 := hD.sub (ws' := [(ph, .inr (0, [.int dd, .int rt, .int cl, .int rf, .int pr, .ref pn, .int gk, .int go, .int gc, .ref pg, .ref ps, .ref po, .ref pc, .ref pe, .ref p1, .ref p2, .ref pz])), (pn, .inl (tn, 1908, .inl An)), (p1, .inr (1, [.long a1, .long b1, .long c1]))]) [2, 0, 1] (by decide) rfl
    have hK9 := hK.sub (tys' := [(tn, .int)]) [0] rfl
    exact tw_throw (own := "ClassGroup") (cls := "java/lang/IllegalArgumentException") (names := tw_up) (ic := 57) (ix := 53) (il := 108) hx hb hlt hown (by decide +kernel) (by decide +kernel) (tw_on hts (hts _ (List.mem_cons_of_mem _ kw_273)) tw_atA) (hKt.kept hS.2.1) (hts _ (List.mem_cons_of_mem _ kw_272)) (hts _ (List.mem_cons_of_mem _ kw_273)) (hts _ (List.mem_cons_of_mem _ kw_9)) (hl.1.trans hml.symm) hlocks (B.noHandlers (hts _ List.mem_cons_self)) dX0_classOf_10 dX0_classOf_13 dX0_classOf_14 dX0_classOf_16 dX0_classOf_19 (Nat.le_of_ble_eq_true rfl) (Nat.le_of_ble_eq_true rfl) (Nat.le_of_ble_eq_true rfl) (Nat.le_of_ble_eq_true rfl) (fun t hz hk hce hW => ⟨⟨(), Option.some.inj hf, tw_P hP9 hk, va_K.moved hW.alike hK9, hD9⟩, tw_ce hW hce, tw_F hS hz hk⟩) hS.2.2

def f_p_inverse (F : Nat) (dd : Int32) (rt : Int32) (cl : Int32) (An : Nat → Int32) (a1 : Int64) (b1 : Int64) (c1 : Int64) (x1 : Int32) : Option (Int32 × Int64 × Int64 × Int64) := Option.bind (f_isClass F cl x1) (fun r_1 => (if r_1 = 0 then none else Option.bind (f_setTo F dd cl An a1 b1 c1 x1) (fun (u_a1_2, u_b1_3, u_c1_4) => Option.bind (f_Form_set F u_a1_2 (-u_b1_3) u_c1_4) (fun (u_a1_5, u_b1_6, u_c1_7) => Option.bind (f_reduce F dd rt u_a1_5 u_b1_6 u_c1_7) (fun (u_a1_8, u_b1_9, u_c1_10) => Option.bind (f_leastKey F dd rt u_a1_8 u_b1_9 u_c1_10) (fun (r_11, u_a1_12, u_b1_13, u_c1_14) => Option.bind (f_classAt F cl An r_11) (fun r_15 => some (r_15, u_a1_12, u_b1_13, u_c1_14))))))))
set_option maxHeartbeats 4000000 in
set_option maxRecDepth 100000 in
theorem c_p_inverse (l : Launch) (dC : Nat → ClassId) (dI : Nat → Nat → Nat) (ph : Nat) (dd : Int32) (rt : Int32) (cl : Int32) (rf : Int32) (pr : Int32) (pn : Nat) (gk : Int32) (go : Int32) (gc : Int32) (pg : Nat) (ps : Nat) (po : Nat) (pc : Nat) (pe : Nat) (p1 : Nat) (p2 : Nat) (pz : Nat) (tn : ClassId) (An : Nat → Int32) (a1 : Int64) (b1 : Int64) (c1 : Int64) (x1 : Int32) (sz : Nat) (F : Nat) (out : Int32 × Int64 × Int64 × Int64) (hf : f_p_inverse F dd rt cl An a1 b1 c1 x1 = some out) : Met l yX0_inverse wsX0_inverse ({ frames := 3, cells := 0, slots := 0, locals := 78 }) (va_Pc [.ref ph, .int x1] (fun U => U.heap.size = sz ∧ va_P (dC, dI) vwCl [(ph, .inr (0, [.int dd, .int rt, .int cl, .int rf, .int pr, .ref pn, .int gk, .int go, .int gc, .ref pg, .ref ps, .ref po, .ref pc, .ref pe, .ref p1, .ref p2, .ref pz])), (pn, .inl (tn, 1908, .inl An)), (p1, .inr (1, [.long a1, .long b1, .long c1]))] U.heap ∧ va_K (dC, dI) vwCl [(tn, .int)] U ∧ va_D (fun _ => True) [(ph, .inr (0, [.int dd, .int rt, .int cl, .int rf, .int pr, .ref pn, .int gk, .int go, .int gc, .ref pg, .ref ps, .ref po, .ref pc, .ref pe, .ref p1, .ref p2, .ref pz])), (pn, .inl (tn, 1908, .inl An)), (p1, .inr (1, [.long a1, .long b1, .long c1]))])) (va_Qi (fun (r : Int32) (u : Int64 × Int64 × Int64) => (r, u) = out) (fun (u : Int64 × Int64 × Int64) t => match u with | (u_a1, u_b1, u_c1) => va_P (dC, dI) vwCl [(ph, .inr (0, [.int dd, .int rt, .int cl, .int rf, .int pr, .ref pn, .int gk, .int go, .int gc, .ref pg, .ref ps, .ref po, .ref pc, .ref pe, .ref p1, .ref p2, .ref pz])), (pn, .inl (tn, 1908, .inl An)), (p1, .inr (1, [.long u_a1, .long u_b1, .long u_c1]))] t.heap ∧ va_K (dC, dI) vwCl [(tn, .int)] t ∧ va_D (va_A [(ph, .inr (0, [.int dd, .int rt, .int cl, .int rf, .int pr, .ref pn, .int gk, .int go, .int gc, .ref pg, .ref ps, .ref po, .ref pc, .ref pe, .ref p1, .ref p2, .ref pz])), (pn, .inl (tn, 1908, .inl An)), (p1, .inr (1, [.long a1, .long b1, .long c1]))] sz) [(ph, .inr (0, [.int dd, .int rt, .int cl, .int rf, .int pr, .ref pn, .int gk, .int go, .int gc, .ref pg, .ref ps, .ref po, .ref pc, .ref pe, .ref p1, .ref p2, .ref pz])), (pn, .inl (tn, 1908, .inl An)), (p1, .inr (1, [.long u_a1, .long u_b1, .long u_c1]))]) (va_A [(ph, .inr (0, [.int dd, .int rt, .int cl, .int rf, .int pr, .ref pn, .int gk, .int go, .int gc, .ref pg, .ref ps, .ref po, .ref pc, .ref pe, .ref p1, .ref p2, .ref pz])), (pn, .inl (tn, 1908, .inl An)), (p1, .inr (1, [.long a1, .long b1, .long c1]))] sz)) 0 0 (va_A [(ph, .inr (0, [.int dd, .int rt, .int cl, .int rf, .int pr, .ref pn, .int gk, .int go, .int gc, .ref pg, .ref ps, .ref po, .ref pc, .ref pe, .ref p1, .ref p2, .ref pz])), (pn, .inl (tn, 1908, .inl An)), (p1, .inr (1, [.long a1, .long b1, .long c1]))] sz) := by
  refine Met.ofW (cc := cX0_inverse) (maxL := 2) (ret := (some .int)) (by decide +kernel) rfl ?_
  intro p e s m args below meth c s₁ B hml hv
  obtain ⟨rfl, hsz, hP, hK, hD0⟩ := hv
  have hx := B.exec
  have hb := B.bytes
  have hr := B.returns
  have hts := atoms_spec (ws := wsX0_inverse) B.pre
  have hown : s.vm.findClass "ClassGroup" = some m.cls := findClass_of_methodNamed B.named
  have hlocks := B.notSynchronized
  subst hsz
  have hD := hD0.self (sz := s.heap.size)
  generalize hAe : va_A [(ph, .inr (0, [.int dd, .int rt, .int cl, .int rf, .int pr, .ref pn, .int gk, .int go, .int gc, .ref pg, .ref ps, .ref po, .ref pc, .ref pe, .ref p1, .ref p2, .ref pz])), (pn, .inl (tn, 1908, .inl An)), (p1, .inr (1, [.long a1, .long b1, .long c1]))] s.heap.size = A at hD ⊢
  have hA : ∀ q : Nat, s.heap.size ≤ q → A q := fun q h => by rw [← hAe]; exact Or.inr h
  have hS : va_S A s.heap s.heap [] := va_S.rf
  have hl := lv_entry ([.ref ph, .int x1]) (n := 2) (Nat.le_of_ble_eq_true rfl)
  rw [lg_entry_eq]
  generalize (lg_sl ([.ref ph, .int x1]) ++ List.replicate (2 - (lg_sl ([.ref ph, .int x1])).length) Slot.unset).toArray = ls at hl ⊢
  have hl : lv_has ls 2 [(0, .ref ph), (1, .int x1)] := hl
  unfold f_p_inverse at hf
  refine lv_aload_n hx hb dX0_inverse_0 rfl (lv_at hl 0 rfl) ?_
  refine lv_iload_n hx hb dX0_inverse_1 rfl (lv_at hl 1 rfl) ?_
  obtain ⟨xc2, hc2, hf⟩ := ok_b hf
  have hPc := hP.sub (ws' := [(ph, .inr (0, [.int dd, .int rt, .int cl, .int rf, .int pr, .ref pn, .int gk, .int go, .int gc, .ref pg, .ref ps, .ref po, .ref pc, .ref pe, .ref p1, .ref p2, .ref pz]))]) [0] rfl
  have hDc := hD.sub (ws' := [(ph, .inr (0, [.int dd, .int rt, .int cl, .int rf, .int pr, .ref pn, .int gk, .int go, .int gc, .ref pg, .ref ps, .ref po, .ref pc, .ref pe, .ref p1, .ref p2, .ref pz]))]) [0] (by decide) rfl
  have hKc := hK.sub (tys' := []) [] rfl
  have hFc := va_free (wc := [(ph, .inr (0, [.int dd, .int rt, .int cl, .int rf, .int pr, .ref pn, .int gk, .int go, .int gc, .ref pg, .ref ps, .ref po, .ref pc, .ref pe, .ref p1, .ref p2, .ref pz]))]) hD hS hA [0] rfl
  refine va_calli (va_runV (As := [.int x1]) (rest := []) ⟨hx, hb, hml, hown, hts⟩ (c_isClass l dC dI ph dd rt cl rf pr pn gk go gc pg ps po pc pe p1 p2 pz x1 s.heap.size F xc2 hc2) (cwV 1 hts (gwV kw_146 kw_148 ks_14 kw_1 kw_149) rfl rfl rfl (by decide +kernel) ⟨Nat.le_of_ble_eq_true rfl, Nat.le_of_ble_eq_true rfl⟩) ⟨fun a U g mk q => by obtain ⟨q0, q1, qP, qK, qD⟩ := q; exact ⟨q0, q1, qP, va_K.moved (u := U) (U := U.calling g mk a) (Vm.Alike.refl U.vm) qK, qD⟩, va_recv hKc hPc (ci := 0) (q0 := 0) rfl rfl, fun U hU hW => ⟨rfl, by rw [hU], by rw [hU]; exact hPc, va_K.moved hW.alike hKc, hDc.weaken (fun _ _ _ _ => trivial)⟩⟩ rfl rfl hl.1 rfl (lv_room (Nat.le_of_ble_eq_true rfl)) dX0_inverse_2 ⟨Nat.zero_le _, Nat.zero_le _⟩) hS (fun q _ h => hFc q h) hFc (fun r_1 u t H1 locs ht hvm hw hB hz1 hk1 hS => ?_)
  obtain ⟨⟩ := u
  obtain ⟨hP1, hK1, hD1⟩ := hB
  rw [ht] at hP1
  subst hw
  obtain ⟨hP, hD⟩ := va_join (wr := [(pn, .inl (tn, 1908, .inl An)), (p1, .inr (1, [.long a1, .long b1, .long c1]))]) (w1 := [(ph, .inr (0, [.int dd, .int rt, .int cl, .int rf, .int pr, .ref pn, .int gk, .int go, .int gc, .ref pg, .ref ps, .ref po, .ref pc, .ref pe, .ref p1, .ref p2, .ref pz]))]) hP hD [0] [1, 2] rfl rfl (by decide) (by decide) hk1 hFc hP1 hD1
  generalize H1 = H at hP hS ⊢
  have hP : va_P (dC, dI) vwCl [(pn, .inl (tn, 1908, .inl An)), (p1, .inr (1, [.long a1, .long b1, .long c1])), (ph, .inr (0, [.int dd, .int rt, .int cl, .int rf, .int pr, .ref pn, .int gk, .int go, .int gc, .ref pg, .ref ps, .ref po, .ref pc, .ref pe, .ref p1, .ref p2, .ref pz]))] H := hP
  have hD : va_D A [(pn, .inl (tn, 1908, .inl An)), (p1, .inr (1, [.long a1, .long b1, .long c1])), (ph, .inr (0, [.int dd, .int rt, .int cl, .int rf, .int pr, .ref pn, .int gk, .int go, .int gc, .ref pg, .ref ps, .ref po, .ref pc, .ref pe, .ref p1, .ref p2, .ref pz]))] := hD
  refine lv_if_ne (tgt := 18) hx hb dX0_inverse_5 (by decide) (fun c_5 => ?_) (fun c_5 => ?_)
  · have hf := ok_f c_5 hf
    refine lv_aload_n hx hb dX0_inverse_18 rfl (lv_at hl 0 rfl) ?_
    refine lv_aload_n hx hb dX0_inverse_19 rfl (lv_at hl 0 rfl) ?_
    refine va_get (D := (dC, dI)) (ci := 0) (v := .ref p1) (C := "ClassGroup") (T := TX0) (N := 17) hx hb hts (fun w h => List.mem_cons_of_mem _ (iwX0 w h)) hown hK hP 2 rfl rfl 14 (by decide) (hts _ (List.mem_cons_of_mem _ kw_164)) (fun _ h9 => h9) rfl dX0_inverse_20 ?_
    refine lv_iload_n hx hb dX0_inverse_23 rfl (lv_at hl 1 rfl) ?_
    obtain ⟨xc24, hc24, hf⟩ := ok_b hf
    have hPc := hP.sub (ws' := [(ph, .inr (0, [.int dd, .int rt, .int cl, .int rf, .int pr, .ref pn, .int gk, .int go, .int gc, .ref pg, .ref ps, .ref po, .ref pc, .ref pe, .ref p1, .ref p2, .ref pz])), (pn, .inl (tn, 1908, .inl An)), (p1, .inr (1, [.long a1, .long b1, .long c1]))]) [2, 0, 1] rfl
    have hDc := hD.sub (ws' := [(ph, .inr (0, [.int dd, .int rt, .int cl, .int rf, .int pr, .ref pn, .int gk, .int go, .int gc, .ref pg, .ref ps, .ref po, .ref pc, .ref pe, .ref p1, .ref p2, .ref pz])), (pn, .inl (tn, 1908, .inl An)), (p1, .inr (1, [.long a1, .long b1, .long c1]))]) [2, 0, 1] (by decide) rfl
    have hKc := hK.sub (tys' := [(tn, .int)]) [0] rfl
    have hFc := va_free (wc := [(ph, .inr (0, [.int dd, .int rt, .int cl, .int rf, .int pr, .ref pn, .int gk, .int go, .int gc, .ref pg, .ref ps, .ref po, .ref pc, .ref pe, .ref p1, .ref p2, .ref pz])), (pn, .inl (tn, 1908, .inl An)), (p1, .inr (1, [.long a1, .long b1, .long c1]))]) hD hS hA [2, 0, 1] rfl
    refine va_callv (va_runV (As := [.ref p1, .int x1]) (rest := []) ⟨hx, hb, hml, hown, hts⟩ (c_setTo l dC dI ph dd rt cl rf pr pn gk go gc pg ps po pc pe p1 p2 pz tn An p1 a1 b1 c1 x1 H.size F xc24 hc24) (cwV 2 hts (gwV kw_225 kw_227 ks_19 kw_1 kw_228) rfl rfl rfl (by decide +kernel) ⟨Nat.le_of_ble_eq_true rfl, Nat.le_of_ble_eq_true rfl⟩) ⟨fun a U g mk q => by obtain ⟨q0, q1, qP, qK, qD⟩ := q; exact ⟨q0, q1, qP, va_K.moved (u := U) (U := U.calling g mk a) (Vm.Alike.refl U.vm) qK, qD⟩, va_recv hKc hPc (ci := 0) (q0 := 0) rfl rfl, fun U hU hW => ⟨rfl, by rw [hU], by rw [hU]; exact hPc, va_K.moved hW.alike hKc, hDc.weaken (fun _ _ _ _ => trivial)⟩⟩ rfl rfl hl.1 rfl (lv_room (Nat.le_of_ble_eq_true rfl)) dX0_inverse_24 ⟨Nat.zero_le _, Nat.zero_le _⟩) hS (fun q _ h => hFc q h) hFc (fun u t H1 locs ht hvm hw hB hz1 hk1 hS => ?_)
    obtain ⟨u_a1_2, u_b1_3, u_c1_4⟩ := u
    obtain ⟨hP1, hK1, hD1⟩ := hB
    rw [ht] at hP1
    subst hw
    obtain ⟨hP, hD⟩ := va_join (wr := []) (w1 := [(ph, .inr (0, [.int dd, .int rt, .int cl, .int rf, .int pr, .ref pn, .int gk, .int go, .int gc, .ref pg, .ref ps, .ref po, .ref pc, .ref pe, .ref p1, .ref p2, .ref pz])), (pn, .inl (tn, 1908, .inl An)), (p1, .inr (1, [.long u_a1_2, .long u_b1_3, .long u_c1_4]))]) hP hD [2, 0, 1] [] rfl rfl (by decide) (by decide) hk1 hFc hP1 hD1
    generalize H1 = H at hP hS ⊢
    have hP : va_P (dC, dI) vwCl [(ph, .inr (0, [.int dd, .int rt, .int cl, .int rf, .int pr, .ref pn, .int gk, .int go, .int gc, .ref pg, .ref ps, .ref po, .ref pc, .ref pe, .ref p1, .ref p2, .ref pz])), (pn, .inl (tn, 1908, .inl An)), (p1, .inr (1, [.long u_a1_2, .long u_b1_3, .long u_c1_4]))] H := hP
    have hD : va_D A [(ph, .inr (0, [.int dd, .int rt, .int cl, .int rf, .int pr, .ref pn, .int gk, .int go, .int gc, .ref pg, .ref ps, .ref po, .ref pc, .ref pe, .ref p1, .ref p2, .ref pz])), (pn, .inl (tn, 1908, .inl An)), (p1, .inr (1, [.long u_a1_2, .long u_b1_3, .long u_c1_4]))] := hD
    refine lv_aload_n hx hb dX0_inverse_27 rfl (lv_at hl 0 rfl) ?_
    refine va_get (D := (dC, dI)) (ci := 0) (v := .ref p1) (C := "ClassGroup") (T := TX0) (N := 17) hx hb hts (fun w h => List.mem_cons_of_mem _ (iwX0 w h)) hown hK hP 0 rfl rfl 14 (by decide) (hts _ (List.mem_cons_of_mem _ kw_164)) (fun _ h9 => h9) rfl dX0_inverse_28 ?_
    refine lv_aload_n hx hb dX0_inverse_31 rfl (lv_at hl 0 rfl) ?_
    refine va_get (D := (dC, dI)) (ci := 0) (v := .ref p1) (C := "ClassGroup") (T := TX0) (N := 17) hx hb hts (fun w h => List.mem_cons_of_mem _ (iwX0 w h)) hown hK hP 0 rfl rfl 14 (by decide) (hts _ (List.mem_cons_of_mem _ kw_164)) (fun _ h9 => h9) rfl dX0_inverse_32 ?_
    refine va_get (D := (dC, dI)) (ci := 1) (v := .long u_a1_2) (C := "ClassGroup$Form") (T := TX1) (N := 3) hx hb hts (fun w h => List.mem_cons_of_mem _ (iwX1 w h)) hown hK hP 2 rfl rfl 0 (by decide) (hts _ (List.mem_cons_of_mem _ kw_27)) (fun _ h9 => h9) rfl dX0_inverse_35 ?_
    refine lv_aload_n hx hb dX0_inverse_38 rfl (lv_at hl 0 rfl) ?_
    refine va_get (D := (dC, dI)) (ci := 0) (v := .ref p1) (C := "ClassGroup") (T := TX0) (N := 17) hx hb hts (fun w h => List.mem_cons_of_mem _ (iwX0 w h)) hown hK hP 0 rfl rfl 14 (by decide) (hts _ (List.mem_cons_of_mem _ kw_164)) (fun _ h9 => h9) rfl dX0_inverse_39 ?_
    refine va_get (D := (dC, dI)) (ci := 1) (v := .long u_b1_3) (C := "ClassGroup$Form") (T := TX1) (N := 3) hx hb hts (fun w h => List.mem_cons_of_mem _ (iwX1 w h)) hown hK hP 2 rfl rfl 1 (by decide) (hts _ (List.mem_cons_of_mem _ kw_29)) (fun _ h9 => h9) rfl dX0_inverse_42 ?_
    refine lv_lneg hx hb dX0_inverse_45 ?_
    refine lv_aload_n hx hb dX0_inverse_46 rfl (lv_at hl 0 rfl) ?_
    refine va_get (D := (dC, dI)) (ci := 0) (v := .ref p1) (C := "ClassGroup") (T := TX0) (N := 17) hx hb hts (fun w h => List.mem_cons_of_mem _ (iwX0 w h)) hown hK hP 0 rfl rfl 14 (by decide) (hts _ (List.mem_cons_of_mem _ kw_164)) (fun _ h9 => h9) rfl dX0_inverse_47 ?_
    refine va_get (D := (dC, dI)) (ci := 1) (v := .long u_c1_4) (C := "ClassGroup$Form") (T := TX1) (N := 3) hx hb hts (fun w h => List.mem_cons_of_mem _ (iwX1 w h)) hown hK hP 2 rfl rfl 2 (by decide) (hts _ (List.mem_cons_of_mem _ kw_31)) (fun _ h9 => h9) rfl dX0_inverse_50 ?_
    obtain ⟨xc53, hc53, hf⟩ := ok_b hf
    have hPc := hP.sub (ws' := [(p1, .inr (1, [.long u_a1_2, .long u_b1_3, .long u_c1_4]))]) [2] rfl
    have hDc := hD.sub (ws' := [(p1, .inr (1, [.long u_a1_2, .long u_b1_3, .long u_c1_4]))]) [2] (by decide) rfl
    have hKc := hK.sub (tys' := []) [] rfl
    have hFc := va_free (wc := [(p1, .inr (1, [.long u_a1_2, .long u_b1_3, .long u_c1_4]))]) hD hS hA [2] rfl
    refine va_callv (va_runV (As := [.long u_a1_2, .long (-u_b1_3), .long u_c1_4]) (rest := []) ⟨hx, hb, hml, hown, hts⟩ (c_Form_set l dC dI p1 u_a1_2 u_b1_3 u_c1_4 u_a1_2 (-u_b1_3) u_c1_4 H.size F xc53 hc53) (cwV 3 hts (gwV kw_104 kw_105 kw_106 kw_2 kw_107) rfl rfl rfl (by decide +kernel) ⟨Nat.le_of_ble_eq_true rfl, Nat.le_of_ble_eq_true rfl⟩) ⟨fun a U g mk q => by obtain ⟨q0, q1, qP, qK, qD⟩ := q; exact ⟨q0, q1, qP, va_K.moved (u := U) (U := U.calling g mk a) (Vm.Alike.refl U.vm) qK, qD⟩, va_recv hKc hPc (ci := 1) (q0 := 0) rfl rfl, fun U hU hW => ⟨rfl, by rw [hU], by rw [hU]; exact hPc, va_K.moved hW.alike hKc, hDc.weaken (fun _ _ _ _ => trivial)⟩⟩ rfl rfl hl.1 rfl (lv_room (Nat.le_of_ble_eq_true rfl)) dX0_inverse_53 ⟨Nat.zero_le _, Nat.zero_le _⟩) hS (fun q _ h => hFc q h) hFc (fun u t H1 locs ht hvm hw hB hz1 hk1 hS => ?_)
    obtain ⟨u_a1_5, u_b1_6, u_c1_7⟩ := u
    obtain ⟨hP1, hK1, hD1⟩ := hB
    rw [ht] at hP1
    subst hw
    obtain ⟨hP, hD⟩ := va_join (wr := [(ph, .inr (0, [.int dd, .int rt, .int cl, .int rf, .int pr, .ref pn, .int gk, .int go, .int gc, .ref pg, .ref ps, .ref po, .ref pc, .ref pe, .ref p1, .ref p2, .ref pz])), (pn, .inl (tn, 1908, .inl An))]) (w1 := [(p1, .inr (1, [.long u_a1_5, .long u_b1_6, .long u_c1_7]))]) hP hD [2] [0, 1] rfl rfl (by decide) (by decide) hk1 hFc hP1 hD1
    generalize H1 = H at hP hS ⊢
    have hP : va_P (dC, dI) vwCl [(ph, .inr (0, [.int dd, .int rt, .int cl, .int rf, .int pr, .ref pn, .int gk, .int go, .int gc, .ref pg, .ref ps, .ref po, .ref pc, .ref pe, .ref p1, .ref p2, .ref pz])), (pn, .inl (tn, 1908, .inl An)), (p1, .inr (1, [.long u_a1_5, .long u_b1_6, .long u_c1_7]))] H := hP
    have hD : va_D A [(ph, .inr (0, [.int dd, .int rt, .int cl, .int rf, .int pr, .ref pn, .int gk, .int go, .int gc, .ref pg, .ref ps, .ref po, .ref pc, .ref pe, .ref p1, .ref p2, .ref pz])), (pn, .inl (tn, 1908, .inl An)), (p1, .inr (1, [.long u_a1_5, .long u_b1_6, .long u_c1_7]))] := hD
    refine lv_aload_n hx hb dX0_inverse_56 rfl (lv_at hl 0 rfl) ?_
    refine lv_aload_n hx hb dX0_inverse_57 rfl (lv_at hl 0 rfl) ?_
    refine va_get (D := (dC, dI)) (ci := 0) (v := .ref p1) (C := "ClassGroup") (T := TX0) (N := 17) hx hb hts (fun w h => List.mem_cons_of_mem _ (iwX0 w h)) hown hK hP 0 rfl rfl 14 (by decide) (hts _ (List.mem_cons_of_mem _ kw_164)) (fun _ h9 => h9) rfl dX0_inverse_58 ?_
    obtain ⟨xc61, hc61, hf⟩ := ok_b hf
    have hPc := hP.sub (ws' := [(ph, .inr (0, [.int dd, .int rt, .int cl, .int rf, .int pr, .ref pn, .int gk, .int go, .int gc, .ref pg, .ref ps, .ref po, .ref pc, .ref pe, .ref p1, .ref p2, .ref pz])), (p1, .inr (1, [.long u_a1_5, .long u_b1_6, .long u_c1_7]))]) [0, 2] rfl
    have hDc := hD.sub (ws' := [(ph, .inr (0, [.int dd, .int rt, .int cl, .int rf, .int pr, .ref pn, .int gk, .int go, .int gc, .ref pg, .ref ps, .ref po, .ref pc, .ref pe, .ref p1, .ref p2, .ref pz])), (p1, .inr (1, [.long u_a1_5, .long u_b1_6, .long u_c1_7]))]) [0, 2] (by decide) rfl
    have hKc := hK.sub (tys' := []) [] rfl
    have hFc := va_free (wc := [(ph, .inr (0, [.int dd, .int rt, .int cl, .int rf, .int pr, .ref pn, .int gk, .int go, .int gc, .ref pg, .ref ps, .ref po, .ref pc, .ref pe, .ref p1, .ref p2, .ref pz])), (p1, .inr (1, [.long u_a1_5, .long u_b1_6, .long u_c1_7]))]) hD hS hA [0, 2] rfl
    refine va_callv (va_runV (As := [.ref p1]) (rest := []) ⟨hx, hb, hml, hown, hts⟩ (c_reduce l dC dI ph dd rt cl rf pr pn gk go gc pg ps po pc pe p1 p2 pz p1 u_a1_5 u_b1_6 u_c1_7 H.size F xc61 hc61) (cwV 1 hts (gwV kw_127 kw_129 ks_10 kw_1 kw_130) rfl rfl rfl (by decide +kernel) ⟨Nat.le_of_ble_eq_true rfl, Nat.le_of_ble_eq_true rfl⟩) ⟨fun a U g mk q => by obtain ⟨q0, q1, qP, qK, qD⟩ := q; exact ⟨q0, q1, qP, va_K.moved (u := U) (U := U.calling g mk a) (Vm.Alike.refl U.vm) qK, qD⟩, va_recv hKc hPc (ci := 0) (q0 := 0) rfl rfl, fun U hU hW => ⟨rfl, by rw [hU], by rw [hU]; exact hPc, va_K.moved hW.alike hKc, hDc.weaken (fun _ _ _ _ => trivial)⟩⟩ rfl rfl hl.1 rfl (lv_room (Nat.le_of_ble_eq_true rfl)) dX0_inverse_61 ⟨Nat.zero_le _, Nat.zero_le _⟩) hS (fun q _ h => hFc q h) hFc (fun u t H1 locs ht hvm hw hB hz1 hk1 hS => ?_)
    obtain ⟨u_a1_8, u_b1_9, u_c1_10⟩ := u
    obtain ⟨hP1, hK1, hD1⟩ := hB
    rw [ht] at hP1
    subst hw
    obtain ⟨hP, hD⟩ := va_join (wr := [(pn, .inl (tn, 1908, .inl An))]) (w1 := [(ph, .inr (0, [.int dd, .int rt, .int cl, .int rf, .int pr, .ref pn, .int gk, .int go, .int gc, .ref pg, .ref ps, .ref po, .ref pc, .ref pe, .ref p1, .ref p2, .ref pz])), (p1, .inr (1, [.long u_a1_8, .long u_b1_9, .long u_c1_10]))]) hP hD [0, 2] [1] rfl rfl (by decide) (by decide) hk1 hFc hP1 hD1
    generalize H1 = H at hP hS ⊢
    have hP : va_P (dC, dI) vwCl [(pn, .inl (tn, 1908, .inl An)), (ph, .inr (0, [.int dd, .int rt, .int cl, .int rf, .int pr, .ref pn, .int gk, .int go, .int gc, .ref pg, .ref ps, .ref po, .ref pc, .ref pe, .ref p1, .ref p2, .ref pz])), (p1, .inr (1, [.long u_a1_8, .long u_b1_9, .long u_c1_10]))] H := hP
    have hD : va_D A [(pn, .inl (tn, 1908, .inl An)), (ph, .inr (0, [.int dd, .int rt, .int cl, .int rf, .int pr, .ref pn, .int gk, .int go, .int gc, .ref pg, .ref ps, .ref po, .ref pc, .ref pe, .ref p1, .ref p2, .ref pz])), (p1, .inr (1, [.long u_a1_8, .long u_b1_9, .long u_c1_10]))] := hD
    refine lv_aload_n hx hb dX0_inverse_64 rfl (lv_at hl 0 rfl) ?_
    refine lv_aload_n hx hb dX0_inverse_65 rfl (lv_at hl 0 rfl) ?_
    refine lv_aload_n hx hb dX0_inverse_66 rfl (lv_at hl 0 rfl) ?_
    refine va_get (D := (dC, dI)) (ci := 0) (v := .ref p1) (C := "ClassGroup") (T := TX0) (N := 17) hx hb hts (fun w h => List.mem_cons_of_mem _ (iwX0 w h)) hown hK hP 1 rfl rfl 14 (by decide) (hts _ (List.mem_cons_of_mem _ kw_164)) (fun _ h9 => h9) rfl dX0_inverse_67 ?_
    obtain ⟨xc70, hc70, hf⟩ := ok_b hf
    have hPc := hP.sub (ws' := [(ph, .inr (0, [.int dd, .int rt, .int cl, .int rf, .int pr, .ref pn, .int gk, .int go, .int gc, .ref pg, .ref ps, .ref po, .ref pc, .ref pe, .ref p1, .ref p2, .ref pz])), (p1, .inr (1, [.long u_a1_8, .long u_b1_9, .long u_c1_10]))]) [1, 2] rfl
    have hDc := hD.sub (ws' := [(ph, .inr (0, [.int dd, .int rt, .int cl, .int rf, .int pr, .ref pn, .int gk, .int go, .int gc, .ref pg, .ref ps, .ref po, .ref pc, .ref pe, .ref p1, .ref p2, .ref pz])), (p1, .inr (1, [.long u_a1_8, .long u_b1_9, .long u_c1_10]))]) [1, 2] (by decide) rfl
    have hKc := hK.sub (tys' := []) [] rfl
    have hFc := va_free (wc := [(ph, .inr (0, [.int dd, .int rt, .int cl, .int rf, .int pr, .ref pn, .int gk, .int go, .int gc, .ref pg, .ref ps, .ref po, .ref pc, .ref pe, .ref p1, .ref p2, .ref pz])), (p1, .inr (1, [.long u_a1_8, .long u_b1_9, .long u_c1_10]))]) hD hS hA [1, 2] rfl
    refine va_calli (va_runV (As := [.ref p1]) (rest := [.ref ph]) ⟨hx, hb, hml, hown, hts⟩ (c_leastKey l dC dI ph dd rt cl rf pr pn gk go gc pg ps po pc pe p1 p2 pz p1 u_a1_8 u_b1_9 u_c1_10 H.size F xc70 hc70) (cwV 1 hts (gwV kw_135 kw_137 ks_12 kw_1 kw_138) rfl rfl rfl (by decide +kernel) ⟨Nat.le_of_ble_eq_true rfl, Nat.le_of_ble_eq_true rfl⟩) ⟨fun a U g mk q => by obtain ⟨q0, q1, qP, qK, qD⟩ := q; exact ⟨q0, q1, qP, va_K.moved (u := U) (U := U.calling g mk a) (Vm.Alike.refl U.vm) qK, qD⟩, va_recv hKc hPc (ci := 0) (q0 := 0) rfl rfl, fun U hU hW => ⟨rfl, by rw [hU], by rw [hU]; exact hPc, va_K.moved hW.alike hKc, hDc.weaken (fun _ _ _ _ => trivial)⟩⟩ rfl rfl hl.1 rfl (lv_room (Nat.le_of_ble_eq_true rfl)) dX0_inverse_70 ⟨Nat.zero_le _, Nat.zero_le _⟩) hS (fun q _ h => hFc q h) hFc (fun r_11 u t H1 locs ht hvm hw hB hz1 hk1 hS => ?_)
    obtain ⟨u_a1_12, u_b1_13, u_c1_14⟩ := u
    obtain ⟨hP1, hK1, hD1⟩ := hB
    rw [ht] at hP1
    subst hw
    obtain ⟨hP, hD⟩ := va_join (wr := [(pn, .inl (tn, 1908, .inl An))]) (w1 := [(ph, .inr (0, [.int dd, .int rt, .int cl, .int rf, .int pr, .ref pn, .int gk, .int go, .int gc, .ref pg, .ref ps, .ref po, .ref pc, .ref pe, .ref p1, .ref p2, .ref pz])), (p1, .inr (1, [.long u_a1_12, .long u_b1_13, .long u_c1_14]))]) hP hD [1, 2] [0] rfl rfl (by decide) (by decide) hk1 hFc hP1 hD1
    generalize H1 = H at hP hS ⊢
    have hP : va_P (dC, dI) vwCl [(pn, .inl (tn, 1908, .inl An)), (ph, .inr (0, [.int dd, .int rt, .int cl, .int rf, .int pr, .ref pn, .int gk, .int go, .int gc, .ref pg, .ref ps, .ref po, .ref pc, .ref pe, .ref p1, .ref p2, .ref pz])), (p1, .inr (1, [.long u_a1_12, .long u_b1_13, .long u_c1_14]))] H := hP
    have hD : va_D A [(pn, .inl (tn, 1908, .inl An)), (ph, .inr (0, [.int dd, .int rt, .int cl, .int rf, .int pr, .ref pn, .int gk, .int go, .int gc, .ref pg, .ref ps, .ref po, .ref pc, .ref pe, .ref p1, .ref p2, .ref pz])), (p1, .inr (1, [.long u_a1_12, .long u_b1_13, .long u_c1_14]))] := hD
    obtain ⟨xc73, hc73, hf⟩ := ok_b hf
    have hPc := hP.sub (ws' := [(ph, .inr (0, [.int dd, .int rt, .int cl, .int rf, .int pr, .ref pn, .int gk, .int go, .int gc, .ref pg, .ref ps, .ref po, .ref pc, .ref pe, .ref p1, .ref p2, .ref pz])), (pn, .inl (tn, 1908, .inl An))]) [1, 0] rfl
    have hDc := hD.sub (ws' := [(ph, .inr (0, [.int dd, .int rt, .int cl, .int rf, .int pr, .ref pn, .int gk, .int go, .int gc, .ref pg, .ref ps, .ref po, .ref pc, .ref pe, .ref p1, .ref p2, .ref pz])), (pn, .inl (tn, 1908, .inl An))]) [1, 0] (by decide) rfl
    have hKc := hK.sub (tys' := [(tn, .int)]) [0] rfl
    have hFc := va_free (wc := [(ph, .inr (0, [.int dd, .int rt, .int cl, .int rf, .int pr, .ref pn, .int gk, .int go, .int gc, .ref pg, .ref ps, .ref po, .ref pc, .ref pe, .ref p1, .ref p2, .ref pz])), (pn, .inl (tn, 1908, .inl An))]) hD hS hA [1, 0] rfl
    refine va_calli (va_runV (As := [.int r_11]) (rest := []) ⟨hx, hb, hml, hown, hts⟩ (c_classAt l dC dI ph dd rt cl rf pr pn gk go gc pg ps po pc pe p1 p2 pz tn An r_11 H.size F xc73 hc73) (cwV 1 hts (gwV kw_142 kw_144 ks_13 kw_1 kw_145) rfl rfl rfl (by decide +kernel) ⟨Nat.le_of_ble_eq_true rfl, Nat.le_of_ble_eq_true rfl⟩) ⟨fun a U g mk q => by obtain ⟨q0, q1, qP, qK, qD⟩ := q; exact ⟨q0, q1, qP, va_K.moved (u := U) (U := U.calling g mk a) (Vm.Alike.refl U.vm) qK, qD⟩, va_recv hKc hPc (ci := 0) (q0 := 0) rfl rfl, fun U hU hW => ⟨rfl, by rw [hU], by rw [hU]; exact hPc, va_K.moved hW.alike hKc, hDc.weaken (fun _ _ _ _ => trivial)⟩⟩ rfl rfl hl.1 rfl (lv_room (Nat.le_of_ble_eq_true rfl)) dX0_inverse_73 ⟨Nat.zero_le _, Nat.zero_le _⟩) hS (fun q _ h => hFc q h) hFc (fun r_15 u t H1 locs ht hvm hw hB hz1 hk1 hS => ?_)
    obtain ⟨⟩ := u
    obtain ⟨hP1, hK1, hD1⟩ := hB
    rw [ht] at hP1
    subst hw
    obtain ⟨hP, hD⟩ := va_join (wr := [(p1, .inr (1, [.long u_a1_12, .long u_b1_13, .long u_c1_14]))]) (w1 := [(ph, .inr (0, [.int dd, .int rt, .int cl, .int rf, .int pr, .ref pn, .int gk, .int go, .int gc, .ref pg, .ref ps, .ref po, .ref pc, .ref pe, .ref p1, .ref p2, .ref pz])), (pn, .inl (tn, 1908, .inl An))]) hP hD [1, 0] [2] rfl rfl (by decide) (by decide) hk1 hFc hP1 hD1
    generalize H1 = H at hP hS ⊢
    have hP : va_P (dC, dI) vwCl [(p1, .inr (1, [.long u_a1_12, .long u_b1_13, .long u_c1_14])), (ph, .inr (0, [.int dd, .int rt, .int cl, .int rf, .int pr, .ref pn, .int gk, .int go, .int gc, .ref pg, .ref ps, .ref po, .ref pc, .ref pe, .ref p1, .ref p2, .ref pz])), (pn, .inl (tn, 1908, .inl An))] H := hP
    have hD : va_D A [(p1, .inr (1, [.long u_a1_12, .long u_b1_13, .long u_c1_14])), (ph, .inr (0, [.int dd, .int rt, .int cl, .int rf, .int pr, .ref pn, .int gk, .int go, .int gc, .ref pg, .ref ps, .ref po, .ref pc, .ref pe, .ref p1, .ref p2, .ref pz])), (pn, .inl (tn, 1908, .inl An))] := hD
    have hP9 := hP.sub (ws' := [(ph, .inr (0, [.int dd, .int rt, .int cl, .int rf, .int pr, .ref pn, .int gk, .int go, .int gc, .ref pg, .ref ps, .ref po, .ref pc, .ref pe, .ref p1, .ref p2, .ref pz])), (pn, .inl (tn, 1908, .inl An)), (p1, .inr (1, [.long u_a1_12, .long u_b1_13, .long u_c1_14]))]) [1, 2, 0] rfl
    have hD9 := hD.sub (ws' := [(ph, .inr (0, [.int dd, .int rt, .int cl, .int rf, .int pr, .ref pn, .int gk, .int go, .int gc, .ref pg, .ref ps, .ref po, .ref pc, .ref pe, .ref p1, .ref p2, .ref pz])), (pn, .inl (tn, 1908, .inl An)), (p1, .inr (1, [.long u_a1_12, .long u_b1_13, .long u_c1_14]))]) [1, 2, 0] (by decide) rfl
    have hK9 := hK.sub (tys' := [(tn, .int)]) [0] rfl
    exact W.iret (v := r_15) hx hb hr (fun t ht hW => ⟨⟨r_15, (u_a1_12, u_b1_13, u_c1_14), rfl, (Option.some.inj hf), by rw [ht]; exact hP9, va_K.moved hW.alike hK9, hD9⟩, hS.F ht⟩) hS.2.2 dX0_inverse_76
  · have hf := ok_t c_5 hf
    cases hf

def f_x_inverse (F : Nat) (cl : Int32) (x1 : Int32) : Option (Unit) := Option.bind (f_isClass F cl x1) (fun r_1 => (if r_1 = 0 then some () else none))
set_option maxHeartbeats 4000000 in
set_option maxRecDepth 100000 in
theorem c_x_inverse (l : Launch) (hlt : l.stackTraces = false) (q0 : Nat) (u1 u2 : Value) (dC : Nat → ClassId) (dI : Nat → Nat → Nat) (ph : Nat) (dd : Int32) (rt : Int32) (cl : Int32) (rf : Int32) (pr : Int32) (pn : Nat) (gk : Int32) (go : Int32) (gc : Int32) (pg : Nat) (ps : Nat) (po : Nat) (pc : Nat) (pe : Nat) (p1 : Nat) (p2 : Nat) (pz : Nat) (tn : ClassId) (An : Nat → Int32) (a1 : Int64) (b1 : Int64) (c1 : Int64) (x1 : Int32) (sz : Nat) (F : Nat) (out : Unit) (hf : f_x_inverse F cl x1 = some out) : tw_Met l yX0_inverse wsX0_inverse ({ frames := 6, cells := 1, slots := 6, locals := 82 }) (va_Pc [.ref ph, .int x1] (fun U => U.heap.size = sz ∧ va_P (dC, dI) vwCl [(ph, .inr (0, [.int dd, .int rt, .int cl, .int rf, .int pr, .ref pn, .int gk, .int go, .int gc, .ref pg, .ref ps, .ref po, .ref pc, .ref pe, .ref p1, .ref p2, .ref pz])), (pn, .inl (tn, 1908, .inl An)), (p1, .inr (1, [.long a1, .long b1, .long c1]))] U.heap ∧ va_K (dC, dI) vwCl [(tn, .int)] U ∧ va_D (fun _ => True) [(ph, .inr (0, [.int dd, .int rt, .int cl, .int rf, .int pr, .ref pn, .int gk, .int go, .int gc, .ref pg, .ref ps, .ref po, .ref pc, .ref pe, .ref p1, .ref p2, .ref pz])), (pn, .inl (tn, 1908, .inl An)), (p1, .inr (1, [.long a1, .long b1, .long c1]))] ∧ tw_K "ClassGroup" 126 "no such class" q0 u1 u2 (va_A [(ph, .inr (0, [.int dd, .int rt, .int cl, .int rf, .int pr, .ref pn, .int gk, .int go, .int gc, .ref pg, .ref ps, .ref po, .ref pc, .ref pe, .ref p1, .ref p2, .ref pz])), (pn, .inl (tn, 1908, .inl An)), (p1, .inr (1, [.long a1, .long b1, .long c1]))] sz) U U.heap)) (tw_Qx "java/lang/IndexOutOfBoundsException" (fun (u : Unit) => u = out) (fun (u : Unit) t => match u with | _ => va_P (dC, dI) vwCl [(ph, .inr (0, [.int dd, .int rt, .int cl, .int rf, .int pr, .ref pn, .int gk, .int go, .int gc, .ref pg, .ref ps, .ref po, .ref pc, .ref pe, .ref p1, .ref p2, .ref pz])), (pn, .inl (tn, 1908, .inl An)), (p1, .inr (1, [.long a1, .long b1, .long c1]))] t.heap ∧ va_K (dC, dI) vwCl [(tn, .int)] t ∧ va_D (va_A [(ph, .inr (0, [.int dd, .int rt, .int cl, .int rf, .int pr, .ref pn, .int gk, .int go, .int gc, .ref pg, .ref ps, .ref po, .ref pc, .ref pe, .ref p1, .ref p2, .ref pz])), (pn, .inl (tn, 1908, .inl An)), (p1, .inr (1, [.long a1, .long b1, .long c1]))] sz) [(ph, .inr (0, [.int dd, .int rt, .int cl, .int rf, .int pr, .ref pn, .int gk, .int go, .int gc, .ref pg, .ref ps, .ref po, .ref pc, .ref pe, .ref p1, .ref p2, .ref pz])), (pn, .inl (tn, 1908, .inl An)), (p1, .inr (1, [.long a1, .long b1, .long c1]))]) (va_A [(ph, .inr (0, [.int dd, .int rt, .int cl, .int rf, .int pr, .ref pn, .int gk, .int go, .int gc, .ref pg, .ref ps, .ref po, .ref pc, .ref pe, .ref p1, .ref p2, .ref pz])), (pn, .inl (tn, 1908, .inl An)), (p1, .inr (1, [.long a1, .long b1, .long c1]))] sz)) 1 6 (va_A [(ph, .inr (0, [.int dd, .int rt, .int cl, .int rf, .int pr, .ref pn, .int gk, .int go, .int gc, .ref pg, .ref ps, .ref po, .ref pc, .ref pe, .ref p1, .ref p2, .ref pz])), (pn, .inl (tn, 1908, .inl An)), (p1, .inr (1, [.long a1, .long b1, .long c1]))] sz) := by
  refine tw_ofW (cc := cX0_inverse) (maxL := 2) (ret := (some .int)) (by decide +kernel) rfl ?_
  intro p e s m args below meth c s₁ B hml hv
  obtain ⟨rfl, hsz, hP, hK, hD0, hKt⟩ := hv
  have hx := B.exec
  have hb := B.bytes
  have hr := B.returns
  have hts := atoms_spec (ws := wsX0_inverse) B.pre
  have hown : s.vm.findClass "ClassGroup" = some m.cls := findClass_of_methodNamed B.named
  have hlocks := B.notSynchronized
  subst hsz
  have hD := hD0.self (sz := s.heap.size)
  generalize hAe : va_A [(ph, .inr (0, [.int dd, .int rt, .int cl, .int rf, .int pr, .ref pn, .int gk, .int go, .int gc, .ref pg, .ref ps, .ref po, .ref pc, .ref pe, .ref p1, .ref p2, .ref pz])), (pn, .inl (tn, 1908, .inl An)), (p1, .inr (1, [.long a1, .long b1, .long c1]))] s.heap.size = A at hD hKt ⊢
  have hA : ∀ q : Nat, s.heap.size ≤ q → A q := fun q h => by rw [← hAe]; exact Or.inr h
  have hS : va_S A s.heap s.heap [] := va_S.rf
  have hl := lv_entry ([.ref ph, .int x1]) (n := 2) (Nat.le_of_ble_eq_true rfl)
  rw [lg_entry_eq]
  generalize (lg_sl ([.ref ph, .int x1]) ++ List.replicate (2 - (lg_sl ([.ref ph, .int x1])).length) Slot.unset).toArray = ls at hl ⊢
  have hl : lv_has ls 2 [(0, .ref ph), (1, .int x1)] := hl
  unfold f_x_inverse at hf
  refine lv_aload_n hx hb dX0_inverse_0 rfl (lv_at hl 0 rfl) ?_
  refine lv_iload_n hx hb dX0_inverse_1 rfl (lv_at hl 1 rfl) ?_
  obtain ⟨xc2, hc2, hf⟩ := ok_b hf
  have hPc := hP.sub (ws' := [(ph, .inr (0, [.int dd, .int rt, .int cl, .int rf, .int pr, .ref pn, .int gk, .int go, .int gc, .ref pg, .ref ps, .ref po, .ref pc, .ref pe, .ref p1, .ref p2, .ref pz]))]) [0] rfl
  have hDc := hD.sub (ws' := [(ph, .inr (0, [.int dd, .int rt, .int cl, .int rf, .int pr, .ref pn, .int gk, .int go, .int gc, .ref pg, .ref ps, .ref po, .ref pc, .ref pe, .ref p1, .ref p2, .ref pz]))]) [0] (by decide) rfl
  have hKc := hK.sub (tys' := []) [] rfl
  have hFc := va_free (wc := [(ph, .inr (0, [.int dd, .int rt, .int cl, .int rf, .int pr, .ref pn, .int gk, .int go, .int gc, .ref pg, .ref ps, .ref po, .ref pc, .ref pe, .ref p1, .ref p2, .ref pz]))]) hD hS hA [0] rfl
  refine va_calli (va_runV (As := [.int x1]) (rest := []) ⟨hx, hb, hml, hown, hts⟩ (c_isClass l dC dI ph dd rt cl rf pr pn gk go gc pg ps po pc pe p1 p2 pz x1 s.heap.size F xc2 hc2) (cwV 1 hts (gwV kw_146 kw_148 ks_14 kw_1 kw_149) rfl rfl rfl (by decide +kernel) ⟨Nat.le_of_ble_eq_true rfl, Nat.le_of_ble_eq_true rfl⟩) ⟨fun a U g mk q => by obtain ⟨q0, q1, qP, qK, qD⟩ := q; exact ⟨q0, q1, qP, va_K.moved (u := U) (U := U.calling g mk a) (Vm.Alike.refl U.vm) qK, qD⟩, va_recv hKc hPc (ci := 0) (q0 := 0) rfl rfl, fun U hU hW => ⟨rfl, by rw [hU], by rw [hU]; exact hPc, va_K.moved hW.alike hKc, hDc.weaken (fun _ _ _ _ => trivial)⟩⟩ rfl rfl hl.1 rfl (lv_room (Nat.le_of_ble_eq_true rfl)) dX0_inverse_2 ⟨Nat.zero_le _, Nat.zero_le _⟩) hS (fun q _ h => hFc q h) hFc (fun r_1 u t H1 locs ht hvm hw hB hz1 hk1 hS => ?_)
  obtain ⟨⟩ := u
  obtain ⟨hP1, hK1, hD1⟩ := hB
  rw [ht] at hP1
  subst hw
  obtain ⟨hP, hD⟩ := va_join (wr := [(pn, .inl (tn, 1908, .inl An)), (p1, .inr (1, [.long a1, .long b1, .long c1]))]) (w1 := [(ph, .inr (0, [.int dd, .int rt, .int cl, .int rf, .int pr, .ref pn, .int gk, .int go, .int gc, .ref pg, .ref ps, .ref po, .ref pc, .ref pe, .ref p1, .ref p2, .ref pz]))]) hP hD [0] [1, 2] rfl rfl (by decide) (by decide) hk1 hFc hP1 hD1
  generalize H1 = H at hP hS ⊢
  have hP : va_P (dC, dI) vwCl [(pn, .inl (tn, 1908, .inl An)), (p1, .inr (1, [.long a1, .long b1, .long c1])), (ph, .inr (0, [.int dd, .int rt, .int cl, .int rf, .int pr, .ref pn, .int gk, .int go, .int gc, .ref pg, .ref ps, .ref po, .ref pc, .ref pe, .ref p1, .ref p2, .ref pz]))] H := hP
  have hD : va_D A [(pn, .inl (tn, 1908, .inl An)), (p1, .inr (1, [.long a1, .long b1, .long c1])), (ph, .inr (0, [.int dd, .int rt, .int cl, .int rf, .int pr, .ref pn, .int gk, .int go, .int gc, .ref pg, .ref ps, .ref po, .ref pc, .ref pe, .ref p1, .ref p2, .ref pz]))] := hD
  refine lv_if_ne (tgt := 18) hx hb dX0_inverse_5 (by decide) (fun c_5 => ?_) (fun c_5 => ?_)
  · have hf := ok_f c_5 hf
    cases hf
  · have hf := ok_t c_5 hf
    have hP9 := hP.sub (ws' := [(ph, .inr (0, [.int dd, .int rt, .int cl, .int rf, .int pr, .ref pn, .int gk, .int go, .int gc, .ref pg, .ref ps, .ref po, .ref pc, .ref pe, .ref p1, .ref p2, .ref pz])), (pn, .inl (tn, 1908, .inl An)), (p1, .inr (1, [.long a1, .long b1, .long c1]))]) [2, 0, 1] rfl
    have hD9 := hD.sub (ws' := [(ph, .inr (0, [.int dd, .int rt, .int cl, .int rf, .int pr, .ref pn, .int gk, .int go, .int gc, .ref pg, .ref ps, .ref po, .ref pc, .ref pe, .ref p1, .ref p2, .ref pz])), (pn, .inl (tn, 1908, .inl An)), (p1, .inr (1, [.long a1, .long b1, .long c1]))]) [2, 0, 1] (by decide) rfl
    have hK9 := hK.sub (tys' := [(tn, .int)]) [0] rfl
    exact tw_throw (own := "ClassGroup") (cls := "java/lang/IndexOutOfBoundsException") (names := tw_up) (ic := 89) (ix := 85) (il := 126) hx hb hlt hown (by decide +kernel) (by decide +kernel) (tw_on hts (hts _ (List.mem_cons_of_mem _ kw_348)) tw_atB) (hKt.kept hS.2.1) (hts _ (List.mem_cons_of_mem _ kw_347)) (hts _ (List.mem_cons_of_mem _ kw_348)) (hts _ (List.mem_cons_of_mem _ kw_11)) (hl.1.trans hml.symm) hlocks (B.noHandlers (hts _ List.mem_cons_self)) dX0_inverse_8 dX0_inverse_11 dX0_inverse_12 dX0_inverse_14 dX0_inverse_17 (Nat.le_of_ble_eq_true rfl) (Nat.le_of_ble_eq_true rfl) (Nat.le_of_ble_eq_true rfl) (Nat.le_of_ble_eq_true rfl) (fun t hz hk hce hW => ⟨⟨(), Option.some.inj hf, tw_P hP9 hk, va_K.moved hW.alike hK9, hD9⟩, tw_ce hW hce, tw_F hS hz hk⟩) hS.2.2

