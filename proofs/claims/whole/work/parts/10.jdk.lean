def f_absI (F : Nat) (x0 : Int32) : Option (Int32) := (if (0 : Int32) ≤ x0 then some x0 else some (-x0))
set_option maxHeartbeats 4000000 in
set_option maxRecDepth 100000 in
theorem c_absI (l : Launch) (dC : Nat → ClassId) (dI : Nat → Nat → Nat) (x0 : Int32) (sz : Nat) (F : Nat) (out : Int32) (hf : f_absI F x0 = some out) : Met l yM_absI wsM_absI ({ frames := 0, cells := 0, slots := 0, locals := 0 }) (va_Pc [.int x0] (fun U => U.heap.size = sz ∧ va_P (dC, dI) vwCl [] U.heap ∧ va_K (dC, dI) vwCl [] U ∧ va_D (fun _ => True) [])) (va_Qi (fun (r : Int32) (u : Unit) => r = out) (fun (u : Unit) t => match u with | _ => va_P (dC, dI) vwCl [] t.heap ∧ va_K (dC, dI) vwCl [] t ∧ va_D (va_A [] sz) []) (va_A [] sz)) 0 0 (va_A [] sz) := by
  refine va_MetF (cc := cM_absI) (maxL := 1) (ret := (some .int)) (by decide +kernel) rfl ?_
  intro p e s m args below meth c s₁ B hml hv
  obtain ⟨rfl, hsz, hP, hK, hD0⟩ := hv
  have hx := B.exec
  have hb := B.bytes
  have hr := B.returns
  have hts := atoms_spec (ws := wsM_absI) B.pre
  have hown : s.vm.findClass "java/lang/Math" = some m.cls := findClass_of_methodNamed B.named
  have hlocks := B.notSynchronized
  subst hsz
  have hD := hD0.self (sz := s.heap.size)
  generalize hAe : va_A [] s.heap.size = A at hD ⊢
  have hA : ∀ q : Nat, s.heap.size ≤ q → A q := fun q h => by rw [← hAe]; exact Or.inr h
  have hS : va_S A s.heap s.heap [] := va_S.rf
  have hl := lv_entry ([.int x0]) (n := 1) (Nat.le_of_ble_eq_true rfl)
  rw [lg_entry_eq]
  generalize (lg_sl ([.int x0]) ++ List.replicate (1 - (lg_sl ([.int x0])).length) Slot.unset).toArray = ls at hl ⊢
  have hl : lv_has ls 1 [(0, .int x0)] := hl
  unfold f_absI at hf
  refine lv_iload_n hx hb dM_absI_0 rfl (lv_at hl 0 rfl) ?_
  refine lv_if_ge (tgt := 9) hx hb dM_absI_1 (by decide) (fun c_1 => ?_) (fun c_1 => ?_)
  · have hf := ok_t c_1 hf
    refine lv_iload_n hx hb dM_absI_9 rfl (lv_at hl 0 rfl) ?_
    have hP9 := hP.sub (ws' := []) [] rfl
    have hD9 := hD.sub (ws' := []) [] (by decide) rfl
    have hK9 := hK.sub (tys' := []) [] rfl
    exact W.iret (v := x0) hx hb hr (fun t ht hW => ⟨⟨x0, (), rfl, (Option.some.inj hf), by rw [ht]; exact hP9, va_K.moved hW.alike hK9, hD9⟩, hS.F ht⟩) hS.2.2 dM_absI_10
  · have hf := ok_f c_1 hf
    refine lv_iload_n hx hb dM_absI_4 rfl (lv_at hl 0 rfl) ?_
    refine lv_ineg hx hb dM_absI_5 ?_
    refine lv_goto (tgt := 10) hx hb dM_absI_6 (by decide) ?_
    have hP9 := hP.sub (ws' := []) [] rfl
    have hD9 := hD.sub (ws' := []) [] (by decide) rfl
    have hK9 := hK.sub (tys' := []) [] rfl
    exact W.iret (v := (-x0)) hx hb hr (fun t ht hW => ⟨⟨(-x0), (), rfl, (Option.some.inj hf), by rw [ht]; exact hP9, va_K.moved hW.alike hK9, hD9⟩, hS.F ht⟩) hS.2.2 dM_absI_10

def f_absJ (F : Nat) (x0 : Int64) : Option (Int64) := (if (0 : Int32) ≤ (lg_cmp x0 0) then some x0 else some (-x0))
set_option maxHeartbeats 4000000 in
set_option maxRecDepth 100000 in
theorem c_absJ (l : Launch) (dC : Nat → ClassId) (dI : Nat → Nat → Nat) (x0 : Int64) (sz : Nat) (F : Nat) (out : Int64) (hf : f_absJ F x0 = some out) : Met l yM_absJ wsM_absJ ({ frames := 0, cells := 0, slots := 0, locals := 0 }) (va_Pc [.long x0] (fun U => U.heap.size = sz ∧ va_P (dC, dI) vwCl [] U.heap ∧ va_K (dC, dI) vwCl [] U ∧ va_D (fun _ => True) [])) (va_Ql (fun (r : Int64) (u : Unit) => r = out) (fun (u : Unit) t => match u with | _ => va_P (dC, dI) vwCl [] t.heap ∧ va_K (dC, dI) vwCl [] t ∧ va_D (va_A [] sz) []) (va_A [] sz)) 0 0 (va_A [] sz) := by
  refine va_MetF (cc := cM_absJ) (maxL := 2) (ret := (some .long)) (by decide +kernel) rfl ?_
  intro p e s m args below meth c s₁ B hml hv
  obtain ⟨rfl, hsz, hP, hK, hD0⟩ := hv
  have hx := B.exec
  have hb := B.bytes
  have hr := B.returns
  have hts := atoms_spec (ws := wsM_absJ) B.pre
  have hown : s.vm.findClass "java/lang/Math" = some m.cls := findClass_of_methodNamed B.named
  have hlocks := B.notSynchronized
  subst hsz
  have hD := hD0.self (sz := s.heap.size)
  generalize hAe : va_A [] s.heap.size = A at hD ⊢
  have hA : ∀ q : Nat, s.heap.size ≤ q → A q := fun q h => by rw [← hAe]; exact Or.inr h
  have hS : va_S A s.heap s.heap [] := va_S.rf
  have hl := lv_entry ([.long x0]) (n := 2) (Nat.le_of_ble_eq_true rfl)
  rw [lg_entry_eq]
  generalize (lg_sl ([.long x0]) ++ List.replicate (2 - (lg_sl ([.long x0])).length) Slot.unset).toArray = ls at hl ⊢
  have hl : lv_has ls 2 [(0, .long x0)] := hl
  unfold f_absJ at hf
  refine lv_lload_n hx hb dM_absJ_0 rfl (lv_at hl 0 rfl) ?_
  refine lv_lconst (v := 0) hx hb dM_absJ_1 (by decide) ?_
  refine W.lcmp hx hb dM_absJ_2 ?_
  refine lv_if_ge (tgt := 11) hx hb dM_absJ_3 (by decide) (fun c_3 => ?_) (fun c_3 => ?_)
  · have hf := ok_t c_3 hf
    refine lv_lload_n hx hb dM_absJ_11 rfl (lv_at hl 0 rfl) ?_
    have hP9 := hP.sub (ws' := []) [] rfl
    have hD9 := hD.sub (ws' := []) [] (by decide) rfl
    have hK9 := hK.sub (tys' := []) [] rfl
    exact W.lret (v := x0) hx hb hr (fun t ht hW => ⟨⟨x0, (), rfl, (Option.some.inj hf), by rw [ht]; exact hP9, va_K.moved hW.alike hK9, hD9⟩, hS.F ht⟩) hS.2.2 dM_absJ_12
  · have hf := ok_f c_3 hf
    refine lv_lload_n hx hb dM_absJ_6 rfl (lv_at hl 0 rfl) ?_
    refine lv_lneg hx hb dM_absJ_7 ?_
    refine lv_goto (tgt := 12) hx hb dM_absJ_8 (by decide) ?_
    have hP9 := hP.sub (ws' := []) [] rfl
    have hD9 := hD.sub (ws' := []) [] (by decide) rfl
    have hK9 := hK.sub (tys' := []) [] rfl
    exact W.lret (v := (-x0)) hx hb hr (fun t ht hW => ⟨⟨(-x0), (), rfl, (Option.some.inj hf), by rw [ht]; exact hP9, va_K.moved hW.alike hK9, hD9⟩, hS.F ht⟩) hS.2.2 dM_absJ_12

def f_maxI (F : Nat) (x0 : Int32) (x1 : Int32) : Option (Int32) := (if x0 < x1 then some x1 else some x0)
set_option maxHeartbeats 4000000 in
set_option maxRecDepth 100000 in
theorem c_maxI (l : Launch) (dC : Nat → ClassId) (dI : Nat → Nat → Nat) (x0 : Int32) (x1 : Int32) (sz : Nat) (F : Nat) (out : Int32) (hf : f_maxI F x0 x1 = some out) : Met l yM_maxII wsM_maxII ({ frames := 0, cells := 0, slots := 0, locals := 0 }) (va_Pc [.int x0, .int x1] (fun U => U.heap.size = sz ∧ va_P (dC, dI) vwCl [] U.heap ∧ va_K (dC, dI) vwCl [] U ∧ va_D (fun _ => True) [])) (va_Qi (fun (r : Int32) (u : Unit) => r = out) (fun (u : Unit) t => match u with | _ => va_P (dC, dI) vwCl [] t.heap ∧ va_K (dC, dI) vwCl [] t ∧ va_D (va_A [] sz) []) (va_A [] sz)) 0 0 (va_A [] sz) := by
  refine va_MetF (cc := cM_maxII) (maxL := 2) (ret := (some .int)) (by decide +kernel) rfl ?_
  intro p e s m args below meth c s₁ B hml hv
  obtain ⟨rfl, hsz, hP, hK, hD0⟩ := hv
  have hx := B.exec
  have hb := B.bytes
  have hr := B.returns
  have hts := atoms_spec (ws := wsM_maxII) B.pre
  have hown : s.vm.findClass "java/lang/Math" = some m.cls := findClass_of_methodNamed B.named
  have hlocks := B.notSynchronized
  subst hsz
  have hD := hD0.self (sz := s.heap.size)
  generalize hAe : va_A [] s.heap.size = A at hD ⊢
  have hA : ∀ q : Nat, s.heap.size ≤ q → A q := fun q h => by rw [← hAe]; exact Or.inr h
  have hS : va_S A s.heap s.heap [] := va_S.rf
  have hl := lv_entry ([.int x0, .int x1]) (n := 2) (Nat.le_of_ble_eq_true rfl)
  rw [lg_entry_eq]
  generalize (lg_sl ([.int x0, .int x1]) ++ List.replicate (2 - (lg_sl ([.int x0, .int x1])).length) Slot.unset).toArray = ls at hl ⊢
  have hl : lv_has ls 2 [(0, .int x0), (1, .int x1)] := hl
  unfold f_maxI at hf
  refine lv_iload_n hx hb dM_maxII_0 rfl (lv_at hl 0 rfl) ?_
  refine lv_iload_n hx hb dM_maxII_1 rfl (lv_at hl 1 rfl) ?_
  refine lv_icmp_lt (tgt := 9) hx hb dM_maxII_2 (by decide) (fun c_2 => ?_) (fun c_2 => ?_)
  · have hf := ok_t c_2 hf
    refine lv_iload_n hx hb dM_maxII_9 rfl (lv_at hl 1 rfl) ?_
    have hP9 := hP.sub (ws' := []) [] rfl
    have hD9 := hD.sub (ws' := []) [] (by decide) rfl
    have hK9 := hK.sub (tys' := []) [] rfl
    exact W.iret (v := x1) hx hb hr (fun t ht hW => ⟨⟨x1, (), rfl, (Option.some.inj hf), by rw [ht]; exact hP9, va_K.moved hW.alike hK9, hD9⟩, hS.F ht⟩) hS.2.2 dM_maxII_10
  · have hf := ok_f c_2 hf
    refine lv_iload_n hx hb dM_maxII_5 rfl (lv_at hl 0 rfl) ?_
    refine lv_goto (tgt := 10) hx hb dM_maxII_6 (by decide) ?_
    have hP9 := hP.sub (ws' := []) [] rfl
    have hD9 := hD.sub (ws' := []) [] (by decide) rfl
    have hK9 := hK.sub (tys' := []) [] rfl
    exact W.iret (v := x0) hx hb hr (fun t ht hW => ⟨⟨x0, (), rfl, (Option.some.inj hf), by rw [ht]; exact hP9, va_K.moved hW.alike hK9, hD9⟩, hS.F ht⟩) hS.2.2 dM_maxII_10

def f_minI (F : Nat) (x0 : Int32) (x1 : Int32) : Option (Int32) := (if x1 < x0 then some x1 else some x0)
set_option maxHeartbeats 4000000 in
set_option maxRecDepth 100000 in
theorem c_minI (l : Launch) (dC : Nat → ClassId) (dI : Nat → Nat → Nat) (x0 : Int32) (x1 : Int32) (sz : Nat) (F : Nat) (out : Int32) (hf : f_minI F x0 x1 = some out) : Met l yM_minII wsM_minII ({ frames := 0, cells := 0, slots := 0, locals := 0 }) (va_Pc [.int x0, .int x1] (fun U => U.heap.size = sz ∧ va_P (dC, dI) vwCl [] U.heap ∧ va_K (dC, dI) vwCl [] U ∧ va_D (fun _ => True) [])) (va_Qi (fun (r : Int32) (u : Unit) => r = out) (fun (u : Unit) t => match u with | _ => va_P (dC, dI) vwCl [] t.heap ∧ va_K (dC, dI) vwCl [] t ∧ va_D (va_A [] sz) []) (va_A [] sz)) 0 0 (va_A [] sz) := by
  refine va_MetF (cc := cM_minII) (maxL := 2) (ret := (some .int)) (by decide +kernel) rfl ?_
  intro p e s m args below meth c s₁ B hml hv
  obtain ⟨rfl, hsz, hP, hK, hD0⟩ := hv
  have hx := B.exec
  have hb := B.bytes
  have hr := B.returns
  have hts := atoms_spec (ws := wsM_minII) B.pre
  have hown : s.vm.findClass "java/lang/Math" = some m.cls := findClass_of_methodNamed B.named
  have hlocks := B.notSynchronized
  subst hsz
  have hD := hD0.self (sz := s.heap.size)
  generalize hAe : va_A [] s.heap.size = A at hD ⊢
  have hA : ∀ q : Nat, s.heap.size ≤ q → A q := fun q h => by rw [← hAe]; exact Or.inr h
  have hS : va_S A s.heap s.heap [] := va_S.rf
  have hl := lv_entry ([.int x0, .int x1]) (n := 2) (Nat.le_of_ble_eq_true rfl)
  rw [lg_entry_eq]
  generalize (lg_sl ([.int x0, .int x1]) ++ List.replicate (2 - (lg_sl ([.int x0, .int x1])).length) Slot.unset).toArray = ls at hl ⊢
  have hl : lv_has ls 2 [(0, .int x0), (1, .int x1)] := hl
  unfold f_minI at hf
  refine lv_iload_n hx hb dM_minII_0 rfl (lv_at hl 0 rfl) ?_
  refine lv_iload_n hx hb dM_minII_1 rfl (lv_at hl 1 rfl) ?_
  refine lv_icmp_gt (tgt := 9) hx hb dM_minII_2 (by decide) (fun c_2 => ?_) (fun c_2 => ?_)
  · have hf := ok_t c_2 hf
    refine lv_iload_n hx hb dM_minII_9 rfl (lv_at hl 1 rfl) ?_
    have hP9 := hP.sub (ws' := []) [] rfl
    have hD9 := hD.sub (ws' := []) [] (by decide) rfl
    have hK9 := hK.sub (tys' := []) [] rfl
    exact W.iret (v := x1) hx hb hr (fun t ht hW => ⟨⟨x1, (), rfl, (Option.some.inj hf), by rw [ht]; exact hP9, va_K.moved hW.alike hK9, hD9⟩, hS.F ht⟩) hS.2.2 dM_minII_10
  · have hf := ok_f c_2 hf
    refine lv_iload_n hx hb dM_minII_5 rfl (lv_at hl 0 rfl) ?_
    refine lv_goto (tgt := 10) hx hb dM_minII_6 (by decide) ?_
    have hP9 := hP.sub (ws' := []) [] rfl
    have hD9 := hD.sub (ws' := []) [] (by decide) rfl
    have hK9 := hK.sub (tys' := []) [] rfl
    exact W.iret (v := x0) hx hb hr (fun t ht hW => ⟨⟨x0, (), rfl, (Option.some.inj hf), by rw [ht]; exact hP9, va_K.moved hW.alike hK9, hD9⟩, hS.F ht⟩) hS.2.2 dM_minII_10

def f_fmodI (F : Nat) (x0 : Int32) (x1 : Int32) : Option (Int32) := (if ¬ x1 = 0 then bnd (x0 - x0 / x1 * x1) (fun v2_1 => (if (0 : Int32) ≤ (x0 ^^^ x1) then some v2_1 else (if v2_1 = 0 then some v2_1 else some (v2_1 + x1)))) else none)
set_option maxHeartbeats 4000000 in
set_option maxRecDepth 100000 in
theorem c_fmodI (l : Launch) (dC : Nat → ClassId) (dI : Nat → Nat → Nat) (x0 : Int32) (x1 : Int32) (sz : Nat) (F : Nat) (out : Int32) (hf : f_fmodI F x0 x1 = some out) : Met l yM_floorModII wsM_floorModII ({ frames := 0, cells := 0, slots := 0, locals := 0 }) (va_Pc [.int x0, .int x1] (fun U => U.heap.size = sz ∧ va_P (dC, dI) vwCl [] U.heap ∧ va_K (dC, dI) vwCl [] U ∧ va_D (fun _ => True) [])) (va_Qi (fun (r : Int32) (u : Unit) => r = out) (fun (u : Unit) t => match u with | _ => va_P (dC, dI) vwCl [] t.heap ∧ va_K (dC, dI) vwCl [] t ∧ va_D (va_A [] sz) []) (va_A [] sz)) 0 0 (va_A [] sz) := by
  refine va_MetF (cc := cM_floorModII) (maxL := 3) (ret := (some .int)) (by decide +kernel) rfl ?_
  intro p e s m args below meth c s₁ B hml hv
  obtain ⟨rfl, hsz, hP, hK, hD0⟩ := hv
  have hx := B.exec
  have hb := B.bytes
  have hr := B.returns
  have hts := atoms_spec (ws := wsM_floorModII) B.pre
  have hown : s.vm.findClass "java/lang/Math" = some m.cls := findClass_of_methodNamed B.named
  have hlocks := B.notSynchronized
  subst hsz
  have hD := hD0.self (sz := s.heap.size)
  generalize hAe : va_A [] s.heap.size = A at hD ⊢
  have hA : ∀ q : Nat, s.heap.size ≤ q → A q := fun q h => by rw [← hAe]; exact Or.inr h
  have hS : va_S A s.heap s.heap [] := va_S.rf
  have hl := lv_entry ([.int x0, .int x1]) (n := 3) (Nat.le_of_ble_eq_true rfl)
  rw [lg_entry_eq]
  generalize (lg_sl ([.int x0, .int x1]) ++ List.replicate (3 - (lg_sl ([.int x0, .int x1])).length) Slot.unset).toArray = ls at hl ⊢
  have hl : lv_has ls 3 [(0, .int x0), (1, .int x1)] := hl
  unfold f_fmodI at hf
  refine lv_iload_n hx hb dM_floorModII_0 rfl (lv_at hl 0 rfl) ?_
  refine lv_iload_n hx hb dM_floorModII_1 rfl (lv_at hl 1 rfl) ?_
  obtain ⟨g_2, hf⟩ := ok_g hf
  refine lv_irem hx hb dM_floorModII_2 g_2 ?_
  refine lv_topi (fun v2_1 ev2_1 => ?_)
  replace hf := bnd_ok ev2_1 hf
  refine lv_istore_n (lv' := [(2, .int v2_1), (0, .int x0), (1, .int x1)]) hx hb dM_floorModII_3 rfl hl (by decide) rfl (fun ls hl => ?_)
  refine lv_iload_n hx hb dM_floorModII_4 rfl (lv_at hl 1 rfl) ?_
  refine lv_iload_n hx hb dM_floorModII_5 rfl (lv_at hl 2 rfl) ?_
  refine lv_ixor hx hb dM_floorModII_6 ?_
  refine lv_if_ge (tgt := 18) hx hb dM_floorModII_7 (by decide) (fun c_7 => ?_) (fun c_7 => ?_)
  · have hf := ok_t c_7 hf
    refine lv_iload_n hx hb dM_floorModII_18 rfl (lv_at hl 0 rfl) ?_
    have hP9 := hP.sub (ws' := []) [] rfl
    have hD9 := hD.sub (ws' := []) [] (by decide) rfl
    have hK9 := hK.sub (tys' := []) [] rfl
    exact W.iret (v := v2_1) hx hb hr (fun t ht hW => ⟨⟨v2_1, (), rfl, (Option.some.inj hf), by rw [ht]; exact hP9, va_K.moved hW.alike hK9, hD9⟩, hS.F ht⟩) hS.2.2 dM_floorModII_19
  · have hf := ok_f c_7 hf
    refine lv_iload_n hx hb dM_floorModII_10 rfl (lv_at hl 0 rfl) ?_
    refine lv_if_eq (tgt := 18) hx hb dM_floorModII_11 (by decide) (fun c_11 => ?_) (fun c_11 => ?_)
    · have hf := ok_t c_11 hf
      refine lv_iload_n hx hb dM_floorModII_18 rfl (lv_at hl 0 rfl) ?_
      have hP9 := hP.sub (ws' := []) [] rfl
      have hD9 := hD.sub (ws' := []) [] (by decide) rfl
      have hK9 := hK.sub (tys' := []) [] rfl
      exact W.iret (v := v2_1) hx hb hr (fun t ht hW => ⟨⟨v2_1, (), rfl, (Option.some.inj hf), by rw [ht]; exact hP9, va_K.moved hW.alike hK9, hD9⟩, hS.F ht⟩) hS.2.2 dM_floorModII_19
    · have hf := ok_f c_11 hf
      refine lv_iload_n hx hb dM_floorModII_14 rfl (lv_at hl 0 rfl) ?_
      refine lv_iload_n hx hb dM_floorModII_15 rfl (lv_at hl 2 rfl) ?_
      refine lv_iadd hx hb dM_floorModII_16 ?_
      have hP9 := hP.sub (ws' := []) [] rfl
      have hD9 := hD.sub (ws' := []) [] (by decide) rfl
      have hK9 := hK.sub (tys' := []) [] rfl
      exact W.iret (v := (v2_1 + x1)) hx hb hr (fun t ht hW => ⟨⟨(v2_1 + x1), (), rfl, (Option.some.inj hf), by rw [ht]; exact hP9, va_K.moved hW.alike hK9, hD9⟩, hS.F ht⟩) hS.2.2 dM_floorModII_17

def f_fmodJ (F : Nat) (x0 : Int64) (x2 : Int64) : Option (Int64) := (if ¬ x2 = 0 then bnd (x0 - x0 / x2 * x2) (fun v4_1 => (if (0 : Int32) ≤ (lg_cmp (x0 ^^^ x2) 0) then some v4_1 else (if (lg_cmp v4_1 0) = 0 then some v4_1 else some (v4_1 + x2)))) else none)
set_option maxHeartbeats 4000000 in
set_option maxRecDepth 100000 in
theorem c_fmodJ (l : Launch) (dC : Nat → ClassId) (dI : Nat → Nat → Nat) (x0 : Int64) (x2 : Int64) (sz : Nat) (F : Nat) (out : Int64) (hf : f_fmodJ F x0 x2 = some out) : Met l yM_floorModJJ wsM_floorModJJ ({ frames := 0, cells := 0, slots := 0, locals := 0 }) (va_Pc [.long x0, .long x2] (fun U => U.heap.size = sz ∧ va_P (dC, dI) vwCl [] U.heap ∧ va_K (dC, dI) vwCl [] U ∧ va_D (fun _ => True) [])) (va_Ql (fun (r : Int64) (u : Unit) => r = out) (fun (u : Unit) t => match u with | _ => va_P (dC, dI) vwCl [] t.heap ∧ va_K (dC, dI) vwCl [] t ∧ va_D (va_A [] sz) []) (va_A [] sz)) 0 0 (va_A [] sz) := by
  refine va_MetF (cc := cM_floorModJJ) (maxL := 6) (ret := (some .long)) (by decide +kernel) rfl ?_
  intro p e s m args below meth c s₁ B hml hv
  obtain ⟨rfl, hsz, hP, hK, hD0⟩ := hv
  have hx := B.exec
  have hb := B.bytes
  have hr := B.returns
  have hts := atoms_spec (ws := wsM_floorModJJ) B.pre
  have hown : s.vm.findClass "java/lang/Math" = some m.cls := findClass_of_methodNamed B.named
  have hlocks := B.notSynchronized
  subst hsz
  have hD := hD0.self (sz := s.heap.size)
  generalize hAe : va_A [] s.heap.size = A at hD ⊢
  have hA : ∀ q : Nat, s.heap.size ≤ q → A q := fun q h => by rw [← hAe]; exact Or.inr h
  have hS : va_S A s.heap s.heap [] := va_S.rf
  have hl := lv_entry ([.long x0, .long x2]) (n := 6) (Nat.le_of_ble_eq_true rfl)
  rw [lg_entry_eq]
  generalize (lg_sl ([.long x0, .long x2]) ++ List.replicate (6 - (lg_sl ([.long x0, .long x2])).length) Slot.unset).toArray = ls at hl ⊢
  have hl : lv_has ls 6 [(0, .long x0), (2, .long x2)] := hl
  unfold f_fmodJ at hf
  refine lv_lload_n hx hb dM_floorModJJ_0 rfl (lv_at hl 0 rfl) ?_
  refine lv_lload_n hx hb dM_floorModJJ_1 rfl (lv_at hl 1 rfl) ?_
  obtain ⟨g_2, hf⟩ := ok_g hf
  refine lv_lrem hx hb dM_floorModJJ_2 g_2 ?_
  refine lv_topl (fun v4_1 ev4_1 => ?_)
  replace hf := bnd_ok ev4_1 hf
  refine lv_lstore (lv' := [(4, .long v4_1), (0, .long x0), (2, .long x2)]) hx hb dM_floorModJJ_3 hl (by decide) rfl (fun ls hl => ?_)
  refine lv_lload_n hx hb dM_floorModJJ_5 rfl (lv_at hl 1 rfl) ?_
  refine lv_lload_n hx hb dM_floorModJJ_6 rfl (lv_at hl 2 rfl) ?_
  refine lv_lxor hx hb dM_floorModJJ_7 ?_
  refine lv_lconst (v := 0) hx hb dM_floorModJJ_8 (by decide) ?_
  refine W.lcmp hx hb dM_floorModJJ_9 ?_
  refine lv_if_ge (tgt := 25) hx hb dM_floorModJJ_10 (by decide) (fun c_10 => ?_) (fun c_10 => ?_)
  · have hf := ok_t c_10 hf
    refine lv_lload hx hb dM_floorModJJ_25 (lv_at hl 0 rfl) ?_
    have hP9 := hP.sub (ws' := []) [] rfl
    have hD9 := hD.sub (ws' := []) [] (by decide) rfl
    have hK9 := hK.sub (tys' := []) [] rfl
    exact W.lret (v := v4_1) hx hb hr (fun t ht hW => ⟨⟨v4_1, (), rfl, (Option.some.inj hf), by rw [ht]; exact hP9, va_K.moved hW.alike hK9, hD9⟩, hS.F ht⟩) hS.2.2 dM_floorModJJ_27
  · have hf := ok_f c_10 hf
    refine lv_lload hx hb dM_floorModJJ_13 (lv_at hl 0 rfl) ?_
    refine lv_lconst (v := 0) hx hb dM_floorModJJ_15 (by decide) ?_
    refine W.lcmp hx hb dM_floorModJJ_16 ?_
    refine lv_if_eq (tgt := 25) hx hb dM_floorModJJ_17 (by decide) (fun c_17 => ?_) (fun c_17 => ?_)
    · have hf := ok_t c_17 hf
      refine lv_lload hx hb dM_floorModJJ_25 (lv_at hl 0 rfl) ?_
      have hP9 := hP.sub (ws' := []) [] rfl
      have hD9 := hD.sub (ws' := []) [] (by decide) rfl
      have hK9 := hK.sub (tys' := []) [] rfl
      exact W.lret (v := v4_1) hx hb hr (fun t ht hW => ⟨⟨v4_1, (), rfl, (Option.some.inj hf), by rw [ht]; exact hP9, va_K.moved hW.alike hK9, hD9⟩, hS.F ht⟩) hS.2.2 dM_floorModJJ_27
    · have hf := ok_f c_17 hf
      refine lv_lload hx hb dM_floorModJJ_20 (lv_at hl 0 rfl) ?_
      refine lv_lload_n hx hb dM_floorModJJ_22 rfl (lv_at hl 2 rfl) ?_
      refine lv_ladd hx hb dM_floorModJJ_23 ?_
      have hP9 := hP.sub (ws' := []) [] rfl
      have hD9 := hD.sub (ws' := []) [] (by decide) rfl
      have hK9 := hK.sub (tys' := []) [] rfl
      exact W.lret (v := (v4_1 + x2)) hx hb hr (fun t ht hW => ⟨⟨(v4_1 + x2), (), rfl, (Option.some.inj hf), by rw [ht]; exact hP9, va_K.moved hW.alike hK9, hD9⟩, hS.F ht⟩) hS.2.2 dM_floorModJJ_24

def f_fdivI (F : Nat) (x0 : Int32) (x1 : Int32) : Option (Int32) := (if ¬ x1 = 0 then bnd (x0 / x1) (fun v2_1 => (if (0 : Int32) ≤ (x0 ^^^ x1) then some v2_1 else (if (v2_1 * x1) = x0 then some v2_1 else some (v2_1 - 1)))) else none)
set_option maxHeartbeats 4000000 in
set_option maxRecDepth 100000 in
theorem c_fdivI (l : Launch) (dC : Nat → ClassId) (dI : Nat → Nat → Nat) (x0 : Int32) (x1 : Int32) (sz : Nat) (F : Nat) (out : Int32) (hf : f_fdivI F x0 x1 = some out) : Met l yM_floorDivII wsM_floorDivII ({ frames := 0, cells := 0, slots := 0, locals := 0 }) (va_Pc [.int x0, .int x1] (fun U => U.heap.size = sz ∧ va_P (dC, dI) vwCl [] U.heap ∧ va_K (dC, dI) vwCl [] U ∧ va_D (fun _ => True) [])) (va_Qi (fun (r : Int32) (u : Unit) => r = out) (fun (u : Unit) t => match u with | _ => va_P (dC, dI) vwCl [] t.heap ∧ va_K (dC, dI) vwCl [] t ∧ va_D (va_A [] sz) []) (va_A [] sz)) 0 0 (va_A [] sz) := by
  refine va_MetF (cc := cM_floorDivII) (maxL := 3) (ret := (some .int)) (by decide +kernel) rfl ?_
  intro p e s m args below meth c s₁ B hml hv
  obtain ⟨rfl, hsz, hP, hK, hD0⟩ := hv
  have hx := B.exec
  have hb := B.bytes
  have hr := B.returns
  have hts := atoms_spec (ws := wsM_floorDivII) B.pre
  have hown : s.vm.findClass "java/lang/Math" = some m.cls := findClass_of_methodNamed B.named
  have hlocks := B.notSynchronized
  subst hsz
  have hD := hD0.self (sz := s.heap.size)
  generalize hAe : va_A [] s.heap.size = A at hD ⊢
  have hA : ∀ q : Nat, s.heap.size ≤ q → A q := fun q h => by rw [← hAe]; exact Or.inr h
  have hS : va_S A s.heap s.heap [] := va_S.rf
  have hl := lv_entry ([.int x0, .int x1]) (n := 3) (Nat.le_of_ble_eq_true rfl)
  rw [lg_entry_eq]
  generalize (lg_sl ([.int x0, .int x1]) ++ List.replicate (3 - (lg_sl ([.int x0, .int x1])).length) Slot.unset).toArray = ls at hl ⊢
  have hl : lv_has ls 3 [(0, .int x0), (1, .int x1)] := hl
  unfold f_fdivI at hf
  refine lv_iload_n hx hb dM_floorDivII_0 rfl (lv_at hl 0 rfl) ?_
  refine lv_iload_n hx hb dM_floorDivII_1 rfl (lv_at hl 1 rfl) ?_
  obtain ⟨g_2, hf⟩ := ok_g hf
  refine lv_idiv hx hb dM_floorDivII_2 g_2 ?_
  refine lv_topi (fun v2_1 ev2_1 => ?_)
  replace hf := bnd_ok ev2_1 hf
  refine lv_istore_n (lv' := [(2, .int v2_1), (0, .int x0), (1, .int x1)]) hx hb dM_floorDivII_3 rfl hl (by decide) rfl (fun ls hl => ?_)
  refine lv_iload_n hx hb dM_floorDivII_4 rfl (lv_at hl 1 rfl) ?_
  refine lv_iload_n hx hb dM_floorDivII_5 rfl (lv_at hl 2 rfl) ?_
  refine lv_ixor hx hb dM_floorDivII_6 ?_
  refine lv_if_ge (tgt := 21) hx hb dM_floorDivII_7 (by decide) (fun c_7 => ?_) (fun c_7 => ?_)
  · have hf := ok_t c_7 hf
    refine lv_iload_n hx hb dM_floorDivII_21 rfl (lv_at hl 0 rfl) ?_
    have hP9 := hP.sub (ws' := []) [] rfl
    have hD9 := hD.sub (ws' := []) [] (by decide) rfl
    have hK9 := hK.sub (tys' := []) [] rfl
    exact W.iret (v := v2_1) hx hb hr (fun t ht hW => ⟨⟨v2_1, (), rfl, (Option.some.inj hf), by rw [ht]; exact hP9, va_K.moved hW.alike hK9, hD9⟩, hS.F ht⟩) hS.2.2 dM_floorDivII_22
  · have hf := ok_f c_7 hf
    refine lv_iload_n hx hb dM_floorDivII_10 rfl (lv_at hl 0 rfl) ?_
    refine lv_iload_n hx hb dM_floorDivII_11 rfl (lv_at hl 2 rfl) ?_
    refine lv_imul hx hb dM_floorDivII_12 ?_
    refine lv_iload_n hx hb dM_floorDivII_13 rfl (lv_at hl 1 rfl) ?_
    refine lv_icmp_eq (tgt := 21) hx hb dM_floorDivII_14 (by decide) (fun c_14 => ?_) (fun c_14 => ?_)
    · have hf := ok_t c_14 hf
      refine lv_iload_n hx hb dM_floorDivII_21 rfl (lv_at hl 0 rfl) ?_
      have hP9 := hP.sub (ws' := []) [] rfl
      have hD9 := hD.sub (ws' := []) [] (by decide) rfl
      have hK9 := hK.sub (tys' := []) [] rfl
      exact W.iret (v := v2_1) hx hb hr (fun t ht hW => ⟨⟨v2_1, (), rfl, (Option.some.inj hf), by rw [ht]; exact hP9, va_K.moved hW.alike hK9, hD9⟩, hS.F ht⟩) hS.2.2 dM_floorDivII_22
    · have hf := ok_f c_14 hf
      refine lv_iload_n hx hb dM_floorDivII_17 rfl (lv_at hl 0 rfl) ?_
      refine lv_iconst (v := 1) hx hb dM_floorDivII_18 (by decide) ?_
      refine lv_isub hx hb dM_floorDivII_19 ?_
      have hP9 := hP.sub (ws' := []) [] rfl
      have hD9 := hD.sub (ws' := []) [] (by decide) rfl
      have hK9 := hK.sub (tys' := []) [] rfl
      exact W.iret (v := (v2_1 - 1)) hx hb hr (fun t ht hW => ⟨⟨(v2_1 - 1), (), rfl, (Option.some.inj hf), by rw [ht]; exact hP9, va_K.moved hW.alike hK9, hD9⟩, hS.F ht⟩) hS.2.2 dM_floorDivII_20

def f_fillI_L5 (F : Nat) (x1 : Int32) : Nat → Int32 → (Nat → Int32) → Option ((Nat → Int32))
  | 0, _, _ => none
  | n5 + 1, w2_1, m_Aa_2 => (if (1908 : Int32) ≤ w2_1 then some m_Aa_2 else (if vin w2_1 1908 then bnd (upd m_Aa_2 (w2_1).toNatClampNeg x1) (fun A_3 => bnd (w2_1 + 1) (fun v2_4 => f_fillI_L5 F x1 n5 v2_4 A_3)) else none))
def f_fillI (F : Nat) (Aa : Nat → Int32) (x1 : Int32) : Option ((Nat → Int32)) := Option.bind (f_fillI_L5 F x1 F 0 Aa) (fun y_Aa_5 => some y_Aa_5)
set_option maxHeartbeats 4000000 in
set_option maxRecDepth 100000 in
theorem c_fillI (l : Launch) (dC : Nat → ClassId) (dI : Nat → Nat → Nat) (pa : Nat) (ta : ClassId) (Aa : Nat → Int32) (x1 : Int32) (sz : Nat) (F : Nat) (out : (Nat → Int32)) (hf : f_fillI F Aa x1 = some out) : Met l yY_fill wsY_fill ({ frames := 0, cells := 0, slots := 0, locals := 0 }) (va_Pc [.ref pa, .int x1] (fun U => U.heap.size = sz ∧ va_P (dC, dI) vwCl [(pa, .inl (ta, 1908, .inl Aa))] U.heap ∧ va_K (dC, dI) vwCl [(ta, .int)] U ∧ va_D (fun _ => True) [(pa, .inl (ta, 1908, .inl Aa))])) (va_Qv (fun (u : (Nat → Int32)) => u = out) (fun (u_Aa : (Nat → Int32)) t => va_P (dC, dI) vwCl [(pa, .inl (ta, 1908, .inl u_Aa))] t.heap ∧ va_K (dC, dI) vwCl [(ta, .int)] t ∧ va_D (va_A [(pa, .inl (ta, 1908, .inl Aa))] sz) [(pa, .inl (ta, 1908, .inl u_Aa))]) (va_A [(pa, .inl (ta, 1908, .inl Aa))] sz)) 0 0 (va_A [(pa, .inl (ta, 1908, .inl Aa))] sz) := by
  refine va_MetF (cc := cY_fill) (maxL := 4) (ret := none) (by decide +kernel) rfl ?_
  intro p e s m args below meth c s₁ B hml hv
  obtain ⟨rfl, hsz, hP, hK, hD0⟩ := hv
  have hx := B.exec
  have hb := B.bytes
  have hr := B.returns
  have hts := atoms_spec (ws := wsY_fill) B.pre
  have hown : s.vm.findClass "java/util/Arrays" = some m.cls := findClass_of_methodNamed B.named
  have hlocks := B.notSynchronized
  subst hsz
  have hD := hD0.self (sz := s.heap.size)
  generalize hAe : va_A [(pa, .inl (ta, 1908, .inl Aa))] s.heap.size = A at hD ⊢
  have hA : ∀ q : Nat, s.heap.size ≤ q → A q := fun q h => by rw [← hAe]; exact Or.inr h
  have hS : va_S A s.heap s.heap [] := va_S.rf
  have hl := lv_entry ([.ref pa, .int x1]) (n := 4) (Nat.le_of_ble_eq_true rfl)
  rw [lg_entry_eq]
  generalize (lg_sl ([.ref pa, .int x1]) ++ List.replicate (4 - (lg_sl ([.ref pa, .int x1])).length) Slot.unset).toArray = ls at hl ⊢
  have hl : lv_has ls 4 [(0, .ref pa), (1, .int x1)] := hl
  unfold f_fillI at hf
  refine lv_iconst (v := 0) hx hb dY_fill_0 (by decide) ?_
  refine lv_istore_n (lv' := [(2, .int 0), (0, .ref pa), (1, .int x1)]) hx hb dY_fill_1 rfl hl (by decide) rfl (fun ls hl => ?_)
  refine lv_aload_n hx hb dY_fill_2 rfl (lv_at hl 1 rfl) ?_
  refine va_alen (v := 1908) hx hb hK hP 0 0 rfl rfl rfl dY_fill_3 ?_
  refine lv_istore_n (lv' := [(3, .int 1908), (2, .int 0), (0, .ref pa), (1, .int x1)]) hx hb dY_fill_4 rfl hl (by decide) rfl (fun ls hl => ?_)
  have hL5 : ∀ (n5 : Nat) (w2_1 : Int32) (m_Aa_2 : Nat → Int32) (res : (Nat → Int32)) (H : Heap) (locs : List Loc) (ls : Array Slot) (Q : State → Prop), f_fillI_L5 F x1 n5 w2_1 m_Aa_2 = some res → va_P (dC, dI) vwCl [(pa, .inl (ta, 1908, .inl m_Aa_2))] H → va_D A [(pa, .inl (ta, 1908, .inl m_Aa_2))] → va_S A s.heap H locs → lv_has ls 4 [(0, .ref pa), (1, .int x1), (2, .int w2_1), (3, .int 1908)] → (∀ (y_Aa_5 : Nat → Int32) (H : Heap) (locs : List Loc) (ls : Array Slot), y_Aa_5 = res → va_P (dC, dI) vwCl [(pa, .inl (ta, 1908, .inl y_Aa_5))] H → va_D A [(pa, .inl (ta, 1908, .inl y_Aa_5))] → va_S A s.heap H locs → lv_has ls 4 [] → W p l e ((headSpec wsY_fill ({ frames := 0, cells := 0, slots := 0, locals := 0 })).room) s m ([.ref pa, .int x1] : List Value).toArray below meth c H locs 0 0 Q (F0 m 20 ls [])) → W p l e ((headSpec wsY_fill ({ frames := 0, cells := 0, slots := 0, locals := 0 })).room) s m ([.ref pa, .int x1] : List Value).toArray below meth c H locs 0 0 Q (F0 m 5 ls []) := by
    intro n5
    induction n5 with
    | zero => intro w2_1 m_Aa_2 res H locs ls Q hf; simp [f_fillI_L5] at hf
    | succ n5 ih5 =>
      intro w2_1 m_Aa_2 res H locs ls Q hf hP hD hS hl k5_0
      rw [f_fillI_L5] at hf
      refine lv_iload_n hx hb dY_fill_5 rfl (lv_at hl 2 rfl) ?_
      refine lv_iload_n hx hb dY_fill_6 rfl (lv_at hl 3 rfl) ?_
      refine lv_icmp_ge (tgt := 20) hx hb dY_fill_7 (by decide) (fun c_7 => ?_) (fun c_7 => ?_)
      · have hf := ok_t c_7 hf
        exact k5_0 m_Aa_2 _ _ _ (Option.some.inj hf) (hP.sub [0] rfl) (hD.sub [0] (by decide) rfl) hS (lv_sub hl [] rfl)
      · have hf := ok_f c_7 hf
        refine lv_aload_n hx hb dY_fill_10 rfl (lv_at hl 0 rfl) ?_
        refine lv_iload_n hx hb dY_fill_11 rfl (lv_at hl 2 rfl) ?_
        refine lv_iload_n hx hb dY_fill_12 rfl (lv_at hl 1 rfl) ?_
        obtain ⟨g_13, hf⟩ := ok_g hf
        refine va_iast hx hb hK hP hD hS 0 0 rfl rfl g_13 dY_fill_13 (fun H locs hP hD hS => ?_)
        have hP : va_P (dC, dI) vwCl [(pa, .inl (ta, 1908, .inl (upd m_Aa_2 (w2_1).toNatClampNeg x1)))] H := hP
        have hD : va_D A [(pa, .inl (ta, 1908, .inl (upd m_Aa_2 (w2_1).toNatClampNeg x1)))] := hD
        obtain ⟨A_3, eA_3⟩ : ∃ y : Nat → Int32, y = (upd m_Aa_2 (w2_1).toNatClampNeg x1) := ⟨_, rfl⟩
        rw [← eA_3] at hP hD
        replace hf := bnd_ok eA_3 hf
        obtain ⟨v2_4, ev2_4⟩ : ∃ y : Int32, y = w2_1 + 1 := ⟨_, rfl⟩
        replace hf := bnd_ok ev2_4 hf
        refine lv_iinc (v := v2_4) (lv' := [(2, .int v2_4), (0, .ref pa), (1, .int x1), (3, .int 1908)]) hx hb dY_fill_14 hl (k := 2) rfl (by rw [ev2_4]; rfl) (by decide) rfl (fun ls hl => ?_)
        refine lv_goto (tgt := 5) hx hb dY_fill_17 (by decide) ?_
        exact ih5 v2_4 A_3 _ _ _ _ _ hf (hP.sub [0] rfl) (hD.sub [0] (by decide) rfl) hS (lv_sub hl [1, 2, 0, 3] rfl) k5_0
  obtain ⟨res5, hL5_r, hf⟩ := ok_b hf
  refine hL5 F 0 Aa res5 _ _ _ _ hL5_r (hP.sub [0] rfl) (hD.sub [0] (by decide) rfl) hS (lv_sub hl [2, 3, 1, 0] rfl) (fun y_Aa_5 H locs ls hres hP hD hS hl => ?_)
  subst hres
  have hP9 := hP.sub (ws' := [(pa, .inl (ta, 1908, .inl y_Aa_5))]) [0] rfl
  have hD9 := hD.sub (ws' := [(pa, .inl (ta, 1908, .inl y_Aa_5))]) [0] (by decide) rfl
  have hK9 := hK.sub (tys' := [(ta, .int)]) [0] rfl
  exact W.vret hx hb hr (fun t ht hW => ⟨⟨y_Aa_5, rfl, (Option.some.inj hf), by rw [ht]; exact hP9, va_K.moved hW.alike hK9, hD9⟩, hS.F ht⟩) hS.2.2 dY_fill_20

