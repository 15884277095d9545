def f_m_in (F : Nat) (x0 : Int64) (x2 : Int64) (x4 : Int64) : Option (Int32) := (if (lg_cmp x0 x2) < 0 then some 0 else (if (0 : Int32) < (lg_cmp x0 x4) then some 0 else some 1))
set_option maxHeartbeats 4000000 in
set_option maxRecDepth 100000 in
theorem c_m_in (l : Launch) (dC : Nat → ClassId) (dI : Nat → Nat → Nat) (x0 : Int64) (x2 : Int64) (x4 : Int64) (sz : Nat) (F : Nat) (out : Int32) (hf : f_m_in F x0 x2 x4 = some out) : Met l yX3_in wsX3_in ({ frames := 0, cells := 0, slots := 0, locals := 0 }) (va_Pc [.long x0, .long x2, .long x4] (fun U => U.heap.size = sz ∧ va_P (dC, dI) vwCl [] U.heap ∧ va_K (dC, dI) vwCl [] U ∧ va_D (fun _ => True) [])) (va_Qi (fun (r : Int32) (u : Unit) => r = out) (fun (u : Unit) t => match u with | _ => va_P (dC, dI) vwCl [] t.heap ∧ va_K (dC, dI) vwCl [] t ∧ va_D (va_A [] sz) []) (va_A [] sz)) 0 0 (va_A [] sz) := by
  refine Met.ofW (cc := cX3_in) (maxL := 6) (ret := (some .boolean)) (by decide +kernel) rfl ?_
  intro p e s m args below meth c s₁ B hml hv
  obtain ⟨rfl, hsz, hP, hK, hD0⟩ := hv
  have hx := B.exec
  have hb := B.bytes
  have hr := B.returns
  have hts := atoms_spec (ws := wsX3_in) B.pre
  have hown : s.vm.findClass "ClassGroupModel" = some m.cls := findClass_of_methodNamed B.named
  have hlocks := B.notSynchronized
  subst hsz
  have hD := hD0.self (sz := s.heap.size)
  generalize hAe : va_A [] s.heap.size = A at hD ⊢
  have hA : ∀ q : Nat, s.heap.size ≤ q → A q := fun q h => by rw [← hAe]; exact Or.inr h
  have hS : va_S A s.heap s.heap [] := va_S.rf
  have hl := lv_entry ([.long x0, .long x2, .long x4]) (n := 6) (Nat.le_of_ble_eq_true rfl)
  rw [lg_entry_eq]
  generalize (lg_sl ([.long x0, .long x2, .long x4]) ++ List.replicate (6 - (lg_sl ([.long x0, .long x2, .long x4])).length) Slot.unset).toArray = ls at hl ⊢
  have hl : lv_has ls 6 [(0, .long x0), (2, .long x2), (4, .long x4)] := hl
  unfold f_m_in at hf
  refine lv_lload_n hx hb dX3_in_0 rfl (lv_at hl 0 rfl) ?_
  refine lv_lload_n hx hb dX3_in_1 rfl (lv_at hl 1 rfl) ?_
  refine W.lcmp hx hb dX3_in_2 ?_
  refine lv_if_lt (tgt := 17) hx hb dX3_in_3 (by decide) (fun c_3 => ?_) (fun c_3 => ?_)
  · have hf := ok_t c_3 hf
    refine lv_iconst (v := 0) hx hb dX3_in_17 (by decide) ?_
    have hP9 := hP.sub (ws' := []) [] rfl
    have hD9 := hD.sub (ws' := []) [] (by decide) rfl
    have hK9 := hK.sub (tys' := []) [] rfl
    exact W.zret (v := 0) (ty := .boolean) hx hb hr rfl (fun t ht hW => ⟨⟨0, (), rfl, (Option.some.inj hf), by rw [ht]; exact hP9, va_K.moved hW.alike hK9, hD9⟩, hS.F ht⟩) hS.2.2 dX3_in_18
  · have hf := ok_f c_3 hf
    refine lv_lload_n hx hb dX3_in_6 rfl (lv_at hl 0 rfl) ?_
    refine lv_lload hx hb dX3_in_7 (lv_at hl 2 rfl) ?_
    refine W.lcmp hx hb dX3_in_9 ?_
    refine lv_if_gt (tgt := 17) hx hb dX3_in_10 (by decide) (fun c_10 => ?_) (fun c_10 => ?_)
    · have hf := ok_t c_10 hf
      refine lv_iconst (v := 0) hx hb dX3_in_17 (by decide) ?_
      have hP9 := hP.sub (ws' := []) [] rfl
      have hD9 := hD.sub (ws' := []) [] (by decide) rfl
      have hK9 := hK.sub (tys' := []) [] rfl
      exact W.zret (v := 0) (ty := .boolean) hx hb hr rfl (fun t ht hW => ⟨⟨0, (), rfl, (Option.some.inj hf), by rw [ht]; exact hP9, va_K.moved hW.alike hK9, hD9⟩, hS.F ht⟩) hS.2.2 dX3_in_18
    · have hf := ok_f c_10 hf
      refine lv_iconst (v := 1) hx hb dX3_in_13 (by decide) ?_
      refine lv_goto (tgt := 18) hx hb dX3_in_14 (by decide) ?_
      have hP9 := hP.sub (ws' := []) [] rfl
      have hD9 := hD.sub (ws' := []) [] (by decide) rfl
      have hK9 := hK.sub (tys' := []) [] rfl
      exact W.zret (v := 1) (ty := .boolean) hx hb hr rfl (fun t ht hW => ⟨⟨1, (), rfl, (Option.some.inj hf), by rw [ht]; exact hP9, va_K.moved hW.alike hK9, hD9⟩, hS.F ht⟩) hS.2.2 dX3_in_18

def f_m_size (F : Nat) (x0 : Int64) : Option (Int64) := (if (0 : Int32) ≤ (lg_cmp x0 0) then some x0 else some (-x0))
set_option maxHeartbeats 4000000 in
set_option maxRecDepth 100000 in
theorem c_m_size (l : Launch) (dC : Nat → ClassId) (dI : Nat → Nat → Nat) (x0 : Int64) (sz : Nat) (F : Nat) (out : Int64) (hf : f_m_size F x0 = some out) : Met l yX3_size wsX3_size ({ frames := 0, cells := 0, slots := 0, locals := 0 }) (va_Pc [.long x0] (fun U => U.heap.size = sz ∧ va_P (dC, dI) vwCl [] U.heap ∧ va_K (dC, dI) vwCl [] U ∧ va_D (fun _ => True) [])) (va_Ql (fun (r : Int64) (u : Unit) => r = out) (fun (u : Unit) t => match u with | _ => va_P (dC, dI) vwCl [] t.heap ∧ va_K (dC, dI) vwCl [] t ∧ va_D (va_A [] sz) []) (va_A [] sz)) 0 0 (va_A [] sz) := by
  refine Met.ofW (cc := cX3_size) (maxL := 2) (ret := (some .long)) (by decide +kernel) rfl ?_
  intro p e s m args below meth c s₁ B hml hv
  obtain ⟨rfl, hsz, hP, hK, hD0⟩ := hv
  have hx := B.exec
  have hb := B.bytes
  have hr := B.returns
  have hts := atoms_spec (ws := wsX3_size) B.pre
  have hown : s.vm.findClass "ClassGroupModel" = some m.cls := findClass_of_methodNamed B.named
  have hlocks := B.notSynchronized
  subst hsz
  have hD := hD0.self (sz := s.heap.size)
  generalize hAe : va_A [] s.heap.size = A at hD ⊢
  have hA : ∀ q : Nat, s.heap.size ≤ q → A q := fun q h => by rw [← hAe]; exact Or.inr h
  have hS : va_S A s.heap s.heap [] := va_S.rf
  have hl := lv_entry ([.long x0]) (n := 2) (Nat.le_of_ble_eq_true rfl)
  rw [lg_entry_eq]
  generalize (lg_sl ([.long x0]) ++ List.replicate (2 - (lg_sl ([.long x0])).length) Slot.unset).toArray = ls at hl ⊢
  have hl : lv_has ls 2 [(0, .long x0)] := hl
  unfold f_m_size at hf
  refine lv_lload_n hx hb dX3_size_0 rfl (lv_at hl 0 rfl) ?_
  refine lv_lconst (v := 0) hx hb dX3_size_1 (by decide) ?_
  refine W.lcmp hx hb dX3_size_2 ?_
  refine lv_if_ge (tgt := 11) hx hb dX3_size_3 (by decide) (fun c_3 => ?_) (fun c_3 => ?_)
  · have hf := ok_t c_3 hf
    refine lv_lload_n hx hb dX3_size_11 rfl (lv_at hl 0 rfl) ?_
    have hP9 := hP.sub (ws' := []) [] rfl
    have hD9 := hD.sub (ws' := []) [] (by decide) rfl
    have hK9 := hK.sub (tys' := []) [] rfl
    exact W.lret (v := x0) hx hb hr (fun t ht hW => ⟨⟨x0, (), rfl, (Option.some.inj hf), by rw [ht]; exact hP9, va_K.moved hW.alike hK9, hD9⟩, hS.F ht⟩) hS.2.2 dX3_size_12
  · have hf := ok_f c_3 hf
    refine lv_lload_n hx hb dX3_size_6 rfl (lv_at hl 0 rfl) ?_
    refine lv_lneg hx hb dX3_size_7 ?_
    refine lv_goto (tgt := 12) hx hb dX3_size_8 (by decide) ?_
    have hP9 := hP.sub (ws' := []) [] rfl
    have hD9 := hD.sub (ws' := []) [] (by decide) rfl
    have hK9 := hK.sub (tys' := []) [] rfl
    exact W.lret (v := (-x0)) hx hb hr (fun t ht hW => ⟨⟨(-x0), (), rfl, (Option.some.inj hf), by rw [ht]; exact hP9, va_K.moved hW.alike hK9, hD9⟩, hS.F ht⟩) hS.2.2 dX3_size_12

def f_m_common_L12 (F : Nat)  : Nat → Int64 → Int64 → Option (Int64)
  | 0, _, _ => none
  | n12 + 1, w4_3, w6_4 => (if (lg_cmp w6_4 0) ≤ 0 then some w4_3 else (if ¬ w6_4 = 0 then bnd (w4_3 - w4_3 / w6_4 * w6_4) (fun v8_5 => f_m_common_L12 F n12 w6_4 v8_5) else none))
def f_m_common (F : Nat) (x0 : Int64) (x2 : Int64) : Option (Int64) := Option.bind (f_m_size F x0) (fun r_1 => Option.bind (f_m_size F x2) (fun r_2 => Option.bind (f_m_common_L12 F F r_1 r_2) (fun x4_6 => some x4_6)))
set_option maxHeartbeats 4000000 in
set_option maxRecDepth 100000 in
theorem c_m_common (l : Launch) (dC : Nat → ClassId) (dI : Nat → Nat → Nat) (x0 : Int64) (x2 : Int64) (sz : Nat) (F : Nat) (out : Int64) (hf : f_m_common F x0 x2 = some out) : Met l yX3_common wsX3_common ({ frames := 1, cells := 0, slots := 0, locals := 21 }) (va_Pc [.long x0, .long x2] (fun U => U.heap.size = sz ∧ va_P (dC, dI) vwCl [] U.heap ∧ va_K (dC, dI) vwCl [] U ∧ va_D (fun _ => True) [])) (va_Ql (fun (r : Int64) (u : Unit) => r = out) (fun (u : Unit) t => match u with | _ => va_P (dC, dI) vwCl [] t.heap ∧ va_K (dC, dI) vwCl [] t ∧ va_D (va_A [] sz) []) (va_A [] sz)) 0 0 (va_A [] sz) := by
  refine Met.ofW (cc := cX3_common) (maxL := 10) (ret := (some .long)) (by decide +kernel) rfl ?_
  intro p e s m args below meth c s₁ B hml hv
  obtain ⟨rfl, hsz, hP, hK, hD0⟩ := hv
  have hx := B.exec
  have hb := B.bytes
  have hr := B.returns
  have hts := atoms_spec (ws := wsX3_common) B.pre
  have hown : s.vm.findClass "ClassGroupModel" = some m.cls := findClass_of_methodNamed B.named
  have hlocks := B.notSynchronized
  subst hsz
  have hD := hD0.self (sz := s.heap.size)
  generalize hAe : va_A [] s.heap.size = A at hD ⊢
  have hA : ∀ q : Nat, s.heap.size ≤ q → A q := fun q h => by rw [← hAe]; exact Or.inr h
  have hS : va_S A s.heap s.heap [] := va_S.rf
  have hl := lv_entry ([.long x0, .long x2]) (n := 10) (Nat.le_of_ble_eq_true rfl)
  rw [lg_entry_eq]
  generalize (lg_sl ([.long x0, .long x2]) ++ List.replicate (10 - (lg_sl ([.long x0, .long x2])).length) Slot.unset).toArray = ls at hl ⊢
  have hl : lv_has ls 10 [(0, .long x0), (2, .long x2)] := hl
  unfold f_m_common at hf
  refine lv_lload_n hx hb dX3_common_0 rfl (lv_at hl 0 rfl) ?_
  obtain ⟨xc1, hc1, hf⟩ := ok_b hf
  have hPc := hP.sub (ws' := []) [] rfl
  have hDc := hD.sub (ws' := []) [] (by decide) rfl
  have hKc := hK.sub (tys' := []) [] rfl
  have hFc := va_free (wc := []) hD hS hA [] rfl
  refine va_calll (va_runS (As := [.long x0]) (rest := []) ⟨hx, hb, hml, hown, hts⟩ (c_m_size l dC dI x0 s.heap.size F xc1 hc1) (va_cwS 1 hts (gwS kw_460 kw_461 kw_5 kw_462) rfl rfl rfl (by decide +kernel) ⟨Nat.le_of_ble_eq_true rfl, Nat.le_of_ble_eq_true rfl⟩) ⟨fun a U g mk q => by obtain ⟨q0, q1, qP, qK, qD⟩ := q; exact ⟨q0, q1, qP, va_K.moved (u := U) (U := U.calling g mk a) (Vm.Alike.refl U.vm) qK, qD⟩, fun U hU hW => ⟨rfl, by rw [hU], by rw [hU]; exact hPc, va_K.moved hW.alike hKc, hDc.weaken (fun _ _ _ _ => trivial)⟩⟩ rfl rfl hl.1 rfl (lv_room (Nat.le_of_ble_eq_true rfl)) dX3_common_1 ⟨Nat.zero_le _, Nat.zero_le _⟩) hS (fun q _ h => hFc q h) hFc (fun r_1 u t H1 locs ht hvm hw hB hz1 hk1 hS => ?_)
  obtain ⟨⟩ := u
  obtain ⟨hP1, hK1, hD1⟩ := hB
  rw [ht] at hP1
  subst hw
  obtain ⟨hP, hD⟩ := va_join (wr := []) (w1 := []) hP hD [] [] rfl rfl (by decide) (by decide) hk1 hFc hP1 hD1
  generalize H1 = H at hP hS ⊢
  have hP : va_P (dC, dI) vwCl [] H := hP
  have hD : va_D A [] := hD
  refine lv_lstore (lv' := [(4, .long r_1), (0, .long x0), (2, .long x2)]) hx hb dX3_common_4 hl (by decide) rfl (fun ls hl => ?_)
  refine lv_lload_n hx hb dX3_common_6 rfl (lv_at hl 2 rfl) ?_
  obtain ⟨xc7, hc7, hf⟩ := ok_b hf
  have hPc := hP.sub (ws' := []) [] rfl
  have hDc := hD.sub (ws' := []) [] (by decide) rfl
  have hKc := hK.sub (tys' := []) [] rfl
  have hFc := va_free (wc := []) hD hS hA [] rfl
  refine va_calll (va_runS (As := [.long x2]) (rest := []) ⟨hx, hb, hml, hown, hts⟩ (c_m_size l dC dI x2 H.size F xc7 hc7) (va_cwS 1 hts (gwS kw_460 kw_461 kw_5 kw_462) rfl rfl rfl (by decide +kernel) ⟨Nat.le_of_ble_eq_true rfl, Nat.le_of_ble_eq_true rfl⟩) ⟨fun a U g mk q => by obtain ⟨q0, q1, qP, qK, qD⟩ := q; exact ⟨q0, q1, qP, va_K.moved (u := U) (U := U.calling g mk a) (Vm.Alike.refl U.vm) qK, qD⟩, fun U hU hW => ⟨rfl, by rw [hU], by rw [hU]; exact hPc, va_K.moved hW.alike hKc, hDc.weaken (fun _ _ _ _ => trivial)⟩⟩ rfl rfl hl.1 rfl (lv_room (Nat.le_of_ble_eq_true rfl)) dX3_common_7 ⟨Nat.zero_le _, Nat.zero_le _⟩) hS (fun q _ h => hFc q h) hFc (fun r_2 u t H1 locs ht hvm hw hB hz1 hk1 hS => ?_)
  obtain ⟨⟩ := u
  obtain ⟨hP1, hK1, hD1⟩ := hB
  rw [ht] at hP1
  subst hw
  obtain ⟨hP, hD⟩ := va_join (wr := []) (w1 := []) hP hD [] [] rfl rfl (by decide) (by decide) hk1 hFc hP1 hD1
  generalize H1 = H at hP hS ⊢
  have hP : va_P (dC, dI) vwCl [] H := hP
  have hD : va_D A [] := hD
  refine lv_lstore (lv' := [(6, .long r_2), (4, .long r_1), (0, .long x0), (2, .long x2)]) hx hb dX3_common_10 hl (by decide) rfl (fun ls hl => ?_)
  have hL12 : ∀ (n12 : Nat) (w4_3 : Int64) (w6_4 : Int64) (res : Int64) (H : Heap) (locs : List Loc) (ls : Array Slot) (Q : State → Prop), f_m_common_L12 F n12 w4_3 w6_4 = some res → va_P (dC, dI) vwCl [] H → va_D A [] → va_S A s.heap H locs → lv_has ls 10 [(4, .long w4_3), (6, .long w6_4)] → (∀ (x4_6 : Int64) (H : Heap) (locs : List Loc) (ls : Array Slot), x4_6 = res → va_P (dC, dI) vwCl [] H → va_D A [] → va_S A s.heap H locs → lv_has ls 10 [(4, .long x4_6)] → W p l e ((headSpec wsX3_common ({ frames := 1, cells := 0, slots := 0, locals := 21 })).room) s m ([.long x0, .long x2] : List Value).toArray below meth c H locs 0 0 Q (F0 m 37 ls [])) → W p l e ((headSpec wsX3_common ({ frames := 1, cells := 0, slots := 0, locals := 21 })).room) s m ([.long x0, .long x2] : List Value).toArray below meth c H locs 0 0 Q (F0 m 12 ls []) := by
    intro n12
    induction n12 with
    | zero => intro w4_3 w6_4 res H locs ls Q hf; simp [f_m_common_L12] at hf
    | succ n12 ih12 =>
      intro w4_3 w6_4 res H locs ls Q hf hP hD hS hl k12_0
      rw [f_m_common_L12] at hf
      refine lv_lload hx hb dX3_common_12 (lv_at hl 1 rfl) ?_
      refine lv_lconst (v := 0) hx hb dX3_common_14 (by decide) ?_
      refine W.lcmp hx hb dX3_common_15 ?_
      refine lv_if_le (tgt := 37) hx hb dX3_common_16 (by decide) (fun c_16 => ?_) (fun c_16 => ?_)
      · have hf := ok_t c_16 hf
        exact k12_0 w4_3 _ _ _ (Option.some.inj hf) (hP.sub [] rfl) (hD.sub [] (by decide) rfl) hS (lv_sub hl [0] rfl)
      · have hf := ok_f c_16 hf
        refine lv_lload hx hb dX3_common_19 (lv_at hl 0 rfl) ?_
        refine lv_lload hx hb dX3_common_21 (lv_at hl 1 rfl) ?_
        obtain ⟨g_23, hf⟩ := ok_g hf
        refine lv_lrem hx hb dX3_common_23 g_23 ?_
        refine lv_topl (fun v8_5 ev8_5 => ?_)
        replace hf := bnd_ok ev8_5 hf
        refine lv_lstore (lv' := [(8, .long v8_5), (4, .long w4_3), (6, .long w6_4)]) hx hb dX3_common_24 hl (by decide) rfl (fun ls hl => ?_)
        refine lv_lload hx hb dX3_common_26 (lv_at hl 2 rfl) ?_
        refine lv_lstore (lv' := [(4, .long w6_4), (8, .long v8_5), (6, .long w6_4)]) hx hb dX3_common_28 hl (by decide) rfl (fun ls hl => ?_)
        refine lv_lload hx hb dX3_common_30 (lv_at hl 1 rfl) ?_
        refine lv_lstore (lv' := [(6, .long v8_5), (4, .long w6_4), (8, .long v8_5)]) hx hb dX3_common_32 hl (by decide) rfl (fun ls hl => ?_)
        refine lv_goto (tgt := 12) hx hb dX3_common_34 (by decide) ?_
        exact ih12 w6_4 v8_5 _ _ _ _ _ hf (hP.sub [] rfl) (hD.sub [] (by decide) rfl) hS (lv_sub hl [1, 0] rfl) k12_0
  obtain ⟨res12, hL12_r, hf⟩ := ok_b hf
  refine hL12 F r_1 r_2 res12 _ _ _ _ hL12_r (hP.sub [] rfl) (hD.sub [] (by decide) rfl) hS (lv_sub hl [1, 0] rfl) (fun x4_6 H locs ls hres hP hD hS hl => ?_)
  subst hres
  refine lv_lload hx hb dX3_common_37 (lv_at hl 0 rfl) ?_
  have hP9 := hP.sub (ws' := []) [] rfl
  have hD9 := hD.sub (ws' := []) [] (by decide) rfl
  have hK9 := hK.sub (tys' := []) [] rfl
  exact W.lret (v := x4_6) hx hb hr (fun t ht hW => ⟨⟨x4_6, (), rfl, (Option.some.inj hf), by rw [ht]; exact hP9, va_K.moved hW.alike hK9, hD9⟩, hS.F ht⟩) hS.2.2 dX3_common_39

def f_m_root_L2 (F : Nat) (x0 : Int64) : Nat → Int64 → Option (Int64)
  | 0, _ => none
  | n2 + 1, w2_1 => (if (0 : Int32) < (lg_cmp ((w2_1 + 1) * (w2_1 + 1)) x0) then some w2_1 else bnd (w2_1 + 1) (fun v2_2 => f_m_root_L2 F x0 n2 v2_2))
def f_m_root (F : Nat) (x0 : Int64) : Option (Int64) := Option.bind (f_m_root_L2 F x0 F 0) (fun x2_3 => some x2_3)
set_option maxHeartbeats 4000000 in
set_option maxRecDepth 100000 in
theorem c_m_root (l : Launch) (dC : Nat → ClassId) (dI : Nat → Nat → Nat) (x0 : Int64) (sz : Nat) (F : Nat) (out : Int64) (hf : f_m_root F x0 = some out) : Met l yX3_wholeRoot wsX3_wholeRoot ({ frames := 0, cells := 0, slots := 0, locals := 0 }) (va_Pc [.long x0] (fun U => U.heap.size = sz ∧ va_P (dC, dI) vwCl [] U.heap ∧ va_K (dC, dI) vwCl [] U ∧ va_D (fun _ => True) [])) (va_Ql (fun (r : Int64) (u : Unit) => r = out) (fun (u : Unit) t => match u with | _ => va_P (dC, dI) vwCl [] t.heap ∧ va_K (dC, dI) vwCl [] t ∧ va_D (va_A [] sz) []) (va_A [] sz)) 0 0 (va_A [] sz) := by
  refine Met.ofW (cc := cX3_wholeRoot) (maxL := 4) (ret := (some .long)) (by decide +kernel) rfl ?_
  intro p e s m args below meth c s₁ B hml hv
  obtain ⟨rfl, hsz, hP, hK, hD0⟩ := hv
  have hx := B.exec
  have hb := B.bytes
  have hr := B.returns
  have hts := atoms_spec (ws := wsX3_wholeRoot) B.pre
  have hown : s.vm.findClass "ClassGroupModel" = some m.cls := findClass_of_methodNamed B.named
  have hlocks := B.notSynchronized
  subst hsz
  have hD := hD0.self (sz := s.heap.size)
  generalize hAe : va_A [] s.heap.size = A at hD ⊢
  have hA : ∀ q : Nat, s.heap.size ≤ q → A q := fun q h => by rw [← hAe]; exact Or.inr h
  have hS : va_S A s.heap s.heap [] := va_S.rf
  have hl := lv_entry ([.long x0]) (n := 4) (Nat.le_of_ble_eq_true rfl)
  rw [lg_entry_eq]
  generalize (lg_sl ([.long x0]) ++ List.replicate (4 - (lg_sl ([.long x0])).length) Slot.unset).toArray = ls at hl ⊢
  have hl : lv_has ls 4 [(0, .long x0)] := hl
  unfold f_m_root at hf
  refine lv_lconst (v := 0) hx hb dX3_wholeRoot_0 (by decide) ?_
  refine lv_lstore_n (lv' := [(2, .long 0), (0, .long x0)]) hx hb dX3_wholeRoot_1 rfl hl (by decide) rfl (fun ls hl => ?_)
  have hL2 : ∀ (n2 : Nat) (w2_1 : Int64) (res : Int64) (H : Heap) (locs : List Loc) (ls : Array Slot) (Q : State → Prop), f_m_root_L2 F x0 n2 w2_1 = some res → va_P (dC, dI) vwCl [] H → va_D A [] → va_S A s.heap H locs → lv_has ls 4 [(0, .long x0), (2, .long w2_1)] → (∀ (x2_3 : Int64) (H : Heap) (locs : List Loc) (ls : Array Slot), x2_3 = res → va_P (dC, dI) vwCl [] H → va_D A [] → va_S A s.heap H locs → lv_has ls 4 [(2, .long x2_3)] → W p l e ((headSpec wsX3_wholeRoot ({ frames := 0, cells := 0, slots := 0, locals := 0 })).room) s m ([.long x0] : List Value).toArray below meth c H locs 0 0 Q (F0 m 21 ls [])) → W p l e ((headSpec wsX3_wholeRoot ({ frames := 0, cells := 0, slots := 0, locals := 0 })).room) s m ([.long x0] : List Value).toArray below meth c H locs 0 0 Q (F0 m 2 ls []) := by
    intro n2
    induction n2 with
    | zero => intro w2_1 res H locs ls Q hf; simp [f_m_root_L2] at hf
    | succ n2 ih2 =>
      intro w2_1 res H locs ls Q hf hP hD hS hl k2_0
      rw [f_m_root_L2] at hf
      refine lv_lload_n hx hb dX3_wholeRoot_2 rfl (lv_at hl 1 rfl) ?_
      refine lv_lconst (v := 1) hx hb dX3_wholeRoot_3 (by decide) ?_
      refine lv_ladd hx hb dX3_wholeRoot_4 ?_
      refine lv_lload_n hx hb dX3_wholeRoot_5 rfl (lv_at hl 1 rfl) ?_
      refine lv_lconst (v := 1) hx hb dX3_wholeRoot_6 (by decide) ?_
      refine lv_ladd hx hb dX3_wholeRoot_7 ?_
      refine lv_lmul hx hb dX3_wholeRoot_8 ?_
      refine lv_lload_n hx hb dX3_wholeRoot_9 rfl (lv_at hl 0 rfl) ?_
      refine W.lcmp hx hb dX3_wholeRoot_10 ?_
      refine lv_if_gt (tgt := 21) hx hb dX3_wholeRoot_11 (by decide) (fun c_11 => ?_) (fun c_11 => ?_)
      · have hf := ok_t c_11 hf
        exact k2_0 w2_1 _ _ _ (Option.some.inj hf) (hP.sub [] rfl) (hD.sub [] (by decide) rfl) hS (lv_sub hl [1] rfl)
      · have hf := ok_f c_11 hf
        refine lv_lload_n hx hb dX3_wholeRoot_14 rfl (lv_at hl 1 rfl) ?_
        refine lv_lconst (v := 1) hx hb dX3_wholeRoot_15 (by decide) ?_
        refine lv_ladd hx hb dX3_wholeRoot_16 ?_
        refine lv_topl (fun v2_2 ev2_2 => ?_)
        replace hf := bnd_ok ev2_2 hf
        refine lv_lstore_n (lv' := [(2, .long v2_2), (0, .long x0)]) hx hb dX3_wholeRoot_17 rfl hl (by decide) rfl (fun ls hl => ?_)
        refine lv_goto (tgt := 2) hx hb dX3_wholeRoot_18 (by decide) ?_
        exact ih2 v2_2 _ _ _ _ _ hf (hP.sub [] rfl) (hD.sub [] (by decide) rfl) hS (lv_sub hl [1, 0] rfl) k2_0
  obtain ⟨res2, hL2_r, hf⟩ := ok_b hf
  refine hL2 F 0 res2 _ _ _ _ hL2_r (hP.sub [] rfl) (hD.sub [] (by decide) rfl) hS (lv_sub hl [1, 0] rfl) (fun x2_3 H locs ls hres hP hD hS hl => ?_)
  subst hres
  refine lv_lload_n hx hb dX3_wholeRoot_21 rfl (lv_at hl 0 rfl) ?_
  have hP9 := hP.sub (ws' := []) [] rfl
  have hD9 := hD.sub (ws' := []) [] (by decide) rfl
  have hK9 := hK.sub (tys' := []) [] rfl
  exact W.lret (v := x2_3) hx hb hr (fun t ht hW => ⟨⟨x2_3, (), rfl, (Option.some.inj hf), by rw [ht]; exact hP9, va_K.moved hW.alike hK9, hD9⟩, hS.F ht⟩) hS.2.2 dX3_wholeRoot_22

def f_m_thrown (F : Nat) (mco : Int32) : Option (Int32) := some mco
set_option maxHeartbeats 4000000 in
set_option maxRecDepth 100000 in
theorem c_m_thrown (l : Launch) (dC : Nat → ClassId) (dI : Nat → Nat → Nat) (qh : Nat) (mco : Int32) (md : Int64) (mw : Int64) (mfo : Int32) (qf : Nat) (qm : Nat) (qk : Nat) (mmy : Int32) (qn : Nat) (qo : Nat) (qi : Nat) (qx : Nat) (mpr : Int32) (mgn : Int32) (qg : Nat) (mli : Int32) (ql : Nat) (ma : Int64) (mb : Int64) (mc : Int64) (sz : Nat) (F : Nat) (out : Int32) (hf : f_m_thrown F mco = some out) : Met l yX3_thrown wsX3_thrown ({ frames := 0, cells := 0, slots := 0, locals := 0 }) (va_Pc [.ref qh] (fun U => U.heap.size = sz ∧ va_P (dC, dI) vwCl [(qh, .inr (3, [.int mco, .long md, .long mw, .int mfo, .ref qf, .ref qm, .ref qk, .int mmy, .ref qn, .ref qo, .ref qi, .ref qx, .int mpr, .int mgn, .ref qg, .int mli, .ref ql, .long ma, .long mb, .long mc]))] U.heap ∧ va_K (dC, dI) vwCl [] U ∧ va_D (fun _ => True) [(qh, .inr (3, [.int mco, .long md, .long mw, .int mfo, .ref qf, .ref qm, .ref qk, .int mmy, .ref qn, .ref qo, .ref qi, .ref qx, .int mpr, .int mgn, .ref qg, .int mli, .ref ql, .long ma, .long mb, .long mc]))])) (va_Qi (fun (r : Int32) (u : Unit) => r = out) (fun (u : Unit) t => match u with | _ => va_P (dC, dI) vwCl [(qh, .inr (3, [.int mco, .long md, .long mw, .int mfo, .ref qf, .ref qm, .ref qk, .int mmy, .ref qn, .ref qo, .ref qi, .ref qx, .int mpr, .int mgn, .ref qg, .int mli, .ref ql, .long ma, .long mb, .long mc]))] t.heap ∧ va_K (dC, dI) vwCl [] t ∧ va_D (va_A [(qh, .inr (3, [.int mco, .long md, .long mw, .int mfo, .ref qf, .ref qm, .ref qk, .int mmy, .ref qn, .ref qo, .ref qi, .ref qx, .int mpr, .int mgn, .ref qg, .int mli, .ref ql, .long ma, .long mb, .long mc]))] sz) [(qh, .inr (3, [.int mco, .long md, .long mw, .int mfo, .ref qf, .ref qm, .ref qk, .int mmy, .ref qn, .ref qo, .ref qi, .ref qx, .int mpr, .int mgn, .ref qg, .int mli, .ref ql, .long ma, .long mb, .long mc]))]) (va_A [(qh, .inr (3, [.int mco, .long md, .long mw, .int mfo, .ref qf, .ref qm, .ref qk, .int mmy, .ref qn, .ref qo, .ref qi, .ref qx, .int mpr, .int mgn, .ref qg, .int mli, .ref ql, .long ma, .long mb, .long mc]))] sz)) 0 0 (va_A [(qh, .inr (3, [.int mco, .long md, .long mw, .int mfo, .ref qf, .ref qm, .ref qk, .int mmy, .ref qn, .ref qo, .ref qi, .ref qx, .int mpr, .int mgn, .ref qg, .int mli, .ref ql, .long ma, .long mb, .long mc]))] sz) := by
  refine Met.ofW (cc := cX3_thrown) (maxL := 1) (ret := (some .int)) (by decide +kernel) rfl ?_
  intro p e s m args below meth c s₁ B hml hv
  obtain ⟨rfl, hsz, hP, hK, hD0⟩ := hv
  have hx := B.exec
  have hb := B.bytes
  have hr := B.returns
  have hts := atoms_spec (ws := wsX3_thrown) B.pre
  have hown : s.vm.findClass "ClassGroupModel" = some m.cls := findClass_of_methodNamed B.named
  have hlocks := B.notSynchronized
  subst hsz
  have hD := hD0.self (sz := s.heap.size)
  generalize hAe : va_A [(qh, .inr (3, [.int mco, .long md, .long mw, .int mfo, .ref qf, .ref qm, .ref qk, .int mmy, .ref qn, .ref qo, .ref qi, .ref qx, .int mpr, .int mgn, .ref qg, .int mli, .ref ql, .long ma, .long mb, .long mc]))] s.heap.size = A at hD ⊢
  have hA : ∀ q : Nat, s.heap.size ≤ q → A q := fun q h => by rw [← hAe]; exact Or.inr h
  have hS : va_S A s.heap s.heap [] := va_S.rf
  have hl := lv_entry ([.ref qh]) (n := 1) (Nat.le_of_ble_eq_true rfl)
  rw [lg_entry_eq]
  generalize (lg_sl ([.ref qh]) ++ List.replicate (1 - (lg_sl ([.ref qh])).length) Slot.unset).toArray = ls at hl ⊢
  have hl : lv_has ls 1 [(0, .ref qh)] := hl
  unfold f_m_thrown at hf
  refine lv_aload_n hx hb dX3_thrown_0 rfl (lv_at hl 0 rfl) ?_
  refine va_get (D := (dC, dI)) (ci := 3) (v := .int mco) (C := "ClassGroupModel") (T := TX3) (N := 20) hx hb hts (fun w h => List.mem_cons_of_mem _ (iwX3 w h)) hown hK hP 0 rfl rfl 0 (by decide) (hts _ (List.mem_cons_of_mem _ kw_507)) (fun _ h9 => h9) rfl dX3_thrown_1 ?_
  have hP9 := hP.sub (ws' := [(qh, .inr (3, [.int mco, .long md, .long mw, .int mfo, .ref qf, .ref qm, .ref qk, .int mmy, .ref qn, .ref qo, .ref qi, .ref qx, .int mpr, .int mgn, .ref qg, .int mli, .ref ql, .long ma, .long mb, .long mc]))]) [0] rfl
  have hD9 := hD.sub (ws' := [(qh, .inr (3, [.int mco, .long md, .long mw, .int mfo, .ref qf, .ref qm, .ref qk, .int mmy, .ref qn, .ref qo, .ref qi, .ref qx, .int mpr, .int mgn, .ref qg, .int mli, .ref ql, .long ma, .long mb, .long mc]))]) [0] (by decide) rfl
  have hK9 := hK.sub (tys' := []) [] rfl
  exact W.iret (v := mco) hx hb hr (fun t ht hW => ⟨⟨mco, (), rfl, (Option.some.inj hf), by rw [ht]; exact hP9, va_K.moved hW.alike hK9, hD9⟩, hS.F ht⟩) hS.2.2 dX3_thrown_4

def f_m_be (F : Nat) (md : Int64) (x1 : Int64) (x3 : Int64) : Option (Int64 × Int64 × Int64) := (if ¬ (4 * x1) = 0 then bnd (((x3 * x3) - md) / (4 * x1)) (fun f_c_1 => some (x1, x3, f_c_1)) else none)
set_option maxHeartbeats 4000000 in
set_option maxRecDepth 100000 in
theorem c_m_be (l : Launch) (dC : Nat → ClassId) (dI : Nat → Nat → Nat) (qh : Nat) (mco : Int32) (md : Int64) (mw : Int64) (mfo : Int32) (qf : Nat) (qm : Nat) (qk : Nat) (mmy : Int32) (qn : Nat) (qo : Nat) (qi : Nat) (qx : Nat) (mpr : Int32) (mgn : Int32) (qg : Nat) (mli : Int32) (ql : Nat) (ma : Int64) (mb : Int64) (mc : Int64) (x1 : Int64) (x3 : Int64) (sz : Nat) (F : Nat) (out : Int64 × Int64 × Int64) (hf : f_m_be F md x1 x3 = some out) : Met l yX3_be wsX3_be ({ frames := 0, cells := 0, slots := 0, locals := 0 }) (va_Pc [.ref qh, .long x1, .long x3] (fun U => U.heap.size = sz ∧ va_P (dC, dI) vwCl [(qh, .inr (3, [.int mco, .long md, .long mw, .int mfo, .ref qf, .ref qm, .ref qk, .int mmy, .ref qn, .ref qo, .ref qi, .ref qx, .int mpr, .int mgn, .ref qg, .int mli, .ref ql, .long ma, .long mb, .long mc]))] U.heap ∧ va_K (dC, dI) vwCl [] U ∧ va_D (fun _ => True) [(qh, .inr (3, [.int mco, .long md, .long mw, .int mfo, .ref qf, .ref qm, .ref qk, .int mmy, .ref qn, .ref qo, .ref qi, .ref qx, .int mpr, .int mgn, .ref qg, .int mli, .ref ql, .long ma, .long mb, .long mc]))])) (va_Qv (fun (u : Int64 × Int64 × Int64) => u = out) (fun (u : Int64 × Int64 × Int64) t => match u with | (u_ma, u_mb, u_mc) => va_P (dC, dI) vwCl [(qh, .inr (3, [.int mco, .long md, .long mw, .int mfo, .ref qf, .ref qm, .ref qk, .int mmy, .ref qn, .ref qo, .ref qi, .ref qx, .int mpr, .int mgn, .ref qg, .int mli, .ref ql, .long u_ma, .long u_mb, .long u_mc]))] t.heap ∧ va_K (dC, dI) vwCl [] t ∧ va_D (va_A [(qh, .inr (3, [.int mco, .long md, .long mw, .int mfo, .ref qf, .ref qm, .ref qk, .int mmy, .ref qn, .ref qo, .ref qi, .ref qx, .int mpr, .int mgn, .ref qg, .int mli, .ref ql, .long ma, .long mb, .long mc]))] sz) [(qh, .inr (3, [.int mco, .long md, .long mw, .int mfo, .ref qf, .ref qm, .ref qk, .int mmy, .ref qn, .ref qo, .ref qi, .ref qx, .int mpr, .int mgn, .ref qg, .int mli, .ref ql, .long u_ma, .long u_mb, .long u_mc]))]) (va_A [(qh, .inr (3, [.int mco, .long md, .long mw, .int mfo, .ref qf, .ref qm, .ref qk, .int mmy, .ref qn, .ref qo, .ref qi, .ref qx, .int mpr, .int mgn, .ref qg, .int mli, .ref ql, .long ma, .long mb, .long mc]))] sz)) 0 0 (va_A [(qh, .inr (3, [.int mco, .long md, .long mw, .int mfo, .ref qf, .ref qm, .ref qk, .int mmy, .ref qn, .ref qo, .ref qi, .ref qx, .int mpr, .int mgn, .ref qg, .int mli, .ref ql, .long ma, .long mb, .long mc]))] sz) := by
  refine Met.ofW (cc := cX3_be) (maxL := 5) (ret := none) (by decide +kernel) rfl ?_
  intro p e s m args below meth c s₁ B hml hv
  obtain ⟨rfl, hsz, hP, hK, hD0⟩ := hv
  have hx := B.exec
  have hb := B.bytes
  have hr := B.returns
  have hts := atoms_spec (ws := wsX3_be) B.pre
  have hown : s.vm.findClass "ClassGroupModel" = some m.cls := findClass_of_methodNamed B.named
  have hlocks := B.notSynchronized
  subst hsz
  have hD := hD0.self (sz := s.heap.size)
  generalize hAe : va_A [(qh, .inr (3, [.int mco, .long md, .long mw, .int mfo, .ref qf, .ref qm, .ref qk, .int mmy, .ref qn, .ref qo, .ref qi, .ref qx, .int mpr, .int mgn, .ref qg, .int mli, .ref ql, .long ma, .long mb, .long mc]))] s.heap.size = A at hD ⊢
  have hA : ∀ q : Nat, s.heap.size ≤ q → A q := fun q h => by rw [← hAe]; exact Or.inr h
  have hS : va_S A s.heap s.heap [] := va_S.rf
  have hl := lv_entry ([.ref qh, .long x1, .long x3]) (n := 5) (Nat.le_of_ble_eq_true rfl)
  rw [lg_entry_eq]
  generalize (lg_sl ([.ref qh, .long x1, .long x3]) ++ List.replicate (5 - (lg_sl ([.ref qh, .long x1, .long x3])).length) Slot.unset).toArray = ls at hl ⊢
  have hl : lv_has ls 5 [(0, .ref qh), (1, .long x1), (3, .long x3)] := hl
  unfold f_m_be at hf
  refine lv_aload_n hx hb dX3_be_0 rfl (lv_at hl 0 rfl) ?_
  refine lv_lload_n hx hb dX3_be_1 rfl (lv_at hl 1 rfl) ?_
  refine va_put (D := (dC, dI)) (ci := 3) (v := .long x1) (ty := .long) (C := "ClassGroupModel") (T := TX3) (N := 20) hx hb hts (fun w h => List.mem_cons_of_mem _ (iwX3 w h)) tyX3 tyokX3 nmX3 hown hK hP hD hS 0 rfl rfl 17 (by decide) (hts _ (List.mem_cons_of_mem _ kw_524)) (fun _ h9 => h9) rfl (by decide +kernel) rfl rfl (Nat.le_of_ble_eq_true rfl) dX3_be_2 (fun H locs hP hD hS => ?_)
  have hP : va_P (dC, dI) vwCl [(qh, .inr (3, [.int mco, .long md, .long mw, .int mfo, .ref qf, .ref qm, .ref qk, .int mmy, .ref qn, .ref qo, .ref qi, .ref qx, .int mpr, .int mgn, .ref qg, .int mli, .ref ql, .long x1, .long mb, .long mc]))] H := hP
  have hD : va_D A [(qh, .inr (3, [.int mco, .long md, .long mw, .int mfo, .ref qf, .ref qm, .ref qk, .int mmy, .ref qn, .ref qo, .ref qi, .ref qx, .int mpr, .int mgn, .ref qg, .int mli, .ref ql, .long x1, .long mb, .long mc]))] := hD
  refine lv_aload_n hx hb dX3_be_5 rfl (lv_at hl 0 rfl) ?_
  refine lv_lload_n hx hb dX3_be_6 rfl (lv_at hl 2 rfl) ?_
  refine va_put (D := (dC, dI)) (ci := 3) (v := .long x3) (ty := .long) (C := "ClassGroupModel") (T := TX3) (N := 20) hx hb hts (fun w h => List.mem_cons_of_mem _ (iwX3 w h)) tyX3 tyokX3 nmX3 hown hK hP hD hS 0 rfl rfl 18 (by decide) (hts _ (List.mem_cons_of_mem _ kw_525)) (fun _ h9 => h9) rfl (by decide +kernel) rfl rfl (Nat.le_of_ble_eq_true rfl) dX3_be_7 (fun H locs hP hD hS => ?_)
  have hP : va_P (dC, dI) vwCl [(qh, .inr (3, [.int mco, .long md, .long mw, .int mfo, .ref qf, .ref qm, .ref qk, .int mmy, .ref qn, .ref qo, .ref qi, .ref qx, .int mpr, .int mgn, .ref qg, .int mli, .ref ql, .long x1, .long x3, .long mc]))] H := hP
  have hD : va_D A [(qh, .inr (3, [.int mco, .long md, .long mw, .int mfo, .ref qf, .ref qm, .ref qk, .int mmy, .ref qn, .ref qo, .ref qi, .ref qx, .int mpr, .int mgn, .ref qg, .int mli, .ref ql, .long x1, .long x3, .long mc]))] := hD
  refine lv_aload_n hx hb dX3_be_10 rfl (lv_at hl 0 rfl) ?_
  refine lv_lload_n hx hb dX3_be_11 rfl (lv_at hl 2 rfl) ?_
  refine lv_lload_n hx hb dX3_be_12 rfl (lv_at hl 2 rfl) ?_
  refine lv_lmul hx hb dX3_be_13 ?_
  refine lv_aload_n hx hb dX3_be_14 rfl (lv_at hl 0 rfl) ?_
  refine va_get (D := (dC, dI)) (ci := 3) (v := .long md) (C := "ClassGroupModel") (T := TX3) (N := 20) hx hb hts (fun w h => List.mem_cons_of_mem _ (iwX3 w h)) hown hK hP 0 rfl rfl 1 (by decide) (hts _ (List.mem_cons_of_mem _ kw_508)) (fun _ h9 => h9) rfl dX3_be_15 ?_
  refine lv_lsub hx hb dX3_be_18 ?_
  refine lv_ldc2 (v := 4) hx hb hown (hts _ (List.mem_cons_of_mem _ kw_451)) dX3_be_19 ?_
  refine lv_lload_n hx hb dX3_be_22 rfl (lv_at hl 1 rfl) ?_
  refine lv_lmul hx hb dX3_be_23 ?_
  obtain ⟨g_24, hf⟩ := ok_g hf
  refine lv_ldiv hx hb dX3_be_24 g_24 ?_
  refine lv_topl (fun f_c_1 ef_c_1 => ?_)
  replace hf := bnd_ok ef_c_1 hf
  refine va_put (D := (dC, dI)) (ci := 3) (v := .long f_c_1) (ty := .long) (C := "ClassGroupModel") (T := TX3) (N := 20) hx hb hts (fun w h => List.mem_cons_of_mem _ (iwX3 w h)) tyX3 tyokX3 nmX3 hown hK hP hD hS 0 rfl rfl 19 (by decide) (hts _ (List.mem_cons_of_mem _ kw_526)) (fun _ h9 => h9) rfl (by decide +kernel) rfl rfl (Nat.le_of_ble_eq_true rfl) dX3_be_25 (fun H locs hP hD hS => ?_)
  have hP : va_P (dC, dI) vwCl [(qh, .inr (3, [.int mco, .long md, .long mw, .int mfo, .ref qf, .ref qm, .ref qk, .int mmy, .ref qn, .ref qo, .ref qi, .ref qx, .int mpr, .int mgn, .ref qg, .int mli, .ref ql, .long x1, .long x3, .long f_c_1]))] H := hP
  have hD : va_D A [(qh, .inr (3, [.int mco, .long md, .long mw, .int mfo, .ref qf, .ref qm, .ref qk, .int mmy, .ref qn, .ref qo, .ref qi, .ref qx, .int mpr, .int mgn, .ref qg, .int mli, .ref ql, .long x1, .long x3, .long f_c_1]))] := hD
  have hP9 := hP.sub (ws' := [(qh, .inr (3, [.int mco, .long md, .long mw, .int mfo, .ref qf, .ref qm, .ref qk, .int mmy, .ref qn, .ref qo, .ref qi, .ref qx, .int mpr, .int mgn, .ref qg, .int mli, .ref ql, .long x1, .long x3, .long f_c_1]))]) [0] rfl
  have hD9 := hD.sub (ws' := [(qh, .inr (3, [.int mco, .long md, .long mw, .int mfo, .ref qf, .ref qm, .ref qk, .int mmy, .ref qn, .ref qo, .ref qi, .ref qx, .int mpr, .int mgn, .ref qg, .int mli, .ref ql, .long x1, .long x3, .long f_c_1]))]) [0] (by decide) rfl
  have hK9 := hK.sub (tys' := []) [] rfl
  exact W.vret hx hb hr (fun t ht hW => ⟨⟨(x1, x3, f_c_1), rfl, (Option.some.inj hf), by rw [ht]; exact hP9, va_K.moved hW.alike hK9, hD9⟩, hS.F ht⟩) hS.2.2 dX3_be_28

def f_m_isRed (F : Nat) (md : Int64) (mw : Int64) (ma : Int64) (mb : Int64) (mc : Int64) : Option (Int32) := (if (0 : Int32) ≤ (lg_cmp md 0) then (if (lg_cmp mb 1) < 0 then some 0 else (if (0 : Int32) < (lg_cmp mb mw) then some 0 else Option.bind (f_m_size F ma) (fun r_1 => (if (lg_cmp ((2 * r_1) + mb) mw) ≤ 0 then some 0 else Option.bind (f_m_size F ma) (fun r_2 => (if (0 : Int32) < (lg_cmp ((2 * r_2) - mb) mw) then some 0 else some 1)))))) else Option.bind (f_m_size F mb) (fun r_3 => (if (0 : Int32) < (lg_cmp r_3 ma) then some 0 else (if (0 : Int32) < (lg_cmp ma mc) then some 0 else (if (0 : Int32) ≤ (lg_cmp mb 0) then some 1 else (if (0 : Int32) ≤ (lg_cmp (-mb) ma) then some 0 else (if (0 : Int32) ≤ (lg_cmp ma mc) then some 0 else some 1)))))))
set_option maxHeartbeats 4000000 in
set_option maxRecDepth 100000 in
theorem c_m_isRed (l : Launch) (dC : Nat → ClassId) (dI : Nat → Nat → Nat) (qh : Nat) (mco : Int32) (md : Int64) (mw : Int64) (mfo : Int32) (qf : Nat) (qm : Nat) (qk : Nat) (mmy : Int32) (qn : Nat) (qo : Nat) (qi : Nat) (qx : Nat) (mpr : Int32) (mgn : Int32) (qg : Nat) (mli : Int32) (ql : Nat) (ma : Int64) (mb : Int64) (mc : Int64) (sz : Nat) (F : Nat) (out : Int32) (hf : f_m_isRed F md mw ma mb mc = some out) : Met l yX3_isReduced wsX3_isReduced ({ frames := 1, cells := 0, slots := 0, locals := 21 }) (va_Pc [.ref qh] (fun U => U.heap.size = sz ∧ va_P (dC, dI) vwCl [(qh, .inr (3, [.int mco, .long md, .long mw, .int mfo, .ref qf, .ref qm, .ref qk, .int mmy, .ref qn, .ref qo, .ref qi, .ref qx, .int mpr, .int mgn, .ref qg, .int mli, .ref ql, .long ma, .long mb, .long mc]))] U.heap ∧ va_K (dC, dI) vwCl [] U ∧ va_D (fun _ => True) [(qh, .inr (3, [.int mco, .long md, .long mw, .int mfo, .ref qf, .ref qm, .ref qk, .int mmy, .ref qn, .ref qo, .ref qi, .ref qx, .int mpr, .int mgn, .ref qg, .int mli, .ref ql, .long ma, .long mb, .long mc]))])) (va_Qi (fun (r : Int32) (u : Unit) => r = out) (fun (u : Unit) t => match u with | _ => va_P (dC, dI) vwCl [(qh, .inr (3, [.int mco, .long md, .long mw, .int mfo, .ref qf, .ref qm, .ref qk, .int mmy, .ref qn, .ref qo, .ref qi, .ref qx, .int mpr, .int mgn, .ref qg, .int mli, .ref ql, .long ma, .long mb, .long mc]))] t.heap ∧ va_K (dC, dI) vwCl [] t ∧ va_D (va_A [(qh, .inr (3, [.int mco, .long md, .long mw, .int mfo, .ref qf, .ref qm, .ref qk, .int mmy, .ref qn, .ref qo, .ref qi, .ref qx, .int mpr, .int mgn, .ref qg, .int mli, .ref ql, .long ma, .long mb, .long mc]))] sz) [(qh, .inr (3, [.int mco, .long md, .long mw, .int mfo, .ref qf, .ref qm, .ref qk, .int mmy, .ref qn, .ref qo, .ref qi, .ref qx, .int mpr, .int mgn, .ref qg, .int mli, .ref ql, .long ma, .long mb, .long mc]))]) (va_A [(qh, .inr (3, [.int mco, .long md, .long mw, .int mfo, .ref qf, .ref qm, .ref qk, .int mmy, .ref qn, .ref qo, .ref qi, .ref qx, .int mpr, .int mgn, .ref qg, .int mli, .ref ql, .long ma, .long mb, .long mc]))] sz)) 0 0 (va_A [(qh, .inr (3, [.int mco, .long md, .long mw, .int mfo, .ref qf, .ref qm, .ref qk, .int mmy, .ref qn, .ref qo, .ref qi, .ref qx, .int mpr, .int mgn, .ref qg, .int mli, .ref ql, .long ma, .long mb, .long mc]))] sz) := by
  refine Met.ofW (cc := cX3_isReduced) (maxL := 1) (ret := (some .boolean)) (by decide +kernel) rfl ?_
  intro p e s m args below meth c s₁ B hml hv
  obtain ⟨rfl, hsz, hP, hK, hD0⟩ := hv
  have hx := B.exec
  have hb := B.bytes
  have hr := B.returns
  have hts := atoms_spec (ws := wsX3_isReduced) B.pre
  have hown : s.vm.findClass "ClassGroupModel" = some m.cls := findClass_of_methodNamed B.named
  have hlocks := B.notSynchronized
  subst hsz
  have hD := hD0.self (sz := s.heap.size)
  generalize hAe : va_A [(qh, .inr (3, [.int mco, .long md, .long mw, .int mfo, .ref qf, .ref qm, .ref qk, .int mmy, .ref qn, .ref qo, .ref qi, .ref qx, .int mpr, .int mgn, .ref qg, .int mli, .ref ql, .long ma, .long mb, .long mc]))] s.heap.size = A at hD ⊢
  have hA : ∀ q : Nat, s.heap.size ≤ q → A q := fun q h => by rw [← hAe]; exact Or.inr h
  have hS : va_S A s.heap s.heap [] := va_S.rf
  have hl := lv_entry ([.ref qh]) (n := 1) (Nat.le_of_ble_eq_true rfl)
  rw [lg_entry_eq]
  generalize (lg_sl ([.ref qh]) ++ List.replicate (1 - (lg_sl ([.ref qh])).length) Slot.unset).toArray = ls at hl ⊢
  have hl : lv_has ls 1 [(0, .ref qh)] := hl
  unfold f_m_isRed at hf
  refine lv_aload_n hx hb dX3_isReduced_0 rfl (lv_at hl 0 rfl) ?_
  refine va_get (D := (dC, dI)) (ci := 3) (v := .long md) (C := "ClassGroupModel") (T := TX3) (N := 20) hx hb hts (fun w h => List.mem_cons_of_mem _ (iwX3 w h)) hown hK hP 0 rfl rfl 1 (by decide) (hts _ (List.mem_cons_of_mem _ kw_508)) (fun _ h9 => h9) rfl dX3_isReduced_1 ?_
  refine lv_lconst (v := 0) hx hb dX3_isReduced_4 (by decide) ?_
  refine W.lcmp hx hb dX3_isReduced_5 ?_
  refine lv_if_ge (tgt := 76) hx hb dX3_isReduced_6 (by decide) (fun c_6 => ?_) (fun c_6 => ?_)
  · have hf := ok_t c_6 hf
    refine lv_aload_n hx hb dX3_isReduced_76 rfl (lv_at hl 0 rfl) ?_
    refine va_get (D := (dC, dI)) (ci := 3) (v := .long mb) (C := "ClassGroupModel") (T := TX3) (N := 20) hx hb hts (fun w h => List.mem_cons_of_mem _ (iwX3 w h)) hown hK hP 0 rfl rfl 18 (by decide) (hts _ (List.mem_cons_of_mem _ kw_525)) (fun _ h9 => h9) rfl dX3_isReduced_77 ?_
    refine lv_lconst (v := 1) hx hb dX3_isReduced_80 (by decide) ?_
    refine W.lcmp hx hb dX3_isReduced_81 ?_
    refine lv_if_lt (tgt := 149) hx hb dX3_isReduced_82 (by decide) (fun c_82 => ?_) (fun c_82 => ?_)
    · have hf := ok_t c_82 hf
      refine lv_iconst (v := 0) hx hb dX3_isReduced_149 (by decide) ?_
      have hP9 := hP.sub (ws' := [(qh, .inr (3, [.int mco, .long md, .long mw, .int mfo, .ref qf, .ref qm, .ref qk, .int mmy, .ref qn, .ref qo, .ref qi, .ref qx, .int mpr, .int mgn, .ref qg, .int mli, .ref ql, .long ma, .long mb, .long mc]))]) [0] rfl
      have hD9 := hD.sub (ws' := [(qh, .inr (3, [.int mco, .long md, .long mw, .int mfo, .ref qf, .ref qm, .ref qk, .int mmy, .ref qn, .ref qo, .ref qi, .ref qx, .int mpr, .int mgn, .ref qg, .int mli, .ref ql, .long ma, .long mb, .long mc]))]) [0] (by decide) rfl
      have hK9 := hK.sub (tys' := []) [] rfl
      exact W.zret (v := 0) (ty := .boolean) hx hb hr rfl (fun t ht hW => ⟨⟨0, (), rfl, (Option.some.inj hf), by rw [ht]; exact hP9, va_K.moved hW.alike hK9, hD9⟩, hS.F ht⟩) hS.2.2 dX3_isReduced_150
    · have hf := ok_f c_82 hf
      refine lv_aload_n hx hb dX3_isReduced_85 rfl (lv_at hl 0 rfl) ?_
      refine va_get (D := (dC, dI)) (ci := 3) (v := .long mb) (C := "ClassGroupModel") (T := TX3) (N := 20) hx hb hts (fun w h => List.mem_cons_of_mem _ (iwX3 w h)) hown hK hP 0 rfl rfl 18 (by decide) (hts _ (List.mem_cons_of_mem _ kw_525)) (fun _ h9 => h9) rfl dX3_isReduced_86 ?_
      refine lv_aload_n hx hb dX3_isReduced_89 rfl (lv_at hl 0 rfl) ?_
      refine va_get (D := (dC, dI)) (ci := 3) (v := .long mw) (C := "ClassGroupModel") (T := TX3) (N := 20) hx hb hts (fun w h => List.mem_cons_of_mem _ (iwX3 w h)) hown hK hP 0 rfl rfl 2 (by decide) (hts _ (List.mem_cons_of_mem _ kw_509)) (fun _ h9 => h9) rfl dX3_isReduced_90 ?_
      refine W.lcmp hx hb dX3_isReduced_93 ?_
      refine lv_if_gt (tgt := 149) hx hb dX3_isReduced_94 (by decide) (fun c_94 => ?_) (fun c_94 => ?_)
      · have hf := ok_t c_94 hf
        refine lv_iconst (v := 0) hx hb dX3_isReduced_149 (by decide) ?_
        have hP9 := hP.sub (ws' := [(qh, .inr (3, [.int mco, .long md, .long mw, .int mfo, .ref qf, .ref qm, .ref qk, .int mmy, .ref qn, .ref qo, .ref qi, .ref qx, .int mpr, .int mgn, .ref qg, .int mli, .ref ql, .long ma, .long mb, .long mc]))]) [0] rfl
        have hD9 := hD.sub (ws' := [(qh, .inr (3, [.int mco, .long md, .long mw, .int mfo, .ref qf, .ref qm, .ref qk, .int mmy, .ref qn, .ref qo, .ref qi, .ref qx, .int mpr, .int mgn, .ref qg, .int mli, .ref ql, .long ma, .long mb, .long mc]))]) [0] (by decide) rfl
        have hK9 := hK.sub (tys' := []) [] rfl
        exact W.zret (v := 0) (ty := .boolean) hx hb hr rfl (fun t ht hW => ⟨⟨0, (), rfl, (Option.some.inj hf), by rw [ht]; exact hP9, va_K.moved hW.alike hK9, hD9⟩, hS.F ht⟩) hS.2.2 dX3_isReduced_150
      · have hf := ok_f c_94 hf
        refine lv_ldc2 (v := 2) hx hb hown (hts _ (List.mem_cons_of_mem _ kw_463)) dX3_isReduced_97 ?_
        refine lv_aload_n hx hb dX3_isReduced_100 rfl (lv_at hl 0 rfl) ?_
        refine va_get (D := (dC, dI)) (ci := 3) (v := .long ma) (C := "ClassGroupModel") (T := TX3) (N := 20) hx hb hts (fun w h => List.mem_cons_of_mem _ (iwX3 w h)) hown hK hP 0 rfl rfl 17 (by decide) (hts _ (List.mem_cons_of_mem _ kw_524)) (fun _ h9 => h9) rfl dX3_isReduced_101 ?_
        obtain ⟨xc104, hc104, hf⟩ := ok_b hf
        have hPc := hP.sub (ws' := []) [] rfl
        have hDc := hD.sub (ws' := []) [] (by decide) rfl
        have hKc := hK.sub (tys' := []) [] rfl
        have hFc := va_free (wc := []) hD hS hA [] rfl
        refine va_calll (va_runS (As := [.long ma]) (rest := [.long 2]) ⟨hx, hb, hml, hown, hts⟩ (c_m_size l dC dI ma s.heap.size F xc104 hc104) (va_cwS 1 hts (gwS kw_460 kw_461 kw_5 kw_462) rfl rfl rfl (by decide +kernel) ⟨Nat.le_of_ble_eq_true rfl, Nat.le_of_ble_eq_true rfl⟩) ⟨fun a U g mk q => by obtain ⟨q0, q1, qP, qK, qD⟩ := q; exact ⟨q0, q1, qP, va_K.moved (u := U) (U := U.calling g mk a) (Vm.Alike.refl U.vm) qK, qD⟩, fun U hU hW => ⟨rfl, by rw [hU], by rw [hU]; exact hPc, va_K.moved hW.alike hKc, hDc.weaken (fun _ _ _ _ => trivial)⟩⟩ rfl rfl hl.1 rfl (lv_room (Nat.le_of_ble_eq_true rfl)) dX3_isReduced_104 ⟨Nat.zero_le _, Nat.zero_le _⟩) hS (fun q _ h => hFc q h) hFc (fun r_1 u t H1 locs ht hvm hw hB hz1 hk1 hS => ?_)
        obtain ⟨⟩ := u
        obtain ⟨hP1, hK1, hD1⟩ := hB
        rw [ht] at hP1
        subst hw
        obtain ⟨hP, hD⟩ := va_join (wr := [(qh, .inr (3, [.int mco, .long md, .long mw, .int mfo, .ref qf, .ref qm, .ref qk, .int mmy, .ref qn, .ref qo, .ref qi, .ref qx, .int mpr, .int mgn, .ref qg, .int mli, .ref ql, .long ma, .long mb, .long mc]))]) (w1 := []) hP hD [] [0] rfl rfl (by decide) (by decide) hk1 hFc hP1 hD1
        generalize H1 = H at hP hS ⊢
        have hP : va_P (dC, dI) vwCl [(qh, .inr (3, [.int mco, .long md, .long mw, .int mfo, .ref qf, .ref qm, .ref qk, .int mmy, .ref qn, .ref qo, .ref qi, .ref qx, .int mpr, .int mgn, .ref qg, .int mli, .ref ql, .long ma, .long mb, .long mc]))] H := hP
        have hD : va_D A [(qh, .inr (3, [.int mco, .long md, .long mw, .int mfo, .ref qf, .ref qm, .ref qk, .int mmy, .ref qn, .ref qo, .ref qi, .ref qx, .int mpr, .int mgn, .ref qg, .int mli, .ref ql, .long ma, .long mb, .long mc]))] := hD
        refine lv_lmul hx hb dX3_isReduced_107 ?_
        refine lv_aload_n hx hb dX3_isReduced_108 rfl (lv_at hl 0 rfl) ?_
        refine va_get (D := (dC, dI)) (ci := 3) (v := .long mb) (C := "ClassGroupModel") (T := TX3) (N := 20) hx hb hts (fun w h => List.mem_cons_of_mem _ (iwX3 w h)) hown hK hP 0 rfl rfl 18 (by decide) (hts _ (List.mem_cons_of_mem _ kw_525)) (fun _ h9 => h9) rfl dX3_isReduced_109 ?_
        refine lv_ladd hx hb dX3_isReduced_112 ?_
        refine lv_aload_n hx hb dX3_isReduced_113 rfl (lv_at hl 0 rfl) ?_
        refine va_get (D := (dC, dI)) (ci := 3) (v := .long mw) (C := "ClassGroupModel") (T := TX3) (N := 20) hx hb hts (fun w h => List.mem_cons_of_mem _ (iwX3 w h)) hown hK hP 0 rfl rfl 2 (by decide) (hts _ (List.mem_cons_of_mem _ kw_509)) (fun _ h9 => h9) rfl dX3_isReduced_114 ?_
        refine W.lcmp hx hb dX3_isReduced_117 ?_
        refine lv_if_le (tgt := 149) hx hb dX3_isReduced_118 (by decide) (fun c_118 => ?_) (fun c_118 => ?_)
        · have hf := ok_t c_118 hf
          refine lv_iconst (v := 0) hx hb dX3_isReduced_149 (by decide) ?_
          have hP9 := hP.sub (ws' := [(qh, .inr (3, [.int mco, .long md, .long mw, .int mfo, .ref qf, .ref qm, .ref qk, .int mmy, .ref qn, .ref qo, .ref qi, .ref qx, .int mpr, .int mgn, .ref qg, .int mli, .ref ql, .long ma, .long mb, .long mc]))]) [0] rfl
          have hD9 := hD.sub (ws' := [(qh, .inr (3, [.int mco, .long md, .long mw, .int mfo, .ref qf, .ref qm, .ref qk, .int mmy, .ref qn, .ref qo, .ref qi, .ref qx, .int mpr, .int mgn, .ref qg, .int mli, .ref ql, .long ma, .long mb, .long mc]))]) [0] (by decide) rfl
          have hK9 := hK.sub (tys' := []) [] rfl
          exact W.zret (v := 0) (ty := .boolean) hx hb hr rfl (fun t ht hW => ⟨⟨0, (), rfl, (Option.some.inj hf), by rw [ht]; exact hP9, va_K.moved hW.alike hK9, hD9⟩, hS.F ht⟩) hS.2.2 dX3_isReduced_150
        · have hf := ok_f c_118 hf
          refine lv_ldc2 (v := 2) hx hb hown (hts _ (List.mem_cons_of_mem _ kw_463)) dX3_isReduced_121 ?_
          refine lv_aload_n hx hb dX3_isReduced_124 rfl (lv_at hl 0 rfl) ?_
          refine va_get (D := (dC, dI)) (ci := 3) (v := .long ma) (C := "ClassGroupModel") (T := TX3) (N := 20) hx hb hts (fun w h => List.mem_cons_of_mem _ (iwX3 w h)) hown hK hP 0 rfl rfl 17 (by decide) (hts _ (List.mem_cons_of_mem _ kw_524)) (fun _ h9 => h9) rfl dX3_isReduced_125 ?_
          obtain ⟨xc128, hc128, hf⟩ := ok_b hf
          have hPc := hP.sub (ws' := []) [] rfl
          have hDc := hD.sub (ws' := []) [] (by decide) rfl
          have hKc := hK.sub (tys' := []) [] rfl
          have hFc := va_free (wc := []) hD hS hA [] rfl
          refine va_calll (va_runS (As := [.long ma]) (rest := [.long 2]) ⟨hx, hb, hml, hown, hts⟩ (c_m_size l dC dI ma H.size F xc128 hc128) (va_cwS 1 hts (gwS kw_460 kw_461 kw_5 kw_462) rfl rfl rfl (by decide +kernel) ⟨Nat.le_of_ble_eq_true rfl, Nat.le_of_ble_eq_true rfl⟩) ⟨fun a U g mk q => by obtain ⟨q0, q1, qP, qK, qD⟩ := q; exact ⟨q0, q1, qP, va_K.moved (u := U) (U := U.calling g mk a) (Vm.Alike.refl U.vm) qK, qD⟩, fun U hU hW => ⟨rfl, by rw [hU], by rw [hU]; exact hPc, va_K.moved hW.alike hKc, hDc.weaken (fun _ _ _ _ => trivial)⟩⟩ rfl rfl hl.1 rfl (lv_room (Nat.le_of_ble_eq_true rfl)) dX3_isReduced_128 ⟨Nat.zero_le _, Nat.zero_le _⟩) hS (fun q _ h => hFc q h) hFc (fun r_2 u t H1 locs ht hvm hw hB hz1 hk1 hS => ?_)
          obtain ⟨⟩ := u
          obtain ⟨hP1, hK1, hD1⟩ := hB
          rw [ht] at hP1
          subst hw
          obtain ⟨hP, hD⟩ := va_join (wr := [(qh, .inr (3, [.int mco, .long md, .long mw, .int mfo, .ref qf, .ref qm, .ref qk, .int mmy, .ref qn, .ref qo, .ref qi, .ref qx, .int mpr, .int mgn, .ref qg, .int mli, .ref ql, .long ma, .long mb, .long mc]))]) (w1 := []) hP hD [] [0] rfl rfl (by decide) (by decide) hk1 hFc hP1 hD1
          generalize H1 = H at hP hS ⊢
          have hP : va_P (dC, dI) vwCl [(qh, .inr (3, [.int mco, .long md, .long mw, .int mfo, .ref qf, .ref qm, .ref qk, .int mmy, .ref qn, .ref qo, .ref qi, .ref qx, .int mpr, .int mgn, .ref qg, .int mli, .ref ql, .long ma, .long mb, .long mc]))] H := hP
          have hD : va_D A [(qh, .inr (3, [.int mco, .long md, .long mw, .int mfo, .ref qf, .ref qm, .ref qk, .int mmy, .ref qn, .ref qo, .ref qi, .ref qx, .int mpr, .int mgn, .ref qg, .int mli, .ref ql, .long ma, .long mb, .long mc]))] := hD
          refine lv_lmul hx hb dX3_isReduced_131 ?_
          refine lv_aload_n hx hb dX3_isReduced_132 rfl (lv_at hl 0 rfl) ?_
          refine va_get (D := (dC, dI)) (ci := 3) (v := .long mb) (C := "ClassGroupModel") (T := TX3) (N := 20) hx hb hts (fun w h => List.mem_cons_of_mem _ (iwX3 w h)) hown hK hP 0 rfl rfl 18 (by decide) (hts _ (List.mem_cons_of_mem _ kw_525)) (fun _ h9 => h9) rfl dX3_isReduced_133 ?_
          refine lv_lsub hx hb dX3_isReduced_136 ?_
          refine lv_aload_n hx hb dX3_isReduced_137 rfl (lv_at hl 0 rfl) ?_
          refine va_get (D := (dC, dI)) (ci := 3) (v := .long mw) (C := "ClassGroupModel") (T := TX3) (N := 20) hx hb hts (fun w h => List.mem_cons_of_mem _ (iwX3 w h)) hown hK hP 0 rfl rfl 2 (by decide) (hts _ (List.mem_cons_of_mem _ kw_509)) (fun _ h9 => h9) rfl dX3_isReduced_138 ?_
          refine W.lcmp hx hb dX3_isReduced_141 ?_
          refine lv_if_gt (tgt := 149) hx hb dX3_isReduced_142 (by decide) (fun c_142 => ?_) (fun c_142 => ?_)
          · have hf := ok_t c_142 hf
            refine lv_iconst (v := 0) hx hb dX3_isReduced_149 (by decide) ?_
            have hP9 := hP.sub (ws' := [(qh, .inr (3, [.int mco, .long md, .long mw, .int mfo, .ref qf, .ref qm, .ref qk, .int mmy, .ref qn, .ref qo, .ref qi, .ref qx, .int mpr, .int mgn, .ref qg, .int mli, .ref ql, .long ma, .long mb, .long mc]))]) [0] rfl
            have hD9 := hD.sub (ws' := [(qh, .inr (3, [.int mco, .long md, .long mw, .int mfo, .ref qf, .ref qm, .ref qk, .int mmy, .ref qn, .ref qo, .ref qi, .ref qx, .int mpr, .int mgn, .ref qg, .int mli, .ref ql, .long ma, .long mb, .long mc]))]) [0] (by decide) rfl
            have hK9 := hK.sub (tys' := []) [] rfl
            exact W.zret (v := 0) (ty := .boolean) hx hb hr rfl (fun t ht hW => ⟨⟨0, (), rfl, (Option.some.inj hf), by rw [ht]; exact hP9, va_K.moved hW.alike hK9, hD9⟩, hS.F ht⟩) hS.2.2 dX3_isReduced_150
          · have hf := ok_f c_142 hf
            refine lv_iconst (v := 1) hx hb dX3_isReduced_145 (by decide) ?_
            refine lv_goto (tgt := 150) hx hb dX3_isReduced_146 (by decide) ?_
            have hP9 := hP.sub (ws' := [(qh, .inr (3, [.int mco, .long md, .long mw, .int mfo, .ref qf, .ref qm, .ref qk, .int mmy, .ref qn, .ref qo, .ref qi, .ref qx, .int mpr, .int mgn, .ref qg, .int mli, .ref ql, .long ma, .long mb, .long mc]))]) [0] rfl
            have hD9 := hD.sub (ws' := [(qh, .inr (3, [.int mco, .long md, .long mw, .int mfo, .ref qf, .ref qm, .ref qk, .int mmy, .ref qn, .ref qo, .ref qi, .ref qx, .int mpr, .int mgn, .ref qg, .int mli, .ref ql, .long ma, .long mb, .long mc]))]) [0] (by decide) rfl
            have hK9 := hK.sub (tys' := []) [] rfl
            exact W.zret (v := 1) (ty := .boolean) hx hb hr rfl (fun t ht hW => ⟨⟨1, (), rfl, (Option.some.inj hf), by rw [ht]; exact hP9, va_K.moved hW.alike hK9, hD9⟩, hS.F ht⟩) hS.2.2 dX3_isReduced_150
  · have hf := ok_f c_6 hf
    refine lv_aload_n hx hb dX3_isReduced_9 rfl (lv_at hl 0 rfl) ?_
    refine va_get (D := (dC, dI)) (ci := 3) (v := .long mb) (C := "ClassGroupModel") (T := TX3) (N := 20) hx hb hts (fun w h => List.mem_cons_of_mem _ (iwX3 w h)) hown hK hP 0 rfl rfl 18 (by decide) (hts _ (List.mem_cons_of_mem _ kw_525)) (fun _ h9 => h9) rfl dX3_isReduced_10 ?_
    obtain ⟨xc13, hc13, hf⟩ := ok_b hf
    have hPc := hP.sub (ws' := []) [] rfl
    have hDc := hD.sub (ws' := []) [] (by decide) rfl
    have hKc := hK.sub (tys' := []) [] rfl
    have hFc := va_free (wc := []) hD hS hA [] rfl
    refine va_calll (va_runS (As := [.long mb]) (rest := []) ⟨hx, hb, hml, hown, hts⟩ (c_m_size l dC dI mb s.heap.size F xc13 hc13) (va_cwS 1 hts (gwS kw_460 kw_461 kw_5 kw_462) rfl rfl rfl (by decide +kernel) ⟨Nat.le_of_ble_eq_true rfl, Nat.le_of_ble_eq_true rfl⟩) ⟨fun a U g mk q => by obtain ⟨q0, q1, qP, qK, qD⟩ := q; exact ⟨q0, q1, qP, va_K.moved (u := U) (U := U.calling g mk a) (Vm.Alike.refl U.vm) qK, qD⟩, fun U hU hW => ⟨rfl, by rw [hU], by rw [hU]; exact hPc, va_K.moved hW.alike hKc, hDc.weaken (fun _ _ _ _ => trivial)⟩⟩ rfl rfl hl.1 rfl (lv_room (Nat.le_of_ble_eq_true rfl)) dX3_isReduced_13 ⟨Nat.zero_le _, Nat.zero_le _⟩) hS (fun q _ h => hFc q h) hFc (fun r_3 u t H1 locs ht hvm hw hB hz1 hk1 hS => ?_)
    obtain ⟨⟩ := u
    obtain ⟨hP1, hK1, hD1⟩ := hB
    rw [ht] at hP1
    subst hw
    obtain ⟨hP, hD⟩ := va_join (wr := [(qh, .inr (3, [.int mco, .long md, .long mw, .int mfo, .ref qf, .ref qm, .ref qk, .int mmy, .ref qn, .ref qo, .ref qi, .ref qx, .int mpr, .int mgn, .ref qg, .int mli, .ref ql, .long ma, .long mb, .long mc]))]) (w1 := []) hP hD [] [0] rfl rfl (by decide) (by decide) hk1 hFc hP1 hD1
    generalize H1 = H at hP hS ⊢
    have hP : va_P (dC, dI) vwCl [(qh, .inr (3, [.int mco, .long md, .long mw, .int mfo, .ref qf, .ref qm, .ref qk, .int mmy, .ref qn, .ref qo, .ref qi, .ref qx, .int mpr, .int mgn, .ref qg, .int mli, .ref ql, .long ma, .long mb, .long mc]))] H := hP
    have hD : va_D A [(qh, .inr (3, [.int mco, .long md, .long mw, .int mfo, .ref qf, .ref qm, .ref qk, .int mmy, .ref qn, .ref qo, .ref qi, .ref qx, .int mpr, .int mgn, .ref qg, .int mli, .ref ql, .long ma, .long mb, .long mc]))] := hD
    refine lv_aload_n hx hb dX3_isReduced_16 rfl (lv_at hl 0 rfl) ?_
    refine va_get (D := (dC, dI)) (ci := 3) (v := .long ma) (C := "ClassGroupModel") (T := TX3) (N := 20) hx hb hts (fun w h => List.mem_cons_of_mem _ (iwX3 w h)) hown hK hP 0 rfl rfl 17 (by decide) (hts _ (List.mem_cons_of_mem _ kw_524)) (fun _ h9 => h9) rfl dX3_isReduced_17 ?_
    refine W.lcmp hx hb dX3_isReduced_20 ?_
    refine lv_if_gt (tgt := 74) hx hb dX3_isReduced_21 (by decide) (fun c_21 => ?_) (fun c_21 => ?_)
    · have hf := ok_t c_21 hf
      refine lv_iconst (v := 0) hx hb dX3_isReduced_74 (by decide) ?_
      have hP9 := hP.sub (ws' := [(qh, .inr (3, [.int mco, .long md, .long mw, .int mfo, .ref qf, .ref qm, .ref qk, .int mmy, .ref qn, .ref qo, .ref qi, .ref qx, .int mpr, .int mgn, .ref qg, .int mli, .ref ql, .long ma, .long mb, .long mc]))]) [0] rfl
      have hD9 := hD.sub (ws' := [(qh, .inr (3, [.int mco, .long md, .long mw, .int mfo, .ref qf, .ref qm, .ref qk, .int mmy, .ref qn, .ref qo, .ref qi, .ref qx, .int mpr, .int mgn, .ref qg, .int mli, .ref ql, .long ma, .long mb, .long mc]))]) [0] (by decide) rfl
      have hK9 := hK.sub (tys' := []) [] rfl
      exact W.zret (v := 0) (ty := .boolean) hx hb hr rfl (fun t ht hW => ⟨⟨0, (), rfl, (Option.some.inj hf), by rw [ht]; exact hP9, va_K.moved hW.alike hK9, hD9⟩, hS.F ht⟩) hS.2.2 dX3_isReduced_75
    · have hf := ok_f c_21 hf
      refine lv_aload_n hx hb dX3_isReduced_24 rfl (lv_at hl 0 rfl) ?_
      refine va_get (D := (dC, dI)) (ci := 3) (v := .long ma) (C := "ClassGroupModel") (T := TX3) (N := 20) hx hb hts (fun w h => List.mem_cons_of_mem _ (iwX3 w h)) hown hK hP 0 rfl rfl 17 (by decide) (hts _ (List.mem_cons_of_mem _ kw_524)) (fun _ h9 => h9) rfl dX3_isReduced_25 ?_
      refine lv_aload_n hx hb dX3_isReduced_28 rfl (lv_at hl 0 rfl) ?_
      refine va_get (D := (dC, dI)) (ci := 3) (v := .long mc) (C := "ClassGroupModel") (T := TX3) (N := 20) hx hb hts (fun w h => List.mem_cons_of_mem _ (iwX3 w h)) hown hK hP 0 rfl rfl 19 (by decide) (hts _ (List.mem_cons_of_mem _ kw_526)) (fun _ h9 => h9) rfl dX3_isReduced_29 ?_
      refine W.lcmp hx hb dX3_isReduced_32 ?_
      refine lv_if_gt (tgt := 74) hx hb dX3_isReduced_33 (by decide) (fun c_33 => ?_) (fun c_33 => ?_)
      · have hf := ok_t c_33 hf
        refine lv_iconst (v := 0) hx hb dX3_isReduced_74 (by decide) ?_
        have hP9 := hP.sub (ws' := [(qh, .inr (3, [.int mco, .long md, .long mw, .int mfo, .ref qf, .ref qm, .ref qk, .int mmy, .ref qn, .ref qo, .ref qi, .ref qx, .int mpr, .int mgn, .ref qg, .int mli, .ref ql, .long ma, .long mb, .long mc]))]) [0] rfl
        have hD9 := hD.sub (ws' := [(qh, .inr (3, [.int mco, .long md, .long mw, .int mfo, .ref qf, .ref qm, .ref qk, .int mmy, .ref qn, .ref qo, .ref qi, .ref qx, .int mpr, .int mgn, .ref qg, .int mli, .ref ql, .long ma, .long mb, .long mc]))]) [0] (by decide) rfl
        have hK9 := hK.sub (tys' := []) [] rfl
        exact W.zret (v := 0) (ty := .boolean) hx hb hr rfl (fun t ht hW => ⟨⟨0, (), rfl, (Option.some.inj hf), by rw [ht]; exact hP9, va_K.moved hW.alike hK9, hD9⟩, hS.F ht⟩) hS.2.2 dX3_isReduced_75
      · have hf := ok_f c_33 hf
        refine lv_aload_n hx hb dX3_isReduced_36 rfl (lv_at hl 0 rfl) ?_
        refine va_get (D := (dC, dI)) (ci := 3) (v := .long mb) (C := "ClassGroupModel") (T := TX3) (N := 20) hx hb hts (fun w h => List.mem_cons_of_mem _ (iwX3 w h)) hown hK hP 0 rfl rfl 18 (by decide) (hts _ (List.mem_cons_of_mem _ kw_525)) (fun _ h9 => h9) rfl dX3_isReduced_37 ?_
        refine lv_lconst (v := 0) hx hb dX3_isReduced_40 (by decide) ?_
        refine W.lcmp hx hb dX3_isReduced_41 ?_
        refine lv_if_ge (tgt := 70) hx hb dX3_isReduced_42 (by decide) (fun c_42 => ?_) (fun c_42 => ?_)
        · have hf := ok_t c_42 hf
          refine lv_iconst (v := 1) hx hb dX3_isReduced_70 (by decide) ?_
          refine lv_goto (tgt := 75) hx hb dX3_isReduced_71 (by decide) ?_
          have hP9 := hP.sub (ws' := [(qh, .inr (3, [.int mco, .long md, .long mw, .int mfo, .ref qf, .ref qm, .ref qk, .int mmy, .ref qn, .ref qo, .ref qi, .ref qx, .int mpr, .int mgn, .ref qg, .int mli, .ref ql, .long ma, .long mb, .long mc]))]) [0] rfl
          have hD9 := hD.sub (ws' := [(qh, .inr (3, [.int mco, .long md, .long mw, .int mfo, .ref qf, .ref qm, .ref qk, .int mmy, .ref qn, .ref qo, .ref qi, .ref qx, .int mpr, .int mgn, .ref qg, .int mli, .ref ql, .long ma, .long mb, .long mc]))]) [0] (by decide) rfl
          have hK9 := hK.sub (tys' := []) [] rfl
          exact W.zret (v := 1) (ty := .boolean) hx hb hr rfl (fun t ht hW => ⟨⟨1, (), rfl, (Option.some.inj hf), by rw [ht]; exact hP9, va_K.moved hW.alike hK9, hD9⟩, hS.F ht⟩) hS.2.2 dX3_isReduced_75
        · have hf := ok_f c_42 hf
          refine lv_aload_n hx hb dX3_isReduced_45 rfl (lv_at hl 0 rfl) ?_
          refine va_get (D := (dC, dI)) (ci := 3) (v := .long mb) (C := "ClassGroupModel") (T := TX3) (N := 20) hx hb hts (fun w h => List.mem_cons_of_mem _ (iwX3 w h)) hown hK hP 0 rfl rfl 18 (by decide) (hts _ (List.mem_cons_of_mem _ kw_525)) (fun _ h9 => h9) rfl dX3_isReduced_46 ?_
          refine lv_lneg hx hb dX3_isReduced_49 ?_
          refine lv_aload_n hx hb dX3_isReduced_50 rfl (lv_at hl 0 rfl) ?_
          refine va_get (D := (dC, dI)) (ci := 3) (v := .long ma) (C := "ClassGroupModel") (T := TX3) (N := 20) hx hb hts (fun w h => List.mem_cons_of_mem _ (iwX3 w h)) hown hK hP 0 rfl rfl 17 (by decide) (hts _ (List.mem_cons_of_mem _ kw_524)) (fun _ h9 => h9) rfl dX3_isReduced_51 ?_
          refine W.lcmp hx hb dX3_isReduced_54 ?_
          refine lv_if_ge (tgt := 74) hx hb dX3_isReduced_55 (by decide) (fun c_55 => ?_) (fun c_55 => ?_)
          · have hf := ok_t c_55 hf
            refine lv_iconst (v := 0) hx hb dX3_isReduced_74 (by decide) ?_
            have hP9 := hP.sub (ws' := [(qh, .inr (3, [.int mco, .long md, .long mw, .int mfo, .ref qf, .ref qm, .ref qk, .int mmy, .ref qn, .ref qo, .ref qi, .ref qx, .int mpr, .int mgn, .ref qg, .int mli, .ref ql, .long ma, .long mb, .long mc]))]) [0] rfl
            have hD9 := hD.sub (ws' := [(qh, .inr (3, [.int mco, .long md, .long mw, .int mfo, .ref qf, .ref qm, .ref qk, .int mmy, .ref qn, .ref qo, .ref qi, .ref qx, .int mpr, .int mgn, .ref qg, .int mli, .ref ql, .long ma, .long mb, .long mc]))]) [0] (by decide) rfl
            have hK9 := hK.sub (tys' := []) [] rfl
            exact W.zret (v := 0) (ty := .boolean) hx hb hr rfl (fun t ht hW => ⟨⟨0, (), rfl, (Option.some.inj hf), by rw [ht]; exact hP9, va_K.moved hW.alike hK9, hD9⟩, hS.F ht⟩) hS.2.2 dX3_isReduced_75
          · have hf := ok_f c_55 hf
            refine lv_aload_n hx hb dX3_isReduced_58 rfl (lv_at hl 0 rfl) ?_
            refine va_get (D := (dC, dI)) (ci := 3) (v := .long ma) (C := "ClassGroupModel") (T := TX3) (N := 20) hx hb hts (fun w h => List.mem_cons_of_mem _ (iwX3 w h)) hown hK hP 0 rfl rfl 17 (by decide) (hts _ (List.mem_cons_of_mem _ kw_524)) (fun _ h9 => h9) rfl dX3_isReduced_59 ?_
            refine lv_aload_n hx hb dX3_isReduced_62 rfl (lv_at hl 0 rfl) ?_
            refine va_get (D := (dC, dI)) (ci := 3) (v := .long mc) (C := "ClassGroupModel") (T := TX3) (N := 20) hx hb hts (fun w h => List.mem_cons_of_mem _ (iwX3 w h)) hown hK hP 0 rfl rfl 19 (by decide) (hts _ (List.mem_cons_of_mem _ kw_526)) (fun _ h9 => h9) rfl dX3_isReduced_63 ?_
            refine W.lcmp hx hb dX3_isReduced_66 ?_
            refine lv_if_ge (tgt := 74) hx hb dX3_isReduced_67 (by decide) (fun c_67 => ?_) (fun c_67 => ?_)
            · have hf := ok_t c_67 hf
              refine lv_iconst (v := 0) hx hb dX3_isReduced_74 (by decide) ?_
              have hP9 := hP.sub (ws' := [(qh, .inr (3, [.int mco, .long md, .long mw, .int mfo, .ref qf, .ref qm, .ref qk, .int mmy, .ref qn, .ref qo, .ref qi, .ref qx, .int mpr, .int mgn, .ref qg, .int mli, .ref ql, .long ma, .long mb, .long mc]))]) [0] rfl
              have hD9 := hD.sub (ws' := [(qh, .inr (3, [.int mco, .long md, .long mw, .int mfo, .ref qf, .ref qm, .ref qk, .int mmy, .ref qn, .ref qo, .ref qi, .ref qx, .int mpr, .int mgn, .ref qg, .int mli, .ref ql, .long ma, .long mb, .long mc]))]) [0] (by decide) rfl
              have hK9 := hK.sub (tys' := []) [] rfl
              exact W.zret (v := 0) (ty := .boolean) hx hb hr rfl (fun t ht hW => ⟨⟨0, (), rfl, (Option.some.inj hf), by rw [ht]; exact hP9, va_K.moved hW.alike hK9, hD9⟩, hS.F ht⟩) hS.2.2 dX3_isReduced_75
            · have hf := ok_f c_67 hf
              refine lv_iconst (v := 1) hx hb dX3_isReduced_70 (by decide) ?_
              refine lv_goto (tgt := 75) hx hb dX3_isReduced_71 (by decide) ?_
              have hP9 := hP.sub (ws' := [(qh, .inr (3, [.int mco, .long md, .long mw, .int mfo, .ref qf, .ref qm, .ref qk, .int mmy, .ref qn, .ref qo, .ref qi, .ref qx, .int mpr, .int mgn, .ref qg, .int mli, .ref ql, .long ma, .long mb, .long mc]))]) [0] rfl
              have hD9 := hD.sub (ws' := [(qh, .inr (3, [.int mco, .long md, .long mw, .int mfo, .ref qf, .ref qm, .ref qk, .int mmy, .ref qn, .ref qo, .ref qi, .ref qx, .int mpr, .int mgn, .ref qg, .int mli, .ref ql, .long ma, .long mb, .long mc]))]) [0] (by decide) rfl
              have hK9 := hK.sub (tys' := []) [] rfl
              exact W.zret (v := 1) (ty := .boolean) hx hb hr rfl (fun t ht hW => ⟨⟨1, (), rfl, (Option.some.inj hf), by rw [ht]; exact hP9, va_K.moved hW.alike hK9, hD9⟩, hS.F ht⟩) hS.2.2 dX3_isReduced_75

def f_m_step (F : Nat) (md : Int64) (mw : Int64) (ma : Int64) (mb : Int64) (mc : Int64) : Option (Int64 × Int64 × Int64) := Option.bind (f_m_size F mc) (fun r_1 => bnd (2 * r_1) (fun v1_2 => bnd (fun (t_3 : Int64) => ((if ¬ v1_2 = 0 then bnd ((t_3 + mb) - (t_3 + mb) / v1_2 * v1_2) (fun v5_4 => bnd (fun (j5_5 : Int64) => (Option.bind (f_m_be F md mc (t_3 - j5_5)) (fun (u_ma_6, u_mb_7, u_mc_8) => some (u_ma_6, u_mb_7, u_mc_8)) : Option (Int64 × Int64 × Int64))) (fun kJ74 => (if (0 : Int32) ≤ (lg_cmp v5_4 0) then kJ74 v5_4 else bnd (v5_4 + v1_2) (fun v5_9 => kJ74 v5_9)))) else none) : Option (Int64 × Int64 × Int64))) (fun kJ50 => (if (lg_cmp md 0) < 0 then Option.bind (f_m_size F mc) (fun r_10 => kJ50 r_10) else Option.bind (f_m_size F mc) (fun r_11 => (if (lg_cmp r_11 mw) ≤ 0 then kJ50 mw else Option.bind (f_m_size F mc) (fun r_12 => kJ50 r_12)))))))
set_option maxHeartbeats 4000000 in
set_option maxRecDepth 100000 in
theorem c_m_step (l : Launch) (dC : Nat → ClassId) (dI : Nat → Nat → Nat) (qh : Nat) (mco : Int32) (md : Int64) (mw : Int64) (mfo : Int32) (qf : Nat) (qm : Nat) (qk : Nat) (mmy : Int32) (qn : Nat) (qo : Nat) (qi : Nat) (qx : Nat) (mpr : Int32) (mgn : Int32) (qg : Nat) (mli : Int32) (ql : Nat) (ma : Int64) (mb : Int64) (mc : Int64) (sz : Nat) (F : Nat) (out : Int64 × Int64 × Int64) (hf : f_m_step F md mw ma mb mc = some out) : Met l yX3_step wsX3_step ({ frames := 1, cells := 0, slots := 0, locals := 24 }) (va_Pc [.ref qh] (fun U => U.heap.size = sz ∧ va_P (dC, dI) vwCl [(qh, .inr (3, [.int mco, .long md, .long mw, .int mfo, .ref qf, .ref qm, .ref qk, .int mmy, .ref qn, .ref qo, .ref qi, .ref qx, .int mpr, .int mgn, .ref qg, .int mli, .ref ql, .long ma, .long mb, .long mc]))] U.heap ∧ va_K (dC, dI) vwCl [] U ∧ va_D (fun _ => True) [(qh, .inr (3, [.int mco, .long md, .long mw, .int mfo, .ref qf, .ref qm, .ref qk, .int mmy, .ref qn, .ref qo, .ref qi, .ref qx, .int mpr, .int mgn, .ref qg, .int mli, .ref ql, .long ma, .long mb, .long mc]))])) (va_Qv (fun (u : Int64 × Int64 × Int64) => u = out) (fun (u : Int64 × Int64 × Int64) t => match u with | (u_ma, u_mb, u_mc) => va_P (dC, dI) vwCl [(qh, .inr (3, [.int mco, .long md, .long mw, .int mfo, .ref qf, .ref qm, .ref qk, .int mmy, .ref qn, .ref qo, .ref qi, .ref qx, .int mpr, .int mgn, .ref qg, .int mli, .ref ql, .long u_ma, .long u_mb, .long u_mc]))] t.heap ∧ va_K (dC, dI) vwCl [] t ∧ va_D (va_A [(qh, .inr (3, [.int mco, .long md, .long mw, .int mfo, .ref qf, .ref qm, .ref qk, .int mmy, .ref qn, .ref qo, .ref qi, .ref qx, .int mpr, .int mgn, .ref qg, .int mli, .ref ql, .long ma, .long mb, .long mc]))] sz) [(qh, .inr (3, [.int mco, .long md, .long mw, .int mfo, .ref qf, .ref qm, .ref qk, .int mmy, .ref qn, .ref qo, .ref qi, .ref qx, .int mpr, .int mgn, .ref qg, .int mli, .ref ql, .long u_ma, .long u_mb, .long u_mc]))]) (va_A [(qh, .inr (3, [.int mco, .long md, .long mw, .int mfo, .ref qf, .ref qm, .ref qk, .int mmy, .ref qn, .ref qo, .ref qi, .ref qx, .int mpr, .int mgn, .ref qg, .int mli, .ref ql, .long ma, .long mb, .long mc]))] sz)) 0 0 (va_A [(qh, .inr (3, [.int mco, .long md, .long mw, .int mfo, .ref qf, .ref qm, .ref qk, .int mmy, .ref qn, .ref qo, .ref qi, .ref qx, .int mpr, .int mgn, .ref qg, .int mli, .ref ql, .long ma, .long mb, .long mc]))] sz) := by
  refine Met.ofW (cc := cX3_step) (maxL := 7) (ret := none) (by decide +kernel) rfl ?_
  intro p e s m args below meth c s₁ B hml hv
  obtain ⟨rfl, hsz, hP, hK, hD0⟩ := hv
  have hx := B.exec
  have hb := B.bytes
  have hr := B.returns
  have hts := atoms_spec (ws := wsX3_step) B.pre
  have hown : s.vm.findClass "ClassGroupModel" = some m.cls := findClass_of_methodNamed B.named
  have hlocks := B.notSynchronized
  subst hsz
  have hD := hD0.self (sz := s.heap.size)
  generalize hAe : va_A [(qh, .inr (3, [.int mco, .long md, .long mw, .int mfo, .ref qf, .ref qm, .ref qk, .int mmy, .ref qn, .ref qo, .ref qi, .ref qx, .int mpr, .int mgn, .ref qg, .int mli, .ref ql, .long ma, .long mb, .long mc]))] s.heap.size = A at hD ⊢
  have hA : ∀ q : Nat, s.heap.size ≤ q → A q := fun q h => by rw [← hAe]; exact Or.inr h
  have hS : va_S A s.heap s.heap [] := va_S.rf
  have hl := lv_entry ([.ref qh]) (n := 7) (Nat.le_of_ble_eq_true rfl)
  rw [lg_entry_eq]
  generalize (lg_sl ([.ref qh]) ++ List.replicate (7 - (lg_sl ([.ref qh])).length) Slot.unset).toArray = ls at hl ⊢
  have hl : lv_has ls 7 [(0, .ref qh)] := hl
  unfold f_m_step at hf
  refine lv_ldc2 (v := 2) hx hb hown (hts _ (List.mem_cons_of_mem _ kw_463)) dX3_step_0 ?_
  refine lv_aload_n hx hb dX3_step_3 rfl (lv_at hl 0 rfl) ?_
  refine va_get (D := (dC, dI)) (ci := 3) (v := .long mc) (C := "ClassGroupModel") (T := TX3) (N := 20) hx hb hts (fun w h => List.mem_cons_of_mem _ (iwX3 w h)) hown hK hP 0 rfl rfl 19 (by decide) (hts _ (List.mem_cons_of_mem _ kw_526)) (fun _ h9 => h9) rfl dX3_step_4 ?_
  obtain ⟨xc7, hc7, hf⟩ := ok_b hf
  have hPc := hP.sub (ws' := []) [] rfl
  have hDc := hD.sub (ws' := []) [] (by decide) rfl
  have hKc := hK.sub (tys' := []) [] rfl
  have hFc := va_free (wc := []) hD hS hA [] rfl
  refine va_calll (va_runS (As := [.long mc]) (rest := [.long 2]) ⟨hx, hb, hml, hown, hts⟩ (c_m_size l dC dI mc s.heap.size F xc7 hc7) (va_cwS 1 hts (gwS kw_460 kw_461 kw_5 kw_462) rfl rfl rfl (by decide +kernel) ⟨Nat.le_of_ble_eq_true rfl, Nat.le_of_ble_eq_true rfl⟩) ⟨fun a U g mk q => by obtain ⟨q0, q1, qP, qK, qD⟩ := q; exact ⟨q0, q1, qP, va_K.moved (u := U) (U := U.calling g mk a) (Vm.Alike.refl U.vm) qK, qD⟩, fun U hU hW => ⟨rfl, by rw [hU], by rw [hU]; exact hPc, va_K.moved hW.alike hKc, hDc.weaken (fun _ _ _ _ => trivial)⟩⟩ rfl rfl hl.1 rfl (lv_room (Nat.le_of_ble_eq_true rfl)) dX3_step_7 ⟨Nat.zero_le _, Nat.zero_le _⟩) hS (fun q _ h => hFc q h) hFc (fun r_1 u t H1 locs ht hvm hw hB hz1 hk1 hS => ?_)
  obtain ⟨⟩ := u
  obtain ⟨hP1, hK1, hD1⟩ := hB
  rw [ht] at hP1
  subst hw
  obtain ⟨hP, hD⟩ := va_join (wr := [(qh, .inr (3, [.int mco, .long md, .long mw, .int mfo, .ref qf, .ref qm, .ref qk, .int mmy, .ref qn, .ref qo, .ref qi, .ref qx, .int mpr, .int mgn, .ref qg, .int mli, .ref ql, .long ma, .long mb, .long mc]))]) (w1 := []) hP hD [] [0] rfl rfl (by decide) (by decide) hk1 hFc hP1 hD1
  generalize H1 = H at hP hS ⊢
  have hP : va_P (dC, dI) vwCl [(qh, .inr (3, [.int mco, .long md, .long mw, .int mfo, .ref qf, .ref qm, .ref qk, .int mmy, .ref qn, .ref qo, .ref qi, .ref qx, .int mpr, .int mgn, .ref qg, .int mli, .ref ql, .long ma, .long mb, .long mc]))] H := hP
  have hD : va_D A [(qh, .inr (3, [.int mco, .long md, .long mw, .int mfo, .ref qf, .ref qm, .ref qk, .int mmy, .ref qn, .ref qo, .ref qi, .ref qx, .int mpr, .int mgn, .ref qg, .int mli, .ref ql, .long ma, .long mb, .long mc]))] := hD
  refine lv_lmul hx hb dX3_step_10 ?_
  refine lv_topl (fun v1_2 ev1_2 => ?_)
  replace hf := bnd_ok ev1_2 hf
  refine lv_lstore_n (lv' := [(1, .long v1_2), (0, .ref qh)]) hx hb dX3_step_11 rfl hl (by decide) rfl (fun ls hl => ?_)
  refine lv_aload_n hx hb dX3_step_12 rfl (lv_at hl 1 rfl) ?_
  refine va_get (D := (dC, dI)) (ci := 3) (v := .long md) (C := "ClassGroupModel") (T := TX3) (N := 20) hx hb hts (fun w h => List.mem_cons_of_mem _ (iwX3 w h)) hown hK hP 0 rfl rfl 1 (by decide) (hts _ (List.mem_cons_of_mem _ kw_508)) (fun _ h9 => h9) rfl dX3_step_13 ?_
  refine lv_lconst (v := 0) hx hb dX3_step_16 (by decide) ?_
  refine W.lcmp hx hb dX3_step_17 ?_
  obtain ⟨kJ50, ekJ50, hf⟩ := bnd_ex hf
  have hJ50 : ∀ (t_3 : Int64) (H : Heap) (locs : List Loc) (ls : Array Slot), kJ50 t_3 = some out → va_P (dC, dI) vwCl [(qh, .inr (3, [.int mco, .long md, .long mw, .int mfo, .ref qf, .ref qm, .ref qk, .int mmy, .ref qn, .ref qo, .ref qi, .ref qx, .int mpr, .int mgn, .ref qg, .int mli, .ref ql, .long ma, .long mb, .long mc]))] H → va_D A [(qh, .inr (3, [.int mco, .long md, .long mw, .int mfo, .ref qf, .ref qm, .ref qk, .int mmy, .ref qn, .ref qo, .ref qi, .ref qx, .int mpr, .int mgn, .ref qg, .int mli, .ref ql, .long ma, .long mb, .long mc]))] → va_S A s.heap H locs → lv_has ls 7 [(0, .ref qh), (1, .long v1_2)] → W p l e ((headSpec wsX3_step ({ frames := 1, cells := 0, slots := 0, locals := 24 })).room) s m ([.ref qh] : List Value).toArray below meth c H locs 0 0 (MQ below (va_Qv (fun (u : Int64 × Int64 × Int64) => u = out) (fun (u : Int64 × Int64 × Int64) t => match u with | (u_ma, u_mb, u_mc) => va_P (dC, dI) vwCl [(qh, .inr (3, [.int mco, .long md, .long mw, .int mfo, .ref qf, .ref qm, .ref qk, .int mmy, .ref qn, .ref qo, .ref qi, .ref qx, .int mpr, .int mgn, .ref qg, .int mli, .ref ql, .long u_ma, .long u_mb, .long u_mc]))] t.heap ∧ va_K (dC, dI) vwCl [] t ∧ va_D A [(qh, .inr (3, [.int mco, .long md, .long mw, .int mfo, .ref qf, .ref qm, .ref qk, .int mmy, .ref qn, .ref qo, .ref qi, .ref qx, .int mpr, .int mgn, .ref qg, .int mli, .ref ql, .long u_ma, .long u_mb, .long u_mc]))]) A) ([.ref qh] : List Value).toArray s 0 0 A) (F0 m 50 ls [.long t_3]) := by
    intro t_3 H locs ls hf hP hD hS hl
    rw [ekJ50] at hf
    refine lv_lstore_n (lv' := [(3, .long t_3), (0, .ref qh), (1, .long v1_2)]) hx hb dX3_step_50 rfl hl (by decide) rfl (fun ls hl => ?_)
    refine lv_lload_n hx hb dX3_step_51 rfl (lv_at hl 0 rfl) ?_
    refine lv_aload_n hx hb dX3_step_52 rfl (lv_at hl 1 rfl) ?_
    refine va_get (D := (dC, dI)) (ci := 3) (v := .long mb) (C := "ClassGroupModel") (T := TX3) (N := 20) hx hb hts (fun w h => List.mem_cons_of_mem _ (iwX3 w h)) hown hK hP 0 rfl rfl 18 (by decide) (hts _ (List.mem_cons_of_mem _ kw_525)) (fun _ h9 => h9) rfl dX3_step_53 ?_
    refine lv_ladd hx hb dX3_step_56 ?_
    refine lv_lload_n hx hb dX3_step_57 rfl (lv_at hl 2 rfl) ?_
    obtain ⟨g_58, hf⟩ := ok_g hf
    refine lv_lrem hx hb dX3_step_58 g_58 ?_
    refine lv_topl (fun v5_4 ev5_4 => ?_)
    replace hf := bnd_ok ev5_4 hf
    refine lv_lstore (lv' := [(5, .long v5_4), (3, .long t_3), (0, .ref qh), (1, .long v1_2)]) hx hb dX3_step_59 hl (by decide) rfl (fun ls hl => ?_)
    refine lv_lload hx hb dX3_step_61 (lv_at hl 0 rfl) ?_
    refine lv_lconst (v := 0) hx hb dX3_step_63 (by decide) ?_
    refine W.lcmp hx hb dX3_step_64 ?_
    obtain ⟨kJ74, ekJ74, hf⟩ := bnd_ex hf
    have hJ74 : ∀ (j5_5 : Int64) (H : Heap) (locs : List Loc) (ls : Array Slot), kJ74 j5_5 = some out → va_P (dC, dI) vwCl [(qh, .inr (3, [.int mco, .long md, .long mw, .int mfo, .ref qf, .ref qm, .ref qk, .int mmy, .ref qn, .ref qo, .ref qi, .ref qx, .int mpr, .int mgn, .ref qg, .int mli, .ref ql, .long ma, .long mb, .long mc]))] H → va_D A [(qh, .inr (3, [.int mco, .long md, .long mw, .int mfo, .ref qf, .ref qm, .ref qk, .int mmy, .ref qn, .ref qo, .ref qi, .ref qx, .int mpr, .int mgn, .ref qg, .int mli, .ref ql, .long ma, .long mb, .long mc]))] → va_S A s.heap H locs → lv_has ls 7 [(0, .ref qh), (3, .long t_3), (5, .long j5_5)] → W p l e ((headSpec wsX3_step ({ frames := 1, cells := 0, slots := 0, locals := 24 })).room) s m ([.ref qh] : List Value).toArray below meth c H locs 0 0 (MQ below (va_Qv (fun (u : Int64 × Int64 × Int64) => u = out) (fun (u : Int64 × Int64 × Int64) t => match u with | (u_ma, u_mb, u_mc) => va_P (dC, dI) vwCl [(qh, .inr (3, [.int mco, .long md, .long mw, .int mfo, .ref qf, .ref qm, .ref qk, .int mmy, .ref qn, .ref qo, .ref qi, .ref qx, .int mpr, .int mgn, .ref qg, .int mli, .ref ql, .long u_ma, .long u_mb, .long u_mc]))] t.heap ∧ va_K (dC, dI) vwCl [] t ∧ va_D A [(qh, .inr (3, [.int mco, .long md, .long mw, .int mfo, .ref qf, .ref qm, .ref qk, .int mmy, .ref qn, .ref qo, .ref qi, .ref qx, .int mpr, .int mgn, .ref qg, .int mli, .ref ql, .long u_ma, .long u_mb, .long u_mc]))]) A) ([.ref qh] : List Value).toArray s 0 0 A) (F0 m 74 ls []) := by
      intro j5_5 H locs ls hf hP hD hS hl
      rw [ekJ74] at hf
      refine lv_aload_n hx hb dX3_step_74 rfl (lv_at hl 0 rfl) ?_
      refine lv_aload_n hx hb dX3_step_75 rfl (lv_at hl 0 rfl) ?_
      refine va_get (D := (dC, dI)) (ci := 3) (v := .long mc) (C := "ClassGroupModel") (T := TX3) (N := 20) hx hb hts (fun w h => List.mem_cons_of_mem _ (iwX3 w h)) hown hK hP 0 rfl rfl 19 (by decide) (hts _ (List.mem_cons_of_mem _ kw_526)) (fun _ h9 => h9) rfl dX3_step_76 ?_
      refine lv_lload_n hx hb dX3_step_79 rfl (lv_at hl 1 rfl) ?_
      refine lv_lload hx hb dX3_step_80 (lv_at hl 2 rfl) ?_
      refine lv_lsub hx hb dX3_step_82 ?_
      obtain ⟨xc83, hc83, hf⟩ := ok_b hf
      have hPc := hP.sub (ws' := [(qh, .inr (3, [.int mco, .long md, .long mw, .int mfo, .ref qf, .ref qm, .ref qk, .int mmy, .ref qn, .ref qo, .ref qi, .ref qx, .int mpr, .int mgn, .ref qg, .int mli, .ref ql, .long ma, .long mb, .long mc]))]) [0] rfl
      have hDc := hD.sub (ws' := [(qh, .inr (3, [.int mco, .long md, .long mw, .int mfo, .ref qf, .ref qm, .ref qk, .int mmy, .ref qn, .ref qo, .ref qi, .ref qx, .int mpr, .int mgn, .ref qg, .int mli, .ref ql, .long ma, .long mb, .long mc]))]) [0] (by decide) rfl
      have hKc := hK.sub (tys' := []) [] rfl
      have hFc := va_free (wc := [(qh, .inr (3, [.int mco, .long md, .long mw, .int mfo, .ref qf, .ref qm, .ref qk, .int mmy, .ref qn, .ref qo, .ref qi, .ref qx, .int mpr, .int mgn, .ref qg, .int mli, .ref ql, .long ma, .long mb, .long mc]))]) hD hS hA [0] rfl
      refine va_callv (va_runV (As := [.long mc, .long (t_3 - j5_5)]) (rest := []) ⟨hx, hb, hml, hown, hts⟩ (c_m_be l dC dI qh mco md mw mfo qf qm qk mmy qn qo qi qx mpr mgn qg mli ql ma mb mc mc (t_3 - j5_5) H.size F xc83 hc83) (cwV 2 hts (gwV kw_452 kw_454 ks_29 kw_5 kw_455) rfl rfl rfl (by decide +kernel) ⟨Nat.le_of_ble_eq_true rfl, Nat.le_of_ble_eq_true rfl⟩) ⟨fun a U g mk q => by obtain ⟨q0, q1, qP, qK, qD⟩ := q; exact ⟨q0, q1, qP, va_K.moved (u := U) (U := U.calling g mk a) (Vm.Alike.refl U.vm) qK, qD⟩, va_recv hKc hPc (ci := 3) (q0 := 0) rfl rfl, fun U hU hW => ⟨rfl, by rw [hU], by rw [hU]; exact hPc, va_K.moved hW.alike hKc, hDc.weaken (fun _ _ _ _ => trivial)⟩⟩ rfl rfl hl.1 rfl (lv_room (Nat.le_of_ble_eq_true rfl)) dX3_step_83 ⟨Nat.zero_le _, Nat.zero_le _⟩) hS (fun q _ h => hFc q h) hFc (fun u t H1 locs ht hvm hw hB hz1 hk1 hS => ?_)
      obtain ⟨u_ma_6, u_mb_7, u_mc_8⟩ := u
      obtain ⟨hP1, hK1, hD1⟩ := hB
      rw [ht] at hP1
      subst hw
      obtain ⟨hP, hD⟩ := va_join (wr := []) (w1 := [(qh, .inr (3, [.int mco, .long md, .long mw, .int mfo, .ref qf, .ref qm, .ref qk, .int mmy, .ref qn, .ref qo, .ref qi, .ref qx, .int mpr, .int mgn, .ref qg, .int mli, .ref ql, .long u_ma_6, .long u_mb_7, .long u_mc_8]))]) hP hD [0] [] rfl rfl (by decide) (by decide) hk1 hFc hP1 hD1
      generalize H1 = H at hP hS ⊢
      have hP : va_P (dC, dI) vwCl [(qh, .inr (3, [.int mco, .long md, .long mw, .int mfo, .ref qf, .ref qm, .ref qk, .int mmy, .ref qn, .ref qo, .ref qi, .ref qx, .int mpr, .int mgn, .ref qg, .int mli, .ref ql, .long u_ma_6, .long u_mb_7, .long u_mc_8]))] H := hP
      have hD : va_D A [(qh, .inr (3, [.int mco, .long md, .long mw, .int mfo, .ref qf, .ref qm, .ref qk, .int mmy, .ref qn, .ref qo, .ref qi, .ref qx, .int mpr, .int mgn, .ref qg, .int mli, .ref ql, .long u_ma_6, .long u_mb_7, .long u_mc_8]))] := hD
      have hP9 := hP.sub (ws' := [(qh, .inr (3, [.int mco, .long md, .long mw, .int mfo, .ref qf, .ref qm, .ref qk, .int mmy, .ref qn, .ref qo, .ref qi, .ref qx, .int mpr, .int mgn, .ref qg, .int mli, .ref ql, .long u_ma_6, .long u_mb_7, .long u_mc_8]))]) [0] rfl
      have hD9 := hD.sub (ws' := [(qh, .inr (3, [.int mco, .long md, .long mw, .int mfo, .ref qf, .ref qm, .ref qk, .int mmy, .ref qn, .ref qo, .ref qi, .ref qx, .int mpr, .int mgn, .ref qg, .int mli, .ref ql, .long u_ma_6, .long u_mb_7, .long u_mc_8]))]) [0] (by decide) rfl
      have hK9 := hK.sub (tys' := []) [] rfl
      exact W.vret hx hb hr (fun t ht hW => ⟨⟨(u_ma_6, u_mb_7, u_mc_8), rfl, (Option.some.inj hf), by rw [ht]; exact hP9, va_K.moved hW.alike hK9, hD9⟩, hS.F ht⟩) hS.2.2 dX3_step_86
    refine lv_if_ge (tgt := 74) hx hb dX3_step_65 (by decide) (fun c_65 => ?_) (fun c_65 => ?_)
    · have hf := ok_t c_65 hf
      exact hJ74 v5_4 _ _ _ hf (hP.sub [0] rfl) (hD.sub [0] (by decide) rfl) hS (lv_sub hl [2, 1, 0] rfl)
    · have hf := ok_f c_65 hf
      refine lv_lload hx hb dX3_step_68 (lv_at hl 0 rfl) ?_
      refine lv_lload_n hx hb dX3_step_70 rfl (lv_at hl 3 rfl) ?_
      refine lv_ladd hx hb dX3_step_71 ?_
      refine lv_topl (fun v5_9 ev5_9 => ?_)
      replace hf := bnd_ok ev5_9 hf
      refine lv_lstore (lv' := [(5, .long v5_9), (3, .long t_3), (0, .ref qh), (1, .long v1_2)]) hx hb dX3_step_72 hl (by decide) rfl (fun ls hl => ?_)
      exact hJ74 v5_9 _ _ _ hf (hP.sub [0] rfl) (hD.sub [0] (by decide) rfl) hS (lv_sub hl [2, 1, 0] rfl)
  refine lv_if_lt (tgt := 36) hx hb dX3_step_18 (by decide) (fun c_18 => ?_) (fun c_18 => ?_)
  · have hf := ok_t c_18 hf
    refine lv_aload_n hx hb dX3_step_36 rfl (lv_at hl 1 rfl) ?_
    refine va_get (D := (dC, dI)) (ci := 3) (v := .long mc) (C := "ClassGroupModel") (T := TX3) (N := 20) hx hb hts (fun w h => List.mem_cons_of_mem _ (iwX3 w h)) hown hK hP 0 rfl rfl 19 (by decide) (hts _ (List.mem_cons_of_mem _ kw_526)) (fun _ h9 => h9) rfl dX3_step_37 ?_
    obtain ⟨xc40, hc40, hf⟩ := ok_b hf
    have hPc := hP.sub (ws' := []) [] rfl
    have hDc := hD.sub (ws' := []) [] (by decide) rfl
    have hKc := hK.sub (tys' := []) [] rfl
    have hFc := va_free (wc := []) hD hS hA [] rfl
    refine va_calll (va_runS (As := [.long mc]) (rest := []) ⟨hx, hb, hml, hown, hts⟩ (c_m_size l dC dI mc H.size F xc40 hc40) (va_cwS 1 hts (gwS kw_460 kw_461 kw_5 kw_462) rfl rfl rfl (by decide +kernel) ⟨Nat.le_of_ble_eq_true rfl, Nat.le_of_ble_eq_true rfl⟩) ⟨fun a U g mk q => by obtain ⟨q0, q1, qP, qK, qD⟩ := q; exact ⟨q0, q1, qP, va_K.moved (u := U) (U := U.calling g mk a) (Vm.Alike.refl U.vm) qK, qD⟩, fun U hU hW => ⟨rfl, by rw [hU], by rw [hU]; exact hPc, va_K.moved hW.alike hKc, hDc.weaken (fun _ _ _ _ => trivial)⟩⟩ rfl rfl hl.1 rfl (lv_room (Nat.le_of_ble_eq_true rfl)) dX3_step_40 ⟨Nat.zero_le _, Nat.zero_le _⟩) hS (fun q _ h => hFc q h) hFc (fun r_10 u t H1 locs ht hvm hw hB hz1 hk1 hS => ?_)
    obtain ⟨⟩ := u
    obtain ⟨hP1, hK1, hD1⟩ := hB
    rw [ht] at hP1
    subst hw
    obtain ⟨hP, hD⟩ := va_join (wr := [(qh, .inr (3, [.int mco, .long md, .long mw, .int mfo, .ref qf, .ref qm, .ref qk, .int mmy, .ref qn, .ref qo, .ref qi, .ref qx, .int mpr, .int mgn, .ref qg, .int mli, .ref ql, .long ma, .long mb, .long mc]))]) (w1 := []) hP hD [] [0] rfl rfl (by decide) (by decide) hk1 hFc hP1 hD1
    generalize H1 = H at hP hS ⊢
    have hP : va_P (dC, dI) vwCl [(qh, .inr (3, [.int mco, .long md, .long mw, .int mfo, .ref qf, .ref qm, .ref qk, .int mmy, .ref qn, .ref qo, .ref qi, .ref qx, .int mpr, .int mgn, .ref qg, .int mli, .ref ql, .long ma, .long mb, .long mc]))] H := hP
    have hD : va_D A [(qh, .inr (3, [.int mco, .long md, .long mw, .int mfo, .ref qf, .ref qm, .ref qk, .int mmy, .ref qn, .ref qo, .ref qi, .ref qx, .int mpr, .int mgn, .ref qg, .int mli, .ref ql, .long ma, .long mb, .long mc]))] := hD
    refine lv_goto (tgt := 50) hx hb dX3_step_43 (by decide) ?_
    exact hJ50 r_10 _ _ _ hf (hP.sub [0] rfl) (hD.sub [0] (by decide) rfl) hS (lv_sub hl [1, 0] rfl)
  · have hf := ok_f c_18 hf
    refine lv_aload_n hx hb dX3_step_21 rfl (lv_at hl 1 rfl) ?_
    refine va_get (D := (dC, dI)) (ci := 3) (v := .long mc) (C := "ClassGroupModel") (T := TX3) (N := 20) hx hb hts (fun w h => List.mem_cons_of_mem _ (iwX3 w h)) hown hK hP 0 rfl rfl 19 (by decide) (hts _ (List.mem_cons_of_mem _ kw_526)) (fun _ h9 => h9) rfl dX3_step_22 ?_
    obtain ⟨xc25, hc25, hf⟩ := ok_b hf
    have hPc := hP.sub (ws' := []) [] rfl
    have hDc := hD.sub (ws' := []) [] (by decide) rfl
    have hKc := hK.sub (tys' := []) [] rfl
    have hFc := va_free (wc := []) hD hS hA [] rfl
    refine va_calll (va_runS (As := [.long mc]) (rest := []) ⟨hx, hb, hml, hown, hts⟩ (c_m_size l dC dI mc H.size F xc25 hc25) (va_cwS 1 hts (gwS kw_460 kw_461 kw_5 kw_462) rfl rfl rfl (by decide +kernel) ⟨Nat.le_of_ble_eq_true rfl, Nat.le_of_ble_eq_true rfl⟩) ⟨fun a U g mk q => by obtain ⟨q0, q1, qP, qK, qD⟩ := q; exact ⟨q0, q1, qP, va_K.moved (u := U) (U := U.calling g mk a) (Vm.Alike.refl U.vm) qK, qD⟩, fun U hU hW => ⟨rfl, by rw [hU], by rw [hU]; exact hPc, va_K.moved hW.alike hKc, hDc.weaken (fun _ _ _ _ => trivial)⟩⟩ rfl rfl hl.1 rfl (lv_room (Nat.le_of_ble_eq_true rfl)) dX3_step_25 ⟨Nat.zero_le _, Nat.zero_le _⟩) hS (fun q _ h => hFc q h) hFc (fun r_11 u t H1 locs ht hvm hw hB hz1 hk1 hS => ?_)
    obtain ⟨⟩ := u
    obtain ⟨hP1, hK1, hD1⟩ := hB
    rw [ht] at hP1
    subst hw
    obtain ⟨hP, hD⟩ := va_join (wr := [(qh, .inr (3, [.int mco, .long md, .long mw, .int mfo, .ref qf, .ref qm, .ref qk, .int mmy, .ref qn, .ref qo, .ref qi, .ref qx, .int mpr, .int mgn, .ref qg, .int mli, .ref ql, .long ma, .long mb, .long mc]))]) (w1 := []) hP hD [] [0] rfl rfl (by decide) (by decide) hk1 hFc hP1 hD1
    generalize H1 = H at hP hS ⊢
    have hP : va_P (dC, dI) vwCl [(qh, .inr (3, [.int mco, .long md, .long mw, .int mfo, .ref qf, .ref qm, .ref qk, .int mmy, .ref qn, .ref qo, .ref qi, .ref qx, .int mpr, .int mgn, .ref qg, .int mli, .ref ql, .long ma, .long mb, .long mc]))] H := hP
    have hD : va_D A [(qh, .inr (3, [.int mco, .long md, .long mw, .int mfo, .ref qf, .ref qm, .ref qk, .int mmy, .ref qn, .ref qo, .ref qi, .ref qx, .int mpr, .int mgn, .ref qg, .int mli, .ref ql, .long ma, .long mb, .long mc]))] := hD
    refine lv_aload_n hx hb dX3_step_28 rfl (lv_at hl 1 rfl) ?_
    refine va_get (D := (dC, dI)) (ci := 3) (v := .long mw) (C := "ClassGroupModel") (T := TX3) (N := 20) hx hb hts (fun w h => List.mem_cons_of_mem _ (iwX3 w h)) hown hK hP 0 rfl rfl 2 (by decide) (hts _ (List.mem_cons_of_mem _ kw_509)) (fun _ h9 => h9) rfl dX3_step_29 ?_
    refine W.lcmp hx hb dX3_step_32 ?_
    refine lv_if_le (tgt := 46) hx hb dX3_step_33 (by decide) (fun c_33 => ?_) (fun c_33 => ?_)
    · have hf := ok_t c_33 hf
      refine lv_aload_n hx hb dX3_step_46 rfl (lv_at hl 1 rfl) ?_
      refine va_get (D := (dC, dI)) (ci := 3) (v := .long mw) (C := "ClassGroupModel") (T := TX3) (N := 20) hx hb hts (fun w h => List.mem_cons_of_mem _ (iwX3 w h)) hown hK hP 0 rfl rfl 2 (by decide) (hts _ (List.mem_cons_of_mem _ kw_509)) (fun _ h9 => h9) rfl dX3_step_47 ?_
      exact hJ50 mw _ _ _ hf (hP.sub [0] rfl) (hD.sub [0] (by decide) rfl) hS (lv_sub hl [1, 0] rfl)
    · have hf := ok_f c_33 hf
      refine lv_aload_n hx hb dX3_step_36 rfl (lv_at hl 1 rfl) ?_
      refine va_get (D := (dC, dI)) (ci := 3) (v := .long mc) (C := "ClassGroupModel") (T := TX3) (N := 20) hx hb hts (fun w h => List.mem_cons_of_mem _ (iwX3 w h)) hown hK hP 0 rfl rfl 19 (by decide) (hts _ (List.mem_cons_of_mem _ kw_526)) (fun _ h9 => h9) rfl dX3_step_37 ?_
      obtain ⟨xc40, hc40, hf⟩ := ok_b hf
      have hPc := hP.sub (ws' := []) [] rfl
      have hDc := hD.sub (ws' := []) [] (by decide) rfl
      have hKc := hK.sub (tys' := []) [] rfl
      have hFc := va_free (wc := []) hD hS hA [] rfl
      refine va_calll (va_runS (As := [.long mc]) (rest := []) ⟨hx, hb, hml, hown, hts⟩ (c_m_size l dC dI mc H.size F xc40 hc40) (va_cwS 1 hts (gwS kw_460 kw_461 kw_5 kw_462) rfl rfl rfl (by decide +kernel) ⟨Nat.le_of_ble_eq_true rfl, Nat.le_of_ble_eq_true rfl⟩) ⟨fun a U g mk q => by obtain ⟨q0, q1, qP, qK, qD⟩ := q; exact ⟨q0, q1, qP, va_K.moved (u := U) (U := U.calling g mk a) (Vm.Alike.refl U.vm) qK, qD⟩, fun U hU hW => ⟨rfl, by rw [hU], by rw [hU]; exact hPc, va_K.moved hW.alike hKc, hDc.weaken (fun _ _ _ _ => trivial)⟩⟩ rfl rfl hl.1 rfl (lv_room (Nat.le_of_ble_eq_true rfl)) dX3_step_40 ⟨Nat.zero_le _, Nat.zero_le _⟩) hS (fun q _ h => hFc q h) hFc (fun r_12 u t H1 locs ht hvm hw hB hz1 hk1 hS => ?_)
      obtain ⟨⟩ := u
      obtain ⟨hP1, hK1, hD1⟩ := hB
      rw [ht] at hP1
      subst hw
      obtain ⟨hP, hD⟩ := va_join (wr := [(qh, .inr (3, [.int mco, .long md, .long mw, .int mfo, .ref qf, .ref qm, .ref qk, .int mmy, .ref qn, .ref qo, .ref qi, .ref qx, .int mpr, .int mgn, .ref qg, .int mli, .ref ql, .long ma, .long mb, .long mc]))]) (w1 := []) hP hD [] [0] rfl rfl (by decide) (by decide) hk1 hFc hP1 hD1
      generalize H1 = H at hP hS ⊢
      have hP : va_P (dC, dI) vwCl [(qh, .inr (3, [.int mco, .long md, .long mw, .int mfo, .ref qf, .ref qm, .ref qk, .int mmy, .ref qn, .ref qo, .ref qi, .ref qx, .int mpr, .int mgn, .ref qg, .int mli, .ref ql, .long ma, .long mb, .long mc]))] H := hP
      have hD : va_D A [(qh, .inr (3, [.int mco, .long md, .long mw, .int mfo, .ref qf, .ref qm, .ref qk, .int mmy, .ref qn, .ref qo, .ref qi, .ref qx, .int mpr, .int mgn, .ref qg, .int mli, .ref ql, .long ma, .long mb, .long mc]))] := hD
      refine lv_goto (tgt := 50) hx hb dX3_step_43 (by decide) ?_
      exact hJ50 r_12 _ _ _ hf (hP.sub [0] rfl) (hD.sub [0] (by decide) rfl) hS (lv_sub hl [1, 0] rfl)

