def f_likeD (F : Nat) (dd : Int32) (x1 : Int32) : Option (Int32) := some (x1 + ((x1 ^^^ dd) &&& 1))
set_option maxHeartbeats 4000000 in
set_option maxRecDepth 100000 in
theorem c_likeD (l : Launch) (dC : Nat → ClassId) (dI : Nat → Nat → Nat) (ph : Nat) (dd : Int32) (rt : Int32) (cl : Int32) (rf : Int32) (pr : Int32) (pn : Nat) (gk : Int32) (go : Int32) (gc : Int32) (pg : Nat) (ps : Nat) (po : Nat) (pc : Nat) (pe : Nat) (p1 : Nat) (p2 : Nat) (pz : Nat) (x1 : Int32) (sz : Nat) (F : Nat) (out : Int32) (hf : f_likeD F dd x1 = some out) : Met l yX0_firstLikeD wsX0_firstLikeD ({ frames := 0, cells := 0, slots := 0, locals := 0 }) (va_Pc [.ref ph, .int x1] (fun U => U.heap.size = sz ∧ va_P (dC, dI) vwCl [(ph, .inr (0, [.int dd, .int rt, .int cl, .int rf, .int pr, .ref pn, .int gk, .int go, .int gc, .ref pg, .ref ps, .ref po, .ref pc, .ref pe, .ref p1, .ref p2, .ref pz]))] U.heap ∧ va_K (dC, dI) vwCl [] U ∧ va_D (fun _ => True) [(ph, .inr (0, [.int dd, .int rt, .int cl, .int rf, .int pr, .ref pn, .int gk, .int go, .int gc, .ref pg, .ref ps, .ref po, .ref pc, .ref pe, .ref p1, .ref p2, .ref pz]))])) (va_Qi (fun (r : Int32) (u : Unit) => r = out) (fun (u : Unit) t => match u with | _ => va_P (dC, dI) vwCl [(ph, .inr (0, [.int dd, .int rt, .int cl, .int rf, .int pr, .ref pn, .int gk, .int go, .int gc, .ref pg, .ref ps, .ref po, .ref pc, .ref pe, .ref p1, .ref p2, .ref pz]))] t.heap ∧ va_K (dC, dI) vwCl [] t ∧ va_D (va_A [(ph, .inr (0, [.int dd, .int rt, .int cl, .int rf, .int pr, .ref pn, .int gk, .int go, .int gc, .ref pg, .ref ps, .ref po, .ref pc, .ref pe, .ref p1, .ref p2, .ref pz]))] sz) [(ph, .inr (0, [.int dd, .int rt, .int cl, .int rf, .int pr, .ref pn, .int gk, .int go, .int gc, .ref pg, .ref ps, .ref po, .ref pc, .ref pe, .ref p1, .ref p2, .ref pz]))]) (va_A [(ph, .inr (0, [.int dd, .int rt, .int cl, .int rf, .int pr, .ref pn, .int gk, .int go, .int gc, .ref pg, .ref ps, .ref po, .ref pc, .ref pe, .ref p1, .ref p2, .ref pz]))] sz)) 0 0 (va_A [(ph, .inr (0, [.int dd, .int rt, .int cl, .int rf, .int pr, .ref pn, .int gk, .int go, .int gc, .ref pg, .ref ps, .ref po, .ref pc, .ref pe, .ref p1, .ref p2, .ref pz]))] sz) := by
  refine Met.ofW (cc := cX0_firstLikeD) (maxL := 2) (ret := (some .int)) (by decide +kernel) rfl ?_
  intro p e s m args below meth c s₁ B hml hv
  obtain ⟨rfl, hsz, hP, hK, hD0⟩ := hv
  have hx := B.exec
  have hb := B.bytes
  have hr := B.returns
  have hts := atoms_spec (ws := wsX0_firstLikeD) B.pre
  have hown : s.vm.findClass "ClassGroup" = some m.cls := findClass_of_methodNamed B.named
  have hlocks := B.notSynchronized
  subst hsz
  have hD := hD0.self (sz := s.heap.size)
  generalize hAe : va_A [(ph, .inr (0, [.int dd, .int rt, .int cl, .int rf, .int pr, .ref pn, .int gk, .int go, .int gc, .ref pg, .ref ps, .ref po, .ref pc, .ref pe, .ref p1, .ref p2, .ref pz]))] s.heap.size = A at hD ⊢
  have hA : ∀ q : Nat, s.heap.size ≤ q → A q := fun q h => by rw [← hAe]; exact Or.inr h
  have hS : va_S A s.heap s.heap [] := va_S.rf
  have hl := lv_entry ([.ref ph, .int x1]) (n := 2) (Nat.le_of_ble_eq_true rfl)
  rw [lg_entry_eq]
  generalize (lg_sl ([.ref ph, .int x1]) ++ List.replicate (2 - (lg_sl ([.ref ph, .int x1])).length) Slot.unset).toArray = ls at hl ⊢
  have hl : lv_has ls 2 [(0, .ref ph), (1, .int x1)] := hl
  unfold f_likeD at hf
  refine lv_iload_n hx hb dX0_firstLikeD_0 rfl (lv_at hl 1 rfl) ?_
  refine lv_iload_n hx hb dX0_firstLikeD_1 rfl (lv_at hl 1 rfl) ?_
  refine lv_aload_n hx hb dX0_firstLikeD_2 rfl (lv_at hl 0 rfl) ?_
  refine va_get (D := (dC, dI)) (ci := 0) (v := .int dd) (C := "ClassGroup") (T := TX0) (N := 17) hx hb hts (fun w h => List.mem_cons_of_mem _ (iwX0 w h)) hown hK hP 0 rfl rfl 0 (by decide) (hts _ (List.mem_cons_of_mem _ kw_150)) (fun _ h9 => h9) rfl dX0_firstLikeD_3 ?_
  refine lv_ixor hx hb dX0_firstLikeD_6 ?_
  refine lv_iconst (v := 1) hx hb dX0_firstLikeD_7 (by decide) ?_
  refine lv_iand hx hb dX0_firstLikeD_8 ?_
  refine lv_iadd hx hb dX0_firstLikeD_9 ?_
  have hP9 := hP.sub (ws' := [(ph, .inr (0, [.int dd, .int rt, .int cl, .int rf, .int pr, .ref pn, .int gk, .int go, .int gc, .ref pg, .ref ps, .ref po, .ref pc, .ref pe, .ref p1, .ref p2, .ref pz]))]) [0] rfl
  have hD9 := hD.sub (ws' := [(ph, .inr (0, [.int dd, .int rt, .int cl, .int rf, .int pr, .ref pn, .int gk, .int go, .int gc, .ref pg, .ref ps, .ref po, .ref pc, .ref pe, .ref p1, .ref p2, .ref pz]))]) [0] (by decide) rfl
  have hK9 := hK.sub (tys' := []) [] rfl
  exact W.iret (v := (x1 + ((x1 ^^^ dd) &&& 1))) hx hb hr (fun t ht hW => ⟨⟨(x1 + ((x1 ^^^ dd) &&& 1)), (), rfl, (Option.some.inj hf), by rw [ht]; exact hP9, va_K.moved hW.alike hK9, hD9⟩, hS.F ht⟩) hS.2.2 dX0_firstLikeD_10

def f_addName_L25 (F : Nat) (v3_1 : Int32) : Nat → Int32 → (Nat → Int32) → Option (Int32 × (Nat → Int32))
  | 0, _, _ => none
  | n25 + 1, w4_2, m_An_3 => (if w4_2 ≤ 0 then some (w4_2, m_An_3) else (if vin (w4_2 - 1) 1908 then (if (m_An_3 ((w4_2 - 1)).toNatClampNeg) ≤ v3_1 then some (w4_2, m_An_3) else (if vin (w4_2 - 1) 1908 then (if vin w4_2 1908 then bnd (upd m_An_3 (w4_2).toNatClampNeg (m_An_3 ((w4_2 - 1)).toNatClampNeg)) (fun A_4 => bnd (w4_2 + (-1)) (fun v4_5 => f_addName_L25 F v3_1 n25 v4_5 A_4)) else none) else none)) else none))
def f_addName (F : Nat) (cl : Int32) (An : Nat → Int32) (x1 : Int32) (x2 : Int32) : Option (Int32 × (Nat → Int32)) := (if cl < 1908 then bnd ((x1 * 4096) + x2) (fun v3_1 => Option.bind (f_addName_L25 F v3_1 F cl An) (fun (x4_6, y_An_7) => (if vin x4_6 1908 then bnd (upd y_An_7 (x4_6).toNatClampNeg v3_1) (fun A_8 => bnd (cl + 1) (fun f_classes_9 => some (f_classes_9, A_8))) else none))) else some (cl, An))
set_option maxHeartbeats 4000000 in
set_option maxRecDepth 100000 in
theorem c_addName (l : Launch) (dC : Nat → ClassId) (dI : Nat → Nat → Nat) (ph : Nat) (dd : Int32) (rt : Int32) (cl : Int32) (rf : Int32) (pr : Int32) (pn : Nat) (gk : Int32) (go : Int32) (gc : Int32) (pg : Nat) (ps : Nat) (po : Nat) (pc : Nat) (pe : Nat) (p1 : Nat) (p2 : Nat) (pz : Nat) (tn : ClassId) (An : Nat → Int32) (x1 : Int32) (x2 : Int32) (sz : Nat) (F : Nat) (out : Int32 × (Nat → Int32)) (hf : f_addName F cl An x1 x2 = some out) : Met l yX0_addName wsX0_addName ({ frames := 0, cells := 0, slots := 0, locals := 0 }) (va_Pc [.ref ph, .int x1, .int x2] (fun U => U.heap.size = sz ∧ va_P (dC, dI) vwCl [(ph, .inr (0, [.int dd, .int rt, .int cl, .int rf, .int pr, .ref pn, .int gk, .int go, .int gc, .ref pg, .ref ps, .ref po, .ref pc, .ref pe, .ref p1, .ref p2, .ref pz])), (pn, .inl (tn, 1908, .inl An))] U.heap ∧ va_K (dC, dI) vwCl [(tn, .int)] U ∧ va_D (fun _ => True) [(ph, .inr (0, [.int dd, .int rt, .int cl, .int rf, .int pr, .ref pn, .int gk, .int go, .int gc, .ref pg, .ref ps, .ref po, .ref pc, .ref pe, .ref p1, .ref p2, .ref pz])), (pn, .inl (tn, 1908, .inl An))])) (va_Qv (fun (u : Int32 × (Nat → Int32)) => u = out) (fun (u : Int32 × (Nat → Int32)) t => match u with | (u_cl, u_An) => va_P (dC, dI) vwCl [(ph, .inr (0, [.int dd, .int rt, .int u_cl, .int rf, .int pr, .ref pn, .int gk, .int go, .int gc, .ref pg, .ref ps, .ref po, .ref pc, .ref pe, .ref p1, .ref p2, .ref pz])), (pn, .inl (tn, 1908, .inl u_An))] t.heap ∧ va_K (dC, dI) vwCl [(tn, .int)] t ∧ va_D (va_A [(ph, .inr (0, [.int dd, .int rt, .int cl, .int rf, .int pr, .ref pn, .int gk, .int go, .int gc, .ref pg, .ref ps, .ref po, .ref pc, .ref pe, .ref p1, .ref p2, .ref pz])), (pn, .inl (tn, 1908, .inl An))] sz) [(ph, .inr (0, [.int dd, .int rt, .int u_cl, .int rf, .int pr, .ref pn, .int gk, .int go, .int gc, .ref pg, .ref ps, .ref po, .ref pc, .ref pe, .ref p1, .ref p2, .ref pz])), (pn, .inl (tn, 1908, .inl u_An))]) (va_A [(ph, .inr (0, [.int dd, .int rt, .int cl, .int rf, .int pr, .ref pn, .int gk, .int go, .int gc, .ref pg, .ref ps, .ref po, .ref pc, .ref pe, .ref p1, .ref p2, .ref pz])), (pn, .inl (tn, 1908, .inl An))] sz)) 0 0 (va_A [(ph, .inr (0, [.int dd, .int rt, .int cl, .int rf, .int pr, .ref pn, .int gk, .int go, .int gc, .ref pg, .ref ps, .ref po, .ref pc, .ref pe, .ref p1, .ref p2, .ref pz])), (pn, .inl (tn, 1908, .inl An))] sz) := by
  refine Met.ofW (cc := cX0_addName) (maxL := 5) (ret := none) (by decide +kernel) rfl ?_
  intro p e s m args below meth c s₁ B hml hv
  obtain ⟨rfl, hsz, hP, hK, hD0⟩ := hv
  have hx := B.exec
  have hb := B.bytes
  have hr := B.returns
  have hts := atoms_spec (ws := wsX0_addName) B.pre
  have hown : s.vm.findClass "ClassGroup" = some m.cls := findClass_of_methodNamed B.named
  have hlocks := B.notSynchronized
  subst hsz
  have hD := hD0.self (sz := s.heap.size)
  generalize hAe : va_A [(ph, .inr (0, [.int dd, .int rt, .int cl, .int rf, .int pr, .ref pn, .int gk, .int go, .int gc, .ref pg, .ref ps, .ref po, .ref pc, .ref pe, .ref p1, .ref p2, .ref pz])), (pn, .inl (tn, 1908, .inl An))] s.heap.size = A at hD ⊢
  have hA : ∀ q : Nat, s.heap.size ≤ q → A q := fun q h => by rw [← hAe]; exact Or.inr h
  have hS : va_S A s.heap s.heap [] := va_S.rf
  have hl := lv_entry ([.ref ph, .int x1, .int x2]) (n := 5) (Nat.le_of_ble_eq_true rfl)
  rw [lg_entry_eq]
  generalize (lg_sl ([.ref ph, .int x1, .int x2]) ++ List.replicate (5 - (lg_sl ([.ref ph, .int x1, .int x2])).length) Slot.unset).toArray = ls at hl ⊢
  have hl : lv_has ls 5 [(0, .ref ph), (1, .int x1), (2, .int x2)] := hl
  unfold f_addName at hf
  refine lv_aload_n hx hb dX0_addName_0 rfl (lv_at hl 0 rfl) ?_
  refine va_get (D := (dC, dI)) (ci := 0) (v := .int cl) (C := "ClassGroup") (T := TX0) (N := 17) hx hb hts (fun w h => List.mem_cons_of_mem _ (iwX0 w h)) hown hK hP 0 rfl rfl 2 (by decide) (hts _ (List.mem_cons_of_mem _ kw_152)) (fun _ h9 => h9) rfl dX0_addName_1 ?_
  refine lv_sipush (v := 1908) hx hb dX0_addName_4 (by decide) ?_
  refine lv_icmp_lt (tgt := 11) hx hb dX0_addName_7 (by decide) (fun c_7 => ?_) (fun c_7 => ?_)
  · have hf := ok_t c_7 hf
    refine lv_iload_n hx hb dX0_addName_11 rfl (lv_at hl 1 rfl) ?_
    refine lv_sipush (v := 4096) hx hb dX0_addName_12 (by decide) ?_
    refine lv_imul hx hb dX0_addName_15 ?_
    refine lv_iload_n hx hb dX0_addName_16 rfl (lv_at hl 2 rfl) ?_
    refine lv_iadd hx hb dX0_addName_17 ?_
    refine lv_topi (fun v3_1 ev3_1 => ?_)
    replace hf := bnd_ok ev3_1 hf
    refine lv_istore_n (lv' := [(3, .int v3_1), (0, .ref ph), (1, .int x1), (2, .int x2)]) hx hb dX0_addName_18 rfl hl (by decide) rfl (fun ls hl => ?_)
    refine lv_aload_n hx hb dX0_addName_19 rfl (lv_at hl 1 rfl) ?_
    refine va_get (D := (dC, dI)) (ci := 0) (v := .int cl) (C := "ClassGroup") (T := TX0) (N := 17) hx hb hts (fun w h => List.mem_cons_of_mem _ (iwX0 w h)) hown hK hP 0 rfl rfl 2 (by decide) (hts _ (List.mem_cons_of_mem _ kw_152)) (fun _ h9 => h9) rfl dX0_addName_20 ?_
    refine lv_istore (lv' := [(4, .int cl), (3, .int v3_1), (0, .ref ph), (1, .int x1), (2, .int x2)]) hx hb dX0_addName_23 hl (by decide) rfl (fun ls hl => ?_)
    have hL25 : ∀ (n25 : Nat) (w4_2 : Int32) (m_An_3 : Nat → Int32) (res : Int32 × (Nat → Int32)) (H : Heap) (locs : List Loc) (ls : Array Slot) (Q : State → Prop), f_addName_L25 F v3_1 n25 w4_2 m_An_3 = some res → va_P (dC, dI) vwCl [(ph, .inr (0, [.int dd, .int rt, .int cl, .int rf, .int pr, .ref pn, .int gk, .int go, .int gc, .ref pg, .ref ps, .ref po, .ref pc, .ref pe, .ref p1, .ref p2, .ref pz])), (pn, .inl (tn, 1908, .inl m_An_3))] H → va_D A [(ph, .inr (0, [.int dd, .int rt, .int cl, .int rf, .int pr, .ref pn, .int gk, .int go, .int gc, .ref pg, .ref ps, .ref po, .ref pc, .ref pe, .ref p1, .ref p2, .ref pz])), (pn, .inl (tn, 1908, .inl m_An_3))] → va_S A s.heap H locs → lv_has ls 5 [(0, .ref ph), (3, .int v3_1), (4, .int w4_2)] → (∀ (x4_6 : Int32) (y_An_7 : Nat → Int32) (H : Heap) (locs : List Loc) (ls : Array Slot), (x4_6, y_An_7) = res → va_P (dC, dI) vwCl [(ph, .inr (0, [.int dd, .int rt, .int cl, .int rf, .int pr, .ref pn, .int gk, .int go, .int gc, .ref pg, .ref ps, .ref po, .ref pc, .ref pe, .ref p1, .ref p2, .ref pz])), (pn, .inl (tn, 1908, .inl y_An_7))] H → va_D A [(ph, .inr (0, [.int dd, .int rt, .int cl, .int rf, .int pr, .ref pn, .int gk, .int go, .int gc, .ref pg, .ref ps, .ref po, .ref pc, .ref pe, .ref p1, .ref p2, .ref pz])), (pn, .inl (tn, 1908, .inl y_An_7))] → va_S A s.heap H locs → lv_has ls 5 [(0, .ref ph), (3, .int v3_1), (4, .int x4_6)] → W p l e ((headSpec wsX0_addName ({ frames := 0, cells := 0, slots := 0, locals := 0 })).room) s m ([.ref ph, .int x1, .int x2] : List Value).toArray below meth c H locs 0 0 Q (F0 m 65 ls [])) → W p l e ((headSpec wsX0_addName ({ frames := 0, cells := 0, slots := 0, locals := 0 })).room) s m ([.ref ph, .int x1, .int x2] : List Value).toArray below meth c H locs 0 0 Q (F0 m 25 ls []) := by
      intro n25
      induction n25 with
      | zero => intro w4_2 m_An_3 res H locs ls Q hf; simp [f_addName_L25] at hf
      | succ n25 ih25 =>
        intro w4_2 m_An_3 res H locs ls Q hf hP hD hS hl k25_0
        rw [f_addName_L25] at hf
        refine lv_iload hx hb dX0_addName_25 (lv_at hl 2 rfl) ?_
        refine lv_if_le (tgt := 65) hx hb dX0_addName_27 (by decide) (fun c_27 => ?_) (fun c_27 => ?_)
        · have hf := ok_t c_27 hf
          exact k25_0 w4_2 m_An_3 _ _ _ (Option.some.inj hf) (hP.sub [0, 1] rfl) (hD.sub [0, 1] (by decide) rfl) hS (lv_sub hl [0, 1, 2] rfl)
        · have hf := ok_f c_27 hf
          refine lv_aload_n hx hb dX0_addName_30 rfl (lv_at hl 0 rfl) ?_
          refine va_get (D := (dC, dI)) (ci := 0) (v := .ref pn) (C := "ClassGroup") (T := TX0) (N := 17) hx hb hts (fun w h => List.mem_cons_of_mem _ (iwX0 w h)) hown hK hP 0 rfl rfl 5 (by decide) (hts _ (List.mem_cons_of_mem _ kw_155)) (fun _ h9 => h9) rfl dX0_addName_31 ?_
          refine lv_iload hx hb dX0_addName_34 (lv_at hl 2 rfl) ?_
          refine lv_iconst (v := 1) hx hb dX0_addName_36 (by decide) ?_
          refine lv_isub hx hb dX0_addName_37 ?_
          obtain ⟨g_38, hf⟩ := ok_g hf
          refine va_iald hx hb hK hP 1 0 rfl rfl g_38 dX0_addName_38 ?_
          refine lv_iload_n hx hb dX0_addName_39 rfl (lv_at hl 1 rfl) ?_
          refine lv_icmp_le (tgt := 65) hx hb dX0_addName_40 (by decide) (fun c_40 => ?_) (fun c_40 => ?_)
          · have hf := ok_t c_40 hf
            exact k25_0 w4_2 m_An_3 _ _ _ (Option.some.inj hf) (hP.sub [0, 1] rfl) (hD.sub [0, 1] (by decide) rfl) hS (lv_sub hl [0, 1, 2] rfl)
          · have hf := ok_f c_40 hf
            refine lv_aload_n hx hb dX0_addName_43 rfl (lv_at hl 0 rfl) ?_
            refine va_get (D := (dC, dI)) (ci := 0) (v := .ref pn) (C := "ClassGroup") (T := TX0) (N := 17) hx hb hts (fun w h => List.mem_cons_of_mem _ (iwX0 w h)) hown hK hP 0 rfl rfl 5 (by decide) (hts _ (List.mem_cons_of_mem _ kw_155)) (fun _ h9 => h9) rfl dX0_addName_44 ?_
            refine lv_iload hx hb dX0_addName_47 (lv_at hl 2 rfl) ?_
            refine lv_aload_n hx hb dX0_addName_49 rfl (lv_at hl 0 rfl) ?_
            refine va_get (D := (dC, dI)) (ci := 0) (v := .ref pn) (C := "ClassGroup") (T := TX0) (N := 17) hx hb hts (fun w h => List.mem_cons_of_mem _ (iwX0 w h)) hown hK hP 0 rfl rfl 5 (by decide) (hts _ (List.mem_cons_of_mem _ kw_155)) (fun _ h9 => h9) rfl dX0_addName_50 ?_
            refine lv_iload hx hb dX0_addName_53 (lv_at hl 2 rfl) ?_
            refine lv_iconst (v := 1) hx hb dX0_addName_55 (by decide) ?_
            refine lv_isub hx hb dX0_addName_56 ?_
            obtain ⟨g_57, hf⟩ := ok_g hf
            refine va_iald hx hb hK hP 1 0 rfl rfl g_57 dX0_addName_57 ?_
            obtain ⟨g_58, hf⟩ := ok_g hf
            refine va_iast hx hb hK hP hD hS 1 0 rfl rfl g_58 dX0_addName_58 (fun H locs hP hD hS => ?_)
            have hP : va_P (dC, dI) vwCl [(ph, .inr (0, [.int dd, .int rt, .int cl, .int rf, .int pr, .ref pn, .int gk, .int go, .int gc, .ref pg, .ref ps, .ref po, .ref pc, .ref pe, .ref p1, .ref p2, .ref pz])), (pn, .inl (tn, 1908, .inl (upd m_An_3 (w4_2).toNatClampNeg (m_An_3 ((w4_2 - 1)).toNatClampNeg))))] H := hP
            have hD : va_D A [(ph, .inr (0, [.int dd, .int rt, .int cl, .int rf, .int pr, .ref pn, .int gk, .int go, .int gc, .ref pg, .ref ps, .ref po, .ref pc, .ref pe, .ref p1, .ref p2, .ref pz])), (pn, .inl (tn, 1908, .inl (upd m_An_3 (w4_2).toNatClampNeg (m_An_3 ((w4_2 - 1)).toNatClampNeg))))] := hD
            obtain ⟨A_4, eA_4⟩ : ∃ y : Nat → Int32, y = (upd m_An_3 (w4_2).toNatClampNeg (m_An_3 ((w4_2 - 1)).toNatClampNeg)) := ⟨_, rfl⟩
            rw [← eA_4] at hP hD
            replace hf := bnd_ok eA_4 hf
            obtain ⟨v4_5, ev4_5⟩ : ∃ y : Int32, y = w4_2 + (-1) := ⟨_, rfl⟩
            replace hf := bnd_ok ev4_5 hf
            refine lv_iinc (v := v4_5) (lv' := [(4, .int v4_5), (0, .ref ph), (3, .int v3_1)]) hx hb dX0_addName_59 hl (k := 2) rfl (by rw [ev4_5]; rfl) (by decide) rfl (fun ls hl => ?_)
            refine lv_goto (tgt := 25) hx hb dX0_addName_62 (by decide) ?_
            exact ih25 v4_5 A_4 _ _ _ _ _ hf (hP.sub [0, 1] rfl) (hD.sub [0, 1] (by decide) rfl) hS (lv_sub hl [1, 2, 0] rfl) k25_0
    obtain ⟨res25, hL25_r, hf⟩ := ok_b hf
    refine hL25 F cl An res25 _ _ _ _ hL25_r (hP.sub [0, 1] rfl) (hD.sub [0, 1] (by decide) rfl) hS (lv_sub hl [2, 1, 0] rfl) (fun x4_6 y_An_7 H locs ls hres hP hD hS hl => ?_)
    subst hres
    refine lv_aload_n hx hb dX0_addName_65 rfl (lv_at hl 0 rfl) ?_
    refine va_get (D := (dC, dI)) (ci := 0) (v := .ref pn) (C := "ClassGroup") (T := TX0) (N := 17) hx hb hts (fun w h => List.mem_cons_of_mem _ (iwX0 w h)) hown hK hP 0 rfl rfl 5 (by decide) (hts _ (List.mem_cons_of_mem _ kw_155)) (fun _ h9 => h9) rfl dX0_addName_66 ?_
    refine lv_iload hx hb dX0_addName_69 (lv_at hl 2 rfl) ?_
    refine lv_iload_n hx hb dX0_addName_71 rfl (lv_at hl 1 rfl) ?_
    obtain ⟨g_72, hf⟩ := ok_g hf
    refine va_iast hx hb hK hP hD hS 1 0 rfl rfl g_72 dX0_addName_72 (fun H locs hP hD hS => ?_)
    have hP : va_P (dC, dI) vwCl [(ph, .inr (0, [.int dd, .int rt, .int cl, .int rf, .int pr, .ref pn, .int gk, .int go, .int gc, .ref pg, .ref ps, .ref po, .ref pc, .ref pe, .ref p1, .ref p2, .ref pz])), (pn, .inl (tn, 1908, .inl (upd y_An_7 (x4_6).toNatClampNeg v3_1)))] H := hP
    have hD : va_D A [(ph, .inr (0, [.int dd, .int rt, .int cl, .int rf, .int pr, .ref pn, .int gk, .int go, .int gc, .ref pg, .ref ps, .ref po, .ref pc, .ref pe, .ref p1, .ref p2, .ref pz])), (pn, .inl (tn, 1908, .inl (upd y_An_7 (x4_6).toNatClampNeg v3_1)))] := hD
    obtain ⟨A_8, eA_8⟩ : ∃ y : Nat → Int32, y = (upd y_An_7 (x4_6).toNatClampNeg v3_1) := ⟨_, rfl⟩
    rw [← eA_8] at hP hD
    replace hf := bnd_ok eA_8 hf
    refine lv_aload_n hx hb dX0_addName_73 rfl (lv_at hl 0 rfl) ?_
    refine lv_dup hx hb dX0_addName_74 rfl ?_
    refine va_get (D := (dC, dI)) (ci := 0) (v := .int cl) (C := "ClassGroup") (T := TX0) (N := 17) hx hb hts (fun w h => List.mem_cons_of_mem _ (iwX0 w h)) hown hK hP 0 rfl rfl 2 (by decide) (hts _ (List.mem_cons_of_mem _ kw_152)) (fun _ h9 => h9) rfl dX0_addName_75 ?_
    refine lv_iconst (v := 1) hx hb dX0_addName_78 (by decide) ?_
    refine lv_iadd hx hb dX0_addName_79 ?_
    refine lv_topi (fun f_classes_9 ef_classes_9 => ?_)
    replace hf := bnd_ok ef_classes_9 hf
    refine va_put (D := (dC, dI)) (ci := 0) (v := .int f_classes_9) (ty := .int) (C := "ClassGroup") (T := TX0) (N := 17) hx hb hts (fun w h => List.mem_cons_of_mem _ (iwX0 w h)) tyX0 tyokX0 nmX0 hown hK hP hD hS 0 rfl rfl 2 (by decide) (hts _ (List.mem_cons_of_mem _ kw_152)) (fun _ h9 => h9) rfl (by decide +kernel) rfl rfl (Nat.le_of_ble_eq_true rfl) dX0_addName_80 (fun H locs hP hD hS => ?_)
    have hP : va_P (dC, dI) vwCl [(ph, .inr (0, [.int dd, .int rt, .int f_classes_9, .int rf, .int pr, .ref pn, .int gk, .int go, .int gc, .ref pg, .ref ps, .ref po, .ref pc, .ref pe, .ref p1, .ref p2, .ref pz])), (pn, .inl (tn, 1908, .inl A_8))] H := hP
    have hD : va_D A [(ph, .inr (0, [.int dd, .int rt, .int f_classes_9, .int rf, .int pr, .ref pn, .int gk, .int go, .int gc, .ref pg, .ref ps, .ref po, .ref pc, .ref pe, .ref p1, .ref p2, .ref pz])), (pn, .inl (tn, 1908, .inl A_8))] := hD
    have hP9 := hP.sub (ws' := [(ph, .inr (0, [.int dd, .int rt, .int f_classes_9, .int rf, .int pr, .ref pn, .int gk, .int go, .int gc, .ref pg, .ref ps, .ref po, .ref pc, .ref pe, .ref p1, .ref p2, .ref pz])), (pn, .inl (tn, 1908, .inl A_8))]) [0, 1] rfl
    have hD9 := hD.sub (ws' := [(ph, .inr (0, [.int dd, .int rt, .int f_classes_9, .int rf, .int pr, .ref pn, .int gk, .int go, .int gc, .ref pg, .ref ps, .ref po, .ref pc, .ref pe, .ref p1, .ref p2, .ref pz])), (pn, .inl (tn, 1908, .inl A_8))]) [0, 1] (by decide) rfl
    have hK9 := hK.sub (tys' := [(tn, .int)]) [0] rfl
    exact W.vret hx hb hr (fun t ht hW => ⟨⟨(f_classes_9, A_8), rfl, (Option.some.inj hf), by rw [ht]; exact hP9, va_K.moved hW.alike hK9, hD9⟩, hS.F ht⟩) hS.2.2 dX0_addName_83
  · have hf := ok_f c_7 hf
    have hP9 := hP.sub (ws' := [(ph, .inr (0, [.int dd, .int rt, .int cl, .int rf, .int pr, .ref pn, .int gk, .int go, .int gc, .ref pg, .ref ps, .ref po, .ref pc, .ref pe, .ref p1, .ref p2, .ref pz])), (pn, .inl (tn, 1908, .inl An))]) [0, 1] rfl
    have hD9 := hD.sub (ws' := [(ph, .inr (0, [.int dd, .int rt, .int cl, .int rf, .int pr, .ref pn, .int gk, .int go, .int gc, .ref pg, .ref ps, .ref po, .ref pc, .ref pe, .ref p1, .ref p2, .ref pz])), (pn, .inl (tn, 1908, .inl An))]) [0, 1] (by decide) rfl
    have hK9 := hK.sub (tys' := [(tn, .int)]) [0] rfl
    exact W.vret hx hb hr (fun t ht hW => ⟨⟨(cl, An), rfl, (Option.some.inj hf), by rw [ht]; exact hP9, va_K.moved hW.alike hK9, hD9⟩, hS.F ht⟩) hS.2.2 dX0_addName_10

def f_keyOf (F : Nat) (a1 : Int64) (b1 : Int64) : Option (Int32) := some (((a1).toInt32 * 4096) + (b1).toInt32)
set_option maxHeartbeats 4000000 in
set_option maxRecDepth 100000 in
theorem c_keyOf (l : Launch) (dC : Nat → ClassId) (dI : Nat → Nat → Nat) (pf : Nat) (a1 : Int64) (b1 : Int64) (c1 : Int64) (sz : Nat) (F : Nat) (out : Int32) (hf : f_keyOf F a1 b1 = some out) : Met l yX0_keyOf wsX0_keyOf ({ frames := 0, cells := 0, slots := 0, locals := 0 }) (va_Pc [.ref pf] (fun U => U.heap.size = sz ∧ va_P (dC, dI) vwCl [(pf, .inr (1, [.long a1, .long b1, .long c1]))] U.heap ∧ va_K (dC, dI) vwCl [] U ∧ va_D (fun _ => True) [(pf, .inr (1, [.long a1, .long b1, .long c1]))])) (va_Qi (fun (r : Int32) (u : Unit) => r = out) (fun (u : Unit) t => match u with | _ => va_P (dC, dI) vwCl [(pf, .inr (1, [.long a1, .long b1, .long c1]))] t.heap ∧ va_K (dC, dI) vwCl [] t ∧ va_D (va_A [(pf, .inr (1, [.long a1, .long b1, .long c1]))] sz) [(pf, .inr (1, [.long a1, .long b1, .long c1]))]) (va_A [(pf, .inr (1, [.long a1, .long b1, .long c1]))] sz)) 0 0 (va_A [(pf, .inr (1, [.long a1, .long b1, .long c1]))] sz) := by
  refine Met.ofW (cc := cX0_keyOf) (maxL := 1) (ret := (some .int)) (by decide +kernel) rfl ?_
  intro p e s m args below meth c s₁ B hml hv
  obtain ⟨rfl, hsz, hP, hK, hD0⟩ := hv
  have hx := B.exec
  have hb := B.bytes
  have hr := B.returns
  have hts := atoms_spec (ws := wsX0_keyOf) B.pre
  have hown : s.vm.findClass "ClassGroup" = some m.cls := findClass_of_methodNamed B.named
  have hlocks := B.notSynchronized
  subst hsz
  have hD := hD0.self (sz := s.heap.size)
  generalize hAe : va_A [(pf, .inr (1, [.long a1, .long b1, .long c1]))] s.heap.size = A at hD ⊢
  have hA : ∀ q : Nat, s.heap.size ≤ q → A q := fun q h => by rw [← hAe]; exact Or.inr h
  have hS : va_S A s.heap s.heap [] := va_S.rf
  have hl := lv_entry ([.ref pf]) (n := 1) (Nat.le_of_ble_eq_true rfl)
  rw [lg_entry_eq]
  generalize (lg_sl ([.ref pf]) ++ List.replicate (1 - (lg_sl ([.ref pf])).length) Slot.unset).toArray = ls at hl ⊢
  have hl : lv_has ls 1 [(0, .ref pf)] := hl
  unfold f_keyOf at hf
  refine lv_aload_n hx hb dX0_keyOf_0 rfl (lv_at hl 0 rfl) ?_
  refine va_get (D := (dC, dI)) (ci := 1) (v := .long a1) (C := "ClassGroup$Form") (T := TX1) (N := 3) hx hb hts (fun w h => List.mem_cons_of_mem _ (iwX1 w h)) hown hK hP 0 rfl rfl 0 (by decide) (hts _ (List.mem_cons_of_mem _ kw_27)) (fun _ h9 => h9) rfl dX0_keyOf_1 ?_
  refine lv_l2i (v := (a1).toInt32) hx hb dX0_keyOf_4 rfl ?_
  refine lv_sipush (v := 4096) hx hb dX0_keyOf_5 (by decide) ?_
  refine lv_imul hx hb dX0_keyOf_8 ?_
  refine lv_aload_n hx hb dX0_keyOf_9 rfl (lv_at hl 0 rfl) ?_
  refine va_get (D := (dC, dI)) (ci := 1) (v := .long b1) (C := "ClassGroup$Form") (T := TX1) (N := 3) hx hb hts (fun w h => List.mem_cons_of_mem _ (iwX1 w h)) hown hK hP 0 rfl rfl 1 (by decide) (hts _ (List.mem_cons_of_mem _ kw_29)) (fun _ h9 => h9) rfl dX0_keyOf_10 ?_
  refine lv_l2i (v := (b1).toInt32) hx hb dX0_keyOf_13 rfl ?_
  refine lv_iadd hx hb dX0_keyOf_14 ?_
  have hP9 := hP.sub (ws' := [(pf, .inr (1, [.long a1, .long b1, .long c1]))]) [0] rfl
  have hD9 := hD.sub (ws' := [(pf, .inr (1, [.long a1, .long b1, .long c1]))]) [0] (by decide) rfl
  have hK9 := hK.sub (tys' := []) [] rfl
  exact W.iret (v := (((a1).toInt32 * 4096) + (b1).toInt32)) hx hb hr (fun t ht hW => ⟨⟨(((a1).toInt32 * 4096) + (b1).toInt32), (), rfl, (Option.some.inj hf), by rw [ht]; exact hP9, va_K.moved hW.alike hK9, hD9⟩, hS.F ht⟩) hS.2.2 dX0_keyOf_15

def f_classAt_L6 (F : Nat) (cl : Int32) (An : Nat → Int32) (x1 : Int32) : Nat → Int32 → Int32 → Option (Int32)
  | 0, _, _ => none
  | n6 + 1, w2_1, w3_2 => (if w3_2 ≤ 0 then some w2_1 else (if cl ≤ (w2_1 + w3_2) then bnd (w3_2 >>> (1 &&& 31)) (fun v3_3 => f_classAt_L6 F cl An x1 n6 w2_1 v3_3) else (if vin (w2_1 + w3_2) 1908 then (if x1 < (An ((w2_1 + w3_2)).toNatClampNeg) then bnd (w3_2 >>> (1 &&& 31)) (fun v3_4 => f_classAt_L6 F cl An x1 n6 w2_1 v3_4) else bnd (w2_1 + w3_2) (fun v2_5 => bnd (w3_2 >>> (1 &&& 31)) (fun v3_6 => f_classAt_L6 F cl An x1 n6 v2_5 v3_6))) else none)))
def f_classAt (F : Nat) (cl : Int32) (An : Nat → Int32) (x1 : Int32) : Option (Int32) := Option.bind (f_classAt_L6 F cl An x1 F (-1) 1024) (fun x2_7 => Option.bind (f_isClass F cl x2_7) (fun r_8 => (if r_8 = 0 then some (-1) else (if vin x2_7 1908 then (if (An (x2_7).toNatClampNeg) = x1 then some x2_7 else some (-1)) else none))))
set_option maxHeartbeats 4000000 in
set_option maxRecDepth 100000 in
theorem c_classAt (l : Launch) (dC : Nat → ClassId) (dI : Nat → Nat → Nat) (ph : Nat) (dd : Int32) (rt : Int32) (cl : Int32) (rf : Int32) (pr : Int32) (pn : Nat) (gk : Int32) (go : Int32) (gc : Int32) (pg : Nat) (ps : Nat) (po : Nat) (pc : Nat) (pe : Nat) (p1 : Nat) (p2 : Nat) (pz : Nat) (tn : ClassId) (An : Nat → Int32) (x1 : Int32) (sz : Nat) (F : Nat) (out : Int32) (hf : f_classAt F cl An x1 = some out) : Met l yX0_classAt wsX0_classAt ({ frames := 1, cells := 0, slots := 0, locals := 21 }) (va_Pc [.ref ph, .int x1] (fun U => U.heap.size = sz ∧ va_P (dC, dI) vwCl [(ph, .inr (0, [.int dd, .int rt, .int cl, .int rf, .int pr, .ref pn, .int gk, .int go, .int gc, .ref pg, .ref ps, .ref po, .ref pc, .ref pe, .ref p1, .ref p2, .ref pz])), (pn, .inl (tn, 1908, .inl An))] U.heap ∧ va_K (dC, dI) vwCl [(tn, .int)] U ∧ va_D (fun _ => True) [(ph, .inr (0, [.int dd, .int rt, .int cl, .int rf, .int pr, .ref pn, .int gk, .int go, .int gc, .ref pg, .ref ps, .ref po, .ref pc, .ref pe, .ref p1, .ref p2, .ref pz])), (pn, .inl (tn, 1908, .inl An))])) (va_Qi (fun (r : Int32) (u : Unit) => r = out) (fun (u : Unit) t => match u with | _ => va_P (dC, dI) vwCl [(ph, .inr (0, [.int dd, .int rt, .int cl, .int rf, .int pr, .ref pn, .int gk, .int go, .int gc, .ref pg, .ref ps, .ref po, .ref pc, .ref pe, .ref p1, .ref p2, .ref pz])), (pn, .inl (tn, 1908, .inl An))] t.heap ∧ va_K (dC, dI) vwCl [(tn, .int)] t ∧ va_D (va_A [(ph, .inr (0, [.int dd, .int rt, .int cl, .int rf, .int pr, .ref pn, .int gk, .int go, .int gc, .ref pg, .ref ps, .ref po, .ref pc, .ref pe, .ref p1, .ref p2, .ref pz])), (pn, .inl (tn, 1908, .inl An))] sz) [(ph, .inr (0, [.int dd, .int rt, .int cl, .int rf, .int pr, .ref pn, .int gk, .int go, .int gc, .ref pg, .ref ps, .ref po, .ref pc, .ref pe, .ref p1, .ref p2, .ref pz])), (pn, .inl (tn, 1908, .inl An))]) (va_A [(ph, .inr (0, [.int dd, .int rt, .int cl, .int rf, .int pr, .ref pn, .int gk, .int go, .int gc, .ref pg, .ref ps, .ref po, .ref pc, .ref pe, .ref p1, .ref p2, .ref pz])), (pn, .inl (tn, 1908, .inl An))] sz)) 0 0 (va_A [(ph, .inr (0, [.int dd, .int rt, .int cl, .int rf, .int pr, .ref pn, .int gk, .int go, .int gc, .ref pg, .ref ps, .ref po, .ref pc, .ref pe, .ref p1, .ref p2, .ref pz])), (pn, .inl (tn, 1908, .inl An))] sz) := by
  refine Met.ofW (cc := cX0_classAt) (maxL := 4) (ret := (some .int)) (by decide +kernel) rfl ?_
  intro p e s m args below meth c s₁ B hml hv
  obtain ⟨rfl, hsz, hP, hK, hD0⟩ := hv
  have hx := B.exec
  have hb := B.bytes
  have hr := B.returns
  have hts := atoms_spec (ws := wsX0_classAt) B.pre
  have hown : s.vm.findClass "ClassGroup" = some m.cls := findClass_of_methodNamed B.named
  have hlocks := B.notSynchronized
  subst hsz
  have hD := hD0.self (sz := s.heap.size)
  generalize hAe : va_A [(ph, .inr (0, [.int dd, .int rt, .int cl, .int rf, .int pr, .ref pn, .int gk, .int go, .int gc, .ref pg, .ref ps, .ref po, .ref pc, .ref pe, .ref p1, .ref p2, .ref pz])), (pn, .inl (tn, 1908, .inl An))] s.heap.size = A at hD ⊢
  have hA : ∀ q : Nat, s.heap.size ≤ q → A q := fun q h => by rw [← hAe]; exact Or.inr h
  have hS : va_S A s.heap s.heap [] := va_S.rf
  have hl := lv_entry ([.ref ph, .int x1]) (n := 4) (Nat.le_of_ble_eq_true rfl)
  rw [lg_entry_eq]
  generalize (lg_sl ([.ref ph, .int x1]) ++ List.replicate (4 - (lg_sl ([.ref ph, .int x1])).length) Slot.unset).toArray = ls at hl ⊢
  have hl : lv_has ls 4 [(0, .ref ph), (1, .int x1)] := hl
  unfold f_classAt at hf
  refine lv_iconst (v := (-1)) hx hb dX0_classAt_0 (by decide) ?_
  refine lv_istore_n (lv' := [(2, .int (-1)), (0, .ref ph), (1, .int x1)]) hx hb dX0_classAt_1 rfl hl (by decide) rfl (fun ls hl => ?_)
  refine lv_sipush (v := 1024) hx hb dX0_classAt_2 (by decide) ?_
  refine lv_istore_n (lv' := [(3, .int 1024), (2, .int (-1)), (0, .ref ph), (1, .int x1)]) hx hb dX0_classAt_5 rfl hl (by decide) rfl (fun ls hl => ?_)
  have hL6 : ∀ (n6 : Nat) (w2_1 : Int32) (w3_2 : Int32) (res : Int32) (H : Heap) (locs : List Loc) (ls : Array Slot) (Q : State → Prop), f_classAt_L6 F cl An x1 n6 w2_1 w3_2 = some res → va_P (dC, dI) vwCl [(ph, .inr (0, [.int dd, .int rt, .int cl, .int rf, .int pr, .ref pn, .int gk, .int go, .int gc, .ref pg, .ref ps, .ref po, .ref pc, .ref pe, .ref p1, .ref p2, .ref pz])), (pn, .inl (tn, 1908, .inl An))] H → va_D A [(ph, .inr (0, [.int dd, .int rt, .int cl, .int rf, .int pr, .ref pn, .int gk, .int go, .int gc, .ref pg, .ref ps, .ref po, .ref pc, .ref pe, .ref p1, .ref p2, .ref pz])), (pn, .inl (tn, 1908, .inl An))] → va_S A s.heap H locs → lv_has ls 4 [(0, .ref ph), (1, .int x1), (2, .int w2_1), (3, .int w3_2)] → (∀ (x2_7 : Int32) (H : Heap) (locs : List Loc) (ls : Array Slot), x2_7 = res → va_P (dC, dI) vwCl [(ph, .inr (0, [.int dd, .int rt, .int cl, .int rf, .int pr, .ref pn, .int gk, .int go, .int gc, .ref pg, .ref ps, .ref po, .ref pc, .ref pe, .ref p1, .ref p2, .ref pz])), (pn, .inl (tn, 1908, .inl An))] H → va_D A [(ph, .inr (0, [.int dd, .int rt, .int cl, .int rf, .int pr, .ref pn, .int gk, .int go, .int gc, .ref pg, .ref ps, .ref po, .ref pc, .ref pe, .ref p1, .ref p2, .ref pz])), (pn, .inl (tn, 1908, .inl An))] → va_S A s.heap H locs → lv_has ls 4 [(0, .ref ph), (1, .int x1), (2, .int x2_7)] → W p l e ((headSpec wsX0_classAt ({ frames := 1, cells := 0, slots := 0, locals := 21 })).room) s m ([.ref ph, .int x1] : List Value).toArray below meth c H locs 0 0 Q (F0 m 43 ls [])) → W p l e ((headSpec wsX0_classAt ({ frames := 1, cells := 0, slots := 0, locals := 21 })).room) s m ([.ref ph, .int x1] : List Value).toArray below meth c H locs 0 0 Q (F0 m 6 ls []) := by
    intro n6
    induction n6 with
    | zero => intro w2_1 w3_2 res H locs ls Q hf; simp [f_classAt_L6] at hf
    | succ n6 ih6 =>
      intro w2_1 w3_2 res H locs ls Q hf hP hD hS hl k6_0
      rw [f_classAt_L6] at hf
      refine lv_iload_n hx hb dX0_classAt_6 rfl (lv_at hl 3 rfl) ?_
      refine lv_if_le (tgt := 43) hx hb dX0_classAt_7 (by decide) (fun c_7 => ?_) (fun c_7 => ?_)
      · have hf := ok_t c_7 hf
        exact k6_0 w2_1 _ _ _ (Option.some.inj hf) (hP.sub [0, 1] rfl) (hD.sub [0, 1] (by decide) rfl) hS (lv_sub hl [0, 1, 2] rfl)
      · have hf := ok_f c_7 hf
        refine lv_iload_n hx hb dX0_classAt_10 rfl (lv_at hl 2 rfl) ?_
        refine lv_iload_n hx hb dX0_classAt_11 rfl (lv_at hl 3 rfl) ?_
        refine lv_iadd hx hb dX0_classAt_12 ?_
        refine lv_aload_n hx hb dX0_classAt_13 rfl (lv_at hl 0 rfl) ?_
        refine va_get (D := (dC, dI)) (ci := 0) (v := .int cl) (C := "ClassGroup") (T := TX0) (N := 17) hx hb hts (fun w h => List.mem_cons_of_mem _ (iwX0 w h)) hown hK hP 0 rfl rfl 2 (by decide) (hts _ (List.mem_cons_of_mem _ kw_152)) (fun _ h9 => h9) rfl dX0_classAt_14 ?_
        refine lv_icmp_ge (tgt := 36) hx hb dX0_classAt_17 (by decide) (fun c_17 => ?_) (fun c_17 => ?_)
        · have hf := ok_t c_17 hf
          refine lv_iload_n hx hb dX0_classAt_36 rfl (lv_at hl 3 rfl) ?_
          refine lv_iconst (v := 1) hx hb dX0_classAt_37 (by decide) ?_
          refine lv_ishr hx hb dX0_classAt_38 ?_
          refine lv_topi (fun v3_3 ev3_3 => ?_)
          replace hf := bnd_ok ev3_3 hf
          refine lv_istore_n (lv' := [(3, .int v3_3), (0, .ref ph), (1, .int x1), (2, .int w2_1)]) hx hb dX0_classAt_39 rfl hl (by decide) rfl (fun ls hl => ?_)
          refine lv_goto (tgt := 6) hx hb dX0_classAt_40 (by decide) ?_
          exact ih6 w2_1 v3_3 _ _ _ _ _ hf (hP.sub [0, 1] rfl) (hD.sub [0, 1] (by decide) rfl) hS (lv_sub hl [1, 2, 3, 0] rfl) k6_0
        · have hf := ok_f c_17 hf
          refine lv_aload_n hx hb dX0_classAt_20 rfl (lv_at hl 0 rfl) ?_
          refine va_get (D := (dC, dI)) (ci := 0) (v := .ref pn) (C := "ClassGroup") (T := TX0) (N := 17) hx hb hts (fun w h => List.mem_cons_of_mem _ (iwX0 w h)) hown hK hP 0 rfl rfl 5 (by decide) (hts _ (List.mem_cons_of_mem _ kw_155)) (fun _ h9 => h9) rfl dX0_classAt_21 ?_
          refine lv_iload_n hx hb dX0_classAt_24 rfl (lv_at hl 2 rfl) ?_
          refine lv_iload_n hx hb dX0_classAt_25 rfl (lv_at hl 3 rfl) ?_
          refine lv_iadd hx hb dX0_classAt_26 ?_
          obtain ⟨g_27, hf⟩ := ok_g hf
          refine va_iald hx hb hK hP 1 0 rfl rfl g_27 dX0_classAt_27 ?_
          refine lv_iload_n hx hb dX0_classAt_28 rfl (lv_at hl 1 rfl) ?_
          refine lv_icmp_gt (tgt := 36) hx hb dX0_classAt_29 (by decide) (fun c_29 => ?_) (fun c_29 => ?_)
          · have hf := ok_t c_29 hf
            refine lv_iload_n hx hb dX0_classAt_36 rfl (lv_at hl 3 rfl) ?_
            refine lv_iconst (v := 1) hx hb dX0_classAt_37 (by decide) ?_
            refine lv_ishr hx hb dX0_classAt_38 ?_
            refine lv_topi (fun v3_4 ev3_4 => ?_)
            replace hf := bnd_ok ev3_4 hf
            refine lv_istore_n (lv' := [(3, .int v3_4), (0, .ref ph), (1, .int x1), (2, .int w2_1)]) hx hb dX0_classAt_39 rfl hl (by decide) rfl (fun ls hl => ?_)
            refine lv_goto (tgt := 6) hx hb dX0_classAt_40 (by decide) ?_
            exact ih6 w2_1 v3_4 _ _ _ _ _ hf (hP.sub [0, 1] rfl) (hD.sub [0, 1] (by decide) rfl) hS (lv_sub hl [1, 2, 3, 0] rfl) k6_0
          · have hf := ok_f c_29 hf
            refine lv_iload_n hx hb dX0_classAt_32 rfl (lv_at hl 2 rfl) ?_
            refine lv_iload_n hx hb dX0_classAt_33 rfl (lv_at hl 3 rfl) ?_
            refine lv_iadd hx hb dX0_classAt_34 ?_
            refine lv_topi (fun v2_5 ev2_5 => ?_)
            replace hf := bnd_ok ev2_5 hf
            refine lv_istore_n (lv' := [(2, .int v2_5), (0, .ref ph), (1, .int x1), (3, .int w3_2)]) hx hb dX0_classAt_35 rfl hl (by decide) rfl (fun ls hl => ?_)
            refine lv_iload_n hx hb dX0_classAt_36 rfl (lv_at hl 3 rfl) ?_
            refine lv_iconst (v := 1) hx hb dX0_classAt_37 (by decide) ?_
            refine lv_ishr hx hb dX0_classAt_38 ?_
            refine lv_topi (fun v3_6 ev3_6 => ?_)
            replace hf := bnd_ok ev3_6 hf
            refine lv_istore_n (lv' := [(3, .int v3_6), (2, .int v2_5), (0, .ref ph), (1, .int x1)]) hx hb dX0_classAt_39 rfl hl (by decide) rfl (fun ls hl => ?_)
            refine lv_goto (tgt := 6) hx hb dX0_classAt_40 (by decide) ?_
            exact ih6 v2_5 v3_6 _ _ _ _ _ hf (hP.sub [0, 1] rfl) (hD.sub [0, 1] (by decide) rfl) hS (lv_sub hl [2, 3, 1, 0] rfl) k6_0
  obtain ⟨res6, hL6_r, hf⟩ := ok_b hf
  refine hL6 F (-1) 1024 res6 _ _ _ _ hL6_r (hP.sub [0, 1] rfl) (hD.sub [0, 1] (by decide) rfl) hS (lv_sub hl [2, 3, 1, 0] rfl) (fun x2_7 H locs ls hres hP hD hS hl => ?_)
  subst hres
  refine lv_aload_n hx hb dX0_classAt_43 rfl (lv_at hl 0 rfl) ?_
  refine lv_iload_n hx hb dX0_classAt_44 rfl (lv_at hl 2 rfl) ?_
  obtain ⟨xc45, hc45, hf⟩ := ok_b hf
  have hPc := hP.sub (ws' := [(ph, .inr (0, [.int dd, .int rt, .int cl, .int rf, .int pr, .ref pn, .int gk, .int go, .int gc, .ref pg, .ref ps, .ref po, .ref pc, .ref pe, .ref p1, .ref p2, .ref pz]))]) [0] rfl
  have hDc := hD.sub (ws' := [(ph, .inr (0, [.int dd, .int rt, .int cl, .int rf, .int pr, .ref pn, .int gk, .int go, .int gc, .ref pg, .ref ps, .ref po, .ref pc, .ref pe, .ref p1, .ref p2, .ref pz]))]) [0] (by decide) rfl
  have hKc := hK.sub (tys' := []) [] rfl
  have hFc := va_free (wc := [(ph, .inr (0, [.int dd, .int rt, .int cl, .int rf, .int pr, .ref pn, .int gk, .int go, .int gc, .ref pg, .ref ps, .ref po, .ref pc, .ref pe, .ref p1, .ref p2, .ref pz]))]) hD hS hA [0] rfl
  refine va_calli (va_runV (As := [.int x2_7]) (rest := []) ⟨hx, hb, hml, hown, hts⟩ (c_isClass l dC dI ph dd rt cl rf pr pn gk go gc pg ps po pc pe p1 p2 pz x2_7 H.size F xc45 hc45) (cwV 1 hts (gwV kw_146 kw_148 ks_14 kw_1 kw_149) rfl rfl rfl (by decide +kernel) ⟨Nat.le_of_ble_eq_true rfl, Nat.le_of_ble_eq_true rfl⟩) ⟨fun a U g mk q => by obtain ⟨q0, q1, qP, qK, qD⟩ := q; exact ⟨q0, q1, qP, va_K.moved (u := U) (U := U.calling g mk a) (Vm.Alike.refl U.vm) qK, qD⟩, va_recv hKc hPc (ci := 0) (q0 := 0) rfl rfl, fun U hU hW => ⟨rfl, by rw [hU], by rw [hU]; exact hPc, va_K.moved hW.alike hKc, hDc.weaken (fun _ _ _ _ => trivial)⟩⟩ rfl rfl hl.1 rfl (lv_room (Nat.le_of_ble_eq_true rfl)) dX0_classAt_45 ⟨Nat.zero_le _, Nat.zero_le _⟩) hS (fun q _ h => hFc q h) hFc (fun r_8 u t H1 locs ht hvm hw hB hz1 hk1 hS => ?_)
  obtain ⟨⟩ := u
  obtain ⟨hP1, hK1, hD1⟩ := hB
  rw [ht] at hP1
  subst hw
  obtain ⟨hP, hD⟩ := va_join (wr := [(pn, .inl (tn, 1908, .inl An))]) (w1 := [(ph, .inr (0, [.int dd, .int rt, .int cl, .int rf, .int pr, .ref pn, .int gk, .int go, .int gc, .ref pg, .ref ps, .ref po, .ref pc, .ref pe, .ref p1, .ref p2, .ref pz]))]) hP hD [0] [1] rfl rfl (by decide) (by decide) hk1 hFc hP1 hD1
  generalize H1 = H at hP hS ⊢
  have hP : va_P (dC, dI) vwCl [(pn, .inl (tn, 1908, .inl An)), (ph, .inr (0, [.int dd, .int rt, .int cl, .int rf, .int pr, .ref pn, .int gk, .int go, .int gc, .ref pg, .ref ps, .ref po, .ref pc, .ref pe, .ref p1, .ref p2, .ref pz]))] H := hP
  have hD : va_D A [(pn, .inl (tn, 1908, .inl An)), (ph, .inr (0, [.int dd, .int rt, .int cl, .int rf, .int pr, .ref pn, .int gk, .int go, .int gc, .ref pg, .ref ps, .ref po, .ref pc, .ref pe, .ref p1, .ref p2, .ref pz]))] := hD
  refine lv_if_eq (tgt := 65) hx hb dX0_classAt_48 (by decide) (fun c_48 => ?_) (fun c_48 => ?_)
  · have hf := ok_t c_48 hf
    refine lv_iconst (v := (-1)) hx hb dX0_classAt_65 (by decide) ?_
    have hP9 := hP.sub (ws' := [(ph, .inr (0, [.int dd, .int rt, .int cl, .int rf, .int pr, .ref pn, .int gk, .int go, .int gc, .ref pg, .ref ps, .ref po, .ref pc, .ref pe, .ref p1, .ref p2, .ref pz])), (pn, .inl (tn, 1908, .inl An))]) [1, 0] rfl
    have hD9 := hD.sub (ws' := [(ph, .inr (0, [.int dd, .int rt, .int cl, .int rf, .int pr, .ref pn, .int gk, .int go, .int gc, .ref pg, .ref ps, .ref po, .ref pc, .ref pe, .ref p1, .ref p2, .ref pz])), (pn, .inl (tn, 1908, .inl An))]) [1, 0] (by decide) rfl
    have hK9 := hK.sub (tys' := [(tn, .int)]) [0] rfl
    exact W.iret (v := (-1)) hx hb hr (fun t ht hW => ⟨⟨(-1), (), rfl, (Option.some.inj hf), by rw [ht]; exact hP9, va_K.moved hW.alike hK9, hD9⟩, hS.F ht⟩) hS.2.2 dX0_classAt_66
  · have hf := ok_f c_48 hf
    refine lv_aload_n hx hb dX0_classAt_51 rfl (lv_at hl 0 rfl) ?_
    refine va_get (D := (dC, dI)) (ci := 0) (v := .ref pn) (C := "ClassGroup") (T := TX0) (N := 17) hx hb hts (fun w h => List.mem_cons_of_mem _ (iwX0 w h)) hown hK hP 1 rfl rfl 5 (by decide) (hts _ (List.mem_cons_of_mem _ kw_155)) (fun _ h9 => h9) rfl dX0_classAt_52 ?_
    refine lv_iload_n hx hb dX0_classAt_55 rfl (lv_at hl 2 rfl) ?_
    obtain ⟨g_56, hf⟩ := ok_g hf
    refine va_iald hx hb hK hP 0 0 rfl rfl g_56 dX0_classAt_56 ?_
    refine lv_iload_n hx hb dX0_classAt_57 rfl (lv_at hl 1 rfl) ?_
    refine lv_icmp_ne (tgt := 65) hx hb dX0_classAt_58 (by decide) (fun c_58 => ?_) (fun c_58 => ?_)
    · have hf := ok_f c_58 hf
      refine lv_iconst (v := (-1)) hx hb dX0_classAt_65 (by decide) ?_
      have hP9 := hP.sub (ws' := [(ph, .inr (0, [.int dd, .int rt, .int cl, .int rf, .int pr, .ref pn, .int gk, .int go, .int gc, .ref pg, .ref ps, .ref po, .ref pc, .ref pe, .ref p1, .ref p2, .ref pz])), (pn, .inl (tn, 1908, .inl An))]) [1, 0] rfl
      have hD9 := hD.sub (ws' := [(ph, .inr (0, [.int dd, .int rt, .int cl, .int rf, .int pr, .ref pn, .int gk, .int go, .int gc, .ref pg, .ref ps, .ref po, .ref pc, .ref pe, .ref p1, .ref p2, .ref pz])), (pn, .inl (tn, 1908, .inl An))]) [1, 0] (by decide) rfl
      have hK9 := hK.sub (tys' := [(tn, .int)]) [0] rfl
      exact W.iret (v := (-1)) hx hb hr (fun t ht hW => ⟨⟨(-1), (), rfl, (Option.some.inj hf), by rw [ht]; exact hP9, va_K.moved hW.alike hK9, hD9⟩, hS.F ht⟩) hS.2.2 dX0_classAt_66
    · have hf := ok_t c_58 hf
      refine lv_iload_n hx hb dX0_classAt_61 rfl (lv_at hl 2 rfl) ?_
      refine lv_goto (tgt := 66) hx hb dX0_classAt_62 (by decide) ?_
      have hP9 := hP.sub (ws' := [(ph, .inr (0, [.int dd, .int rt, .int cl, .int rf, .int pr, .ref pn, .int gk, .int go, .int gc, .ref pg, .ref ps, .ref po, .ref pc, .ref pe, .ref p1, .ref p2, .ref pz])), (pn, .inl (tn, 1908, .inl An))]) [1, 0] rfl
      have hD9 := hD.sub (ws' := [(ph, .inr (0, [.int dd, .int rt, .int cl, .int rf, .int pr, .ref pn, .int gk, .int go, .int gc, .ref pg, .ref ps, .ref po, .ref pc, .ref pe, .ref p1, .ref p2, .ref pz])), (pn, .inl (tn, 1908, .inl An))]) [1, 0] (by decide) rfl
      have hK9 := hK.sub (tys' := [(tn, .int)]) [0] rfl
      exact W.iret (v := x2_7) hx hb hr (fun t ht hW => ⟨⟨x2_7, (), rfl, (Option.some.inj hf), by rw [ht]; exact hP9, va_K.moved hW.alike hK9, hD9⟩, hS.F ht⟩) hS.2.2 dX0_classAt_66

def f_isRed (F : Nat) (dd : Int32) (rt : Int32) (a1 : Int64) (b1 : Int64) (c1 : Int64) : Option (Int32) := (if (0 : Int32) ≤ dd then Option.bind (f_absJ F a1) (fun r_1 => bnd (2 * r_1) (fun v2_2 => (if (lg_cmp b1 0) ≤ 0 then some 0 else (if (0 : Int32) < (lg_cmp b1 ((rt).toInt64)) then some 0 else (if (lg_cmp (v2_2 + b1) ((rt).toInt64)) ≤ 0 then some 0 else (if (0 : Int32) < (lg_cmp (v2_2 - b1) ((rt).toInt64)) then some 0 else some 1)))))) else Option.bind (f_absJ F b1) (fun r_3 => (if (0 : Int32) < (lg_cmp r_3 a1) then some 0 else (if (0 : Int32) < (lg_cmp a1 c1) then some 0 else (if (0 : Int32) ≤ (lg_cmp b1 0) then some 1 else (if (0 : Int32) ≤ (lg_cmp (-b1) a1) then some 0 else (if (0 : Int32) ≤ (lg_cmp a1 c1) then some 0 else some 1)))))))
set_option maxHeartbeats 4000000 in
set_option maxRecDepth 100000 in
theorem c_isRed (l : Launch) (dC : Nat → ClassId) (dI : Nat → Nat → Nat) (ph : Nat) (dd : Int32) (rt : Int32) (cl : Int32) (rf : Int32) (pr : Int32) (pn : Nat) (gk : Int32) (go : Int32) (gc : Int32) (pg : Nat) (ps : Nat) (po : Nat) (pc : Nat) (pe : Nat) (p1 : Nat) (p2 : Nat) (pz : Nat) (pf : Nat) (a1 : Int64) (b1 : Int64) (c1 : Int64) (sz : Nat) (F : Nat) (out : Int32) (hf : f_isRed F dd rt a1 b1 c1 = some out) : Met l yX0_isReduced wsX0_isReduced ({ frames := 1, cells := 0, slots := 0, locals := 21 }) (va_Pc [.ref ph, .ref pf] (fun U => U.heap.size = sz ∧ va_P (dC, dI) vwCl [(ph, .inr (0, [.int dd, .int rt, .int cl, .int rf, .int pr, .ref pn, .int gk, .int go, .int gc, .ref pg, .ref ps, .ref po, .ref pc, .ref pe, .ref p1, .ref p2, .ref pz])), (pf, .inr (1, [.long a1, .long b1, .long c1]))] U.heap ∧ va_K (dC, dI) vwCl [] U ∧ va_D (fun _ => True) [(ph, .inr (0, [.int dd, .int rt, .int cl, .int rf, .int pr, .ref pn, .int gk, .int go, .int gc, .ref pg, .ref ps, .ref po, .ref pc, .ref pe, .ref p1, .ref p2, .ref pz])), (pf, .inr (1, [.long a1, .long b1, .long c1]))])) (va_Qi (fun (r : Int32) (u : Unit) => r = out) (fun (u : Unit) t => match u with | _ => va_P (dC, dI) vwCl [(ph, .inr (0, [.int dd, .int rt, .int cl, .int rf, .int pr, .ref pn, .int gk, .int go, .int gc, .ref pg, .ref ps, .ref po, .ref pc, .ref pe, .ref p1, .ref p2, .ref pz])), (pf, .inr (1, [.long a1, .long b1, .long c1]))] t.heap ∧ va_K (dC, dI) vwCl [] t ∧ va_D (va_A [(ph, .inr (0, [.int dd, .int rt, .int cl, .int rf, .int pr, .ref pn, .int gk, .int go, .int gc, .ref pg, .ref ps, .ref po, .ref pc, .ref pe, .ref p1, .ref p2, .ref pz])), (pf, .inr (1, [.long a1, .long b1, .long c1]))] sz) [(ph, .inr (0, [.int dd, .int rt, .int cl, .int rf, .int pr, .ref pn, .int gk, .int go, .int gc, .ref pg, .ref ps, .ref po, .ref pc, .ref pe, .ref p1, .ref p2, .ref pz])), (pf, .inr (1, [.long a1, .long b1, .long c1]))]) (va_A [(ph, .inr (0, [.int dd, .int rt, .int cl, .int rf, .int pr, .ref pn, .int gk, .int go, .int gc, .ref pg, .ref ps, .ref po, .ref pc, .ref pe, .ref p1, .ref p2, .ref pz])), (pf, .inr (1, [.long a1, .long b1, .long c1]))] sz)) 0 0 (va_A [(ph, .inr (0, [.int dd, .int rt, .int cl, .int rf, .int pr, .ref pn, .int gk, .int go, .int gc, .ref pg, .ref ps, .ref po, .ref pc, .ref pe, .ref p1, .ref p2, .ref pz])), (pf, .inr (1, [.long a1, .long b1, .long c1]))] sz) := by
  refine Met.ofW (cc := cX0_isReduced) (maxL := 4) (ret := (some .boolean)) (by decide +kernel) rfl ?_
  intro p e s m args below meth c s₁ B hml hv
  obtain ⟨rfl, hsz, hP, hK, hD0⟩ := hv
  have hx := B.exec
  have hb := B.bytes
  have hr := B.returns
  have hts := atoms_spec (ws := wsX0_isReduced) B.pre
  have hown : s.vm.findClass "ClassGroup" = some m.cls := findClass_of_methodNamed B.named
  have hlocks := B.notSynchronized
  subst hsz
  have hD := hD0.self (sz := s.heap.size)
  generalize hAe : va_A [(ph, .inr (0, [.int dd, .int rt, .int cl, .int rf, .int pr, .ref pn, .int gk, .int go, .int gc, .ref pg, .ref ps, .ref po, .ref pc, .ref pe, .ref p1, .ref p2, .ref pz])), (pf, .inr (1, [.long a1, .long b1, .long c1]))] s.heap.size = A at hD ⊢
  have hA : ∀ q : Nat, s.heap.size ≤ q → A q := fun q h => by rw [← hAe]; exact Or.inr h
  have hS : va_S A s.heap s.heap [] := va_S.rf
  have hl := lv_entry ([.ref ph, .ref pf]) (n := 4) (Nat.le_of_ble_eq_true rfl)
  rw [lg_entry_eq]
  generalize (lg_sl ([.ref ph, .ref pf]) ++ List.replicate (4 - (lg_sl ([.ref ph, .ref pf])).length) Slot.unset).toArray = ls at hl ⊢
  have hl : lv_has ls 4 [(0, .ref ph), (1, .ref pf)] := hl
  unfold f_isRed at hf
  refine lv_aload_n hx hb dX0_isReduced_0 rfl (lv_at hl 0 rfl) ?_
  refine va_get (D := (dC, dI)) (ci := 0) (v := .int dd) (C := "ClassGroup") (T := TX0) (N := 17) hx hb hts (fun w h => List.mem_cons_of_mem _ (iwX0 w h)) hown hK hP 0 rfl rfl 0 (by decide) (hts _ (List.mem_cons_of_mem _ kw_150)) (fun _ h9 => h9) rfl dX0_isReduced_1 ?_
  refine lv_if_ge (tgt := 74) hx hb dX0_isReduced_4 (by decide) (fun c_4 => ?_) (fun c_4 => ?_)
  · have hf := ok_t c_4 hf
    refine lv_ldc2 (v := 2) hx hb hown (hts _ (List.mem_cons_of_mem _ kw_122)) dX0_isReduced_74 ?_
    refine lv_aload_n hx hb dX0_isReduced_77 rfl (lv_at hl 1 rfl) ?_
    refine va_get (D := (dC, dI)) (ci := 1) (v := .long a1) (C := "ClassGroup$Form") (T := TX1) (N := 3) hx hb hts (fun w h => List.mem_cons_of_mem _ (iwX1 w h)) hown hK hP 1 rfl rfl 0 (by decide) (hts _ (List.mem_cons_of_mem _ kw_27)) (fun _ h9 => h9) rfl dX0_isReduced_78 ?_
    obtain ⟨xc81, hc81, hf⟩ := ok_b hf
    have hPc := hP.sub (ws' := []) [] rfl
    have hDc := hD.sub (ws' := []) [] (by decide) rfl
    have hKc := hK.sub (tys' := []) [] rfl
    have hFc := va_free (wc := []) hD hS hA [] rfl
    refine va_calll (va_runS (As := [.long a1]) (rest := [.long 2]) ⟨hx, hb, hml, hown, hts⟩ (c_absJ l dC dI a1 s.heap.size F xc81 hc81) (va_cwS 1 hts (gwS kw_119 kw_120 kw_4 kw_121) rfl rfl rfl (by decide +kernel) ⟨Nat.le_of_ble_eq_true rfl, Nat.le_of_ble_eq_true rfl⟩) ⟨fun a U g mk q => by obtain ⟨q0, q1, qP, qK, qD⟩ := q; exact ⟨q0, q1, qP, va_K.moved (u := U) (U := U.calling g mk a) (Vm.Alike.refl U.vm) qK, qD⟩, fun U hU hW => ⟨rfl, by rw [hU], by rw [hU]; exact hPc, va_K.moved hW.alike hKc, hDc.weaken (fun _ _ _ _ => trivial)⟩⟩ rfl rfl hl.1 rfl (lv_room (Nat.le_of_ble_eq_true rfl)) dX0_isReduced_81 ⟨Nat.zero_le _, Nat.zero_le _⟩) hS (fun q _ h => hFc q h) hFc (fun r_1 u t H1 locs ht hvm hw hB hz1 hk1 hS => ?_)
    obtain ⟨⟩ := u
    obtain ⟨hP1, hK1, hD1⟩ := hB
    rw [ht] at hP1
    subst hw
    obtain ⟨hP, hD⟩ := va_join (wr := [(ph, .inr (0, [.int dd, .int rt, .int cl, .int rf, .int pr, .ref pn, .int gk, .int go, .int gc, .ref pg, .ref ps, .ref po, .ref pc, .ref pe, .ref p1, .ref p2, .ref pz])), (pf, .inr (1, [.long a1, .long b1, .long c1]))]) (w1 := []) hP hD [] [0, 1] rfl rfl (by decide) (by decide) hk1 hFc hP1 hD1
    generalize H1 = H at hP hS ⊢
    have hP : va_P (dC, dI) vwCl [(ph, .inr (0, [.int dd, .int rt, .int cl, .int rf, .int pr, .ref pn, .int gk, .int go, .int gc, .ref pg, .ref ps, .ref po, .ref pc, .ref pe, .ref p1, .ref p2, .ref pz])), (pf, .inr (1, [.long a1, .long b1, .long c1]))] H := hP
    have hD : va_D A [(ph, .inr (0, [.int dd, .int rt, .int cl, .int rf, .int pr, .ref pn, .int gk, .int go, .int gc, .ref pg, .ref ps, .ref po, .ref pc, .ref pe, .ref p1, .ref p2, .ref pz])), (pf, .inr (1, [.long a1, .long b1, .long c1]))] := hD
    refine lv_lmul hx hb dX0_isReduced_84 ?_
    refine lv_topl (fun v2_2 ev2_2 => ?_)
    replace hf := bnd_ok ev2_2 hf
    refine lv_lstore_n (lv' := [(2, .long v2_2), (0, .ref ph), (1, .ref pf)]) hx hb dX0_isReduced_85 rfl hl (by decide) rfl (fun ls hl => ?_)
    refine lv_aload_n hx hb dX0_isReduced_86 rfl (lv_at hl 2 rfl) ?_
    refine va_get (D := (dC, dI)) (ci := 1) (v := .long b1) (C := "ClassGroup$Form") (T := TX1) (N := 3) hx hb hts (fun w h => List.mem_cons_of_mem _ (iwX1 w h)) hown hK hP 1 rfl rfl 1 (by decide) (hts _ (List.mem_cons_of_mem _ kw_29)) (fun _ h9 => h9) rfl dX0_isReduced_87 ?_
    refine lv_lconst (v := 0) hx hb dX0_isReduced_90 (by decide) ?_
    refine W.lcmp hx hb dX0_isReduced_91 ?_
    refine lv_if_le (tgt := 142) hx hb dX0_isReduced_92 (by decide) (fun c_92 => ?_) (fun c_92 => ?_)
    · have hf := ok_t c_92 hf
      refine lv_iconst (v := 0) hx hb dX0_isReduced_142 (by decide) ?_
      have hP9 := hP.sub (ws' := [(ph, .inr (0, [.int dd, .int rt, .int cl, .int rf, .int pr, .ref pn, .int gk, .int go, .int gc, .ref pg, .ref ps, .ref po, .ref pc, .ref pe, .ref p1, .ref p2, .ref pz])), (pf, .inr (1, [.long a1, .long b1, .long c1]))]) [0, 1] rfl
      have hD9 := hD.sub (ws' := [(ph, .inr (0, [.int dd, .int rt, .int cl, .int rf, .int pr, .ref pn, .int gk, .int go, .int gc, .ref pg, .ref ps, .ref po, .ref pc, .ref pe, .ref p1, .ref p2, .ref pz])), (pf, .inr (1, [.long a1, .long b1, .long c1]))]) [0, 1] (by decide) rfl
      have hK9 := hK.sub (tys' := []) [] rfl
      exact W.zret (v := 0) (ty := .boolean) hx hb hr rfl (fun t ht hW => ⟨⟨0, (), rfl, (Option.some.inj hf), by rw [ht]; exact hP9, va_K.moved hW.alike hK9, hD9⟩, hS.F ht⟩) hS.2.2 dX0_isReduced_143
    · have hf := ok_f c_92 hf
      refine lv_aload_n hx hb dX0_isReduced_95 rfl (lv_at hl 2 rfl) ?_
      refine va_get (D := (dC, dI)) (ci := 1) (v := .long b1) (C := "ClassGroup$Form") (T := TX1) (N := 3) hx hb hts (fun w h => List.mem_cons_of_mem _ (iwX1 w h)) hown hK hP 1 rfl rfl 1 (by decide) (hts _ (List.mem_cons_of_mem _ kw_29)) (fun _ h9 => h9) rfl dX0_isReduced_96 ?_
      refine lv_aload_n hx hb dX0_isReduced_99 rfl (lv_at hl 1 rfl) ?_
      refine va_get (D := (dC, dI)) (ci := 0) (v := .int rt) (C := "ClassGroup") (T := TX0) (N := 17) hx hb hts (fun w h => List.mem_cons_of_mem _ (iwX0 w h)) hown hK hP 0 rfl rfl 1 (by decide) (hts _ (List.mem_cons_of_mem _ kw_151)) (fun _ h9 => h9) rfl dX0_isReduced_100 ?_
      refine lv_i2l (v := (rt).toInt64) hx hb dX0_isReduced_103 rfl ?_
      refine W.lcmp hx hb dX0_isReduced_104 ?_
      refine lv_if_gt (tgt := 142) hx hb dX0_isReduced_105 (by decide) (fun c_105 => ?_) (fun c_105 => ?_)
      · have hf := ok_t c_105 hf
        refine lv_iconst (v := 0) hx hb dX0_isReduced_142 (by decide) ?_
        have hP9 := hP.sub (ws' := [(ph, .inr (0, [.int dd, .int rt, .int cl, .int rf, .int pr, .ref pn, .int gk, .int go, .int gc, .ref pg, .ref ps, .ref po, .ref pc, .ref pe, .ref p1, .ref p2, .ref pz])), (pf, .inr (1, [.long a1, .long b1, .long c1]))]) [0, 1] rfl
        have hD9 := hD.sub (ws' := [(ph, .inr (0, [.int dd, .int rt, .int cl, .int rf, .int pr, .ref pn, .int gk, .int go, .int gc, .ref pg, .ref ps, .ref po, .ref pc, .ref pe, .ref p1, .ref p2, .ref pz])), (pf, .inr (1, [.long a1, .long b1, .long c1]))]) [0, 1] (by decide) rfl
        have hK9 := hK.sub (tys' := []) [] rfl
        exact W.zret (v := 0) (ty := .boolean) hx hb hr rfl (fun t ht hW => ⟨⟨0, (), rfl, (Option.some.inj hf), by rw [ht]; exact hP9, va_K.moved hW.alike hK9, hD9⟩, hS.F ht⟩) hS.2.2 dX0_isReduced_143
      · have hf := ok_f c_105 hf
        refine lv_lload_n hx hb dX0_isReduced_108 rfl (lv_at hl 0 rfl) ?_
        refine lv_aload_n hx hb dX0_isReduced_109 rfl (lv_at hl 2 rfl) ?_
        refine va_get (D := (dC, dI)) (ci := 1) (v := .long b1) (C := "ClassGroup$Form") (T := TX1) (N := 3) hx hb hts (fun w h => List.mem_cons_of_mem _ (iwX1 w h)) hown hK hP 1 rfl rfl 1 (by decide) (hts _ (List.mem_cons_of_mem _ kw_29)) (fun _ h9 => h9) rfl dX0_isReduced_110 ?_
        refine lv_ladd hx hb dX0_isReduced_113 ?_
        refine lv_aload_n hx hb dX0_isReduced_114 rfl (lv_at hl 1 rfl) ?_
        refine va_get (D := (dC, dI)) (ci := 0) (v := .int rt) (C := "ClassGroup") (T := TX0) (N := 17) hx hb hts (fun w h => List.mem_cons_of_mem _ (iwX0 w h)) hown hK hP 0 rfl rfl 1 (by decide) (hts _ (List.mem_cons_of_mem _ kw_151)) (fun _ h9 => h9) rfl dX0_isReduced_115 ?_
        refine lv_i2l (v := (rt).toInt64) hx hb dX0_isReduced_118 rfl ?_
        refine W.lcmp hx hb dX0_isReduced_119 ?_
        refine lv_if_le (tgt := 142) hx hb dX0_isReduced_120 (by decide) (fun c_120 => ?_) (fun c_120 => ?_)
        · have hf := ok_t c_120 hf
          refine lv_iconst (v := 0) hx hb dX0_isReduced_142 (by decide) ?_
          have hP9 := hP.sub (ws' := [(ph, .inr (0, [.int dd, .int rt, .int cl, .int rf, .int pr, .ref pn, .int gk, .int go, .int gc, .ref pg, .ref ps, .ref po, .ref pc, .ref pe, .ref p1, .ref p2, .ref pz])), (pf, .inr (1, [.long a1, .long b1, .long c1]))]) [0, 1] rfl
          have hD9 := hD.sub (ws' := [(ph, .inr (0, [.int dd, .int rt, .int cl, .int rf, .int pr, .ref pn, .int gk, .int go, .int gc, .ref pg, .ref ps, .ref po, .ref pc, .ref pe, .ref p1, .ref p2, .ref pz])), (pf, .inr (1, [.long a1, .long b1, .long c1]))]) [0, 1] (by decide) rfl
          have hK9 := hK.sub (tys' := []) [] rfl
          exact W.zret (v := 0) (ty := .boolean) hx hb hr rfl (fun t ht hW => ⟨⟨0, (), rfl, (Option.some.inj hf), by rw [ht]; exact hP9, va_K.moved hW.alike hK9, hD9⟩, hS.F ht⟩) hS.2.2 dX0_isReduced_143
        · have hf := ok_f c_120 hf
          refine lv_lload_n hx hb dX0_isReduced_123 rfl (lv_at hl 0 rfl) ?_
          refine lv_aload_n hx hb dX0_isReduced_124 rfl (lv_at hl 2 rfl) ?_
          refine va_get (D := (dC, dI)) (ci := 1) (v := .long b1) (C := "ClassGroup$Form") (T := TX1) (N := 3) hx hb hts (fun w h => List.mem_cons_of_mem _ (iwX1 w h)) hown hK hP 1 rfl rfl 1 (by decide) (hts _ (List.mem_cons_of_mem _ kw_29)) (fun _ h9 => h9) rfl dX0_isReduced_125 ?_
          refine lv_lsub hx hb dX0_isReduced_128 ?_
          refine lv_aload_n hx hb dX0_isReduced_129 rfl (lv_at hl 1 rfl) ?_
          refine va_get (D := (dC, dI)) (ci := 0) (v := .int rt) (C := "ClassGroup") (T := TX0) (N := 17) hx hb hts (fun w h => List.mem_cons_of_mem _ (iwX0 w h)) hown hK hP 0 rfl rfl 1 (by decide) (hts _ (List.mem_cons_of_mem _ kw_151)) (fun _ h9 => h9) rfl dX0_isReduced_130 ?_
          refine lv_i2l (v := (rt).toInt64) hx hb dX0_isReduced_133 rfl ?_
          refine W.lcmp hx hb dX0_isReduced_134 ?_
          refine lv_if_gt (tgt := 142) hx hb dX0_isReduced_135 (by decide) (fun c_135 => ?_) (fun c_135 => ?_)
          · have hf := ok_t c_135 hf
            refine lv_iconst (v := 0) hx hb dX0_isReduced_142 (by decide) ?_
            have hP9 := hP.sub (ws' := [(ph, .inr (0, [.int dd, .int rt, .int cl, .int rf, .int pr, .ref pn, .int gk, .int go, .int gc, .ref pg, .ref ps, .ref po, .ref pc, .ref pe, .ref p1, .ref p2, .ref pz])), (pf, .inr (1, [.long a1, .long b1, .long c1]))]) [0, 1] rfl
            have hD9 := hD.sub (ws' := [(ph, .inr (0, [.int dd, .int rt, .int cl, .int rf, .int pr, .ref pn, .int gk, .int go, .int gc, .ref pg, .ref ps, .ref po, .ref pc, .ref pe, .ref p1, .ref p2, .ref pz])), (pf, .inr (1, [.long a1, .long b1, .long c1]))]) [0, 1] (by decide) rfl
            have hK9 := hK.sub (tys' := []) [] rfl
            exact W.zret (v := 0) (ty := .boolean) hx hb hr rfl (fun t ht hW => ⟨⟨0, (), rfl, (Option.some.inj hf), by rw [ht]; exact hP9, va_K.moved hW.alike hK9, hD9⟩, hS.F ht⟩) hS.2.2 dX0_isReduced_143
          · have hf := ok_f c_135 hf
            refine lv_iconst (v := 1) hx hb dX0_isReduced_138 (by decide) ?_
            refine lv_goto (tgt := 143) hx hb dX0_isReduced_139 (by decide) ?_
            have hP9 := hP.sub (ws' := [(ph, .inr (0, [.int dd, .int rt, .int cl, .int rf, .int pr, .ref pn, .int gk, .int go, .int gc, .ref pg, .ref ps, .ref po, .ref pc, .ref pe, .ref p1, .ref p2, .ref pz])), (pf, .inr (1, [.long a1, .long b1, .long c1]))]) [0, 1] rfl
            have hD9 := hD.sub (ws' := [(ph, .inr (0, [.int dd, .int rt, .int cl, .int rf, .int pr, .ref pn, .int gk, .int go, .int gc, .ref pg, .ref ps, .ref po, .ref pc, .ref pe, .ref p1, .ref p2, .ref pz])), (pf, .inr (1, [.long a1, .long b1, .long c1]))]) [0, 1] (by decide) rfl
            have hK9 := hK.sub (tys' := []) [] rfl
            exact W.zret (v := 1) (ty := .boolean) hx hb hr rfl (fun t ht hW => ⟨⟨1, (), rfl, (Option.some.inj hf), by rw [ht]; exact hP9, va_K.moved hW.alike hK9, hD9⟩, hS.F ht⟩) hS.2.2 dX0_isReduced_143
  · have hf := ok_f c_4 hf
    refine lv_aload_n hx hb dX0_isReduced_7 rfl (lv_at hl 1 rfl) ?_
    refine va_get (D := (dC, dI)) (ci := 1) (v := .long b1) (C := "ClassGroup$Form") (T := TX1) (N := 3) hx hb hts (fun w h => List.mem_cons_of_mem _ (iwX1 w h)) hown hK hP 1 rfl rfl 1 (by decide) (hts _ (List.mem_cons_of_mem _ kw_29)) (fun _ h9 => h9) rfl dX0_isReduced_8 ?_
    obtain ⟨xc11, hc11, hf⟩ := ok_b hf
    have hPc := hP.sub (ws' := []) [] rfl
    have hDc := hD.sub (ws' := []) [] (by decide) rfl
    have hKc := hK.sub (tys' := []) [] rfl
    have hFc := va_free (wc := []) hD hS hA [] rfl
    refine va_calll (va_runS (As := [.long b1]) (rest := []) ⟨hx, hb, hml, hown, hts⟩ (c_absJ l dC dI b1 s.heap.size F xc11 hc11) (va_cwS 1 hts (gwS kw_119 kw_120 kw_4 kw_121) rfl rfl rfl (by decide +kernel) ⟨Nat.le_of_ble_eq_true rfl, Nat.le_of_ble_eq_true rfl⟩) ⟨fun a U g mk q => by obtain ⟨q0, q1, qP, qK, qD⟩ := q; exact ⟨q0, q1, qP, va_K.moved (u := U) (U := U.calling g mk a) (Vm.Alike.refl U.vm) qK, qD⟩, fun U hU hW => ⟨rfl, by rw [hU], by rw [hU]; exact hPc, va_K.moved hW.alike hKc, hDc.weaken (fun _ _ _ _ => trivial)⟩⟩ rfl rfl hl.1 rfl (lv_room (Nat.le_of_ble_eq_true rfl)) dX0_isReduced_11 ⟨Nat.zero_le _, Nat.zero_le _⟩) hS (fun q _ h => hFc q h) hFc (fun r_3 u t H1 locs ht hvm hw hB hz1 hk1 hS => ?_)
    obtain ⟨⟩ := u
    obtain ⟨hP1, hK1, hD1⟩ := hB
    rw [ht] at hP1
    subst hw
    obtain ⟨hP, hD⟩ := va_join (wr := [(ph, .inr (0, [.int dd, .int rt, .int cl, .int rf, .int pr, .ref pn, .int gk, .int go, .int gc, .ref pg, .ref ps, .ref po, .ref pc, .ref pe, .ref p1, .ref p2, .ref pz])), (pf, .inr (1, [.long a1, .long b1, .long c1]))]) (w1 := []) hP hD [] [0, 1] rfl rfl (by decide) (by decide) hk1 hFc hP1 hD1
    generalize H1 = H at hP hS ⊢
    have hP : va_P (dC, dI) vwCl [(ph, .inr (0, [.int dd, .int rt, .int cl, .int rf, .int pr, .ref pn, .int gk, .int go, .int gc, .ref pg, .ref ps, .ref po, .ref pc, .ref pe, .ref p1, .ref p2, .ref pz])), (pf, .inr (1, [.long a1, .long b1, .long c1]))] H := hP
    have hD : va_D A [(ph, .inr (0, [.int dd, .int rt, .int cl, .int rf, .int pr, .ref pn, .int gk, .int go, .int gc, .ref pg, .ref ps, .ref po, .ref pc, .ref pe, .ref p1, .ref p2, .ref pz])), (pf, .inr (1, [.long a1, .long b1, .long c1]))] := hD
    refine lv_aload_n hx hb dX0_isReduced_14 rfl (lv_at hl 1 rfl) ?_
    refine va_get (D := (dC, dI)) (ci := 1) (v := .long a1) (C := "ClassGroup$Form") (T := TX1) (N := 3) hx hb hts (fun w h => List.mem_cons_of_mem _ (iwX1 w h)) hown hK hP 1 rfl rfl 0 (by decide) (hts _ (List.mem_cons_of_mem _ kw_27)) (fun _ h9 => h9) rfl dX0_isReduced_15 ?_
    refine W.lcmp hx hb dX0_isReduced_18 ?_
    refine lv_if_gt (tgt := 72) hx hb dX0_isReduced_19 (by decide) (fun c_19 => ?_) (fun c_19 => ?_)
    · have hf := ok_t c_19 hf
      refine lv_iconst (v := 0) hx hb dX0_isReduced_72 (by decide) ?_
      have hP9 := hP.sub (ws' := [(ph, .inr (0, [.int dd, .int rt, .int cl, .int rf, .int pr, .ref pn, .int gk, .int go, .int gc, .ref pg, .ref ps, .ref po, .ref pc, .ref pe, .ref p1, .ref p2, .ref pz])), (pf, .inr (1, [.long a1, .long b1, .long c1]))]) [0, 1] rfl
      have hD9 := hD.sub (ws' := [(ph, .inr (0, [.int dd, .int rt, .int cl, .int rf, .int pr, .ref pn, .int gk, .int go, .int gc, .ref pg, .ref ps, .ref po, .ref pc, .ref pe, .ref p1, .ref p2, .ref pz])), (pf, .inr (1, [.long a1, .long b1, .long c1]))]) [0, 1] (by decide) rfl
      have hK9 := hK.sub (tys' := []) [] rfl
      exact W.zret (v := 0) (ty := .boolean) hx hb hr rfl (fun t ht hW => ⟨⟨0, (), rfl, (Option.some.inj hf), by rw [ht]; exact hP9, va_K.moved hW.alike hK9, hD9⟩, hS.F ht⟩) hS.2.2 dX0_isReduced_73
    · have hf := ok_f c_19 hf
      refine lv_aload_n hx hb dX0_isReduced_22 rfl (lv_at hl 1 rfl) ?_
      refine va_get (D := (dC, dI)) (ci := 1) (v := .long a1) (C := "ClassGroup$Form") (T := TX1) (N := 3) hx hb hts (fun w h => List.mem_cons_of_mem _ (iwX1 w h)) hown hK hP 1 rfl rfl 0 (by decide) (hts _ (List.mem_cons_of_mem _ kw_27)) (fun _ h9 => h9) rfl dX0_isReduced_23 ?_
      refine lv_aload_n hx hb dX0_isReduced_26 rfl (lv_at hl 1 rfl) ?_
      refine va_get (D := (dC, dI)) (ci := 1) (v := .long c1) (C := "ClassGroup$Form") (T := TX1) (N := 3) hx hb hts (fun w h => List.mem_cons_of_mem _ (iwX1 w h)) hown hK hP 1 rfl rfl 2 (by decide) (hts _ (List.mem_cons_of_mem _ kw_31)) (fun _ h9 => h9) rfl dX0_isReduced_27 ?_
      refine W.lcmp hx hb dX0_isReduced_30 ?_
      refine lv_if_gt (tgt := 72) hx hb dX0_isReduced_31 (by decide) (fun c_31 => ?_) (fun c_31 => ?_)
      · have hf := ok_t c_31 hf
        refine lv_iconst (v := 0) hx hb dX0_isReduced_72 (by decide) ?_
        have hP9 := hP.sub (ws' := [(ph, .inr (0, [.int dd, .int rt, .int cl, .int rf, .int pr, .ref pn, .int gk, .int go, .int gc, .ref pg, .ref ps, .ref po, .ref pc, .ref pe, .ref p1, .ref p2, .ref pz])), (pf, .inr (1, [.long a1, .long b1, .long c1]))]) [0, 1] rfl
        have hD9 := hD.sub (ws' := [(ph, .inr (0, [.int dd, .int rt, .int cl, .int rf, .int pr, .ref pn, .int gk, .int go, .int gc, .ref pg, .ref ps, .ref po, .ref pc, .ref pe, .ref p1, .ref p2, .ref pz])), (pf, .inr (1, [.long a1, .long b1, .long c1]))]) [0, 1] (by decide) rfl
        have hK9 := hK.sub (tys' := []) [] rfl
        exact W.zret (v := 0) (ty := .boolean) hx hb hr rfl (fun t ht hW => ⟨⟨0, (), rfl, (Option.some.inj hf), by rw [ht]; exact hP9, va_K.moved hW.alike hK9, hD9⟩, hS.F ht⟩) hS.2.2 dX0_isReduced_73
      · have hf := ok_f c_31 hf
        refine lv_aload_n hx hb dX0_isReduced_34 rfl (lv_at hl 1 rfl) ?_
        refine va_get (D := (dC, dI)) (ci := 1) (v := .long b1) (C := "ClassGroup$Form") (T := TX1) (N := 3) hx hb hts (fun w h => List.mem_cons_of_mem _ (iwX1 w h)) hown hK hP 1 rfl rfl 1 (by decide) (hts _ (List.mem_cons_of_mem _ kw_29)) (fun _ h9 => h9) rfl dX0_isReduced_35 ?_
        refine lv_lconst (v := 0) hx hb dX0_isReduced_38 (by decide) ?_
        refine W.lcmp hx hb dX0_isReduced_39 ?_
        refine lv_if_ge (tgt := 68) hx hb dX0_isReduced_40 (by decide) (fun c_40 => ?_) (fun c_40 => ?_)
        · have hf := ok_t c_40 hf
          refine lv_iconst (v := 1) hx hb dX0_isReduced_68 (by decide) ?_
          refine lv_goto (tgt := 73) hx hb dX0_isReduced_69 (by decide) ?_
          have hP9 := hP.sub (ws' := [(ph, .inr (0, [.int dd, .int rt, .int cl, .int rf, .int pr, .ref pn, .int gk, .int go, .int gc, .ref pg, .ref ps, .ref po, .ref pc, .ref pe, .ref p1, .ref p2, .ref pz])), (pf, .inr (1, [.long a1, .long b1, .long c1]))]) [0, 1] rfl
          have hD9 := hD.sub (ws' := [(ph, .inr (0, [.int dd, .int rt, .int cl, .int rf, .int pr, .ref pn, .int gk, .int go, .int gc, .ref pg, .ref ps, .ref po, .ref pc, .ref pe, .ref p1, .ref p2, .ref pz])), (pf, .inr (1, [.long a1, .long b1, .long c1]))]) [0, 1] (by decide) rfl
          have hK9 := hK.sub (tys' := []) [] rfl
          exact W.zret (v := 1) (ty := .boolean) hx hb hr rfl (fun t ht hW => ⟨⟨1, (), rfl, (Option.some.inj hf), by rw [ht]; exact hP9, va_K.moved hW.alike hK9, hD9⟩, hS.F ht⟩) hS.2.2 dX0_isReduced_73
        · have hf := ok_f c_40 hf
          refine lv_aload_n hx hb dX0_isReduced_43 rfl (lv_at hl 1 rfl) ?_
          refine va_get (D := (dC, dI)) (ci := 1) (v := .long b1) (C := "ClassGroup$Form") (T := TX1) (N := 3) hx hb hts (fun w h => List.mem_cons_of_mem _ (iwX1 w h)) hown hK hP 1 rfl rfl 1 (by decide) (hts _ (List.mem_cons_of_mem _ kw_29)) (fun _ h9 => h9) rfl dX0_isReduced_44 ?_
          refine lv_lneg hx hb dX0_isReduced_47 ?_
          refine lv_aload_n hx hb dX0_isReduced_48 rfl (lv_at hl 1 rfl) ?_
          refine va_get (D := (dC, dI)) (ci := 1) (v := .long a1) (C := "ClassGroup$Form") (T := TX1) (N := 3) hx hb hts (fun w h => List.mem_cons_of_mem _ (iwX1 w h)) hown hK hP 1 rfl rfl 0 (by decide) (hts _ (List.mem_cons_of_mem _ kw_27)) (fun _ h9 => h9) rfl dX0_isReduced_49 ?_
          refine W.lcmp hx hb dX0_isReduced_52 ?_
          refine lv_if_ge (tgt := 72) hx hb dX0_isReduced_53 (by decide) (fun c_53 => ?_) (fun c_53 => ?_)
          · have hf := ok_t c_53 hf
            refine lv_iconst (v := 0) hx hb dX0_isReduced_72 (by decide) ?_
            have hP9 := hP.sub (ws' := [(ph, .inr (0, [.int dd, .int rt, .int cl, .int rf, .int pr, .ref pn, .int gk, .int go, .int gc, .ref pg, .ref ps, .ref po, .ref pc, .ref pe, .ref p1, .ref p2, .ref pz])), (pf, .inr (1, [.long a1, .long b1, .long c1]))]) [0, 1] rfl
            have hD9 := hD.sub (ws' := [(ph, .inr (0, [.int dd, .int rt, .int cl, .int rf, .int pr, .ref pn, .int gk, .int go, .int gc, .ref pg, .ref ps, .ref po, .ref pc, .ref pe, .ref p1, .ref p2, .ref pz])), (pf, .inr (1, [.long a1, .long b1, .long c1]))]) [0, 1] (by decide) rfl
            have hK9 := hK.sub (tys' := []) [] rfl
            exact W.zret (v := 0) (ty := .boolean) hx hb hr rfl (fun t ht hW => ⟨⟨0, (), rfl, (Option.some.inj hf), by rw [ht]; exact hP9, va_K.moved hW.alike hK9, hD9⟩, hS.F ht⟩) hS.2.2 dX0_isReduced_73
          · have hf := ok_f c_53 hf
            refine lv_aload_n hx hb dX0_isReduced_56 rfl (lv_at hl 1 rfl) ?_
            refine va_get (D := (dC, dI)) (ci := 1) (v := .long a1) (C := "ClassGroup$Form") (T := TX1) (N := 3) hx hb hts (fun w h => List.mem_cons_of_mem _ (iwX1 w h)) hown hK hP 1 rfl rfl 0 (by decide) (hts _ (List.mem_cons_of_mem _ kw_27)) (fun _ h9 => h9) rfl dX0_isReduced_57 ?_
            refine lv_aload_n hx hb dX0_isReduced_60 rfl (lv_at hl 1 rfl) ?_
            refine va_get (D := (dC, dI)) (ci := 1) (v := .long c1) (C := "ClassGroup$Form") (T := TX1) (N := 3) hx hb hts (fun w h => List.mem_cons_of_mem _ (iwX1 w h)) hown hK hP 1 rfl rfl 2 (by decide) (hts _ (List.mem_cons_of_mem _ kw_31)) (fun _ h9 => h9) rfl dX0_isReduced_61 ?_
            refine W.lcmp hx hb dX0_isReduced_64 ?_
            refine lv_if_ge (tgt := 72) hx hb dX0_isReduced_65 (by decide) (fun c_65 => ?_) (fun c_65 => ?_)
            · have hf := ok_t c_65 hf
              refine lv_iconst (v := 0) hx hb dX0_isReduced_72 (by decide) ?_
              have hP9 := hP.sub (ws' := [(ph, .inr (0, [.int dd, .int rt, .int cl, .int rf, .int pr, .ref pn, .int gk, .int go, .int gc, .ref pg, .ref ps, .ref po, .ref pc, .ref pe, .ref p1, .ref p2, .ref pz])), (pf, .inr (1, [.long a1, .long b1, .long c1]))]) [0, 1] rfl
              have hD9 := hD.sub (ws' := [(ph, .inr (0, [.int dd, .int rt, .int cl, .int rf, .int pr, .ref pn, .int gk, .int go, .int gc, .ref pg, .ref ps, .ref po, .ref pc, .ref pe, .ref p1, .ref p2, .ref pz])), (pf, .inr (1, [.long a1, .long b1, .long c1]))]) [0, 1] (by decide) rfl
              have hK9 := hK.sub (tys' := []) [] rfl
              exact W.zret (v := 0) (ty := .boolean) hx hb hr rfl (fun t ht hW => ⟨⟨0, (), rfl, (Option.some.inj hf), by rw [ht]; exact hP9, va_K.moved hW.alike hK9, hD9⟩, hS.F ht⟩) hS.2.2 dX0_isReduced_73
            · have hf := ok_f c_65 hf
              refine lv_iconst (v := 1) hx hb dX0_isReduced_68 (by decide) ?_
              refine lv_goto (tgt := 73) hx hb dX0_isReduced_69 (by decide) ?_
              have hP9 := hP.sub (ws' := [(ph, .inr (0, [.int dd, .int rt, .int cl, .int rf, .int pr, .ref pn, .int gk, .int go, .int gc, .ref pg, .ref ps, .ref po, .ref pc, .ref pe, .ref p1, .ref p2, .ref pz])), (pf, .inr (1, [.long a1, .long b1, .long c1]))]) [0, 1] rfl
              have hD9 := hD.sub (ws' := [(ph, .inr (0, [.int dd, .int rt, .int cl, .int rf, .int pr, .ref pn, .int gk, .int go, .int gc, .ref pg, .ref ps, .ref po, .ref pc, .ref pe, .ref p1, .ref p2, .ref pz])), (pf, .inr (1, [.long a1, .long b1, .long c1]))]) [0, 1] (by decide) rfl
              have hK9 := hK.sub (tys' := []) [] rfl
              exact W.zret (v := 1) (ty := .boolean) hx hb hr rfl (fun t ht hW => ⟨⟨1, (), rfl, (Option.some.inj hf), by rw [ht]; exact hP9, va_K.moved hW.alike hK9, hD9⟩, hS.F ht⟩) hS.2.2 dX0_isReduced_73

def f_canTake (F : Nat) (x0 : Int32) : Option (Int32) := (if x0 < (-1048576) then some 0 else (if (1048576 : Int32) < x0 then some 0 else Option.bind (f_fmodI F x0 4) (fun r_1 => (if r_1 ≤ 1 then Option.bind (f_rootOf F x0) (fun r_2 => (if (r_2 * r_2) = x0 then some 0 else some 1)) else some 0))))
set_option maxHeartbeats 4000000 in
set_option maxRecDepth 100000 in
theorem c_canTake (l : Launch) (dC : Nat → ClassId) (dI : Nat → Nat → Nat) (x0 : Int32) (sz : Nat) (F : Nat) (out : Int32) (hf : f_canTake F x0 = some out) : Met l yX0_canBeTaken wsX0_canBeTaken ({ frames := 1, cells := 0, slots := 0, locals := 22 }) (va_Pc [.int x0] (fun U => U.heap.size = sz ∧ va_P (dC, dI) vwCl [] U.heap ∧ va_K (dC, dI) vwCl [] U ∧ va_D (fun _ => True) [])) (va_Qi (fun (r : Int32) (u : Unit) => r = out) (fun (u : Unit) t => match u with | _ => va_P (dC, dI) vwCl [] t.heap ∧ va_K (dC, dI) vwCl [] t ∧ va_D (va_A [] sz) []) (va_A [] sz)) 0 0 (va_A [] sz) := by
  refine Met.ofW (cc := cX0_canBeTaken) (maxL := 2) (ret := (some .boolean)) (by decide +kernel) rfl ?_
  intro p e s m args below meth c s₁ B hml hv
  obtain ⟨rfl, hsz, hP, hK, hD0⟩ := hv
  have hx := B.exec
  have hb := B.bytes
  have hr := B.returns
  have hts := atoms_spec (ws := wsX0_canBeTaken) B.pre
  have hown : s.vm.findClass "ClassGroup" = some m.cls := findClass_of_methodNamed B.named
  have hlocks := B.notSynchronized
  subst hsz
  have hD := hD0.self (sz := s.heap.size)
  generalize hAe : va_A [] s.heap.size = A at hD ⊢
  have hA : ∀ q : Nat, s.heap.size ≤ q → A q := fun q h => by rw [← hAe]; exact Or.inr h
  have hS : va_S A s.heap s.heap [] := va_S.rf
  have hl := lv_entry ([.int x0]) (n := 2) (Nat.le_of_ble_eq_true rfl)
  rw [lg_entry_eq]
  generalize (lg_sl ([.int x0]) ++ List.replicate (2 - (lg_sl ([.int x0])).length) Slot.unset).toArray = ls at hl ⊢
  have hl : lv_has ls 2 [(0, .int x0)] := hl
  unfold f_canTake at hf
  refine lv_iload_n hx hb dX0_canBeTaken_0 rfl (lv_at hl 0 rfl) ?_
  refine lv_ldc (v := (-1048576)) hx hb hown (hts _ (List.mem_cons_of_mem _ kw_267)) dX0_canBeTaken_1 ?_
  refine lv_icmp_lt (tgt := 21) hx hb dX0_canBeTaken_3 (by decide) (fun c_3 => ?_) (fun c_3 => ?_)
  · have hf := ok_t c_3 hf
    refine lv_iconst (v := 0) hx hb dX0_canBeTaken_21 (by decide) ?_
    have hP9 := hP.sub (ws' := []) [] rfl
    have hD9 := hD.sub (ws' := []) [] (by decide) rfl
    have hK9 := hK.sub (tys' := []) [] rfl
    exact W.zret (v := 0) (ty := .boolean) hx hb hr rfl (fun t ht hW => ⟨⟨0, (), rfl, (Option.some.inj hf), by rw [ht]; exact hP9, va_K.moved hW.alike hK9, hD9⟩, hS.F ht⟩) hS.2.2 dX0_canBeTaken_22
  · have hf := ok_f c_3 hf
    refine lv_iload_n hx hb dX0_canBeTaken_6 rfl (lv_at hl 0 rfl) ?_
    refine lv_ldc (v := 1048576) hx hb hown (hts _ (List.mem_cons_of_mem _ kw_268)) dX0_canBeTaken_7 ?_
    refine lv_icmp_gt (tgt := 21) hx hb dX0_canBeTaken_9 (by decide) (fun c_9 => ?_) (fun c_9 => ?_)
    · have hf := ok_t c_9 hf
      refine lv_iconst (v := 0) hx hb dX0_canBeTaken_21 (by decide) ?_
      have hP9 := hP.sub (ws' := []) [] rfl
      have hD9 := hD.sub (ws' := []) [] (by decide) rfl
      have hK9 := hK.sub (tys' := []) [] rfl
      exact W.zret (v := 0) (ty := .boolean) hx hb hr rfl (fun t ht hW => ⟨⟨0, (), rfl, (Option.some.inj hf), by rw [ht]; exact hP9, va_K.moved hW.alike hK9, hD9⟩, hS.F ht⟩) hS.2.2 dX0_canBeTaken_22
    · have hf := ok_f c_9 hf
      refine lv_iload_n hx hb dX0_canBeTaken_12 rfl (lv_at hl 0 rfl) ?_
      refine lv_iconst (v := 4) hx hb dX0_canBeTaken_13 (by decide) ?_
      obtain ⟨xc14, hc14, hf⟩ := ok_b hf
      have hPc := hP.sub (ws' := []) [] rfl
      have hDc := hD.sub (ws' := []) [] (by decide) rfl
      have hKc := hK.sub (tys' := []) [] rfl
      have hFc := va_free (wc := []) hD hS hA [] rfl
      refine va_calli (va_runS (As := [.int x0, .int 4]) (rest := []) ⟨hx, hb, hml, hown, hts⟩ (c_fmodI l dC dI x0 4 s.heap.size F xc14 hc14) (va_cwS 2 hts (gwS kw_269 kw_270 kw_4 kw_271) rfl rfl rfl (by decide +kernel) ⟨Nat.le_of_ble_eq_true rfl, Nat.le_of_ble_eq_true rfl⟩) ⟨fun a U g mk q => by obtain ⟨q0, q1, qP, qK, qD⟩ := q; exact ⟨q0, q1, qP, va_K.moved (u := U) (U := U.calling g mk a) (Vm.Alike.refl U.vm) qK, qD⟩, fun U hU hW => ⟨rfl, by rw [hU], by rw [hU]; exact hPc, va_K.moved hW.alike hKc, hDc.weaken (fun _ _ _ _ => trivial)⟩⟩ rfl rfl hl.1 rfl (lv_room (Nat.le_of_ble_eq_true rfl)) dX0_canBeTaken_14 ⟨Nat.zero_le _, Nat.zero_le _⟩) hS (fun q _ h => hFc q h) hFc (fun r_1 u t H1 locs ht hvm hw hB hz1 hk1 hS => ?_)
      obtain ⟨⟩ := u
      obtain ⟨hP1, hK1, hD1⟩ := hB
      rw [ht] at hP1
      subst hw
      obtain ⟨hP, hD⟩ := va_join (wr := []) (w1 := []) hP hD [] [] rfl rfl (by decide) (by decide) hk1 hFc hP1 hD1
      generalize H1 = H at hP hS ⊢
      have hP : va_P (dC, dI) vwCl [] H := hP
      have hD : va_D A [] := hD
      refine lv_iconst (v := 1) hx hb dX0_canBeTaken_17 (by decide) ?_
      refine lv_icmp_le (tgt := 23) hx hb dX0_canBeTaken_18 (by decide) (fun c_18 => ?_) (fun c_18 => ?_)
      · have hf := ok_t c_18 hf
        refine lv_iload_n hx hb dX0_canBeTaken_23 rfl (lv_at hl 0 rfl) ?_
        obtain ⟨xc24, hc24, hf⟩ := ok_b hf
        have hPc := hP.sub (ws' := []) [] rfl
        have hDc := hD.sub (ws' := []) [] (by decide) rfl
        have hKc := hK.sub (tys' := []) [] rfl
        have hFc := va_free (wc := []) hD hS hA [] rfl
        refine va_calli (va_runS (As := [.int x0]) (rest := []) ⟨hx, hb, hml, hown, hts⟩ (c_rootOf l dC dI x0 H.size F xc24 hc24) (va_cwS 1 hts (gwS kw_63 kw_64 kw_1 kw_65) rfl rfl rfl (by decide +kernel) ⟨Nat.le_of_ble_eq_true rfl, Nat.le_of_ble_eq_true rfl⟩) ⟨fun a U g mk q => by obtain ⟨q0, q1, qP, qK, qD⟩ := q; exact ⟨q0, q1, qP, va_K.moved (u := U) (U := U.calling g mk a) (Vm.Alike.refl U.vm) qK, qD⟩, fun U hU hW => ⟨rfl, by rw [hU], by rw [hU]; exact hPc, va_K.moved hW.alike hKc, hDc.weaken (fun _ _ _ _ => trivial)⟩⟩ rfl rfl hl.1 rfl (lv_room (Nat.le_of_ble_eq_true rfl)) dX0_canBeTaken_24 ⟨Nat.zero_le _, Nat.zero_le _⟩) hS (fun q _ h => hFc q h) hFc (fun r_2 u t H1 locs ht hvm hw hB hz1 hk1 hS => ?_)
        obtain ⟨⟩ := u
        obtain ⟨hP1, hK1, hD1⟩ := hB
        rw [ht] at hP1
        subst hw
        obtain ⟨hP, hD⟩ := va_join (wr := []) (w1 := []) hP hD [] [] rfl rfl (by decide) (by decide) hk1 hFc hP1 hD1
        generalize H1 = H at hP hS ⊢
        have hP : va_P (dC, dI) vwCl [] H := hP
        have hD : va_D A [] := hD
        refine lv_istore_n (lv' := [(1, .int r_2), (0, .int x0)]) hx hb dX0_canBeTaken_27 rfl hl (by decide) rfl (fun ls hl => ?_)
        refine lv_iload_n hx hb dX0_canBeTaken_28 rfl (lv_at hl 0 rfl) ?_
        refine lv_iload_n hx hb dX0_canBeTaken_29 rfl (lv_at hl 0 rfl) ?_
        refine lv_imul hx hb dX0_canBeTaken_30 ?_
        refine lv_iload_n hx hb dX0_canBeTaken_31 rfl (lv_at hl 1 rfl) ?_
        refine lv_icmp_eq (tgt := 39) hx hb dX0_canBeTaken_32 (by decide) (fun c_32 => ?_) (fun c_32 => ?_)
        · have hf := ok_t c_32 hf
          refine lv_iconst (v := 0) hx hb dX0_canBeTaken_39 (by decide) ?_
          have hP9 := hP.sub (ws' := []) [] rfl
          have hD9 := hD.sub (ws' := []) [] (by decide) rfl
          have hK9 := hK.sub (tys' := []) [] rfl
          exact W.zret (v := 0) (ty := .boolean) hx hb hr rfl (fun t ht hW => ⟨⟨0, (), rfl, (Option.some.inj hf), by rw [ht]; exact hP9, va_K.moved hW.alike hK9, hD9⟩, hS.F ht⟩) hS.2.2 dX0_canBeTaken_40
        · have hf := ok_f c_32 hf
          refine lv_iconst (v := 1) hx hb dX0_canBeTaken_35 (by decide) ?_
          refine lv_goto (tgt := 40) hx hb dX0_canBeTaken_36 (by decide) ?_
          have hP9 := hP.sub (ws' := []) [] rfl
          have hD9 := hD.sub (ws' := []) [] (by decide) rfl
          have hK9 := hK.sub (tys' := []) [] rfl
          exact W.zret (v := 1) (ty := .boolean) hx hb hr rfl (fun t ht hW => ⟨⟨1, (), rfl, (Option.some.inj hf), by rw [ht]; exact hP9, va_K.moved hW.alike hK9, hD9⟩, hS.F ht⟩) hS.2.2 dX0_canBeTaken_40
      · have hf := ok_f c_18 hf
        refine lv_iconst (v := 0) hx hb dX0_canBeTaken_21 (by decide) ?_
        have hP9 := hP.sub (ws' := []) [] rfl
        have hD9 := hD.sub (ws' := []) [] (by decide) rfl
        have hK9 := hK.sub (tys' := []) [] rfl
        exact W.zret (v := 0) (ty := .boolean) hx hb hr rfl (fun t ht hW => ⟨⟨0, (), rfl, (Option.some.inj hf), by rw [ht]; exact hP9, va_K.moved hW.alike hK9, hD9⟩, hS.F ht⟩) hS.2.2 dX0_canBeTaken_22

def f_setTo (F : Nat) (dd : Int32) (cl : Int32) (An : Nat → Int32) (a1 : Int64) (b1 : Int64) (c1 : Int64) (x2 : Int32) : Option (Int64 × Int64 × Int64) := Option.bind (f_isClass F cl x2) (fun r_1 => (if r_1 = 0 then some (a1, b1, c1) else (if vin x2 1908 then bnd (An (x2).toNatClampNeg) (fun v3_2 => Option.bind (f_fdivI F (v3_2 + 2048) 4096) (fun r_3 => bnd (v3_2 - (r_3 * 4096)) (fun v5_4 => (if r_3 = 0 then some (a1, b1, c1) else (if ¬ (4 * r_3) = 0 then Option.bind (f_Form_set F ((r_3).toInt64) ((v5_4).toInt64) (((((v5_4 * v5_4) - dd) / (4 * r_3))).toInt64)) (fun (u_a1_5, u_b1_6, u_c1_7) => some (u_a1_5, u_b1_6, u_c1_7)) else none))))) else none)))
set_option maxHeartbeats 4000000 in
set_option maxRecDepth 100000 in
theorem c_setTo (l : Launch) (dC : Nat → ClassId) (dI : Nat → Nat → Nat) (ph : Nat) (dd : Int32) (rt : Int32) (cl : Int32) (rf : Int32) (pr : Int32) (pn : Nat) (gk : Int32) (go : Int32) (gc : Int32) (pg : Nat) (ps : Nat) (po : Nat) (pc : Nat) (pe : Nat) (p1 : Nat) (p2 : Nat) (pz : Nat) (tn : ClassId) (An : Nat → Int32) (pf : Nat) (a1 : Int64) (b1 : Int64) (c1 : Int64) (x2 : Int32) (sz : Nat) (F : Nat) (out : Int64 × Int64 × Int64) (hf : f_setTo F dd cl An a1 b1 c1 x2 = some out) : Met l yX0_setToName wsX0_setToName ({ frames := 1, cells := 0, slots := 0, locals := 26 }) (va_Pc [.ref ph, .ref pf, .int x2] (fun U => U.heap.size = sz ∧ va_P (dC, dI) vwCl [(ph, .inr (0, [.int dd, .int rt, .int cl, .int rf, .int pr, .ref pn, .int gk, .int go, .int gc, .ref pg, .ref ps, .ref po, .ref pc, .ref pe, .ref p1, .ref p2, .ref pz])), (pn, .inl (tn, 1908, .inl An)), (pf, .inr (1, [.long a1, .long b1, .long c1]))] U.heap ∧ va_K (dC, dI) vwCl [(tn, .int)] U ∧ va_D (fun _ => True) [(ph, .inr (0, [.int dd, .int rt, .int cl, .int rf, .int pr, .ref pn, .int gk, .int go, .int gc, .ref pg, .ref ps, .ref po, .ref pc, .ref pe, .ref p1, .ref p2, .ref pz])), (pn, .inl (tn, 1908, .inl An)), (pf, .inr (1, [.long a1, .long b1, .long c1]))])) (va_Qv (fun (u : Int64 × Int64 × Int64) => u = out) (fun (u : Int64 × Int64 × Int64) t => match u with | (u_a1, u_b1, u_c1) => va_P (dC, dI) vwCl [(ph, .inr (0, [.int dd, .int rt, .int cl, .int rf, .int pr, .ref pn, .int gk, .int go, .int gc, .ref pg, .ref ps, .ref po, .ref pc, .ref pe, .ref p1, .ref p2, .ref pz])), (pn, .inl (tn, 1908, .inl An)), (pf, .inr (1, [.long u_a1, .long u_b1, .long u_c1]))] t.heap ∧ va_K (dC, dI) vwCl [(tn, .int)] t ∧ va_D (va_A [(ph, .inr (0, [.int dd, .int rt, .int cl, .int rf, .int pr, .ref pn, .int gk, .int go, .int gc, .ref pg, .ref ps, .ref po, .ref pc, .ref pe, .ref p1, .ref p2, .ref pz])), (pn, .inl (tn, 1908, .inl An)), (pf, .inr (1, [.long a1, .long b1, .long c1]))] sz) [(ph, .inr (0, [.int dd, .int rt, .int cl, .int rf, .int pr, .ref pn, .int gk, .int go, .int gc, .ref pg, .ref ps, .ref po, .ref pc, .ref pe, .ref p1, .ref p2, .ref pz])), (pn, .inl (tn, 1908, .inl An)), (pf, .inr (1, [.long u_a1, .long u_b1, .long u_c1]))]) (va_A [(ph, .inr (0, [.int dd, .int rt, .int cl, .int rf, .int pr, .ref pn, .int gk, .int go, .int gc, .ref pg, .ref ps, .ref po, .ref pc, .ref pe, .ref p1, .ref p2, .ref pz])), (pn, .inl (tn, 1908, .inl An)), (pf, .inr (1, [.long a1, .long b1, .long c1]))] sz)) 0 0 (va_A [(ph, .inr (0, [.int dd, .int rt, .int cl, .int rf, .int pr, .ref pn, .int gk, .int go, .int gc, .ref pg, .ref ps, .ref po, .ref pc, .ref pe, .ref p1, .ref p2, .ref pz])), (pn, .inl (tn, 1908, .inl An)), (pf, .inr (1, [.long a1, .long b1, .long c1]))] sz) := by
  refine Met.ofW (cc := cX0_setToName) (maxL := 6) (ret := none) (by decide +kernel) rfl ?_
  intro p e s m args below meth c s₁ B hml hv
  obtain ⟨rfl, hsz, hP, hK, hD0⟩ := hv
  have hx := B.exec
  have hb := B.bytes
  have hr := B.returns
  have hts := atoms_spec (ws := wsX0_setToName) B.pre
  have hown : s.vm.findClass "ClassGroup" = some m.cls := findClass_of_methodNamed B.named
  have hlocks := B.notSynchronized
  subst hsz
  have hD := hD0.self (sz := s.heap.size)
  generalize hAe : va_A [(ph, .inr (0, [.int dd, .int rt, .int cl, .int rf, .int pr, .ref pn, .int gk, .int go, .int gc, .ref pg, .ref ps, .ref po, .ref pc, .ref pe, .ref p1, .ref p2, .ref pz])), (pn, .inl (tn, 1908, .inl An)), (pf, .inr (1, [.long a1, .long b1, .long c1]))] s.heap.size = A at hD ⊢
  have hA : ∀ q : Nat, s.heap.size ≤ q → A q := fun q h => by rw [← hAe]; exact Or.inr h
  have hS : va_S A s.heap s.heap [] := va_S.rf
  have hl := lv_entry ([.ref ph, .ref pf, .int x2]) (n := 6) (Nat.le_of_ble_eq_true rfl)
  rw [lg_entry_eq]
  generalize (lg_sl ([.ref ph, .ref pf, .int x2]) ++ List.replicate (6 - (lg_sl ([.ref ph, .ref pf, .int x2])).length) Slot.unset).toArray = ls at hl ⊢
  have hl : lv_has ls 6 [(0, .ref ph), (1, .ref pf), (2, .int x2)] := hl
  unfold f_setTo at hf
  refine lv_aload_n hx hb dX0_setToName_0 rfl (lv_at hl 0 rfl) ?_
  refine lv_iload_n hx hb dX0_setToName_1 rfl (lv_at hl 2 rfl) ?_
  obtain ⟨xc2, hc2, hf⟩ := ok_b hf
  have hPc := hP.sub (ws' := [(ph, .inr (0, [.int dd, .int rt, .int cl, .int rf, .int pr, .ref pn, .int gk, .int go, .int gc, .ref pg, .ref ps, .ref po, .ref pc, .ref pe, .ref p1, .ref p2, .ref pz]))]) [0] rfl
  have hDc := hD.sub (ws' := [(ph, .inr (0, [.int dd, .int rt, .int cl, .int rf, .int pr, .ref pn, .int gk, .int go, .int gc, .ref pg, .ref ps, .ref po, .ref pc, .ref pe, .ref p1, .ref p2, .ref pz]))]) [0] (by decide) rfl
  have hKc := hK.sub (tys' := []) [] rfl
  have hFc := va_free (wc := [(ph, .inr (0, [.int dd, .int rt, .int cl, .int rf, .int pr, .ref pn, .int gk, .int go, .int gc, .ref pg, .ref ps, .ref po, .ref pc, .ref pe, .ref p1, .ref p2, .ref pz]))]) hD hS hA [0] rfl
  refine va_calli (va_runV (As := [.int x2]) (rest := []) ⟨hx, hb, hml, hown, hts⟩ (c_isClass l dC dI ph dd rt cl rf pr pn gk go gc pg ps po pc pe p1 p2 pz x2 s.heap.size F xc2 hc2) (cwV 1 hts (gwV kw_146 kw_148 ks_14 kw_1 kw_149) rfl rfl rfl (by decide +kernel) ⟨Nat.le_of_ble_eq_true rfl, Nat.le_of_ble_eq_true rfl⟩) ⟨fun a U g mk q => by obtain ⟨q0, q1, qP, qK, qD⟩ := q; exact ⟨q0, q1, qP, va_K.moved (u := U) (U := U.calling g mk a) (Vm.Alike.refl U.vm) qK, qD⟩, va_recv hKc hPc (ci := 0) (q0 := 0) rfl rfl, fun U hU hW => ⟨rfl, by rw [hU], by rw [hU]; exact hPc, va_K.moved hW.alike hKc, hDc.weaken (fun _ _ _ _ => trivial)⟩⟩ rfl rfl hl.1 rfl (lv_room (Nat.le_of_ble_eq_true rfl)) dX0_setToName_2 ⟨Nat.zero_le _, Nat.zero_le _⟩) hS (fun q _ h => hFc q h) hFc (fun r_1 u t H1 locs ht hvm hw hB hz1 hk1 hS => ?_)
  obtain ⟨⟩ := u
  obtain ⟨hP1, hK1, hD1⟩ := hB
  rw [ht] at hP1
  subst hw
  obtain ⟨hP, hD⟩ := va_join (wr := [(pn, .inl (tn, 1908, .inl An)), (pf, .inr (1, [.long a1, .long b1, .long c1]))]) (w1 := [(ph, .inr (0, [.int dd, .int rt, .int cl, .int rf, .int pr, .ref pn, .int gk, .int go, .int gc, .ref pg, .ref ps, .ref po, .ref pc, .ref pe, .ref p1, .ref p2, .ref pz]))]) hP hD [0] [1, 2] rfl rfl (by decide) (by decide) hk1 hFc hP1 hD1
  generalize H1 = H at hP hS ⊢
  have hP : va_P (dC, dI) vwCl [(pn, .inl (tn, 1908, .inl An)), (pf, .inr (1, [.long a1, .long b1, .long c1])), (ph, .inr (0, [.int dd, .int rt, .int cl, .int rf, .int pr, .ref pn, .int gk, .int go, .int gc, .ref pg, .ref ps, .ref po, .ref pc, .ref pe, .ref p1, .ref p2, .ref pz]))] H := hP
  have hD : va_D A [(pn, .inl (tn, 1908, .inl An)), (pf, .inr (1, [.long a1, .long b1, .long c1])), (ph, .inr (0, [.int dd, .int rt, .int cl, .int rf, .int pr, .ref pn, .int gk, .int go, .int gc, .ref pg, .ref ps, .ref po, .ref pc, .ref pe, .ref p1, .ref p2, .ref pz]))] := hD
  refine lv_if_ne (tgt := 9) hx hb dX0_setToName_5 (by decide) (fun c_5 => ?_) (fun c_5 => ?_)
  · have hf := ok_f c_5 hf
    refine lv_aload_n hx hb dX0_setToName_9 rfl (lv_at hl 0 rfl) ?_
    refine va_get (D := (dC, dI)) (ci := 0) (v := .ref pn) (C := "ClassGroup") (T := TX0) (N := 17) hx hb hts (fun w h => List.mem_cons_of_mem _ (iwX0 w h)) hown hK hP 2 rfl rfl 5 (by decide) (hts _ (List.mem_cons_of_mem _ kw_155)) (fun _ h9 => h9) rfl dX0_setToName_10 ?_
    refine lv_iload_n hx hb dX0_setToName_13 rfl (lv_at hl 2 rfl) ?_
    obtain ⟨g_14, hf⟩ := ok_g hf
    refine va_iald hx hb hK hP 0 0 rfl rfl g_14 dX0_setToName_14 ?_
    refine lv_topi (fun v3_2 ev3_2 => ?_)
    replace hf := bnd_ok ev3_2 hf
    refine lv_istore_n (lv' := [(3, .int v3_2), (0, .ref ph), (1, .ref pf), (2, .int x2)]) hx hb dX0_setToName_15 rfl hl (by decide) rfl (fun ls hl => ?_)
    refine lv_iload_n hx hb dX0_setToName_16 rfl (lv_at hl 0 rfl) ?_
    refine lv_sipush (v := 2048) hx hb dX0_setToName_17 (by decide) ?_
    refine lv_iadd hx hb dX0_setToName_20 ?_
    refine lv_sipush (v := 4096) hx hb dX0_setToName_21 (by decide) ?_
    obtain ⟨xc24, hc24, hf⟩ := ok_b hf
    have hPc := hP.sub (ws' := []) [] rfl
    have hDc := hD.sub (ws' := []) [] (by decide) rfl
    have hKc := hK.sub (tys' := []) [] rfl
    have hFc := va_free (wc := []) hD hS hA [] rfl
    refine va_calli (va_runS (As := [.int (v3_2 + 2048), .int 4096]) (rest := []) ⟨hx, hb, hml, hown, hts⟩ (c_fdivI l dC dI (v3_2 + 2048) 4096 H.size F xc24 hc24) (va_cwS 2 hts (gwS kw_229 kw_230 kw_4 kw_231) rfl rfl rfl (by decide +kernel) ⟨Nat.le_of_ble_eq_true rfl, Nat.le_of_ble_eq_true rfl⟩) ⟨fun a U g mk q => by obtain ⟨q0, q1, qP, qK, qD⟩ := q; exact ⟨q0, q1, qP, va_K.moved (u := U) (U := U.calling g mk a) (Vm.Alike.refl U.vm) qK, qD⟩, fun U hU hW => ⟨rfl, by rw [hU], by rw [hU]; exact hPc, va_K.moved hW.alike hKc, hDc.weaken (fun _ _ _ _ => trivial)⟩⟩ rfl rfl hl.1 rfl (lv_room (Nat.le_of_ble_eq_true rfl)) dX0_setToName_24 ⟨Nat.zero_le _, Nat.zero_le _⟩) hS (fun q _ h => hFc q h) hFc (fun r_3 u t H1 locs ht hvm hw hB hz1 hk1 hS => ?_)
    obtain ⟨⟩ := u
    obtain ⟨hP1, hK1, hD1⟩ := hB
    rw [ht] at hP1
    subst hw
    obtain ⟨hP, hD⟩ := va_join (wr := [(pn, .inl (tn, 1908, .inl An)), (pf, .inr (1, [.long a1, .long b1, .long c1])), (ph, .inr (0, [.int dd, .int rt, .int cl, .int rf, .int pr, .ref pn, .int gk, .int go, .int gc, .ref pg, .ref ps, .ref po, .ref pc, .ref pe, .ref p1, .ref p2, .ref pz]))]) (w1 := []) hP hD [] [0, 1, 2] rfl rfl (by decide) (by decide) hk1 hFc hP1 hD1
    generalize H1 = H at hP hS ⊢
    have hP : va_P (dC, dI) vwCl [(pn, .inl (tn, 1908, .inl An)), (pf, .inr (1, [.long a1, .long b1, .long c1])), (ph, .inr (0, [.int dd, .int rt, .int cl, .int rf, .int pr, .ref pn, .int gk, .int go, .int gc, .ref pg, .ref ps, .ref po, .ref pc, .ref pe, .ref p1, .ref p2, .ref pz]))] H := hP
    have hD : va_D A [(pn, .inl (tn, 1908, .inl An)), (pf, .inr (1, [.long a1, .long b1, .long c1])), (ph, .inr (0, [.int dd, .int rt, .int cl, .int rf, .int pr, .ref pn, .int gk, .int go, .int gc, .ref pg, .ref ps, .ref po, .ref pc, .ref pe, .ref p1, .ref p2, .ref pz]))] := hD
    refine lv_istore (lv' := [(4, .int r_3), (3, .int v3_2), (0, .ref ph), (1, .ref pf), (2, .int x2)]) hx hb dX0_setToName_27 hl (by decide) rfl (fun ls hl => ?_)
    refine lv_iload_n hx hb dX0_setToName_29 rfl (lv_at hl 1 rfl) ?_
    refine lv_iload hx hb dX0_setToName_30 (lv_at hl 0 rfl) ?_
    refine lv_sipush (v := 4096) hx hb dX0_setToName_32 (by decide) ?_
    refine lv_imul hx hb dX0_setToName_35 ?_
    refine lv_isub hx hb dX0_setToName_36 ?_
    refine lv_topi (fun v5_4 ev5_4 => ?_)
    replace hf := bnd_ok ev5_4 hf
    refine lv_istore (lv' := [(5, .int v5_4), (4, .int r_3), (3, .int v3_2), (0, .ref ph), (1, .ref pf), (2, .int x2)]) hx hb dX0_setToName_37 hl (by decide) rfl (fun ls hl => ?_)
    refine lv_iload hx hb dX0_setToName_39 (lv_at hl 1 rfl) ?_
    refine lv_if_eq (tgt := 70) hx hb dX0_setToName_41 (by decide) (fun c_41 => ?_) (fun c_41 => ?_)
    · have hf := ok_t c_41 hf
      have hP9 := hP.sub (ws' := [(ph, .inr (0, [.int dd, .int rt, .int cl, .int rf, .int pr, .ref pn, .int gk, .int go, .int gc, .ref pg, .ref ps, .ref po, .ref pc, .ref pe, .ref p1, .ref p2, .ref pz])), (pn, .inl (tn, 1908, .inl An)), (pf, .inr (1, [.long a1, .long b1, .long c1]))]) [2, 0, 1] rfl
      have hD9 := hD.sub (ws' := [(ph, .inr (0, [.int dd, .int rt, .int cl, .int rf, .int pr, .ref pn, .int gk, .int go, .int gc, .ref pg, .ref ps, .ref po, .ref pc, .ref pe, .ref p1, .ref p2, .ref pz])), (pn, .inl (tn, 1908, .inl An)), (pf, .inr (1, [.long a1, .long b1, .long c1]))]) [2, 0, 1] (by decide) rfl
      have hK9 := hK.sub (tys' := [(tn, .int)]) [0] rfl
      exact W.vret hx hb hr (fun t ht hW => ⟨⟨(a1, b1, c1), rfl, (Option.some.inj hf), by rw [ht]; exact hP9, va_K.moved hW.alike hK9, hD9⟩, hS.F ht⟩) hS.2.2 dX0_setToName_70
    · have hf := ok_f c_41 hf
      refine lv_aload_n hx hb dX0_setToName_44 rfl (lv_at hl 4 rfl) ?_
      refine lv_iload hx hb dX0_setToName_45 (lv_at hl 1 rfl) ?_
      refine lv_i2l (v := (r_3).toInt64) hx hb dX0_setToName_47 rfl ?_
      refine lv_iload hx hb dX0_setToName_48 (lv_at hl 0 rfl) ?_
      refine lv_i2l (v := (v5_4).toInt64) hx hb dX0_setToName_50 rfl ?_
      refine lv_iload hx hb dX0_setToName_51 (lv_at hl 0 rfl) ?_
      refine lv_iload hx hb dX0_setToName_53 (lv_at hl 0 rfl) ?_
      refine lv_imul hx hb dX0_setToName_55 ?_
      refine lv_aload_n hx hb dX0_setToName_56 rfl (lv_at hl 3 rfl) ?_
      refine va_get (D := (dC, dI)) (ci := 0) (v := .int dd) (C := "ClassGroup") (T := TX0) (N := 17) hx hb hts (fun w h => List.mem_cons_of_mem _ (iwX0 w h)) hown hK hP 2 rfl rfl 0 (by decide) (hts _ (List.mem_cons_of_mem _ kw_150)) (fun _ h9 => h9) rfl dX0_setToName_57 ?_
      refine lv_isub hx hb dX0_setToName_60 ?_
      refine lv_iconst (v := 4) hx hb dX0_setToName_61 (by decide) ?_
      refine lv_iload hx hb dX0_setToName_62 (lv_at hl 1 rfl) ?_
      refine lv_imul hx hb dX0_setToName_64 ?_
      obtain ⟨g_65, hf⟩ := ok_g hf
      refine lv_idiv hx hb dX0_setToName_65 g_65 ?_
      refine lv_i2l (v := ((((v5_4 * v5_4) - dd) / (4 * r_3))).toInt64) hx hb dX0_setToName_66 rfl ?_
      obtain ⟨xc67, hc67, hf⟩ := ok_b hf
      have hPc := hP.sub (ws' := [(pf, .inr (1, [.long a1, .long b1, .long c1]))]) [1] rfl
      have hDc := hD.sub (ws' := [(pf, .inr (1, [.long a1, .long b1, .long c1]))]) [1] (by decide) rfl
      have hKc := hK.sub (tys' := []) [] rfl
      have hFc := va_free (wc := [(pf, .inr (1, [.long a1, .long b1, .long c1]))]) hD hS hA [1] rfl
      refine va_callv (va_runV (As := [.long (r_3).toInt64, .long (v5_4).toInt64, .long ((((v5_4 * v5_4) - dd) / (4 * r_3))).toInt64]) (rest := []) ⟨hx, hb, hml, hown, hts⟩ (c_Form_set l dC dI pf a1 b1 c1 ((r_3).toInt64) ((v5_4).toInt64) (((((v5_4 * v5_4) - dd) / (4 * r_3))).toInt64) H.size F xc67 hc67) (cwV 3 hts (gwV kw_104 kw_105 kw_106 kw_2 kw_107) rfl rfl rfl (by decide +kernel) ⟨Nat.le_of_ble_eq_true rfl, Nat.le_of_ble_eq_true rfl⟩) ⟨fun a U g mk q => by obtain ⟨q0, q1, qP, qK, qD⟩ := q; exact ⟨q0, q1, qP, va_K.moved (u := U) (U := U.calling g mk a) (Vm.Alike.refl U.vm) qK, qD⟩, va_recv hKc hPc (ci := 1) (q0 := 0) rfl rfl, fun U hU hW => ⟨rfl, by rw [hU], by rw [hU]; exact hPc, va_K.moved hW.alike hKc, hDc.weaken (fun _ _ _ _ => trivial)⟩⟩ rfl rfl hl.1 rfl (lv_room (Nat.le_of_ble_eq_true rfl)) dX0_setToName_67 ⟨Nat.zero_le _, Nat.zero_le _⟩) hS (fun q _ h => hFc q h) hFc (fun u t H1 locs ht hvm hw hB hz1 hk1 hS => ?_)
      obtain ⟨u_a1_5, u_b1_6, u_c1_7⟩ := u
      obtain ⟨hP1, hK1, hD1⟩ := hB
      rw [ht] at hP1
      subst hw
      obtain ⟨hP, hD⟩ := va_join (wr := [(pn, .inl (tn, 1908, .inl An)), (ph, .inr (0, [.int dd, .int rt, .int cl, .int rf, .int pr, .ref pn, .int gk, .int go, .int gc, .ref pg, .ref ps, .ref po, .ref pc, .ref pe, .ref p1, .ref p2, .ref pz]))]) (w1 := [(pf, .inr (1, [.long u_a1_5, .long u_b1_6, .long u_c1_7]))]) hP hD [1] [0, 2] rfl rfl (by decide) (by decide) hk1 hFc hP1 hD1
      generalize H1 = H at hP hS ⊢
      have hP : va_P (dC, dI) vwCl [(pn, .inl (tn, 1908, .inl An)), (ph, .inr (0, [.int dd, .int rt, .int cl, .int rf, .int pr, .ref pn, .int gk, .int go, .int gc, .ref pg, .ref ps, .ref po, .ref pc, .ref pe, .ref p1, .ref p2, .ref pz])), (pf, .inr (1, [.long u_a1_5, .long u_b1_6, .long u_c1_7]))] H := hP
      have hD : va_D A [(pn, .inl (tn, 1908, .inl An)), (ph, .inr (0, [.int dd, .int rt, .int cl, .int rf, .int pr, .ref pn, .int gk, .int go, .int gc, .ref pg, .ref ps, .ref po, .ref pc, .ref pe, .ref p1, .ref p2, .ref pz])), (pf, .inr (1, [.long u_a1_5, .long u_b1_6, .long u_c1_7]))] := hD
      have hP9 := hP.sub (ws' := [(ph, .inr (0, [.int dd, .int rt, .int cl, .int rf, .int pr, .ref pn, .int gk, .int go, .int gc, .ref pg, .ref ps, .ref po, .ref pc, .ref pe, .ref p1, .ref p2, .ref pz])), (pn, .inl (tn, 1908, .inl An)), (pf, .inr (1, [.long u_a1_5, .long u_b1_6, .long u_c1_7]))]) [1, 0, 2] rfl
      have hD9 := hD.sub (ws' := [(ph, .inr (0, [.int dd, .int rt, .int cl, .int rf, .int pr, .ref pn, .int gk, .int go, .int gc, .ref pg, .ref ps, .ref po, .ref pc, .ref pe, .ref p1, .ref p2, .ref pz])), (pn, .inl (tn, 1908, .inl An)), (pf, .inr (1, [.long u_a1_5, .long u_b1_6, .long u_c1_7]))]) [1, 0, 2] (by decide) rfl
      have hK9 := hK.sub (tys' := [(tn, .int)]) [0] rfl
      exact W.vret hx hb hr (fun t ht hW => ⟨⟨(u_a1_5, u_b1_6, u_c1_7), rfl, (Option.some.inj hf), by rw [ht]; exact hP9, va_K.moved hW.alike hK9, hD9⟩, hS.F ht⟩) hS.2.2 dX0_setToName_70
  · have hf := ok_t c_5 hf
    have hP9 := hP.sub (ws' := [(ph, .inr (0, [.int dd, .int rt, .int cl, .int rf, .int pr, .ref pn, .int gk, .int go, .int gc, .ref pg, .ref ps, .ref po, .ref pc, .ref pe, .ref p1, .ref p2, .ref pz])), (pn, .inl (tn, 1908, .inl An)), (pf, .inr (1, [.long a1, .long b1, .long c1]))]) [2, 0, 1] rfl
    have hD9 := hD.sub (ws' := [(ph, .inr (0, [.int dd, .int rt, .int cl, .int rf, .int pr, .ref pn, .int gk, .int go, .int gc, .ref pg, .ref ps, .ref po, .ref pc, .ref pe, .ref p1, .ref p2, .ref pz])), (pn, .inl (tn, 1908, .inl An)), (pf, .inr (1, [.long a1, .long b1, .long c1]))]) [2, 0, 1] (by decide) rfl
    have hK9 := hK.sub (tys' := [(tn, .int)]) [0] rfl
    exact W.vret hx hb hr (fun t ht hW => ⟨⟨(a1, b1, c1), rfl, (Option.some.inj hf), by rw [ht]; exact hP9, va_K.moved hW.alike hK9, hD9⟩, hS.F ht⟩) hS.2.2 dX0_setToName_8

