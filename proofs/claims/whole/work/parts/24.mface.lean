def f_m_isClass (F : Nat) (mmy : Int32) (x1 : Int32) : Option (Int32) := Option.bind (f_m_in F ((x1).toInt64) 0 (((mmy - 1)).toInt64)) (fun r_1 => (if (r_1 = 0 ∨ r_1 = 1) then some r_1 else none))
set_option maxHeartbeats 4000000 in
set_option maxRecDepth 100000 in
theorem c_m_isClass (l : Launch) (dC : Nat → ClassId) (dI : Nat → Nat → Nat) (qh : Nat) (mco : Int32) (md : Int64) (mw : Int64) (mfo : Int32) (qf : Nat) (qm : Nat) (qk : Nat) (mmy : Int32) (qn : Nat) (qo : Nat) (qi : Nat) (qx : Nat) (mpr : Int32) (mgn : Int32) (qg : Nat) (mli : Int32) (ql : Nat) (ma : Int64) (mb : Int64) (mc : Int64) (x1 : Int32) (sz : Nat) (F : Nat) (out : Int32) (hf : f_m_isClass F mmy x1 = some out) : Met l yX3_isClass wsX3_isClass ({ frames := 1, cells := 0, slots := 0, locals := 25 }) (va_Pc [.ref qh, .int x1] (fun U => U.heap.size = sz ∧ va_P (dC, dI) vwCl [(qh, .inr (3, [.int mco, .long md, .long mw, .int mfo, .ref qf, .ref qm, .ref qk, .int mmy, .ref qn, .ref qo, .ref qi, .ref qx, .int mpr, .int mgn, .ref qg, .int mli, .ref ql, .long ma, .long mb, .long mc]))] U.heap ∧ va_K (dC, dI) vwCl [] U ∧ va_D (fun _ => True) [(qh, .inr (3, [.int mco, .long md, .long mw, .int mfo, .ref qf, .ref qm, .ref qk, .int mmy, .ref qn, .ref qo, .ref qi, .ref qx, .int mpr, .int mgn, .ref qg, .int mli, .ref ql, .long ma, .long mb, .long mc]))])) (va_Qi (fun (r : Int32) (u : Unit) => r = out) (fun (u : Unit) t => match u with | _ => va_P (dC, dI) vwCl [(qh, .inr (3, [.int mco, .long md, .long mw, .int mfo, .ref qf, .ref qm, .ref qk, .int mmy, .ref qn, .ref qo, .ref qi, .ref qx, .int mpr, .int mgn, .ref qg, .int mli, .ref ql, .long ma, .long mb, .long mc]))] t.heap ∧ va_K (dC, dI) vwCl [] t ∧ va_D (va_A [(qh, .inr (3, [.int mco, .long md, .long mw, .int mfo, .ref qf, .ref qm, .ref qk, .int mmy, .ref qn, .ref qo, .ref qi, .ref qx, .int mpr, .int mgn, .ref qg, .int mli, .ref ql, .long ma, .long mb, .long mc]))] sz) [(qh, .inr (3, [.int mco, .long md, .long mw, .int mfo, .ref qf, .ref qm, .ref qk, .int mmy, .ref qn, .ref qo, .ref qi, .ref qx, .int mpr, .int mgn, .ref qg, .int mli, .ref ql, .long ma, .long mb, .long mc]))]) (va_A [(qh, .inr (3, [.int mco, .long md, .long mw, .int mfo, .ref qf, .ref qm, .ref qk, .int mmy, .ref qn, .ref qo, .ref qi, .ref qx, .int mpr, .int mgn, .ref qg, .int mli, .ref ql, .long ma, .long mb, .long mc]))] sz)) 0 0 (va_A [(qh, .inr (3, [.int mco, .long md, .long mw, .int mfo, .ref qf, .ref qm, .ref qk, .int mmy, .ref qn, .ref qo, .ref qi, .ref qx, .int mpr, .int mgn, .ref qg, .int mli, .ref ql, .long ma, .long mb, .long mc]))] sz) := by
  refine Met.ofW (cc := cX3_isClass) (maxL := 2) (ret := (some .boolean)) (by decide +kernel) rfl ?_
  intro p e s m args below meth c s₁ B hml hv
  obtain ⟨rfl, hsz, hP, hK, hD0⟩ := hv
  have hx := B.exec
  have hb := B.bytes
  have hr := B.returns
  have hts := atoms_spec (ws := wsX3_isClass) B.pre
  have hown : s.vm.findClass "ClassGroupModel" = some m.cls := findClass_of_methodNamed B.named
  have hlocks := B.notSynchronized
  subst hsz
  have hD := hD0.self (sz := s.heap.size)
  generalize hAe : va_A [(qh, .inr (3, [.int mco, .long md, .long mw, .int mfo, .ref qf, .ref qm, .ref qk, .int mmy, .ref qn, .ref qo, .ref qi, .ref qx, .int mpr, .int mgn, .ref qg, .int mli, .ref ql, .long ma, .long mb, .long mc]))] s.heap.size = A at hD ⊢
  have hA : ∀ q : Nat, s.heap.size ≤ q → A q := fun q h => by rw [← hAe]; exact Or.inr h
  have hS : va_S A s.heap s.heap [] := va_S.rf
  have hl := lv_entry ([.ref qh, .int x1]) (n := 2) (Nat.le_of_ble_eq_true rfl)
  rw [lg_entry_eq]
  generalize (lg_sl ([.ref qh, .int x1]) ++ List.replicate (2 - (lg_sl ([.ref qh, .int x1])).length) Slot.unset).toArray = ls at hl ⊢
  have hl : lv_has ls 2 [(0, .ref qh), (1, .int x1)] := hl
  unfold f_m_isClass at hf
  refine lv_iload_n hx hb dX3_isClass_0 rfl (lv_at hl 1 rfl) ?_
  refine lv_i2l (v := (x1).toInt64) hx hb dX3_isClass_1 rfl ?_
  refine lv_lconst (v := 0) hx hb dX3_isClass_2 (by decide) ?_
  refine lv_aload_n hx hb dX3_isClass_3 rfl (lv_at hl 0 rfl) ?_
  refine va_get (D := (dC, dI)) (ci := 3) (v := .int mmy) (C := "ClassGroupModel") (T := TX3) (N := 20) hx hb hts (fun w h => List.mem_cons_of_mem _ (iwX3 w h)) hown hK hP 0 rfl rfl 7 (by decide) (hts _ (List.mem_cons_of_mem _ kw_514)) (fun _ h9 => h9) rfl dX3_isClass_4 ?_
  refine lv_iconst (v := 1) hx hb dX3_isClass_7 (by decide) ?_
  refine lv_isub hx hb dX3_isClass_8 ?_
  refine lv_i2l (v := ((mmy - 1)).toInt64) hx hb dX3_isClass_9 rfl ?_
  obtain ⟨xc10, hc10, hf⟩ := ok_b hf
  have hPc := hP.sub (ws' := []) [] rfl
  have hDc := hD.sub (ws' := []) [] (by decide) rfl
  have hKc := hK.sub (tys' := []) [] rfl
  have hFc := va_free (wc := []) hD hS hA [] rfl
  refine va_calli (va_runS (As := [.long (x1).toInt64, .long 0, .long ((mmy - 1)).toInt64]) (rest := []) ⟨hx, hb, hml, hown, hts⟩ (c_m_in l dC dI ((x1).toInt64) 0 (((mmy - 1)).toInt64) s.heap.size F xc10 hc10) (va_cwS 3 hts (gwS kw_579 kw_580 kw_5 kw_581) rfl rfl rfl (by decide +kernel) ⟨Nat.le_of_ble_eq_true rfl, Nat.le_of_ble_eq_true rfl⟩) ⟨fun a U g mk q => by obtain ⟨q0, q1, qP, qK, qD⟩ := q; exact ⟨q0, q1, qP, va_K.moved (u := U) (U := U.calling g mk a) (Vm.Alike.refl U.vm) qK, qD⟩, fun U hU hW => ⟨rfl, by rw [hU], by rw [hU]; exact hPc, va_K.moved hW.alike hKc, hDc.weaken (fun _ _ _ _ => trivial)⟩⟩ rfl rfl hl.1 rfl (lv_room (Nat.le_of_ble_eq_true rfl)) dX3_isClass_10 ⟨Nat.zero_le _, Nat.zero_le _⟩) hS (fun q _ h => hFc q h) hFc (fun r_1 u t H1 locs ht hvm hw hB hz1 hk1 hS => ?_)
  obtain ⟨⟩ := u
  obtain ⟨hP1, hK1, hD1⟩ := hB
  rw [ht] at hP1
  subst hw
  obtain ⟨hP, hD⟩ := va_join (wr := [(qh, .inr (3, [.int mco, .long md, .long mw, .int mfo, .ref qf, .ref qm, .ref qk, .int mmy, .ref qn, .ref qo, .ref qi, .ref qx, .int mpr, .int mgn, .ref qg, .int mli, .ref ql, .long ma, .long mb, .long mc]))]) (w1 := []) hP hD [] [0] rfl rfl (by decide) (by decide) hk1 hFc hP1 hD1
  generalize H1 = H at hP hS ⊢
  have hP : va_P (dC, dI) vwCl [(qh, .inr (3, [.int mco, .long md, .long mw, .int mfo, .ref qf, .ref qm, .ref qk, .int mmy, .ref qn, .ref qo, .ref qi, .ref qx, .int mpr, .int mgn, .ref qg, .int mli, .ref ql, .long ma, .long mb, .long mc]))] H := hP
  have hD : va_D A [(qh, .inr (3, [.int mco, .long md, .long mw, .int mfo, .ref qf, .ref qm, .ref qk, .int mmy, .ref qn, .ref qo, .ref qi, .ref qx, .int mpr, .int mgn, .ref qg, .int mli, .ref ql, .long ma, .long mb, .long mc]))] := hD
  obtain ⟨g_13, hf⟩ := ok_g hf
  have hP9 := hP.sub (ws' := [(qh, .inr (3, [.int mco, .long md, .long mw, .int mfo, .ref qf, .ref qm, .ref qk, .int mmy, .ref qn, .ref qo, .ref qi, .ref qx, .int mpr, .int mgn, .ref qg, .int mli, .ref ql, .long ma, .long mb, .long mc]))]) [0] rfl
  have hD9 := hD.sub (ws' := [(qh, .inr (3, [.int mco, .long md, .long mw, .int mfo, .ref qf, .ref qm, .ref qk, .int mmy, .ref qn, .ref qo, .ref qi, .ref qx, .int mpr, .int mgn, .ref qg, .int mli, .ref ql, .long ma, .long mb, .long mc]))]) [0] (by decide) rfl
  have hK9 := hK.sub (tys' := []) [] rfl
  exact W.zret (v := r_1) (ty := .boolean) hx hb hr (by rcases g_13 with h | h <;> rw [h] <;> rfl) (fun t ht hW => ⟨⟨r_1, (), rfl, (Option.some.inj hf), by rw [ht]; exact hP9, va_K.moved hW.alike hK9, hD9⟩, hS.F ht⟩) hS.2.2 dX3_isClass_13

def f_m_take (F : Nat) (md : Int64) (mw : Int64) (mfo : Int32) (Bf : Nat → Int32) (Bm : Nat → Int32) (Bk : Nat → Int32) (mmy : Int32) (Bn : Nat → Int32) (Bo : Nat → Int32) (mpr : Int32) (mgn : Int32) (mli : Int32) (Bi : Nat → Int32) (Bx : Nat → Int32) (Bg : Nat → Int32) (Bl : Nat → Int32) (ma : Int64) (mb : Int64) (mc : Int64) (x1 : Int32) : Option (Int32 × Int32 × Int64 × Int64 × Int32 × (Nat → Int32) × (Nat → Int32) × (Nat → Int32) × Int32 × (Nat → Int32) × (Nat → Int32) × Int32 × Int32 × Int32 × (Nat → Int32) × (Nat → Int32) × (Nat → Int32) × (Nat → Int32) × Int64 × Int64 × Int64) := bnd (fun (t_1 : Int32) => (Option.bind (f_m_in F ((x1).toInt64) (-1048576) 1048576) (fun r_2 => bnd (fun (t_3 : Int32) => (bnd (fun (t_4 : Int32) => ((if t_3 = 0 then some (0, t_4, md, mw, mfo, Bf, Bm, Bk, mmy, Bn, Bo, mpr, mgn, mli, Bi, Bx, Bg, Bl, ma, mb, mc) else Option.bind (f_m_begin F Bf Bm Bk Bn Bo Bi Bx Bg Bl mli ma mb mc ((x1).toInt64)) (fun (u_md_5, u_mw_6, u_mfo_7, u_Bf_8, u_Bm_9, u_Bk_10, u_mmy_11, u_Bn_12, u_Bo_13, u_mpr_14, u_mgn_15, u_mli_16, u_Bi_17, u_Bx_18, u_Bg_19, u_Bl_20, u_ma_21, u_mb_22, u_mc_23) => some (u_mmy_11, t_4, u_md_5, u_mw_6, u_mfo_7, u_Bf_8, u_Bm_9, u_Bk_10, u_mmy_11, u_Bn_12, u_Bo_13, u_mpr_14, u_mgn_15, u_mli_16, u_Bi_17, u_Bx_18, u_Bg_19, u_Bl_20, u_ma_21, u_mb_22, u_mc_23))) : Option (Int32 × Int32 × Int64 × Int64 × Int32 × (Nat → Int32) × (Nat → Int32) × (Nat → Int32) × Int32 × (Nat → Int32) × (Nat → Int32) × Int32 × Int32 × Int32 × (Nat → Int32) × (Nat → Int32) × (Nat → Int32) × (Nat → Int32) × Int64 × Int64 × Int64))) (fun kJ74 => (if t_3 = 0 then kJ74 1 else kJ74 0)) : Option (Int32 × Int32 × Int64 × Int64 × Int32 × (Nat → Int32) × (Nat → Int32) × (Nat → Int32) × Int32 × (Nat → Int32) × (Nat → Int32) × Int32 × Int32 × Int32 × (Nat → Int32) × (Nat → Int32) × (Nat → Int32) × (Nat → Int32) × Int64 × Int64 × Int64))) (fun kJ63 => (if r_2 = 0 then kJ63 0 else (if (2 : Int32) ≤ t_1 then kJ63 0 else (if x1 < 0 then kJ63 1 else Option.bind (f_m_root F ((x1).toInt64)) (fun r_24 => Option.bind (f_m_root F ((x1).toInt64)) (fun r_25 => (if (lg_cmp (r_24 * r_25) ((x1).toInt64)) = 0 then kJ63 0 else kJ63 1)))))))) : Option (Int32 × Int32 × Int64 × Int64 × Int32 × (Nat → Int32) × (Nat → Int32) × (Nat → Int32) × Int32 × (Nat → Int32) × (Nat → Int32) × Int32 × Int32 × Int32 × (Nat → Int32) × (Nat → Int32) × (Nat → Int32) × (Nat → Int32) × Int64 × Int64 × Int64))) (fun kJ17 => (if (0 : Int32) ≤ (x1 - x1 / 4 * 4) then kJ17 (x1 - x1 / 4 * 4) else kJ17 ((x1 - x1 / 4 * 4) + 4)))
set_option maxHeartbeats 4000000 in
set_option maxRecDepth 100000 in
theorem c_m_take (l : Launch) (dC : Nat → ClassId) (dI : Nat → Nat → Nat) (qh : Nat) (mco : Int32) (md : Int64) (mw : Int64) (mfo : Int32) (qf : Nat) (qm : Nat) (qk : Nat) (mmy : Int32) (qn : Nat) (qo : Nat) (qi : Nat) (qx : Nat) (mpr : Int32) (mgn : Int32) (qg : Nat) (mli : Int32) (ql : Nat) (ma : Int64) (mb : Int64) (mc : Int64) (uf : ClassId) (Bf : Nat → Int32) (um : ClassId) (Bm : Nat → Int32) (uk : ClassId) (Bk : Nat → Int32) (un : ClassId) (Bn : Nat → Int32) (uo : ClassId) (Bo : Nat → Int32) (ui : ClassId) (Bi : Nat → Int32) (ux : ClassId) (Bx : Nat → Int32) (ug : ClassId) (Bg : Nat → Int32) (ul : ClassId) (Bl : Nat → Int32) (x1 : Int32) (sz : Nat) (F : Nat) (out : Int32 × Int32 × Int64 × Int64 × Int32 × (Nat → Int32) × (Nat → Int32) × (Nat → Int32) × Int32 × (Nat → Int32) × (Nat → Int32) × Int32 × Int32 × Int32 × (Nat → Int32) × (Nat → Int32) × (Nat → Int32) × (Nat → Int32) × Int64 × Int64 × Int64) (hf : f_m_take F md mw mfo Bf Bm Bk mmy Bn Bo mpr mgn mli Bi Bx Bg Bl ma mb mc x1 = some out) : Met l yX3_take wsX3_take ({ frames := 7, cells := 0, slots := 0, locals := 182 }) (va_Pc [.ref qh, .int x1] (fun U => U.heap.size = sz ∧ va_P (dC, dI) vwCl [(qh, .inr (3, [.int mco, .long md, .long mw, .int mfo, .ref qf, .ref qm, .ref qk, .int mmy, .ref qn, .ref qo, .ref qi, .ref qx, .int mpr, .int mgn, .ref qg, .int mli, .ref ql, .long ma, .long mb, .long mc])), (qf, .inl (uf, 40960, .inl Bf)), (qm, .inl (um, 40960, .inl Bm)), (qk, .inl (uk, 40960, .inl Bk)), (qn, .inl (un, 4096, .inl Bn)), (qo, .inl (uo, 4096, .inl Bo)), (qi, .inl (ui, 4096, .inl Bi)), (qx, .inl (ux, 32768, .inl Bx)), (qg, .inl (ug, 8, .inl Bg)), (ql, .inl (ul, 4096, .inl Bl))] U.heap ∧ va_K (dC, dI) vwCl [(uf, .int), (um, .int), (uk, .int), (un, .int), (uo, .int), (ui, .boolean), (ux, .int), (ug, .int), (ul, .int)] U ∧ va_D (fun _ => True) [(qh, .inr (3, [.int mco, .long md, .long mw, .int mfo, .ref qf, .ref qm, .ref qk, .int mmy, .ref qn, .ref qo, .ref qi, .ref qx, .int mpr, .int mgn, .ref qg, .int mli, .ref ql, .long ma, .long mb, .long mc])), (qf, .inl (uf, 40960, .inl Bf)), (qm, .inl (um, 40960, .inl Bm)), (qk, .inl (uk, 40960, .inl Bk)), (qn, .inl (un, 4096, .inl Bn)), (qo, .inl (uo, 4096, .inl Bo)), (qi, .inl (ui, 4096, .inl Bi)), (qx, .inl (ux, 32768, .inl Bx)), (qg, .inl (ug, 8, .inl Bg)), (ql, .inl (ul, 4096, .inl Bl))])) (va_Qi (fun (r : Int32) (u : Int32 × Int64 × Int64 × Int32 × (Nat → Int32) × (Nat → Int32) × (Nat → Int32) × Int32 × (Nat → Int32) × (Nat → Int32) × Int32 × Int32 × Int32 × (Nat → Int32) × (Nat → Int32) × (Nat → Int32) × (Nat → Int32) × Int64 × Int64 × Int64) => (r, u) = out) (fun (u : Int32 × Int64 × Int64 × Int32 × (Nat → Int32) × (Nat → Int32) × (Nat → Int32) × Int32 × (Nat → Int32) × (Nat → Int32) × Int32 × Int32 × Int32 × (Nat → Int32) × (Nat → Int32) × (Nat → Int32) × (Nat → Int32) × Int64 × Int64 × Int64) t => match u with | (u_mco, u_md, u_mw, u_mfo, u_Bf, u_Bm, u_Bk, u_mmy, u_Bn, u_Bo, u_mpr, u_mgn, u_mli, u_Bi, u_Bx, u_Bg, u_Bl, u_ma, u_mb, u_mc) => va_P (dC, dI) vwCl [(qh, .inr (3, [.int u_mco, .long u_md, .long u_mw, .int u_mfo, .ref qf, .ref qm, .ref qk, .int u_mmy, .ref qn, .ref qo, .ref qi, .ref qx, .int u_mpr, .int u_mgn, .ref qg, .int u_mli, .ref ql, .long u_ma, .long u_mb, .long u_mc])), (qf, .inl (uf, 40960, .inl u_Bf)), (qm, .inl (um, 40960, .inl u_Bm)), (qk, .inl (uk, 40960, .inl u_Bk)), (qn, .inl (un, 4096, .inl u_Bn)), (qo, .inl (uo, 4096, .inl u_Bo)), (qi, .inl (ui, 4096, .inl u_Bi)), (qx, .inl (ux, 32768, .inl u_Bx)), (qg, .inl (ug, 8, .inl u_Bg)), (ql, .inl (ul, 4096, .inl u_Bl))] t.heap ∧ va_K (dC, dI) vwCl [(uf, .int), (um, .int), (uk, .int), (un, .int), (uo, .int), (ui, .boolean), (ux, .int), (ug, .int), (ul, .int)] t ∧ va_D (va_A [(qh, .inr (3, [.int mco, .long md, .long mw, .int mfo, .ref qf, .ref qm, .ref qk, .int mmy, .ref qn, .ref qo, .ref qi, .ref qx, .int mpr, .int mgn, .ref qg, .int mli, .ref ql, .long ma, .long mb, .long mc])), (qf, .inl (uf, 40960, .inl Bf)), (qm, .inl (um, 40960, .inl Bm)), (qk, .inl (uk, 40960, .inl Bk)), (qn, .inl (un, 4096, .inl Bn)), (qo, .inl (uo, 4096, .inl Bo)), (qi, .inl (ui, 4096, .inl Bi)), (qx, .inl (ux, 32768, .inl Bx)), (qg, .inl (ug, 8, .inl Bg)), (ql, .inl (ul, 4096, .inl Bl))] sz) [(qh, .inr (3, [.int u_mco, .long u_md, .long u_mw, .int u_mfo, .ref qf, .ref qm, .ref qk, .int u_mmy, .ref qn, .ref qo, .ref qi, .ref qx, .int u_mpr, .int u_mgn, .ref qg, .int u_mli, .ref ql, .long u_ma, .long u_mb, .long u_mc])), (qf, .inl (uf, 40960, .inl u_Bf)), (qm, .inl (um, 40960, .inl u_Bm)), (qk, .inl (uk, 40960, .inl u_Bk)), (qn, .inl (un, 4096, .inl u_Bn)), (qo, .inl (uo, 4096, .inl u_Bo)), (qi, .inl (ui, 4096, .inl u_Bi)), (qx, .inl (ux, 32768, .inl u_Bx)), (qg, .inl (ug, 8, .inl u_Bg)), (ql, .inl (ul, 4096, .inl u_Bl))]) (va_A [(qh, .inr (3, [.int mco, .long md, .long mw, .int mfo, .ref qf, .ref qm, .ref qk, .int mmy, .ref qn, .ref qo, .ref qi, .ref qx, .int mpr, .int mgn, .ref qg, .int mli, .ref ql, .long ma, .long mb, .long mc])), (qf, .inl (uf, 40960, .inl Bf)), (qm, .inl (um, 40960, .inl Bm)), (qk, .inl (uk, 40960, .inl Bk)), (qn, .inl (un, 4096, .inl Bn)), (qo, .inl (uo, 4096, .inl Bo)), (qi, .inl (ui, 4096, .inl Bi)), (qx, .inl (ux, 32768, .inl Bx)), (qg, .inl (ug, 8, .inl Bg)), (ql, .inl (ul, 4096, .inl Bl))] sz)) 0 0 (va_A [(qh, .inr (3, [.int mco, .long md, .long mw, .int mfo, .ref qf, .ref qm, .ref qk, .int mmy, .ref qn, .ref qo, .ref qi, .ref qx, .int mpr, .int mgn, .ref qg, .int mli, .ref ql, .long ma, .long mb, .long mc])), (qf, .inl (uf, 40960, .inl Bf)), (qm, .inl (um, 40960, .inl Bm)), (qk, .inl (uk, 40960, .inl Bk)), (qn, .inl (un, 4096, .inl Bn)), (qo, .inl (uo, 4096, .inl Bo)), (qi, .inl (ui, 4096, .inl Bi)), (qx, .inl (ux, 32768, .inl Bx)), (qg, .inl (ug, 8, .inl Bg)), (ql, .inl (ul, 4096, .inl Bl))] sz) := by
  refine Met.ofW (cc := cX3_take) (maxL := 4) (ret := (some .int)) (by decide +kernel) rfl ?_
  intro p e s m args below meth c s₁ B hml hv
  obtain ⟨rfl, hsz, hP, hK, hD0⟩ := hv
  have hx := B.exec
  have hb := B.bytes
  have hr := B.returns
  have hts := atoms_spec (ws := wsX3_take) B.pre
  have hown : s.vm.findClass "ClassGroupModel" = some m.cls := findClass_of_methodNamed B.named
  have hlocks := B.notSynchronized
  subst hsz
  have hD := hD0.self (sz := s.heap.size)
  generalize hAe : va_A [(qh, .inr (3, [.int mco, .long md, .long mw, .int mfo, .ref qf, .ref qm, .ref qk, .int mmy, .ref qn, .ref qo, .ref qi, .ref qx, .int mpr, .int mgn, .ref qg, .int mli, .ref ql, .long ma, .long mb, .long mc])), (qf, .inl (uf, 40960, .inl Bf)), (qm, .inl (um, 40960, .inl Bm)), (qk, .inl (uk, 40960, .inl Bk)), (qn, .inl (un, 4096, .inl Bn)), (qo, .inl (uo, 4096, .inl Bo)), (qi, .inl (ui, 4096, .inl Bi)), (qx, .inl (ux, 32768, .inl Bx)), (qg, .inl (ug, 8, .inl Bg)), (ql, .inl (ul, 4096, .inl Bl))] s.heap.size = A at hD ⊢
  have hA : ∀ q : Nat, s.heap.size ≤ q → A q := fun q h => by rw [← hAe]; exact Or.inr h
  have hS : va_S A s.heap s.heap [] := va_S.rf
  have hl := lv_entry ([.ref qh, .int x1]) (n := 4) (Nat.le_of_ble_eq_true rfl)
  rw [lg_entry_eq]
  generalize (lg_sl ([.ref qh, .int x1]) ++ List.replicate (4 - (lg_sl ([.ref qh, .int x1])).length) Slot.unset).toArray = ls at hl ⊢
  have hl : lv_has ls 4 [(0, .ref qh), (1, .int x1)] := hl
  unfold f_m_take at hf
  refine lv_iload_n hx hb dX3_take_0 rfl (lv_at hl 1 rfl) ?_
  refine lv_iconst (v := 4) hx hb dX3_take_1 (by decide) ?_
  refine lv_irem hx hb dX3_take_2 (by decide) ?_
  obtain ⟨kJ17, ekJ17, hf⟩ := bnd_ex hf
  have hJ17 : ∀ (t_1 : Int32) (H : Heap) (locs : List Loc) (ls : Array Slot), kJ17 t_1 = some out → va_P (dC, dI) vwCl [(qh, .inr (3, [.int mco, .long md, .long mw, .int mfo, .ref qf, .ref qm, .ref qk, .int mmy, .ref qn, .ref qo, .ref qi, .ref qx, .int mpr, .int mgn, .ref qg, .int mli, .ref ql, .long ma, .long mb, .long mc])), (qf, .inl (uf, 40960, .inl Bf)), (qm, .inl (um, 40960, .inl Bm)), (qk, .inl (uk, 40960, .inl Bk)), (qn, .inl (un, 4096, .inl Bn)), (qo, .inl (uo, 4096, .inl Bo)), (qi, .inl (ui, 4096, .inl Bi)), (qx, .inl (ux, 32768, .inl Bx)), (qg, .inl (ug, 8, .inl Bg)), (ql, .inl (ul, 4096, .inl Bl))] H → va_D A [(qh, .inr (3, [.int mco, .long md, .long mw, .int mfo, .ref qf, .ref qm, .ref qk, .int mmy, .ref qn, .ref qo, .ref qi, .ref qx, .int mpr, .int mgn, .ref qg, .int mli, .ref ql, .long ma, .long mb, .long mc])), (qf, .inl (uf, 40960, .inl Bf)), (qm, .inl (um, 40960, .inl Bm)), (qk, .inl (uk, 40960, .inl Bk)), (qn, .inl (un, 4096, .inl Bn)), (qo, .inl (uo, 4096, .inl Bo)), (qi, .inl (ui, 4096, .inl Bi)), (qx, .inl (ux, 32768, .inl Bx)), (qg, .inl (ug, 8, .inl Bg)), (ql, .inl (ul, 4096, .inl Bl))] → va_S A s.heap H locs → lv_has ls 4 [(0, .ref qh), (1, .int x1)] → W p l e ((headSpec wsX3_take ({ frames := 7, cells := 0, slots := 0, locals := 182 })).room) s m ([.ref qh, .int x1] : List Value).toArray below meth c H locs 0 0 (MQ below (va_Qi (fun (r : Int32) (u : Int32 × Int64 × Int64 × Int32 × (Nat → Int32) × (Nat → Int32) × (Nat → Int32) × Int32 × (Nat → Int32) × (Nat → Int32) × Int32 × Int32 × Int32 × (Nat → Int32) × (Nat → Int32) × (Nat → Int32) × (Nat → Int32) × Int64 × Int64 × Int64) => (r, u) = out) (fun (u : Int32 × Int64 × Int64 × Int32 × (Nat → Int32) × (Nat → Int32) × (Nat → Int32) × Int32 × (Nat → Int32) × (Nat → Int32) × Int32 × Int32 × Int32 × (Nat → Int32) × (Nat → Int32) × (Nat → Int32) × (Nat → Int32) × Int64 × Int64 × Int64) t => match u with | (u_mco, u_md, u_mw, u_mfo, u_Bf, u_Bm, u_Bk, u_mmy, u_Bn, u_Bo, u_mpr, u_mgn, u_mli, u_Bi, u_Bx, u_Bg, u_Bl, u_ma, u_mb, u_mc) => va_P (dC, dI) vwCl [(qh, .inr (3, [.int u_mco, .long u_md, .long u_mw, .int u_mfo, .ref qf, .ref qm, .ref qk, .int u_mmy, .ref qn, .ref qo, .ref qi, .ref qx, .int u_mpr, .int u_mgn, .ref qg, .int u_mli, .ref ql, .long u_ma, .long u_mb, .long u_mc])), (qf, .inl (uf, 40960, .inl u_Bf)), (qm, .inl (um, 40960, .inl u_Bm)), (qk, .inl (uk, 40960, .inl u_Bk)), (qn, .inl (un, 4096, .inl u_Bn)), (qo, .inl (uo, 4096, .inl u_Bo)), (qi, .inl (ui, 4096, .inl u_Bi)), (qx, .inl (ux, 32768, .inl u_Bx)), (qg, .inl (ug, 8, .inl u_Bg)), (ql, .inl (ul, 4096, .inl u_Bl))] t.heap ∧ va_K (dC, dI) vwCl [(uf, .int), (um, .int), (uk, .int), (un, .int), (uo, .int), (ui, .boolean), (ux, .int), (ug, .int), (ul, .int)] t ∧ va_D A [(qh, .inr (3, [.int u_mco, .long u_md, .long u_mw, .int u_mfo, .ref qf, .ref qm, .ref qk, .int u_mmy, .ref qn, .ref qo, .ref qi, .ref qx, .int u_mpr, .int u_mgn, .ref qg, .int u_mli, .ref ql, .long u_ma, .long u_mb, .long u_mc])), (qf, .inl (uf, 40960, .inl u_Bf)), (qm, .inl (um, 40960, .inl u_Bm)), (qk, .inl (uk, 40960, .inl u_Bk)), (qn, .inl (un, 4096, .inl u_Bn)), (qo, .inl (uo, 4096, .inl u_Bo)), (qi, .inl (ui, 4096, .inl u_Bi)), (qx, .inl (ux, 32768, .inl u_Bx)), (qg, .inl (ug, 8, .inl u_Bg)), (ql, .inl (ul, 4096, .inl u_Bl))]) A) ([.ref qh, .int x1] : List Value).toArray s 0 0 A) (F0 m 17 ls [.int t_1]) := by
    intro t_1 H locs ls hf hP hD hS hl
    rw [ekJ17] at hf
    refine lv_istore_n (lv' := [(2, .int t_1), (0, .ref qh), (1, .int x1)]) hx hb dX3_take_17 rfl hl (by decide) rfl (fun ls hl => ?_)
    refine lv_iload_n hx hb dX3_take_18 rfl (lv_at hl 2 rfl) ?_
    refine lv_i2l (v := (x1).toInt64) hx hb dX3_take_19 rfl ?_
    refine lv_ldc2 (v := (-1048576)) hx hb hown (hts _ (List.mem_cons_of_mem _ kw_577)) dX3_take_20 ?_
    refine lv_ldc2 (v := 1048576) hx hb hown (hts _ (List.mem_cons_of_mem _ kw_578)) dX3_take_23 ?_
    obtain ⟨xc26, hc26, hf⟩ := ok_b hf
    have hPc := hP.sub (ws' := []) [] rfl
    have hDc := hD.sub (ws' := []) [] (by decide) rfl
    have hKc := hK.sub (tys' := []) [] rfl
    have hFc := va_free (wc := []) hD hS hA [] rfl
    refine va_calli (va_runS (As := [.long (x1).toInt64, .long (-1048576), .long 1048576]) (rest := []) ⟨hx, hb, hml, hown, hts⟩ (c_m_in l dC dI ((x1).toInt64) (-1048576) 1048576 H.size F xc26 hc26) (va_cwS 3 hts (gwS kw_579 kw_580 kw_5 kw_581) rfl rfl rfl (by decide +kernel) ⟨Nat.le_of_ble_eq_true rfl, Nat.le_of_ble_eq_true rfl⟩) ⟨fun a U g mk q => by obtain ⟨q0, q1, qP, qK, qD⟩ := q; exact ⟨q0, q1, qP, va_K.moved (u := U) (U := U.calling g mk a) (Vm.Alike.refl U.vm) qK, qD⟩, fun U hU hW => ⟨rfl, by rw [hU], by rw [hU]; exact hPc, va_K.moved hW.alike hKc, hDc.weaken (fun _ _ _ _ => trivial)⟩⟩ rfl rfl hl.1 rfl (lv_room (Nat.le_of_ble_eq_true rfl)) dX3_take_26 ⟨Nat.zero_le _, Nat.zero_le _⟩) hS (fun q _ h => hFc q h) hFc (fun r_2 u t H1 locs ht hvm hw hB hz1 hk1 hS => ?_)
    obtain ⟨⟩ := u
    obtain ⟨hP1, hK1, hD1⟩ := hB
    rw [ht] at hP1
    subst hw
    obtain ⟨hP, hD⟩ := va_join (wr := [(qh, .inr (3, [.int mco, .long md, .long mw, .int mfo, .ref qf, .ref qm, .ref qk, .int mmy, .ref qn, .ref qo, .ref qi, .ref qx, .int mpr, .int mgn, .ref qg, .int mli, .ref ql, .long ma, .long mb, .long mc])), (qf, .inl (uf, 40960, .inl Bf)), (qm, .inl (um, 40960, .inl Bm)), (qk, .inl (uk, 40960, .inl Bk)), (qn, .inl (un, 4096, .inl Bn)), (qo, .inl (uo, 4096, .inl Bo)), (qi, .inl (ui, 4096, .inl Bi)), (qx, .inl (ux, 32768, .inl Bx)), (qg, .inl (ug, 8, .inl Bg)), (ql, .inl (ul, 4096, .inl Bl))]) (w1 := []) hP hD [] [0, 1, 2, 3, 4, 5, 6, 7, 8, 9] rfl rfl (by decide) (by decide) hk1 hFc hP1 hD1
    generalize H1 = H at hP hS ⊢
    have hP : va_P (dC, dI) vwCl [(qh, .inr (3, [.int mco, .long md, .long mw, .int mfo, .ref qf, .ref qm, .ref qk, .int mmy, .ref qn, .ref qo, .ref qi, .ref qx, .int mpr, .int mgn, .ref qg, .int mli, .ref ql, .long ma, .long mb, .long mc])), (qf, .inl (uf, 40960, .inl Bf)), (qm, .inl (um, 40960, .inl Bm)), (qk, .inl (uk, 40960, .inl Bk)), (qn, .inl (un, 4096, .inl Bn)), (qo, .inl (uo, 4096, .inl Bo)), (qi, .inl (ui, 4096, .inl Bi)), (qx, .inl (ux, 32768, .inl Bx)), (qg, .inl (ug, 8, .inl Bg)), (ql, .inl (ul, 4096, .inl Bl))] H := hP
    have hD : va_D A [(qh, .inr (3, [.int mco, .long md, .long mw, .int mfo, .ref qf, .ref qm, .ref qk, .int mmy, .ref qn, .ref qo, .ref qi, .ref qx, .int mpr, .int mgn, .ref qg, .int mli, .ref ql, .long ma, .long mb, .long mc])), (qf, .inl (uf, 40960, .inl Bf)), (qm, .inl (um, 40960, .inl Bm)), (qk, .inl (uk, 40960, .inl Bk)), (qn, .inl (un, 4096, .inl Bn)), (qo, .inl (uo, 4096, .inl Bo)), (qi, .inl (ui, 4096, .inl Bi)), (qx, .inl (ux, 32768, .inl Bx)), (qg, .inl (ug, 8, .inl Bg)), (ql, .inl (ul, 4096, .inl Bl))] := hD
    obtain ⟨kJ63, ekJ63, hf⟩ := bnd_ex hf
    have hJ63 : ∀ (t_3 : Int32) (H : Heap) (locs : List Loc) (ls : Array Slot), kJ63 t_3 = some out → va_P (dC, dI) vwCl [(qh, .inr (3, [.int mco, .long md, .long mw, .int mfo, .ref qf, .ref qm, .ref qk, .int mmy, .ref qn, .ref qo, .ref qi, .ref qx, .int mpr, .int mgn, .ref qg, .int mli, .ref ql, .long ma, .long mb, .long mc])), (qf, .inl (uf, 40960, .inl Bf)), (qm, .inl (um, 40960, .inl Bm)), (qk, .inl (uk, 40960, .inl Bk)), (qn, .inl (un, 4096, .inl Bn)), (qo, .inl (uo, 4096, .inl Bo)), (qi, .inl (ui, 4096, .inl Bi)), (qx, .inl (ux, 32768, .inl Bx)), (qg, .inl (ug, 8, .inl Bg)), (ql, .inl (ul, 4096, .inl Bl))] H → va_D A [(qh, .inr (3, [.int mco, .long md, .long mw, .int mfo, .ref qf, .ref qm, .ref qk, .int mmy, .ref qn, .ref qo, .ref qi, .ref qx, .int mpr, .int mgn, .ref qg, .int mli, .ref ql, .long ma, .long mb, .long mc])), (qf, .inl (uf, 40960, .inl Bf)), (qm, .inl (um, 40960, .inl Bm)), (qk, .inl (uk, 40960, .inl Bk)), (qn, .inl (un, 4096, .inl Bn)), (qo, .inl (uo, 4096, .inl Bo)), (qi, .inl (ui, 4096, .inl Bi)), (qx, .inl (ux, 32768, .inl Bx)), (qg, .inl (ug, 8, .inl Bg)), (ql, .inl (ul, 4096, .inl Bl))] → va_S A s.heap H locs → lv_has ls 4 [(0, .ref qh), (1, .int x1)] → W p l e ((headSpec wsX3_take ({ frames := 7, cells := 0, slots := 0, locals := 182 })).room) s m ([.ref qh, .int x1] : List Value).toArray below meth c H locs 0 0 (MQ below (va_Qi (fun (r : Int32) (u : Int32 × Int64 × Int64 × Int32 × (Nat → Int32) × (Nat → Int32) × (Nat → Int32) × Int32 × (Nat → Int32) × (Nat → Int32) × Int32 × Int32 × Int32 × (Nat → Int32) × (Nat → Int32) × (Nat → Int32) × (Nat → Int32) × Int64 × Int64 × Int64) => (r, u) = out) (fun (u : Int32 × Int64 × Int64 × Int32 × (Nat → Int32) × (Nat → Int32) × (Nat → Int32) × Int32 × (Nat → Int32) × (Nat → Int32) × Int32 × Int32 × Int32 × (Nat → Int32) × (Nat → Int32) × (Nat → Int32) × (Nat → Int32) × Int64 × Int64 × Int64) t => match u with | (u_mco, u_md, u_mw, u_mfo, u_Bf, u_Bm, u_Bk, u_mmy, u_Bn, u_Bo, u_mpr, u_mgn, u_mli, u_Bi, u_Bx, u_Bg, u_Bl, u_ma, u_mb, u_mc) => va_P (dC, dI) vwCl [(qh, .inr (3, [.int u_mco, .long u_md, .long u_mw, .int u_mfo, .ref qf, .ref qm, .ref qk, .int u_mmy, .ref qn, .ref qo, .ref qi, .ref qx, .int u_mpr, .int u_mgn, .ref qg, .int u_mli, .ref ql, .long u_ma, .long u_mb, .long u_mc])), (qf, .inl (uf, 40960, .inl u_Bf)), (qm, .inl (um, 40960, .inl u_Bm)), (qk, .inl (uk, 40960, .inl u_Bk)), (qn, .inl (un, 4096, .inl u_Bn)), (qo, .inl (uo, 4096, .inl u_Bo)), (qi, .inl (ui, 4096, .inl u_Bi)), (qx, .inl (ux, 32768, .inl u_Bx)), (qg, .inl (ug, 8, .inl u_Bg)), (ql, .inl (ul, 4096, .inl u_Bl))] t.heap ∧ va_K (dC, dI) vwCl [(uf, .int), (um, .int), (uk, .int), (un, .int), (uo, .int), (ui, .boolean), (ux, .int), (ug, .int), (ul, .int)] t ∧ va_D A [(qh, .inr (3, [.int u_mco, .long u_md, .long u_mw, .int u_mfo, .ref qf, .ref qm, .ref qk, .int u_mmy, .ref qn, .ref qo, .ref qi, .ref qx, .int u_mpr, .int u_mgn, .ref qg, .int u_mli, .ref ql, .long u_ma, .long u_mb, .long u_mc])), (qf, .inl (uf, 40960, .inl u_Bf)), (qm, .inl (um, 40960, .inl u_Bm)), (qk, .inl (uk, 40960, .inl u_Bk)), (qn, .inl (un, 4096, .inl u_Bn)), (qo, .inl (uo, 4096, .inl u_Bo)), (qi, .inl (ui, 4096, .inl u_Bi)), (qx, .inl (ux, 32768, .inl u_Bx)), (qg, .inl (ug, 8, .inl u_Bg)), (ql, .inl (ul, 4096, .inl u_Bl))]) A) ([.ref qh, .int x1] : List Value).toArray s 0 0 A) (F0 m 63 ls [.int t_3]) := by
      intro t_3 H locs ls hf hP hD hS hl
      rw [ekJ63] at hf
      refine lv_istore_n (lv' := [(3, .int t_3), (0, .ref qh), (1, .int x1)]) hx hb dX3_take_63 rfl hl (by decide) rfl (fun ls hl => ?_)
      refine lv_aload_n hx hb dX3_take_64 rfl (lv_at hl 1 rfl) ?_
      refine lv_iload_n hx hb dX3_take_65 rfl (lv_at hl 0 rfl) ?_
      obtain ⟨kJ74, ekJ74, hf⟩ := bnd_ex hf
      have hJ74 : ∀ (t_4 : Int32) (H : Heap) (locs : List Loc) (ls : Array Slot), kJ74 t_4 = some out → va_P (dC, dI) vwCl [(qh, .inr (3, [.int mco, .long md, .long mw, .int mfo, .ref qf, .ref qm, .ref qk, .int mmy, .ref qn, .ref qo, .ref qi, .ref qx, .int mpr, .int mgn, .ref qg, .int mli, .ref ql, .long ma, .long mb, .long mc])), (qf, .inl (uf, 40960, .inl Bf)), (qm, .inl (um, 40960, .inl Bm)), (qk, .inl (uk, 40960, .inl Bk)), (qn, .inl (un, 4096, .inl Bn)), (qo, .inl (uo, 4096, .inl Bo)), (qi, .inl (ui, 4096, .inl Bi)), (qx, .inl (ux, 32768, .inl Bx)), (qg, .inl (ug, 8, .inl Bg)), (ql, .inl (ul, 4096, .inl Bl))] H → va_D A [(qh, .inr (3, [.int mco, .long md, .long mw, .int mfo, .ref qf, .ref qm, .ref qk, .int mmy, .ref qn, .ref qo, .ref qi, .ref qx, .int mpr, .int mgn, .ref qg, .int mli, .ref ql, .long ma, .long mb, .long mc])), (qf, .inl (uf, 40960, .inl Bf)), (qm, .inl (um, 40960, .inl Bm)), (qk, .inl (uk, 40960, .inl Bk)), (qn, .inl (un, 4096, .inl Bn)), (qo, .inl (uo, 4096, .inl Bo)), (qi, .inl (ui, 4096, .inl Bi)), (qx, .inl (ux, 32768, .inl Bx)), (qg, .inl (ug, 8, .inl Bg)), (ql, .inl (ul, 4096, .inl Bl))] → va_S A s.heap H locs → lv_has ls 4 [(0, .ref qh), (1, .int x1), (3, .int t_3)] → W p l e ((headSpec wsX3_take ({ frames := 7, cells := 0, slots := 0, locals := 182 })).room) s m ([.ref qh, .int x1] : List Value).toArray below meth c H locs 0 0 (MQ below (va_Qi (fun (r : Int32) (u : Int32 × Int64 × Int64 × Int32 × (Nat → Int32) × (Nat → Int32) × (Nat → Int32) × Int32 × (Nat → Int32) × (Nat → Int32) × Int32 × Int32 × Int32 × (Nat → Int32) × (Nat → Int32) × (Nat → Int32) × (Nat → Int32) × Int64 × Int64 × Int64) => (r, u) = out) (fun (u : Int32 × Int64 × Int64 × Int32 × (Nat → Int32) × (Nat → Int32) × (Nat → Int32) × Int32 × (Nat → Int32) × (Nat → Int32) × Int32 × Int32 × Int32 × (Nat → Int32) × (Nat → Int32) × (Nat → Int32) × (Nat → Int32) × Int64 × Int64 × Int64) t => match u with | (u_mco, u_md, u_mw, u_mfo, u_Bf, u_Bm, u_Bk, u_mmy, u_Bn, u_Bo, u_mpr, u_mgn, u_mli, u_Bi, u_Bx, u_Bg, u_Bl, u_ma, u_mb, u_mc) => va_P (dC, dI) vwCl [(qh, .inr (3, [.int u_mco, .long u_md, .long u_mw, .int u_mfo, .ref qf, .ref qm, .ref qk, .int u_mmy, .ref qn, .ref qo, .ref qi, .ref qx, .int u_mpr, .int u_mgn, .ref qg, .int u_mli, .ref ql, .long u_ma, .long u_mb, .long u_mc])), (qf, .inl (uf, 40960, .inl u_Bf)), (qm, .inl (um, 40960, .inl u_Bm)), (qk, .inl (uk, 40960, .inl u_Bk)), (qn, .inl (un, 4096, .inl u_Bn)), (qo, .inl (uo, 4096, .inl u_Bo)), (qi, .inl (ui, 4096, .inl u_Bi)), (qx, .inl (ux, 32768, .inl u_Bx)), (qg, .inl (ug, 8, .inl u_Bg)), (ql, .inl (ul, 4096, .inl u_Bl))] t.heap ∧ va_K (dC, dI) vwCl [(uf, .int), (um, .int), (uk, .int), (un, .int), (uo, .int), (ui, .boolean), (ux, .int), (ug, .int), (ul, .int)] t ∧ va_D A [(qh, .inr (3, [.int u_mco, .long u_md, .long u_mw, .int u_mfo, .ref qf, .ref qm, .ref qk, .int u_mmy, .ref qn, .ref qo, .ref qi, .ref qx, .int u_mpr, .int u_mgn, .ref qg, .int u_mli, .ref ql, .long u_ma, .long u_mb, .long u_mc])), (qf, .inl (uf, 40960, .inl u_Bf)), (qm, .inl (um, 40960, .inl u_Bm)), (qk, .inl (uk, 40960, .inl u_Bk)), (qn, .inl (un, 4096, .inl u_Bn)), (qo, .inl (uo, 4096, .inl u_Bo)), (qi, .inl (ui, 4096, .inl u_Bi)), (qx, .inl (ux, 32768, .inl u_Bx)), (qg, .inl (ug, 8, .inl u_Bg)), (ql, .inl (ul, 4096, .inl u_Bl))]) A) ([.ref qh, .int x1] : List Value).toArray s 0 0 A) (F0 m 74 ls [.int t_4, .ref qh]) := by
        intro t_4 H locs ls hf hP hD hS hl
        rw [ekJ74] at hf
        refine va_put (D := (dC, dI)) (ci := 3) (v := .int t_4) (ty := .int) (C := "ClassGroupModel") (T := TX3) (N := 20) hx hb hts (fun w h => List.mem_cons_of_mem _ (iwX3 w h)) tyX3 tyokX3 nmX3 hown hK hP hD hS 0 rfl rfl 0 (by decide) (hts _ (List.mem_cons_of_mem _ kw_507)) (fun _ h9 => h9) rfl (by decide +kernel) rfl rfl (Nat.le_of_ble_eq_true rfl) dX3_take_74 (fun H locs hP hD hS => ?_)
        have hP : va_P (dC, dI) vwCl [(qh, .inr (3, [.int t_4, .long md, .long mw, .int mfo, .ref qf, .ref qm, .ref qk, .int mmy, .ref qn, .ref qo, .ref qi, .ref qx, .int mpr, .int mgn, .ref qg, .int mli, .ref ql, .long ma, .long mb, .long mc])), (qf, .inl (uf, 40960, .inl Bf)), (qm, .inl (um, 40960, .inl Bm)), (qk, .inl (uk, 40960, .inl Bk)), (qn, .inl (un, 4096, .inl Bn)), (qo, .inl (uo, 4096, .inl Bo)), (qi, .inl (ui, 4096, .inl Bi)), (qx, .inl (ux, 32768, .inl Bx)), (qg, .inl (ug, 8, .inl Bg)), (ql, .inl (ul, 4096, .inl Bl))] H := hP
        have hD : va_D A [(qh, .inr (3, [.int t_4, .long md, .long mw, .int mfo, .ref qf, .ref qm, .ref qk, .int mmy, .ref qn, .ref qo, .ref qi, .ref qx, .int mpr, .int mgn, .ref qg, .int mli, .ref ql, .long ma, .long mb, .long mc])), (qf, .inl (uf, 40960, .inl Bf)), (qm, .inl (um, 40960, .inl Bm)), (qk, .inl (uk, 40960, .inl Bk)), (qn, .inl (un, 4096, .inl Bn)), (qo, .inl (uo, 4096, .inl Bo)), (qi, .inl (ui, 4096, .inl Bi)), (qx, .inl (ux, 32768, .inl Bx)), (qg, .inl (ug, 8, .inl Bg)), (ql, .inl (ul, 4096, .inl Bl))] := hD
        refine lv_iload_n hx hb dX3_take_77 rfl (lv_at hl 2 rfl) ?_
        refine lv_if_ne (tgt := 83) hx hb dX3_take_78 (by decide) (fun c_78 => ?_) (fun c_78 => ?_)
        · have hf := ok_f c_78 hf
          refine lv_aload_n hx hb dX3_take_83 rfl (lv_at hl 0 rfl) ?_
          refine lv_iload_n hx hb dX3_take_84 rfl (lv_at hl 1 rfl) ?_
          refine lv_i2l (v := (x1).toInt64) hx hb dX3_take_85 rfl ?_
          obtain ⟨xc86, hc86, hf⟩ := ok_b hf
          have hPc := hP.sub (ws' := [(qh, .inr (3, [.int t_4, .long md, .long mw, .int mfo, .ref qf, .ref qm, .ref qk, .int mmy, .ref qn, .ref qo, .ref qi, .ref qx, .int mpr, .int mgn, .ref qg, .int mli, .ref ql, .long ma, .long mb, .long mc])), (qf, .inl (uf, 40960, .inl Bf)), (qm, .inl (um, 40960, .inl Bm)), (qk, .inl (uk, 40960, .inl Bk)), (qn, .inl (un, 4096, .inl Bn)), (qo, .inl (uo, 4096, .inl Bo)), (qi, .inl (ui, 4096, .inl Bi)), (qx, .inl (ux, 32768, .inl Bx)), (qg, .inl (ug, 8, .inl Bg)), (ql, .inl (ul, 4096, .inl Bl))]) [0, 1, 2, 3, 4, 5, 6, 7, 8, 9] rfl
          have hDc := hD.sub (ws' := [(qh, .inr (3, [.int t_4, .long md, .long mw, .int mfo, .ref qf, .ref qm, .ref qk, .int mmy, .ref qn, .ref qo, .ref qi, .ref qx, .int mpr, .int mgn, .ref qg, .int mli, .ref ql, .long ma, .long mb, .long mc])), (qf, .inl (uf, 40960, .inl Bf)), (qm, .inl (um, 40960, .inl Bm)), (qk, .inl (uk, 40960, .inl Bk)), (qn, .inl (un, 4096, .inl Bn)), (qo, .inl (uo, 4096, .inl Bo)), (qi, .inl (ui, 4096, .inl Bi)), (qx, .inl (ux, 32768, .inl Bx)), (qg, .inl (ug, 8, .inl Bg)), (ql, .inl (ul, 4096, .inl Bl))]) [0, 1, 2, 3, 4, 5, 6, 7, 8, 9] (by decide) rfl
          have hKc := hK.sub (tys' := [(uf, .int), (um, .int), (uk, .int), (un, .int), (uo, .int), (ui, .boolean), (ux, .int), (ug, .int), (ul, .int)]) [0, 1, 2, 3, 4, 5, 6, 7, 8] rfl
          have hFc := va_free (wc := [(qh, .inr (3, [.int t_4, .long md, .long mw, .int mfo, .ref qf, .ref qm, .ref qk, .int mmy, .ref qn, .ref qo, .ref qi, .ref qx, .int mpr, .int mgn, .ref qg, .int mli, .ref ql, .long ma, .long mb, .long mc])), (qf, .inl (uf, 40960, .inl Bf)), (qm, .inl (um, 40960, .inl Bm)), (qk, .inl (uk, 40960, .inl Bk)), (qn, .inl (un, 4096, .inl Bn)), (qo, .inl (uo, 4096, .inl Bo)), (qi, .inl (ui, 4096, .inl Bi)), (qx, .inl (ux, 32768, .inl Bx)), (qg, .inl (ug, 8, .inl Bg)), (ql, .inl (ul, 4096, .inl Bl))]) hD hS hA [0, 1, 2, 3, 4, 5, 6, 7, 8, 9] rfl
          refine va_callv (va_runV (As := [.long (x1).toInt64]) (rest := []) ⟨hx, hb, hml, hown, hts⟩ (c_m_begin l dC dI qh t_4 md mw mfo qf qm qk mmy qn qo qi qx mpr mgn qg mli ql ma mb mc uf Bf um Bm uk Bk un Bn uo Bo ui Bi ux Bx ug Bg ul Bl ((x1).toInt64) H.size F xc86 hc86) (cwV 1 hts (gwV kw_438 kw_440 ks_27 kw_5 kw_441) rfl rfl rfl (by decide +kernel) ⟨Nat.le_of_ble_eq_true rfl, Nat.le_of_ble_eq_true rfl⟩) ⟨fun a U g mk q => by obtain ⟨q0, q1, qP, qK, qD⟩ := q; exact ⟨q0, q1, qP, va_K.moved (u := U) (U := U.calling g mk a) (Vm.Alike.refl U.vm) qK, qD⟩, va_recv hKc hPc (ci := 3) (q0 := 0) rfl rfl, fun U hU hW => ⟨rfl, by rw [hU], by rw [hU]; exact hPc, va_K.moved hW.alike hKc, hDc.weaken (fun _ _ _ _ => trivial)⟩⟩ rfl rfl hl.1 rfl (lv_room (Nat.le_of_ble_eq_true rfl)) dX3_take_86 ⟨Nat.zero_le _, Nat.zero_le _⟩) hS (fun q _ h => hFc q h) hFc (fun u t H1 locs ht hvm hw hB hz1 hk1 hS => ?_)
          obtain ⟨u_md_5, u_mw_6, u_mfo_7, u_Bf_8, u_Bm_9, u_Bk_10, u_mmy_11, u_Bn_12, u_Bo_13, u_mpr_14, u_mgn_15, u_mli_16, u_Bi_17, u_Bx_18, u_Bg_19, u_Bl_20, u_ma_21, u_mb_22, u_mc_23⟩ := u
          obtain ⟨hP1, hK1, hD1⟩ := hB
          rw [ht] at hP1
          subst hw
          obtain ⟨hP, hD⟩ := va_join (wr := []) (w1 := [(qh, .inr (3, [.int t_4, .long u_md_5, .long u_mw_6, .int u_mfo_7, .ref qf, .ref qm, .ref qk, .int u_mmy_11, .ref qn, .ref qo, .ref qi, .ref qx, .int u_mpr_14, .int u_mgn_15, .ref qg, .int u_mli_16, .ref ql, .long u_ma_21, .long u_mb_22, .long u_mc_23])), (qf, .inl (uf, 40960, .inl u_Bf_8)), (qm, .inl (um, 40960, .inl u_Bm_9)), (qk, .inl (uk, 40960, .inl u_Bk_10)), (qn, .inl (un, 4096, .inl u_Bn_12)), (qo, .inl (uo, 4096, .inl u_Bo_13)), (qi, .inl (ui, 4096, .inl u_Bi_17)), (qx, .inl (ux, 32768, .inl u_Bx_18)), (qg, .inl (ug, 8, .inl u_Bg_19)), (ql, .inl (ul, 4096, .inl u_Bl_20))]) hP hD [0, 1, 2, 3, 4, 5, 6, 7, 8, 9] [] rfl rfl (by decide) (by decide) hk1 hFc hP1 hD1
          generalize H1 = H at hP hS ⊢
          have hP : va_P (dC, dI) vwCl [(qh, .inr (3, [.int t_4, .long u_md_5, .long u_mw_6, .int u_mfo_7, .ref qf, .ref qm, .ref qk, .int u_mmy_11, .ref qn, .ref qo, .ref qi, .ref qx, .int u_mpr_14, .int u_mgn_15, .ref qg, .int u_mli_16, .ref ql, .long u_ma_21, .long u_mb_22, .long u_mc_23])), (qf, .inl (uf, 40960, .inl u_Bf_8)), (qm, .inl (um, 40960, .inl u_Bm_9)), (qk, .inl (uk, 40960, .inl u_Bk_10)), (qn, .inl (un, 4096, .inl u_Bn_12)), (qo, .inl (uo, 4096, .inl u_Bo_13)), (qi, .inl (ui, 4096, .inl u_Bi_17)), (qx, .inl (ux, 32768, .inl u_Bx_18)), (qg, .inl (ug, 8, .inl u_Bg_19)), (ql, .inl (ul, 4096, .inl u_Bl_20))] H := hP
          have hD : va_D A [(qh, .inr (3, [.int t_4, .long u_md_5, .long u_mw_6, .int u_mfo_7, .ref qf, .ref qm, .ref qk, .int u_mmy_11, .ref qn, .ref qo, .ref qi, .ref qx, .int u_mpr_14, .int u_mgn_15, .ref qg, .int u_mli_16, .ref ql, .long u_ma_21, .long u_mb_22, .long u_mc_23])), (qf, .inl (uf, 40960, .inl u_Bf_8)), (qm, .inl (um, 40960, .inl u_Bm_9)), (qk, .inl (uk, 40960, .inl u_Bk_10)), (qn, .inl (un, 4096, .inl u_Bn_12)), (qo, .inl (uo, 4096, .inl u_Bo_13)), (qi, .inl (ui, 4096, .inl u_Bi_17)), (qx, .inl (ux, 32768, .inl u_Bx_18)), (qg, .inl (ug, 8, .inl u_Bg_19)), (ql, .inl (ul, 4096, .inl u_Bl_20))] := hD
          refine lv_aload_n hx hb dX3_take_89 rfl (lv_at hl 0 rfl) ?_
          refine va_get (D := (dC, dI)) (ci := 3) (v := .int u_mmy_11) (C := "ClassGroupModel") (T := TX3) (N := 20) hx hb hts (fun w h => List.mem_cons_of_mem _ (iwX3 w h)) hown hK hP 0 rfl rfl 7 (by decide) (hts _ (List.mem_cons_of_mem _ kw_514)) (fun _ h9 => h9) rfl dX3_take_90 ?_
          have hP9 := hP.sub (ws' := [(qh, .inr (3, [.int t_4, .long u_md_5, .long u_mw_6, .int u_mfo_7, .ref qf, .ref qm, .ref qk, .int u_mmy_11, .ref qn, .ref qo, .ref qi, .ref qx, .int u_mpr_14, .int u_mgn_15, .ref qg, .int u_mli_16, .ref ql, .long u_ma_21, .long u_mb_22, .long u_mc_23])), (qf, .inl (uf, 40960, .inl u_Bf_8)), (qm, .inl (um, 40960, .inl u_Bm_9)), (qk, .inl (uk, 40960, .inl u_Bk_10)), (qn, .inl (un, 4096, .inl u_Bn_12)), (qo, .inl (uo, 4096, .inl u_Bo_13)), (qi, .inl (ui, 4096, .inl u_Bi_17)), (qx, .inl (ux, 32768, .inl u_Bx_18)), (qg, .inl (ug, 8, .inl u_Bg_19)), (ql, .inl (ul, 4096, .inl u_Bl_20))]) [0, 1, 2, 3, 4, 5, 6, 7, 8, 9] rfl
          have hD9 := hD.sub (ws' := [(qh, .inr (3, [.int t_4, .long u_md_5, .long u_mw_6, .int u_mfo_7, .ref qf, .ref qm, .ref qk, .int u_mmy_11, .ref qn, .ref qo, .ref qi, .ref qx, .int u_mpr_14, .int u_mgn_15, .ref qg, .int u_mli_16, .ref ql, .long u_ma_21, .long u_mb_22, .long u_mc_23])), (qf, .inl (uf, 40960, .inl u_Bf_8)), (qm, .inl (um, 40960, .inl u_Bm_9)), (qk, .inl (uk, 40960, .inl u_Bk_10)), (qn, .inl (un, 4096, .inl u_Bn_12)), (qo, .inl (uo, 4096, .inl u_Bo_13)), (qi, .inl (ui, 4096, .inl u_Bi_17)), (qx, .inl (ux, 32768, .inl u_Bx_18)), (qg, .inl (ug, 8, .inl u_Bg_19)), (ql, .inl (ul, 4096, .inl u_Bl_20))]) [0, 1, 2, 3, 4, 5, 6, 7, 8, 9] (by decide) rfl
          have hK9 := hK.sub (tys' := [(uf, .int), (um, .int), (uk, .int), (un, .int), (uo, .int), (ui, .boolean), (ux, .int), (ug, .int), (ul, .int)]) [0, 1, 2, 3, 4, 5, 6, 7, 8] rfl
          exact W.iret (v := u_mmy_11) hx hb hr (fun t ht hW => ⟨⟨u_mmy_11, (t_4, u_md_5, u_mw_6, u_mfo_7, u_Bf_8, u_Bm_9, u_Bk_10, u_mmy_11, u_Bn_12, u_Bo_13, u_mpr_14, u_mgn_15, u_mli_16, u_Bi_17, u_Bx_18, u_Bg_19, u_Bl_20, u_ma_21, u_mb_22, u_mc_23), rfl, (Option.some.inj hf), by rw [ht]; exact hP9, va_K.moved hW.alike hK9, hD9⟩, hS.F ht⟩) hS.2.2 dX3_take_93
        · have hf := ok_t c_78 hf
          refine lv_iconst (v := 0) hx hb dX3_take_81 (by decide) ?_
          have hP9 := hP.sub (ws' := [(qh, .inr (3, [.int t_4, .long md, .long mw, .int mfo, .ref qf, .ref qm, .ref qk, .int mmy, .ref qn, .ref qo, .ref qi, .ref qx, .int mpr, .int mgn, .ref qg, .int mli, .ref ql, .long ma, .long mb, .long mc])), (qf, .inl (uf, 40960, .inl Bf)), (qm, .inl (um, 40960, .inl Bm)), (qk, .inl (uk, 40960, .inl Bk)), (qn, .inl (un, 4096, .inl Bn)), (qo, .inl (uo, 4096, .inl Bo)), (qi, .inl (ui, 4096, .inl Bi)), (qx, .inl (ux, 32768, .inl Bx)), (qg, .inl (ug, 8, .inl Bg)), (ql, .inl (ul, 4096, .inl Bl))]) [0, 1, 2, 3, 4, 5, 6, 7, 8, 9] rfl
          have hD9 := hD.sub (ws' := [(qh, .inr (3, [.int t_4, .long md, .long mw, .int mfo, .ref qf, .ref qm, .ref qk, .int mmy, .ref qn, .ref qo, .ref qi, .ref qx, .int mpr, .int mgn, .ref qg, .int mli, .ref ql, .long ma, .long mb, .long mc])), (qf, .inl (uf, 40960, .inl Bf)), (qm, .inl (um, 40960, .inl Bm)), (qk, .inl (uk, 40960, .inl Bk)), (qn, .inl (un, 4096, .inl Bn)), (qo, .inl (uo, 4096, .inl Bo)), (qi, .inl (ui, 4096, .inl Bi)), (qx, .inl (ux, 32768, .inl Bx)), (qg, .inl (ug, 8, .inl Bg)), (ql, .inl (ul, 4096, .inl Bl))]) [0, 1, 2, 3, 4, 5, 6, 7, 8, 9] (by decide) rfl
          have hK9 := hK.sub (tys' := [(uf, .int), (um, .int), (uk, .int), (un, .int), (uo, .int), (ui, .boolean), (ux, .int), (ug, .int), (ul, .int)]) [0, 1, 2, 3, 4, 5, 6, 7, 8] rfl
          exact W.iret (v := 0) hx hb hr (fun t ht hW => ⟨⟨0, (t_4, md, mw, mfo, Bf, Bm, Bk, mmy, Bn, Bo, mpr, mgn, mli, Bi, Bx, Bg, Bl, ma, mb, mc), rfl, (Option.some.inj hf), by rw [ht]; exact hP9, va_K.moved hW.alike hK9, hD9⟩, hS.F ht⟩) hS.2.2 dX3_take_82
      refine lv_if_eq (tgt := 73) hx hb dX3_take_66 (by decide) (fun c_66 => ?_) (fun c_66 => ?_)
      · have hf := ok_t c_66 hf
        refine lv_iconst (v := 1) hx hb dX3_take_73 (by decide) ?_
        exact hJ74 1 _ _ _ hf (hP.sub [0, 1, 2, 3, 4, 5, 6, 7, 8, 9] rfl) (hD.sub [0, 1, 2, 3, 4, 5, 6, 7, 8, 9] (by decide) rfl) hS (lv_sub hl [1, 2, 0] rfl)
      · have hf := ok_f c_66 hf
        refine lv_iconst (v := 0) hx hb dX3_take_69 (by decide) ?_
        refine lv_goto (tgt := 74) hx hb dX3_take_70 (by decide) ?_
        exact hJ74 0 _ _ _ hf (hP.sub [0, 1, 2, 3, 4, 5, 6, 7, 8, 9] rfl) (hD.sub [0, 1, 2, 3, 4, 5, 6, 7, 8, 9] (by decide) rfl) hS (lv_sub hl [1, 2, 0] rfl)
    refine lv_if_eq (tgt := 62) hx hb dX3_take_29 (by decide) (fun c_29 => ?_) (fun c_29 => ?_)
    · have hf := ok_t c_29 hf
      refine lv_iconst (v := 0) hx hb dX3_take_62 (by decide) ?_
      exact hJ63 0 _ _ _ hf (hP.sub [0, 1, 2, 3, 4, 5, 6, 7, 8, 9] rfl) (hD.sub [0, 1, 2, 3, 4, 5, 6, 7, 8, 9] (by decide) rfl) hS (lv_sub hl [1, 2] rfl)
    · have hf := ok_f c_29 hf
      refine lv_iload_n hx hb dX3_take_32 rfl (lv_at hl 0 rfl) ?_
      refine lv_iconst (v := 2) hx hb dX3_take_33 (by decide) ?_
      refine lv_icmp_ge (tgt := 62) hx hb dX3_take_34 (by decide) (fun c_34 => ?_) (fun c_34 => ?_)
      · have hf := ok_t c_34 hf
        refine lv_iconst (v := 0) hx hb dX3_take_62 (by decide) ?_
        exact hJ63 0 _ _ _ hf (hP.sub [0, 1, 2, 3, 4, 5, 6, 7, 8, 9] rfl) (hD.sub [0, 1, 2, 3, 4, 5, 6, 7, 8, 9] (by decide) rfl) hS (lv_sub hl [1, 2] rfl)
      · have hf := ok_f c_34 hf
        refine lv_iload_n hx hb dX3_take_37 rfl (lv_at hl 2 rfl) ?_
        refine lv_if_lt (tgt := 58) hx hb dX3_take_38 (by decide) (fun c_38 => ?_) (fun c_38 => ?_)
        · have hf := ok_t c_38 hf
          refine lv_iconst (v := 1) hx hb dX3_take_58 (by decide) ?_
          refine lv_goto (tgt := 63) hx hb dX3_take_59 (by decide) ?_
          exact hJ63 1 _ _ _ hf (hP.sub [0, 1, 2, 3, 4, 5, 6, 7, 8, 9] rfl) (hD.sub [0, 1, 2, 3, 4, 5, 6, 7, 8, 9] (by decide) rfl) hS (lv_sub hl [1, 2] rfl)
        · have hf := ok_f c_38 hf
          refine lv_iload_n hx hb dX3_take_41 rfl (lv_at hl 2 rfl) ?_
          refine lv_i2l (v := (x1).toInt64) hx hb dX3_take_42 rfl ?_
          obtain ⟨xc43, hc43, hf⟩ := ok_b hf
          have hPc := hP.sub (ws' := []) [] rfl
          have hDc := hD.sub (ws' := []) [] (by decide) rfl
          have hKc := hK.sub (tys' := []) [] rfl
          have hFc := va_free (wc := []) hD hS hA [] rfl
          refine va_calll (va_runS (As := [.long (x1).toInt64]) (rest := []) ⟨hx, hb, hml, hown, hts⟩ (c_m_root l dC dI ((x1).toInt64) H.size F xc43 hc43) (va_cwS 1 hts (gwS kw_443 kw_444 kw_5 kw_445) rfl rfl rfl (by decide +kernel) ⟨Nat.le_of_ble_eq_true rfl, Nat.le_of_ble_eq_true rfl⟩) ⟨fun a U g mk q => by obtain ⟨q0, q1, qP, qK, qD⟩ := q; exact ⟨q0, q1, qP, va_K.moved (u := U) (U := U.calling g mk a) (Vm.Alike.refl U.vm) qK, qD⟩, fun U hU hW => ⟨rfl, by rw [hU], by rw [hU]; exact hPc, va_K.moved hW.alike hKc, hDc.weaken (fun _ _ _ _ => trivial)⟩⟩ rfl rfl hl.1 rfl (lv_room (Nat.le_of_ble_eq_true rfl)) dX3_take_43 ⟨Nat.zero_le _, Nat.zero_le _⟩) hS (fun q _ h => hFc q h) hFc (fun r_24 u t H1 locs ht hvm hw hB hz1 hk1 hS => ?_)
          obtain ⟨⟩ := u
          obtain ⟨hP1, hK1, hD1⟩ := hB
          rw [ht] at hP1
          subst hw
          obtain ⟨hP, hD⟩ := va_join (wr := [(qh, .inr (3, [.int mco, .long md, .long mw, .int mfo, .ref qf, .ref qm, .ref qk, .int mmy, .ref qn, .ref qo, .ref qi, .ref qx, .int mpr, .int mgn, .ref qg, .int mli, .ref ql, .long ma, .long mb, .long mc])), (qf, .inl (uf, 40960, .inl Bf)), (qm, .inl (um, 40960, .inl Bm)), (qk, .inl (uk, 40960, .inl Bk)), (qn, .inl (un, 4096, .inl Bn)), (qo, .inl (uo, 4096, .inl Bo)), (qi, .inl (ui, 4096, .inl Bi)), (qx, .inl (ux, 32768, .inl Bx)), (qg, .inl (ug, 8, .inl Bg)), (ql, .inl (ul, 4096, .inl Bl))]) (w1 := []) hP hD [] [0, 1, 2, 3, 4, 5, 6, 7, 8, 9] rfl rfl (by decide) (by decide) hk1 hFc hP1 hD1
          generalize H1 = H at hP hS ⊢
          have hP : va_P (dC, dI) vwCl [(qh, .inr (3, [.int mco, .long md, .long mw, .int mfo, .ref qf, .ref qm, .ref qk, .int mmy, .ref qn, .ref qo, .ref qi, .ref qx, .int mpr, .int mgn, .ref qg, .int mli, .ref ql, .long ma, .long mb, .long mc])), (qf, .inl (uf, 40960, .inl Bf)), (qm, .inl (um, 40960, .inl Bm)), (qk, .inl (uk, 40960, .inl Bk)), (qn, .inl (un, 4096, .inl Bn)), (qo, .inl (uo, 4096, .inl Bo)), (qi, .inl (ui, 4096, .inl Bi)), (qx, .inl (ux, 32768, .inl Bx)), (qg, .inl (ug, 8, .inl Bg)), (ql, .inl (ul, 4096, .inl Bl))] H := hP
          have hD : va_D A [(qh, .inr (3, [.int mco, .long md, .long mw, .int mfo, .ref qf, .ref qm, .ref qk, .int mmy, .ref qn, .ref qo, .ref qi, .ref qx, .int mpr, .int mgn, .ref qg, .int mli, .ref ql, .long ma, .long mb, .long mc])), (qf, .inl (uf, 40960, .inl Bf)), (qm, .inl (um, 40960, .inl Bm)), (qk, .inl (uk, 40960, .inl Bk)), (qn, .inl (un, 4096, .inl Bn)), (qo, .inl (uo, 4096, .inl Bo)), (qi, .inl (ui, 4096, .inl Bi)), (qx, .inl (ux, 32768, .inl Bx)), (qg, .inl (ug, 8, .inl Bg)), (ql, .inl (ul, 4096, .inl Bl))] := hD
          refine lv_iload_n hx hb dX3_take_46 rfl (lv_at hl 2 rfl) ?_
          refine lv_i2l (v := (x1).toInt64) hx hb dX3_take_47 rfl ?_
          obtain ⟨xc48, hc48, hf⟩ := ok_b hf
          have hPc := hP.sub (ws' := []) [] rfl
          have hDc := hD.sub (ws' := []) [] (by decide) rfl
          have hKc := hK.sub (tys' := []) [] rfl
          have hFc := va_free (wc := []) hD hS hA [] rfl
          refine va_calll (va_runS (As := [.long (x1).toInt64]) (rest := [.long r_24]) ⟨hx, hb, hml, hown, hts⟩ (c_m_root l dC dI ((x1).toInt64) H.size F xc48 hc48) (va_cwS 1 hts (gwS kw_443 kw_444 kw_5 kw_445) rfl rfl rfl (by decide +kernel) ⟨Nat.le_of_ble_eq_true rfl, Nat.le_of_ble_eq_true rfl⟩) ⟨fun a U g mk q => by obtain ⟨q0, q1, qP, qK, qD⟩ := q; exact ⟨q0, q1, qP, va_K.moved (u := U) (U := U.calling g mk a) (Vm.Alike.refl U.vm) qK, qD⟩, fun U hU hW => ⟨rfl, by rw [hU], by rw [hU]; exact hPc, va_K.moved hW.alike hKc, hDc.weaken (fun _ _ _ _ => trivial)⟩⟩ rfl rfl hl.1 rfl (lv_room (Nat.le_of_ble_eq_true rfl)) dX3_take_48 ⟨Nat.zero_le _, Nat.zero_le _⟩) hS (fun q _ h => hFc q h) hFc (fun r_25 u t H1 locs ht hvm hw hB hz1 hk1 hS => ?_)
          obtain ⟨⟩ := u
          obtain ⟨hP1, hK1, hD1⟩ := hB
          rw [ht] at hP1
          subst hw
          obtain ⟨hP, hD⟩ := va_join (wr := [(qh, .inr (3, [.int mco, .long md, .long mw, .int mfo, .ref qf, .ref qm, .ref qk, .int mmy, .ref qn, .ref qo, .ref qi, .ref qx, .int mpr, .int mgn, .ref qg, .int mli, .ref ql, .long ma, .long mb, .long mc])), (qf, .inl (uf, 40960, .inl Bf)), (qm, .inl (um, 40960, .inl Bm)), (qk, .inl (uk, 40960, .inl Bk)), (qn, .inl (un, 4096, .inl Bn)), (qo, .inl (uo, 4096, .inl Bo)), (qi, .inl (ui, 4096, .inl Bi)), (qx, .inl (ux, 32768, .inl Bx)), (qg, .inl (ug, 8, .inl Bg)), (ql, .inl (ul, 4096, .inl Bl))]) (w1 := []) hP hD [] [0, 1, 2, 3, 4, 5, 6, 7, 8, 9] rfl rfl (by decide) (by decide) hk1 hFc hP1 hD1
          generalize H1 = H at hP hS ⊢
          have hP : va_P (dC, dI) vwCl [(qh, .inr (3, [.int mco, .long md, .long mw, .int mfo, .ref qf, .ref qm, .ref qk, .int mmy, .ref qn, .ref qo, .ref qi, .ref qx, .int mpr, .int mgn, .ref qg, .int mli, .ref ql, .long ma, .long mb, .long mc])), (qf, .inl (uf, 40960, .inl Bf)), (qm, .inl (um, 40960, .inl Bm)), (qk, .inl (uk, 40960, .inl Bk)), (qn, .inl (un, 4096, .inl Bn)), (qo, .inl (uo, 4096, .inl Bo)), (qi, .inl (ui, 4096, .inl Bi)), (qx, .inl (ux, 32768, .inl Bx)), (qg, .inl (ug, 8, .inl Bg)), (ql, .inl (ul, 4096, .inl Bl))] H := hP
          have hD : va_D A [(qh, .inr (3, [.int mco, .long md, .long mw, .int mfo, .ref qf, .ref qm, .ref qk, .int mmy, .ref qn, .ref qo, .ref qi, .ref qx, .int mpr, .int mgn, .ref qg, .int mli, .ref ql, .long ma, .long mb, .long mc])), (qf, .inl (uf, 40960, .inl Bf)), (qm, .inl (um, 40960, .inl Bm)), (qk, .inl (uk, 40960, .inl Bk)), (qn, .inl (un, 4096, .inl Bn)), (qo, .inl (uo, 4096, .inl Bo)), (qi, .inl (ui, 4096, .inl Bi)), (qx, .inl (ux, 32768, .inl Bx)), (qg, .inl (ug, 8, .inl Bg)), (ql, .inl (ul, 4096, .inl Bl))] := hD
          refine lv_lmul hx hb dX3_take_51 ?_
          refine lv_iload_n hx hb dX3_take_52 rfl (lv_at hl 2 rfl) ?_
          refine lv_i2l (v := (x1).toInt64) hx hb dX3_take_53 rfl ?_
          refine W.lcmp hx hb dX3_take_54 ?_
          refine lv_if_eq (tgt := 62) hx hb dX3_take_55 (by decide) (fun c_55 => ?_) (fun c_55 => ?_)
          · have hf := ok_t c_55 hf
            refine lv_iconst (v := 0) hx hb dX3_take_62 (by decide) ?_
            exact hJ63 0 _ _ _ hf (hP.sub [0, 1, 2, 3, 4, 5, 6, 7, 8, 9] rfl) (hD.sub [0, 1, 2, 3, 4, 5, 6, 7, 8, 9] (by decide) rfl) hS (lv_sub hl [1, 2] rfl)
          · have hf := ok_f c_55 hf
            refine lv_iconst (v := 1) hx hb dX3_take_58 (by decide) ?_
            refine lv_goto (tgt := 63) hx hb dX3_take_59 (by decide) ?_
            exact hJ63 1 _ _ _ hf (hP.sub [0, 1, 2, 3, 4, 5, 6, 7, 8, 9] rfl) (hD.sub [0, 1, 2, 3, 4, 5, 6, 7, 8, 9] (by decide) rfl) hS (lv_sub hl [1, 2] rfl)
  refine lv_if_ge (tgt := 14) hx hb dX3_take_3 (by decide) (fun c_3 => ?_) (fun c_3 => ?_)
  · have hf := ok_t c_3 hf
    refine lv_iload_n hx hb dX3_take_14 rfl (lv_at hl 1 rfl) ?_
    refine lv_iconst (v := 4) hx hb dX3_take_15 (by decide) ?_
    refine lv_irem hx hb dX3_take_16 (by decide) ?_
    exact hJ17 (x1 - x1 / 4 * 4) _ _ _ hf (hP.sub [0, 1, 2, 3, 4, 5, 6, 7, 8, 9] rfl) (hD.sub [0, 1, 2, 3, 4, 5, 6, 7, 8, 9] (by decide) rfl) hS (lv_sub hl [0, 1] rfl)
  · have hf := ok_f c_3 hf
    refine lv_iload_n hx hb dX3_take_6 rfl (lv_at hl 1 rfl) ?_
    refine lv_iconst (v := 4) hx hb dX3_take_7 (by decide) ?_
    refine lv_irem hx hb dX3_take_8 (by decide) ?_
    refine lv_iconst (v := 4) hx hb dX3_take_9 (by decide) ?_
    refine lv_iadd hx hb dX3_take_10 ?_
    refine lv_goto (tgt := 17) hx hb dX3_take_11 (by decide) ?_
    exact hJ17 ((x1 - x1 / 4 * 4) + 4) _ _ _ hf (hP.sub [0, 1, 2, 3, 4, 5, 6, 7, 8, 9] rfl) (hD.sub [0, 1, 2, 3, 4, 5, 6, 7, 8, 9] (by decide) rfl) hS (lv_sub hl [0, 1] rfl)

def f_m_count (F : Nat) (md : Int64) (mmy : Int32) (mgn : Int32) (mpr : Int32) (mfo : Int32) (Bo : Nat → Int32) (Bg : Nat → Int32) (x1 : Int32) : Option (Int32 × Int32) := (if x1 = 0 then some ((md).toInt32, 0) else (if x1 = 1 then some (mmy, 0) else (if x1 = 2 then some (mgn, 0) else (if x1 = 3 then some (mpr, 0) else (if x1 = 4 then (if mgn = 0 then some (1, 0) else (if vin 0 8 then (if vin (Bg (0 : Int32).toNatClampNeg) 4096 then some ((Bo ((Bg (0 : Int32).toNatClampNeg)).toNatClampNeg), 0) else none) else none)) else (if x1 = 5 then some (mfo, 0) else some ((-1), 0)))))))
set_option maxHeartbeats 4000000 in
set_option maxRecDepth 100000 in
theorem c_m_count (l : Launch) (dC : Nat → ClassId) (dI : Nat → Nat → Nat) (qh : Nat) (mco : Int32) (md : Int64) (mw : Int64) (mfo : Int32) (qf : Nat) (qm : Nat) (qk : Nat) (mmy : Int32) (qn : Nat) (qo : Nat) (qi : Nat) (qx : Nat) (mpr : Int32) (mgn : Int32) (qg : Nat) (mli : Int32) (ql : Nat) (ma : Int64) (mb : Int64) (mc : Int64) (uo : ClassId) (Bo : Nat → Int32) (ug : ClassId) (Bg : Nat → Int32) (x1 : Int32) (sz : Nat) (F : Nat) (out : Int32 × Int32) (hf : f_m_count F md mmy mgn mpr mfo Bo Bg x1 = some out) : Met l yX3_count wsX3_count ({ frames := 0, cells := 0, slots := 0, locals := 0 }) (va_Pc [.ref qh, .int x1] (fun U => U.heap.size = sz ∧ va_P (dC, dI) vwCl [(qh, .inr (3, [.int mco, .long md, .long mw, .int mfo, .ref qf, .ref qm, .ref qk, .int mmy, .ref qn, .ref qo, .ref qi, .ref qx, .int mpr, .int mgn, .ref qg, .int mli, .ref ql, .long ma, .long mb, .long mc])), (qo, .inl (uo, 4096, .inl Bo)), (qg, .inl (ug, 8, .inl Bg))] U.heap ∧ va_K (dC, dI) vwCl [(uo, .int), (ug, .int)] U ∧ va_D (fun _ => True) [(qh, .inr (3, [.int mco, .long md, .long mw, .int mfo, .ref qf, .ref qm, .ref qk, .int mmy, .ref qn, .ref qo, .ref qi, .ref qx, .int mpr, .int mgn, .ref qg, .int mli, .ref ql, .long ma, .long mb, .long mc])), (qo, .inl (uo, 4096, .inl Bo)), (qg, .inl (ug, 8, .inl Bg))])) (va_Qi (fun (r : Int32) (u : Int32) => (r, u) = out) (fun (u_mco : Int32) t => va_P (dC, dI) vwCl [(qh, .inr (3, [.int u_mco, .long md, .long mw, .int mfo, .ref qf, .ref qm, .ref qk, .int mmy, .ref qn, .ref qo, .ref qi, .ref qx, .int mpr, .int mgn, .ref qg, .int mli, .ref ql, .long ma, .long mb, .long mc])), (qo, .inl (uo, 4096, .inl Bo)), (qg, .inl (ug, 8, .inl Bg))] t.heap ∧ va_K (dC, dI) vwCl [(uo, .int), (ug, .int)] t ∧ va_D (va_A [(qh, .inr (3, [.int mco, .long md, .long mw, .int mfo, .ref qf, .ref qm, .ref qk, .int mmy, .ref qn, .ref qo, .ref qi, .ref qx, .int mpr, .int mgn, .ref qg, .int mli, .ref ql, .long ma, .long mb, .long mc])), (qo, .inl (uo, 4096, .inl Bo)), (qg, .inl (ug, 8, .inl Bg))] sz) [(qh, .inr (3, [.int u_mco, .long md, .long mw, .int mfo, .ref qf, .ref qm, .ref qk, .int mmy, .ref qn, .ref qo, .ref qi, .ref qx, .int mpr, .int mgn, .ref qg, .int mli, .ref ql, .long ma, .long mb, .long mc])), (qo, .inl (uo, 4096, .inl Bo)), (qg, .inl (ug, 8, .inl Bg))]) (va_A [(qh, .inr (3, [.int mco, .long md, .long mw, .int mfo, .ref qf, .ref qm, .ref qk, .int mmy, .ref qn, .ref qo, .ref qi, .ref qx, .int mpr, .int mgn, .ref qg, .int mli, .ref ql, .long ma, .long mb, .long mc])), (qo, .inl (uo, 4096, .inl Bo)), (qg, .inl (ug, 8, .inl Bg))] sz)) 0 0 (va_A [(qh, .inr (3, [.int mco, .long md, .long mw, .int mfo, .ref qf, .ref qm, .ref qk, .int mmy, .ref qn, .ref qo, .ref qi, .ref qx, .int mpr, .int mgn, .ref qg, .int mli, .ref ql, .long ma, .long mb, .long mc])), (qo, .inl (uo, 4096, .inl Bo)), (qg, .inl (ug, 8, .inl Bg))] sz) := by
  refine Met.ofW (cc := cX3_count) (maxL := 2) (ret := (some .int)) (by decide +kernel) rfl ?_
  intro p e s m args below meth c s₁ B hml hv
  obtain ⟨rfl, hsz, hP, hK, hD0⟩ := hv
  have hx := B.exec
  have hb := B.bytes
  have hr := B.returns
  have hts := atoms_spec (ws := wsX3_count) B.pre
  have hown : s.vm.findClass "ClassGroupModel" = some m.cls := findClass_of_methodNamed B.named
  have hlocks := B.notSynchronized
  subst hsz
  have hD := hD0.self (sz := s.heap.size)
  generalize hAe : va_A [(qh, .inr (3, [.int mco, .long md, .long mw, .int mfo, .ref qf, .ref qm, .ref qk, .int mmy, .ref qn, .ref qo, .ref qi, .ref qx, .int mpr, .int mgn, .ref qg, .int mli, .ref ql, .long ma, .long mb, .long mc])), (qo, .inl (uo, 4096, .inl Bo)), (qg, .inl (ug, 8, .inl Bg))] s.heap.size = A at hD ⊢
  have hA : ∀ q : Nat, s.heap.size ≤ q → A q := fun q h => by rw [← hAe]; exact Or.inr h
  have hS : va_S A s.heap s.heap [] := va_S.rf
  have hl := lv_entry ([.ref qh, .int x1]) (n := 2) (Nat.le_of_ble_eq_true rfl)
  rw [lg_entry_eq]
  generalize (lg_sl ([.ref qh, .int x1]) ++ List.replicate (2 - (lg_sl ([.ref qh, .int x1])).length) Slot.unset).toArray = ls at hl ⊢
  have hl : lv_has ls 2 [(0, .ref qh), (1, .int x1)] := hl
  unfold f_m_count at hf
  refine lv_aload_n hx hb dX3_count_0 rfl (lv_at hl 0 rfl) ?_
  refine lv_iconst (v := 0) hx hb dX3_count_1 (by decide) ?_
  refine va_put (D := (dC, dI)) (ci := 3) (v := .int 0) (ty := .int) (C := "ClassGroupModel") (T := TX3) (N := 20) hx hb hts (fun w h => List.mem_cons_of_mem _ (iwX3 w h)) tyX3 tyokX3 nmX3 hown hK hP hD hS 0 rfl rfl 0 (by decide) (hts _ (List.mem_cons_of_mem _ kw_507)) (fun _ h9 => h9) rfl (by decide +kernel) rfl rfl (Nat.le_of_ble_eq_true rfl) dX3_count_2 (fun H locs hP hD hS => ?_)
  have hP : va_P (dC, dI) vwCl [(qh, .inr (3, [.int 0, .long md, .long mw, .int mfo, .ref qf, .ref qm, .ref qk, .int mmy, .ref qn, .ref qo, .ref qi, .ref qx, .int mpr, .int mgn, .ref qg, .int mli, .ref ql, .long ma, .long mb, .long mc])), (qo, .inl (uo, 4096, .inl Bo)), (qg, .inl (ug, 8, .inl Bg))] H := hP
  have hD : va_D A [(qh, .inr (3, [.int 0, .long md, .long mw, .int mfo, .ref qf, .ref qm, .ref qk, .int mmy, .ref qn, .ref qo, .ref qi, .ref qx, .int mpr, .int mgn, .ref qg, .int mli, .ref ql, .long ma, .long mb, .long mc])), (qo, .inl (uo, 4096, .inl Bo)), (qg, .inl (ug, 8, .inl Bg))] := hD
  refine lv_iload_n hx hb dX3_count_5 rfl (lv_at hl 1 rfl) ?_
  by_cases c_6_0 : x1 = 0
  · have hf := ok_t c_6_0 hf
    refine lv_tableIn (off := 38) (tgt := 44) hx hb dX3_count_6 (by rw [c_6_0]; decide) (by rw [c_6_0]; decide) (by rw [c_6_0]; rfl) (by decide) ?_
    refine lv_aload_n hx hb dX3_count_44 rfl (lv_at hl 0 rfl) ?_
    refine va_get (D := (dC, dI)) (ci := 3) (v := .long md) (C := "ClassGroupModel") (T := TX3) (N := 20) hx hb hts (fun w h => List.mem_cons_of_mem _ (iwX3 w h)) hown hK hP 0 rfl rfl 1 (by decide) (hts _ (List.mem_cons_of_mem _ kw_508)) (fun _ h9 => h9) rfl dX3_count_45 ?_
    refine lv_l2i (v := (md).toInt32) hx hb dX3_count_48 rfl ?_
    have hP9 := hP.sub (ws' := [(qh, .inr (3, [.int 0, .long md, .long mw, .int mfo, .ref qf, .ref qm, .ref qk, .int mmy, .ref qn, .ref qo, .ref qi, .ref qx, .int mpr, .int mgn, .ref qg, .int mli, .ref ql, .long ma, .long mb, .long mc])), (qo, .inl (uo, 4096, .inl Bo)), (qg, .inl (ug, 8, .inl Bg))]) [0, 1, 2] rfl
    have hD9 := hD.sub (ws' := [(qh, .inr (3, [.int 0, .long md, .long mw, .int mfo, .ref qf, .ref qm, .ref qk, .int mmy, .ref qn, .ref qo, .ref qi, .ref qx, .int mpr, .int mgn, .ref qg, .int mli, .ref ql, .long ma, .long mb, .long mc])), (qo, .inl (uo, 4096, .inl Bo)), (qg, .inl (ug, 8, .inl Bg))]) [0, 1, 2] (by decide) rfl
    have hK9 := hK.sub (tys' := [(uo, .int), (ug, .int)]) [0, 1] rfl
    exact W.iret (v := (md).toInt32) hx hb hr (fun t ht hW => ⟨⟨(md).toInt32, 0, rfl, (Option.some.inj hf), by rw [ht]; exact hP9, va_K.moved hW.alike hK9, hD9⟩, hS.F ht⟩) hS.2.2 dX3_count_49
  · have hf := ok_f c_6_0 hf
    by_cases c_6_1 : x1 = 1
    · have hf := ok_t c_6_1 hf
      refine lv_tableIn (off := 44) (tgt := 50) hx hb dX3_count_6 (by rw [c_6_1]; decide) (by rw [c_6_1]; decide) (by rw [c_6_1]; rfl) (by decide) ?_
      refine lv_aload_n hx hb dX3_count_50 rfl (lv_at hl 0 rfl) ?_
      refine va_get (D := (dC, dI)) (ci := 3) (v := .int mmy) (C := "ClassGroupModel") (T := TX3) (N := 20) hx hb hts (fun w h => List.mem_cons_of_mem _ (iwX3 w h)) hown hK hP 0 rfl rfl 7 (by decide) (hts _ (List.mem_cons_of_mem _ kw_514)) (fun _ h9 => h9) rfl dX3_count_51 ?_
      have hP9 := hP.sub (ws' := [(qh, .inr (3, [.int 0, .long md, .long mw, .int mfo, .ref qf, .ref qm, .ref qk, .int mmy, .ref qn, .ref qo, .ref qi, .ref qx, .int mpr, .int mgn, .ref qg, .int mli, .ref ql, .long ma, .long mb, .long mc])), (qo, .inl (uo, 4096, .inl Bo)), (qg, .inl (ug, 8, .inl Bg))]) [0, 1, 2] rfl
      have hD9 := hD.sub (ws' := [(qh, .inr (3, [.int 0, .long md, .long mw, .int mfo, .ref qf, .ref qm, .ref qk, .int mmy, .ref qn, .ref qo, .ref qi, .ref qx, .int mpr, .int mgn, .ref qg, .int mli, .ref ql, .long ma, .long mb, .long mc])), (qo, .inl (uo, 4096, .inl Bo)), (qg, .inl (ug, 8, .inl Bg))]) [0, 1, 2] (by decide) rfl
      have hK9 := hK.sub (tys' := [(uo, .int), (ug, .int)]) [0, 1] rfl
      exact W.iret (v := mmy) hx hb hr (fun t ht hW => ⟨⟨mmy, 0, rfl, (Option.some.inj hf), by rw [ht]; exact hP9, va_K.moved hW.alike hK9, hD9⟩, hS.F ht⟩) hS.2.2 dX3_count_54
    · have hf := ok_f c_6_1 hf
      by_cases c_6_2 : x1 = 2
      · have hf := ok_t c_6_2 hf
        refine lv_tableIn (off := 49) (tgt := 55) hx hb dX3_count_6 (by rw [c_6_2]; decide) (by rw [c_6_2]; decide) (by rw [c_6_2]; rfl) (by decide) ?_
        refine lv_aload_n hx hb dX3_count_55 rfl (lv_at hl 0 rfl) ?_
        refine va_get (D := (dC, dI)) (ci := 3) (v := .int mgn) (C := "ClassGroupModel") (T := TX3) (N := 20) hx hb hts (fun w h => List.mem_cons_of_mem _ (iwX3 w h)) hown hK hP 0 rfl rfl 13 (by decide) (hts _ (List.mem_cons_of_mem _ kw_520)) (fun _ h9 => h9) rfl dX3_count_56 ?_
        have hP9 := hP.sub (ws' := [(qh, .inr (3, [.int 0, .long md, .long mw, .int mfo, .ref qf, .ref qm, .ref qk, .int mmy, .ref qn, .ref qo, .ref qi, .ref qx, .int mpr, .int mgn, .ref qg, .int mli, .ref ql, .long ma, .long mb, .long mc])), (qo, .inl (uo, 4096, .inl Bo)), (qg, .inl (ug, 8, .inl Bg))]) [0, 1, 2] rfl
        have hD9 := hD.sub (ws' := [(qh, .inr (3, [.int 0, .long md, .long mw, .int mfo, .ref qf, .ref qm, .ref qk, .int mmy, .ref qn, .ref qo, .ref qi, .ref qx, .int mpr, .int mgn, .ref qg, .int mli, .ref ql, .long ma, .long mb, .long mc])), (qo, .inl (uo, 4096, .inl Bo)), (qg, .inl (ug, 8, .inl Bg))]) [0, 1, 2] (by decide) rfl
        have hK9 := hK.sub (tys' := [(uo, .int), (ug, .int)]) [0, 1] rfl
        exact W.iret (v := mgn) hx hb hr (fun t ht hW => ⟨⟨mgn, 0, rfl, (Option.some.inj hf), by rw [ht]; exact hP9, va_K.moved hW.alike hK9, hD9⟩, hS.F ht⟩) hS.2.2 dX3_count_59
      · have hf := ok_f c_6_2 hf
        by_cases c_6_3 : x1 = 3
        · have hf := ok_t c_6_3 hf
          refine lv_tableIn (off := 54) (tgt := 60) hx hb dX3_count_6 (by rw [c_6_3]; decide) (by rw [c_6_3]; decide) (by rw [c_6_3]; rfl) (by decide) ?_
          refine lv_aload_n hx hb dX3_count_60 rfl (lv_at hl 0 rfl) ?_
          refine va_get (D := (dC, dI)) (ci := 3) (v := .int mpr) (C := "ClassGroupModel") (T := TX3) (N := 20) hx hb hts (fun w h => List.mem_cons_of_mem _ (iwX3 w h)) hown hK hP 0 rfl rfl 12 (by decide) (hts _ (List.mem_cons_of_mem _ kw_519)) (fun _ h9 => h9) rfl dX3_count_61 ?_
          have hP9 := hP.sub (ws' := [(qh, .inr (3, [.int 0, .long md, .long mw, .int mfo, .ref qf, .ref qm, .ref qk, .int mmy, .ref qn, .ref qo, .ref qi, .ref qx, .int mpr, .int mgn, .ref qg, .int mli, .ref ql, .long ma, .long mb, .long mc])), (qo, .inl (uo, 4096, .inl Bo)), (qg, .inl (ug, 8, .inl Bg))]) [0, 1, 2] rfl
          have hD9 := hD.sub (ws' := [(qh, .inr (3, [.int 0, .long md, .long mw, .int mfo, .ref qf, .ref qm, .ref qk, .int mmy, .ref qn, .ref qo, .ref qi, .ref qx, .int mpr, .int mgn, .ref qg, .int mli, .ref ql, .long ma, .long mb, .long mc])), (qo, .inl (uo, 4096, .inl Bo)), (qg, .inl (ug, 8, .inl Bg))]) [0, 1, 2] (by decide) rfl
          have hK9 := hK.sub (tys' := [(uo, .int), (ug, .int)]) [0, 1] rfl
          exact W.iret (v := mpr) hx hb hr (fun t ht hW => ⟨⟨mpr, 0, rfl, (Option.some.inj hf), by rw [ht]; exact hP9, va_K.moved hW.alike hK9, hD9⟩, hS.F ht⟩) hS.2.2 dX3_count_64
        · have hf := ok_f c_6_3 hf
          by_cases c_6_4 : x1 = 4
          · have hf := ok_t c_6_4 hf
            refine lv_tableIn (off := 59) (tgt := 65) hx hb dX3_count_6 (by rw [c_6_4]; decide) (by rw [c_6_4]; decide) (by rw [c_6_4]; rfl) (by decide) ?_
            refine lv_aload_n hx hb dX3_count_65 rfl (lv_at hl 0 rfl) ?_
            refine va_get (D := (dC, dI)) (ci := 3) (v := .int mgn) (C := "ClassGroupModel") (T := TX3) (N := 20) hx hb hts (fun w h => List.mem_cons_of_mem _ (iwX3 w h)) hown hK hP 0 rfl rfl 13 (by decide) (hts _ (List.mem_cons_of_mem _ kw_520)) (fun _ h9 => h9) rfl dX3_count_66 ?_
            refine lv_if_ne (tgt := 76) hx hb dX3_count_69 (by decide) (fun c_69 => ?_) (fun c_69 => ?_)
            · have hf := ok_f c_69 hf
              refine lv_aload_n hx hb dX3_count_76 rfl (lv_at hl 0 rfl) ?_
              refine va_get (D := (dC, dI)) (ci := 3) (v := .ref qo) (C := "ClassGroupModel") (T := TX3) (N := 20) hx hb hts (fun w h => List.mem_cons_of_mem _ (iwX3 w h)) hown hK hP 0 rfl rfl 9 (by decide) (hts _ (List.mem_cons_of_mem _ kw_516)) (fun _ h9 => h9) rfl dX3_count_77 ?_
              refine lv_aload_n hx hb dX3_count_80 rfl (lv_at hl 0 rfl) ?_
              refine va_get (D := (dC, dI)) (ci := 3) (v := .ref qg) (C := "ClassGroupModel") (T := TX3) (N := 20) hx hb hts (fun w h => List.mem_cons_of_mem _ (iwX3 w h)) hown hK hP 0 rfl rfl 14 (by decide) (hts _ (List.mem_cons_of_mem _ kw_521)) (fun _ h9 => h9) rfl dX3_count_81 ?_
              refine lv_iconst (v := 0) hx hb dX3_count_84 (by decide) ?_
              obtain ⟨g_85, hf⟩ := ok_g hf
              refine va_iald hx hb hK hP 2 1 rfl rfl g_85 dX3_count_85 ?_
              obtain ⟨g_86, hf⟩ := ok_g hf
              refine va_iald hx hb hK hP 1 0 rfl rfl g_86 dX3_count_86 ?_
              have hP9 := hP.sub (ws' := [(qh, .inr (3, [.int 0, .long md, .long mw, .int mfo, .ref qf, .ref qm, .ref qk, .int mmy, .ref qn, .ref qo, .ref qi, .ref qx, .int mpr, .int mgn, .ref qg, .int mli, .ref ql, .long ma, .long mb, .long mc])), (qo, .inl (uo, 4096, .inl Bo)), (qg, .inl (ug, 8, .inl Bg))]) [0, 1, 2] rfl
              have hD9 := hD.sub (ws' := [(qh, .inr (3, [.int 0, .long md, .long mw, .int mfo, .ref qf, .ref qm, .ref qk, .int mmy, .ref qn, .ref qo, .ref qi, .ref qx, .int mpr, .int mgn, .ref qg, .int mli, .ref ql, .long ma, .long mb, .long mc])), (qo, .inl (uo, 4096, .inl Bo)), (qg, .inl (ug, 8, .inl Bg))]) [0, 1, 2] (by decide) rfl
              have hK9 := hK.sub (tys' := [(uo, .int), (ug, .int)]) [0, 1] rfl
              exact W.iret (v := (Bo ((Bg (0 : Int32).toNatClampNeg)).toNatClampNeg)) hx hb hr (fun t ht hW => ⟨⟨(Bo ((Bg (0 : Int32).toNatClampNeg)).toNatClampNeg), 0, rfl, (Option.some.inj hf), by rw [ht]; exact hP9, va_K.moved hW.alike hK9, hD9⟩, hS.F ht⟩) hS.2.2 dX3_count_87
            · have hf := ok_t c_69 hf
              refine lv_iconst (v := 1) hx hb dX3_count_72 (by decide) ?_
              refine lv_goto (tgt := 87) hx hb dX3_count_73 (by decide) ?_
              have hP9 := hP.sub (ws' := [(qh, .inr (3, [.int 0, .long md, .long mw, .int mfo, .ref qf, .ref qm, .ref qk, .int mmy, .ref qn, .ref qo, .ref qi, .ref qx, .int mpr, .int mgn, .ref qg, .int mli, .ref ql, .long ma, .long mb, .long mc])), (qo, .inl (uo, 4096, .inl Bo)), (qg, .inl (ug, 8, .inl Bg))]) [0, 1, 2] rfl
              have hD9 := hD.sub (ws' := [(qh, .inr (3, [.int 0, .long md, .long mw, .int mfo, .ref qf, .ref qm, .ref qk, .int mmy, .ref qn, .ref qo, .ref qi, .ref qx, .int mpr, .int mgn, .ref qg, .int mli, .ref ql, .long ma, .long mb, .long mc])), (qo, .inl (uo, 4096, .inl Bo)), (qg, .inl (ug, 8, .inl Bg))]) [0, 1, 2] (by decide) rfl
              have hK9 := hK.sub (tys' := [(uo, .int), (ug, .int)]) [0, 1] rfl
              exact W.iret (v := 1) hx hb hr (fun t ht hW => ⟨⟨1, 0, rfl, (Option.some.inj hf), by rw [ht]; exact hP9, va_K.moved hW.alike hK9, hD9⟩, hS.F ht⟩) hS.2.2 dX3_count_87
          · have hf := ok_f c_6_4 hf
            by_cases c_6_5 : x1 = 5
            · have hf := ok_t c_6_5 hf
              refine lv_tableIn (off := 82) (tgt := 88) hx hb dX3_count_6 (by rw [c_6_5]; decide) (by rw [c_6_5]; decide) (by rw [c_6_5]; rfl) (by decide) ?_
              refine lv_aload_n hx hb dX3_count_88 rfl (lv_at hl 0 rfl) ?_
              refine va_get (D := (dC, dI)) (ci := 3) (v := .int mfo) (C := "ClassGroupModel") (T := TX3) (N := 20) hx hb hts (fun w h => List.mem_cons_of_mem _ (iwX3 w h)) hown hK hP 0 rfl rfl 3 (by decide) (hts _ (List.mem_cons_of_mem _ kw_510)) (fun _ h9 => h9) rfl dX3_count_89 ?_
              have hP9 := hP.sub (ws' := [(qh, .inr (3, [.int 0, .long md, .long mw, .int mfo, .ref qf, .ref qm, .ref qk, .int mmy, .ref qn, .ref qo, .ref qi, .ref qx, .int mpr, .int mgn, .ref qg, .int mli, .ref ql, .long ma, .long mb, .long mc])), (qo, .inl (uo, 4096, .inl Bo)), (qg, .inl (ug, 8, .inl Bg))]) [0, 1, 2] rfl
              have hD9 := hD.sub (ws' := [(qh, .inr (3, [.int 0, .long md, .long mw, .int mfo, .ref qf, .ref qm, .ref qk, .int mmy, .ref qn, .ref qo, .ref qi, .ref qx, .int mpr, .int mgn, .ref qg, .int mli, .ref ql, .long ma, .long mb, .long mc])), (qo, .inl (uo, 4096, .inl Bo)), (qg, .inl (ug, 8, .inl Bg))]) [0, 1, 2] (by decide) rfl
              have hK9 := hK.sub (tys' := [(uo, .int), (ug, .int)]) [0, 1] rfl
              exact W.iret (v := mfo) hx hb hr (fun t ht hW => ⟨⟨mfo, 0, rfl, (Option.some.inj hf), by rw [ht]; exact hP9, va_K.moved hW.alike hK9, hD9⟩, hS.F ht⟩) hS.2.2 dX3_count_92
            · have hf := ok_f c_6_5 hf
              refine lv_tableOut (tgt := 93) hx hb dX3_count_6 (by have n0 := lv_neT c_6_0 (a := 0) (by decide); have n1 := lv_neT c_6_1 (a := 1) (by decide); have n2 := lv_neT c_6_2 (a := 2) (by decide); have n3 := lv_neT c_6_3 (a := 3) (by decide); have n4 := lv_neT c_6_4 (a := 4) (by decide); have n5 := lv_neT c_6_5 (a := 5) (by decide); omega) (by decide) ?_
              refine lv_iconst (v := (-1)) hx hb dX3_count_93 (by decide) ?_
              have hP9 := hP.sub (ws' := [(qh, .inr (3, [.int 0, .long md, .long mw, .int mfo, .ref qf, .ref qm, .ref qk, .int mmy, .ref qn, .ref qo, .ref qi, .ref qx, .int mpr, .int mgn, .ref qg, .int mli, .ref ql, .long ma, .long mb, .long mc])), (qo, .inl (uo, 4096, .inl Bo)), (qg, .inl (ug, 8, .inl Bg))]) [0, 1, 2] rfl
              have hD9 := hD.sub (ws' := [(qh, .inr (3, [.int 0, .long md, .long mw, .int mfo, .ref qf, .ref qm, .ref qk, .int mmy, .ref qn, .ref qo, .ref qi, .ref qx, .int mpr, .int mgn, .ref qg, .int mli, .ref ql, .long ma, .long mb, .long mc])), (qo, .inl (uo, 4096, .inl Bo)), (qg, .inl (ug, 8, .inl Bg))]) [0, 1, 2] (by decide) rfl
              have hK9 := hK.sub (tys' := [(uo, .int), (ug, .int)]) [0, 1] rfl
              exact W.iret (v := (-1)) hx hb hr (fun t ht hW => ⟨⟨(-1), 0, rfl, (Option.some.inj hf), by rw [ht]; exact hP9, va_K.moved hW.alike hK9, hD9⟩, hS.F ht⟩) hS.2.2 dX3_count_94

def f_m_name (F : Nat) (md : Int64) (mmy : Int32) (Bf : Nat → Int32) (Bm : Nat → Int32) (Bn : Nat → Int32) (ma : Int64) (mb : Int64) (mc : Int64) (x1 : Int32) (x2 : Int32) : Option (Int32 × Int32 × Int64 × Int64 × Int64) := Option.bind (f_m_isClass F mmy x1) (fun r_1 => bnd (fun (t_2 : Int32) => ((if t_2 ≤ 0 then Option.bind (f_m_beName F md Bf Bm Bn x1) (fun (u_ma_3, u_mb_4, u_mc_5) => bnd (fun (t_6 : Int64) => (some ((t_6).toInt32, t_2, u_ma_3, u_mb_4, u_mc_5) : Option (Int32 × Int32 × Int64 × Int64 × Int64))) (fun kJ70 => (if x2 = 0 then kJ70 u_ma_3 else (if x2 = 1 then kJ70 u_mb_4 else kJ70 u_mc_5)))) else some (0, t_2, ma, mb, mc)) : Option (Int32 × Int32 × Int64 × Int64 × Int64))) (fun kJ26 => (if r_1 = 0 then kJ26 1 else Option.bind (f_m_in F ((x2).toInt64) 0 2) (fun r_7 => (if r_7 = 0 then kJ26 1 else kJ26 0)))))
set_option maxHeartbeats 4000000 in
set_option maxRecDepth 100000 in
theorem c_m_name (l : Launch) (dC : Nat → ClassId) (dI : Nat → Nat → Nat) (qh : Nat) (mco : Int32) (md : Int64) (mw : Int64) (mfo : Int32) (qf : Nat) (qm : Nat) (qk : Nat) (mmy : Int32) (qn : Nat) (qo : Nat) (qi : Nat) (qx : Nat) (mpr : Int32) (mgn : Int32) (qg : Nat) (mli : Int32) (ql : Nat) (ma : Int64) (mb : Int64) (mc : Int64) (uf : ClassId) (Bf : Nat → Int32) (um : ClassId) (Bm : Nat → Int32) (un : ClassId) (Bn : Nat → Int32) (x1 : Int32) (x2 : Int32) (sz : Nat) (F : Nat) (out : Int32 × Int32 × Int64 × Int64 × Int64) (hf : f_m_name F md mmy Bf Bm Bn ma mb mc x1 x2 = some out) : Met l yX3_name wsX3_name ({ frames := 2, cells := 0, slots := 0, locals := 46 }) (va_Pc [.ref qh, .int x1, .int x2] (fun U => U.heap.size = sz ∧ va_P (dC, dI) vwCl [(qh, .inr (3, [.int mco, .long md, .long mw, .int mfo, .ref qf, .ref qm, .ref qk, .int mmy, .ref qn, .ref qo, .ref qi, .ref qx, .int mpr, .int mgn, .ref qg, .int mli, .ref ql, .long ma, .long mb, .long mc])), (qf, .inl (uf, 40960, .inl Bf)), (qm, .inl (um, 40960, .inl Bm)), (qn, .inl (un, 4096, .inl Bn))] U.heap ∧ va_K (dC, dI) vwCl [(uf, .int), (um, .int), (un, .int)] U ∧ va_D (fun _ => True) [(qh, .inr (3, [.int mco, .long md, .long mw, .int mfo, .ref qf, .ref qm, .ref qk, .int mmy, .ref qn, .ref qo, .ref qi, .ref qx, .int mpr, .int mgn, .ref qg, .int mli, .ref ql, .long ma, .long mb, .long mc])), (qf, .inl (uf, 40960, .inl Bf)), (qm, .inl (um, 40960, .inl Bm)), (qn, .inl (un, 4096, .inl Bn))])) (va_Qi (fun (r : Int32) (u : Int32 × Int64 × Int64 × Int64) => (r, u) = out) (fun (u : Int32 × Int64 × Int64 × Int64) t => match u with | (u_mco, u_ma, u_mb, u_mc) => va_P (dC, dI) vwCl [(qh, .inr (3, [.int u_mco, .long md, .long mw, .int mfo, .ref qf, .ref qm, .ref qk, .int mmy, .ref qn, .ref qo, .ref qi, .ref qx, .int mpr, .int mgn, .ref qg, .int mli, .ref ql, .long u_ma, .long u_mb, .long u_mc])), (qf, .inl (uf, 40960, .inl Bf)), (qm, .inl (um, 40960, .inl Bm)), (qn, .inl (un, 4096, .inl Bn))] t.heap ∧ va_K (dC, dI) vwCl [(uf, .int), (um, .int), (un, .int)] t ∧ va_D (va_A [(qh, .inr (3, [.int mco, .long md, .long mw, .int mfo, .ref qf, .ref qm, .ref qk, .int mmy, .ref qn, .ref qo, .ref qi, .ref qx, .int mpr, .int mgn, .ref qg, .int mli, .ref ql, .long ma, .long mb, .long mc])), (qf, .inl (uf, 40960, .inl Bf)), (qm, .inl (um, 40960, .inl Bm)), (qn, .inl (un, 4096, .inl Bn))] sz) [(qh, .inr (3, [.int u_mco, .long md, .long mw, .int mfo, .ref qf, .ref qm, .ref qk, .int mmy, .ref qn, .ref qo, .ref qi, .ref qx, .int mpr, .int mgn, .ref qg, .int mli, .ref ql, .long u_ma, .long u_mb, .long u_mc])), (qf, .inl (uf, 40960, .inl Bf)), (qm, .inl (um, 40960, .inl Bm)), (qn, .inl (un, 4096, .inl Bn))]) (va_A [(qh, .inr (3, [.int mco, .long md, .long mw, .int mfo, .ref qf, .ref qm, .ref qk, .int mmy, .ref qn, .ref qo, .ref qi, .ref qx, .int mpr, .int mgn, .ref qg, .int mli, .ref ql, .long ma, .long mb, .long mc])), (qf, .inl (uf, 40960, .inl Bf)), (qm, .inl (um, 40960, .inl Bm)), (qn, .inl (un, 4096, .inl Bn))] sz)) 0 0 (va_A [(qh, .inr (3, [.int mco, .long md, .long mw, .int mfo, .ref qf, .ref qm, .ref qk, .int mmy, .ref qn, .ref qo, .ref qi, .ref qx, .int mpr, .int mgn, .ref qg, .int mli, .ref ql, .long ma, .long mb, .long mc])), (qf, .inl (uf, 40960, .inl Bf)), (qm, .inl (um, 40960, .inl Bm)), (qn, .inl (un, 4096, .inl Bn))] sz) := by
  refine Met.ofW (cc := cX3_name) (maxL := 3) (ret := (some .int)) (by decide +kernel) rfl ?_
  intro p e s m args below meth c s₁ B hml hv
  obtain ⟨rfl, hsz, hP, hK, hD0⟩ := hv
  have hx := B.exec
  have hb := B.bytes
  have hr := B.returns
  have hts := atoms_spec (ws := wsX3_name) B.pre
  have hown : s.vm.findClass "ClassGroupModel" = some m.cls := findClass_of_methodNamed B.named
  have hlocks := B.notSynchronized
  subst hsz
  have hD := hD0.self (sz := s.heap.size)
  generalize hAe : va_A [(qh, .inr (3, [.int mco, .long md, .long mw, .int mfo, .ref qf, .ref qm, .ref qk, .int mmy, .ref qn, .ref qo, .ref qi, .ref qx, .int mpr, .int mgn, .ref qg, .int mli, .ref ql, .long ma, .long mb, .long mc])), (qf, .inl (uf, 40960, .inl Bf)), (qm, .inl (um, 40960, .inl Bm)), (qn, .inl (un, 4096, .inl Bn))] s.heap.size = A at hD ⊢
  have hA : ∀ q : Nat, s.heap.size ≤ q → A q := fun q h => by rw [← hAe]; exact Or.inr h
  have hS : va_S A s.heap s.heap [] := va_S.rf
  have hl := lv_entry ([.ref qh, .int x1, .int x2]) (n := 3) (Nat.le_of_ble_eq_true rfl)
  rw [lg_entry_eq]
  generalize (lg_sl ([.ref qh, .int x1, .int x2]) ++ List.replicate (3 - (lg_sl ([.ref qh, .int x1, .int x2])).length) Slot.unset).toArray = ls at hl ⊢
  have hl : lv_has ls 3 [(0, .ref qh), (1, .int x1), (2, .int x2)] := hl
  unfold f_m_name at hf
  refine lv_aload_n hx hb dX3_name_0 rfl (lv_at hl 0 rfl) ?_
  refine lv_aload_n hx hb dX3_name_1 rfl (lv_at hl 0 rfl) ?_
  refine lv_iload_n hx hb dX3_name_2 rfl (lv_at hl 1 rfl) ?_
  obtain ⟨xc3, hc3, hf⟩ := ok_b hf
  have hPc := hP.sub (ws' := [(qh, .inr (3, [.int mco, .long md, .long mw, .int mfo, .ref qf, .ref qm, .ref qk, .int mmy, .ref qn, .ref qo, .ref qi, .ref qx, .int mpr, .int mgn, .ref qg, .int mli, .ref ql, .long ma, .long mb, .long mc]))]) [0] rfl
  have hDc := hD.sub (ws' := [(qh, .inr (3, [.int mco, .long md, .long mw, .int mfo, .ref qf, .ref qm, .ref qk, .int mmy, .ref qn, .ref qo, .ref qi, .ref qx, .int mpr, .int mgn, .ref qg, .int mli, .ref ql, .long ma, .long mb, .long mc]))]) [0] (by decide) rfl
  have hKc := hK.sub (tys' := []) [] rfl
  have hFc := va_free (wc := [(qh, .inr (3, [.int mco, .long md, .long mw, .int mfo, .ref qf, .ref qm, .ref qk, .int mmy, .ref qn, .ref qo, .ref qi, .ref qx, .int mpr, .int mgn, .ref qg, .int mli, .ref ql, .long ma, .long mb, .long mc]))]) hD hS hA [0] rfl
  refine va_calli (va_runV (As := [.int x1]) (rest := [.ref qh]) ⟨hx, hb, hml, hown, hts⟩ (c_m_isClass l dC dI qh mco md mw mfo qf qm qk mmy qn qo qi qx mpr mgn qg mli ql ma mb mc x1 s.heap.size F xc3 hc3) (cwV 1 hts (gwV kw_590 kw_592 ks_41 kw_5 kw_593) rfl rfl rfl (by decide +kernel) ⟨Nat.le_of_ble_eq_true rfl, Nat.le_of_ble_eq_true rfl⟩) ⟨fun a U g mk q => by obtain ⟨q0, q1, qP, qK, qD⟩ := q; exact ⟨q0, q1, qP, va_K.moved (u := U) (U := U.calling g mk a) (Vm.Alike.refl U.vm) qK, qD⟩, va_recv hKc hPc (ci := 3) (q0 := 0) rfl rfl, fun U hU hW => ⟨rfl, by rw [hU], by rw [hU]; exact hPc, va_K.moved hW.alike hKc, hDc.weaken (fun _ _ _ _ => trivial)⟩⟩ rfl rfl hl.1 rfl (lv_room (Nat.le_of_ble_eq_true rfl)) dX3_name_3 ⟨Nat.zero_le _, Nat.zero_le _⟩) hS (fun q _ h => hFc q h) hFc (fun r_1 u t H1 locs ht hvm hw hB hz1 hk1 hS => ?_)
  obtain ⟨⟩ := u
  obtain ⟨hP1, hK1, hD1⟩ := hB
  rw [ht] at hP1
  subst hw
  obtain ⟨hP, hD⟩ := va_join (wr := [(qf, .inl (uf, 40960, .inl Bf)), (qm, .inl (um, 40960, .inl Bm)), (qn, .inl (un, 4096, .inl Bn))]) (w1 := [(qh, .inr (3, [.int mco, .long md, .long mw, .int mfo, .ref qf, .ref qm, .ref qk, .int mmy, .ref qn, .ref qo, .ref qi, .ref qx, .int mpr, .int mgn, .ref qg, .int mli, .ref ql, .long ma, .long mb, .long mc]))]) hP hD [0] [1, 2, 3] rfl rfl (by decide) (by decide) hk1 hFc hP1 hD1
  generalize H1 = H at hP hS ⊢
  have hP : va_P (dC, dI) vwCl [(qf, .inl (uf, 40960, .inl Bf)), (qm, .inl (um, 40960, .inl Bm)), (qn, .inl (un, 4096, .inl Bn)), (qh, .inr (3, [.int mco, .long md, .long mw, .int mfo, .ref qf, .ref qm, .ref qk, .int mmy, .ref qn, .ref qo, .ref qi, .ref qx, .int mpr, .int mgn, .ref qg, .int mli, .ref ql, .long ma, .long mb, .long mc]))] H := hP
  have hD : va_D A [(qf, .inl (uf, 40960, .inl Bf)), (qm, .inl (um, 40960, .inl Bm)), (qn, .inl (un, 4096, .inl Bn)), (qh, .inr (3, [.int mco, .long md, .long mw, .int mfo, .ref qf, .ref qm, .ref qk, .int mmy, .ref qn, .ref qo, .ref qi, .ref qx, .int mpr, .int mgn, .ref qg, .int mli, .ref ql, .long ma, .long mb, .long mc]))] := hD
  obtain ⟨kJ26, ekJ26, hf⟩ := bnd_ex hf
  have hJ26 : ∀ (t_2 : Int32) (H : Heap) (locs : List Loc) (ls : Array Slot), kJ26 t_2 = some out → va_P (dC, dI) vwCl [(qh, .inr (3, [.int mco, .long md, .long mw, .int mfo, .ref qf, .ref qm, .ref qk, .int mmy, .ref qn, .ref qo, .ref qi, .ref qx, .int mpr, .int mgn, .ref qg, .int mli, .ref ql, .long ma, .long mb, .long mc])), (qf, .inl (uf, 40960, .inl Bf)), (qm, .inl (um, 40960, .inl Bm)), (qn, .inl (un, 4096, .inl Bn))] H → va_D A [(qh, .inr (3, [.int mco, .long md, .long mw, .int mfo, .ref qf, .ref qm, .ref qk, .int mmy, .ref qn, .ref qo, .ref qi, .ref qx, .int mpr, .int mgn, .ref qg, .int mli, .ref ql, .long ma, .long mb, .long mc])), (qf, .inl (uf, 40960, .inl Bf)), (qm, .inl (um, 40960, .inl Bm)), (qn, .inl (un, 4096, .inl Bn))] → va_S A s.heap H locs → lv_has ls 3 [(0, .ref qh), (1, .int x1), (2, .int x2)] → W p l e ((headSpec wsX3_name ({ frames := 2, cells := 0, slots := 0, locals := 46 })).room) s m ([.ref qh, .int x1, .int x2] : List Value).toArray below meth c H locs 0 0 (MQ below (va_Qi (fun (r : Int32) (u : Int32 × Int64 × Int64 × Int64) => (r, u) = out) (fun (u : Int32 × Int64 × Int64 × Int64) t => match u with | (u_mco, u_ma, u_mb, u_mc) => va_P (dC, dI) vwCl [(qh, .inr (3, [.int u_mco, .long md, .long mw, .int mfo, .ref qf, .ref qm, .ref qk, .int mmy, .ref qn, .ref qo, .ref qi, .ref qx, .int mpr, .int mgn, .ref qg, .int mli, .ref ql, .long u_ma, .long u_mb, .long u_mc])), (qf, .inl (uf, 40960, .inl Bf)), (qm, .inl (um, 40960, .inl Bm)), (qn, .inl (un, 4096, .inl Bn))] t.heap ∧ va_K (dC, dI) vwCl [(uf, .int), (um, .int), (un, .int)] t ∧ va_D A [(qh, .inr (3, [.int u_mco, .long md, .long mw, .int mfo, .ref qf, .ref qm, .ref qk, .int mmy, .ref qn, .ref qo, .ref qi, .ref qx, .int mpr, .int mgn, .ref qg, .int mli, .ref ql, .long u_ma, .long u_mb, .long u_mc])), (qf, .inl (uf, 40960, .inl Bf)), (qm, .inl (um, 40960, .inl Bm)), (qn, .inl (un, 4096, .inl Bn))]) A) ([.ref qh, .int x1, .int x2] : List Value).toArray s 0 0 A) (F0 m 26 ls [.int t_2, .ref qh]) := by
    intro t_2 H locs ls hf hP hD hS hl
    rw [ekJ26] at hf
    refine va_put (D := (dC, dI)) (ci := 3) (v := .int t_2) (ty := .int) (C := "ClassGroupModel") (T := TX3) (N := 20) hx hb hts (fun w h => List.mem_cons_of_mem _ (iwX3 w h)) tyX3 tyokX3 nmX3 hown hK hP hD hS 0 rfl rfl 0 (by decide) (hts _ (List.mem_cons_of_mem _ kw_507)) (fun _ h9 => h9) rfl (by decide +kernel) rfl rfl (Nat.le_of_ble_eq_true rfl) dX3_name_26 (fun H locs hP hD hS => ?_)
    have hP : va_P (dC, dI) vwCl [(qh, .inr (3, [.int t_2, .long md, .long mw, .int mfo, .ref qf, .ref qm, .ref qk, .int mmy, .ref qn, .ref qo, .ref qi, .ref qx, .int mpr, .int mgn, .ref qg, .int mli, .ref ql, .long ma, .long mb, .long mc])), (qf, .inl (uf, 40960, .inl Bf)), (qm, .inl (um, 40960, .inl Bm)), (qn, .inl (un, 4096, .inl Bn))] H := hP
    have hD : va_D A [(qh, .inr (3, [.int t_2, .long md, .long mw, .int mfo, .ref qf, .ref qm, .ref qk, .int mmy, .ref qn, .ref qo, .ref qi, .ref qx, .int mpr, .int mgn, .ref qg, .int mli, .ref ql, .long ma, .long mb, .long mc])), (qf, .inl (uf, 40960, .inl Bf)), (qm, .inl (um, 40960, .inl Bm)), (qn, .inl (un, 4096, .inl Bn))] := hD
    refine lv_aload_n hx hb dX3_name_29 rfl (lv_at hl 0 rfl) ?_
    refine va_get (D := (dC, dI)) (ci := 3) (v := .int t_2) (C := "ClassGroupModel") (T := TX3) (N := 20) hx hb hts (fun w h => List.mem_cons_of_mem _ (iwX3 w h)) hown hK hP 0 rfl rfl 0 (by decide) (hts _ (List.mem_cons_of_mem _ kw_507)) (fun _ h9 => h9) rfl dX3_name_30 ?_
    refine lv_if_le (tgt := 38) hx hb dX3_name_33 (by decide) (fun c_33 => ?_) (fun c_33 => ?_)
    · have hf := ok_t c_33 hf
      refine lv_aload_n hx hb dX3_name_38 rfl (lv_at hl 0 rfl) ?_
      refine lv_iload_n hx hb dX3_name_39 rfl (lv_at hl 1 rfl) ?_
      obtain ⟨xc40, hc40, hf⟩ := ok_b hf
      have hPc := hP.sub (ws' := [(qh, .inr (3, [.int t_2, .long md, .long mw, .int mfo, .ref qf, .ref qm, .ref qk, .int mmy, .ref qn, .ref qo, .ref qi, .ref qx, .int mpr, .int mgn, .ref qg, .int mli, .ref ql, .long ma, .long mb, .long mc])), (qf, .inl (uf, 40960, .inl Bf)), (qm, .inl (um, 40960, .inl Bm)), (qn, .inl (un, 4096, .inl Bn))]) [0, 1, 2, 3] rfl
      have hDc := hD.sub (ws' := [(qh, .inr (3, [.int t_2, .long md, .long mw, .int mfo, .ref qf, .ref qm, .ref qk, .int mmy, .ref qn, .ref qo, .ref qi, .ref qx, .int mpr, .int mgn, .ref qg, .int mli, .ref ql, .long ma, .long mb, .long mc])), (qf, .inl (uf, 40960, .inl Bf)), (qm, .inl (um, 40960, .inl Bm)), (qn, .inl (un, 4096, .inl Bn))]) [0, 1, 2, 3] (by decide) rfl
      have hKc := hK.sub (tys' := [(uf, .int), (um, .int), (un, .int)]) [0, 1, 2] rfl
      have hFc := va_free (wc := [(qh, .inr (3, [.int t_2, .long md, .long mw, .int mfo, .ref qf, .ref qm, .ref qk, .int mmy, .ref qn, .ref qo, .ref qi, .ref qx, .int mpr, .int mgn, .ref qg, .int mli, .ref ql, .long ma, .long mb, .long mc])), (qf, .inl (uf, 40960, .inl Bf)), (qm, .inl (um, 40960, .inl Bm)), (qn, .inl (un, 4096, .inl Bn))]) hD hS hA [0, 1, 2, 3] rfl
      refine va_callv (va_runV (As := [.int x1]) (rest := []) ⟨hx, hb, hml, hown, hts⟩ (c_m_beName l dC dI qh t_2 md mw mfo qf qm qk mmy qn qo qi qx mpr mgn qg mli ql ma mb mc uf Bf um Bm un Bn x1 H.size F xc40 hc40) (cwV 1 hts (gwV kw_491 kw_493 ks_37 kw_5 kw_494) rfl rfl rfl (by decide +kernel) ⟨Nat.le_of_ble_eq_true rfl, Nat.le_of_ble_eq_true rfl⟩) ⟨fun a U g mk q => by obtain ⟨q0, q1, qP, qK, qD⟩ := q; exact ⟨q0, q1, qP, va_K.moved (u := U) (U := U.calling g mk a) (Vm.Alike.refl U.vm) qK, qD⟩, va_recv hKc hPc (ci := 3) (q0 := 0) rfl rfl, fun U hU hW => ⟨rfl, by rw [hU], by rw [hU]; exact hPc, va_K.moved hW.alike hKc, hDc.weaken (fun _ _ _ _ => trivial)⟩⟩ rfl rfl hl.1 rfl (lv_room (Nat.le_of_ble_eq_true rfl)) dX3_name_40 ⟨Nat.zero_le _, Nat.zero_le _⟩) hS (fun q _ h => hFc q h) hFc (fun u t H1 locs ht hvm hw hB hz1 hk1 hS => ?_)
      obtain ⟨u_ma_3, u_mb_4, u_mc_5⟩ := u
      obtain ⟨hP1, hK1, hD1⟩ := hB
      rw [ht] at hP1
      subst hw
      obtain ⟨hP, hD⟩ := va_join (wr := []) (w1 := [(qh, .inr (3, [.int t_2, .long md, .long mw, .int mfo, .ref qf, .ref qm, .ref qk, .int mmy, .ref qn, .ref qo, .ref qi, .ref qx, .int mpr, .int mgn, .ref qg, .int mli, .ref ql, .long u_ma_3, .long u_mb_4, .long u_mc_5])), (qf, .inl (uf, 40960, .inl Bf)), (qm, .inl (um, 40960, .inl Bm)), (qn, .inl (un, 4096, .inl Bn))]) hP hD [0, 1, 2, 3] [] rfl rfl (by decide) (by decide) hk1 hFc hP1 hD1
      generalize H1 = H at hP hS ⊢
      have hP : va_P (dC, dI) vwCl [(qh, .inr (3, [.int t_2, .long md, .long mw, .int mfo, .ref qf, .ref qm, .ref qk, .int mmy, .ref qn, .ref qo, .ref qi, .ref qx, .int mpr, .int mgn, .ref qg, .int mli, .ref ql, .long u_ma_3, .long u_mb_4, .long u_mc_5])), (qf, .inl (uf, 40960, .inl Bf)), (qm, .inl (um, 40960, .inl Bm)), (qn, .inl (un, 4096, .inl Bn))] H := hP
      have hD : va_D A [(qh, .inr (3, [.int t_2, .long md, .long mw, .int mfo, .ref qf, .ref qm, .ref qk, .int mmy, .ref qn, .ref qo, .ref qi, .ref qx, .int mpr, .int mgn, .ref qg, .int mli, .ref ql, .long u_ma_3, .long u_mb_4, .long u_mc_5])), (qf, .inl (uf, 40960, .inl Bf)), (qm, .inl (um, 40960, .inl Bm)), (qn, .inl (un, 4096, .inl Bn))] := hD
      refine lv_iload_n hx hb dX3_name_43 rfl (lv_at hl 2 rfl) ?_
      obtain ⟨kJ70, ekJ70, hf⟩ := bnd_ex hf
      have hJ70 : ∀ (t_6 : Int64) (H : Heap) (locs : List Loc) (ls : Array Slot), kJ70 t_6 = some out → va_P (dC, dI) vwCl [(qh, .inr (3, [.int t_2, .long md, .long mw, .int mfo, .ref qf, .ref qm, .ref qk, .int mmy, .ref qn, .ref qo, .ref qi, .ref qx, .int mpr, .int mgn, .ref qg, .int mli, .ref ql, .long u_ma_3, .long u_mb_4, .long u_mc_5])), (qf, .inl (uf, 40960, .inl Bf)), (qm, .inl (um, 40960, .inl Bm)), (qn, .inl (un, 4096, .inl Bn))] H → va_D A [(qh, .inr (3, [.int t_2, .long md, .long mw, .int mfo, .ref qf, .ref qm, .ref qk, .int mmy, .ref qn, .ref qo, .ref qi, .ref qx, .int mpr, .int mgn, .ref qg, .int mli, .ref ql, .long u_ma_3, .long u_mb_4, .long u_mc_5])), (qf, .inl (uf, 40960, .inl Bf)), (qm, .inl (um, 40960, .inl Bm)), (qn, .inl (un, 4096, .inl Bn))] → va_S A s.heap H locs → lv_has ls 3 [] → W p l e ((headSpec wsX3_name ({ frames := 2, cells := 0, slots := 0, locals := 46 })).room) s m ([.ref qh, .int x1, .int x2] : List Value).toArray below meth c H locs 0 0 (MQ below (va_Qi (fun (r : Int32) (u : Int32 × Int64 × Int64 × Int64) => (r, u) = out) (fun (u : Int32 × Int64 × Int64 × Int64) t => match u with | (u_mco, u_ma, u_mb, u_mc) => va_P (dC, dI) vwCl [(qh, .inr (3, [.int u_mco, .long md, .long mw, .int mfo, .ref qf, .ref qm, .ref qk, .int mmy, .ref qn, .ref qo, .ref qi, .ref qx, .int mpr, .int mgn, .ref qg, .int mli, .ref ql, .long u_ma, .long u_mb, .long u_mc])), (qf, .inl (uf, 40960, .inl Bf)), (qm, .inl (um, 40960, .inl Bm)), (qn, .inl (un, 4096, .inl Bn))] t.heap ∧ va_K (dC, dI) vwCl [(uf, .int), (um, .int), (un, .int)] t ∧ va_D A [(qh, .inr (3, [.int u_mco, .long md, .long mw, .int mfo, .ref qf, .ref qm, .ref qk, .int mmy, .ref qn, .ref qo, .ref qi, .ref qx, .int mpr, .int mgn, .ref qg, .int mli, .ref ql, .long u_ma, .long u_mb, .long u_mc])), (qf, .inl (uf, 40960, .inl Bf)), (qm, .inl (um, 40960, .inl Bm)), (qn, .inl (un, 4096, .inl Bn))]) A) ([.ref qh, .int x1, .int x2] : List Value).toArray s 0 0 A) (F0 m 70 ls [.long t_6]) := by
        intro t_6 H locs ls hf hP hD hS hl
        rw [ekJ70] at hf
        refine lv_l2i (v := (t_6).toInt32) hx hb dX3_name_70 rfl ?_
        have hP9 := hP.sub (ws' := [(qh, .inr (3, [.int t_2, .long md, .long mw, .int mfo, .ref qf, .ref qm, .ref qk, .int mmy, .ref qn, .ref qo, .ref qi, .ref qx, .int mpr, .int mgn, .ref qg, .int mli, .ref ql, .long u_ma_3, .long u_mb_4, .long u_mc_5])), (qf, .inl (uf, 40960, .inl Bf)), (qm, .inl (um, 40960, .inl Bm)), (qn, .inl (un, 4096, .inl Bn))]) [0, 1, 2, 3] rfl
        have hD9 := hD.sub (ws' := [(qh, .inr (3, [.int t_2, .long md, .long mw, .int mfo, .ref qf, .ref qm, .ref qk, .int mmy, .ref qn, .ref qo, .ref qi, .ref qx, .int mpr, .int mgn, .ref qg, .int mli, .ref ql, .long u_ma_3, .long u_mb_4, .long u_mc_5])), (qf, .inl (uf, 40960, .inl Bf)), (qm, .inl (um, 40960, .inl Bm)), (qn, .inl (un, 4096, .inl Bn))]) [0, 1, 2, 3] (by decide) rfl
        have hK9 := hK.sub (tys' := [(uf, .int), (um, .int), (un, .int)]) [0, 1, 2] rfl
        exact W.iret (v := (t_6).toInt32) hx hb hr (fun t ht hW => ⟨⟨(t_6).toInt32, (t_2, u_ma_3, u_mb_4, u_mc_5), rfl, (Option.some.inj hf), by rw [ht]; exact hP9, va_K.moved hW.alike hK9, hD9⟩, hS.F ht⟩) hS.2.2 dX3_name_71
      refine lv_if_ne (tgt := 54) hx hb dX3_name_44 (by decide) (fun c_44 => ?_) (fun c_44 => ?_)
      · have hf := ok_f c_44 hf
        refine lv_iload_n hx hb dX3_name_54 rfl (lv_at hl 2 rfl) ?_
        refine lv_iconst (v := 1) hx hb dX3_name_55 (by decide) ?_
        refine lv_icmp_ne (tgt := 66) hx hb dX3_name_56 (by decide) (fun c_56 => ?_) (fun c_56 => ?_)
        · have hf := ok_f c_56 hf
          refine lv_aload_n hx hb dX3_name_66 rfl (lv_at hl 0 rfl) ?_
          refine va_get (D := (dC, dI)) (ci := 3) (v := .long u_mc_5) (C := "ClassGroupModel") (T := TX3) (N := 20) hx hb hts (fun w h => List.mem_cons_of_mem _ (iwX3 w h)) hown hK hP 0 rfl rfl 19 (by decide) (hts _ (List.mem_cons_of_mem _ kw_526)) (fun _ h9 => h9) rfl dX3_name_67 ?_
          exact hJ70 u_mc_5 _ _ _ hf (hP.sub [0, 1, 2, 3] rfl) (hD.sub [0, 1, 2, 3] (by decide) rfl) hS (lv_sub hl [] rfl)
        · have hf := ok_t c_56 hf
          refine lv_aload_n hx hb dX3_name_59 rfl (lv_at hl 0 rfl) ?_
          refine va_get (D := (dC, dI)) (ci := 3) (v := .long u_mb_4) (C := "ClassGroupModel") (T := TX3) (N := 20) hx hb hts (fun w h => List.mem_cons_of_mem _ (iwX3 w h)) hown hK hP 0 rfl rfl 18 (by decide) (hts _ (List.mem_cons_of_mem _ kw_525)) (fun _ h9 => h9) rfl dX3_name_60 ?_
          refine lv_goto (tgt := 70) hx hb dX3_name_63 (by decide) ?_
          exact hJ70 u_mb_4 _ _ _ hf (hP.sub [0, 1, 2, 3] rfl) (hD.sub [0, 1, 2, 3] (by decide) rfl) hS (lv_sub hl [] rfl)
      · have hf := ok_t c_44 hf
        refine lv_aload_n hx hb dX3_name_47 rfl (lv_at hl 0 rfl) ?_
        refine va_get (D := (dC, dI)) (ci := 3) (v := .long u_ma_3) (C := "ClassGroupModel") (T := TX3) (N := 20) hx hb hts (fun w h => List.mem_cons_of_mem _ (iwX3 w h)) hown hK hP 0 rfl rfl 17 (by decide) (hts _ (List.mem_cons_of_mem _ kw_524)) (fun _ h9 => h9) rfl dX3_name_48 ?_
        refine lv_goto (tgt := 70) hx hb dX3_name_51 (by decide) ?_
        exact hJ70 u_ma_3 _ _ _ hf (hP.sub [0, 1, 2, 3] rfl) (hD.sub [0, 1, 2, 3] (by decide) rfl) hS (lv_sub hl [] rfl)
    · have hf := ok_f c_33 hf
      refine lv_iconst (v := 0) hx hb dX3_name_36 (by decide) ?_
      have hP9 := hP.sub (ws' := [(qh, .inr (3, [.int t_2, .long md, .long mw, .int mfo, .ref qf, .ref qm, .ref qk, .int mmy, .ref qn, .ref qo, .ref qi, .ref qx, .int mpr, .int mgn, .ref qg, .int mli, .ref ql, .long ma, .long mb, .long mc])), (qf, .inl (uf, 40960, .inl Bf)), (qm, .inl (um, 40960, .inl Bm)), (qn, .inl (un, 4096, .inl Bn))]) [0, 1, 2, 3] rfl
      have hD9 := hD.sub (ws' := [(qh, .inr (3, [.int t_2, .long md, .long mw, .int mfo, .ref qf, .ref qm, .ref qk, .int mmy, .ref qn, .ref qo, .ref qi, .ref qx, .int mpr, .int mgn, .ref qg, .int mli, .ref ql, .long ma, .long mb, .long mc])), (qf, .inl (uf, 40960, .inl Bf)), (qm, .inl (um, 40960, .inl Bm)), (qn, .inl (un, 4096, .inl Bn))]) [0, 1, 2, 3] (by decide) rfl
      have hK9 := hK.sub (tys' := [(uf, .int), (um, .int), (un, .int)]) [0, 1, 2] rfl
      exact W.iret (v := 0) hx hb hr (fun t ht hW => ⟨⟨0, (t_2, ma, mb, mc), rfl, (Option.some.inj hf), by rw [ht]; exact hP9, va_K.moved hW.alike hK9, hD9⟩, hS.F ht⟩) hS.2.2 dX3_name_37
  refine lv_if_eq (tgt := 25) hx hb dX3_name_6 (by decide) (fun c_6 => ?_) (fun c_6 => ?_)
  · have hf := ok_t c_6 hf
    refine lv_iconst (v := 1) hx hb dX3_name_25 (by decide) ?_
    exact hJ26 1 _ _ _ hf (hP.sub [3, 0, 1, 2] rfl) (hD.sub [3, 0, 1, 2] (by decide) rfl) hS (lv_sub hl [0, 1, 2] rfl)
  · have hf := ok_f c_6 hf
    refine lv_iload_n hx hb dX3_name_9 rfl (lv_at hl 2 rfl) ?_
    refine lv_i2l (v := (x2).toInt64) hx hb dX3_name_10 rfl ?_
    refine lv_lconst (v := 0) hx hb dX3_name_11 (by decide) ?_
    refine lv_ldc2 (v := 2) hx hb hown (hts _ (List.mem_cons_of_mem _ kw_463)) dX3_name_12 ?_
    obtain ⟨xc15, hc15, hf⟩ := ok_b hf
    have hPc := hP.sub (ws' := []) [] rfl
    have hDc := hD.sub (ws' := []) [] (by decide) rfl
    have hKc := hK.sub (tys' := []) [] rfl
    have hFc := va_free (wc := []) hD hS hA [] rfl
    refine va_calli (va_runS (As := [.long (x2).toInt64, .long 0, .long 2]) (rest := [.ref qh]) ⟨hx, hb, hml, hown, hts⟩ (c_m_in l dC dI ((x2).toInt64) 0 2 H.size F xc15 hc15) (va_cwS 3 hts (gwS kw_579 kw_580 kw_5 kw_581) rfl rfl rfl (by decide +kernel) ⟨Nat.le_of_ble_eq_true rfl, Nat.le_of_ble_eq_true rfl⟩) ⟨fun a U g mk q => by obtain ⟨q0, q1, qP, qK, qD⟩ := q; exact ⟨q0, q1, qP, va_K.moved (u := U) (U := U.calling g mk a) (Vm.Alike.refl U.vm) qK, qD⟩, fun U hU hW => ⟨rfl, by rw [hU], by rw [hU]; exact hPc, va_K.moved hW.alike hKc, hDc.weaken (fun _ _ _ _ => trivial)⟩⟩ rfl rfl hl.1 rfl (lv_room (Nat.le_of_ble_eq_true rfl)) dX3_name_15 ⟨Nat.zero_le _, Nat.zero_le _⟩) hS (fun q _ h => hFc q h) hFc (fun r_7 u t H1 locs ht hvm hw hB hz1 hk1 hS => ?_)
    obtain ⟨⟩ := u
    obtain ⟨hP1, hK1, hD1⟩ := hB
    rw [ht] at hP1
    subst hw
    obtain ⟨hP, hD⟩ := va_join (wr := [(qf, .inl (uf, 40960, .inl Bf)), (qm, .inl (um, 40960, .inl Bm)), (qn, .inl (un, 4096, .inl Bn)), (qh, .inr (3, [.int mco, .long md, .long mw, .int mfo, .ref qf, .ref qm, .ref qk, .int mmy, .ref qn, .ref qo, .ref qi, .ref qx, .int mpr, .int mgn, .ref qg, .int mli, .ref ql, .long ma, .long mb, .long mc]))]) (w1 := []) hP hD [] [0, 1, 2, 3] rfl rfl (by decide) (by decide) hk1 hFc hP1 hD1
    generalize H1 = H at hP hS ⊢
    have hP : va_P (dC, dI) vwCl [(qf, .inl (uf, 40960, .inl Bf)), (qm, .inl (um, 40960, .inl Bm)), (qn, .inl (un, 4096, .inl Bn)), (qh, .inr (3, [.int mco, .long md, .long mw, .int mfo, .ref qf, .ref qm, .ref qk, .int mmy, .ref qn, .ref qo, .ref qi, .ref qx, .int mpr, .int mgn, .ref qg, .int mli, .ref ql, .long ma, .long mb, .long mc]))] H := hP
    have hD : va_D A [(qf, .inl (uf, 40960, .inl Bf)), (qm, .inl (um, 40960, .inl Bm)), (qn, .inl (un, 4096, .inl Bn)), (qh, .inr (3, [.int mco, .long md, .long mw, .int mfo, .ref qf, .ref qm, .ref qk, .int mmy, .ref qn, .ref qo, .ref qi, .ref qx, .int mpr, .int mgn, .ref qg, .int mli, .ref ql, .long ma, .long mb, .long mc]))] := hD
    refine lv_if_eq (tgt := 25) hx hb dX3_name_18 (by decide) (fun c_18 => ?_) (fun c_18 => ?_)
    · have hf := ok_t c_18 hf
      refine lv_iconst (v := 1) hx hb dX3_name_25 (by decide) ?_
      exact hJ26 1 _ _ _ hf (hP.sub [3, 0, 1, 2] rfl) (hD.sub [3, 0, 1, 2] (by decide) rfl) hS (lv_sub hl [0, 1, 2] rfl)
    · have hf := ok_f c_18 hf
      refine lv_iconst (v := 0) hx hb dX3_name_21 (by decide) ?_
      refine lv_goto (tgt := 26) hx hb dX3_name_22 (by decide) ?_
      exact hJ26 0 _ _ _ hf (hP.sub [3, 0, 1, 2] rfl) (hD.sub [3, 0, 1, 2] (by decide) rfl) hS (lv_sub hl [0, 1, 2] rfl)

def f_m_classOf (F : Nat) (md : Int64) (mw : Int64) (mfo : Int32) (Bf : Nat → Int32) (Bm : Nat → Int32) (Bk : Nat → Int32) (ma : Int64) (mb : Int64) (mc : Int64) (x1 : Int32) (x2 : Int32) (x3 : Int32) : Option (Int32 × Int32 × Int64 × Int64 × Int64) := Option.bind (f_m_in F ((x1).toInt64) (-1073741824) 1073741824) (fun r_1 => bnd (fun (t_2 : Int32) => (bnd (fun (t_3 : Int32) => (bnd (fun (t_4 : Int32) => ((if t_3 = 0 then some (0, t_4, ma, mb, mc) else bnd ((x1).toInt64) (fun f_a_5 => bnd ((x2).toInt64) (fun f_b_6 => bnd ((x3).toInt64) (fun f_c_7 => Option.bind (f_m_found F md mw mfo Bf Bm Bk f_a_5 f_b_6 f_c_7) (fun (r_8, u_ma_9, u_mb_10, u_mc_11) => some (r_8, t_4, u_ma_9, u_mb_10, u_mc_11)))))) : Option (Int32 × Int32 × Int64 × Int64 × Int64))) (fun kJ125 => (if t_3 = 0 then kJ125 1 else kJ125 0)) : Option (Int32 × Int32 × Int64 × Int64 × Int64))) (fun kJ112 => (if t_2 = 0 then kJ112 0 else (if (0 : Int32) < (lg_cmp md 0) then Option.bind (f_m_common F ((x1).toInt64) ((x2).toInt64)) (fun r_12 => Option.bind (f_m_common F r_12 ((x3).toInt64)) (fun r_13 => (if (lg_cmp r_13 1) = 0 then kJ112 1 else kJ112 0))) else (if x1 ≤ 0 then kJ112 0 else Option.bind (f_m_common F ((x1).toInt64) ((x2).toInt64)) (fun r_14 => Option.bind (f_m_common F r_14 ((x3).toInt64)) (fun r_15 => (if (lg_cmp r_15 1) = 0 then kJ112 1 else kJ112 0))))))) : Option (Int32 × Int32 × Int64 × Int64 × Int64))) (fun kJ70 => (if r_1 = 0 then kJ70 0 else Option.bind (f_m_in F ((x2).toInt64) (-1073741824) 1073741824) (fun r_16 => (if r_16 = 0 then kJ70 0 else Option.bind (f_m_in F ((x3).toInt64) (-1073741824) 1073741824) (fun r_17 => (if r_17 = 0 then kJ70 0 else (if (lg_cmp (((x2).toInt64 * (x2).toInt64) - ((4 * (x1).toInt64) * (x3).toInt64)) md) = 0 then kJ70 1 else kJ70 0))))))))
set_option maxHeartbeats 4000000 in
set_option maxRecDepth 100000 in
theorem c_m_classOf (l : Launch) (dC : Nat → ClassId) (dI : Nat → Nat → Nat) (qh : Nat) (mco : Int32) (md : Int64) (mw : Int64) (mfo : Int32) (qf : Nat) (qm : Nat) (qk : Nat) (mmy : Int32) (qn : Nat) (qo : Nat) (qi : Nat) (qx : Nat) (mpr : Int32) (mgn : Int32) (qg : Nat) (mli : Int32) (ql : Nat) (ma : Int64) (mb : Int64) (mc : Int64) (uf : ClassId) (Bf : Nat → Int32) (um : ClassId) (Bm : Nat → Int32) (uk : ClassId) (Bk : Nat → Int32) (x1 : Int32) (x2 : Int32) (x3 : Int32) (sz : Nat) (F : Nat) (out : Int32 × Int32 × Int64 × Int64 × Int64) (hf : f_m_classOf F md mw mfo Bf Bm Bk ma mb mc x1 x2 x3 = some out) : Met l yX3_classOf wsX3_classOf ({ frames := 3, cells := 0, slots := 0, locals := 70 }) (va_Pc [.ref qh, .int x1, .int x2, .int x3] (fun U => U.heap.size = sz ∧ va_P (dC, dI) vwCl [(qh, .inr (3, [.int mco, .long md, .long mw, .int mfo, .ref qf, .ref qm, .ref qk, .int mmy, .ref qn, .ref qo, .ref qi, .ref qx, .int mpr, .int mgn, .ref qg, .int mli, .ref ql, .long ma, .long mb, .long mc])), (qf, .inl (uf, 40960, .inl Bf)), (qm, .inl (um, 40960, .inl Bm)), (qk, .inl (uk, 40960, .inl Bk))] U.heap ∧ va_K (dC, dI) vwCl [(uf, .int), (um, .int), (uk, .int)] U ∧ va_D (fun _ => True) [(qh, .inr (3, [.int mco, .long md, .long mw, .int mfo, .ref qf, .ref qm, .ref qk, .int mmy, .ref qn, .ref qo, .ref qi, .ref qx, .int mpr, .int mgn, .ref qg, .int mli, .ref ql, .long ma, .long mb, .long mc])), (qf, .inl (uf, 40960, .inl Bf)), (qm, .inl (um, 40960, .inl Bm)), (qk, .inl (uk, 40960, .inl Bk))])) (va_Qi (fun (r : Int32) (u : Int32 × Int64 × Int64 × Int64) => (r, u) = out) (fun (u : Int32 × Int64 × Int64 × Int64) t => match u with | (u_mco, u_ma, u_mb, u_mc) => va_P (dC, dI) vwCl [(qh, .inr (3, [.int u_mco, .long md, .long mw, .int mfo, .ref qf, .ref qm, .ref qk, .int mmy, .ref qn, .ref qo, .ref qi, .ref qx, .int mpr, .int mgn, .ref qg, .int mli, .ref ql, .long u_ma, .long u_mb, .long u_mc])), (qf, .inl (uf, 40960, .inl Bf)), (qm, .inl (um, 40960, .inl Bm)), (qk, .inl (uk, 40960, .inl Bk))] t.heap ∧ va_K (dC, dI) vwCl [(uf, .int), (um, .int), (uk, .int)] t ∧ va_D (va_A [(qh, .inr (3, [.int mco, .long md, .long mw, .int mfo, .ref qf, .ref qm, .ref qk, .int mmy, .ref qn, .ref qo, .ref qi, .ref qx, .int mpr, .int mgn, .ref qg, .int mli, .ref ql, .long ma, .long mb, .long mc])), (qf, .inl (uf, 40960, .inl Bf)), (qm, .inl (um, 40960, .inl Bm)), (qk, .inl (uk, 40960, .inl Bk))] sz) [(qh, .inr (3, [.int u_mco, .long md, .long mw, .int mfo, .ref qf, .ref qm, .ref qk, .int mmy, .ref qn, .ref qo, .ref qi, .ref qx, .int mpr, .int mgn, .ref qg, .int mli, .ref ql, .long u_ma, .long u_mb, .long u_mc])), (qf, .inl (uf, 40960, .inl Bf)), (qm, .inl (um, 40960, .inl Bm)), (qk, .inl (uk, 40960, .inl Bk))]) (va_A [(qh, .inr (3, [.int mco, .long md, .long mw, .int mfo, .ref qf, .ref qm, .ref qk, .int mmy, .ref qn, .ref qo, .ref qi, .ref qx, .int mpr, .int mgn, .ref qg, .int mli, .ref ql, .long ma, .long mb, .long mc])), (qf, .inl (uf, 40960, .inl Bf)), (qm, .inl (um, 40960, .inl Bm)), (qk, .inl (uk, 40960, .inl Bk))] sz)) 0 0 (va_A [(qh, .inr (3, [.int mco, .long md, .long mw, .int mfo, .ref qf, .ref qm, .ref qk, .int mmy, .ref qn, .ref qo, .ref qi, .ref qx, .int mpr, .int mgn, .ref qg, .int mli, .ref ql, .long ma, .long mb, .long mc])), (qf, .inl (uf, 40960, .inl Bf)), (qm, .inl (um, 40960, .inl Bm)), (qk, .inl (uk, 40960, .inl Bk))] sz) := by
  refine Met.ofW (cc := cX3_classOf) (maxL := 5) (ret := (some .int)) (by decide +kernel) rfl ?_
  intro p e s m args below meth c s₁ B hml hv
  obtain ⟨rfl, hsz, hP, hK, hD0⟩ := hv
  have hx := B.exec
  have hb := B.bytes
  have hr := B.returns
  have hts := atoms_spec (ws := wsX3_classOf) B.pre
  have hown : s.vm.findClass "ClassGroupModel" = some m.cls := findClass_of_methodNamed B.named
  have hlocks := B.notSynchronized
  subst hsz
  have hD := hD0.self (sz := s.heap.size)
  generalize hAe : va_A [(qh, .inr (3, [.int mco, .long md, .long mw, .int mfo, .ref qf, .ref qm, .ref qk, .int mmy, .ref qn, .ref qo, .ref qi, .ref qx, .int mpr, .int mgn, .ref qg, .int mli, .ref ql, .long ma, .long mb, .long mc])), (qf, .inl (uf, 40960, .inl Bf)), (qm, .inl (um, 40960, .inl Bm)), (qk, .inl (uk, 40960, .inl Bk))] s.heap.size = A at hD ⊢
  have hA : ∀ q : Nat, s.heap.size ≤ q → A q := fun q h => by rw [← hAe]; exact Or.inr h
  have hS : va_S A s.heap s.heap [] := va_S.rf
  have hl := lv_entry ([.ref qh, .int x1, .int x2, .int x3]) (n := 5) (Nat.le_of_ble_eq_true rfl)
  rw [lg_entry_eq]
  generalize (lg_sl ([.ref qh, .int x1, .int x2, .int x3]) ++ List.replicate (5 - (lg_sl ([.ref qh, .int x1, .int x2, .int x3])).length) Slot.unset).toArray = ls at hl ⊢
  have hl : lv_has ls 5 [(0, .ref qh), (1, .int x1), (2, .int x2), (3, .int x3)] := hl
  unfold f_m_classOf at hf
  refine lv_iload_n hx hb dX3_classOf_0 rfl (lv_at hl 1 rfl) ?_
  refine lv_i2l (v := (x1).toInt64) hx hb dX3_classOf_1 rfl ?_
  refine lv_ldc2 (v := (-1073741824)) hx hb hown (hts _ (List.mem_cons_of_mem _ kw_598)) dX3_classOf_2 ?_
  refine lv_ldc2 (v := 1073741824) hx hb hown (hts _ (List.mem_cons_of_mem _ kw_599)) dX3_classOf_5 ?_
  obtain ⟨xc8, hc8, hf⟩ := ok_b hf
  have hPc := hP.sub (ws' := []) [] rfl
  have hDc := hD.sub (ws' := []) [] (by decide) rfl
  have hKc := hK.sub (tys' := []) [] rfl
  have hFc := va_free (wc := []) hD hS hA [] rfl
  refine va_calli (va_runS (As := [.long (x1).toInt64, .long (-1073741824), .long 1073741824]) (rest := []) ⟨hx, hb, hml, hown, hts⟩ (c_m_in l dC dI ((x1).toInt64) (-1073741824) 1073741824 s.heap.size F xc8 hc8) (va_cwS 3 hts (gwS kw_579 kw_580 kw_5 kw_581) rfl rfl rfl (by decide +kernel) ⟨Nat.le_of_ble_eq_true rfl, Nat.le_of_ble_eq_true rfl⟩) ⟨fun a U g mk q => by obtain ⟨q0, q1, qP, qK, qD⟩ := q; exact ⟨q0, q1, qP, va_K.moved (u := U) (U := U.calling g mk a) (Vm.Alike.refl U.vm) qK, qD⟩, fun U hU hW => ⟨rfl, by rw [hU], by rw [hU]; exact hPc, va_K.moved hW.alike hKc, hDc.weaken (fun _ _ _ _ => trivial)⟩⟩ rfl rfl hl.1 rfl (lv_room (Nat.le_of_ble_eq_true rfl)) dX3_classOf_8 ⟨Nat.zero_le _, Nat.zero_le _⟩) hS (fun q _ h => hFc q h) hFc (fun r_1 u t H1 locs ht hvm hw hB hz1 hk1 hS => ?_)
  obtain ⟨⟩ := u
  obtain ⟨hP1, hK1, hD1⟩ := hB
  rw [ht] at hP1
  subst hw
  obtain ⟨hP, hD⟩ := va_join (wr := [(qh, .inr (3, [.int mco, .long md, .long mw, .int mfo, .ref qf, .ref qm, .ref qk, .int mmy, .ref qn, .ref qo, .ref qi, .ref qx, .int mpr, .int mgn, .ref qg, .int mli, .ref ql, .long ma, .long mb, .long mc])), (qf, .inl (uf, 40960, .inl Bf)), (qm, .inl (um, 40960, .inl Bm)), (qk, .inl (uk, 40960, .inl Bk))]) (w1 := []) hP hD [] [0, 1, 2, 3] rfl rfl (by decide) (by decide) hk1 hFc hP1 hD1
  generalize H1 = H at hP hS ⊢
  have hP : va_P (dC, dI) vwCl [(qh, .inr (3, [.int mco, .long md, .long mw, .int mfo, .ref qf, .ref qm, .ref qk, .int mmy, .ref qn, .ref qo, .ref qi, .ref qx, .int mpr, .int mgn, .ref qg, .int mli, .ref ql, .long ma, .long mb, .long mc])), (qf, .inl (uf, 40960, .inl Bf)), (qm, .inl (um, 40960, .inl Bm)), (qk, .inl (uk, 40960, .inl Bk))] H := hP
  have hD : va_D A [(qh, .inr (3, [.int mco, .long md, .long mw, .int mfo, .ref qf, .ref qm, .ref qk, .int mmy, .ref qn, .ref qo, .ref qi, .ref qx, .int mpr, .int mgn, .ref qg, .int mli, .ref ql, .long ma, .long mb, .long mc])), (qf, .inl (uf, 40960, .inl Bf)), (qm, .inl (um, 40960, .inl Bm)), (qk, .inl (uk, 40960, .inl Bk))] := hD
  obtain ⟨kJ70, ekJ70, hf⟩ := bnd_ex hf
  have hJ70 : ∀ (t_2 : Int32) (H : Heap) (locs : List Loc) (ls : Array Slot), kJ70 t_2 = some out → va_P (dC, dI) vwCl [(qh, .inr (3, [.int mco, .long md, .long mw, .int mfo, .ref qf, .ref qm, .ref qk, .int mmy, .ref qn, .ref qo, .ref qi, .ref qx, .int mpr, .int mgn, .ref qg, .int mli, .ref ql, .long ma, .long mb, .long mc])), (qf, .inl (uf, 40960, .inl Bf)), (qm, .inl (um, 40960, .inl Bm)), (qk, .inl (uk, 40960, .inl Bk))] H → va_D A [(qh, .inr (3, [.int mco, .long md, .long mw, .int mfo, .ref qf, .ref qm, .ref qk, .int mmy, .ref qn, .ref qo, .ref qi, .ref qx, .int mpr, .int mgn, .ref qg, .int mli, .ref ql, .long ma, .long mb, .long mc])), (qf, .inl (uf, 40960, .inl Bf)), (qm, .inl (um, 40960, .inl Bm)), (qk, .inl (uk, 40960, .inl Bk))] → va_S A s.heap H locs → lv_has ls 5 [(0, .ref qh), (1, .int x1), (2, .int x2), (3, .int x3)] → W p l e ((headSpec wsX3_classOf ({ frames := 3, cells := 0, slots := 0, locals := 70 })).room) s m ([.ref qh, .int x1, .int x2, .int x3] : List Value).toArray below meth c H locs 0 0 (MQ below (va_Qi (fun (r : Int32) (u : Int32 × Int64 × Int64 × Int64) => (r, u) = out) (fun (u : Int32 × Int64 × Int64 × Int64) t => match u with | (u_mco, u_ma, u_mb, u_mc) => va_P (dC, dI) vwCl [(qh, .inr (3, [.int u_mco, .long md, .long mw, .int mfo, .ref qf, .ref qm, .ref qk, .int mmy, .ref qn, .ref qo, .ref qi, .ref qx, .int mpr, .int mgn, .ref qg, .int mli, .ref ql, .long u_ma, .long u_mb, .long u_mc])), (qf, .inl (uf, 40960, .inl Bf)), (qm, .inl (um, 40960, .inl Bm)), (qk, .inl (uk, 40960, .inl Bk))] t.heap ∧ va_K (dC, dI) vwCl [(uf, .int), (um, .int), (uk, .int)] t ∧ va_D A [(qh, .inr (3, [.int u_mco, .long md, .long mw, .int mfo, .ref qf, .ref qm, .ref qk, .int mmy, .ref qn, .ref qo, .ref qi, .ref qx, .int mpr, .int mgn, .ref qg, .int mli, .ref ql, .long u_ma, .long u_mb, .long u_mc])), (qf, .inl (uf, 40960, .inl Bf)), (qm, .inl (um, 40960, .inl Bm)), (qk, .inl (uk, 40960, .inl Bk))]) A) ([.ref qh, .int x1, .int x2, .int x3] : List Value).toArray s 0 0 A) (F0 m 70 ls [.int t_2]) := by
    intro t_2 H locs ls hf hP hD hS hl
    rw [ekJ70] at hf
    refine lv_istore (lv' := [(4, .int t_2), (0, .ref qh), (1, .int x1), (2, .int x2), (3, .int x3)]) hx hb dX3_classOf_70 hl (by decide) rfl (fun ls hl => ?_)
    refine lv_iload hx hb dX3_classOf_72 (lv_at hl 0 rfl) ?_
    obtain ⟨kJ112, ekJ112, hf⟩ := bnd_ex hf
    have hJ112 : ∀ (t_3 : Int32) (H : Heap) (locs : List Loc) (ls : Array Slot), kJ112 t_3 = some out → va_P (dC, dI) vwCl [(qh, .inr (3, [.int mco, .long md, .long mw, .int mfo, .ref qf, .ref qm, .ref qk, .int mmy, .ref qn, .ref qo, .ref qi, .ref qx, .int mpr, .int mgn, .ref qg, .int mli, .ref ql, .long ma, .long mb, .long mc])), (qf, .inl (uf, 40960, .inl Bf)), (qm, .inl (um, 40960, .inl Bm)), (qk, .inl (uk, 40960, .inl Bk))] H → va_D A [(qh, .inr (3, [.int mco, .long md, .long mw, .int mfo, .ref qf, .ref qm, .ref qk, .int mmy, .ref qn, .ref qo, .ref qi, .ref qx, .int mpr, .int mgn, .ref qg, .int mli, .ref ql, .long ma, .long mb, .long mc])), (qf, .inl (uf, 40960, .inl Bf)), (qm, .inl (um, 40960, .inl Bm)), (qk, .inl (uk, 40960, .inl Bk))] → va_S A s.heap H locs → lv_has ls 5 [(0, .ref qh), (1, .int x1), (2, .int x2), (3, .int x3)] → W p l e ((headSpec wsX3_classOf ({ frames := 3, cells := 0, slots := 0, locals := 70 })).room) s m ([.ref qh, .int x1, .int x2, .int x3] : List Value).toArray below meth c H locs 0 0 (MQ below (va_Qi (fun (r : Int32) (u : Int32 × Int64 × Int64 × Int64) => (r, u) = out) (fun (u : Int32 × Int64 × Int64 × Int64) t => match u with | (u_mco, u_ma, u_mb, u_mc) => va_P (dC, dI) vwCl [(qh, .inr (3, [.int u_mco, .long md, .long mw, .int mfo, .ref qf, .ref qm, .ref qk, .int mmy, .ref qn, .ref qo, .ref qi, .ref qx, .int mpr, .int mgn, .ref qg, .int mli, .ref ql, .long u_ma, .long u_mb, .long u_mc])), (qf, .inl (uf, 40960, .inl Bf)), (qm, .inl (um, 40960, .inl Bm)), (qk, .inl (uk, 40960, .inl Bk))] t.heap ∧ va_K (dC, dI) vwCl [(uf, .int), (um, .int), (uk, .int)] t ∧ va_D A [(qh, .inr (3, [.int u_mco, .long md, .long mw, .int mfo, .ref qf, .ref qm, .ref qk, .int mmy, .ref qn, .ref qo, .ref qi, .ref qx, .int mpr, .int mgn, .ref qg, .int mli, .ref ql, .long u_ma, .long u_mb, .long u_mc])), (qf, .inl (uf, 40960, .inl Bf)), (qm, .inl (um, 40960, .inl Bm)), (qk, .inl (uk, 40960, .inl Bk))]) A) ([.ref qh, .int x1, .int x2, .int x3] : List Value).toArray s 0 0 A) (F0 m 112 ls [.int t_3]) := by
      intro t_3 H locs ls hf hP hD hS hl
      rw [ekJ112] at hf
      refine lv_istore (lv' := [(4, .int t_3), (0, .ref qh), (1, .int x1), (2, .int x2), (3, .int x3)]) hx hb dX3_classOf_112 hl (by decide) rfl (fun ls hl => ?_)
      refine lv_aload_n hx hb dX3_classOf_114 rfl (lv_at hl 1 rfl) ?_
      refine lv_iload hx hb dX3_classOf_115 (lv_at hl 0 rfl) ?_
      obtain ⟨kJ125, ekJ125, hf⟩ := bnd_ex hf
      have hJ125 : ∀ (t_4 : Int32) (H : Heap) (locs : List Loc) (ls : Array Slot), kJ125 t_4 = some out → va_P (dC, dI) vwCl [(qh, .inr (3, [.int mco, .long md, .long mw, .int mfo, .ref qf, .ref qm, .ref qk, .int mmy, .ref qn, .ref qo, .ref qi, .ref qx, .int mpr, .int mgn, .ref qg, .int mli, .ref ql, .long ma, .long mb, .long mc])), (qf, .inl (uf, 40960, .inl Bf)), (qm, .inl (um, 40960, .inl Bm)), (qk, .inl (uk, 40960, .inl Bk))] H → va_D A [(qh, .inr (3, [.int mco, .long md, .long mw, .int mfo, .ref qf, .ref qm, .ref qk, .int mmy, .ref qn, .ref qo, .ref qi, .ref qx, .int mpr, .int mgn, .ref qg, .int mli, .ref ql, .long ma, .long mb, .long mc])), (qf, .inl (uf, 40960, .inl Bf)), (qm, .inl (um, 40960, .inl Bm)), (qk, .inl (uk, 40960, .inl Bk))] → va_S A s.heap H locs → lv_has ls 5 [(0, .ref qh), (1, .int x1), (2, .int x2), (3, .int x3), (4, .int t_3)] → W p l e ((headSpec wsX3_classOf ({ frames := 3, cells := 0, slots := 0, locals := 70 })).room) s m ([.ref qh, .int x1, .int x2, .int x3] : List Value).toArray below meth c H locs 0 0 (MQ below (va_Qi (fun (r : Int32) (u : Int32 × Int64 × Int64 × Int64) => (r, u) = out) (fun (u : Int32 × Int64 × Int64 × Int64) t => match u with | (u_mco, u_ma, u_mb, u_mc) => va_P (dC, dI) vwCl [(qh, .inr (3, [.int u_mco, .long md, .long mw, .int mfo, .ref qf, .ref qm, .ref qk, .int mmy, .ref qn, .ref qo, .ref qi, .ref qx, .int mpr, .int mgn, .ref qg, .int mli, .ref ql, .long u_ma, .long u_mb, .long u_mc])), (qf, .inl (uf, 40960, .inl Bf)), (qm, .inl (um, 40960, .inl Bm)), (qk, .inl (uk, 40960, .inl Bk))] t.heap ∧ va_K (dC, dI) vwCl [(uf, .int), (um, .int), (uk, .int)] t ∧ va_D A [(qh, .inr (3, [.int u_mco, .long md, .long mw, .int mfo, .ref qf, .ref qm, .ref qk, .int mmy, .ref qn, .ref qo, .ref qi, .ref qx, .int mpr, .int mgn, .ref qg, .int mli, .ref ql, .long u_ma, .long u_mb, .long u_mc])), (qf, .inl (uf, 40960, .inl Bf)), (qm, .inl (um, 40960, .inl Bm)), (qk, .inl (uk, 40960, .inl Bk))]) A) ([.ref qh, .int x1, .int x2, .int x3] : List Value).toArray s 0 0 A) (F0 m 125 ls [.int t_4, .ref qh]) := by
        intro t_4 H locs ls hf hP hD hS hl
        rw [ekJ125] at hf
        refine va_put (D := (dC, dI)) (ci := 3) (v := .int t_4) (ty := .int) (C := "ClassGroupModel") (T := TX3) (N := 20) hx hb hts (fun w h => List.mem_cons_of_mem _ (iwX3 w h)) tyX3 tyokX3 nmX3 hown hK hP hD hS 0 rfl rfl 0 (by decide) (hts _ (List.mem_cons_of_mem _ kw_507)) (fun _ h9 => h9) rfl (by decide +kernel) rfl rfl (Nat.le_of_ble_eq_true rfl) dX3_classOf_125 (fun H locs hP hD hS => ?_)
        have hP : va_P (dC, dI) vwCl [(qh, .inr (3, [.int t_4, .long md, .long mw, .int mfo, .ref qf, .ref qm, .ref qk, .int mmy, .ref qn, .ref qo, .ref qi, .ref qx, .int mpr, .int mgn, .ref qg, .int mli, .ref ql, .long ma, .long mb, .long mc])), (qf, .inl (uf, 40960, .inl Bf)), (qm, .inl (um, 40960, .inl Bm)), (qk, .inl (uk, 40960, .inl Bk))] H := hP
        have hD : va_D A [(qh, .inr (3, [.int t_4, .long md, .long mw, .int mfo, .ref qf, .ref qm, .ref qk, .int mmy, .ref qn, .ref qo, .ref qi, .ref qx, .int mpr, .int mgn, .ref qg, .int mli, .ref ql, .long ma, .long mb, .long mc])), (qf, .inl (uf, 40960, .inl Bf)), (qm, .inl (um, 40960, .inl Bm)), (qk, .inl (uk, 40960, .inl Bk))] := hD
        refine lv_iload hx hb dX3_classOf_128 (lv_at hl 4 rfl) ?_
        refine lv_if_ne (tgt := 135) hx hb dX3_classOf_130 (by decide) (fun c_130 => ?_) (fun c_130 => ?_)
        · have hf := ok_f c_130 hf
          refine lv_aload_n hx hb dX3_classOf_135 rfl (lv_at hl 0 rfl) ?_
          refine lv_iload_n hx hb dX3_classOf_136 rfl (lv_at hl 1 rfl) ?_
          refine lv_i2l (v := (x1).toInt64) hx hb dX3_classOf_137 rfl ?_
          refine lv_topl (fun f_a_5 ef_a_5 => ?_)
          replace hf := bnd_ok ef_a_5 hf
          refine va_put (D := (dC, dI)) (ci := 3) (v := .long f_a_5) (ty := .long) (C := "ClassGroupModel") (T := TX3) (N := 20) hx hb hts (fun w h => List.mem_cons_of_mem _ (iwX3 w h)) tyX3 tyokX3 nmX3 hown hK hP hD hS 0 rfl rfl 17 (by decide) (hts _ (List.mem_cons_of_mem _ kw_524)) (fun _ h9 => h9) rfl (by decide +kernel) rfl rfl (Nat.le_of_ble_eq_true rfl) dX3_classOf_138 (fun H locs hP hD hS => ?_)
          have hP : va_P (dC, dI) vwCl [(qh, .inr (3, [.int t_4, .long md, .long mw, .int mfo, .ref qf, .ref qm, .ref qk, .int mmy, .ref qn, .ref qo, .ref qi, .ref qx, .int mpr, .int mgn, .ref qg, .int mli, .ref ql, .long f_a_5, .long mb, .long mc])), (qf, .inl (uf, 40960, .inl Bf)), (qm, .inl (um, 40960, .inl Bm)), (qk, .inl (uk, 40960, .inl Bk))] H := hP
          have hD : va_D A [(qh, .inr (3, [.int t_4, .long md, .long mw, .int mfo, .ref qf, .ref qm, .ref qk, .int mmy, .ref qn, .ref qo, .ref qi, .ref qx, .int mpr, .int mgn, .ref qg, .int mli, .ref ql, .long f_a_5, .long mb, .long mc])), (qf, .inl (uf, 40960, .inl Bf)), (qm, .inl (um, 40960, .inl Bm)), (qk, .inl (uk, 40960, .inl Bk))] := hD
          refine lv_aload_n hx hb dX3_classOf_141 rfl (lv_at hl 0 rfl) ?_
          refine lv_iload_n hx hb dX3_classOf_142 rfl (lv_at hl 2 rfl) ?_
          refine lv_i2l (v := (x2).toInt64) hx hb dX3_classOf_143 rfl ?_
          refine lv_topl (fun f_b_6 ef_b_6 => ?_)
          replace hf := bnd_ok ef_b_6 hf
          refine va_put (D := (dC, dI)) (ci := 3) (v := .long f_b_6) (ty := .long) (C := "ClassGroupModel") (T := TX3) (N := 20) hx hb hts (fun w h => List.mem_cons_of_mem _ (iwX3 w h)) tyX3 tyokX3 nmX3 hown hK hP hD hS 0 rfl rfl 18 (by decide) (hts _ (List.mem_cons_of_mem _ kw_525)) (fun _ h9 => h9) rfl (by decide +kernel) rfl rfl (Nat.le_of_ble_eq_true rfl) dX3_classOf_144 (fun H locs hP hD hS => ?_)
          have hP : va_P (dC, dI) vwCl [(qh, .inr (3, [.int t_4, .long md, .long mw, .int mfo, .ref qf, .ref qm, .ref qk, .int mmy, .ref qn, .ref qo, .ref qi, .ref qx, .int mpr, .int mgn, .ref qg, .int mli, .ref ql, .long f_a_5, .long f_b_6, .long mc])), (qf, .inl (uf, 40960, .inl Bf)), (qm, .inl (um, 40960, .inl Bm)), (qk, .inl (uk, 40960, .inl Bk))] H := hP
          have hD : va_D A [(qh, .inr (3, [.int t_4, .long md, .long mw, .int mfo, .ref qf, .ref qm, .ref qk, .int mmy, .ref qn, .ref qo, .ref qi, .ref qx, .int mpr, .int mgn, .ref qg, .int mli, .ref ql, .long f_a_5, .long f_b_6, .long mc])), (qf, .inl (uf, 40960, .inl Bf)), (qm, .inl (um, 40960, .inl Bm)), (qk, .inl (uk, 40960, .inl Bk))] := hD
          refine lv_aload_n hx hb dX3_classOf_147 rfl (lv_at hl 0 rfl) ?_
          refine lv_iload_n hx hb dX3_classOf_148 rfl (lv_at hl 3 rfl) ?_
          refine lv_i2l (v := (x3).toInt64) hx hb dX3_classOf_149 rfl ?_
          refine lv_topl (fun f_c_7 ef_c_7 => ?_)
          replace hf := bnd_ok ef_c_7 hf
          refine va_put (D := (dC, dI)) (ci := 3) (v := .long f_c_7) (ty := .long) (C := "ClassGroupModel") (T := TX3) (N := 20) hx hb hts (fun w h => List.mem_cons_of_mem _ (iwX3 w h)) tyX3 tyokX3 nmX3 hown hK hP hD hS 0 rfl rfl 19 (by decide) (hts _ (List.mem_cons_of_mem _ kw_526)) (fun _ h9 => h9) rfl (by decide +kernel) rfl rfl (Nat.le_of_ble_eq_true rfl) dX3_classOf_150 (fun H locs hP hD hS => ?_)
          have hP : va_P (dC, dI) vwCl [(qh, .inr (3, [.int t_4, .long md, .long mw, .int mfo, .ref qf, .ref qm, .ref qk, .int mmy, .ref qn, .ref qo, .ref qi, .ref qx, .int mpr, .int mgn, .ref qg, .int mli, .ref ql, .long f_a_5, .long f_b_6, .long f_c_7])), (qf, .inl (uf, 40960, .inl Bf)), (qm, .inl (um, 40960, .inl Bm)), (qk, .inl (uk, 40960, .inl Bk))] H := hP
          have hD : va_D A [(qh, .inr (3, [.int t_4, .long md, .long mw, .int mfo, .ref qf, .ref qm, .ref qk, .int mmy, .ref qn, .ref qo, .ref qi, .ref qx, .int mpr, .int mgn, .ref qg, .int mli, .ref ql, .long f_a_5, .long f_b_6, .long f_c_7])), (qf, .inl (uf, 40960, .inl Bf)), (qm, .inl (um, 40960, .inl Bm)), (qk, .inl (uk, 40960, .inl Bk))] := hD
          refine lv_aload_n hx hb dX3_classOf_153 rfl (lv_at hl 0 rfl) ?_
          obtain ⟨xc154, hc154, hf⟩ := ok_b hf
          have hPc := hP.sub (ws' := [(qh, .inr (3, [.int t_4, .long md, .long mw, .int mfo, .ref qf, .ref qm, .ref qk, .int mmy, .ref qn, .ref qo, .ref qi, .ref qx, .int mpr, .int mgn, .ref qg, .int mli, .ref ql, .long f_a_5, .long f_b_6, .long f_c_7])), (qf, .inl (uf, 40960, .inl Bf)), (qm, .inl (um, 40960, .inl Bm)), (qk, .inl (uk, 40960, .inl Bk))]) [0, 1, 2, 3] rfl
          have hDc := hD.sub (ws' := [(qh, .inr (3, [.int t_4, .long md, .long mw, .int mfo, .ref qf, .ref qm, .ref qk, .int mmy, .ref qn, .ref qo, .ref qi, .ref qx, .int mpr, .int mgn, .ref qg, .int mli, .ref ql, .long f_a_5, .long f_b_6, .long f_c_7])), (qf, .inl (uf, 40960, .inl Bf)), (qm, .inl (um, 40960, .inl Bm)), (qk, .inl (uk, 40960, .inl Bk))]) [0, 1, 2, 3] (by decide) rfl
          have hKc := hK.sub (tys' := [(uf, .int), (um, .int), (uk, .int)]) [0, 1, 2] rfl
          have hFc := va_free (wc := [(qh, .inr (3, [.int t_4, .long md, .long mw, .int mfo, .ref qf, .ref qm, .ref qk, .int mmy, .ref qn, .ref qo, .ref qi, .ref qx, .int mpr, .int mgn, .ref qg, .int mli, .ref ql, .long f_a_5, .long f_b_6, .long f_c_7])), (qf, .inl (uf, 40960, .inl Bf)), (qm, .inl (um, 40960, .inl Bm)), (qk, .inl (uk, 40960, .inl Bk))]) hD hS hA [0, 1, 2, 3] rfl
          refine va_calli (va_runV (As := []) (rest := []) ⟨hx, hb, hml, hown, hts⟩ (c_m_found l dC dI qh t_4 md mw mfo qf qm qk mmy qn qo qi qx mpr mgn qg mli ql f_a_5 f_b_6 f_c_7 uf Bf um Bm uk Bk H.size F xc154 hc154) (cwV 0 hts (gwV kw_479 kw_481 ks_34 kw_5 kw_482) rfl rfl rfl (by decide +kernel) ⟨Nat.le_of_ble_eq_true rfl, Nat.le_of_ble_eq_true rfl⟩) ⟨fun a U g mk q => by obtain ⟨q0, q1, qP, qK, qD⟩ := q; exact ⟨q0, q1, qP, va_K.moved (u := U) (U := U.calling g mk a) (Vm.Alike.refl U.vm) qK, qD⟩, va_recv hKc hPc (ci := 3) (q0 := 0) rfl rfl, fun U hU hW => ⟨rfl, by rw [hU], by rw [hU]; exact hPc, va_K.moved hW.alike hKc, hDc.weaken (fun _ _ _ _ => trivial)⟩⟩ rfl rfl hl.1 rfl (lv_room (Nat.le_of_ble_eq_true rfl)) dX3_classOf_154 ⟨Nat.zero_le _, Nat.zero_le _⟩) hS (fun q _ h => hFc q h) hFc (fun r_8 u t H1 locs ht hvm hw hB hz1 hk1 hS => ?_)
          obtain ⟨u_ma_9, u_mb_10, u_mc_11⟩ := u
          obtain ⟨hP1, hK1, hD1⟩ := hB
          rw [ht] at hP1
          subst hw
          obtain ⟨hP, hD⟩ := va_join (wr := []) (w1 := [(qh, .inr (3, [.int t_4, .long md, .long mw, .int mfo, .ref qf, .ref qm, .ref qk, .int mmy, .ref qn, .ref qo, .ref qi, .ref qx, .int mpr, .int mgn, .ref qg, .int mli, .ref ql, .long u_ma_9, .long u_mb_10, .long u_mc_11])), (qf, .inl (uf, 40960, .inl Bf)), (qm, .inl (um, 40960, .inl Bm)), (qk, .inl (uk, 40960, .inl Bk))]) hP hD [0, 1, 2, 3] [] rfl rfl (by decide) (by decide) hk1 hFc hP1 hD1
          generalize H1 = H at hP hS ⊢
          have hP : va_P (dC, dI) vwCl [(qh, .inr (3, [.int t_4, .long md, .long mw, .int mfo, .ref qf, .ref qm, .ref qk, .int mmy, .ref qn, .ref qo, .ref qi, .ref qx, .int mpr, .int mgn, .ref qg, .int mli, .ref ql, .long u_ma_9, .long u_mb_10, .long u_mc_11])), (qf, .inl (uf, 40960, .inl Bf)), (qm, .inl (um, 40960, .inl Bm)), (qk, .inl (uk, 40960, .inl Bk))] H := hP
          have hD : va_D A [(qh, .inr (3, [.int t_4, .long md, .long mw, .int mfo, .ref qf, .ref qm, .ref qk, .int mmy, .ref qn, .ref qo, .ref qi, .ref qx, .int mpr, .int mgn, .ref qg, .int mli, .ref ql, .long u_ma_9, .long u_mb_10, .long u_mc_11])), (qf, .inl (uf, 40960, .inl Bf)), (qm, .inl (um, 40960, .inl Bm)), (qk, .inl (uk, 40960, .inl Bk))] := hD
          have hP9 := hP.sub (ws' := [(qh, .inr (3, [.int t_4, .long md, .long mw, .int mfo, .ref qf, .ref qm, .ref qk, .int mmy, .ref qn, .ref qo, .ref qi, .ref qx, .int mpr, .int mgn, .ref qg, .int mli, .ref ql, .long u_ma_9, .long u_mb_10, .long u_mc_11])), (qf, .inl (uf, 40960, .inl Bf)), (qm, .inl (um, 40960, .inl Bm)), (qk, .inl (uk, 40960, .inl Bk))]) [0, 1, 2, 3] rfl
          have hD9 := hD.sub (ws' := [(qh, .inr (3, [.int t_4, .long md, .long mw, .int mfo, .ref qf, .ref qm, .ref qk, .int mmy, .ref qn, .ref qo, .ref qi, .ref qx, .int mpr, .int mgn, .ref qg, .int mli, .ref ql, .long u_ma_9, .long u_mb_10, .long u_mc_11])), (qf, .inl (uf, 40960, .inl Bf)), (qm, .inl (um, 40960, .inl Bm)), (qk, .inl (uk, 40960, .inl Bk))]) [0, 1, 2, 3] (by decide) rfl
          have hK9 := hK.sub (tys' := [(uf, .int), (um, .int), (uk, .int)]) [0, 1, 2] rfl
          exact W.iret (v := r_8) hx hb hr (fun t ht hW => ⟨⟨r_8, (t_4, u_ma_9, u_mb_10, u_mc_11), rfl, (Option.some.inj hf), by rw [ht]; exact hP9, va_K.moved hW.alike hK9, hD9⟩, hS.F ht⟩) hS.2.2 dX3_classOf_157
        · have hf := ok_t c_130 hf
          refine lv_iconst (v := 0) hx hb dX3_classOf_133 (by decide) ?_
          have hP9 := hP.sub (ws' := [(qh, .inr (3, [.int t_4, .long md, .long mw, .int mfo, .ref qf, .ref qm, .ref qk, .int mmy, .ref qn, .ref qo, .ref qi, .ref qx, .int mpr, .int mgn, .ref qg, .int mli, .ref ql, .long ma, .long mb, .long mc])), (qf, .inl (uf, 40960, .inl Bf)), (qm, .inl (um, 40960, .inl Bm)), (qk, .inl (uk, 40960, .inl Bk))]) [0, 1, 2, 3] rfl
          have hD9 := hD.sub (ws' := [(qh, .inr (3, [.int t_4, .long md, .long mw, .int mfo, .ref qf, .ref qm, .ref qk, .int mmy, .ref qn, .ref qo, .ref qi, .ref qx, .int mpr, .int mgn, .ref qg, .int mli, .ref ql, .long ma, .long mb, .long mc])), (qf, .inl (uf, 40960, .inl Bf)), (qm, .inl (um, 40960, .inl Bm)), (qk, .inl (uk, 40960, .inl Bk))]) [0, 1, 2, 3] (by decide) rfl
          have hK9 := hK.sub (tys' := [(uf, .int), (um, .int), (uk, .int)]) [0, 1, 2] rfl
          exact W.iret (v := 0) hx hb hr (fun t ht hW => ⟨⟨0, (t_4, ma, mb, mc), rfl, (Option.some.inj hf), by rw [ht]; exact hP9, va_K.moved hW.alike hK9, hD9⟩, hS.F ht⟩) hS.2.2 dX3_classOf_134
      refine lv_if_eq (tgt := 124) hx hb dX3_classOf_117 (by decide) (fun c_117 => ?_) (fun c_117 => ?_)
      · have hf := ok_t c_117 hf
        refine lv_iconst (v := 1) hx hb dX3_classOf_124 (by decide) ?_
        exact hJ125 1 _ _ _ hf (hP.sub [0, 1, 2, 3] rfl) (hD.sub [0, 1, 2, 3] (by decide) rfl) hS (lv_sub hl [1, 2, 3, 4, 0] rfl)
      · have hf := ok_f c_117 hf
        refine lv_iconst (v := 0) hx hb dX3_classOf_120 (by decide) ?_
        refine lv_goto (tgt := 125) hx hb dX3_classOf_121 (by decide) ?_
        exact hJ125 0 _ _ _ hf (hP.sub [0, 1, 2, 3] rfl) (hD.sub [0, 1, 2, 3] (by decide) rfl) hS (lv_sub hl [1, 2, 3, 4, 0] rfl)
    refine lv_if_eq (tgt := 111) hx hb dX3_classOf_74 (by decide) (fun c_74 => ?_) (fun c_74 => ?_)
    · have hf := ok_t c_74 hf
      refine lv_iconst (v := 0) hx hb dX3_classOf_111 (by decide) ?_
      exact hJ112 0 _ _ _ hf (hP.sub [0, 1, 2, 3] rfl) (hD.sub [0, 1, 2, 3] (by decide) rfl) hS (lv_sub hl [1, 2, 3, 4] rfl)
    · have hf := ok_f c_74 hf
      refine lv_aload_n hx hb dX3_classOf_77 rfl (lv_at hl 1 rfl) ?_
      refine va_get (D := (dC, dI)) (ci := 3) (v := .long md) (C := "ClassGroupModel") (T := TX3) (N := 20) hx hb hts (fun w h => List.mem_cons_of_mem _ (iwX3 w h)) hown hK hP 0 rfl rfl 1 (by decide) (hts _ (List.mem_cons_of_mem _ kw_508)) (fun _ h9 => h9) rfl dX3_classOf_78 ?_
      refine lv_lconst (v := 0) hx hb dX3_classOf_81 (by decide) ?_
      refine W.lcmp hx hb dX3_classOf_82 ?_
      refine lv_if_gt (tgt := 90) hx hb dX3_classOf_83 (by decide) (fun c_83 => ?_) (fun c_83 => ?_)
      · have hf := ok_t c_83 hf
        refine lv_iload_n hx hb dX3_classOf_90 rfl (lv_at hl 2 rfl) ?_
        refine lv_i2l (v := (x1).toInt64) hx hb dX3_classOf_91 rfl ?_
        refine lv_iload_n hx hb dX3_classOf_92 rfl (lv_at hl 3 rfl) ?_
        refine lv_i2l (v := (x2).toInt64) hx hb dX3_classOf_93 rfl ?_
        obtain ⟨xc94, hc94, hf⟩ := ok_b hf
        have hPc := hP.sub (ws' := []) [] rfl
        have hDc := hD.sub (ws' := []) [] (by decide) rfl
        have hKc := hK.sub (tys' := []) [] rfl
        have hFc := va_free (wc := []) hD hS hA [] rfl
        refine va_calll (va_runS (As := [.long (x1).toInt64, .long (x2).toInt64]) (rest := []) ⟨hx, hb, hml, hown, hts⟩ (c_m_common l dC dI ((x1).toInt64) ((x2).toInt64) H.size F xc94 hc94) (va_cwS 2 hts (gwS kw_464 kw_465 kw_5 kw_466) rfl rfl rfl (by decide +kernel) ⟨Nat.le_of_ble_eq_true rfl, Nat.le_of_ble_eq_true rfl⟩) ⟨fun a U g mk q => by obtain ⟨q0, q1, qP, qK, qD⟩ := q; exact ⟨q0, q1, qP, va_K.moved (u := U) (U := U.calling g mk a) (Vm.Alike.refl U.vm) qK, qD⟩, fun U hU hW => ⟨rfl, by rw [hU], by rw [hU]; exact hPc, va_K.moved hW.alike hKc, hDc.weaken (fun _ _ _ _ => trivial)⟩⟩ rfl rfl hl.1 rfl (lv_room (Nat.le_of_ble_eq_true rfl)) dX3_classOf_94 ⟨Nat.zero_le _, Nat.zero_le _⟩) hS (fun q _ h => hFc q h) hFc (fun r_12 u t H1 locs ht hvm hw hB hz1 hk1 hS => ?_)
        obtain ⟨⟩ := u
        obtain ⟨hP1, hK1, hD1⟩ := hB
        rw [ht] at hP1
        subst hw
        obtain ⟨hP, hD⟩ := va_join (wr := [(qh, .inr (3, [.int mco, .long md, .long mw, .int mfo, .ref qf, .ref qm, .ref qk, .int mmy, .ref qn, .ref qo, .ref qi, .ref qx, .int mpr, .int mgn, .ref qg, .int mli, .ref ql, .long ma, .long mb, .long mc])), (qf, .inl (uf, 40960, .inl Bf)), (qm, .inl (um, 40960, .inl Bm)), (qk, .inl (uk, 40960, .inl Bk))]) (w1 := []) hP hD [] [0, 1, 2, 3] rfl rfl (by decide) (by decide) hk1 hFc hP1 hD1
        generalize H1 = H at hP hS ⊢
        have hP : va_P (dC, dI) vwCl [(qh, .inr (3, [.int mco, .long md, .long mw, .int mfo, .ref qf, .ref qm, .ref qk, .int mmy, .ref qn, .ref qo, .ref qi, .ref qx, .int mpr, .int mgn, .ref qg, .int mli, .ref ql, .long ma, .long mb, .long mc])), (qf, .inl (uf, 40960, .inl Bf)), (qm, .inl (um, 40960, .inl Bm)), (qk, .inl (uk, 40960, .inl Bk))] H := hP
        have hD : va_D A [(qh, .inr (3, [.int mco, .long md, .long mw, .int mfo, .ref qf, .ref qm, .ref qk, .int mmy, .ref qn, .ref qo, .ref qi, .ref qx, .int mpr, .int mgn, .ref qg, .int mli, .ref ql, .long ma, .long mb, .long mc])), (qf, .inl (uf, 40960, .inl Bf)), (qm, .inl (um, 40960, .inl Bm)), (qk, .inl (uk, 40960, .inl Bk))] := hD
        refine lv_iload_n hx hb dX3_classOf_97 rfl (lv_at hl 4 rfl) ?_
        refine lv_i2l (v := (x3).toInt64) hx hb dX3_classOf_98 rfl ?_
        obtain ⟨xc99, hc99, hf⟩ := ok_b hf
        have hPc := hP.sub (ws' := []) [] rfl
        have hDc := hD.sub (ws' := []) [] (by decide) rfl
        have hKc := hK.sub (tys' := []) [] rfl
        have hFc := va_free (wc := []) hD hS hA [] rfl
        refine va_calll (va_runS (As := [.long r_12, .long (x3).toInt64]) (rest := []) ⟨hx, hb, hml, hown, hts⟩ (c_m_common l dC dI r_12 ((x3).toInt64) H.size F xc99 hc99) (va_cwS 2 hts (gwS kw_464 kw_465 kw_5 kw_466) rfl rfl rfl (by decide +kernel) ⟨Nat.le_of_ble_eq_true rfl, Nat.le_of_ble_eq_true rfl⟩) ⟨fun a U g mk q => by obtain ⟨q0, q1, qP, qK, qD⟩ := q; exact ⟨q0, q1, qP, va_K.moved (u := U) (U := U.calling g mk a) (Vm.Alike.refl U.vm) qK, qD⟩, fun U hU hW => ⟨rfl, by rw [hU], by rw [hU]; exact hPc, va_K.moved hW.alike hKc, hDc.weaken (fun _ _ _ _ => trivial)⟩⟩ rfl rfl hl.1 rfl (lv_room (Nat.le_of_ble_eq_true rfl)) dX3_classOf_99 ⟨Nat.zero_le _, Nat.zero_le _⟩) hS (fun q _ h => hFc q h) hFc (fun r_13 u t H1 locs ht hvm hw hB hz1 hk1 hS => ?_)
        obtain ⟨⟩ := u
        obtain ⟨hP1, hK1, hD1⟩ := hB
        rw [ht] at hP1
        subst hw
        obtain ⟨hP, hD⟩ := va_join (wr := [(qh, .inr (3, [.int mco, .long md, .long mw, .int mfo, .ref qf, .ref qm, .ref qk, .int mmy, .ref qn, .ref qo, .ref qi, .ref qx, .int mpr, .int mgn, .ref qg, .int mli, .ref ql, .long ma, .long mb, .long mc])), (qf, .inl (uf, 40960, .inl Bf)), (qm, .inl (um, 40960, .inl Bm)), (qk, .inl (uk, 40960, .inl Bk))]) (w1 := []) hP hD [] [0, 1, 2, 3] rfl rfl (by decide) (by decide) hk1 hFc hP1 hD1
        generalize H1 = H at hP hS ⊢
        have hP : va_P (dC, dI) vwCl [(qh, .inr (3, [.int mco, .long md, .long mw, .int mfo, .ref qf, .ref qm, .ref qk, .int mmy, .ref qn, .ref qo, .ref qi, .ref qx, .int mpr, .int mgn, .ref qg, .int mli, .ref ql, .long ma, .long mb, .long mc])), (qf, .inl (uf, 40960, .inl Bf)), (qm, .inl (um, 40960, .inl Bm)), (qk, .inl (uk, 40960, .inl Bk))] H := hP
        have hD : va_D A [(qh, .inr (3, [.int mco, .long md, .long mw, .int mfo, .ref qf, .ref qm, .ref qk, .int mmy, .ref qn, .ref qo, .ref qi, .ref qx, .int mpr, .int mgn, .ref qg, .int mli, .ref ql, .long ma, .long mb, .long mc])), (qf, .inl (uf, 40960, .inl Bf)), (qm, .inl (um, 40960, .inl Bm)), (qk, .inl (uk, 40960, .inl Bk))] := hD
        refine lv_lconst (v := 1) hx hb dX3_classOf_102 (by decide) ?_
        refine W.lcmp hx hb dX3_classOf_103 ?_
        refine lv_if_ne (tgt := 111) hx hb dX3_classOf_104 (by decide) (fun c_104 => ?_) (fun c_104 => ?_)
        · have hf := ok_f c_104 hf
          refine lv_iconst (v := 0) hx hb dX3_classOf_111 (by decide) ?_
          exact hJ112 0 _ _ _ hf (hP.sub [0, 1, 2, 3] rfl) (hD.sub [0, 1, 2, 3] (by decide) rfl) hS (lv_sub hl [1, 2, 3, 4] rfl)
        · have hf := ok_t c_104 hf
          refine lv_iconst (v := 1) hx hb dX3_classOf_107 (by decide) ?_
          refine lv_goto (tgt := 112) hx hb dX3_classOf_108 (by decide) ?_
          exact hJ112 1 _ _ _ hf (hP.sub [0, 1, 2, 3] rfl) (hD.sub [0, 1, 2, 3] (by decide) rfl) hS (lv_sub hl [1, 2, 3, 4] rfl)
      · have hf := ok_f c_83 hf
        refine lv_iload_n hx hb dX3_classOf_86 rfl (lv_at hl 2 rfl) ?_
        refine lv_if_le (tgt := 111) hx hb dX3_classOf_87 (by decide) (fun c_87 => ?_) (fun c_87 => ?_)
        · have hf := ok_t c_87 hf
          refine lv_iconst (v := 0) hx hb dX3_classOf_111 (by decide) ?_
          exact hJ112 0 _ _ _ hf (hP.sub [0, 1, 2, 3] rfl) (hD.sub [0, 1, 2, 3] (by decide) rfl) hS (lv_sub hl [1, 2, 3, 4] rfl)
        · have hf := ok_f c_87 hf
          refine lv_iload_n hx hb dX3_classOf_90 rfl (lv_at hl 2 rfl) ?_
          refine lv_i2l (v := (x1).toInt64) hx hb dX3_classOf_91 rfl ?_
          refine lv_iload_n hx hb dX3_classOf_92 rfl (lv_at hl 3 rfl) ?_
          refine lv_i2l (v := (x2).toInt64) hx hb dX3_classOf_93 rfl ?_
          obtain ⟨xc94, hc94, hf⟩ := ok_b hf
          have hPc := hP.sub (ws' := []) [] rfl
          have hDc := hD.sub (ws' := []) [] (by decide) rfl
          have hKc := hK.sub (tys' := []) [] rfl
          have hFc := va_free (wc := []) hD hS hA [] rfl
          refine va_calll (va_runS (As := [.long (x1).toInt64, .long (x2).toInt64]) (rest := []) ⟨hx, hb, hml, hown, hts⟩ (c_m_common l dC dI ((x1).toInt64) ((x2).toInt64) H.size F xc94 hc94) (va_cwS 2 hts (gwS kw_464 kw_465 kw_5 kw_466) rfl rfl rfl (by decide +kernel) ⟨Nat.le_of_ble_eq_true rfl, Nat.le_of_ble_eq_true rfl⟩) ⟨fun a U g mk q => by obtain ⟨q0, q1, qP, qK, qD⟩ := q; exact ⟨q0, q1, qP, va_K.moved (u := U) (U := U.calling g mk a) (Vm.Alike.refl U.vm) qK, qD⟩, fun U hU hW => ⟨rfl, by rw [hU], by rw [hU]; exact hPc, va_K.moved hW.alike hKc, hDc.weaken (fun _ _ _ _ => trivial)⟩⟩ rfl rfl hl.1 rfl (lv_room (Nat.le_of_ble_eq_true rfl)) dX3_classOf_94 ⟨Nat.zero_le _, Nat.zero_le _⟩) hS (fun q _ h => hFc q h) hFc (fun r_14 u t H1 locs ht hvm hw hB hz1 hk1 hS => ?_)
          obtain ⟨⟩ := u
          obtain ⟨hP1, hK1, hD1⟩ := hB
          rw [ht] at hP1
          subst hw
          obtain ⟨hP, hD⟩ := va_join (wr := [(qh, .inr (3, [.int mco, .long md, .long mw, .int mfo, .ref qf, .ref qm, .ref qk, .int mmy, .ref qn, .ref qo, .ref qi, .ref qx, .int mpr, .int mgn, .ref qg, .int mli, .ref ql, .long ma, .long mb, .long mc])), (qf, .inl (uf, 40960, .inl Bf)), (qm, .inl (um, 40960, .inl Bm)), (qk, .inl (uk, 40960, .inl Bk))]) (w1 := []) hP hD [] [0, 1, 2, 3] rfl rfl (by decide) (by decide) hk1 hFc hP1 hD1
          generalize H1 = H at hP hS ⊢
          have hP : va_P (dC, dI) vwCl [(qh, .inr (3, [.int mco, .long md, .long mw, .int mfo, .ref qf, .ref qm, .ref qk, .int mmy, .ref qn, .ref qo, .ref qi, .ref qx, .int mpr, .int mgn, .ref qg, .int mli, .ref ql, .long ma, .long mb, .long mc])), (qf, .inl (uf, 40960, .inl Bf)), (qm, .inl (um, 40960, .inl Bm)), (qk, .inl (uk, 40960, .inl Bk))] H := hP
          have hD : va_D A [(qh, .inr (3, [.int mco, .long md, .long mw, .int mfo, .ref qf, .ref qm, .ref qk, .int mmy, .ref qn, .ref qo, .ref qi, .ref qx, .int mpr, .int mgn, .ref qg, .int mli, .ref ql, .long ma, .long mb, .long mc])), (qf, .inl (uf, 40960, .inl Bf)), (qm, .inl (um, 40960, .inl Bm)), (qk, .inl (uk, 40960, .inl Bk))] := hD
          refine lv_iload_n hx hb dX3_classOf_97 rfl (lv_at hl 4 rfl) ?_
          refine lv_i2l (v := (x3).toInt64) hx hb dX3_classOf_98 rfl ?_
          obtain ⟨xc99, hc99, hf⟩ := ok_b hf
          have hPc := hP.sub (ws' := []) [] rfl
          have hDc := hD.sub (ws' := []) [] (by decide) rfl
          have hKc := hK.sub (tys' := []) [] rfl
          have hFc := va_free (wc := []) hD hS hA [] rfl
          refine va_calll (va_runS (As := [.long r_14, .long (x3).toInt64]) (rest := []) ⟨hx, hb, hml, hown, hts⟩ (c_m_common l dC dI r_14 ((x3).toInt64) H.size F xc99 hc99) (va_cwS 2 hts (gwS kw_464 kw_465 kw_5 kw_466) rfl rfl rfl (by decide +kernel) ⟨Nat.le_of_ble_eq_true rfl, Nat.le_of_ble_eq_true rfl⟩) ⟨fun a U g mk q => by obtain ⟨q0, q1, qP, qK, qD⟩ := q; exact ⟨q0, q1, qP, va_K.moved (u := U) (U := U.calling g mk a) (Vm.Alike.refl U.vm) qK, qD⟩, fun U hU hW => ⟨rfl, by rw [hU], by rw [hU]; exact hPc, va_K.moved hW.alike hKc, hDc.weaken (fun _ _ _ _ => trivial)⟩⟩ rfl rfl hl.1 rfl (lv_room (Nat.le_of_ble_eq_true rfl)) dX3_classOf_99 ⟨Nat.zero_le _, Nat.zero_le _⟩) hS (fun q _ h => hFc q h) hFc (fun r_15 u t H1 locs ht hvm hw hB hz1 hk1 hS => ?_)
          obtain ⟨⟩ := u
          obtain ⟨hP1, hK1, hD1⟩ := hB
          rw [ht] at hP1
          subst hw
          obtain ⟨hP, hD⟩ := va_join (wr := [(qh, .inr (3, [.int mco, .long md, .long mw, .int mfo, .ref qf, .ref qm, .ref qk, .int mmy, .ref qn, .ref qo, .ref qi, .ref qx, .int mpr, .int mgn, .ref qg, .int mli, .ref ql, .long ma, .long mb, .long mc])), (qf, .inl (uf, 40960, .inl Bf)), (qm, .inl (um, 40960, .inl Bm)), (qk, .inl (uk, 40960, .inl Bk))]) (w1 := []) hP hD [] [0, 1, 2, 3] rfl rfl (by decide) (by decide) hk1 hFc hP1 hD1
          generalize H1 = H at hP hS ⊢
          have hP : va_P (dC, dI) vwCl [(qh, .inr (3, [.int mco, .long md, .long mw, .int mfo, .ref qf, .ref qm, .ref qk, .int mmy, .ref qn, .ref qo, .ref qi, .ref qx, .int mpr, .int mgn, .ref qg, .int mli, .ref ql, .long ma, .long mb, .long mc])), (qf, .inl (uf, 40960, .inl Bf)), (qm, .inl (um, 40960, .inl Bm)), (qk, .inl (uk, 40960, .inl Bk))] H := hP
          have hD : va_D A [(qh, .inr (3, [.int mco, .long md, .long mw, .int mfo, .ref qf, .ref qm, .ref qk, .int mmy, .ref qn, .ref qo, .ref qi, .ref qx, .int mpr, .int mgn, .ref qg, .int mli, .ref ql, .long ma, .long mb, .long mc])), (qf, .inl (uf, 40960, .inl Bf)), (qm, .inl (um, 40960, .inl Bm)), (qk, .inl (uk, 40960, .inl Bk))] := hD
          refine lv_lconst (v := 1) hx hb dX3_classOf_102 (by decide) ?_
          refine W.lcmp hx hb dX3_classOf_103 ?_
          refine lv_if_ne (tgt := 111) hx hb dX3_classOf_104 (by decide) (fun c_104 => ?_) (fun c_104 => ?_)
          · have hf := ok_f c_104 hf
            refine lv_iconst (v := 0) hx hb dX3_classOf_111 (by decide) ?_
            exact hJ112 0 _ _ _ hf (hP.sub [0, 1, 2, 3] rfl) (hD.sub [0, 1, 2, 3] (by decide) rfl) hS (lv_sub hl [1, 2, 3, 4] rfl)
          · have hf := ok_t c_104 hf
            refine lv_iconst (v := 1) hx hb dX3_classOf_107 (by decide) ?_
            refine lv_goto (tgt := 112) hx hb dX3_classOf_108 (by decide) ?_
            exact hJ112 1 _ _ _ hf (hP.sub [0, 1, 2, 3] rfl) (hD.sub [0, 1, 2, 3] (by decide) rfl) hS (lv_sub hl [1, 2, 3, 4] rfl)
  refine lv_if_eq (tgt := 69) hx hb dX3_classOf_11 (by decide) (fun c_11 => ?_) (fun c_11 => ?_)
  · have hf := ok_t c_11 hf
    refine lv_iconst (v := 0) hx hb dX3_classOf_69 (by decide) ?_
    exact hJ70 0 _ _ _ hf (hP.sub [0, 1, 2, 3] rfl) (hD.sub [0, 1, 2, 3] (by decide) rfl) hS (lv_sub hl [0, 1, 2, 3] rfl)
  · have hf := ok_f c_11 hf
    refine lv_iload_n hx hb dX3_classOf_14 rfl (lv_at hl 2 rfl) ?_
    refine lv_i2l (v := (x2).toInt64) hx hb dX3_classOf_15 rfl ?_
    refine lv_ldc2 (v := (-1073741824)) hx hb hown (hts _ (List.mem_cons_of_mem _ kw_598)) dX3_classOf_16 ?_
    refine lv_ldc2 (v := 1073741824) hx hb hown (hts _ (List.mem_cons_of_mem _ kw_599)) dX3_classOf_19 ?_
    obtain ⟨xc22, hc22, hf⟩ := ok_b hf
    have hPc := hP.sub (ws' := []) [] rfl
    have hDc := hD.sub (ws' := []) [] (by decide) rfl
    have hKc := hK.sub (tys' := []) [] rfl
    have hFc := va_free (wc := []) hD hS hA [] rfl
    refine va_calli (va_runS (As := [.long (x2).toInt64, .long (-1073741824), .long 1073741824]) (rest := []) ⟨hx, hb, hml, hown, hts⟩ (c_m_in l dC dI ((x2).toInt64) (-1073741824) 1073741824 H.size F xc22 hc22) (va_cwS 3 hts (gwS kw_579 kw_580 kw_5 kw_581) rfl rfl rfl (by decide +kernel) ⟨Nat.le_of_ble_eq_true rfl, Nat.le_of_ble_eq_true rfl⟩) ⟨fun a U g mk q => by obtain ⟨q0, q1, qP, qK, qD⟩ := q; exact ⟨q0, q1, qP, va_K.moved (u := U) (U := U.calling g mk a) (Vm.Alike.refl U.vm) qK, qD⟩, fun U hU hW => ⟨rfl, by rw [hU], by rw [hU]; exact hPc, va_K.moved hW.alike hKc, hDc.weaken (fun _ _ _ _ => trivial)⟩⟩ rfl rfl hl.1 rfl (lv_room (Nat.le_of_ble_eq_true rfl)) dX3_classOf_22 ⟨Nat.zero_le _, Nat.zero_le _⟩) hS (fun q _ h => hFc q h) hFc (fun r_16 u t H1 locs ht hvm hw hB hz1 hk1 hS => ?_)
    obtain ⟨⟩ := u
    obtain ⟨hP1, hK1, hD1⟩ := hB
    rw [ht] at hP1
    subst hw
    obtain ⟨hP, hD⟩ := va_join (wr := [(qh, .inr (3, [.int mco, .long md, .long mw, .int mfo, .ref qf, .ref qm, .ref qk, .int mmy, .ref qn, .ref qo, .ref qi, .ref qx, .int mpr, .int mgn, .ref qg, .int mli, .ref ql, .long ma, .long mb, .long mc])), (qf, .inl (uf, 40960, .inl Bf)), (qm, .inl (um, 40960, .inl Bm)), (qk, .inl (uk, 40960, .inl Bk))]) (w1 := []) hP hD [] [0, 1, 2, 3] rfl rfl (by decide) (by decide) hk1 hFc hP1 hD1
    generalize H1 = H at hP hS ⊢
    have hP : va_P (dC, dI) vwCl [(qh, .inr (3, [.int mco, .long md, .long mw, .int mfo, .ref qf, .ref qm, .ref qk, .int mmy, .ref qn, .ref qo, .ref qi, .ref qx, .int mpr, .int mgn, .ref qg, .int mli, .ref ql, .long ma, .long mb, .long mc])), (qf, .inl (uf, 40960, .inl Bf)), (qm, .inl (um, 40960, .inl Bm)), (qk, .inl (uk, 40960, .inl Bk))] H := hP
    have hD : va_D A [(qh, .inr (3, [.int mco, .long md, .long mw, .int mfo, .ref qf, .ref qm, .ref qk, .int mmy, .ref qn, .ref qo, .ref qi, .ref qx, .int mpr, .int mgn, .ref qg, .int mli, .ref ql, .long ma, .long mb, .long mc])), (qf, .inl (uf, 40960, .inl Bf)), (qm, .inl (um, 40960, .inl Bm)), (qk, .inl (uk, 40960, .inl Bk))] := hD
    refine lv_if_eq (tgt := 69) hx hb dX3_classOf_25 (by decide) (fun c_25 => ?_) (fun c_25 => ?_)
    · have hf := ok_t c_25 hf
      refine lv_iconst (v := 0) hx hb dX3_classOf_69 (by decide) ?_
      exact hJ70 0 _ _ _ hf (hP.sub [0, 1, 2, 3] rfl) (hD.sub [0, 1, 2, 3] (by decide) rfl) hS (lv_sub hl [0, 1, 2, 3] rfl)
    · have hf := ok_f c_25 hf
      refine lv_iload_n hx hb dX3_classOf_28 rfl (lv_at hl 3 rfl) ?_
      refine lv_i2l (v := (x3).toInt64) hx hb dX3_classOf_29 rfl ?_
      refine lv_ldc2 (v := (-1073741824)) hx hb hown (hts _ (List.mem_cons_of_mem _ kw_598)) dX3_classOf_30 ?_
      refine lv_ldc2 (v := 1073741824) hx hb hown (hts _ (List.mem_cons_of_mem _ kw_599)) dX3_classOf_33 ?_
      obtain ⟨xc36, hc36, hf⟩ := ok_b hf
      have hPc := hP.sub (ws' := []) [] rfl
      have hDc := hD.sub (ws' := []) [] (by decide) rfl
      have hKc := hK.sub (tys' := []) [] rfl
      have hFc := va_free (wc := []) hD hS hA [] rfl
      refine va_calli (va_runS (As := [.long (x3).toInt64, .long (-1073741824), .long 1073741824]) (rest := []) ⟨hx, hb, hml, hown, hts⟩ (c_m_in l dC dI ((x3).toInt64) (-1073741824) 1073741824 H.size F xc36 hc36) (va_cwS 3 hts (gwS kw_579 kw_580 kw_5 kw_581) rfl rfl rfl (by decide +kernel) ⟨Nat.le_of_ble_eq_true rfl, Nat.le_of_ble_eq_true rfl⟩) ⟨fun a U g mk q => by obtain ⟨q0, q1, qP, qK, qD⟩ := q; exact ⟨q0, q1, qP, va_K.moved (u := U) (U := U.calling g mk a) (Vm.Alike.refl U.vm) qK, qD⟩, fun U hU hW => ⟨rfl, by rw [hU], by rw [hU]; exact hPc, va_K.moved hW.alike hKc, hDc.weaken (fun _ _ _ _ => trivial)⟩⟩ rfl rfl hl.1 rfl (lv_room (Nat.le_of_ble_eq_true rfl)) dX3_classOf_36 ⟨Nat.zero_le _, Nat.zero_le _⟩) hS (fun q _ h => hFc q h) hFc (fun r_17 u t H1 locs ht hvm hw hB hz1 hk1 hS => ?_)
      obtain ⟨⟩ := u
      obtain ⟨hP1, hK1, hD1⟩ := hB
      rw [ht] at hP1
      subst hw
      obtain ⟨hP, hD⟩ := va_join (wr := [(qh, .inr (3, [.int mco, .long md, .long mw, .int mfo, .ref qf, .ref qm, .ref qk, .int mmy, .ref qn, .ref qo, .ref qi, .ref qx, .int mpr, .int mgn, .ref qg, .int mli, .ref ql, .long ma, .long mb, .long mc])), (qf, .inl (uf, 40960, .inl Bf)), (qm, .inl (um, 40960, .inl Bm)), (qk, .inl (uk, 40960, .inl Bk))]) (w1 := []) hP hD [] [0, 1, 2, 3] rfl rfl (by decide) (by decide) hk1 hFc hP1 hD1
      generalize H1 = H at hP hS ⊢
      have hP : va_P (dC, dI) vwCl [(qh, .inr (3, [.int mco, .long md, .long mw, .int mfo, .ref qf, .ref qm, .ref qk, .int mmy, .ref qn, .ref qo, .ref qi, .ref qx, .int mpr, .int mgn, .ref qg, .int mli, .ref ql, .long ma, .long mb, .long mc])), (qf, .inl (uf, 40960, .inl Bf)), (qm, .inl (um, 40960, .inl Bm)), (qk, .inl (uk, 40960, .inl Bk))] H := hP
      have hD : va_D A [(qh, .inr (3, [.int mco, .long md, .long mw, .int mfo, .ref qf, .ref qm, .ref qk, .int mmy, .ref qn, .ref qo, .ref qi, .ref qx, .int mpr, .int mgn, .ref qg, .int mli, .ref ql, .long ma, .long mb, .long mc])), (qf, .inl (uf, 40960, .inl Bf)), (qm, .inl (um, 40960, .inl Bm)), (qk, .inl (uk, 40960, .inl Bk))] := hD
      refine lv_if_eq (tgt := 69) hx hb dX3_classOf_39 (by decide) (fun c_39 => ?_) (fun c_39 => ?_)
      · have hf := ok_t c_39 hf
        refine lv_iconst (v := 0) hx hb dX3_classOf_69 (by decide) ?_
        exact hJ70 0 _ _ _ hf (hP.sub [0, 1, 2, 3] rfl) (hD.sub [0, 1, 2, 3] (by decide) rfl) hS (lv_sub hl [0, 1, 2, 3] rfl)
      · have hf := ok_f c_39 hf
        refine lv_iload_n hx hb dX3_classOf_42 rfl (lv_at hl 2 rfl) ?_
        refine lv_i2l (v := (x2).toInt64) hx hb dX3_classOf_43 rfl ?_
        refine lv_iload_n hx hb dX3_classOf_44 rfl (lv_at hl 2 rfl) ?_
        refine lv_i2l (v := (x2).toInt64) hx hb dX3_classOf_45 rfl ?_
        refine lv_lmul hx hb dX3_classOf_46 ?_
        refine lv_ldc2 (v := 4) hx hb hown (hts _ (List.mem_cons_of_mem _ kw_451)) dX3_classOf_47 ?_
        refine lv_iload_n hx hb dX3_classOf_50 rfl (lv_at hl 1 rfl) ?_
        refine lv_i2l (v := (x1).toInt64) hx hb dX3_classOf_51 rfl ?_
        refine lv_lmul hx hb dX3_classOf_52 ?_
        refine lv_iload_n hx hb dX3_classOf_53 rfl (lv_at hl 3 rfl) ?_
        refine lv_i2l (v := (x3).toInt64) hx hb dX3_classOf_54 rfl ?_
        refine lv_lmul hx hb dX3_classOf_55 ?_
        refine lv_lsub hx hb dX3_classOf_56 ?_
        refine lv_aload_n hx hb dX3_classOf_57 rfl (lv_at hl 0 rfl) ?_
        refine va_get (D := (dC, dI)) (ci := 3) (v := .long md) (C := "ClassGroupModel") (T := TX3) (N := 20) hx hb hts (fun w h => List.mem_cons_of_mem _ (iwX3 w h)) hown hK hP 0 rfl rfl 1 (by decide) (hts _ (List.mem_cons_of_mem _ kw_508)) (fun _ h9 => h9) rfl dX3_classOf_58 ?_
        refine W.lcmp hx hb dX3_classOf_61 ?_
        refine lv_if_ne (tgt := 69) hx hb dX3_classOf_62 (by decide) (fun c_62 => ?_) (fun c_62 => ?_)
        · have hf := ok_f c_62 hf
          refine lv_iconst (v := 0) hx hb dX3_classOf_69 (by decide) ?_
          exact hJ70 0 _ _ _ hf (hP.sub [0, 1, 2, 3] rfl) (hD.sub [0, 1, 2, 3] (by decide) rfl) hS (lv_sub hl [0, 1, 2, 3] rfl)
        · have hf := ok_t c_62 hf
          refine lv_iconst (v := 1) hx hb dX3_classOf_65 (by decide) ?_
          refine lv_goto (tgt := 70) hx hb dX3_classOf_66 (by decide) ?_
          exact hJ70 1 _ _ _ hf (hP.sub [0, 1, 2, 3] rfl) (hD.sub [0, 1, 2, 3] (by decide) rfl) hS (lv_sub hl [0, 1, 2, 3] rfl)

def f_m_product (F : Nat) (md : Int64) (mw : Int64) (mfo : Int32) (Bf : Nat → Int32) (Bm : Nat → Int32) (Bk : Nat → Int32) (Bn : Nat → Int32) (mmy : Int32) (ma : Int64) (mb : Int64) (mc : Int64) (x1 : Int32) (x2 : Int32) : Option (Int32 × Int32 × Int64 × Int64 × Int64) := Option.bind (f_m_isClass F mmy x1) (fun r_1 => bnd (fun (t_2 : Int32) => ((if t_2 ≤ 0 then Option.bind (f_m_times F md mw mfo Bf Bm Bk Bn x1 x2) (fun (r_3, u_ma_4, u_mb_5, u_mc_6) => some (r_3, t_2, u_ma_4, u_mb_5, u_mc_6)) else some (0, t_2, ma, mb, mc)) : Option (Int32 × Int32 × Int64 × Int64 × Int64))) (fun kJ22 => (if r_1 = 0 then kJ22 1 else Option.bind (f_m_isClass F mmy x2) (fun r_7 => (if r_7 = 0 then kJ22 1 else kJ22 0)))))
set_option maxHeartbeats 4000000 in
set_option maxRecDepth 100000 in
theorem c_m_product (l : Launch) (dC : Nat → ClassId) (dI : Nat → Nat → Nat) (qh : Nat) (mco : Int32) (md : Int64) (mw : Int64) (mfo : Int32) (qf : Nat) (qm : Nat) (qk : Nat) (mmy : Int32) (qn : Nat) (qo : Nat) (qi : Nat) (qx : Nat) (mpr : Int32) (mgn : Int32) (qg : Nat) (mli : Int32) (ql : Nat) (ma : Int64) (mb : Int64) (mc : Int64) (uf : ClassId) (Bf : Nat → Int32) (um : ClassId) (Bm : Nat → Int32) (uk : ClassId) (Bk : Nat → Int32) (un : ClassId) (Bn : Nat → Int32) (x1 : Int32) (x2 : Int32) (sz : Nat) (F : Nat) (out : Int32 × Int32 × Int64 × Int64 × Int64) (hf : f_m_product F md mw mfo Bf Bm Bk Bn mmy ma mb mc x1 x2 = some out) : Met l yX3_product wsX3_product ({ frames := 4, cells := 0, slots := 0, locals := 110 }) (va_Pc [.ref qh, .int x1, .int x2] (fun U => U.heap.size = sz ∧ va_P (dC, dI) vwCl [(qh, .inr (3, [.int mco, .long md, .long mw, .int mfo, .ref qf, .ref qm, .ref qk, .int mmy, .ref qn, .ref qo, .ref qi, .ref qx, .int mpr, .int mgn, .ref qg, .int mli, .ref ql, .long ma, .long mb, .long mc])), (qf, .inl (uf, 40960, .inl Bf)), (qm, .inl (um, 40960, .inl Bm)), (qk, .inl (uk, 40960, .inl Bk)), (qn, .inl (un, 4096, .inl Bn))] U.heap ∧ va_K (dC, dI) vwCl [(uf, .int), (um, .int), (uk, .int), (un, .int)] U ∧ va_D (fun _ => True) [(qh, .inr (3, [.int mco, .long md, .long mw, .int mfo, .ref qf, .ref qm, .ref qk, .int mmy, .ref qn, .ref qo, .ref qi, .ref qx, .int mpr, .int mgn, .ref qg, .int mli, .ref ql, .long ma, .long mb, .long mc])), (qf, .inl (uf, 40960, .inl Bf)), (qm, .inl (um, 40960, .inl Bm)), (qk, .inl (uk, 40960, .inl Bk)), (qn, .inl (un, 4096, .inl Bn))])) (va_Qi (fun (r : Int32) (u : Int32 × Int64 × Int64 × Int64) => (r, u) = out) (fun (u : Int32 × Int64 × Int64 × Int64) t => match u with | (u_mco, u_ma, u_mb, u_mc) => va_P (dC, dI) vwCl [(qh, .inr (3, [.int u_mco, .long md, .long mw, .int mfo, .ref qf, .ref qm, .ref qk, .int mmy, .ref qn, .ref qo, .ref qi, .ref qx, .int mpr, .int mgn, .ref qg, .int mli, .ref ql, .long u_ma, .long u_mb, .long u_mc])), (qf, .inl (uf, 40960, .inl Bf)), (qm, .inl (um, 40960, .inl Bm)), (qk, .inl (uk, 40960, .inl Bk)), (qn, .inl (un, 4096, .inl Bn))] t.heap ∧ va_K (dC, dI) vwCl [(uf, .int), (um, .int), (uk, .int), (un, .int)] t ∧ va_D (va_A [(qh, .inr (3, [.int mco, .long md, .long mw, .int mfo, .ref qf, .ref qm, .ref qk, .int mmy, .ref qn, .ref qo, .ref qi, .ref qx, .int mpr, .int mgn, .ref qg, .int mli, .ref ql, .long ma, .long mb, .long mc])), (qf, .inl (uf, 40960, .inl Bf)), (qm, .inl (um, 40960, .inl Bm)), (qk, .inl (uk, 40960, .inl Bk)), (qn, .inl (un, 4096, .inl Bn))] sz) [(qh, .inr (3, [.int u_mco, .long md, .long mw, .int mfo, .ref qf, .ref qm, .ref qk, .int mmy, .ref qn, .ref qo, .ref qi, .ref qx, .int mpr, .int mgn, .ref qg, .int mli, .ref ql, .long u_ma, .long u_mb, .long u_mc])), (qf, .inl (uf, 40960, .inl Bf)), (qm, .inl (um, 40960, .inl Bm)), (qk, .inl (uk, 40960, .inl Bk)), (qn, .inl (un, 4096, .inl Bn))]) (va_A [(qh, .inr (3, [.int mco, .long md, .long mw, .int mfo, .ref qf, .ref qm, .ref qk, .int mmy, .ref qn, .ref qo, .ref qi, .ref qx, .int mpr, .int mgn, .ref qg, .int mli, .ref ql, .long ma, .long mb, .long mc])), (qf, .inl (uf, 40960, .inl Bf)), (qm, .inl (um, 40960, .inl Bm)), (qk, .inl (uk, 40960, .inl Bk)), (qn, .inl (un, 4096, .inl Bn))] sz)) 0 0 (va_A [(qh, .inr (3, [.int mco, .long md, .long mw, .int mfo, .ref qf, .ref qm, .ref qk, .int mmy, .ref qn, .ref qo, .ref qi, .ref qx, .int mpr, .int mgn, .ref qg, .int mli, .ref ql, .long ma, .long mb, .long mc])), (qf, .inl (uf, 40960, .inl Bf)), (qm, .inl (um, 40960, .inl Bm)), (qk, .inl (uk, 40960, .inl Bk)), (qn, .inl (un, 4096, .inl Bn))] sz) := by
  refine Met.ofW (cc := cX3_product) (maxL := 3) (ret := (some .int)) (by decide +kernel) rfl ?_
  intro p e s m args below meth c s₁ B hml hv
  obtain ⟨rfl, hsz, hP, hK, hD0⟩ := hv
  have hx := B.exec
  have hb := B.bytes
  have hr := B.returns
  have hts := atoms_spec (ws := wsX3_product) B.pre
  have hown : s.vm.findClass "ClassGroupModel" = some m.cls := findClass_of_methodNamed B.named
  have hlocks := B.notSynchronized
  subst hsz
  have hD := hD0.self (sz := s.heap.size)
  generalize hAe : va_A [(qh, .inr (3, [.int mco, .long md, .long mw, .int mfo, .ref qf, .ref qm, .ref qk, .int mmy, .ref qn, .ref qo, .ref qi, .ref qx, .int mpr, .int mgn, .ref qg, .int mli, .ref ql, .long ma, .long mb, .long mc])), (qf, .inl (uf, 40960, .inl Bf)), (qm, .inl (um, 40960, .inl Bm)), (qk, .inl (uk, 40960, .inl Bk)), (qn, .inl (un, 4096, .inl Bn))] s.heap.size = A at hD ⊢
  have hA : ∀ q : Nat, s.heap.size ≤ q → A q := fun q h => by rw [← hAe]; exact Or.inr h
  have hS : va_S A s.heap s.heap [] := va_S.rf
  have hl := lv_entry ([.ref qh, .int x1, .int x2]) (n := 3) (Nat.le_of_ble_eq_true rfl)
  rw [lg_entry_eq]
  generalize (lg_sl ([.ref qh, .int x1, .int x2]) ++ List.replicate (3 - (lg_sl ([.ref qh, .int x1, .int x2])).length) Slot.unset).toArray = ls at hl ⊢
  have hl : lv_has ls 3 [(0, .ref qh), (1, .int x1), (2, .int x2)] := hl
  unfold f_m_product at hf
  refine lv_aload_n hx hb dX3_product_0 rfl (lv_at hl 0 rfl) ?_
  refine lv_aload_n hx hb dX3_product_1 rfl (lv_at hl 0 rfl) ?_
  refine lv_iload_n hx hb dX3_product_2 rfl (lv_at hl 1 rfl) ?_
  obtain ⟨xc3, hc3, hf⟩ := ok_b hf
  have hPc := hP.sub (ws' := [(qh, .inr (3, [.int mco, .long md, .long mw, .int mfo, .ref qf, .ref qm, .ref qk, .int mmy, .ref qn, .ref qo, .ref qi, .ref qx, .int mpr, .int mgn, .ref qg, .int mli, .ref ql, .long ma, .long mb, .long mc]))]) [0] rfl
  have hDc := hD.sub (ws' := [(qh, .inr (3, [.int mco, .long md, .long mw, .int mfo, .ref qf, .ref qm, .ref qk, .int mmy, .ref qn, .ref qo, .ref qi, .ref qx, .int mpr, .int mgn, .ref qg, .int mli, .ref ql, .long ma, .long mb, .long mc]))]) [0] (by decide) rfl
  have hKc := hK.sub (tys' := []) [] rfl
  have hFc := va_free (wc := [(qh, .inr (3, [.int mco, .long md, .long mw, .int mfo, .ref qf, .ref qm, .ref qk, .int mmy, .ref qn, .ref qo, .ref qi, .ref qx, .int mpr, .int mgn, .ref qg, .int mli, .ref ql, .long ma, .long mb, .long mc]))]) hD hS hA [0] rfl
  refine va_calli (va_runV (As := [.int x1]) (rest := [.ref qh]) ⟨hx, hb, hml, hown, hts⟩ (c_m_isClass l dC dI qh mco md mw mfo qf qm qk mmy qn qo qi qx mpr mgn qg mli ql ma mb mc x1 s.heap.size F xc3 hc3) (cwV 1 hts (gwV kw_590 kw_592 ks_41 kw_5 kw_593) rfl rfl rfl (by decide +kernel) ⟨Nat.le_of_ble_eq_true rfl, Nat.le_of_ble_eq_true rfl⟩) ⟨fun a U g mk q => by obtain ⟨q0, q1, qP, qK, qD⟩ := q; exact ⟨q0, q1, qP, va_K.moved (u := U) (U := U.calling g mk a) (Vm.Alike.refl U.vm) qK, qD⟩, va_recv hKc hPc (ci := 3) (q0 := 0) rfl rfl, fun U hU hW => ⟨rfl, by rw [hU], by rw [hU]; exact hPc, va_K.moved hW.alike hKc, hDc.weaken (fun _ _ _ _ => trivial)⟩⟩ rfl rfl hl.1 rfl (lv_room (Nat.le_of_ble_eq_true rfl)) dX3_product_3 ⟨Nat.zero_le _, Nat.zero_le _⟩) hS (fun q _ h => hFc q h) hFc (fun r_1 u t H1 locs ht hvm hw hB hz1 hk1 hS => ?_)
  obtain ⟨⟩ := u
  obtain ⟨hP1, hK1, hD1⟩ := hB
  rw [ht] at hP1
  subst hw
  obtain ⟨hP, hD⟩ := va_join (wr := [(qf, .inl (uf, 40960, .inl Bf)), (qm, .inl (um, 40960, .inl Bm)), (qk, .inl (uk, 40960, .inl Bk)), (qn, .inl (un, 4096, .inl Bn))]) (w1 := [(qh, .inr (3, [.int mco, .long md, .long mw, .int mfo, .ref qf, .ref qm, .ref qk, .int mmy, .ref qn, .ref qo, .ref qi, .ref qx, .int mpr, .int mgn, .ref qg, .int mli, .ref ql, .long ma, .long mb, .long mc]))]) hP hD [0] [1, 2, 3, 4] rfl rfl (by decide) (by decide) hk1 hFc hP1 hD1
  generalize H1 = H at hP hS ⊢
  have hP : va_P (dC, dI) vwCl [(qf, .inl (uf, 40960, .inl Bf)), (qm, .inl (um, 40960, .inl Bm)), (qk, .inl (uk, 40960, .inl Bk)), (qn, .inl (un, 4096, .inl Bn)), (qh, .inr (3, [.int mco, .long md, .long mw, .int mfo, .ref qf, .ref qm, .ref qk, .int mmy, .ref qn, .ref qo, .ref qi, .ref qx, .int mpr, .int mgn, .ref qg, .int mli, .ref ql, .long ma, .long mb, .long mc]))] H := hP
  have hD : va_D A [(qf, .inl (uf, 40960, .inl Bf)), (qm, .inl (um, 40960, .inl Bm)), (qk, .inl (uk, 40960, .inl Bk)), (qn, .inl (un, 4096, .inl Bn)), (qh, .inr (3, [.int mco, .long md, .long mw, .int mfo, .ref qf, .ref qm, .ref qk, .int mmy, .ref qn, .ref qo, .ref qi, .ref qx, .int mpr, .int mgn, .ref qg, .int mli, .ref ql, .long ma, .long mb, .long mc]))] := hD
  obtain ⟨kJ22, ekJ22, hf⟩ := bnd_ex hf
  have hJ22 : ∀ (t_2 : Int32) (H : Heap) (locs : List Loc) (ls : Array Slot), kJ22 t_2 = some out → va_P (dC, dI) vwCl [(qh, .inr (3, [.int mco, .long md, .long mw, .int mfo, .ref qf, .ref qm, .ref qk, .int mmy, .ref qn, .ref qo, .ref qi, .ref qx, .int mpr, .int mgn, .ref qg, .int mli, .ref ql, .long ma, .long mb, .long mc])), (qf, .inl (uf, 40960, .inl Bf)), (qm, .inl (um, 40960, .inl Bm)), (qk, .inl (uk, 40960, .inl Bk)), (qn, .inl (un, 4096, .inl Bn))] H → va_D A [(qh, .inr (3, [.int mco, .long md, .long mw, .int mfo, .ref qf, .ref qm, .ref qk, .int mmy, .ref qn, .ref qo, .ref qi, .ref qx, .int mpr, .int mgn, .ref qg, .int mli, .ref ql, .long ma, .long mb, .long mc])), (qf, .inl (uf, 40960, .inl Bf)), (qm, .inl (um, 40960, .inl Bm)), (qk, .inl (uk, 40960, .inl Bk)), (qn, .inl (un, 4096, .inl Bn))] → va_S A s.heap H locs → lv_has ls 3 [(0, .ref qh), (1, .int x1), (2, .int x2)] → W p l e ((headSpec wsX3_product ({ frames := 4, cells := 0, slots := 0, locals := 110 })).room) s m ([.ref qh, .int x1, .int x2] : List Value).toArray below meth c H locs 0 0 (MQ below (va_Qi (fun (r : Int32) (u : Int32 × Int64 × Int64 × Int64) => (r, u) = out) (fun (u : Int32 × Int64 × Int64 × Int64) t => match u with | (u_mco, u_ma, u_mb, u_mc) => va_P (dC, dI) vwCl [(qh, .inr (3, [.int u_mco, .long md, .long mw, .int mfo, .ref qf, .ref qm, .ref qk, .int mmy, .ref qn, .ref qo, .ref qi, .ref qx, .int mpr, .int mgn, .ref qg, .int mli, .ref ql, .long u_ma, .long u_mb, .long u_mc])), (qf, .inl (uf, 40960, .inl Bf)), (qm, .inl (um, 40960, .inl Bm)), (qk, .inl (uk, 40960, .inl Bk)), (qn, .inl (un, 4096, .inl Bn))] t.heap ∧ va_K (dC, dI) vwCl [(uf, .int), (um, .int), (uk, .int), (un, .int)] t ∧ va_D A [(qh, .inr (3, [.int u_mco, .long md, .long mw, .int mfo, .ref qf, .ref qm, .ref qk, .int mmy, .ref qn, .ref qo, .ref qi, .ref qx, .int mpr, .int mgn, .ref qg, .int mli, .ref ql, .long u_ma, .long u_mb, .long u_mc])), (qf, .inl (uf, 40960, .inl Bf)), (qm, .inl (um, 40960, .inl Bm)), (qk, .inl (uk, 40960, .inl Bk)), (qn, .inl (un, 4096, .inl Bn))]) A) ([.ref qh, .int x1, .int x2] : List Value).toArray s 0 0 A) (F0 m 22 ls [.int t_2, .ref qh]) := by
    intro t_2 H locs ls hf hP hD hS hl
    rw [ekJ22] at hf
    refine va_put (D := (dC, dI)) (ci := 3) (v := .int t_2) (ty := .int) (C := "ClassGroupModel") (T := TX3) (N := 20) hx hb hts (fun w h => List.mem_cons_of_mem _ (iwX3 w h)) tyX3 tyokX3 nmX3 hown hK hP hD hS 0 rfl rfl 0 (by decide) (hts _ (List.mem_cons_of_mem _ kw_507)) (fun _ h9 => h9) rfl (by decide +kernel) rfl rfl (Nat.le_of_ble_eq_true rfl) dX3_product_22 (fun H locs hP hD hS => ?_)
    have hP : va_P (dC, dI) vwCl [(qh, .inr (3, [.int t_2, .long md, .long mw, .int mfo, .ref qf, .ref qm, .ref qk, .int mmy, .ref qn, .ref qo, .ref qi, .ref qx, .int mpr, .int mgn, .ref qg, .int mli, .ref ql, .long ma, .long mb, .long mc])), (qf, .inl (uf, 40960, .inl Bf)), (qm, .inl (um, 40960, .inl Bm)), (qk, .inl (uk, 40960, .inl Bk)), (qn, .inl (un, 4096, .inl Bn))] H := hP
    have hD : va_D A [(qh, .inr (3, [.int t_2, .long md, .long mw, .int mfo, .ref qf, .ref qm, .ref qk, .int mmy, .ref qn, .ref qo, .ref qi, .ref qx, .int mpr, .int mgn, .ref qg, .int mli, .ref ql, .long ma, .long mb, .long mc])), (qf, .inl (uf, 40960, .inl Bf)), (qm, .inl (um, 40960, .inl Bm)), (qk, .inl (uk, 40960, .inl Bk)), (qn, .inl (un, 4096, .inl Bn))] := hD
    refine lv_aload_n hx hb dX3_product_25 rfl (lv_at hl 0 rfl) ?_
    refine va_get (D := (dC, dI)) (ci := 3) (v := .int t_2) (C := "ClassGroupModel") (T := TX3) (N := 20) hx hb hts (fun w h => List.mem_cons_of_mem _ (iwX3 w h)) hown hK hP 0 rfl rfl 0 (by decide) (hts _ (List.mem_cons_of_mem _ kw_507)) (fun _ h9 => h9) rfl dX3_product_26 ?_
    refine lv_if_le (tgt := 36) hx hb dX3_product_29 (by decide) (fun c_29 => ?_) (fun c_29 => ?_)
    · have hf := ok_t c_29 hf
      refine lv_aload_n hx hb dX3_product_36 rfl (lv_at hl 0 rfl) ?_
      refine lv_iload_n hx hb dX3_product_37 rfl (lv_at hl 1 rfl) ?_
      refine lv_iload_n hx hb dX3_product_38 rfl (lv_at hl 2 rfl) ?_
      obtain ⟨xc39, hc39, hf⟩ := ok_b hf
      have hPc := hP.sub (ws' := [(qh, .inr (3, [.int t_2, .long md, .long mw, .int mfo, .ref qf, .ref qm, .ref qk, .int mmy, .ref qn, .ref qo, .ref qi, .ref qx, .int mpr, .int mgn, .ref qg, .int mli, .ref ql, .long ma, .long mb, .long mc])), (qf, .inl (uf, 40960, .inl Bf)), (qm, .inl (um, 40960, .inl Bm)), (qk, .inl (uk, 40960, .inl Bk)), (qn, .inl (un, 4096, .inl Bn))]) [0, 1, 2, 3, 4] rfl
      have hDc := hD.sub (ws' := [(qh, .inr (3, [.int t_2, .long md, .long mw, .int mfo, .ref qf, .ref qm, .ref qk, .int mmy, .ref qn, .ref qo, .ref qi, .ref qx, .int mpr, .int mgn, .ref qg, .int mli, .ref ql, .long ma, .long mb, .long mc])), (qf, .inl (uf, 40960, .inl Bf)), (qm, .inl (um, 40960, .inl Bm)), (qk, .inl (uk, 40960, .inl Bk)), (qn, .inl (un, 4096, .inl Bn))]) [0, 1, 2, 3, 4] (by decide) rfl
      have hKc := hK.sub (tys' := [(uf, .int), (um, .int), (uk, .int), (un, .int)]) [0, 1, 2, 3] rfl
      have hFc := va_free (wc := [(qh, .inr (3, [.int t_2, .long md, .long mw, .int mfo, .ref qf, .ref qm, .ref qk, .int mmy, .ref qn, .ref qo, .ref qi, .ref qx, .int mpr, .int mgn, .ref qg, .int mli, .ref ql, .long ma, .long mb, .long mc])), (qf, .inl (uf, 40960, .inl Bf)), (qm, .inl (um, 40960, .inl Bm)), (qk, .inl (uk, 40960, .inl Bk)), (qn, .inl (un, 4096, .inl Bn))]) hD hS hA [0, 1, 2, 3, 4] rfl
      refine va_calli (va_runV (As := [.int x1, .int x2]) (rest := []) ⟨hx, hb, hml, hown, hts⟩ (c_m_times l dC dI qh t_2 md mw mfo qf qm qk mmy qn qo qi qx mpr mgn qg mli ql ma mb mc uf Bf um Bm uk Bk un Bn x1 x2 H.size F xc39 hc39) (cwV 2 hts (gwV kw_487 kw_489 ks_36 kw_5 kw_490) rfl rfl rfl (by decide +kernel) ⟨Nat.le_of_ble_eq_true rfl, Nat.le_of_ble_eq_true rfl⟩) ⟨fun a U g mk q => by obtain ⟨q0, q1, qP, qK, qD⟩ := q; exact ⟨q0, q1, qP, va_K.moved (u := U) (U := U.calling g mk a) (Vm.Alike.refl U.vm) qK, qD⟩, va_recv hKc hPc (ci := 3) (q0 := 0) rfl rfl, fun U hU hW => ⟨rfl, by rw [hU], by rw [hU]; exact hPc, va_K.moved hW.alike hKc, hDc.weaken (fun _ _ _ _ => trivial)⟩⟩ rfl rfl hl.1 rfl (lv_room (Nat.le_of_ble_eq_true rfl)) dX3_product_39 ⟨Nat.zero_le _, Nat.zero_le _⟩) hS (fun q _ h => hFc q h) hFc (fun r_3 u t H1 locs ht hvm hw hB hz1 hk1 hS => ?_)
      obtain ⟨u_ma_4, u_mb_5, u_mc_6⟩ := u
      obtain ⟨hP1, hK1, hD1⟩ := hB
      rw [ht] at hP1
      subst hw
      obtain ⟨hP, hD⟩ := va_join (wr := []) (w1 := [(qh, .inr (3, [.int t_2, .long md, .long mw, .int mfo, .ref qf, .ref qm, .ref qk, .int mmy, .ref qn, .ref qo, .ref qi, .ref qx, .int mpr, .int mgn, .ref qg, .int mli, .ref ql, .long u_ma_4, .long u_mb_5, .long u_mc_6])), (qf, .inl (uf, 40960, .inl Bf)), (qm, .inl (um, 40960, .inl Bm)), (qk, .inl (uk, 40960, .inl Bk)), (qn, .inl (un, 4096, .inl Bn))]) hP hD [0, 1, 2, 3, 4] [] rfl rfl (by decide) (by decide) hk1 hFc hP1 hD1
      generalize H1 = H at hP hS ⊢
      have hP : va_P (dC, dI) vwCl [(qh, .inr (3, [.int t_2, .long md, .long mw, .int mfo, .ref qf, .ref qm, .ref qk, .int mmy, .ref qn, .ref qo, .ref qi, .ref qx, .int mpr, .int mgn, .ref qg, .int mli, .ref ql, .long u_ma_4, .long u_mb_5, .long u_mc_6])), (qf, .inl (uf, 40960, .inl Bf)), (qm, .inl (um, 40960, .inl Bm)), (qk, .inl (uk, 40960, .inl Bk)), (qn, .inl (un, 4096, .inl Bn))] H := hP
      have hD : va_D A [(qh, .inr (3, [.int t_2, .long md, .long mw, .int mfo, .ref qf, .ref qm, .ref qk, .int mmy, .ref qn, .ref qo, .ref qi, .ref qx, .int mpr, .int mgn, .ref qg, .int mli, .ref ql, .long u_ma_4, .long u_mb_5, .long u_mc_6])), (qf, .inl (uf, 40960, .inl Bf)), (qm, .inl (um, 40960, .inl Bm)), (qk, .inl (uk, 40960, .inl Bk)), (qn, .inl (un, 4096, .inl Bn))] := hD
      have hP9 := hP.sub (ws' := [(qh, .inr (3, [.int t_2, .long md, .long mw, .int mfo, .ref qf, .ref qm, .ref qk, .int mmy, .ref qn, .ref qo, .ref qi, .ref qx, .int mpr, .int mgn, .ref qg, .int mli, .ref ql, .long u_ma_4, .long u_mb_5, .long u_mc_6])), (qf, .inl (uf, 40960, .inl Bf)), (qm, .inl (um, 40960, .inl Bm)), (qk, .inl (uk, 40960, .inl Bk)), (qn, .inl (un, 4096, .inl Bn))]) [0, 1, 2, 3, 4] rfl
      have hD9 := hD.sub (ws' := [(qh, .inr (3, [.int t_2, .long md, .long mw, .int mfo, .ref qf, .ref qm, .ref qk, .int mmy, .ref qn, .ref qo, .ref qi, .ref qx, .int mpr, .int mgn, .ref qg, .int mli, .ref ql, .long u_ma_4, .long u_mb_5, .long u_mc_6])), (qf, .inl (uf, 40960, .inl Bf)), (qm, .inl (um, 40960, .inl Bm)), (qk, .inl (uk, 40960, .inl Bk)), (qn, .inl (un, 4096, .inl Bn))]) [0, 1, 2, 3, 4] (by decide) rfl
      have hK9 := hK.sub (tys' := [(uf, .int), (um, .int), (uk, .int), (un, .int)]) [0, 1, 2, 3] rfl
      exact W.iret (v := r_3) hx hb hr (fun t ht hW => ⟨⟨r_3, (t_2, u_ma_4, u_mb_5, u_mc_6), rfl, (Option.some.inj hf), by rw [ht]; exact hP9, va_K.moved hW.alike hK9, hD9⟩, hS.F ht⟩) hS.2.2 dX3_product_42
    · have hf := ok_f c_29 hf
      refine lv_iconst (v := 0) hx hb dX3_product_32 (by decide) ?_
      refine lv_goto (tgt := 42) hx hb dX3_product_33 (by decide) ?_
      have hP9 := hP.sub (ws' := [(qh, .inr (3, [.int t_2, .long md, .long mw, .int mfo, .ref qf, .ref qm, .ref qk, .int mmy, .ref qn, .ref qo, .ref qi, .ref qx, .int mpr, .int mgn, .ref qg, .int mli, .ref ql, .long ma, .long mb, .long mc])), (qf, .inl (uf, 40960, .inl Bf)), (qm, .inl (um, 40960, .inl Bm)), (qk, .inl (uk, 40960, .inl Bk)), (qn, .inl (un, 4096, .inl Bn))]) [0, 1, 2, 3, 4] rfl
      have hD9 := hD.sub (ws' := [(qh, .inr (3, [.int t_2, .long md, .long mw, .int mfo, .ref qf, .ref qm, .ref qk, .int mmy, .ref qn, .ref qo, .ref qi, .ref qx, .int mpr, .int mgn, .ref qg, .int mli, .ref ql, .long ma, .long mb, .long mc])), (qf, .inl (uf, 40960, .inl Bf)), (qm, .inl (um, 40960, .inl Bm)), (qk, .inl (uk, 40960, .inl Bk)), (qn, .inl (un, 4096, .inl Bn))]) [0, 1, 2, 3, 4] (by decide) rfl
      have hK9 := hK.sub (tys' := [(uf, .int), (um, .int), (uk, .int), (un, .int)]) [0, 1, 2, 3] rfl
      exact W.iret (v := 0) hx hb hr (fun t ht hW => ⟨⟨0, (t_2, ma, mb, mc), rfl, (Option.some.inj hf), by rw [ht]; exact hP9, va_K.moved hW.alike hK9, hD9⟩, hS.F ht⟩) hS.2.2 dX3_product_42
  refine lv_if_eq (tgt := 21) hx hb dX3_product_6 (by decide) (fun c_6 => ?_) (fun c_6 => ?_)
  · have hf := ok_t c_6 hf
    refine lv_iconst (v := 1) hx hb dX3_product_21 (by decide) ?_
    exact hJ22 1 _ _ _ hf (hP.sub [4, 0, 1, 2, 3] rfl) (hD.sub [4, 0, 1, 2, 3] (by decide) rfl) hS (lv_sub hl [0, 1, 2] rfl)
  · have hf := ok_f c_6 hf
    refine lv_aload_n hx hb dX3_product_9 rfl (lv_at hl 0 rfl) ?_
    refine lv_iload_n hx hb dX3_product_10 rfl (lv_at hl 2 rfl) ?_
    obtain ⟨xc11, hc11, hf⟩ := ok_b hf
    have hPc := hP.sub (ws' := [(qh, .inr (3, [.int mco, .long md, .long mw, .int mfo, .ref qf, .ref qm, .ref qk, .int mmy, .ref qn, .ref qo, .ref qi, .ref qx, .int mpr, .int mgn, .ref qg, .int mli, .ref ql, .long ma, .long mb, .long mc]))]) [4] rfl
    have hDc := hD.sub (ws' := [(qh, .inr (3, [.int mco, .long md, .long mw, .int mfo, .ref qf, .ref qm, .ref qk, .int mmy, .ref qn, .ref qo, .ref qi, .ref qx, .int mpr, .int mgn, .ref qg, .int mli, .ref ql, .long ma, .long mb, .long mc]))]) [4] (by decide) rfl
    have hKc := hK.sub (tys' := []) [] rfl
    have hFc := va_free (wc := [(qh, .inr (3, [.int mco, .long md, .long mw, .int mfo, .ref qf, .ref qm, .ref qk, .int mmy, .ref qn, .ref qo, .ref qi, .ref qx, .int mpr, .int mgn, .ref qg, .int mli, .ref ql, .long ma, .long mb, .long mc]))]) hD hS hA [4] rfl
    refine va_calli (va_runV (As := [.int x2]) (rest := [.ref qh]) ⟨hx, hb, hml, hown, hts⟩ (c_m_isClass l dC dI qh mco md mw mfo qf qm qk mmy qn qo qi qx mpr mgn qg mli ql ma mb mc x2 H.size F xc11 hc11) (cwV 1 hts (gwV kw_590 kw_592 ks_41 kw_5 kw_593) rfl rfl rfl (by decide +kernel) ⟨Nat.le_of_ble_eq_true rfl, Nat.le_of_ble_eq_true rfl⟩) ⟨fun a U g mk q => by obtain ⟨q0, q1, qP, qK, qD⟩ := q; exact ⟨q0, q1, qP, va_K.moved (u := U) (U := U.calling g mk a) (Vm.Alike.refl U.vm) qK, qD⟩, va_recv hKc hPc (ci := 3) (q0 := 0) rfl rfl, fun U hU hW => ⟨rfl, by rw [hU], by rw [hU]; exact hPc, va_K.moved hW.alike hKc, hDc.weaken (fun _ _ _ _ => trivial)⟩⟩ rfl rfl hl.1 rfl (lv_room (Nat.le_of_ble_eq_true rfl)) dX3_product_11 ⟨Nat.zero_le _, Nat.zero_le _⟩) hS (fun q _ h => hFc q h) hFc (fun r_7 u t H1 locs ht hvm hw hB hz1 hk1 hS => ?_)
    obtain ⟨⟩ := u
    obtain ⟨hP1, hK1, hD1⟩ := hB
    rw [ht] at hP1
    subst hw
    obtain ⟨hP, hD⟩ := va_join (wr := [(qf, .inl (uf, 40960, .inl Bf)), (qm, .inl (um, 40960, .inl Bm)), (qk, .inl (uk, 40960, .inl Bk)), (qn, .inl (un, 4096, .inl Bn))]) (w1 := [(qh, .inr (3, [.int mco, .long md, .long mw, .int mfo, .ref qf, .ref qm, .ref qk, .int mmy, .ref qn, .ref qo, .ref qi, .ref qx, .int mpr, .int mgn, .ref qg, .int mli, .ref ql, .long ma, .long mb, .long mc]))]) hP hD [4] [0, 1, 2, 3] rfl rfl (by decide) (by decide) hk1 hFc hP1 hD1
    generalize H1 = H at hP hS ⊢
    have hP : va_P (dC, dI) vwCl [(qf, .inl (uf, 40960, .inl Bf)), (qm, .inl (um, 40960, .inl Bm)), (qk, .inl (uk, 40960, .inl Bk)), (qn, .inl (un, 4096, .inl Bn)), (qh, .inr (3, [.int mco, .long md, .long mw, .int mfo, .ref qf, .ref qm, .ref qk, .int mmy, .ref qn, .ref qo, .ref qi, .ref qx, .int mpr, .int mgn, .ref qg, .int mli, .ref ql, .long ma, .long mb, .long mc]))] H := hP
    have hD : va_D A [(qf, .inl (uf, 40960, .inl Bf)), (qm, .inl (um, 40960, .inl Bm)), (qk, .inl (uk, 40960, .inl Bk)), (qn, .inl (un, 4096, .inl Bn)), (qh, .inr (3, [.int mco, .long md, .long mw, .int mfo, .ref qf, .ref qm, .ref qk, .int mmy, .ref qn, .ref qo, .ref qi, .ref qx, .int mpr, .int mgn, .ref qg, .int mli, .ref ql, .long ma, .long mb, .long mc]))] := hD
    refine lv_if_eq (tgt := 21) hx hb dX3_product_14 (by decide) (fun c_14 => ?_) (fun c_14 => ?_)
    · have hf := ok_t c_14 hf
      refine lv_iconst (v := 1) hx hb dX3_product_21 (by decide) ?_
      exact hJ22 1 _ _ _ hf (hP.sub [4, 0, 1, 2, 3] rfl) (hD.sub [4, 0, 1, 2, 3] (by decide) rfl) hS (lv_sub hl [0, 1, 2] rfl)
    · have hf := ok_f c_14 hf
      refine lv_iconst (v := 0) hx hb dX3_product_17 (by decide) ?_
      refine lv_goto (tgt := 22) hx hb dX3_product_18 (by decide) ?_
      exact hJ22 0 _ _ _ hf (hP.sub [4, 0, 1, 2, 3] rfl) (hD.sub [4, 0, 1, 2, 3] (by decide) rfl) hS (lv_sub hl [0, 1, 2] rfl)

def f_m_inverse (F : Nat) (md : Int64) (mw : Int64) (mfo : Int32) (Bf : Nat → Int32) (Bm : Nat → Int32) (Bk : Nat → Int32) (Bn : Nat → Int32) (mmy : Int32) (ma : Int64) (mb : Int64) (mc : Int64) (x1 : Int32) : Option (Int32 × Int32 × Int64 × Int64 × Int64) := Option.bind (f_m_isClass F mmy x1) (fun r_1 => bnd (fun (t_2 : Int32) => ((if t_2 ≤ 0 then Option.bind (f_m_turned F md mw mfo Bf Bm Bk Bn x1) (fun (r_3, u_ma_4, u_mb_5, u_mc_6) => some (r_3, t_2, u_ma_4, u_mb_5, u_mc_6)) else some (0, t_2, ma, mb, mc)) : Option (Int32 × Int32 × Int64 × Int64 × Int64))) (fun kJ14 => (if r_1 = 0 then kJ14 1 else kJ14 0)))
set_option maxHeartbeats 4000000 in
set_option maxRecDepth 100000 in
theorem c_m_inverse (l : Launch) (dC : Nat → ClassId) (dI : Nat → Nat → Nat) (qh : Nat) (mco : Int32) (md : Int64) (mw : Int64) (mfo : Int32) (qf : Nat) (qm : Nat) (qk : Nat) (mmy : Int32) (qn : Nat) (qo : Nat) (qi : Nat) (qx : Nat) (mpr : Int32) (mgn : Int32) (qg : Nat) (mli : Int32) (ql : Nat) (ma : Int64) (mb : Int64) (mc : Int64) (uf : ClassId) (Bf : Nat → Int32) (um : ClassId) (Bm : Nat → Int32) (uk : ClassId) (Bk : Nat → Int32) (un : ClassId) (Bn : Nat → Int32) (x1 : Int32) (sz : Nat) (F : Nat) (out : Int32 × Int32 × Int64 × Int64 × Int64) (hf : f_m_inverse F md mw mfo Bf Bm Bk Bn mmy ma mb mc x1 = some out) : Met l yX3_inverse wsX3_inverse ({ frames := 4, cells := 0, slots := 0, locals := 91 }) (va_Pc [.ref qh, .int x1] (fun U => U.heap.size = sz ∧ va_P (dC, dI) vwCl [(qh, .inr (3, [.int mco, .long md, .long mw, .int mfo, .ref qf, .ref qm, .ref qk, .int mmy, .ref qn, .ref qo, .ref qi, .ref qx, .int mpr, .int mgn, .ref qg, .int mli, .ref ql, .long ma, .long mb, .long mc])), (qf, .inl (uf, 40960, .inl Bf)), (qm, .inl (um, 40960, .inl Bm)), (qk, .inl (uk, 40960, .inl Bk)), (qn, .inl (un, 4096, .inl Bn))] U.heap ∧ va_K (dC, dI) vwCl [(uf, .int), (um, .int), (uk, .int), (un, .int)] U ∧ va_D (fun _ => True) [(qh, .inr (3, [.int mco, .long md, .long mw, .int mfo, .ref qf, .ref qm, .ref qk, .int mmy, .ref qn, .ref qo, .ref qi, .ref qx, .int mpr, .int mgn, .ref qg, .int mli, .ref ql, .long ma, .long mb, .long mc])), (qf, .inl (uf, 40960, .inl Bf)), (qm, .inl (um, 40960, .inl Bm)), (qk, .inl (uk, 40960, .inl Bk)), (qn, .inl (un, 4096, .inl Bn))])) (va_Qi (fun (r : Int32) (u : Int32 × Int64 × Int64 × Int64) => (r, u) = out) (fun (u : Int32 × Int64 × Int64 × Int64) t => match u with | (u_mco, u_ma, u_mb, u_mc) => va_P (dC, dI) vwCl [(qh, .inr (3, [.int u_mco, .long md, .long mw, .int mfo, .ref qf, .ref qm, .ref qk, .int mmy, .ref qn, .ref qo, .ref qi, .ref qx, .int mpr, .int mgn, .ref qg, .int mli, .ref ql, .long u_ma, .long u_mb, .long u_mc])), (qf, .inl (uf, 40960, .inl Bf)), (qm, .inl (um, 40960, .inl Bm)), (qk, .inl (uk, 40960, .inl Bk)), (qn, .inl (un, 4096, .inl Bn))] t.heap ∧ va_K (dC, dI) vwCl [(uf, .int), (um, .int), (uk, .int), (un, .int)] t ∧ va_D (va_A [(qh, .inr (3, [.int mco, .long md, .long mw, .int mfo, .ref qf, .ref qm, .ref qk, .int mmy, .ref qn, .ref qo, .ref qi, .ref qx, .int mpr, .int mgn, .ref qg, .int mli, .ref ql, .long ma, .long mb, .long mc])), (qf, .inl (uf, 40960, .inl Bf)), (qm, .inl (um, 40960, .inl Bm)), (qk, .inl (uk, 40960, .inl Bk)), (qn, .inl (un, 4096, .inl Bn))] sz) [(qh, .inr (3, [.int u_mco, .long md, .long mw, .int mfo, .ref qf, .ref qm, .ref qk, .int mmy, .ref qn, .ref qo, .ref qi, .ref qx, .int mpr, .int mgn, .ref qg, .int mli, .ref ql, .long u_ma, .long u_mb, .long u_mc])), (qf, .inl (uf, 40960, .inl Bf)), (qm, .inl (um, 40960, .inl Bm)), (qk, .inl (uk, 40960, .inl Bk)), (qn, .inl (un, 4096, .inl Bn))]) (va_A [(qh, .inr (3, [.int mco, .long md, .long mw, .int mfo, .ref qf, .ref qm, .ref qk, .int mmy, .ref qn, .ref qo, .ref qi, .ref qx, .int mpr, .int mgn, .ref qg, .int mli, .ref ql, .long ma, .long mb, .long mc])), (qf, .inl (uf, 40960, .inl Bf)), (qm, .inl (um, 40960, .inl Bm)), (qk, .inl (uk, 40960, .inl Bk)), (qn, .inl (un, 4096, .inl Bn))] sz)) 0 0 (va_A [(qh, .inr (3, [.int mco, .long md, .long mw, .int mfo, .ref qf, .ref qm, .ref qk, .int mmy, .ref qn, .ref qo, .ref qi, .ref qx, .int mpr, .int mgn, .ref qg, .int mli, .ref ql, .long ma, .long mb, .long mc])), (qf, .inl (uf, 40960, .inl Bf)), (qm, .inl (um, 40960, .inl Bm)), (qk, .inl (uk, 40960, .inl Bk)), (qn, .inl (un, 4096, .inl Bn))] sz) := by
  refine Met.ofW (cc := cX3_inverse) (maxL := 2) (ret := (some .int)) (by decide +kernel) rfl ?_
  intro p e s m args below meth c s₁ B hml hv
  obtain ⟨rfl, hsz, hP, hK, hD0⟩ := hv
  have hx := B.exec
  have hb := B.bytes
  have hr := B.returns
  have hts := atoms_spec (ws := wsX3_inverse) B.pre
  have hown : s.vm.findClass "ClassGroupModel" = some m.cls := findClass_of_methodNamed B.named
  have hlocks := B.notSynchronized
  subst hsz
  have hD := hD0.self (sz := s.heap.size)
  generalize hAe : va_A [(qh, .inr (3, [.int mco, .long md, .long mw, .int mfo, .ref qf, .ref qm, .ref qk, .int mmy, .ref qn, .ref qo, .ref qi, .ref qx, .int mpr, .int mgn, .ref qg, .int mli, .ref ql, .long ma, .long mb, .long mc])), (qf, .inl (uf, 40960, .inl Bf)), (qm, .inl (um, 40960, .inl Bm)), (qk, .inl (uk, 40960, .inl Bk)), (qn, .inl (un, 4096, .inl Bn))] s.heap.size = A at hD ⊢
  have hA : ∀ q : Nat, s.heap.size ≤ q → A q := fun q h => by rw [← hAe]; exact Or.inr h
  have hS : va_S A s.heap s.heap [] := va_S.rf
  have hl := lv_entry ([.ref qh, .int x1]) (n := 2) (Nat.le_of_ble_eq_true rfl)
  rw [lg_entry_eq]
  generalize (lg_sl ([.ref qh, .int x1]) ++ List.replicate (2 - (lg_sl ([.ref qh, .int x1])).length) Slot.unset).toArray = ls at hl ⊢
  have hl : lv_has ls 2 [(0, .ref qh), (1, .int x1)] := hl
  unfold f_m_inverse at hf
  refine lv_aload_n hx hb dX3_inverse_0 rfl (lv_at hl 0 rfl) ?_
  refine lv_aload_n hx hb dX3_inverse_1 rfl (lv_at hl 0 rfl) ?_
  refine lv_iload_n hx hb dX3_inverse_2 rfl (lv_at hl 1 rfl) ?_
  obtain ⟨xc3, hc3, hf⟩ := ok_b hf
  have hPc := hP.sub (ws' := [(qh, .inr (3, [.int mco, .long md, .long mw, .int mfo, .ref qf, .ref qm, .ref qk, .int mmy, .ref qn, .ref qo, .ref qi, .ref qx, .int mpr, .int mgn, .ref qg, .int mli, .ref ql, .long ma, .long mb, .long mc]))]) [0] rfl
  have hDc := hD.sub (ws' := [(qh, .inr (3, [.int mco, .long md, .long mw, .int mfo, .ref qf, .ref qm, .ref qk, .int mmy, .ref qn, .ref qo, .ref qi, .ref qx, .int mpr, .int mgn, .ref qg, .int mli, .ref ql, .long ma, .long mb, .long mc]))]) [0] (by decide) rfl
  have hKc := hK.sub (tys' := []) [] rfl
  have hFc := va_free (wc := [(qh, .inr (3, [.int mco, .long md, .long mw, .int mfo, .ref qf, .ref qm, .ref qk, .int mmy, .ref qn, .ref qo, .ref qi, .ref qx, .int mpr, .int mgn, .ref qg, .int mli, .ref ql, .long ma, .long mb, .long mc]))]) hD hS hA [0] rfl
  refine va_calli (va_runV (As := [.int x1]) (rest := [.ref qh]) ⟨hx, hb, hml, hown, hts⟩ (c_m_isClass l dC dI qh mco md mw mfo qf qm qk mmy qn qo qi qx mpr mgn qg mli ql ma mb mc x1 s.heap.size F xc3 hc3) (cwV 1 hts (gwV kw_590 kw_592 ks_41 kw_5 kw_593) rfl rfl rfl (by decide +kernel) ⟨Nat.le_of_ble_eq_true rfl, Nat.le_of_ble_eq_true rfl⟩) ⟨fun a U g mk q => by obtain ⟨q0, q1, qP, qK, qD⟩ := q; exact ⟨q0, q1, qP, va_K.moved (u := U) (U := U.calling g mk a) (Vm.Alike.refl U.vm) qK, qD⟩, va_recv hKc hPc (ci := 3) (q0 := 0) rfl rfl, fun U hU hW => ⟨rfl, by rw [hU], by rw [hU]; exact hPc, va_K.moved hW.alike hKc, hDc.weaken (fun _ _ _ _ => trivial)⟩⟩ rfl rfl hl.1 rfl (lv_room (Nat.le_of_ble_eq_true rfl)) dX3_inverse_3 ⟨Nat.zero_le _, Nat.zero_le _⟩) hS (fun q _ h => hFc q h) hFc (fun r_1 u t H1 locs ht hvm hw hB hz1 hk1 hS => ?_)
  obtain ⟨⟩ := u
  obtain ⟨hP1, hK1, hD1⟩ := hB
  rw [ht] at hP1
  subst hw
  obtain ⟨hP, hD⟩ := va_join (wr := [(qf, .inl (uf, 40960, .inl Bf)), (qm, .inl (um, 40960, .inl Bm)), (qk, .inl (uk, 40960, .inl Bk)), (qn, .inl (un, 4096, .inl Bn))]) (w1 := [(qh, .inr (3, [.int mco, .long md, .long mw, .int mfo, .ref qf, .ref qm, .ref qk, .int mmy, .ref qn, .ref qo, .ref qi, .ref qx, .int mpr, .int mgn, .ref qg, .int mli, .ref ql, .long ma, .long mb, .long mc]))]) hP hD [0] [1, 2, 3, 4] rfl rfl (by decide) (by decide) hk1 hFc hP1 hD1
  generalize H1 = H at hP hS ⊢
  have hP : va_P (dC, dI) vwCl [(qf, .inl (uf, 40960, .inl Bf)), (qm, .inl (um, 40960, .inl Bm)), (qk, .inl (uk, 40960, .inl Bk)), (qn, .inl (un, 4096, .inl Bn)), (qh, .inr (3, [.int mco, .long md, .long mw, .int mfo, .ref qf, .ref qm, .ref qk, .int mmy, .ref qn, .ref qo, .ref qi, .ref qx, .int mpr, .int mgn, .ref qg, .int mli, .ref ql, .long ma, .long mb, .long mc]))] H := hP
  have hD : va_D A [(qf, .inl (uf, 40960, .inl Bf)), (qm, .inl (um, 40960, .inl Bm)), (qk, .inl (uk, 40960, .inl Bk)), (qn, .inl (un, 4096, .inl Bn)), (qh, .inr (3, [.int mco, .long md, .long mw, .int mfo, .ref qf, .ref qm, .ref qk, .int mmy, .ref qn, .ref qo, .ref qi, .ref qx, .int mpr, .int mgn, .ref qg, .int mli, .ref ql, .long ma, .long mb, .long mc]))] := hD
  obtain ⟨kJ14, ekJ14, hf⟩ := bnd_ex hf
  have hJ14 : ∀ (t_2 : Int32) (H : Heap) (locs : List Loc) (ls : Array Slot), kJ14 t_2 = some out → va_P (dC, dI) vwCl [(qh, .inr (3, [.int mco, .long md, .long mw, .int mfo, .ref qf, .ref qm, .ref qk, .int mmy, .ref qn, .ref qo, .ref qi, .ref qx, .int mpr, .int mgn, .ref qg, .int mli, .ref ql, .long ma, .long mb, .long mc])), (qf, .inl (uf, 40960, .inl Bf)), (qm, .inl (um, 40960, .inl Bm)), (qk, .inl (uk, 40960, .inl Bk)), (qn, .inl (un, 4096, .inl Bn))] H → va_D A [(qh, .inr (3, [.int mco, .long md, .long mw, .int mfo, .ref qf, .ref qm, .ref qk, .int mmy, .ref qn, .ref qo, .ref qi, .ref qx, .int mpr, .int mgn, .ref qg, .int mli, .ref ql, .long ma, .long mb, .long mc])), (qf, .inl (uf, 40960, .inl Bf)), (qm, .inl (um, 40960, .inl Bm)), (qk, .inl (uk, 40960, .inl Bk)), (qn, .inl (un, 4096, .inl Bn))] → va_S A s.heap H locs → lv_has ls 2 [(0, .ref qh), (1, .int x1)] → W p l e ((headSpec wsX3_inverse ({ frames := 4, cells := 0, slots := 0, locals := 91 })).room) s m ([.ref qh, .int x1] : List Value).toArray below meth c H locs 0 0 (MQ below (va_Qi (fun (r : Int32) (u : Int32 × Int64 × Int64 × Int64) => (r, u) = out) (fun (u : Int32 × Int64 × Int64 × Int64) t => match u with | (u_mco, u_ma, u_mb, u_mc) => va_P (dC, dI) vwCl [(qh, .inr (3, [.int u_mco, .long md, .long mw, .int mfo, .ref qf, .ref qm, .ref qk, .int mmy, .ref qn, .ref qo, .ref qi, .ref qx, .int mpr, .int mgn, .ref qg, .int mli, .ref ql, .long u_ma, .long u_mb, .long u_mc])), (qf, .inl (uf, 40960, .inl Bf)), (qm, .inl (um, 40960, .inl Bm)), (qk, .inl (uk, 40960, .inl Bk)), (qn, .inl (un, 4096, .inl Bn))] t.heap ∧ va_K (dC, dI) vwCl [(uf, .int), (um, .int), (uk, .int), (un, .int)] t ∧ va_D A [(qh, .inr (3, [.int u_mco, .long md, .long mw, .int mfo, .ref qf, .ref qm, .ref qk, .int mmy, .ref qn, .ref qo, .ref qi, .ref qx, .int mpr, .int mgn, .ref qg, .int mli, .ref ql, .long u_ma, .long u_mb, .long u_mc])), (qf, .inl (uf, 40960, .inl Bf)), (qm, .inl (um, 40960, .inl Bm)), (qk, .inl (uk, 40960, .inl Bk)), (qn, .inl (un, 4096, .inl Bn))]) A) ([.ref qh, .int x1] : List Value).toArray s 0 0 A) (F0 m 14 ls [.int t_2, .ref qh]) := by
    intro t_2 H locs ls hf hP hD hS hl
    rw [ekJ14] at hf
    refine va_put (D := (dC, dI)) (ci := 3) (v := .int t_2) (ty := .int) (C := "ClassGroupModel") (T := TX3) (N := 20) hx hb hts (fun w h => List.mem_cons_of_mem _ (iwX3 w h)) tyX3 tyokX3 nmX3 hown hK hP hD hS 0 rfl rfl 0 (by decide) (hts _ (List.mem_cons_of_mem _ kw_507)) (fun _ h9 => h9) rfl (by decide +kernel) rfl rfl (Nat.le_of_ble_eq_true rfl) dX3_inverse_14 (fun H locs hP hD hS => ?_)
    have hP : va_P (dC, dI) vwCl [(qh, .inr (3, [.int t_2, .long md, .long mw, .int mfo, .ref qf, .ref qm, .ref qk, .int mmy, .ref qn, .ref qo, .ref qi, .ref qx, .int mpr, .int mgn, .ref qg, .int mli, .ref ql, .long ma, .long mb, .long mc])), (qf, .inl (uf, 40960, .inl Bf)), (qm, .inl (um, 40960, .inl Bm)), (qk, .inl (uk, 40960, .inl Bk)), (qn, .inl (un, 4096, .inl Bn))] H := hP
    have hD : va_D A [(qh, .inr (3, [.int t_2, .long md, .long mw, .int mfo, .ref qf, .ref qm, .ref qk, .int mmy, .ref qn, .ref qo, .ref qi, .ref qx, .int mpr, .int mgn, .ref qg, .int mli, .ref ql, .long ma, .long mb, .long mc])), (qf, .inl (uf, 40960, .inl Bf)), (qm, .inl (um, 40960, .inl Bm)), (qk, .inl (uk, 40960, .inl Bk)), (qn, .inl (un, 4096, .inl Bn))] := hD
    refine lv_aload_n hx hb dX3_inverse_17 rfl (lv_at hl 0 rfl) ?_
    refine va_get (D := (dC, dI)) (ci := 3) (v := .int t_2) (C := "ClassGroupModel") (T := TX3) (N := 20) hx hb hts (fun w h => List.mem_cons_of_mem _ (iwX3 w h)) hown hK hP 0 rfl rfl 0 (by decide) (hts _ (List.mem_cons_of_mem _ kw_507)) (fun _ h9 => h9) rfl dX3_inverse_18 ?_
    refine lv_if_le (tgt := 28) hx hb dX3_inverse_21 (by decide) (fun c_21 => ?_) (fun c_21 => ?_)
    · have hf := ok_t c_21 hf
      refine lv_aload_n hx hb dX3_inverse_28 rfl (lv_at hl 0 rfl) ?_
      refine lv_iload_n hx hb dX3_inverse_29 rfl (lv_at hl 1 rfl) ?_
      obtain ⟨xc30, hc30, hf⟩ := ok_b hf
      have hPc := hP.sub (ws' := [(qh, .inr (3, [.int t_2, .long md, .long mw, .int mfo, .ref qf, .ref qm, .ref qk, .int mmy, .ref qn, .ref qo, .ref qi, .ref qx, .int mpr, .int mgn, .ref qg, .int mli, .ref ql, .long ma, .long mb, .long mc])), (qf, .inl (uf, 40960, .inl Bf)), (qm, .inl (um, 40960, .inl Bm)), (qk, .inl (uk, 40960, .inl Bk)), (qn, .inl (un, 4096, .inl Bn))]) [0, 1, 2, 3, 4] rfl
      have hDc := hD.sub (ws' := [(qh, .inr (3, [.int t_2, .long md, .long mw, .int mfo, .ref qf, .ref qm, .ref qk, .int mmy, .ref qn, .ref qo, .ref qi, .ref qx, .int mpr, .int mgn, .ref qg, .int mli, .ref ql, .long ma, .long mb, .long mc])), (qf, .inl (uf, 40960, .inl Bf)), (qm, .inl (um, 40960, .inl Bm)), (qk, .inl (uk, 40960, .inl Bk)), (qn, .inl (un, 4096, .inl Bn))]) [0, 1, 2, 3, 4] (by decide) rfl
      have hKc := hK.sub (tys' := [(uf, .int), (um, .int), (uk, .int), (un, .int)]) [0, 1, 2, 3] rfl
      have hFc := va_free (wc := [(qh, .inr (3, [.int t_2, .long md, .long mw, .int mfo, .ref qf, .ref qm, .ref qk, .int mmy, .ref qn, .ref qo, .ref qi, .ref qx, .int mpr, .int mgn, .ref qg, .int mli, .ref ql, .long ma, .long mb, .long mc])), (qf, .inl (uf, 40960, .inl Bf)), (qm, .inl (um, 40960, .inl Bm)), (qk, .inl (uk, 40960, .inl Bk)), (qn, .inl (un, 4096, .inl Bn))]) hD hS hA [0, 1, 2, 3, 4] rfl
      refine va_calli (va_runV (As := [.int x1]) (rest := []) ⟨hx, hb, hml, hown, hts⟩ (c_m_turned l dC dI qh t_2 md mw mfo qf qm qk mmy qn qo qi qx mpr mgn qg mli ql ma mb mc uf Bf um Bm uk Bk un Bn x1 H.size F xc30 hc30) (cwV 1 hts (gwV kw_608 kw_610 ks_42 kw_5 kw_611) rfl rfl rfl (by decide +kernel) ⟨Nat.le_of_ble_eq_true rfl, Nat.le_of_ble_eq_true rfl⟩) ⟨fun a U g mk q => by obtain ⟨q0, q1, qP, qK, qD⟩ := q; exact ⟨q0, q1, qP, va_K.moved (u := U) (U := U.calling g mk a) (Vm.Alike.refl U.vm) qK, qD⟩, va_recv hKc hPc (ci := 3) (q0 := 0) rfl rfl, fun U hU hW => ⟨rfl, by rw [hU], by rw [hU]; exact hPc, va_K.moved hW.alike hKc, hDc.weaken (fun _ _ _ _ => trivial)⟩⟩ rfl rfl hl.1 rfl (lv_room (Nat.le_of_ble_eq_true rfl)) dX3_inverse_30 ⟨Nat.zero_le _, Nat.zero_le _⟩) hS (fun q _ h => hFc q h) hFc (fun r_3 u t H1 locs ht hvm hw hB hz1 hk1 hS => ?_)
      obtain ⟨u_ma_4, u_mb_5, u_mc_6⟩ := u
      obtain ⟨hP1, hK1, hD1⟩ := hB
      rw [ht] at hP1
      subst hw
      obtain ⟨hP, hD⟩ := va_join (wr := []) (w1 := [(qh, .inr (3, [.int t_2, .long md, .long mw, .int mfo, .ref qf, .ref qm, .ref qk, .int mmy, .ref qn, .ref qo, .ref qi, .ref qx, .int mpr, .int mgn, .ref qg, .int mli, .ref ql, .long u_ma_4, .long u_mb_5, .long u_mc_6])), (qf, .inl (uf, 40960, .inl Bf)), (qm, .inl (um, 40960, .inl Bm)), (qk, .inl (uk, 40960, .inl Bk)), (qn, .inl (un, 4096, .inl Bn))]) hP hD [0, 1, 2, 3, 4] [] rfl rfl (by decide) (by decide) hk1 hFc hP1 hD1
      generalize H1 = H at hP hS ⊢
      have hP : va_P (dC, dI) vwCl [(qh, .inr (3, [.int t_2, .long md, .long mw, .int mfo, .ref qf, .ref qm, .ref qk, .int mmy, .ref qn, .ref qo, .ref qi, .ref qx, .int mpr, .int mgn, .ref qg, .int mli, .ref ql, .long u_ma_4, .long u_mb_5, .long u_mc_6])), (qf, .inl (uf, 40960, .inl Bf)), (qm, .inl (um, 40960, .inl Bm)), (qk, .inl (uk, 40960, .inl Bk)), (qn, .inl (un, 4096, .inl Bn))] H := hP
      have hD : va_D A [(qh, .inr (3, [.int t_2, .long md, .long mw, .int mfo, .ref qf, .ref qm, .ref qk, .int mmy, .ref qn, .ref qo, .ref qi, .ref qx, .int mpr, .int mgn, .ref qg, .int mli, .ref ql, .long u_ma_4, .long u_mb_5, .long u_mc_6])), (qf, .inl (uf, 40960, .inl Bf)), (qm, .inl (um, 40960, .inl Bm)), (qk, .inl (uk, 40960, .inl Bk)), (qn, .inl (un, 4096, .inl Bn))] := hD
      have hP9 := hP.sub (ws' := [(qh, .inr (3, [.int t_2, .long md, .long mw, .int mfo, .ref qf, .ref qm, .ref qk, .int mmy, .ref qn, .ref qo, .ref qi, .ref qx, .int mpr, .int mgn, .ref qg, .int mli, .ref ql, .long u_ma_4, .long u_mb_5, .long u_mc_6])), (qf, .inl (uf, 40960, .inl Bf)), (qm, .inl (um, 40960, .inl Bm)), (qk, .inl (uk, 40960, .inl Bk)), (qn, .inl (un, 4096, .inl Bn))]) [0, 1, 2, 3, 4] rfl
      have hD9 := hD.sub (ws' := [(qh, .inr (3, [.int t_2, .long md, .long mw, .int mfo, .ref qf, .ref qm, .ref qk, .int mmy, .ref qn, .ref qo, .ref qi, .ref qx, .int mpr, .int mgn, .ref qg, .int mli, .ref ql, .long u_ma_4, .long u_mb_5, .long u_mc_6])), (qf, .inl (uf, 40960, .inl Bf)), (qm, .inl (um, 40960, .inl Bm)), (qk, .inl (uk, 40960, .inl Bk)), (qn, .inl (un, 4096, .inl Bn))]) [0, 1, 2, 3, 4] (by decide) rfl
      have hK9 := hK.sub (tys' := [(uf, .int), (um, .int), (uk, .int), (un, .int)]) [0, 1, 2, 3] rfl
      exact W.iret (v := r_3) hx hb hr (fun t ht hW => ⟨⟨r_3, (t_2, u_ma_4, u_mb_5, u_mc_6), rfl, (Option.some.inj hf), by rw [ht]; exact hP9, va_K.moved hW.alike hK9, hD9⟩, hS.F ht⟩) hS.2.2 dX3_inverse_33
    · have hf := ok_f c_21 hf
      refine lv_iconst (v := 0) hx hb dX3_inverse_24 (by decide) ?_
      refine lv_goto (tgt := 33) hx hb dX3_inverse_25 (by decide) ?_
      have hP9 := hP.sub (ws' := [(qh, .inr (3, [.int t_2, .long md, .long mw, .int mfo, .ref qf, .ref qm, .ref qk, .int mmy, .ref qn, .ref qo, .ref qi, .ref qx, .int mpr, .int mgn, .ref qg, .int mli, .ref ql, .long ma, .long mb, .long mc])), (qf, .inl (uf, 40960, .inl Bf)), (qm, .inl (um, 40960, .inl Bm)), (qk, .inl (uk, 40960, .inl Bk)), (qn, .inl (un, 4096, .inl Bn))]) [0, 1, 2, 3, 4] rfl
      have hD9 := hD.sub (ws' := [(qh, .inr (3, [.int t_2, .long md, .long mw, .int mfo, .ref qf, .ref qm, .ref qk, .int mmy, .ref qn, .ref qo, .ref qi, .ref qx, .int mpr, .int mgn, .ref qg, .int mli, .ref ql, .long ma, .long mb, .long mc])), (qf, .inl (uf, 40960, .inl Bf)), (qm, .inl (um, 40960, .inl Bm)), (qk, .inl (uk, 40960, .inl Bk)), (qn, .inl (un, 4096, .inl Bn))]) [0, 1, 2, 3, 4] (by decide) rfl
      have hK9 := hK.sub (tys' := [(uf, .int), (um, .int), (uk, .int), (un, .int)]) [0, 1, 2, 3] rfl
      exact W.iret (v := 0) hx hb hr (fun t ht hW => ⟨⟨0, (t_2, ma, mb, mc), rfl, (Option.some.inj hf), by rw [ht]; exact hP9, va_K.moved hW.alike hK9, hD9⟩, hS.F ht⟩) hS.2.2 dX3_inverse_33
  refine lv_if_eq (tgt := 13) hx hb dX3_inverse_6 (by decide) (fun c_6 => ?_) (fun c_6 => ?_)
  · have hf := ok_t c_6 hf
    refine lv_iconst (v := 1) hx hb dX3_inverse_13 (by decide) ?_
    exact hJ14 1 _ _ _ hf (hP.sub [4, 0, 1, 2, 3] rfl) (hD.sub [4, 0, 1, 2, 3] (by decide) rfl) hS (lv_sub hl [0, 1] rfl)
  · have hf := ok_f c_6 hf
    refine lv_iconst (v := 0) hx hb dX3_inverse_9 (by decide) ?_
    refine lv_goto (tgt := 14) hx hb dX3_inverse_10 (by decide) ?_
    exact hJ14 0 _ _ _ hf (hP.sub [4, 0, 1, 2, 3] rfl) (hD.sub [4, 0, 1, 2, 3] (by decide) rfl) hS (lv_sub hl [0, 1] rfl)

def f_m_power (F : Nat) (md : Int64) (mw : Int64) (mfo : Int32) (Bf : Nat → Int32) (Bm : Nat → Int32) (Bk : Nat → Int32) (Bn : Nat → Int32) (mmy : Int32) (mpr : Int32) (Bo : Nat → Int32) (ma : Int64) (mb : Int64) (mc : Int64) (x1 : Int32) (x2 : Int32) : Option (Int32 × Int32 × Int64 × Int64 × Int64) := Option.bind (f_m_isClass F mmy x1) (fun r_1 => bnd (fun (t_2 : Int32) => ((if t_2 ≤ 0 then Option.bind (f_m_raised F md mw mfo Bf Bm Bk Bn Bo mpr ma mb mc x1 x2) (fun (r_3, u_ma_4, u_mb_5, u_mc_6) => some (r_3, t_2, u_ma_4, u_mb_5, u_mc_6)) else some (0, t_2, ma, mb, mc)) : Option (Int32 × Int32 × Int64 × Int64 × Int64))) (fun kJ14 => (if r_1 = 0 then kJ14 1 else kJ14 0)))
set_option maxHeartbeats 4000000 in
set_option maxRecDepth 100000 in
theorem c_m_power (l : Launch) (dC : Nat → ClassId) (dI : Nat → Nat → Nat) (qh : Nat) (mco : Int32) (md : Int64) (mw : Int64) (mfo : Int32) (qf : Nat) (qm : Nat) (qk : Nat) (mmy : Int32) (qn : Nat) (qo : Nat) (qi : Nat) (qx : Nat) (mpr : Int32) (mgn : Int32) (qg : Nat) (mli : Int32) (ql : Nat) (ma : Int64) (mb : Int64) (mc : Int64) (uf : ClassId) (Bf : Nat → Int32) (um : ClassId) (Bm : Nat → Int32) (uk : ClassId) (Bk : Nat → Int32) (un : ClassId) (Bn : Nat → Int32) (uo : ClassId) (Bo : Nat → Int32) (x1 : Int32) (x2 : Int32) (sz : Nat) (F : Nat) (out : Int32 × Int32 × Int64 × Int64 × Int64) (hf : f_m_power F md mw mfo Bf Bm Bk Bn mmy mpr Bo ma mb mc x1 x2 = some out) : Met l yX3_power wsX3_power ({ frames := 5, cells := 0, slots := 0, locals := 138 }) (va_Pc [.ref qh, .int x1, .int x2] (fun U => U.heap.size = sz ∧ va_P (dC, dI) vwCl [(qh, .inr (3, [.int mco, .long md, .long mw, .int mfo, .ref qf, .ref qm, .ref qk, .int mmy, .ref qn, .ref qo, .ref qi, .ref qx, .int mpr, .int mgn, .ref qg, .int mli, .ref ql, .long ma, .long mb, .long mc])), (qf, .inl (uf, 40960, .inl Bf)), (qm, .inl (um, 40960, .inl Bm)), (qk, .inl (uk, 40960, .inl Bk)), (qn, .inl (un, 4096, .inl Bn)), (qo, .inl (uo, 4096, .inl Bo))] U.heap ∧ va_K (dC, dI) vwCl [(uf, .int), (um, .int), (uk, .int), (un, .int), (uo, .int)] U ∧ va_D (fun _ => True) [(qh, .inr (3, [.int mco, .long md, .long mw, .int mfo, .ref qf, .ref qm, .ref qk, .int mmy, .ref qn, .ref qo, .ref qi, .ref qx, .int mpr, .int mgn, .ref qg, .int mli, .ref ql, .long ma, .long mb, .long mc])), (qf, .inl (uf, 40960, .inl Bf)), (qm, .inl (um, 40960, .inl Bm)), (qk, .inl (uk, 40960, .inl Bk)), (qn, .inl (un, 4096, .inl Bn)), (qo, .inl (uo, 4096, .inl Bo))])) (va_Qi (fun (r : Int32) (u : Int32 × Int64 × Int64 × Int64) => (r, u) = out) (fun (u : Int32 × Int64 × Int64 × Int64) t => match u with | (u_mco, u_ma, u_mb, u_mc) => va_P (dC, dI) vwCl [(qh, .inr (3, [.int u_mco, .long md, .long mw, .int mfo, .ref qf, .ref qm, .ref qk, .int mmy, .ref qn, .ref qo, .ref qi, .ref qx, .int mpr, .int mgn, .ref qg, .int mli, .ref ql, .long u_ma, .long u_mb, .long u_mc])), (qf, .inl (uf, 40960, .inl Bf)), (qm, .inl (um, 40960, .inl Bm)), (qk, .inl (uk, 40960, .inl Bk)), (qn, .inl (un, 4096, .inl Bn)), (qo, .inl (uo, 4096, .inl Bo))] t.heap ∧ va_K (dC, dI) vwCl [(uf, .int), (um, .int), (uk, .int), (un, .int), (uo, .int)] t ∧ va_D (va_A [(qh, .inr (3, [.int mco, .long md, .long mw, .int mfo, .ref qf, .ref qm, .ref qk, .int mmy, .ref qn, .ref qo, .ref qi, .ref qx, .int mpr, .int mgn, .ref qg, .int mli, .ref ql, .long ma, .long mb, .long mc])), (qf, .inl (uf, 40960, .inl Bf)), (qm, .inl (um, 40960, .inl Bm)), (qk, .inl (uk, 40960, .inl Bk)), (qn, .inl (un, 4096, .inl Bn)), (qo, .inl (uo, 4096, .inl Bo))] sz) [(qh, .inr (3, [.int u_mco, .long md, .long mw, .int mfo, .ref qf, .ref qm, .ref qk, .int mmy, .ref qn, .ref qo, .ref qi, .ref qx, .int mpr, .int mgn, .ref qg, .int mli, .ref ql, .long u_ma, .long u_mb, .long u_mc])), (qf, .inl (uf, 40960, .inl Bf)), (qm, .inl (um, 40960, .inl Bm)), (qk, .inl (uk, 40960, .inl Bk)), (qn, .inl (un, 4096, .inl Bn)), (qo, .inl (uo, 4096, .inl Bo))]) (va_A [(qh, .inr (3, [.int mco, .long md, .long mw, .int mfo, .ref qf, .ref qm, .ref qk, .int mmy, .ref qn, .ref qo, .ref qi, .ref qx, .int mpr, .int mgn, .ref qg, .int mli, .ref ql, .long ma, .long mb, .long mc])), (qf, .inl (uf, 40960, .inl Bf)), (qm, .inl (um, 40960, .inl Bm)), (qk, .inl (uk, 40960, .inl Bk)), (qn, .inl (un, 4096, .inl Bn)), (qo, .inl (uo, 4096, .inl Bo))] sz)) 0 0 (va_A [(qh, .inr (3, [.int mco, .long md, .long mw, .int mfo, .ref qf, .ref qm, .ref qk, .int mmy, .ref qn, .ref qo, .ref qi, .ref qx, .int mpr, .int mgn, .ref qg, .int mli, .ref ql, .long ma, .long mb, .long mc])), (qf, .inl (uf, 40960, .inl Bf)), (qm, .inl (um, 40960, .inl Bm)), (qk, .inl (uk, 40960, .inl Bk)), (qn, .inl (un, 4096, .inl Bn)), (qo, .inl (uo, 4096, .inl Bo))] sz) := by
  refine Met.ofW (cc := cX3_power) (maxL := 3) (ret := (some .int)) (by decide +kernel) rfl ?_
  intro p e s m args below meth c s₁ B hml hv
  obtain ⟨rfl, hsz, hP, hK, hD0⟩ := hv
  have hx := B.exec
  have hb := B.bytes
  have hr := B.returns
  have hts := atoms_spec (ws := wsX3_power) B.pre
  have hown : s.vm.findClass "ClassGroupModel" = some m.cls := findClass_of_methodNamed B.named
  have hlocks := B.notSynchronized
  subst hsz
  have hD := hD0.self (sz := s.heap.size)
  generalize hAe : va_A [(qh, .inr (3, [.int mco, .long md, .long mw, .int mfo, .ref qf, .ref qm, .ref qk, .int mmy, .ref qn, .ref qo, .ref qi, .ref qx, .int mpr, .int mgn, .ref qg, .int mli, .ref ql, .long ma, .long mb, .long mc])), (qf, .inl (uf, 40960, .inl Bf)), (qm, .inl (um, 40960, .inl Bm)), (qk, .inl (uk, 40960, .inl Bk)), (qn, .inl (un, 4096, .inl Bn)), (qo, .inl (uo, 4096, .inl Bo))] s.heap.size = A at hD ⊢
  have hA : ∀ q : Nat, s.heap.size ≤ q → A q := fun q h => by rw [← hAe]; exact Or.inr h
  have hS : va_S A s.heap s.heap [] := va_S.rf
  have hl := lv_entry ([.ref qh, .int x1, .int x2]) (n := 3) (Nat.le_of_ble_eq_true rfl)
  rw [lg_entry_eq]
  generalize (lg_sl ([.ref qh, .int x1, .int x2]) ++ List.replicate (3 - (lg_sl ([.ref qh, .int x1, .int x2])).length) Slot.unset).toArray = ls at hl ⊢
  have hl : lv_has ls 3 [(0, .ref qh), (1, .int x1), (2, .int x2)] := hl
  unfold f_m_power at hf
  refine lv_aload_n hx hb dX3_power_0 rfl (lv_at hl 0 rfl) ?_
  refine lv_aload_n hx hb dX3_power_1 rfl (lv_at hl 0 rfl) ?_
  refine lv_iload_n hx hb dX3_power_2 rfl (lv_at hl 1 rfl) ?_
  obtain ⟨xc3, hc3, hf⟩ := ok_b hf
  have hPc := hP.sub (ws' := [(qh, .inr (3, [.int mco, .long md, .long mw, .int mfo, .ref qf, .ref qm, .ref qk, .int mmy, .ref qn, .ref qo, .ref qi, .ref qx, .int mpr, .int mgn, .ref qg, .int mli, .ref ql, .long ma, .long mb, .long mc]))]) [0] rfl
  have hDc := hD.sub (ws' := [(qh, .inr (3, [.int mco, .long md, .long mw, .int mfo, .ref qf, .ref qm, .ref qk, .int mmy, .ref qn, .ref qo, .ref qi, .ref qx, .int mpr, .int mgn, .ref qg, .int mli, .ref ql, .long ma, .long mb, .long mc]))]) [0] (by decide) rfl
  have hKc := hK.sub (tys' := []) [] rfl
  have hFc := va_free (wc := [(qh, .inr (3, [.int mco, .long md, .long mw, .int mfo, .ref qf, .ref qm, .ref qk, .int mmy, .ref qn, .ref qo, .ref qi, .ref qx, .int mpr, .int mgn, .ref qg, .int mli, .ref ql, .long ma, .long mb, .long mc]))]) hD hS hA [0] rfl
  refine va_calli (va_runV (As := [.int x1]) (rest := [.ref qh]) ⟨hx, hb, hml, hown, hts⟩ (c_m_isClass l dC dI qh mco md mw mfo qf qm qk mmy qn qo qi qx mpr mgn qg mli ql ma mb mc x1 s.heap.size F xc3 hc3) (cwV 1 hts (gwV kw_590 kw_592 ks_41 kw_5 kw_593) rfl rfl rfl (by decide +kernel) ⟨Nat.le_of_ble_eq_true rfl, Nat.le_of_ble_eq_true rfl⟩) ⟨fun a U g mk q => by obtain ⟨q0, q1, qP, qK, qD⟩ := q; exact ⟨q0, q1, qP, va_K.moved (u := U) (U := U.calling g mk a) (Vm.Alike.refl U.vm) qK, qD⟩, va_recv hKc hPc (ci := 3) (q0 := 0) rfl rfl, fun U hU hW => ⟨rfl, by rw [hU], by rw [hU]; exact hPc, va_K.moved hW.alike hKc, hDc.weaken (fun _ _ _ _ => trivial)⟩⟩ rfl rfl hl.1 rfl (lv_room (Nat.le_of_ble_eq_true rfl)) dX3_power_3 ⟨Nat.zero_le _, Nat.zero_le _⟩) hS (fun q _ h => hFc q h) hFc (fun r_1 u t H1 locs ht hvm hw hB hz1 hk1 hS => ?_)
  obtain ⟨⟩ := u
  obtain ⟨hP1, hK1, hD1⟩ := hB
  rw [ht] at hP1
  subst hw
  obtain ⟨hP, hD⟩ := va_join (wr := [(qf, .inl (uf, 40960, .inl Bf)), (qm, .inl (um, 40960, .inl Bm)), (qk, .inl (uk, 40960, .inl Bk)), (qn, .inl (un, 4096, .inl Bn)), (qo, .inl (uo, 4096, .inl Bo))]) (w1 := [(qh, .inr (3, [.int mco, .long md, .long mw, .int mfo, .ref qf, .ref qm, .ref qk, .int mmy, .ref qn, .ref qo, .ref qi, .ref qx, .int mpr, .int mgn, .ref qg, .int mli, .ref ql, .long ma, .long mb, .long mc]))]) hP hD [0] [1, 2, 3, 4, 5] rfl rfl (by decide) (by decide) hk1 hFc hP1 hD1
  generalize H1 = H at hP hS ⊢
  have hP : va_P (dC, dI) vwCl [(qf, .inl (uf, 40960, .inl Bf)), (qm, .inl (um, 40960, .inl Bm)), (qk, .inl (uk, 40960, .inl Bk)), (qn, .inl (un, 4096, .inl Bn)), (qo, .inl (uo, 4096, .inl Bo)), (qh, .inr (3, [.int mco, .long md, .long mw, .int mfo, .ref qf, .ref qm, .ref qk, .int mmy, .ref qn, .ref qo, .ref qi, .ref qx, .int mpr, .int mgn, .ref qg, .int mli, .ref ql, .long ma, .long mb, .long mc]))] H := hP
  have hD : va_D A [(qf, .inl (uf, 40960, .inl Bf)), (qm, .inl (um, 40960, .inl Bm)), (qk, .inl (uk, 40960, .inl Bk)), (qn, .inl (un, 4096, .inl Bn)), (qo, .inl (uo, 4096, .inl Bo)), (qh, .inr (3, [.int mco, .long md, .long mw, .int mfo, .ref qf, .ref qm, .ref qk, .int mmy, .ref qn, .ref qo, .ref qi, .ref qx, .int mpr, .int mgn, .ref qg, .int mli, .ref ql, .long ma, .long mb, .long mc]))] := hD
  obtain ⟨kJ14, ekJ14, hf⟩ := bnd_ex hf
  have hJ14 : ∀ (t_2 : Int32) (H : Heap) (locs : List Loc) (ls : Array Slot), kJ14 t_2 = some out → va_P (dC, dI) vwCl [(qh, .inr (3, [.int mco, .long md, .long mw, .int mfo, .ref qf, .ref qm, .ref qk, .int mmy, .ref qn, .ref qo, .ref qi, .ref qx, .int mpr, .int mgn, .ref qg, .int mli, .ref ql, .long ma, .long mb, .long mc])), (qf, .inl (uf, 40960, .inl Bf)), (qm, .inl (um, 40960, .inl Bm)), (qk, .inl (uk, 40960, .inl Bk)), (qn, .inl (un, 4096, .inl Bn)), (qo, .inl (uo, 4096, .inl Bo))] H → va_D A [(qh, .inr (3, [.int mco, .long md, .long mw, .int mfo, .ref qf, .ref qm, .ref qk, .int mmy, .ref qn, .ref qo, .ref qi, .ref qx, .int mpr, .int mgn, .ref qg, .int mli, .ref ql, .long ma, .long mb, .long mc])), (qf, .inl (uf, 40960, .inl Bf)), (qm, .inl (um, 40960, .inl Bm)), (qk, .inl (uk, 40960, .inl Bk)), (qn, .inl (un, 4096, .inl Bn)), (qo, .inl (uo, 4096, .inl Bo))] → va_S A s.heap H locs → lv_has ls 3 [(0, .ref qh), (1, .int x1), (2, .int x2)] → W p l e ((headSpec wsX3_power ({ frames := 5, cells := 0, slots := 0, locals := 138 })).room) s m ([.ref qh, .int x1, .int x2] : List Value).toArray below meth c H locs 0 0 (MQ below (va_Qi (fun (r : Int32) (u : Int32 × Int64 × Int64 × Int64) => (r, u) = out) (fun (u : Int32 × Int64 × Int64 × Int64) t => match u with | (u_mco, u_ma, u_mb, u_mc) => va_P (dC, dI) vwCl [(qh, .inr (3, [.int u_mco, .long md, .long mw, .int mfo, .ref qf, .ref qm, .ref qk, .int mmy, .ref qn, .ref qo, .ref qi, .ref qx, .int mpr, .int mgn, .ref qg, .int mli, .ref ql, .long u_ma, .long u_mb, .long u_mc])), (qf, .inl (uf, 40960, .inl Bf)), (qm, .inl (um, 40960, .inl Bm)), (qk, .inl (uk, 40960, .inl Bk)), (qn, .inl (un, 4096, .inl Bn)), (qo, .inl (uo, 4096, .inl Bo))] t.heap ∧ va_K (dC, dI) vwCl [(uf, .int), (um, .int), (uk, .int), (un, .int), (uo, .int)] t ∧ va_D A [(qh, .inr (3, [.int u_mco, .long md, .long mw, .int mfo, .ref qf, .ref qm, .ref qk, .int mmy, .ref qn, .ref qo, .ref qi, .ref qx, .int mpr, .int mgn, .ref qg, .int mli, .ref ql, .long u_ma, .long u_mb, .long u_mc])), (qf, .inl (uf, 40960, .inl Bf)), (qm, .inl (um, 40960, .inl Bm)), (qk, .inl (uk, 40960, .inl Bk)), (qn, .inl (un, 4096, .inl Bn)), (qo, .inl (uo, 4096, .inl Bo))]) A) ([.ref qh, .int x1, .int x2] : List Value).toArray s 0 0 A) (F0 m 14 ls [.int t_2, .ref qh]) := by
    intro t_2 H locs ls hf hP hD hS hl
    rw [ekJ14] at hf
    refine va_put (D := (dC, dI)) (ci := 3) (v := .int t_2) (ty := .int) (C := "ClassGroupModel") (T := TX3) (N := 20) hx hb hts (fun w h => List.mem_cons_of_mem _ (iwX3 w h)) tyX3 tyokX3 nmX3 hown hK hP hD hS 0 rfl rfl 0 (by decide) (hts _ (List.mem_cons_of_mem _ kw_507)) (fun _ h9 => h9) rfl (by decide +kernel) rfl rfl (Nat.le_of_ble_eq_true rfl) dX3_power_14 (fun H locs hP hD hS => ?_)
    have hP : va_P (dC, dI) vwCl [(qh, .inr (3, [.int t_2, .long md, .long mw, .int mfo, .ref qf, .ref qm, .ref qk, .int mmy, .ref qn, .ref qo, .ref qi, .ref qx, .int mpr, .int mgn, .ref qg, .int mli, .ref ql, .long ma, .long mb, .long mc])), (qf, .inl (uf, 40960, .inl Bf)), (qm, .inl (um, 40960, .inl Bm)), (qk, .inl (uk, 40960, .inl Bk)), (qn, .inl (un, 4096, .inl Bn)), (qo, .inl (uo, 4096, .inl Bo))] H := hP
    have hD : va_D A [(qh, .inr (3, [.int t_2, .long md, .long mw, .int mfo, .ref qf, .ref qm, .ref qk, .int mmy, .ref qn, .ref qo, .ref qi, .ref qx, .int mpr, .int mgn, .ref qg, .int mli, .ref ql, .long ma, .long mb, .long mc])), (qf, .inl (uf, 40960, .inl Bf)), (qm, .inl (um, 40960, .inl Bm)), (qk, .inl (uk, 40960, .inl Bk)), (qn, .inl (un, 4096, .inl Bn)), (qo, .inl (uo, 4096, .inl Bo))] := hD
    refine lv_aload_n hx hb dX3_power_17 rfl (lv_at hl 0 rfl) ?_
    refine va_get (D := (dC, dI)) (ci := 3) (v := .int t_2) (C := "ClassGroupModel") (T := TX3) (N := 20) hx hb hts (fun w h => List.mem_cons_of_mem _ (iwX3 w h)) hown hK hP 0 rfl rfl 0 (by decide) (hts _ (List.mem_cons_of_mem _ kw_507)) (fun _ h9 => h9) rfl dX3_power_18 ?_
    refine lv_if_le (tgt := 28) hx hb dX3_power_21 (by decide) (fun c_21 => ?_) (fun c_21 => ?_)
    · have hf := ok_t c_21 hf
      refine lv_aload_n hx hb dX3_power_28 rfl (lv_at hl 0 rfl) ?_
      refine lv_iload_n hx hb dX3_power_29 rfl (lv_at hl 1 rfl) ?_
      refine lv_iload_n hx hb dX3_power_30 rfl (lv_at hl 2 rfl) ?_
      obtain ⟨xc31, hc31, hf⟩ := ok_b hf
      have hPc := hP.sub (ws' := [(qh, .inr (3, [.int t_2, .long md, .long mw, .int mfo, .ref qf, .ref qm, .ref qk, .int mmy, .ref qn, .ref qo, .ref qi, .ref qx, .int mpr, .int mgn, .ref qg, .int mli, .ref ql, .long ma, .long mb, .long mc])), (qf, .inl (uf, 40960, .inl Bf)), (qm, .inl (um, 40960, .inl Bm)), (qk, .inl (uk, 40960, .inl Bk)), (qn, .inl (un, 4096, .inl Bn)), (qo, .inl (uo, 4096, .inl Bo))]) [0, 1, 2, 3, 4, 5] rfl
      have hDc := hD.sub (ws' := [(qh, .inr (3, [.int t_2, .long md, .long mw, .int mfo, .ref qf, .ref qm, .ref qk, .int mmy, .ref qn, .ref qo, .ref qi, .ref qx, .int mpr, .int mgn, .ref qg, .int mli, .ref ql, .long ma, .long mb, .long mc])), (qf, .inl (uf, 40960, .inl Bf)), (qm, .inl (um, 40960, .inl Bm)), (qk, .inl (uk, 40960, .inl Bk)), (qn, .inl (un, 4096, .inl Bn)), (qo, .inl (uo, 4096, .inl Bo))]) [0, 1, 2, 3, 4, 5] (by decide) rfl
      have hKc := hK.sub (tys' := [(uf, .int), (um, .int), (uk, .int), (un, .int), (uo, .int)]) [0, 1, 2, 3, 4] rfl
      have hFc := va_free (wc := [(qh, .inr (3, [.int t_2, .long md, .long mw, .int mfo, .ref qf, .ref qm, .ref qk, .int mmy, .ref qn, .ref qo, .ref qi, .ref qx, .int mpr, .int mgn, .ref qg, .int mli, .ref ql, .long ma, .long mb, .long mc])), (qf, .inl (uf, 40960, .inl Bf)), (qm, .inl (um, 40960, .inl Bm)), (qk, .inl (uk, 40960, .inl Bk)), (qn, .inl (un, 4096, .inl Bn)), (qo, .inl (uo, 4096, .inl Bo))]) hD hS hA [0, 1, 2, 3, 4, 5] rfl
      refine va_calli (va_runV (As := [.int x1, .int x2]) (rest := []) ⟨hx, hb, hml, hown, hts⟩ (c_m_raised l dC dI qh t_2 md mw mfo qf qm qk mmy qn qo qi qx mpr mgn qg mli ql ma mb mc uf Bf um Bm uk Bk un Bn uo Bo x1 x2 H.size F xc31 hc31) (cwV 2 hts (gwV kw_616 kw_618 ks_43 kw_5 kw_619) rfl rfl rfl (by decide +kernel) ⟨Nat.le_of_ble_eq_true rfl, Nat.le_of_ble_eq_true rfl⟩) ⟨fun a U g mk q => by obtain ⟨q0, q1, qP, qK, qD⟩ := q; exact ⟨q0, q1, qP, va_K.moved (u := U) (U := U.calling g mk a) (Vm.Alike.refl U.vm) qK, qD⟩, va_recv hKc hPc (ci := 3) (q0 := 0) rfl rfl, fun U hU hW => ⟨rfl, by rw [hU], by rw [hU]; exact hPc, va_K.moved hW.alike hKc, hDc.weaken (fun _ _ _ _ => trivial)⟩⟩ rfl rfl hl.1 rfl (lv_room (Nat.le_of_ble_eq_true rfl)) dX3_power_31 ⟨Nat.zero_le _, Nat.zero_le _⟩) hS (fun q _ h => hFc q h) hFc (fun r_3 u t H1 locs ht hvm hw hB hz1 hk1 hS => ?_)
      obtain ⟨u_ma_4, u_mb_5, u_mc_6⟩ := u
      obtain ⟨hP1, hK1, hD1⟩ := hB
      rw [ht] at hP1
      subst hw
      obtain ⟨hP, hD⟩ := va_join (wr := []) (w1 := [(qh, .inr (3, [.int t_2, .long md, .long mw, .int mfo, .ref qf, .ref qm, .ref qk, .int mmy, .ref qn, .ref qo, .ref qi, .ref qx, .int mpr, .int mgn, .ref qg, .int mli, .ref ql, .long u_ma_4, .long u_mb_5, .long u_mc_6])), (qf, .inl (uf, 40960, .inl Bf)), (qm, .inl (um, 40960, .inl Bm)), (qk, .inl (uk, 40960, .inl Bk)), (qn, .inl (un, 4096, .inl Bn)), (qo, .inl (uo, 4096, .inl Bo))]) hP hD [0, 1, 2, 3, 4, 5] [] rfl rfl (by decide) (by decide) hk1 hFc hP1 hD1
      generalize H1 = H at hP hS ⊢
      have hP : va_P (dC, dI) vwCl [(qh, .inr (3, [.int t_2, .long md, .long mw, .int mfo, .ref qf, .ref qm, .ref qk, .int mmy, .ref qn, .ref qo, .ref qi, .ref qx, .int mpr, .int mgn, .ref qg, .int mli, .ref ql, .long u_ma_4, .long u_mb_5, .long u_mc_6])), (qf, .inl (uf, 40960, .inl Bf)), (qm, .inl (um, 40960, .inl Bm)), (qk, .inl (uk, 40960, .inl Bk)), (qn, .inl (un, 4096, .inl Bn)), (qo, .inl (uo, 4096, .inl Bo))] H := hP
      have hD : va_D A [(qh, .inr (3, [.int t_2, .long md, .long mw, .int mfo, .ref qf, .ref qm, .ref qk, .int mmy, .ref qn, .ref qo, .ref qi, .ref qx, .int mpr, .int mgn, .ref qg, .int mli, .ref ql, .long u_ma_4, .long u_mb_5, .long u_mc_6])), (qf, .inl (uf, 40960, .inl Bf)), (qm, .inl (um, 40960, .inl Bm)), (qk, .inl (uk, 40960, .inl Bk)), (qn, .inl (un, 4096, .inl Bn)), (qo, .inl (uo, 4096, .inl Bo))] := hD
      have hP9 := hP.sub (ws' := [(qh, .inr (3, [.int t_2, .long md, .long mw, .int mfo, .ref qf, .ref qm, .ref qk, .int mmy, .ref qn, .ref qo, .ref qi, .ref qx, .int mpr, .int mgn, .ref qg, .int mli, .ref ql, .long u_ma_4, .long u_mb_5, .long u_mc_6])), (qf, .inl (uf, 40960, .inl Bf)), (qm, .inl (um, 40960, .inl Bm)), (qk, .inl (uk, 40960, .inl Bk)), (qn, .inl (un, 4096, .inl Bn)), (qo, .inl (uo, 4096, .inl Bo))]) [0, 1, 2, 3, 4, 5] rfl
      have hD9 := hD.sub (ws' := [(qh, .inr (3, [.int t_2, .long md, .long mw, .int mfo, .ref qf, .ref qm, .ref qk, .int mmy, .ref qn, .ref qo, .ref qi, .ref qx, .int mpr, .int mgn, .ref qg, .int mli, .ref ql, .long u_ma_4, .long u_mb_5, .long u_mc_6])), (qf, .inl (uf, 40960, .inl Bf)), (qm, .inl (um, 40960, .inl Bm)), (qk, .inl (uk, 40960, .inl Bk)), (qn, .inl (un, 4096, .inl Bn)), (qo, .inl (uo, 4096, .inl Bo))]) [0, 1, 2, 3, 4, 5] (by decide) rfl
      have hK9 := hK.sub (tys' := [(uf, .int), (um, .int), (uk, .int), (un, .int), (uo, .int)]) [0, 1, 2, 3, 4] rfl
      exact W.iret (v := r_3) hx hb hr (fun t ht hW => ⟨⟨r_3, (t_2, u_ma_4, u_mb_5, u_mc_6), rfl, (Option.some.inj hf), by rw [ht]; exact hP9, va_K.moved hW.alike hK9, hD9⟩, hS.F ht⟩) hS.2.2 dX3_power_34
    · have hf := ok_f c_21 hf
      refine lv_iconst (v := 0) hx hb dX3_power_24 (by decide) ?_
      refine lv_goto (tgt := 34) hx hb dX3_power_25 (by decide) ?_
      have hP9 := hP.sub (ws' := [(qh, .inr (3, [.int t_2, .long md, .long mw, .int mfo, .ref qf, .ref qm, .ref qk, .int mmy, .ref qn, .ref qo, .ref qi, .ref qx, .int mpr, .int mgn, .ref qg, .int mli, .ref ql, .long ma, .long mb, .long mc])), (qf, .inl (uf, 40960, .inl Bf)), (qm, .inl (um, 40960, .inl Bm)), (qk, .inl (uk, 40960, .inl Bk)), (qn, .inl (un, 4096, .inl Bn)), (qo, .inl (uo, 4096, .inl Bo))]) [0, 1, 2, 3, 4, 5] rfl
      have hD9 := hD.sub (ws' := [(qh, .inr (3, [.int t_2, .long md, .long mw, .int mfo, .ref qf, .ref qm, .ref qk, .int mmy, .ref qn, .ref qo, .ref qi, .ref qx, .int mpr, .int mgn, .ref qg, .int mli, .ref ql, .long ma, .long mb, .long mc])), (qf, .inl (uf, 40960, .inl Bf)), (qm, .inl (um, 40960, .inl Bm)), (qk, .inl (uk, 40960, .inl Bk)), (qn, .inl (un, 4096, .inl Bn)), (qo, .inl (uo, 4096, .inl Bo))]) [0, 1, 2, 3, 4, 5] (by decide) rfl
      have hK9 := hK.sub (tys' := [(uf, .int), (um, .int), (uk, .int), (un, .int), (uo, .int)]) [0, 1, 2, 3, 4] rfl
      exact W.iret (v := 0) hx hb hr (fun t ht hW => ⟨⟨0, (t_2, ma, mb, mc), rfl, (Option.some.inj hf), by rw [ht]; exact hP9, va_K.moved hW.alike hK9, hD9⟩, hS.F ht⟩) hS.2.2 dX3_power_34
  refine lv_if_eq (tgt := 13) hx hb dX3_power_6 (by decide) (fun c_6 => ?_) (fun c_6 => ?_)
  · have hf := ok_t c_6 hf
    refine lv_iconst (v := 1) hx hb dX3_power_13 (by decide) ?_
    exact hJ14 1 _ _ _ hf (hP.sub [5, 0, 1, 2, 3, 4] rfl) (hD.sub [5, 0, 1, 2, 3, 4] (by decide) rfl) hS (lv_sub hl [0, 1, 2] rfl)
  · have hf := ok_f c_6 hf
    refine lv_iconst (v := 0) hx hb dX3_power_9 (by decide) ?_
    refine lv_goto (tgt := 14) hx hb dX3_power_10 (by decide) ?_
    exact hJ14 0 _ _ _ hf (hP.sub [5, 0, 1, 2, 3, 4] rfl) (hD.sub [5, 0, 1, 2, 3, 4] (by decide) rfl) hS (lv_sub hl [0, 1, 2] rfl)

def f_m_order (F : Nat) (mmy : Int32) (Bo : Nat → Int32) (x1 : Int32) : Option (Int32 × Int32) := Option.bind (f_m_isClass F mmy x1) (fun r_1 => bnd (fun (t_2 : Int32) => ((if t_2 ≤ 0 then (if vin x1 4096 then some ((Bo (x1).toNatClampNeg), t_2) else none) else some (0, t_2)) : Option (Int32 × Int32))) (fun kJ14 => (if r_1 = 0 then kJ14 1 else kJ14 0)))
set_option maxHeartbeats 4000000 in
set_option maxRecDepth 100000 in
theorem c_m_order (l : Launch) (dC : Nat → ClassId) (dI : Nat → Nat → Nat) (qh : Nat) (mco : Int32) (md : Int64) (mw : Int64) (mfo : Int32) (qf : Nat) (qm : Nat) (qk : Nat) (mmy : Int32) (qn : Nat) (qo : Nat) (qi : Nat) (qx : Nat) (mpr : Int32) (mgn : Int32) (qg : Nat) (mli : Int32) (ql : Nat) (ma : Int64) (mb : Int64) (mc : Int64) (uo : ClassId) (Bo : Nat → Int32) (x1 : Int32) (sz : Nat) (F : Nat) (out : Int32 × Int32) (hf : f_m_order F mmy Bo x1 = some out) : Met l yX3_order wsX3_order ({ frames := 2, cells := 0, slots := 0, locals := 46 }) (va_Pc [.ref qh, .int x1] (fun U => U.heap.size = sz ∧ va_P (dC, dI) vwCl [(qh, .inr (3, [.int mco, .long md, .long mw, .int mfo, .ref qf, .ref qm, .ref qk, .int mmy, .ref qn, .ref qo, .ref qi, .ref qx, .int mpr, .int mgn, .ref qg, .int mli, .ref ql, .long ma, .long mb, .long mc])), (qo, .inl (uo, 4096, .inl Bo))] U.heap ∧ va_K (dC, dI) vwCl [(uo, .int)] U ∧ va_D (fun _ => True) [(qh, .inr (3, [.int mco, .long md, .long mw, .int mfo, .ref qf, .ref qm, .ref qk, .int mmy, .ref qn, .ref qo, .ref qi, .ref qx, .int mpr, .int mgn, .ref qg, .int mli, .ref ql, .long ma, .long mb, .long mc])), (qo, .inl (uo, 4096, .inl Bo))])) (va_Qi (fun (r : Int32) (u : Int32) => (r, u) = out) (fun (u_mco : Int32) t => va_P (dC, dI) vwCl [(qh, .inr (3, [.int u_mco, .long md, .long mw, .int mfo, .ref qf, .ref qm, .ref qk, .int mmy, .ref qn, .ref qo, .ref qi, .ref qx, .int mpr, .int mgn, .ref qg, .int mli, .ref ql, .long ma, .long mb, .long mc])), (qo, .inl (uo, 4096, .inl Bo))] t.heap ∧ va_K (dC, dI) vwCl [(uo, .int)] t ∧ va_D (va_A [(qh, .inr (3, [.int mco, .long md, .long mw, .int mfo, .ref qf, .ref qm, .ref qk, .int mmy, .ref qn, .ref qo, .ref qi, .ref qx, .int mpr, .int mgn, .ref qg, .int mli, .ref ql, .long ma, .long mb, .long mc])), (qo, .inl (uo, 4096, .inl Bo))] sz) [(qh, .inr (3, [.int u_mco, .long md, .long mw, .int mfo, .ref qf, .ref qm, .ref qk, .int mmy, .ref qn, .ref qo, .ref qi, .ref qx, .int mpr, .int mgn, .ref qg, .int mli, .ref ql, .long ma, .long mb, .long mc])), (qo, .inl (uo, 4096, .inl Bo))]) (va_A [(qh, .inr (3, [.int mco, .long md, .long mw, .int mfo, .ref qf, .ref qm, .ref qk, .int mmy, .ref qn, .ref qo, .ref qi, .ref qx, .int mpr, .int mgn, .ref qg, .int mli, .ref ql, .long ma, .long mb, .long mc])), (qo, .inl (uo, 4096, .inl Bo))] sz)) 0 0 (va_A [(qh, .inr (3, [.int mco, .long md, .long mw, .int mfo, .ref qf, .ref qm, .ref qk, .int mmy, .ref qn, .ref qo, .ref qi, .ref qx, .int mpr, .int mgn, .ref qg, .int mli, .ref ql, .long ma, .long mb, .long mc])), (qo, .inl (uo, 4096, .inl Bo))] sz) := by
  refine Met.ofW (cc := cX3_order) (maxL := 2) (ret := (some .int)) (by decide +kernel) rfl ?_
  intro p e s m args below meth c s₁ B hml hv
  obtain ⟨rfl, hsz, hP, hK, hD0⟩ := hv
  have hx := B.exec
  have hb := B.bytes
  have hr := B.returns
  have hts := atoms_spec (ws := wsX3_order) B.pre
  have hown : s.vm.findClass "ClassGroupModel" = some m.cls := findClass_of_methodNamed B.named
  have hlocks := B.notSynchronized
  subst hsz
  have hD := hD0.self (sz := s.heap.size)
  generalize hAe : va_A [(qh, .inr (3, [.int mco, .long md, .long mw, .int mfo, .ref qf, .ref qm, .ref qk, .int mmy, .ref qn, .ref qo, .ref qi, .ref qx, .int mpr, .int mgn, .ref qg, .int mli, .ref ql, .long ma, .long mb, .long mc])), (qo, .inl (uo, 4096, .inl Bo))] s.heap.size = A at hD ⊢
  have hA : ∀ q : Nat, s.heap.size ≤ q → A q := fun q h => by rw [← hAe]; exact Or.inr h
  have hS : va_S A s.heap s.heap [] := va_S.rf
  have hl := lv_entry ([.ref qh, .int x1]) (n := 2) (Nat.le_of_ble_eq_true rfl)
  rw [lg_entry_eq]
  generalize (lg_sl ([.ref qh, .int x1]) ++ List.replicate (2 - (lg_sl ([.ref qh, .int x1])).length) Slot.unset).toArray = ls at hl ⊢
  have hl : lv_has ls 2 [(0, .ref qh), (1, .int x1)] := hl
  unfold f_m_order at hf
  refine lv_aload_n hx hb dX3_order_0 rfl (lv_at hl 0 rfl) ?_
  refine lv_aload_n hx hb dX3_order_1 rfl (lv_at hl 0 rfl) ?_
  refine lv_iload_n hx hb dX3_order_2 rfl (lv_at hl 1 rfl) ?_
  obtain ⟨xc3, hc3, hf⟩ := ok_b hf
  have hPc := hP.sub (ws' := [(qh, .inr (3, [.int mco, .long md, .long mw, .int mfo, .ref qf, .ref qm, .ref qk, .int mmy, .ref qn, .ref qo, .ref qi, .ref qx, .int mpr, .int mgn, .ref qg, .int mli, .ref ql, .long ma, .long mb, .long mc]))]) [0] rfl
  have hDc := hD.sub (ws' := [(qh, .inr (3, [.int mco, .long md, .long mw, .int mfo, .ref qf, .ref qm, .ref qk, .int mmy, .ref qn, .ref qo, .ref qi, .ref qx, .int mpr, .int mgn, .ref qg, .int mli, .ref ql, .long ma, .long mb, .long mc]))]) [0] (by decide) rfl
  have hKc := hK.sub (tys' := []) [] rfl
  have hFc := va_free (wc := [(qh, .inr (3, [.int mco, .long md, .long mw, .int mfo, .ref qf, .ref qm, .ref qk, .int mmy, .ref qn, .ref qo, .ref qi, .ref qx, .int mpr, .int mgn, .ref qg, .int mli, .ref ql, .long ma, .long mb, .long mc]))]) hD hS hA [0] rfl
  refine va_calli (va_runV (As := [.int x1]) (rest := [.ref qh]) ⟨hx, hb, hml, hown, hts⟩ (c_m_isClass l dC dI qh mco md mw mfo qf qm qk mmy qn qo qi qx mpr mgn qg mli ql ma mb mc x1 s.heap.size F xc3 hc3) (cwV 1 hts (gwV kw_590 kw_592 ks_41 kw_5 kw_593) rfl rfl rfl (by decide +kernel) ⟨Nat.le_of_ble_eq_true rfl, Nat.le_of_ble_eq_true rfl⟩) ⟨fun a U g mk q => by obtain ⟨q0, q1, qP, qK, qD⟩ := q; exact ⟨q0, q1, qP, va_K.moved (u := U) (U := U.calling g mk a) (Vm.Alike.refl U.vm) qK, qD⟩, va_recv hKc hPc (ci := 3) (q0 := 0) rfl rfl, fun U hU hW => ⟨rfl, by rw [hU], by rw [hU]; exact hPc, va_K.moved hW.alike hKc, hDc.weaken (fun _ _ _ _ => trivial)⟩⟩ rfl rfl hl.1 rfl (lv_room (Nat.le_of_ble_eq_true rfl)) dX3_order_3 ⟨Nat.zero_le _, Nat.zero_le _⟩) hS (fun q _ h => hFc q h) hFc (fun r_1 u t H1 locs ht hvm hw hB hz1 hk1 hS => ?_)
  obtain ⟨⟩ := u
  obtain ⟨hP1, hK1, hD1⟩ := hB
  rw [ht] at hP1
  subst hw
  obtain ⟨hP, hD⟩ := va_join (wr := [(qo, .inl (uo, 4096, .inl Bo))]) (w1 := [(qh, .inr (3, [.int mco, .long md, .long mw, .int mfo, .ref qf, .ref qm, .ref qk, .int mmy, .ref qn, .ref qo, .ref qi, .ref qx, .int mpr, .int mgn, .ref qg, .int mli, .ref ql, .long ma, .long mb, .long mc]))]) hP hD [0] [1] rfl rfl (by decide) (by decide) hk1 hFc hP1 hD1
  generalize H1 = H at hP hS ⊢
  have hP : va_P (dC, dI) vwCl [(qo, .inl (uo, 4096, .inl Bo)), (qh, .inr (3, [.int mco, .long md, .long mw, .int mfo, .ref qf, .ref qm, .ref qk, .int mmy, .ref qn, .ref qo, .ref qi, .ref qx, .int mpr, .int mgn, .ref qg, .int mli, .ref ql, .long ma, .long mb, .long mc]))] H := hP
  have hD : va_D A [(qo, .inl (uo, 4096, .inl Bo)), (qh, .inr (3, [.int mco, .long md, .long mw, .int mfo, .ref qf, .ref qm, .ref qk, .int mmy, .ref qn, .ref qo, .ref qi, .ref qx, .int mpr, .int mgn, .ref qg, .int mli, .ref ql, .long ma, .long mb, .long mc]))] := hD
  obtain ⟨kJ14, ekJ14, hf⟩ := bnd_ex hf
  have hJ14 : ∀ (t_2 : Int32) (H : Heap) (locs : List Loc) (ls : Array Slot), kJ14 t_2 = some out → va_P (dC, dI) vwCl [(qh, .inr (3, [.int mco, .long md, .long mw, .int mfo, .ref qf, .ref qm, .ref qk, .int mmy, .ref qn, .ref qo, .ref qi, .ref qx, .int mpr, .int mgn, .ref qg, .int mli, .ref ql, .long ma, .long mb, .long mc])), (qo, .inl (uo, 4096, .inl Bo))] H → va_D A [(qh, .inr (3, [.int mco, .long md, .long mw, .int mfo, .ref qf, .ref qm, .ref qk, .int mmy, .ref qn, .ref qo, .ref qi, .ref qx, .int mpr, .int mgn, .ref qg, .int mli, .ref ql, .long ma, .long mb, .long mc])), (qo, .inl (uo, 4096, .inl Bo))] → va_S A s.heap H locs → lv_has ls 2 [(0, .ref qh), (1, .int x1)] → W p l e ((headSpec wsX3_order ({ frames := 2, cells := 0, slots := 0, locals := 46 })).room) s m ([.ref qh, .int x1] : List Value).toArray below meth c H locs 0 0 (MQ below (va_Qi (fun (r : Int32) (u : Int32) => (r, u) = out) (fun (u_mco : Int32) t => va_P (dC, dI) vwCl [(qh, .inr (3, [.int u_mco, .long md, .long mw, .int mfo, .ref qf, .ref qm, .ref qk, .int mmy, .ref qn, .ref qo, .ref qi, .ref qx, .int mpr, .int mgn, .ref qg, .int mli, .ref ql, .long ma, .long mb, .long mc])), (qo, .inl (uo, 4096, .inl Bo))] t.heap ∧ va_K (dC, dI) vwCl [(uo, .int)] t ∧ va_D A [(qh, .inr (3, [.int u_mco, .long md, .long mw, .int mfo, .ref qf, .ref qm, .ref qk, .int mmy, .ref qn, .ref qo, .ref qi, .ref qx, .int mpr, .int mgn, .ref qg, .int mli, .ref ql, .long ma, .long mb, .long mc])), (qo, .inl (uo, 4096, .inl Bo))]) A) ([.ref qh, .int x1] : List Value).toArray s 0 0 A) (F0 m 14 ls [.int t_2, .ref qh]) := by
    intro t_2 H locs ls hf hP hD hS hl
    rw [ekJ14] at hf
    refine va_put (D := (dC, dI)) (ci := 3) (v := .int t_2) (ty := .int) (C := "ClassGroupModel") (T := TX3) (N := 20) hx hb hts (fun w h => List.mem_cons_of_mem _ (iwX3 w h)) tyX3 tyokX3 nmX3 hown hK hP hD hS 0 rfl rfl 0 (by decide) (hts _ (List.mem_cons_of_mem _ kw_507)) (fun _ h9 => h9) rfl (by decide +kernel) rfl rfl (Nat.le_of_ble_eq_true rfl) dX3_order_14 (fun H locs hP hD hS => ?_)
    have hP : va_P (dC, dI) vwCl [(qh, .inr (3, [.int t_2, .long md, .long mw, .int mfo, .ref qf, .ref qm, .ref qk, .int mmy, .ref qn, .ref qo, .ref qi, .ref qx, .int mpr, .int mgn, .ref qg, .int mli, .ref ql, .long ma, .long mb, .long mc])), (qo, .inl (uo, 4096, .inl Bo))] H := hP
    have hD : va_D A [(qh, .inr (3, [.int t_2, .long md, .long mw, .int mfo, .ref qf, .ref qm, .ref qk, .int mmy, .ref qn, .ref qo, .ref qi, .ref qx, .int mpr, .int mgn, .ref qg, .int mli, .ref ql, .long ma, .long mb, .long mc])), (qo, .inl (uo, 4096, .inl Bo))] := hD
    refine lv_aload_n hx hb dX3_order_17 rfl (lv_at hl 0 rfl) ?_
    refine va_get (D := (dC, dI)) (ci := 3) (v := .int t_2) (C := "ClassGroupModel") (T := TX3) (N := 20) hx hb hts (fun w h => List.mem_cons_of_mem _ (iwX3 w h)) hown hK hP 0 rfl rfl 0 (by decide) (hts _ (List.mem_cons_of_mem _ kw_507)) (fun _ h9 => h9) rfl dX3_order_18 ?_
    refine lv_if_le (tgt := 28) hx hb dX3_order_21 (by decide) (fun c_21 => ?_) (fun c_21 => ?_)
    · have hf := ok_t c_21 hf
      refine lv_aload_n hx hb dX3_order_28 rfl (lv_at hl 0 rfl) ?_
      refine va_get (D := (dC, dI)) (ci := 3) (v := .ref qo) (C := "ClassGroupModel") (T := TX3) (N := 20) hx hb hts (fun w h => List.mem_cons_of_mem _ (iwX3 w h)) hown hK hP 0 rfl rfl 9 (by decide) (hts _ (List.mem_cons_of_mem _ kw_516)) (fun _ h9 => h9) rfl dX3_order_29 ?_
      refine lv_iload_n hx hb dX3_order_32 rfl (lv_at hl 1 rfl) ?_
      obtain ⟨g_33, hf⟩ := ok_g hf
      refine va_iald hx hb hK hP 1 0 rfl rfl g_33 dX3_order_33 ?_
      have hP9 := hP.sub (ws' := [(qh, .inr (3, [.int t_2, .long md, .long mw, .int mfo, .ref qf, .ref qm, .ref qk, .int mmy, .ref qn, .ref qo, .ref qi, .ref qx, .int mpr, .int mgn, .ref qg, .int mli, .ref ql, .long ma, .long mb, .long mc])), (qo, .inl (uo, 4096, .inl Bo))]) [0, 1] rfl
      have hD9 := hD.sub (ws' := [(qh, .inr (3, [.int t_2, .long md, .long mw, .int mfo, .ref qf, .ref qm, .ref qk, .int mmy, .ref qn, .ref qo, .ref qi, .ref qx, .int mpr, .int mgn, .ref qg, .int mli, .ref ql, .long ma, .long mb, .long mc])), (qo, .inl (uo, 4096, .inl Bo))]) [0, 1] (by decide) rfl
      have hK9 := hK.sub (tys' := [(uo, .int)]) [0] rfl
      exact W.iret (v := (Bo (x1).toNatClampNeg)) hx hb hr (fun t ht hW => ⟨⟨(Bo (x1).toNatClampNeg), t_2, rfl, (Option.some.inj hf), by rw [ht]; exact hP9, va_K.moved hW.alike hK9, hD9⟩, hS.F ht⟩) hS.2.2 dX3_order_34
    · have hf := ok_f c_21 hf
      refine lv_iconst (v := 0) hx hb dX3_order_24 (by decide) ?_
      refine lv_goto (tgt := 34) hx hb dX3_order_25 (by decide) ?_
      have hP9 := hP.sub (ws' := [(qh, .inr (3, [.int t_2, .long md, .long mw, .int mfo, .ref qf, .ref qm, .ref qk, .int mmy, .ref qn, .ref qo, .ref qi, .ref qx, .int mpr, .int mgn, .ref qg, .int mli, .ref ql, .long ma, .long mb, .long mc])), (qo, .inl (uo, 4096, .inl Bo))]) [0, 1] rfl
      have hD9 := hD.sub (ws' := [(qh, .inr (3, [.int t_2, .long md, .long mw, .int mfo, .ref qf, .ref qm, .ref qk, .int mmy, .ref qn, .ref qo, .ref qi, .ref qx, .int mpr, .int mgn, .ref qg, .int mli, .ref ql, .long ma, .long mb, .long mc])), (qo, .inl (uo, 4096, .inl Bo))]) [0, 1] (by decide) rfl
      have hK9 := hK.sub (tys' := [(uo, .int)]) [0] rfl
      exact W.iret (v := 0) hx hb hr (fun t ht hW => ⟨⟨0, t_2, rfl, (Option.some.inj hf), by rw [ht]; exact hP9, va_K.moved hW.alike hK9, hD9⟩, hS.F ht⟩) hS.2.2 dX3_order_34
  refine lv_if_eq (tgt := 13) hx hb dX3_order_6 (by decide) (fun c_6 => ?_) (fun c_6 => ?_)
  · have hf := ok_t c_6 hf
    refine lv_iconst (v := 1) hx hb dX3_order_13 (by decide) ?_
    exact hJ14 1 _ _ _ hf (hP.sub [1, 0] rfl) (hD.sub [1, 0] (by decide) rfl) hS (lv_sub hl [0, 1] rfl)
  · have hf := ok_f c_6 hf
    refine lv_iconst (v := 0) hx hb dX3_order_9 (by decide) ?_
    refine lv_goto (tgt := 14) hx hb dX3_order_10 (by decide) ?_
    exact hJ14 0 _ _ _ hf (hP.sub [1, 0] rfl) (hD.sub [1, 0] (by decide) rfl) hS (lv_sub hl [0, 1] rfl)

def f_m_generator (F : Nat) (mgn : Int32) (Bg : Nat → Int32) (x1 : Int32) : Option (Int32 × Int32) := Option.bind (f_m_in F ((x1).toInt64) 0 (((mgn - 1)).toInt64)) (fun r_1 => bnd (fun (t_2 : Int32) => ((if t_2 ≤ 0 then (if vin x1 8 then some ((Bg (x1).toNatClampNeg), t_2) else none) else some (0, t_2)) : Option (Int32 × Int32))) (fun kJ22 => (if r_1 = 0 then kJ22 1 else kJ22 0)))
set_option maxHeartbeats 4000000 in
set_option maxRecDepth 100000 in
theorem c_m_generator (l : Launch) (dC : Nat → ClassId) (dI : Nat → Nat → Nat) (qh : Nat) (mco : Int32) (md : Int64) (mw : Int64) (mfo : Int32) (qf : Nat) (qm : Nat) (qk : Nat) (mmy : Int32) (qn : Nat) (qo : Nat) (qi : Nat) (qx : Nat) (mpr : Int32) (mgn : Int32) (qg : Nat) (mli : Int32) (ql : Nat) (ma : Int64) (mb : Int64) (mc : Int64) (ug : ClassId) (Bg : Nat → Int32) (x1 : Int32) (sz : Nat) (F : Nat) (out : Int32 × Int32) (hf : f_m_generator F mgn Bg x1 = some out) : Met l yX3_generator wsX3_generator ({ frames := 1, cells := 0, slots := 0, locals := 25 }) (va_Pc [.ref qh, .int x1] (fun U => U.heap.size = sz ∧ va_P (dC, dI) vwCl [(qh, .inr (3, [.int mco, .long md, .long mw, .int mfo, .ref qf, .ref qm, .ref qk, .int mmy, .ref qn, .ref qo, .ref qi, .ref qx, .int mpr, .int mgn, .ref qg, .int mli, .ref ql, .long ma, .long mb, .long mc])), (qg, .inl (ug, 8, .inl Bg))] U.heap ∧ va_K (dC, dI) vwCl [(ug, .int)] U ∧ va_D (fun _ => True) [(qh, .inr (3, [.int mco, .long md, .long mw, .int mfo, .ref qf, .ref qm, .ref qk, .int mmy, .ref qn, .ref qo, .ref qi, .ref qx, .int mpr, .int mgn, .ref qg, .int mli, .ref ql, .long ma, .long mb, .long mc])), (qg, .inl (ug, 8, .inl Bg))])) (va_Qi (fun (r : Int32) (u : Int32) => (r, u) = out) (fun (u_mco : Int32) t => va_P (dC, dI) vwCl [(qh, .inr (3, [.int u_mco, .long md, .long mw, .int mfo, .ref qf, .ref qm, .ref qk, .int mmy, .ref qn, .ref qo, .ref qi, .ref qx, .int mpr, .int mgn, .ref qg, .int mli, .ref ql, .long ma, .long mb, .long mc])), (qg, .inl (ug, 8, .inl Bg))] t.heap ∧ va_K (dC, dI) vwCl [(ug, .int)] t ∧ va_D (va_A [(qh, .inr (3, [.int mco, .long md, .long mw, .int mfo, .ref qf, .ref qm, .ref qk, .int mmy, .ref qn, .ref qo, .ref qi, .ref qx, .int mpr, .int mgn, .ref qg, .int mli, .ref ql, .long ma, .long mb, .long mc])), (qg, .inl (ug, 8, .inl Bg))] sz) [(qh, .inr (3, [.int u_mco, .long md, .long mw, .int mfo, .ref qf, .ref qm, .ref qk, .int mmy, .ref qn, .ref qo, .ref qi, .ref qx, .int mpr, .int mgn, .ref qg, .int mli, .ref ql, .long ma, .long mb, .long mc])), (qg, .inl (ug, 8, .inl Bg))]) (va_A [(qh, .inr (3, [.int mco, .long md, .long mw, .int mfo, .ref qf, .ref qm, .ref qk, .int mmy, .ref qn, .ref qo, .ref qi, .ref qx, .int mpr, .int mgn, .ref qg, .int mli, .ref ql, .long ma, .long mb, .long mc])), (qg, .inl (ug, 8, .inl Bg))] sz)) 0 0 (va_A [(qh, .inr (3, [.int mco, .long md, .long mw, .int mfo, .ref qf, .ref qm, .ref qk, .int mmy, .ref qn, .ref qo, .ref qi, .ref qx, .int mpr, .int mgn, .ref qg, .int mli, .ref ql, .long ma, .long mb, .long mc])), (qg, .inl (ug, 8, .inl Bg))] sz) := by
  refine Met.ofW (cc := cX3_generator) (maxL := 2) (ret := (some .int)) (by decide +kernel) rfl ?_
  intro p e s m args below meth c s₁ B hml hv
  obtain ⟨rfl, hsz, hP, hK, hD0⟩ := hv
  have hx := B.exec
  have hb := B.bytes
  have hr := B.returns
  have hts := atoms_spec (ws := wsX3_generator) B.pre
  have hown : s.vm.findClass "ClassGroupModel" = some m.cls := findClass_of_methodNamed B.named
  have hlocks := B.notSynchronized
  subst hsz
  have hD := hD0.self (sz := s.heap.size)
  generalize hAe : va_A [(qh, .inr (3, [.int mco, .long md, .long mw, .int mfo, .ref qf, .ref qm, .ref qk, .int mmy, .ref qn, .ref qo, .ref qi, .ref qx, .int mpr, .int mgn, .ref qg, .int mli, .ref ql, .long ma, .long mb, .long mc])), (qg, .inl (ug, 8, .inl Bg))] s.heap.size = A at hD ⊢
  have hA : ∀ q : Nat, s.heap.size ≤ q → A q := fun q h => by rw [← hAe]; exact Or.inr h
  have hS : va_S A s.heap s.heap [] := va_S.rf
  have hl := lv_entry ([.ref qh, .int x1]) (n := 2) (Nat.le_of_ble_eq_true rfl)
  rw [lg_entry_eq]
  generalize (lg_sl ([.ref qh, .int x1]) ++ List.replicate (2 - (lg_sl ([.ref qh, .int x1])).length) Slot.unset).toArray = ls at hl ⊢
  have hl : lv_has ls 2 [(0, .ref qh), (1, .int x1)] := hl
  unfold f_m_generator at hf
  refine lv_aload_n hx hb dX3_generator_0 rfl (lv_at hl 0 rfl) ?_
  refine lv_iload_n hx hb dX3_generator_1 rfl (lv_at hl 1 rfl) ?_
  refine lv_i2l (v := (x1).toInt64) hx hb dX3_generator_2 rfl ?_
  refine lv_lconst (v := 0) hx hb dX3_generator_3 (by decide) ?_
  refine lv_aload_n hx hb dX3_generator_4 rfl (lv_at hl 0 rfl) ?_
  refine va_get (D := (dC, dI)) (ci := 3) (v := .int mgn) (C := "ClassGroupModel") (T := TX3) (N := 20) hx hb hts (fun w h => List.mem_cons_of_mem _ (iwX3 w h)) hown hK hP 0 rfl rfl 13 (by decide) (hts _ (List.mem_cons_of_mem _ kw_520)) (fun _ h9 => h9) rfl dX3_generator_5 ?_
  refine lv_iconst (v := 1) hx hb dX3_generator_8 (by decide) ?_
  refine lv_isub hx hb dX3_generator_9 ?_
  refine lv_i2l (v := ((mgn - 1)).toInt64) hx hb dX3_generator_10 rfl ?_
  obtain ⟨xc11, hc11, hf⟩ := ok_b hf
  have hPc := hP.sub (ws' := []) [] rfl
  have hDc := hD.sub (ws' := []) [] (by decide) rfl
  have hKc := hK.sub (tys' := []) [] rfl
  have hFc := va_free (wc := []) hD hS hA [] rfl
  refine va_calli (va_runS (As := [.long (x1).toInt64, .long 0, .long ((mgn - 1)).toInt64]) (rest := [.ref qh]) ⟨hx, hb, hml, hown, hts⟩ (c_m_in l dC dI ((x1).toInt64) 0 (((mgn - 1)).toInt64) s.heap.size F xc11 hc11) (va_cwS 3 hts (gwS kw_579 kw_580 kw_5 kw_581) rfl rfl rfl (by decide +kernel) ⟨Nat.le_of_ble_eq_true rfl, Nat.le_of_ble_eq_true rfl⟩) ⟨fun a U g mk q => by obtain ⟨q0, q1, qP, qK, qD⟩ := q; exact ⟨q0, q1, qP, va_K.moved (u := U) (U := U.calling g mk a) (Vm.Alike.refl U.vm) qK, qD⟩, fun U hU hW => ⟨rfl, by rw [hU], by rw [hU]; exact hPc, va_K.moved hW.alike hKc, hDc.weaken (fun _ _ _ _ => trivial)⟩⟩ rfl rfl hl.1 rfl (lv_room (Nat.le_of_ble_eq_true rfl)) dX3_generator_11 ⟨Nat.zero_le _, Nat.zero_le _⟩) hS (fun q _ h => hFc q h) hFc (fun r_1 u t H1 locs ht hvm hw hB hz1 hk1 hS => ?_)
  obtain ⟨⟩ := u
  obtain ⟨hP1, hK1, hD1⟩ := hB
  rw [ht] at hP1
  subst hw
  obtain ⟨hP, hD⟩ := va_join (wr := [(qh, .inr (3, [.int mco, .long md, .long mw, .int mfo, .ref qf, .ref qm, .ref qk, .int mmy, .ref qn, .ref qo, .ref qi, .ref qx, .int mpr, .int mgn, .ref qg, .int mli, .ref ql, .long ma, .long mb, .long mc])), (qg, .inl (ug, 8, .inl Bg))]) (w1 := []) hP hD [] [0, 1] rfl rfl (by decide) (by decide) hk1 hFc hP1 hD1
  generalize H1 = H at hP hS ⊢
  have hP : va_P (dC, dI) vwCl [(qh, .inr (3, [.int mco, .long md, .long mw, .int mfo, .ref qf, .ref qm, .ref qk, .int mmy, .ref qn, .ref qo, .ref qi, .ref qx, .int mpr, .int mgn, .ref qg, .int mli, .ref ql, .long ma, .long mb, .long mc])), (qg, .inl (ug, 8, .inl Bg))] H := hP
  have hD : va_D A [(qh, .inr (3, [.int mco, .long md, .long mw, .int mfo, .ref qf, .ref qm, .ref qk, .int mmy, .ref qn, .ref qo, .ref qi, .ref qx, .int mpr, .int mgn, .ref qg, .int mli, .ref ql, .long ma, .long mb, .long mc])), (qg, .inl (ug, 8, .inl Bg))] := hD
  obtain ⟨kJ22, ekJ22, hf⟩ := bnd_ex hf
  have hJ22 : ∀ (t_2 : Int32) (H : Heap) (locs : List Loc) (ls : Array Slot), kJ22 t_2 = some out → va_P (dC, dI) vwCl [(qh, .inr (3, [.int mco, .long md, .long mw, .int mfo, .ref qf, .ref qm, .ref qk, .int mmy, .ref qn, .ref qo, .ref qi, .ref qx, .int mpr, .int mgn, .ref qg, .int mli, .ref ql, .long ma, .long mb, .long mc])), (qg, .inl (ug, 8, .inl Bg))] H → va_D A [(qh, .inr (3, [.int mco, .long md, .long mw, .int mfo, .ref qf, .ref qm, .ref qk, .int mmy, .ref qn, .ref qo, .ref qi, .ref qx, .int mpr, .int mgn, .ref qg, .int mli, .ref ql, .long ma, .long mb, .long mc])), (qg, .inl (ug, 8, .inl Bg))] → va_S A s.heap H locs → lv_has ls 2 [(0, .ref qh), (1, .int x1)] → W p l e ((headSpec wsX3_generator ({ frames := 1, cells := 0, slots := 0, locals := 25 })).room) s m ([.ref qh, .int x1] : List Value).toArray below meth c H locs 0 0 (MQ below (va_Qi (fun (r : Int32) (u : Int32) => (r, u) = out) (fun (u_mco : Int32) t => va_P (dC, dI) vwCl [(qh, .inr (3, [.int u_mco, .long md, .long mw, .int mfo, .ref qf, .ref qm, .ref qk, .int mmy, .ref qn, .ref qo, .ref qi, .ref qx, .int mpr, .int mgn, .ref qg, .int mli, .ref ql, .long ma, .long mb, .long mc])), (qg, .inl (ug, 8, .inl Bg))] t.heap ∧ va_K (dC, dI) vwCl [(ug, .int)] t ∧ va_D A [(qh, .inr (3, [.int u_mco, .long md, .long mw, .int mfo, .ref qf, .ref qm, .ref qk, .int mmy, .ref qn, .ref qo, .ref qi, .ref qx, .int mpr, .int mgn, .ref qg, .int mli, .ref ql, .long ma, .long mb, .long mc])), (qg, .inl (ug, 8, .inl Bg))]) A) ([.ref qh, .int x1] : List Value).toArray s 0 0 A) (F0 m 22 ls [.int t_2, .ref qh]) := by
    intro t_2 H locs ls hf hP hD hS hl
    rw [ekJ22] at hf
    refine va_put (D := (dC, dI)) (ci := 3) (v := .int t_2) (ty := .int) (C := "ClassGroupModel") (T := TX3) (N := 20) hx hb hts (fun w h => List.mem_cons_of_mem _ (iwX3 w h)) tyX3 tyokX3 nmX3 hown hK hP hD hS 0 rfl rfl 0 (by decide) (hts _ (List.mem_cons_of_mem _ kw_507)) (fun _ h9 => h9) rfl (by decide +kernel) rfl rfl (Nat.le_of_ble_eq_true rfl) dX3_generator_22 (fun H locs hP hD hS => ?_)
    have hP : va_P (dC, dI) vwCl [(qh, .inr (3, [.int t_2, .long md, .long mw, .int mfo, .ref qf, .ref qm, .ref qk, .int mmy, .ref qn, .ref qo, .ref qi, .ref qx, .int mpr, .int mgn, .ref qg, .int mli, .ref ql, .long ma, .long mb, .long mc])), (qg, .inl (ug, 8, .inl Bg))] H := hP
    have hD : va_D A [(qh, .inr (3, [.int t_2, .long md, .long mw, .int mfo, .ref qf, .ref qm, .ref qk, .int mmy, .ref qn, .ref qo, .ref qi, .ref qx, .int mpr, .int mgn, .ref qg, .int mli, .ref ql, .long ma, .long mb, .long mc])), (qg, .inl (ug, 8, .inl Bg))] := hD
    refine lv_aload_n hx hb dX3_generator_25 rfl (lv_at hl 0 rfl) ?_
    refine va_get (D := (dC, dI)) (ci := 3) (v := .int t_2) (C := "ClassGroupModel") (T := TX3) (N := 20) hx hb hts (fun w h => List.mem_cons_of_mem _ (iwX3 w h)) hown hK hP 0 rfl rfl 0 (by decide) (hts _ (List.mem_cons_of_mem _ kw_507)) (fun _ h9 => h9) rfl dX3_generator_26 ?_
    refine lv_if_le (tgt := 36) hx hb dX3_generator_29 (by decide) (fun c_29 => ?_) (fun c_29 => ?_)
    · have hf := ok_t c_29 hf
      refine lv_aload_n hx hb dX3_generator_36 rfl (lv_at hl 0 rfl) ?_
      refine va_get (D := (dC, dI)) (ci := 3) (v := .ref qg) (C := "ClassGroupModel") (T := TX3) (N := 20) hx hb hts (fun w h => List.mem_cons_of_mem _ (iwX3 w h)) hown hK hP 0 rfl rfl 14 (by decide) (hts _ (List.mem_cons_of_mem _ kw_521)) (fun _ h9 => h9) rfl dX3_generator_37 ?_
      refine lv_iload_n hx hb dX3_generator_40 rfl (lv_at hl 1 rfl) ?_
      obtain ⟨g_41, hf⟩ := ok_g hf
      refine va_iald hx hb hK hP 1 0 rfl rfl g_41 dX3_generator_41 ?_
      have hP9 := hP.sub (ws' := [(qh, .inr (3, [.int t_2, .long md, .long mw, .int mfo, .ref qf, .ref qm, .ref qk, .int mmy, .ref qn, .ref qo, .ref qi, .ref qx, .int mpr, .int mgn, .ref qg, .int mli, .ref ql, .long ma, .long mb, .long mc])), (qg, .inl (ug, 8, .inl Bg))]) [0, 1] rfl
      have hD9 := hD.sub (ws' := [(qh, .inr (3, [.int t_2, .long md, .long mw, .int mfo, .ref qf, .ref qm, .ref qk, .int mmy, .ref qn, .ref qo, .ref qi, .ref qx, .int mpr, .int mgn, .ref qg, .int mli, .ref ql, .long ma, .long mb, .long mc])), (qg, .inl (ug, 8, .inl Bg))]) [0, 1] (by decide) rfl
      have hK9 := hK.sub (tys' := [(ug, .int)]) [0] rfl
      exact W.iret (v := (Bg (x1).toNatClampNeg)) hx hb hr (fun t ht hW => ⟨⟨(Bg (x1).toNatClampNeg), t_2, rfl, (Option.some.inj hf), by rw [ht]; exact hP9, va_K.moved hW.alike hK9, hD9⟩, hS.F ht⟩) hS.2.2 dX3_generator_42
    · have hf := ok_f c_29 hf
      refine lv_iconst (v := 0) hx hb dX3_generator_32 (by decide) ?_
      refine lv_goto (tgt := 42) hx hb dX3_generator_33 (by decide) ?_
      have hP9 := hP.sub (ws' := [(qh, .inr (3, [.int t_2, .long md, .long mw, .int mfo, .ref qf, .ref qm, .ref qk, .int mmy, .ref qn, .ref qo, .ref qi, .ref qx, .int mpr, .int mgn, .ref qg, .int mli, .ref ql, .long ma, .long mb, .long mc])), (qg, .inl (ug, 8, .inl Bg))]) [0, 1] rfl
      have hD9 := hD.sub (ws' := [(qh, .inr (3, [.int t_2, .long md, .long mw, .int mfo, .ref qf, .ref qm, .ref qk, .int mmy, .ref qn, .ref qo, .ref qi, .ref qx, .int mpr, .int mgn, .ref qg, .int mli, .ref ql, .long ma, .long mb, .long mc])), (qg, .inl (ug, 8, .inl Bg))]) [0, 1] (by decide) rfl
      have hK9 := hK.sub (tys' := [(ug, .int)]) [0] rfl
      exact W.iret (v := 0) hx hb hr (fun t ht hW => ⟨⟨0, t_2, rfl, (Option.some.inj hf), by rw [ht]; exact hP9, va_K.moved hW.alike hK9, hD9⟩, hS.F ht⟩) hS.2.2 dX3_generator_42
  refine lv_if_eq (tgt := 21) hx hb dX3_generator_14 (by decide) (fun c_14 => ?_) (fun c_14 => ?_)
  · have hf := ok_t c_14 hf
    refine lv_iconst (v := 1) hx hb dX3_generator_21 (by decide) ?_
    exact hJ22 1 _ _ _ hf (hP.sub [0, 1] rfl) (hD.sub [0, 1] (by decide) rfl) hS (lv_sub hl [0, 1] rfl)
  · have hf := ok_f c_14 hf
    refine lv_iconst (v := 0) hx hb dX3_generator_17 (by decide) ?_
    refine lv_goto (tgt := 22) hx hb dX3_generator_18 (by decide) ?_
    exact hJ22 0 _ _ _ hf (hP.sub [0, 1] rfl) (hD.sub [0, 1] (by decide) rfl) hS (lv_sub hl [0, 1] rfl)

def f_m_exponent (F : Nat) (mmy : Int32) (mgn : Int32) (Bx : Nat → Int32) (x1 : Int32) (x2 : Int32) : Option (Int32 × Int32) := Option.bind (f_m_isClass F mmy x1) (fun r_1 => bnd (fun (t_2 : Int32) => ((if t_2 ≤ 0 then (if vin ((8 * x1) + x2) 32768 then some ((Bx (((8 * x1) + x2)).toNatClampNeg), t_2) else none) else some (0, t_2)) : Option (Int32 × Int32))) (fun kJ30 => (if r_1 = 0 then kJ30 1 else Option.bind (f_m_in F ((x2).toInt64) 0 (((mgn - 1)).toInt64)) (fun r_3 => (if r_3 = 0 then kJ30 1 else kJ30 0)))))
set_option maxHeartbeats 4000000 in
set_option maxRecDepth 100000 in
theorem c_m_exponent (l : Launch) (dC : Nat → ClassId) (dI : Nat → Nat → Nat) (qh : Nat) (mco : Int32) (md : Int64) (mw : Int64) (mfo : Int32) (qf : Nat) (qm : Nat) (qk : Nat) (mmy : Int32) (qn : Nat) (qo : Nat) (qi : Nat) (qx : Nat) (mpr : Int32) (mgn : Int32) (qg : Nat) (mli : Int32) (ql : Nat) (ma : Int64) (mb : Int64) (mc : Int64) (ux : ClassId) (Bx : Nat → Int32) (x1 : Int32) (x2 : Int32) (sz : Nat) (F : Nat) (out : Int32 × Int32) (hf : f_m_exponent F mmy mgn Bx x1 x2 = some out) : Met l yX3_exponent wsX3_exponent ({ frames := 2, cells := 0, slots := 0, locals := 46 }) (va_Pc [.ref qh, .int x1, .int x2] (fun U => U.heap.size = sz ∧ va_P (dC, dI) vwCl [(qh, .inr (3, [.int mco, .long md, .long mw, .int mfo, .ref qf, .ref qm, .ref qk, .int mmy, .ref qn, .ref qo, .ref qi, .ref qx, .int mpr, .int mgn, .ref qg, .int mli, .ref ql, .long ma, .long mb, .long mc])), (qx, .inl (ux, 32768, .inl Bx))] U.heap ∧ va_K (dC, dI) vwCl [(ux, .int)] U ∧ va_D (fun _ => True) [(qh, .inr (3, [.int mco, .long md, .long mw, .int mfo, .ref qf, .ref qm, .ref qk, .int mmy, .ref qn, .ref qo, .ref qi, .ref qx, .int mpr, .int mgn, .ref qg, .int mli, .ref ql, .long ma, .long mb, .long mc])), (qx, .inl (ux, 32768, .inl Bx))])) (va_Qi (fun (r : Int32) (u : Int32) => (r, u) = out) (fun (u_mco : Int32) t => va_P (dC, dI) vwCl [(qh, .inr (3, [.int u_mco, .long md, .long mw, .int mfo, .ref qf, .ref qm, .ref qk, .int mmy, .ref qn, .ref qo, .ref qi, .ref qx, .int mpr, .int mgn, .ref qg, .int mli, .ref ql, .long ma, .long mb, .long mc])), (qx, .inl (ux, 32768, .inl Bx))] t.heap ∧ va_K (dC, dI) vwCl [(ux, .int)] t ∧ va_D (va_A [(qh, .inr (3, [.int mco, .long md, .long mw, .int mfo, .ref qf, .ref qm, .ref qk, .int mmy, .ref qn, .ref qo, .ref qi, .ref qx, .int mpr, .int mgn, .ref qg, .int mli, .ref ql, .long ma, .long mb, .long mc])), (qx, .inl (ux, 32768, .inl Bx))] sz) [(qh, .inr (3, [.int u_mco, .long md, .long mw, .int mfo, .ref qf, .ref qm, .ref qk, .int mmy, .ref qn, .ref qo, .ref qi, .ref qx, .int mpr, .int mgn, .ref qg, .int mli, .ref ql, .long ma, .long mb, .long mc])), (qx, .inl (ux, 32768, .inl Bx))]) (va_A [(qh, .inr (3, [.int mco, .long md, .long mw, .int mfo, .ref qf, .ref qm, .ref qk, .int mmy, .ref qn, .ref qo, .ref qi, .ref qx, .int mpr, .int mgn, .ref qg, .int mli, .ref ql, .long ma, .long mb, .long mc])), (qx, .inl (ux, 32768, .inl Bx))] sz)) 0 0 (va_A [(qh, .inr (3, [.int mco, .long md, .long mw, .int mfo, .ref qf, .ref qm, .ref qk, .int mmy, .ref qn, .ref qo, .ref qi, .ref qx, .int mpr, .int mgn, .ref qg, .int mli, .ref ql, .long ma, .long mb, .long mc])), (qx, .inl (ux, 32768, .inl Bx))] sz) := by
  refine Met.ofW (cc := cX3_exponent) (maxL := 3) (ret := (some .int)) (by decide +kernel) rfl ?_
  intro p e s m args below meth c s₁ B hml hv
  obtain ⟨rfl, hsz, hP, hK, hD0⟩ := hv
  have hx := B.exec
  have hb := B.bytes
  have hr := B.returns
  have hts := atoms_spec (ws := wsX3_exponent) B.pre
  have hown : s.vm.findClass "ClassGroupModel" = some m.cls := findClass_of_methodNamed B.named
  have hlocks := B.notSynchronized
  subst hsz
  have hD := hD0.self (sz := s.heap.size)
  generalize hAe : va_A [(qh, .inr (3, [.int mco, .long md, .long mw, .int mfo, .ref qf, .ref qm, .ref qk, .int mmy, .ref qn, .ref qo, .ref qi, .ref qx, .int mpr, .int mgn, .ref qg, .int mli, .ref ql, .long ma, .long mb, .long mc])), (qx, .inl (ux, 32768, .inl Bx))] s.heap.size = A at hD ⊢
  have hA : ∀ q : Nat, s.heap.size ≤ q → A q := fun q h => by rw [← hAe]; exact Or.inr h
  have hS : va_S A s.heap s.heap [] := va_S.rf
  have hl := lv_entry ([.ref qh, .int x1, .int x2]) (n := 3) (Nat.le_of_ble_eq_true rfl)
  rw [lg_entry_eq]
  generalize (lg_sl ([.ref qh, .int x1, .int x2]) ++ List.replicate (3 - (lg_sl ([.ref qh, .int x1, .int x2])).length) Slot.unset).toArray = ls at hl ⊢
  have hl : lv_has ls 3 [(0, .ref qh), (1, .int x1), (2, .int x2)] := hl
  unfold f_m_exponent at hf
  refine lv_aload_n hx hb dX3_exponent_0 rfl (lv_at hl 0 rfl) ?_
  refine lv_aload_n hx hb dX3_exponent_1 rfl (lv_at hl 0 rfl) ?_
  refine lv_iload_n hx hb dX3_exponent_2 rfl (lv_at hl 1 rfl) ?_
  obtain ⟨xc3, hc3, hf⟩ := ok_b hf
  have hPc := hP.sub (ws' := [(qh, .inr (3, [.int mco, .long md, .long mw, .int mfo, .ref qf, .ref qm, .ref qk, .int mmy, .ref qn, .ref qo, .ref qi, .ref qx, .int mpr, .int mgn, .ref qg, .int mli, .ref ql, .long ma, .long mb, .long mc]))]) [0] rfl
  have hDc := hD.sub (ws' := [(qh, .inr (3, [.int mco, .long md, .long mw, .int mfo, .ref qf, .ref qm, .ref qk, .int mmy, .ref qn, .ref qo, .ref qi, .ref qx, .int mpr, .int mgn, .ref qg, .int mli, .ref ql, .long ma, .long mb, .long mc]))]) [0] (by decide) rfl
  have hKc := hK.sub (tys' := []) [] rfl
  have hFc := va_free (wc := [(qh, .inr (3, [.int mco, .long md, .long mw, .int mfo, .ref qf, .ref qm, .ref qk, .int mmy, .ref qn, .ref qo, .ref qi, .ref qx, .int mpr, .int mgn, .ref qg, .int mli, .ref ql, .long ma, .long mb, .long mc]))]) hD hS hA [0] rfl
  refine va_calli (va_runV (As := [.int x1]) (rest := [.ref qh]) ⟨hx, hb, hml, hown, hts⟩ (c_m_isClass l dC dI qh mco md mw mfo qf qm qk mmy qn qo qi qx mpr mgn qg mli ql ma mb mc x1 s.heap.size F xc3 hc3) (cwV 1 hts (gwV kw_590 kw_592 ks_41 kw_5 kw_593) rfl rfl rfl (by decide +kernel) ⟨Nat.le_of_ble_eq_true rfl, Nat.le_of_ble_eq_true rfl⟩) ⟨fun a U g mk q => by obtain ⟨q0, q1, qP, qK, qD⟩ := q; exact ⟨q0, q1, qP, va_K.moved (u := U) (U := U.calling g mk a) (Vm.Alike.refl U.vm) qK, qD⟩, va_recv hKc hPc (ci := 3) (q0 := 0) rfl rfl, fun U hU hW => ⟨rfl, by rw [hU], by rw [hU]; exact hPc, va_K.moved hW.alike hKc, hDc.weaken (fun _ _ _ _ => trivial)⟩⟩ rfl rfl hl.1 rfl (lv_room (Nat.le_of_ble_eq_true rfl)) dX3_exponent_3 ⟨Nat.zero_le _, Nat.zero_le _⟩) hS (fun q _ h => hFc q h) hFc (fun r_1 u t H1 locs ht hvm hw hB hz1 hk1 hS => ?_)
  obtain ⟨⟩ := u
  obtain ⟨hP1, hK1, hD1⟩ := hB
  rw [ht] at hP1
  subst hw
  obtain ⟨hP, hD⟩ := va_join (wr := [(qx, .inl (ux, 32768, .inl Bx))]) (w1 := [(qh, .inr (3, [.int mco, .long md, .long mw, .int mfo, .ref qf, .ref qm, .ref qk, .int mmy, .ref qn, .ref qo, .ref qi, .ref qx, .int mpr, .int mgn, .ref qg, .int mli, .ref ql, .long ma, .long mb, .long mc]))]) hP hD [0] [1] rfl rfl (by decide) (by decide) hk1 hFc hP1 hD1
  generalize H1 = H at hP hS ⊢
  have hP : va_P (dC, dI) vwCl [(qx, .inl (ux, 32768, .inl Bx)), (qh, .inr (3, [.int mco, .long md, .long mw, .int mfo, .ref qf, .ref qm, .ref qk, .int mmy, .ref qn, .ref qo, .ref qi, .ref qx, .int mpr, .int mgn, .ref qg, .int mli, .ref ql, .long ma, .long mb, .long mc]))] H := hP
  have hD : va_D A [(qx, .inl (ux, 32768, .inl Bx)), (qh, .inr (3, [.int mco, .long md, .long mw, .int mfo, .ref qf, .ref qm, .ref qk, .int mmy, .ref qn, .ref qo, .ref qi, .ref qx, .int mpr, .int mgn, .ref qg, .int mli, .ref ql, .long ma, .long mb, .long mc]))] := hD
  obtain ⟨kJ30, ekJ30, hf⟩ := bnd_ex hf
  have hJ30 : ∀ (t_2 : Int32) (H : Heap) (locs : List Loc) (ls : Array Slot), kJ30 t_2 = some out → va_P (dC, dI) vwCl [(qh, .inr (3, [.int mco, .long md, .long mw, .int mfo, .ref qf, .ref qm, .ref qk, .int mmy, .ref qn, .ref qo, .ref qi, .ref qx, .int mpr, .int mgn, .ref qg, .int mli, .ref ql, .long ma, .long mb, .long mc])), (qx, .inl (ux, 32768, .inl Bx))] H → va_D A [(qh, .inr (3, [.int mco, .long md, .long mw, .int mfo, .ref qf, .ref qm, .ref qk, .int mmy, .ref qn, .ref qo, .ref qi, .ref qx, .int mpr, .int mgn, .ref qg, .int mli, .ref ql, .long ma, .long mb, .long mc])), (qx, .inl (ux, 32768, .inl Bx))] → va_S A s.heap H locs → lv_has ls 3 [(0, .ref qh), (1, .int x1), (2, .int x2)] → W p l e ((headSpec wsX3_exponent ({ frames := 2, cells := 0, slots := 0, locals := 46 })).room) s m ([.ref qh, .int x1, .int x2] : List Value).toArray below meth c H locs 0 0 (MQ below (va_Qi (fun (r : Int32) (u : Int32) => (r, u) = out) (fun (u_mco : Int32) t => va_P (dC, dI) vwCl [(qh, .inr (3, [.int u_mco, .long md, .long mw, .int mfo, .ref qf, .ref qm, .ref qk, .int mmy, .ref qn, .ref qo, .ref qi, .ref qx, .int mpr, .int mgn, .ref qg, .int mli, .ref ql, .long ma, .long mb, .long mc])), (qx, .inl (ux, 32768, .inl Bx))] t.heap ∧ va_K (dC, dI) vwCl [(ux, .int)] t ∧ va_D A [(qh, .inr (3, [.int u_mco, .long md, .long mw, .int mfo, .ref qf, .ref qm, .ref qk, .int mmy, .ref qn, .ref qo, .ref qi, .ref qx, .int mpr, .int mgn, .ref qg, .int mli, .ref ql, .long ma, .long mb, .long mc])), (qx, .inl (ux, 32768, .inl Bx))]) A) ([.ref qh, .int x1, .int x2] : List Value).toArray s 0 0 A) (F0 m 30 ls [.int t_2, .ref qh]) := by
    intro t_2 H locs ls hf hP hD hS hl
    rw [ekJ30] at hf
    refine va_put (D := (dC, dI)) (ci := 3) (v := .int t_2) (ty := .int) (C := "ClassGroupModel") (T := TX3) (N := 20) hx hb hts (fun w h => List.mem_cons_of_mem _ (iwX3 w h)) tyX3 tyokX3 nmX3 hown hK hP hD hS 0 rfl rfl 0 (by decide) (hts _ (List.mem_cons_of_mem _ kw_507)) (fun _ h9 => h9) rfl (by decide +kernel) rfl rfl (Nat.le_of_ble_eq_true rfl) dX3_exponent_30 (fun H locs hP hD hS => ?_)
    have hP : va_P (dC, dI) vwCl [(qh, .inr (3, [.int t_2, .long md, .long mw, .int mfo, .ref qf, .ref qm, .ref qk, .int mmy, .ref qn, .ref qo, .ref qi, .ref qx, .int mpr, .int mgn, .ref qg, .int mli, .ref ql, .long ma, .long mb, .long mc])), (qx, .inl (ux, 32768, .inl Bx))] H := hP
    have hD : va_D A [(qh, .inr (3, [.int t_2, .long md, .long mw, .int mfo, .ref qf, .ref qm, .ref qk, .int mmy, .ref qn, .ref qo, .ref qi, .ref qx, .int mpr, .int mgn, .ref qg, .int mli, .ref ql, .long ma, .long mb, .long mc])), (qx, .inl (ux, 32768, .inl Bx))] := hD
    refine lv_aload_n hx hb dX3_exponent_33 rfl (lv_at hl 0 rfl) ?_
    refine va_get (D := (dC, dI)) (ci := 3) (v := .int t_2) (C := "ClassGroupModel") (T := TX3) (N := 20) hx hb hts (fun w h => List.mem_cons_of_mem _ (iwX3 w h)) hown hK hP 0 rfl rfl 0 (by decide) (hts _ (List.mem_cons_of_mem _ kw_507)) (fun _ h9 => h9) rfl dX3_exponent_34 ?_
    refine lv_if_le (tgt := 44) hx hb dX3_exponent_37 (by decide) (fun c_37 => ?_) (fun c_37 => ?_)
    · have hf := ok_t c_37 hf
      refine lv_aload_n hx hb dX3_exponent_44 rfl (lv_at hl 0 rfl) ?_
      refine va_get (D := (dC, dI)) (ci := 3) (v := .ref qx) (C := "ClassGroupModel") (T := TX3) (N := 20) hx hb hts (fun w h => List.mem_cons_of_mem _ (iwX3 w h)) hown hK hP 0 rfl rfl 11 (by decide) (hts _ (List.mem_cons_of_mem _ kw_518)) (fun _ h9 => h9) rfl dX3_exponent_45 ?_
      refine lv_bipush (v := 8) hx hb dX3_exponent_48 (by decide) ?_
      refine lv_iload_n hx hb dX3_exponent_50 rfl (lv_at hl 1 rfl) ?_
      refine lv_imul hx hb dX3_exponent_51 ?_
      refine lv_iload_n hx hb dX3_exponent_52 rfl (lv_at hl 2 rfl) ?_
      refine lv_iadd hx hb dX3_exponent_53 ?_
      obtain ⟨g_54, hf⟩ := ok_g hf
      refine va_iald hx hb hK hP 1 0 rfl rfl g_54 dX3_exponent_54 ?_
      have hP9 := hP.sub (ws' := [(qh, .inr (3, [.int t_2, .long md, .long mw, .int mfo, .ref qf, .ref qm, .ref qk, .int mmy, .ref qn, .ref qo, .ref qi, .ref qx, .int mpr, .int mgn, .ref qg, .int mli, .ref ql, .long ma, .long mb, .long mc])), (qx, .inl (ux, 32768, .inl Bx))]) [0, 1] rfl
      have hD9 := hD.sub (ws' := [(qh, .inr (3, [.int t_2, .long md, .long mw, .int mfo, .ref qf, .ref qm, .ref qk, .int mmy, .ref qn, .ref qo, .ref qi, .ref qx, .int mpr, .int mgn, .ref qg, .int mli, .ref ql, .long ma, .long mb, .long mc])), (qx, .inl (ux, 32768, .inl Bx))]) [0, 1] (by decide) rfl
      have hK9 := hK.sub (tys' := [(ux, .int)]) [0] rfl
      exact W.iret (v := (Bx (((8 * x1) + x2)).toNatClampNeg)) hx hb hr (fun t ht hW => ⟨⟨(Bx (((8 * x1) + x2)).toNatClampNeg), t_2, rfl, (Option.some.inj hf), by rw [ht]; exact hP9, va_K.moved hW.alike hK9, hD9⟩, hS.F ht⟩) hS.2.2 dX3_exponent_55
    · have hf := ok_f c_37 hf
      refine lv_iconst (v := 0) hx hb dX3_exponent_40 (by decide) ?_
      refine lv_goto (tgt := 55) hx hb dX3_exponent_41 (by decide) ?_
      have hP9 := hP.sub (ws' := [(qh, .inr (3, [.int t_2, .long md, .long mw, .int mfo, .ref qf, .ref qm, .ref qk, .int mmy, .ref qn, .ref qo, .ref qi, .ref qx, .int mpr, .int mgn, .ref qg, .int mli, .ref ql, .long ma, .long mb, .long mc])), (qx, .inl (ux, 32768, .inl Bx))]) [0, 1] rfl
      have hD9 := hD.sub (ws' := [(qh, .inr (3, [.int t_2, .long md, .long mw, .int mfo, .ref qf, .ref qm, .ref qk, .int mmy, .ref qn, .ref qo, .ref qi, .ref qx, .int mpr, .int mgn, .ref qg, .int mli, .ref ql, .long ma, .long mb, .long mc])), (qx, .inl (ux, 32768, .inl Bx))]) [0, 1] (by decide) rfl
      have hK9 := hK.sub (tys' := [(ux, .int)]) [0] rfl
      exact W.iret (v := 0) hx hb hr (fun t ht hW => ⟨⟨0, t_2, rfl, (Option.some.inj hf), by rw [ht]; exact hP9, va_K.moved hW.alike hK9, hD9⟩, hS.F ht⟩) hS.2.2 dX3_exponent_55
  refine lv_if_eq (tgt := 29) hx hb dX3_exponent_6 (by decide) (fun c_6 => ?_) (fun c_6 => ?_)
  · have hf := ok_t c_6 hf
    refine lv_iconst (v := 1) hx hb dX3_exponent_29 (by decide) ?_
    exact hJ30 1 _ _ _ hf (hP.sub [1, 0] rfl) (hD.sub [1, 0] (by decide) rfl) hS (lv_sub hl [0, 1, 2] rfl)
  · have hf := ok_f c_6 hf
    refine lv_iload_n hx hb dX3_exponent_9 rfl (lv_at hl 2 rfl) ?_
    refine lv_i2l (v := (x2).toInt64) hx hb dX3_exponent_10 rfl ?_
    refine lv_lconst (v := 0) hx hb dX3_exponent_11 (by decide) ?_
    refine lv_aload_n hx hb dX3_exponent_12 rfl (lv_at hl 0 rfl) ?_
    refine va_get (D := (dC, dI)) (ci := 3) (v := .int mgn) (C := "ClassGroupModel") (T := TX3) (N := 20) hx hb hts (fun w h => List.mem_cons_of_mem _ (iwX3 w h)) hown hK hP 1 rfl rfl 13 (by decide) (hts _ (List.mem_cons_of_mem _ kw_520)) (fun _ h9 => h9) rfl dX3_exponent_13 ?_
    refine lv_iconst (v := 1) hx hb dX3_exponent_16 (by decide) ?_
    refine lv_isub hx hb dX3_exponent_17 ?_
    refine lv_i2l (v := ((mgn - 1)).toInt64) hx hb dX3_exponent_18 rfl ?_
    obtain ⟨xc19, hc19, hf⟩ := ok_b hf
    have hPc := hP.sub (ws' := []) [] rfl
    have hDc := hD.sub (ws' := []) [] (by decide) rfl
    have hKc := hK.sub (tys' := []) [] rfl
    have hFc := va_free (wc := []) hD hS hA [] rfl
    refine va_calli (va_runS (As := [.long (x2).toInt64, .long 0, .long ((mgn - 1)).toInt64]) (rest := [.ref qh]) ⟨hx, hb, hml, hown, hts⟩ (c_m_in l dC dI ((x2).toInt64) 0 (((mgn - 1)).toInt64) H.size F xc19 hc19) (va_cwS 3 hts (gwS kw_579 kw_580 kw_5 kw_581) rfl rfl rfl (by decide +kernel) ⟨Nat.le_of_ble_eq_true rfl, Nat.le_of_ble_eq_true rfl⟩) ⟨fun a U g mk q => by obtain ⟨q0, q1, qP, qK, qD⟩ := q; exact ⟨q0, q1, qP, va_K.moved (u := U) (U := U.calling g mk a) (Vm.Alike.refl U.vm) qK, qD⟩, fun U hU hW => ⟨rfl, by rw [hU], by rw [hU]; exact hPc, va_K.moved hW.alike hKc, hDc.weaken (fun _ _ _ _ => trivial)⟩⟩ rfl rfl hl.1 rfl (lv_room (Nat.le_of_ble_eq_true rfl)) dX3_exponent_19 ⟨Nat.zero_le _, Nat.zero_le _⟩) hS (fun q _ h => hFc q h) hFc (fun r_3 u t H1 locs ht hvm hw hB hz1 hk1 hS => ?_)
    obtain ⟨⟩ := u
    obtain ⟨hP1, hK1, hD1⟩ := hB
    rw [ht] at hP1
    subst hw
    obtain ⟨hP, hD⟩ := va_join (wr := [(qx, .inl (ux, 32768, .inl Bx)), (qh, .inr (3, [.int mco, .long md, .long mw, .int mfo, .ref qf, .ref qm, .ref qk, .int mmy, .ref qn, .ref qo, .ref qi, .ref qx, .int mpr, .int mgn, .ref qg, .int mli, .ref ql, .long ma, .long mb, .long mc]))]) (w1 := []) hP hD [] [0, 1] rfl rfl (by decide) (by decide) hk1 hFc hP1 hD1
    generalize H1 = H at hP hS ⊢
    have hP : va_P (dC, dI) vwCl [(qx, .inl (ux, 32768, .inl Bx)), (qh, .inr (3, [.int mco, .long md, .long mw, .int mfo, .ref qf, .ref qm, .ref qk, .int mmy, .ref qn, .ref qo, .ref qi, .ref qx, .int mpr, .int mgn, .ref qg, .int mli, .ref ql, .long ma, .long mb, .long mc]))] H := hP
    have hD : va_D A [(qx, .inl (ux, 32768, .inl Bx)), (qh, .inr (3, [.int mco, .long md, .long mw, .int mfo, .ref qf, .ref qm, .ref qk, .int mmy, .ref qn, .ref qo, .ref qi, .ref qx, .int mpr, .int mgn, .ref qg, .int mli, .ref ql, .long ma, .long mb, .long mc]))] := hD
    refine lv_if_eq (tgt := 29) hx hb dX3_exponent_22 (by decide) (fun c_22 => ?_) (fun c_22 => ?_)
    · have hf := ok_t c_22 hf
      refine lv_iconst (v := 1) hx hb dX3_exponent_29 (by decide) ?_
      exact hJ30 1 _ _ _ hf (hP.sub [1, 0] rfl) (hD.sub [1, 0] (by decide) rfl) hS (lv_sub hl [0, 1, 2] rfl)
    · have hf := ok_f c_22 hf
      refine lv_iconst (v := 0) hx hb dX3_exponent_25 (by decide) ?_
      refine lv_goto (tgt := 30) hx hb dX3_exponent_26 (by decide) ?_
      exact hJ30 0 _ _ _ hf (hP.sub [1, 0] rfl) (hD.sub [1, 0] (by decide) rfl) hS (lv_sub hl [0, 1, 2] rfl)

