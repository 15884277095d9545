def f_m_list_L82 (F : Nat) (md : Int64) (mw : Int64) (w3_3 : Int64) : Nat → Int64 → Int32 → (Nat → Int32) → (Nat → Int32) → (Nat → Int32) → Int64 → Int64 → Int64 → Option (Int32 × (Nat → Int32) × (Nat → Int32) × (Nat → Int32) × Int64 × Int64 × Int64)
  | 0, _, _, _, _, _, _, _, _ => none
  | n82 + 1, w5_12, m_mfo_13, m_Bf_14, m_Bm_15, m_Bk_16, m_ma_17, m_mb_18, m_mc_19 => bnd (fun (t_20 : Int64) => ((if (0 : Int32) < (lg_cmp w5_12 t_20) then some (m_mfo_13, m_Bf_14, m_Bm_15, m_Bk_16, m_ma_17, m_mb_18, m_mc_19) else (if ¬ (4 * w3_3) = 0 then (if (lg_cmp (((w5_12 * w5_12) - md) - ((w5_12 * w5_12) - md) / (4 * w3_3) * (4 * w3_3)) 0) = 0 then Option.bind (f_m_be F md w3_3 w5_12) (fun (u_ma_21, u_mb_22, u_mc_23) => Option.bind (f_m_isRed F md mw u_ma_21 u_mb_22 u_mc_23) (fun r_24 => (if r_24 = 0 then bnd (w5_12 + 1) (fun v5_25 => f_m_list_L82 F md mw w3_3 n82 v5_25 m_mfo_13 m_Bf_14 m_Bm_15 m_Bk_16 u_ma_21 u_mb_22 u_mc_23) else Option.bind (f_m_common F u_ma_21 u_mb_22) (fun r_26 => Option.bind (f_m_common F r_26 u_mc_23) (fun r_27 => (if (lg_cmp r_27 1) = 0 then (if vin m_mfo_13 40960 then bnd (upd m_Bf_14 (m_mfo_13).toNatClampNeg ((w3_3).toInt32)) (fun A_28 => (if vin m_mfo_13 40960 then bnd (upd m_Bm_15 (m_mfo_13).toNatClampNeg ((w5_12).toInt32)) (fun A_29 => (if vin m_mfo_13 40960 then bnd (upd m_Bk_16 (m_mfo_13).toNatClampNeg (-1)) (fun A_30 => bnd (m_mfo_13 + 1) (fun f_forms_31 => bnd (w5_12 + 1) (fun v5_32 => f_m_list_L82 F md mw w3_3 n82 v5_32 f_forms_31 A_28 A_29 A_30 u_ma_21 u_mb_22 u_mc_23))) else none)) else none)) else none) else bnd (w5_12 + 1) (fun v5_33 => f_m_list_L82 F md mw w3_3 n82 v5_33 m_mfo_13 m_Bf_14 m_Bm_15 m_Bk_16 u_ma_21 u_mb_22 u_mc_23))))))) else bnd (w5_12 + 1) (fun v5_34 => f_m_list_L82 F md mw w3_3 n82 v5_34 m_mfo_13 m_Bf_14 m_Bm_15 m_Bk_16 m_ma_17 m_mb_18 m_mc_19)) else none)) : Option (Int32 × (Nat → Int32) × (Nat → Int32) × (Nat → Int32) × Int64 × Int64 × Int64))) (fun kJ101 => (if (0 : Int32) ≤ (lg_cmp md 0) then kJ101 mw else kJ101 w3_3))
def f_m_list_L50 (F : Nat) (md : Int64) (mw : Int64) (t_1 : Int64) : Nat → Int64 → Int32 → (Nat → Int32) → (Nat → Int32) → (Nat → Int32) → Int64 → Int64 → Int64 → Option (Int32 × (Nat → Int32) × (Nat → Int32) × (Nat → Int32) × Int64 × Int64 × Int64)
  | 0, _, _, _, _, _, _, _, _ => none
  | n50 + 1, w3_3, m_mfo_4, m_Bf_5, m_Bm_6, m_Bk_7, m_ma_8, m_mb_9, m_mc_10 => (if (0 : Int32) < (lg_cmp w3_3 t_1) then some (m_mfo_4, m_Bf_5, m_Bm_6, m_Bk_7, m_ma_8, m_mb_9, m_mc_10) else (if (lg_cmp w3_3 0) = 0 then bnd (w3_3 + 1) (fun v3_43 => f_m_list_L50 F md mw t_1 n50 v3_43 m_mfo_4 m_Bf_5 m_Bm_6 m_Bk_7 m_ma_8 m_mb_9 m_mc_10) else bnd (fun (t_11 : Int64) => (Option.bind (f_m_list_L82 F md mw w3_3 F t_11 m_mfo_4 m_Bf_5 m_Bm_6 m_Bk_7 m_ma_8 m_mb_9 m_mc_10) (fun (y_mfo_35, y_Bf_36, y_Bm_37, y_Bk_38, y_ma_39, y_mb_40, y_mc_41) => bnd (w3_3 + 1) (fun v3_42 => f_m_list_L50 F md mw t_1 n50 v3_42 y_mfo_35 y_Bf_36 y_Bm_37 y_Bk_38 y_ma_39 y_mb_40 y_mc_41)) : Option (Int32 × (Nat → Int32) × (Nat → Int32) × (Nat → Int32) × Int64 × Int64 × Int64))) (fun kJ80 => (if (0 : Int32) ≤ (lg_cmp md 0) then kJ80 1 else kJ80 (-w3_3)))))
def f_m_list (F : Nat) (md : Int64) (mw : Int64) (Bf : Nat → Int32) (Bm : Nat → Int32) (Bk : Nat → Int32) (ma : Int64) (mb : Int64) (mc : Int64) : Option (Int32 × (Nat → Int32) × (Nat → Int32) × (Nat → Int32) × Int64 × Int64 × Int64) := bnd (fun (t_1 : Int64) => (bnd (fun (t_2 : Int64) => (Option.bind (f_m_list_L50 F md mw t_1 F t_2 0 Bf Bm Bk ma mb mc) (fun (y_mfo_44, y_Bf_45, y_Bm_46, y_Bk_47, y_ma_48, y_mb_49, y_mc_50) => some (y_mfo_44, y_Bf_45, y_Bm_46, y_Bk_47, y_ma_48, y_mb_49, y_mc_50)) : Option (Int32 × (Nat → Int32) × (Nat → Int32) × (Nat → Int32) × Int64 × Int64 × Int64))) (fun kJ49 => (if (0 : Int32) ≤ (lg_cmp md 0) then kJ49 (-t_1) else kJ49 1)) : Option (Int32 × (Nat → Int32) × (Nat → Int32) × (Nat → Int32) × Int64 × Int64 × Int64))) (fun kJ33 => (if (0 : Int32) ≤ (lg_cmp md 0) then kJ33 mw else Option.bind (f_m_root F ((-md) / 3)) (fun r_51 => kJ33 r_51)))
set_option maxHeartbeats 4000000 in
set_option maxRecDepth 100000 in
theorem c_m_list (l : Launch) (dC : Nat → ClassId) (dI : Nat → Nat → Nat) (qh : Nat) (mco : Int32) (md : Int64) (mw : Int64) (mfo : Int32) (qf : Nat) (qm : Nat) (qk : Nat) (mmy : Int32) (qn : Nat) (qo : Nat) (qi : Nat) (qx : Nat) (mpr : Int32) (mgn : Int32) (qg : Nat) (mli : Int32) (ql : Nat) (ma : Int64) (mb : Int64) (mc : Int64) (uf : ClassId) (Bf : Nat → Int32) (um : ClassId) (Bm : Nat → Int32) (uk : ClassId) (Bk : Nat → Int32) (sz : Nat) (F : Nat) (out : Int32 × (Nat → Int32) × (Nat → Int32) × (Nat → Int32) × Int64 × Int64 × Int64) (hf : f_m_list F md mw Bf Bm Bk ma mb mc = some out) : Met l yX3_list wsX3_list ({ frames := 2, cells := 0, slots := 0, locals := 50 }) (va_Pc [.ref qh] (fun U => U.heap.size = sz ∧ va_P (dC, dI) vwCl [(qh, .inr (3, [.int mco, .long md, .long mw, .int mfo, .ref qf, .ref qm, .ref qk, .int mmy, .ref qn, .ref qo, .ref qi, .ref qx, .int mpr, .int mgn, .ref qg, .int mli, .ref ql, .long ma, .long mb, .long mc])), (qf, .inl (uf, 40960, .inl Bf)), (qm, .inl (um, 40960, .inl Bm)), (qk, .inl (uk, 40960, .inl Bk))] U.heap ∧ va_K (dC, dI) vwCl [(uf, .int), (um, .int), (uk, .int)] U ∧ va_D (fun _ => True) [(qh, .inr (3, [.int mco, .long md, .long mw, .int mfo, .ref qf, .ref qm, .ref qk, .int mmy, .ref qn, .ref qo, .ref qi, .ref qx, .int mpr, .int mgn, .ref qg, .int mli, .ref ql, .long ma, .long mb, .long mc])), (qf, .inl (uf, 40960, .inl Bf)), (qm, .inl (um, 40960, .inl Bm)), (qk, .inl (uk, 40960, .inl Bk))])) (va_Qv (fun (u : Int32 × (Nat → Int32) × (Nat → Int32) × (Nat → Int32) × Int64 × Int64 × Int64) => u = out) (fun (u : Int32 × (Nat → Int32) × (Nat → Int32) × (Nat → Int32) × Int64 × Int64 × Int64) t => match u with | (u_mfo, u_Bf, u_Bm, u_Bk, u_ma, u_mb, u_mc) => va_P (dC, dI) vwCl [(qh, .inr (3, [.int mco, .long md, .long mw, .int u_mfo, .ref qf, .ref qm, .ref qk, .int mmy, .ref qn, .ref qo, .ref qi, .ref qx, .int mpr, .int mgn, .ref qg, .int mli, .ref ql, .long u_ma, .long u_mb, .long u_mc])), (qf, .inl (uf, 40960, .inl u_Bf)), (qm, .inl (um, 40960, .inl u_Bm)), (qk, .inl (uk, 40960, .inl u_Bk))] t.heap ∧ va_K (dC, dI) vwCl [(uf, .int), (um, .int), (uk, .int)] t ∧ va_D (va_A [(qh, .inr (3, [.int mco, .long md, .long mw, .int mfo, .ref qf, .ref qm, .ref qk, .int mmy, .ref qn, .ref qo, .ref qi, .ref qx, .int mpr, .int mgn, .ref qg, .int mli, .ref ql, .long ma, .long mb, .long mc])), (qf, .inl (uf, 40960, .inl Bf)), (qm, .inl (um, 40960, .inl Bm)), (qk, .inl (uk, 40960, .inl Bk))] sz) [(qh, .inr (3, [.int mco, .long md, .long mw, .int u_mfo, .ref qf, .ref qm, .ref qk, .int mmy, .ref qn, .ref qo, .ref qi, .ref qx, .int mpr, .int mgn, .ref qg, .int mli, .ref ql, .long u_ma, .long u_mb, .long u_mc])), (qf, .inl (uf, 40960, .inl u_Bf)), (qm, .inl (um, 40960, .inl u_Bm)), (qk, .inl (uk, 40960, .inl u_Bk))]) (va_A [(qh, .inr (3, [.int mco, .long md, .long mw, .int mfo, .ref qf, .ref qm, .ref qk, .int mmy, .ref qn, .ref qo, .ref qi, .ref qx, .int mpr, .int mgn, .ref qg, .int mli, .ref ql, .long ma, .long mb, .long mc])), (qf, .inl (uf, 40960, .inl Bf)), (qm, .inl (um, 40960, .inl Bm)), (qk, .inl (uk, 40960, .inl Bk))] sz)) 0 0 (va_A [(qh, .inr (3, [.int mco, .long md, .long mw, .int mfo, .ref qf, .ref qm, .ref qk, .int mmy, .ref qn, .ref qo, .ref qi, .ref qx, .int mpr, .int mgn, .ref qg, .int mli, .ref ql, .long ma, .long mb, .long mc])), (qf, .inl (uf, 40960, .inl Bf)), (qm, .inl (um, 40960, .inl Bm)), (qk, .inl (uk, 40960, .inl Bk))] sz) := by
  refine Met.ofW (cc := cX3_list) (maxL := 7) (ret := none) (by decide +kernel) rfl ?_
  intro p e s m args below meth c s₁ B hml hv
  obtain ⟨rfl, hsz, hP, hK, hD0⟩ := hv
  have hx := B.exec
  have hb := B.bytes
  have hr := B.returns
  have hts := atoms_spec (ws := wsX3_list) B.pre
  have hown : s.vm.findClass "ClassGroupModel" = some m.cls := findClass_of_methodNamed B.named
  have hlocks := B.notSynchronized
  subst hsz
  have hD := hD0.self (sz := s.heap.size)
  generalize hAe : va_A [(qh, .inr (3, [.int mco, .long md, .long mw, .int mfo, .ref qf, .ref qm, .ref qk, .int mmy, .ref qn, .ref qo, .ref qi, .ref qx, .int mpr, .int mgn, .ref qg, .int mli, .ref ql, .long ma, .long mb, .long mc])), (qf, .inl (uf, 40960, .inl Bf)), (qm, .inl (um, 40960, .inl Bm)), (qk, .inl (uk, 40960, .inl Bk))] s.heap.size = A at hD ⊢
  have hA : ∀ q : Nat, s.heap.size ≤ q → A q := fun q h => by rw [← hAe]; exact Or.inr h
  have hS : va_S A s.heap s.heap [] := va_S.rf
  have hl := lv_entry ([.ref qh]) (n := 7) (Nat.le_of_ble_eq_true rfl)
  rw [lg_entry_eq]
  generalize (lg_sl ([.ref qh]) ++ List.replicate (7 - (lg_sl ([.ref qh])).length) Slot.unset).toArray = ls at hl ⊢
  have hl : lv_has ls 7 [(0, .ref qh)] := hl
  unfold f_m_list at hf
  refine lv_aload_n hx hb dX3_list_0 rfl (lv_at hl 0 rfl) ?_
  refine lv_iconst (v := 0) hx hb dX3_list_1 (by decide) ?_
  refine va_put (D := (dC, dI)) (ci := 3) (v := .int 0) (ty := .int) (C := "ClassGroupModel") (T := TX3) (N := 20) hx hb hts (fun w h => List.mem_cons_of_mem _ (iwX3 w h)) tyX3 tyokX3 nmX3 hown hK hP hD hS 0 rfl rfl 3 (by decide) (hts _ (List.mem_cons_of_mem _ kw_510)) (fun _ h9 => h9) rfl (by decide +kernel) rfl rfl (Nat.le_of_ble_eq_true rfl) dX3_list_2 (fun H locs hP hD hS => ?_)
  have hP : va_P (dC, dI) vwCl [(qh, .inr (3, [.int mco, .long md, .long mw, .int 0, .ref qf, .ref qm, .ref qk, .int mmy, .ref qn, .ref qo, .ref qi, .ref qx, .int mpr, .int mgn, .ref qg, .int mli, .ref ql, .long ma, .long mb, .long mc])), (qf, .inl (uf, 40960, .inl Bf)), (qm, .inl (um, 40960, .inl Bm)), (qk, .inl (uk, 40960, .inl Bk))] H := hP
  have hD : va_D A [(qh, .inr (3, [.int mco, .long md, .long mw, .int 0, .ref qf, .ref qm, .ref qk, .int mmy, .ref qn, .ref qo, .ref qi, .ref qx, .int mpr, .int mgn, .ref qg, .int mli, .ref ql, .long ma, .long mb, .long mc])), (qf, .inl (uf, 40960, .inl Bf)), (qm, .inl (um, 40960, .inl Bm)), (qk, .inl (uk, 40960, .inl Bk))] := hD
  refine lv_aload_n hx hb dX3_list_5 rfl (lv_at hl 0 rfl) ?_
  refine va_get (D := (dC, dI)) (ci := 3) (v := .long md) (C := "ClassGroupModel") (T := TX3) (N := 20) hx hb hts (fun w h => List.mem_cons_of_mem _ (iwX3 w h)) hown hK hP 0 rfl rfl 1 (by decide) (hts _ (List.mem_cons_of_mem _ kw_508)) (fun _ h9 => h9) rfl dX3_list_6 ?_
  refine lv_lconst (v := 0) hx hb dX3_list_9 (by decide) ?_
  refine W.lcmp hx hb dX3_list_10 ?_
  obtain ⟨kJ33, ekJ33, hf⟩ := bnd_ex hf
  have hJ33 : ∀ (t_1 : Int64) (H : Heap) (locs : List Loc) (ls : Array Slot), kJ33 t_1 = some out → va_P (dC, dI) vwCl [(qh, .inr (3, [.int mco, .long md, .long mw, .int 0, .ref qf, .ref qm, .ref qk, .int mmy, .ref qn, .ref qo, .ref qi, .ref qx, .int mpr, .int mgn, .ref qg, .int mli, .ref ql, .long ma, .long mb, .long mc])), (qf, .inl (uf, 40960, .inl Bf)), (qm, .inl (um, 40960, .inl Bm)), (qk, .inl (uk, 40960, .inl Bk))] H → va_D A [(qh, .inr (3, [.int mco, .long md, .long mw, .int 0, .ref qf, .ref qm, .ref qk, .int mmy, .ref qn, .ref qo, .ref qi, .ref qx, .int mpr, .int mgn, .ref qg, .int mli, .ref ql, .long ma, .long mb, .long mc])), (qf, .inl (uf, 40960, .inl Bf)), (qm, .inl (um, 40960, .inl Bm)), (qk, .inl (uk, 40960, .inl Bk))] → va_S A s.heap H locs → lv_has ls 7 [(0, .ref qh)] → W p l e ((headSpec wsX3_list ({ frames := 2, cells := 0, slots := 0, locals := 50 })).room) s m ([.ref qh] : List Value).toArray below meth c H locs 0 0 (MQ below (va_Qv (fun (u : Int32 × (Nat → Int32) × (Nat → Int32) × (Nat → Int32) × Int64 × Int64 × Int64) => u = out) (fun (u : Int32 × (Nat → Int32) × (Nat → Int32) × (Nat → Int32) × Int64 × Int64 × Int64) t => match u with | (u_mfo, u_Bf, u_Bm, u_Bk, u_ma, u_mb, u_mc) => va_P (dC, dI) vwCl [(qh, .inr (3, [.int mco, .long md, .long mw, .int u_mfo, .ref qf, .ref qm, .ref qk, .int mmy, .ref qn, .ref qo, .ref qi, .ref qx, .int mpr, .int mgn, .ref qg, .int mli, .ref ql, .long u_ma, .long u_mb, .long u_mc])), (qf, .inl (uf, 40960, .inl u_Bf)), (qm, .inl (um, 40960, .inl u_Bm)), (qk, .inl (uk, 40960, .inl u_Bk))] t.heap ∧ va_K (dC, dI) vwCl [(uf, .int), (um, .int), (uk, .int)] t ∧ va_D A [(qh, .inr (3, [.int mco, .long md, .long mw, .int u_mfo, .ref qf, .ref qm, .ref qk, .int mmy, .ref qn, .ref qo, .ref qi, .ref qx, .int mpr, .int mgn, .ref qg, .int mli, .ref ql, .long u_ma, .long u_mb, .long u_mc])), (qf, .inl (uf, 40960, .inl u_Bf)), (qm, .inl (um, 40960, .inl u_Bm)), (qk, .inl (uk, 40960, .inl u_Bk))]) A) ([.ref qh] : List Value).toArray s 0 0 A) (F0 m 33 ls [.long t_1]) := by
    intro t_1 H locs ls hf hP hD hS hl
    rw [ekJ33] at hf
    refine lv_lstore_n (lv' := [(1, .long t_1), (0, .ref qh)]) hx hb dX3_list_33 rfl hl (by decide) rfl (fun ls hl => ?_)
    refine lv_aload_n hx hb dX3_list_34 rfl (lv_at hl 1 rfl) ?_
    refine va_get (D := (dC, dI)) (ci := 3) (v := .long md) (C := "ClassGroupModel") (T := TX3) (N := 20) hx hb hts (fun w h => List.mem_cons_of_mem _ (iwX3 w h)) hown hK hP 0 rfl rfl 1 (by decide) (hts _ (List.mem_cons_of_mem _ kw_508)) (fun _ h9 => h9) rfl dX3_list_35 ?_
    refine lv_lconst (v := 0) hx hb dX3_list_38 (by decide) ?_
    refine W.lcmp hx hb dX3_list_39 ?_
    obtain ⟨kJ49, ekJ49, hf⟩ := bnd_ex hf
    have hJ49 : ∀ (t_2 : Int64) (H : Heap) (locs : List Loc) (ls : Array Slot), kJ49 t_2 = some out → va_P (dC, dI) vwCl [(qh, .inr (3, [.int mco, .long md, .long mw, .int 0, .ref qf, .ref qm, .ref qk, .int mmy, .ref qn, .ref qo, .ref qi, .ref qx, .int mpr, .int mgn, .ref qg, .int mli, .ref ql, .long ma, .long mb, .long mc])), (qf, .inl (uf, 40960, .inl Bf)), (qm, .inl (um, 40960, .inl Bm)), (qk, .inl (uk, 40960, .inl Bk))] H → va_D A [(qh, .inr (3, [.int mco, .long md, .long mw, .int 0, .ref qf, .ref qm, .ref qk, .int mmy, .ref qn, .ref qo, .ref qi, .ref qx, .int mpr, .int mgn, .ref qg, .int mli, .ref ql, .long ma, .long mb, .long mc])), (qf, .inl (uf, 40960, .inl Bf)), (qm, .inl (um, 40960, .inl Bm)), (qk, .inl (uk, 40960, .inl Bk))] → va_S A s.heap H locs → lv_has ls 7 [(0, .ref qh), (1, .long t_1)] → W p l e ((headSpec wsX3_list ({ frames := 2, cells := 0, slots := 0, locals := 50 })).room) s m ([.ref qh] : List Value).toArray below meth c H locs 0 0 (MQ below (va_Qv (fun (u : Int32 × (Nat → Int32) × (Nat → Int32) × (Nat → Int32) × Int64 × Int64 × Int64) => u = out) (fun (u : Int32 × (Nat → Int32) × (Nat → Int32) × (Nat → Int32) × Int64 × Int64 × Int64) t => match u with | (u_mfo, u_Bf, u_Bm, u_Bk, u_ma, u_mb, u_mc) => va_P (dC, dI) vwCl [(qh, .inr (3, [.int mco, .long md, .long mw, .int u_mfo, .ref qf, .ref qm, .ref qk, .int mmy, .ref qn, .ref qo, .ref qi, .ref qx, .int mpr, .int mgn, .ref qg, .int mli, .ref ql, .long u_ma, .long u_mb, .long u_mc])), (qf, .inl (uf, 40960, .inl u_Bf)), (qm, .inl (um, 40960, .inl u_Bm)), (qk, .inl (uk, 40960, .inl u_Bk))] t.heap ∧ va_K (dC, dI) vwCl [(uf, .int), (um, .int), (uk, .int)] t ∧ va_D A [(qh, .inr (3, [.int mco, .long md, .long mw, .int u_mfo, .ref qf, .ref qm, .ref qk, .int mmy, .ref qn, .ref qo, .ref qi, .ref qx, .int mpr, .int mgn, .ref qg, .int mli, .ref ql, .long u_ma, .long u_mb, .long u_mc])), (qf, .inl (uf, 40960, .inl u_Bf)), (qm, .inl (um, 40960, .inl u_Bm)), (qk, .inl (uk, 40960, .inl u_Bk))]) A) ([.ref qh] : List Value).toArray s 0 0 A) (F0 m 49 ls [.long t_2]) := by
      intro t_2 H locs ls hf hP hD hS hl
      rw [ekJ49] at hf
      refine lv_lstore_n (lv' := [(3, .long t_2), (0, .ref qh), (1, .long t_1)]) hx hb dX3_list_49 rfl hl (by decide) rfl (fun ls hl => ?_)
      have hL50 : ∀ (n50 : Nat) (w3_3 : Int64) (m_mfo_4 : Int32) (m_Bf_5 : Nat → Int32) (m_Bm_6 : Nat → Int32) (m_Bk_7 : Nat → Int32) (m_ma_8 : Int64) (m_mb_9 : Int64) (m_mc_10 : Int64) (res : Int32 × (Nat → Int32) × (Nat → Int32) × (Nat → Int32) × Int64 × Int64 × Int64) (H : Heap) (locs : List Loc) (ls : Array Slot) (Q : State → Prop), f_m_list_L50 F md mw t_1 n50 w3_3 m_mfo_4 m_Bf_5 m_Bm_6 m_Bk_7 m_ma_8 m_mb_9 m_mc_10 = some res → va_P (dC, dI) vwCl [(qh, .inr (3, [.int mco, .long md, .long mw, .int m_mfo_4, .ref qf, .ref qm, .ref qk, .int mmy, .ref qn, .ref qo, .ref qi, .ref qx, .int mpr, .int mgn, .ref qg, .int mli, .ref ql, .long m_ma_8, .long m_mb_9, .long m_mc_10])), (qf, .inl (uf, 40960, .inl m_Bf_5)), (qm, .inl (um, 40960, .inl m_Bm_6)), (qk, .inl (uk, 40960, .inl m_Bk_7))] H → va_D A [(qh, .inr (3, [.int mco, .long md, .long mw, .int m_mfo_4, .ref qf, .ref qm, .ref qk, .int mmy, .ref qn, .ref qo, .ref qi, .ref qx, .int mpr, .int mgn, .ref qg, .int mli, .ref ql, .long m_ma_8, .long m_mb_9, .long m_mc_10])), (qf, .inl (uf, 40960, .inl m_Bf_5)), (qm, .inl (um, 40960, .inl m_Bm_6)), (qk, .inl (uk, 40960, .inl m_Bk_7))] → va_S A s.heap H locs → lv_has ls 7 [(0, .ref qh), (1, .long t_1), (3, .long w3_3)] → (∀ (y_mfo_44 : Int32) (y_Bf_45 : Nat → Int32) (y_Bm_46 : Nat → Int32) (y_Bk_47 : Nat → Int32) (y_ma_48 : Int64) (y_mb_49 : Int64) (y_mc_50 : Int64) (H : Heap) (locs : List Loc) (ls : Array Slot), (y_mfo_44, y_Bf_45, y_Bm_46, y_Bk_47, y_ma_48, y_mb_49, y_mc_50) = res → va_P (dC, dI) vwCl [(qh, .inr (3, [.int mco, .long md, .long mw, .int y_mfo_44, .ref qf, .ref qm, .ref qk, .int mmy, .ref qn, .ref qo, .ref qi, .ref qx, .int mpr, .int mgn, .ref qg, .int mli, .ref ql, .long y_ma_48, .long y_mb_49, .long y_mc_50])), (qf, .inl (uf, 40960, .inl y_Bf_45)), (qm, .inl (um, 40960, .inl y_Bm_46)), (qk, .inl (uk, 40960, .inl y_Bk_47))] H → va_D A [(qh, .inr (3, [.int mco, .long md, .long mw, .int y_mfo_44, .ref qf, .ref qm, .ref qk, .int mmy, .ref qn, .ref qo, .ref qi, .ref qx, .int mpr, .int mgn, .ref qg, .int mli, .ref ql, .long y_ma_48, .long y_mb_49, .long y_mc_50])), (qf, .inl (uf, 40960, .inl y_Bf_45)), (qm, .inl (um, 40960, .inl y_Bm_46)), (qk, .inl (uk, 40960, .inl y_Bk_47))] → va_S A s.heap H locs → lv_has ls 7 [] → W p l e ((headSpec wsX3_list ({ frames := 2, cells := 0, slots := 0, locals := 50 })).room) s m ([.ref qh] : List Value).toArray below meth c H locs 0 0 Q (F0 m 228 ls [])) → W p l e ((headSpec wsX3_list ({ frames := 2, cells := 0, slots := 0, locals := 50 })).room) s m ([.ref qh] : List Value).toArray below meth c H locs 0 0 Q (F0 m 50 ls []) := by
        intro n50
        induction n50 with
        | zero => intro w3_3 m_mfo_4 m_Bf_5 m_Bm_6 m_Bk_7 m_ma_8 m_mb_9 m_mc_10 res H locs ls Q hf; simp [f_m_list_L50] at hf
        | succ n50 ih50 =>
          intro w3_3 m_mfo_4 m_Bf_5 m_Bm_6 m_Bk_7 m_ma_8 m_mb_9 m_mc_10 res H locs ls Q hf hP hD hS hl k50_0
          rw [f_m_list_L50] at hf
          refine lv_lload_n hx hb dX3_list_50 rfl (lv_at hl 2 rfl) ?_
          refine lv_lload_n hx hb dX3_list_51 rfl (lv_at hl 1 rfl) ?_
          refine W.lcmp hx hb dX3_list_52 ?_
          refine lv_if_gt (tgt := 228) hx hb dX3_list_53 (by decide) (fun c_53 => ?_) (fun c_53 => ?_)
          · have hf := ok_t c_53 hf
            exact k50_0 m_mfo_4 m_Bf_5 m_Bm_6 m_Bk_7 m_ma_8 m_mb_9 m_mc_10 _ _ _ (Option.some.inj hf) (hP.sub [0, 1, 2, 3] rfl) (hD.sub [0, 1, 2, 3] (by decide) rfl) hS (lv_sub hl [] rfl)
          · have hf := ok_f c_53 hf
            refine lv_lload_n hx hb dX3_list_56 rfl (lv_at hl 2 rfl) ?_
            refine lv_lconst (v := 0) hx hb dX3_list_57 (by decide) ?_
            refine W.lcmp hx hb dX3_list_58 ?_
            refine lv_if_ne (tgt := 65) hx hb dX3_list_59 (by decide) (fun c_59 => ?_) (fun c_59 => ?_)
            · have hf := ok_f c_59 hf
              refine lv_aload_n hx hb dX3_list_65 rfl (lv_at hl 0 rfl) ?_
              refine va_get (D := (dC, dI)) (ci := 3) (v := .long md) (C := "ClassGroupModel") (T := TX3) (N := 20) hx hb hts (fun w h => List.mem_cons_of_mem _ (iwX3 w h)) hown hK hP 0 rfl rfl 1 (by decide) (hts _ (List.mem_cons_of_mem _ kw_508)) (fun _ h9 => h9) rfl dX3_list_66 ?_
              refine lv_lconst (v := 0) hx hb dX3_list_69 (by decide) ?_
              refine W.lcmp hx hb dX3_list_70 ?_
              obtain ⟨kJ80, ekJ80, hf⟩ := bnd_ex hf
              have hJ80 : ∀ (t_11 : Int64) (H : Heap) (locs : List Loc) (ls : Array Slot), kJ80 t_11 = some res → va_P (dC, dI) vwCl [(qh, .inr (3, [.int mco, .long md, .long mw, .int m_mfo_4, .ref qf, .ref qm, .ref qk, .int mmy, .ref qn, .ref qo, .ref qi, .ref qx, .int mpr, .int mgn, .ref qg, .int mli, .ref ql, .long m_ma_8, .long m_mb_9, .long m_mc_10])), (qf, .inl (uf, 40960, .inl m_Bf_5)), (qm, .inl (um, 40960, .inl m_Bm_6)), (qk, .inl (uk, 40960, .inl m_Bk_7))] H → va_D A [(qh, .inr (3, [.int mco, .long md, .long mw, .int m_mfo_4, .ref qf, .ref qm, .ref qk, .int mmy, .ref qn, .ref qo, .ref qi, .ref qx, .int mpr, .int mgn, .ref qg, .int mli, .ref ql, .long m_ma_8, .long m_mb_9, .long m_mc_10])), (qf, .inl (uf, 40960, .inl m_Bf_5)), (qm, .inl (um, 40960, .inl m_Bm_6)), (qk, .inl (uk, 40960, .inl m_Bk_7))] → va_S A s.heap H locs → lv_has ls 7 [(0, .ref qh), (1, .long t_1), (3, .long w3_3)] → W p l e ((headSpec wsX3_list ({ frames := 2, cells := 0, slots := 0, locals := 50 })).room) s m ([.ref qh] : List Value).toArray below meth c H locs 0 0 Q (F0 m 80 ls [.long t_11]) := by
                intro t_11 H locs ls hf hP hD hS hl
                rw [ekJ80] at hf
                refine lv_lstore (lv' := [(5, .long t_11), (0, .ref qh), (1, .long t_1), (3, .long w3_3)]) hx hb dX3_list_80 hl (by decide) rfl (fun ls hl => ?_)
                have hL82 : ∀ (n82 : Nat) (w5_12 : Int64) (m_mfo_13 : Int32) (m_Bf_14 : Nat → Int32) (m_Bm_15 : Nat → Int32) (m_Bk_16 : Nat → Int32) (m_ma_17 : Int64) (m_mb_18 : Int64) (m_mc_19 : Int64) (res : Int32 × (Nat → Int32) × (Nat → Int32) × (Nat → Int32) × Int64 × Int64 × Int64) (H : Heap) (locs : List Loc) (ls : Array Slot) (Q : State → Prop), f_m_list_L82 F md mw w3_3 n82 w5_12 m_mfo_13 m_Bf_14 m_Bm_15 m_Bk_16 m_ma_17 m_mb_18 m_mc_19 = some res → va_P (dC, dI) vwCl [(qh, .inr (3, [.int mco, .long md, .long mw, .int m_mfo_13, .ref qf, .ref qm, .ref qk, .int mmy, .ref qn, .ref qo, .ref qi, .ref qx, .int mpr, .int mgn, .ref qg, .int mli, .ref ql, .long m_ma_17, .long m_mb_18, .long m_mc_19])), (qf, .inl (uf, 40960, .inl m_Bf_14)), (qm, .inl (um, 40960, .inl m_Bm_15)), (qk, .inl (uk, 40960, .inl m_Bk_16))] H → va_D A [(qh, .inr (3, [.int mco, .long md, .long mw, .int m_mfo_13, .ref qf, .ref qm, .ref qk, .int mmy, .ref qn, .ref qo, .ref qi, .ref qx, .int mpr, .int mgn, .ref qg, .int mli, .ref ql, .long m_ma_17, .long m_mb_18, .long m_mc_19])), (qf, .inl (uf, 40960, .inl m_Bf_14)), (qm, .inl (um, 40960, .inl m_Bm_15)), (qk, .inl (uk, 40960, .inl m_Bk_16))] → va_S A s.heap H locs → lv_has ls 7 [(0, .ref qh), (1, .long t_1), (3, .long w3_3), (5, .long w5_12)] → (∀ (y_mfo_35 : Int32) (y_Bf_36 : Nat → Int32) (y_Bm_37 : Nat → Int32) (y_Bk_38 : Nat → Int32) (y_ma_39 : Int64) (y_mb_40 : Int64) (y_mc_41 : Int64) (H : Heap) (locs : List Loc) (ls : Array Slot), (y_mfo_35, y_Bf_36, y_Bm_37, y_Bk_38, y_ma_39, y_mb_40, y_mc_41) = res → va_P (dC, dI) vwCl [(qh, .inr (3, [.int mco, .long md, .long mw, .int y_mfo_35, .ref qf, .ref qm, .ref qk, .int mmy, .ref qn, .ref qo, .ref qi, .ref qx, .int mpr, .int mgn, .ref qg, .int mli, .ref ql, .long y_ma_39, .long y_mb_40, .long y_mc_41])), (qf, .inl (uf, 40960, .inl y_Bf_36)), (qm, .inl (um, 40960, .inl y_Bm_37)), (qk, .inl (uk, 40960, .inl y_Bk_38))] H → va_D A [(qh, .inr (3, [.int mco, .long md, .long mw, .int y_mfo_35, .ref qf, .ref qm, .ref qk, .int mmy, .ref qn, .ref qo, .ref qi, .ref qx, .int mpr, .int mgn, .ref qg, .int mli, .ref ql, .long y_ma_39, .long y_mb_40, .long y_mc_41])), (qf, .inl (uf, 40960, .inl y_Bf_36)), (qm, .inl (um, 40960, .inl y_Bm_37)), (qk, .inl (uk, 40960, .inl y_Bk_38))] → va_S A s.heap H locs → lv_has ls 7 [(0, .ref qh), (1, .long t_1), (3, .long w3_3)] → W p l e ((headSpec wsX3_list ({ frames := 2, cells := 0, slots := 0, locals := 50 })).room) s m ([.ref qh] : List Value).toArray below meth c H locs 0 0 Q (F0 m 221 ls [])) → W p l e ((headSpec wsX3_list ({ frames := 2, cells := 0, slots := 0, locals := 50 })).room) s m ([.ref qh] : List Value).toArray below meth c H locs 0 0 Q (F0 m 82 ls []) := by
                  intro n82
                  induction n82 with
                  | zero => intro w5_12 m_mfo_13 m_Bf_14 m_Bm_15 m_Bk_16 m_ma_17 m_mb_18 m_mc_19 res H locs ls Q hf; simp [f_m_list_L82] at hf
                  | succ n82 ih82 =>
                    intro w5_12 m_mfo_13 m_Bf_14 m_Bm_15 m_Bk_16 m_ma_17 m_mb_18 m_mc_19 res H locs ls Q hf hP hD hS hl k82_0
                    rw [f_m_list_L82] at hf
                    refine lv_lload hx hb dX3_list_82 (lv_at hl 3 rfl) ?_
                    refine lv_aload_n hx hb dX3_list_84 rfl (lv_at hl 0 rfl) ?_
                    refine va_get (D := (dC, dI)) (ci := 3) (v := .long md) (C := "ClassGroupModel") (T := TX3) (N := 20) hx hb hts (fun w h => List.mem_cons_of_mem _ (iwX3 w h)) hown hK hP 0 rfl rfl 1 (by decide) (hts _ (List.mem_cons_of_mem _ kw_508)) (fun _ h9 => h9) rfl dX3_list_85 ?_
                    refine lv_lconst (v := 0) hx hb dX3_list_88 (by decide) ?_
                    refine W.lcmp hx hb dX3_list_89 ?_
                    obtain ⟨kJ101, ekJ101, hf⟩ := bnd_ex hf
                    have hJ101 : ∀ (t_20 : Int64) (H : Heap) (locs : List Loc) (ls : Array Slot), kJ101 t_20 = some res → va_P (dC, dI) vwCl [(qh, .inr (3, [.int mco, .long md, .long mw, .int m_mfo_13, .ref qf, .ref qm, .ref qk, .int mmy, .ref qn, .ref qo, .ref qi, .ref qx, .int mpr, .int mgn, .ref qg, .int mli, .ref ql, .long m_ma_17, .long m_mb_18, .long m_mc_19])), (qf, .inl (uf, 40960, .inl m_Bf_14)), (qm, .inl (um, 40960, .inl m_Bm_15)), (qk, .inl (uk, 40960, .inl m_Bk_16))] H → va_D A [(qh, .inr (3, [.int mco, .long md, .long mw, .int m_mfo_13, .ref qf, .ref qm, .ref qk, .int mmy, .ref qn, .ref qo, .ref qi, .ref qx, .int mpr, .int mgn, .ref qg, .int mli, .ref ql, .long m_ma_17, .long m_mb_18, .long m_mc_19])), (qf, .inl (uf, 40960, .inl m_Bf_14)), (qm, .inl (um, 40960, .inl m_Bm_15)), (qk, .inl (uk, 40960, .inl m_Bk_16))] → va_S A s.heap H locs → lv_has ls 7 [(0, .ref qh), (1, .long t_1), (3, .long w3_3), (5, .long w5_12)] → W p l e ((headSpec wsX3_list ({ frames := 2, cells := 0, slots := 0, locals := 50 })).room) s m ([.ref qh] : List Value).toArray below meth c H locs 0 0 Q (F0 m 101 ls [.long t_20, .long w5_12]) := by
                      intro t_20 H locs ls hf hP hD hS hl
                      rw [ekJ101] at hf
                      refine W.lcmp hx hb dX3_list_101 ?_
                      refine lv_if_gt (tgt := 221) hx hb dX3_list_102 (by decide) (fun c_102 => ?_) (fun c_102 => ?_)
                      · have hf := ok_t c_102 hf
                        exact k82_0 m_mfo_13 m_Bf_14 m_Bm_15 m_Bk_16 m_ma_17 m_mb_18 m_mc_19 _ _ _ (Option.some.inj hf) (hP.sub [0, 1, 2, 3] rfl) (hD.sub [0, 1, 2, 3] (by decide) rfl) hS (lv_sub hl [0, 1, 2] rfl)
                      · have hf := ok_f c_102 hf
                        refine lv_lload hx hb dX3_list_105 (lv_at hl 3 rfl) ?_
                        refine lv_lload hx hb dX3_list_107 (lv_at hl 3 rfl) ?_
                        refine lv_lmul hx hb dX3_list_109 ?_
                        refine lv_aload_n hx hb dX3_list_110 rfl (lv_at hl 0 rfl) ?_
                        refine va_get (D := (dC, dI)) (ci := 3) (v := .long md) (C := "ClassGroupModel") (T := TX3) (N := 20) hx hb hts (fun w h => List.mem_cons_of_mem _ (iwX3 w h)) hown hK hP 0 rfl rfl 1 (by decide) (hts _ (List.mem_cons_of_mem _ kw_508)) (fun _ h9 => h9) rfl dX3_list_111 ?_
                        refine lv_lsub hx hb dX3_list_114 ?_
                        refine lv_ldc2 (v := 4) hx hb hown (hts _ (List.mem_cons_of_mem _ kw_451)) dX3_list_115 ?_
                        refine lv_lload_n hx hb dX3_list_118 rfl (lv_at hl 2 rfl) ?_
                        refine lv_lmul hx hb dX3_list_119 ?_
                        obtain ⟨g_120, hf⟩ := ok_g hf
                        refine lv_lrem hx hb dX3_list_120 g_120 ?_
                        refine lv_lconst (v := 0) hx hb dX3_list_121 (by decide) ?_
                        refine W.lcmp hx hb dX3_list_122 ?_
                        refine lv_if_eq (tgt := 129) hx hb dX3_list_123 (by decide) (fun c_123 => ?_) (fun c_123 => ?_)
                        · have hf := ok_t c_123 hf
                          refine lv_aload_n hx hb dX3_list_129 rfl (lv_at hl 0 rfl) ?_
                          refine lv_lload_n hx hb dX3_list_130 rfl (lv_at hl 2 rfl) ?_
                          refine lv_lload hx hb dX3_list_131 (lv_at hl 3 rfl) ?_
                          obtain ⟨xc133, hc133, hf⟩ := ok_b hf
                          have hPc := hP.sub (ws' := [(qh, .inr (3, [.int mco, .long md, .long mw, .int m_mfo_13, .ref qf, .ref qm, .ref qk, .int mmy, .ref qn, .ref qo, .ref qi, .ref qx, .int mpr, .int mgn, .ref qg, .int mli, .ref ql, .long m_ma_17, .long m_mb_18, .long m_mc_19]))]) [0] rfl
                          have hDc := hD.sub (ws' := [(qh, .inr (3, [.int mco, .long md, .long mw, .int m_mfo_13, .ref qf, .ref qm, .ref qk, .int mmy, .ref qn, .ref qo, .ref qi, .ref qx, .int mpr, .int mgn, .ref qg, .int mli, .ref ql, .long m_ma_17, .long m_mb_18, .long m_mc_19]))]) [0] (by decide) rfl
                          have hKc := hK.sub (tys' := []) [] rfl
                          have hFc := va_free (wc := [(qh, .inr (3, [.int mco, .long md, .long mw, .int m_mfo_13, .ref qf, .ref qm, .ref qk, .int mmy, .ref qn, .ref qo, .ref qi, .ref qx, .int mpr, .int mgn, .ref qg, .int mli, .ref ql, .long m_ma_17, .long m_mb_18, .long m_mc_19]))]) hD hS hA [0] rfl
                          refine va_callv (va_runV (As := [.long w3_3, .long w5_12]) (rest := []) ⟨hx, hb, hml, hown, hts⟩ (c_m_be l dC dI qh mco md mw m_mfo_13 qf qm qk mmy qn qo qi qx mpr mgn qg mli ql m_ma_17 m_mb_18 m_mc_19 w3_3 w5_12 H.size F xc133 hc133) (cwV 2 hts (gwV kw_452 kw_454 ks_29 kw_5 kw_455) rfl rfl rfl (by decide +kernel) ⟨Nat.le_of_ble_eq_true rfl, Nat.le_of_ble_eq_true rfl⟩) ⟨fun a U g mk q => by obtain ⟨q0, q1, qP, qK, qD⟩ := q; exact ⟨q0, q1, qP, va_K.moved (u := U) (U := U.calling g mk a) (Vm.Alike.refl U.vm) qK, qD⟩, va_recv hKc hPc (ci := 3) (q0 := 0) rfl rfl, fun U hU hW => ⟨rfl, by rw [hU], by rw [hU]; exact hPc, va_K.moved hW.alike hKc, hDc.weaken (fun _ _ _ _ => trivial)⟩⟩ rfl rfl hl.1 rfl (lv_room (Nat.le_of_ble_eq_true rfl)) dX3_list_133 ⟨Nat.zero_le _, Nat.zero_le _⟩) hS (fun q _ h => hFc q h) hFc (fun u t H1 locs ht hvm hw hB hz1 hk1 hS => ?_)
                          obtain ⟨u_ma_21, u_mb_22, u_mc_23⟩ := u
                          obtain ⟨hP1, hK1, hD1⟩ := hB
                          rw [ht] at hP1
                          subst hw
                          obtain ⟨hP, hD⟩ := va_join (wr := [(qf, .inl (uf, 40960, .inl m_Bf_14)), (qm, .inl (um, 40960, .inl m_Bm_15)), (qk, .inl (uk, 40960, .inl m_Bk_16))]) (w1 := [(qh, .inr (3, [.int mco, .long md, .long mw, .int m_mfo_13, .ref qf, .ref qm, .ref qk, .int mmy, .ref qn, .ref qo, .ref qi, .ref qx, .int mpr, .int mgn, .ref qg, .int mli, .ref ql, .long u_ma_21, .long u_mb_22, .long u_mc_23]))]) hP hD [0] [1, 2, 3] rfl rfl (by decide) (by decide) hk1 hFc hP1 hD1
                          generalize H1 = H at hP hS ⊢
                          have hP : va_P (dC, dI) vwCl [(qf, .inl (uf, 40960, .inl m_Bf_14)), (qm, .inl (um, 40960, .inl m_Bm_15)), (qk, .inl (uk, 40960, .inl m_Bk_16)), (qh, .inr (3, [.int mco, .long md, .long mw, .int m_mfo_13, .ref qf, .ref qm, .ref qk, .int mmy, .ref qn, .ref qo, .ref qi, .ref qx, .int mpr, .int mgn, .ref qg, .int mli, .ref ql, .long u_ma_21, .long u_mb_22, .long u_mc_23]))] H := hP
                          have hD : va_D A [(qf, .inl (uf, 40960, .inl m_Bf_14)), (qm, .inl (um, 40960, .inl m_Bm_15)), (qk, .inl (uk, 40960, .inl m_Bk_16)), (qh, .inr (3, [.int mco, .long md, .long mw, .int m_mfo_13, .ref qf, .ref qm, .ref qk, .int mmy, .ref qn, .ref qo, .ref qi, .ref qx, .int mpr, .int mgn, .ref qg, .int mli, .ref ql, .long u_ma_21, .long u_mb_22, .long u_mc_23]))] := hD
                          refine lv_aload_n hx hb dX3_list_136 rfl (lv_at hl 0 rfl) ?_
                          obtain ⟨xc137, hc137, hf⟩ := ok_b hf
                          have hPc := hP.sub (ws' := [(qh, .inr (3, [.int mco, .long md, .long mw, .int m_mfo_13, .ref qf, .ref qm, .ref qk, .int mmy, .ref qn, .ref qo, .ref qi, .ref qx, .int mpr, .int mgn, .ref qg, .int mli, .ref ql, .long u_ma_21, .long u_mb_22, .long u_mc_23]))]) [3] rfl
                          have hDc := hD.sub (ws' := [(qh, .inr (3, [.int mco, .long md, .long mw, .int m_mfo_13, .ref qf, .ref qm, .ref qk, .int mmy, .ref qn, .ref qo, .ref qi, .ref qx, .int mpr, .int mgn, .ref qg, .int mli, .ref ql, .long u_ma_21, .long u_mb_22, .long u_mc_23]))]) [3] (by decide) rfl
                          have hKc := hK.sub (tys' := []) [] rfl
                          have hFc := va_free (wc := [(qh, .inr (3, [.int mco, .long md, .long mw, .int m_mfo_13, .ref qf, .ref qm, .ref qk, .int mmy, .ref qn, .ref qo, .ref qi, .ref qx, .int mpr, .int mgn, .ref qg, .int mli, .ref ql, .long u_ma_21, .long u_mb_22, .long u_mc_23]))]) hD hS hA [3] rfl
                          refine va_calli (va_runV (As := []) (rest := []) ⟨hx, hb, hml, hown, hts⟩ (c_m_isRed l dC dI qh mco md mw m_mfo_13 qf qm qk mmy qn qo qi qx mpr mgn qg mli ql u_ma_21 u_mb_22 u_mc_23 H.size F xc137 hc137) (cwV 0 hts (gwV kw_456 kw_458 ks_30 kw_5 kw_459) rfl rfl rfl (by decide +kernel) ⟨Nat.le_of_ble_eq_true rfl, Nat.le_of_ble_eq_true rfl⟩) ⟨fun a U g mk q => by obtain ⟨q0, q1, qP, qK, qD⟩ := q; exact ⟨q0, q1, qP, va_K.moved (u := U) (U := U.calling g mk a) (Vm.Alike.refl U.vm) qK, qD⟩, va_recv hKc hPc (ci := 3) (q0 := 0) rfl rfl, fun U hU hW => ⟨rfl, by rw [hU], by rw [hU]; exact hPc, va_K.moved hW.alike hKc, hDc.weaken (fun _ _ _ _ => trivial)⟩⟩ rfl rfl hl.1 rfl (lv_room (Nat.le_of_ble_eq_true rfl)) dX3_list_137 ⟨Nat.zero_le _, Nat.zero_le _⟩) hS (fun q _ h => hFc q h) hFc (fun r_24 u t H1 locs ht hvm hw hB hz1 hk1 hS => ?_)
                          obtain ⟨⟩ := u
                          obtain ⟨hP1, hK1, hD1⟩ := hB
                          rw [ht] at hP1
                          subst hw
                          obtain ⟨hP, hD⟩ := va_join (wr := [(qf, .inl (uf, 40960, .inl m_Bf_14)), (qm, .inl (um, 40960, .inl m_Bm_15)), (qk, .inl (uk, 40960, .inl m_Bk_16))]) (w1 := [(qh, .inr (3, [.int mco, .long md, .long mw, .int m_mfo_13, .ref qf, .ref qm, .ref qk, .int mmy, .ref qn, .ref qo, .ref qi, .ref qx, .int mpr, .int mgn, .ref qg, .int mli, .ref ql, .long u_ma_21, .long u_mb_22, .long u_mc_23]))]) hP hD [3] [0, 1, 2] rfl rfl (by decide) (by decide) hk1 hFc hP1 hD1
                          generalize H1 = H at hP hS ⊢
                          have hP : va_P (dC, dI) vwCl [(qf, .inl (uf, 40960, .inl m_Bf_14)), (qm, .inl (um, 40960, .inl m_Bm_15)), (qk, .inl (uk, 40960, .inl m_Bk_16)), (qh, .inr (3, [.int mco, .long md, .long mw, .int m_mfo_13, .ref qf, .ref qm, .ref qk, .int mmy, .ref qn, .ref qo, .ref qi, .ref qx, .int mpr, .int mgn, .ref qg, .int mli, .ref ql, .long u_ma_21, .long u_mb_22, .long u_mc_23]))] H := hP
                          have hD : va_D A [(qf, .inl (uf, 40960, .inl m_Bf_14)), (qm, .inl (um, 40960, .inl m_Bm_15)), (qk, .inl (uk, 40960, .inl m_Bk_16)), (qh, .inr (3, [.int mco, .long md, .long mw, .int m_mfo_13, .ref qf, .ref qm, .ref qk, .int mmy, .ref qn, .ref qo, .ref qi, .ref qx, .int mpr, .int mgn, .ref qg, .int mli, .ref ql, .long u_ma_21, .long u_mb_22, .long u_mc_23]))] := hD
                          refine lv_if_eq (tgt := 212) hx hb dX3_list_140 (by decide) (fun c_140 => ?_) (fun c_140 => ?_)
                          · have hf := ok_t c_140 hf
                            refine lv_lload hx hb dX3_list_212 (lv_at hl 3 rfl) ?_
                            refine lv_lconst (v := 1) hx hb dX3_list_214 (by decide) ?_
                            refine lv_ladd hx hb dX3_list_215 ?_
                            refine lv_topl (fun v5_25 ev5_25 => ?_)
                            replace hf := bnd_ok ev5_25 hf
                            refine lv_lstore (lv' := [(5, .long v5_25), (0, .ref qh), (1, .long t_1), (3, .long w3_3)]) hx hb dX3_list_216 hl (by decide) rfl (fun ls hl => ?_)
                            refine lv_goto (tgt := 82) hx hb dX3_list_218 (by decide) ?_
                            exact ih82 v5_25 m_mfo_13 m_Bf_14 m_Bm_15 m_Bk_16 u_ma_21 u_mb_22 u_mc_23 _ _ _ _ _ hf (hP.sub [3, 0, 1, 2] rfl) (hD.sub [3, 0, 1, 2] (by decide) rfl) hS (lv_sub hl [1, 2, 3, 0] rfl) k82_0
                          · have hf := ok_f c_140 hf
                            refine lv_aload_n hx hb dX3_list_143 rfl (lv_at hl 0 rfl) ?_
                            refine va_get (D := (dC, dI)) (ci := 3) (v := .long u_ma_21) (C := "ClassGroupModel") (T := TX3) (N := 20) hx hb hts (fun w h => List.mem_cons_of_mem _ (iwX3 w h)) hown hK hP 3 rfl rfl 17 (by decide) (hts _ (List.mem_cons_of_mem _ kw_524)) (fun _ h9 => h9) rfl dX3_list_144 ?_
                            refine lv_aload_n hx hb dX3_list_147 rfl (lv_at hl 0 rfl) ?_
                            refine va_get (D := (dC, dI)) (ci := 3) (v := .long u_mb_22) (C := "ClassGroupModel") (T := TX3) (N := 20) hx hb hts (fun w h => List.mem_cons_of_mem _ (iwX3 w h)) hown hK hP 3 rfl rfl 18 (by decide) (hts _ (List.mem_cons_of_mem _ kw_525)) (fun _ h9 => h9) rfl dX3_list_148 ?_
                            obtain ⟨xc151, hc151, hf⟩ := ok_b hf
                            have hPc := hP.sub (ws' := []) [] rfl
                            have hDc := hD.sub (ws' := []) [] (by decide) rfl
                            have hKc := hK.sub (tys' := []) [] rfl
                            have hFc := va_free (wc := []) hD hS hA [] rfl
                            refine va_calll (va_runS (As := [.long u_ma_21, .long u_mb_22]) (rest := []) ⟨hx, hb, hml, hown, hts⟩ (c_m_common l dC dI u_ma_21 u_mb_22 H.size F xc151 hc151) (va_cwS 2 hts (gwS kw_464 kw_465 kw_5 kw_466) rfl rfl rfl (by decide +kernel) ⟨Nat.le_of_ble_eq_true rfl, Nat.le_of_ble_eq_true rfl⟩) ⟨fun a U g mk q => by obtain ⟨q0, q1, qP, qK, qD⟩ := q; exact ⟨q0, q1, qP, va_K.moved (u := U) (U := U.calling g mk a) (Vm.Alike.refl U.vm) qK, qD⟩, fun U hU hW => ⟨rfl, by rw [hU], by rw [hU]; exact hPc, va_K.moved hW.alike hKc, hDc.weaken (fun _ _ _ _ => trivial)⟩⟩ rfl rfl hl.1 rfl (lv_room (Nat.le_of_ble_eq_true rfl)) dX3_list_151 ⟨Nat.zero_le _, Nat.zero_le _⟩) hS (fun q _ h => hFc q h) hFc (fun r_26 u t H1 locs ht hvm hw hB hz1 hk1 hS => ?_)
                            obtain ⟨⟩ := u
                            obtain ⟨hP1, hK1, hD1⟩ := hB
                            rw [ht] at hP1
                            subst hw
                            obtain ⟨hP, hD⟩ := va_join (wr := [(qf, .inl (uf, 40960, .inl m_Bf_14)), (qm, .inl (um, 40960, .inl m_Bm_15)), (qk, .inl (uk, 40960, .inl m_Bk_16)), (qh, .inr (3, [.int mco, .long md, .long mw, .int m_mfo_13, .ref qf, .ref qm, .ref qk, .int mmy, .ref qn, .ref qo, .ref qi, .ref qx, .int mpr, .int mgn, .ref qg, .int mli, .ref ql, .long u_ma_21, .long u_mb_22, .long u_mc_23]))]) (w1 := []) hP hD [] [0, 1, 2, 3] rfl rfl (by decide) (by decide) hk1 hFc hP1 hD1
                            generalize H1 = H at hP hS ⊢
                            have hP : va_P (dC, dI) vwCl [(qf, .inl (uf, 40960, .inl m_Bf_14)), (qm, .inl (um, 40960, .inl m_Bm_15)), (qk, .inl (uk, 40960, .inl m_Bk_16)), (qh, .inr (3, [.int mco, .long md, .long mw, .int m_mfo_13, .ref qf, .ref qm, .ref qk, .int mmy, .ref qn, .ref qo, .ref qi, .ref qx, .int mpr, .int mgn, .ref qg, .int mli, .ref ql, .long u_ma_21, .long u_mb_22, .long u_mc_23]))] H := hP
                            have hD : va_D A [(qf, .inl (uf, 40960, .inl m_Bf_14)), (qm, .inl (um, 40960, .inl m_Bm_15)), (qk, .inl (uk, 40960, .inl m_Bk_16)), (qh, .inr (3, [.int mco, .long md, .long mw, .int m_mfo_13, .ref qf, .ref qm, .ref qk, .int mmy, .ref qn, .ref qo, .ref qi, .ref qx, .int mpr, .int mgn, .ref qg, .int mli, .ref ql, .long u_ma_21, .long u_mb_22, .long u_mc_23]))] := hD
                            refine lv_aload_n hx hb dX3_list_154 rfl (lv_at hl 0 rfl) ?_
                            refine va_get (D := (dC, dI)) (ci := 3) (v := .long u_mc_23) (C := "ClassGroupModel") (T := TX3) (N := 20) hx hb hts (fun w h => List.mem_cons_of_mem _ (iwX3 w h)) hown hK hP 3 rfl rfl 19 (by decide) (hts _ (List.mem_cons_of_mem _ kw_526)) (fun _ h9 => h9) rfl dX3_list_155 ?_
                            obtain ⟨xc158, hc158, hf⟩ := ok_b hf
                            have hPc := hP.sub (ws' := []) [] rfl
                            have hDc := hD.sub (ws' := []) [] (by decide) rfl
                            have hKc := hK.sub (tys' := []) [] rfl
                            have hFc := va_free (wc := []) hD hS hA [] rfl
                            refine va_calll (va_runS (As := [.long r_26, .long u_mc_23]) (rest := []) ⟨hx, hb, hml, hown, hts⟩ (c_m_common l dC dI r_26 u_mc_23 H.size F xc158 hc158) (va_cwS 2 hts (gwS kw_464 kw_465 kw_5 kw_466) rfl rfl rfl (by decide +kernel) ⟨Nat.le_of_ble_eq_true rfl, Nat.le_of_ble_eq_true rfl⟩) ⟨fun a U g mk q => by obtain ⟨q0, q1, qP, qK, qD⟩ := q; exact ⟨q0, q1, qP, va_K.moved (u := U) (U := U.calling g mk a) (Vm.Alike.refl U.vm) qK, qD⟩, fun U hU hW => ⟨rfl, by rw [hU], by rw [hU]; exact hPc, va_K.moved hW.alike hKc, hDc.weaken (fun _ _ _ _ => trivial)⟩⟩ rfl rfl hl.1 rfl (lv_room (Nat.le_of_ble_eq_true rfl)) dX3_list_158 ⟨Nat.zero_le _, Nat.zero_le _⟩) hS (fun q _ h => hFc q h) hFc (fun r_27 u t H1 locs ht hvm hw hB hz1 hk1 hS => ?_)
                            obtain ⟨⟩ := u
                            obtain ⟨hP1, hK1, hD1⟩ := hB
                            rw [ht] at hP1
                            subst hw
                            obtain ⟨hP, hD⟩ := va_join (wr := [(qf, .inl (uf, 40960, .inl m_Bf_14)), (qm, .inl (um, 40960, .inl m_Bm_15)), (qk, .inl (uk, 40960, .inl m_Bk_16)), (qh, .inr (3, [.int mco, .long md, .long mw, .int m_mfo_13, .ref qf, .ref qm, .ref qk, .int mmy, .ref qn, .ref qo, .ref qi, .ref qx, .int mpr, .int mgn, .ref qg, .int mli, .ref ql, .long u_ma_21, .long u_mb_22, .long u_mc_23]))]) (w1 := []) hP hD [] [0, 1, 2, 3] rfl rfl (by decide) (by decide) hk1 hFc hP1 hD1
                            generalize H1 = H at hP hS ⊢
                            have hP : va_P (dC, dI) vwCl [(qf, .inl (uf, 40960, .inl m_Bf_14)), (qm, .inl (um, 40960, .inl m_Bm_15)), (qk, .inl (uk, 40960, .inl m_Bk_16)), (qh, .inr (3, [.int mco, .long md, .long mw, .int m_mfo_13, .ref qf, .ref qm, .ref qk, .int mmy, .ref qn, .ref qo, .ref qi, .ref qx, .int mpr, .int mgn, .ref qg, .int mli, .ref ql, .long u_ma_21, .long u_mb_22, .long u_mc_23]))] H := hP
                            have hD : va_D A [(qf, .inl (uf, 40960, .inl m_Bf_14)), (qm, .inl (um, 40960, .inl m_Bm_15)), (qk, .inl (uk, 40960, .inl m_Bk_16)), (qh, .inr (3, [.int mco, .long md, .long mw, .int m_mfo_13, .ref qf, .ref qm, .ref qk, .int mmy, .ref qn, .ref qo, .ref qi, .ref qx, .int mpr, .int mgn, .ref qg, .int mli, .ref ql, .long u_ma_21, .long u_mb_22, .long u_mc_23]))] := hD
                            refine lv_lconst (v := 1) hx hb dX3_list_161 (by decide) ?_
                            refine W.lcmp hx hb dX3_list_162 ?_
                            refine lv_if_eq (tgt := 169) hx hb dX3_list_163 (by decide) (fun c_163 => ?_) (fun c_163 => ?_)
                            · have hf := ok_t c_163 hf
                              refine lv_aload_n hx hb dX3_list_169 rfl (lv_at hl 0 rfl) ?_
                              refine va_get (D := (dC, dI)) (ci := 3) (v := .ref qf) (C := "ClassGroupModel") (T := TX3) (N := 20) hx hb hts (fun w h => List.mem_cons_of_mem _ (iwX3 w h)) hown hK hP 3 rfl rfl 4 (by decide) (hts _ (List.mem_cons_of_mem _ kw_511)) (fun _ h9 => h9) rfl dX3_list_170 ?_
                              refine lv_aload_n hx hb dX3_list_173 rfl (lv_at hl 0 rfl) ?_
                              refine va_get (D := (dC, dI)) (ci := 3) (v := .int m_mfo_13) (C := "ClassGroupModel") (T := TX3) (N := 20) hx hb hts (fun w h => List.mem_cons_of_mem _ (iwX3 w h)) hown hK hP 3 rfl rfl 3 (by decide) (hts _ (List.mem_cons_of_mem _ kw_510)) (fun _ h9 => h9) rfl dX3_list_174 ?_
                              refine lv_lload_n hx hb dX3_list_177 rfl (lv_at hl 2 rfl) ?_
                              refine lv_l2i (v := (w3_3).toInt32) hx hb dX3_list_178 rfl ?_
                              obtain ⟨g_179, hf⟩ := ok_g hf
                              refine va_iast hx hb hK hP hD hS 0 0 rfl rfl g_179 dX3_list_179 (fun H locs hP hD hS => ?_)
                              have hP : va_P (dC, dI) vwCl [(qf, .inl (uf, 40960, .inl (upd m_Bf_14 (m_mfo_13).toNatClampNeg ((w3_3).toInt32)))), (qm, .inl (um, 40960, .inl m_Bm_15)), (qk, .inl (uk, 40960, .inl m_Bk_16)), (qh, .inr (3, [.int mco, .long md, .long mw, .int m_mfo_13, .ref qf, .ref qm, .ref qk, .int mmy, .ref qn, .ref qo, .ref qi, .ref qx, .int mpr, .int mgn, .ref qg, .int mli, .ref ql, .long u_ma_21, .long u_mb_22, .long u_mc_23]))] H := hP
                              have hD : va_D A [(qf, .inl (uf, 40960, .inl (upd m_Bf_14 (m_mfo_13).toNatClampNeg ((w3_3).toInt32)))), (qm, .inl (um, 40960, .inl m_Bm_15)), (qk, .inl (uk, 40960, .inl m_Bk_16)), (qh, .inr (3, [.int mco, .long md, .long mw, .int m_mfo_13, .ref qf, .ref qm, .ref qk, .int mmy, .ref qn, .ref qo, .ref qi, .ref qx, .int mpr, .int mgn, .ref qg, .int mli, .ref ql, .long u_ma_21, .long u_mb_22, .long u_mc_23]))] := hD
                              obtain ⟨A_28, eA_28⟩ : ∃ y : Nat → Int32, y = (upd m_Bf_14 (m_mfo_13).toNatClampNeg ((w3_3).toInt32)) := ⟨_, rfl⟩
                              rw [← eA_28] at hP hD
                              replace hf := bnd_ok eA_28 hf
                              refine lv_aload_n hx hb dX3_list_180 rfl (lv_at hl 0 rfl) ?_
                              refine va_get (D := (dC, dI)) (ci := 3) (v := .ref qm) (C := "ClassGroupModel") (T := TX3) (N := 20) hx hb hts (fun w h => List.mem_cons_of_mem _ (iwX3 w h)) hown hK hP 3 rfl rfl 5 (by decide) (hts _ (List.mem_cons_of_mem _ kw_512)) (fun _ h9 => h9) rfl dX3_list_181 ?_
                              refine lv_aload_n hx hb dX3_list_184 rfl (lv_at hl 0 rfl) ?_
                              refine va_get (D := (dC, dI)) (ci := 3) (v := .int m_mfo_13) (C := "ClassGroupModel") (T := TX3) (N := 20) hx hb hts (fun w h => List.mem_cons_of_mem _ (iwX3 w h)) hown hK hP 3 rfl rfl 3 (by decide) (hts _ (List.mem_cons_of_mem _ kw_510)) (fun _ h9 => h9) rfl dX3_list_185 ?_
                              refine lv_lload hx hb dX3_list_188 (lv_at hl 3 rfl) ?_
                              refine lv_l2i (v := (w5_12).toInt32) hx hb dX3_list_190 rfl ?_
                              obtain ⟨g_191, hf⟩ := ok_g hf
                              refine va_iast hx hb hK hP hD hS 1 1 rfl rfl g_191 dX3_list_191 (fun H locs hP hD hS => ?_)
                              have hP : va_P (dC, dI) vwCl [(qf, .inl (uf, 40960, .inl A_28)), (qm, .inl (um, 40960, .inl (upd m_Bm_15 (m_mfo_13).toNatClampNeg ((w5_12).toInt32)))), (qk, .inl (uk, 40960, .inl m_Bk_16)), (qh, .inr (3, [.int mco, .long md, .long mw, .int m_mfo_13, .ref qf, .ref qm, .ref qk, .int mmy, .ref qn, .ref qo, .ref qi, .ref qx, .int mpr, .int mgn, .ref qg, .int mli, .ref ql, .long u_ma_21, .long u_mb_22, .long u_mc_23]))] H := hP
                              have hD : va_D A [(qf, .inl (uf, 40960, .inl A_28)), (qm, .inl (um, 40960, .inl (upd m_Bm_15 (m_mfo_13).toNatClampNeg ((w5_12).toInt32)))), (qk, .inl (uk, 40960, .inl m_Bk_16)), (qh, .inr (3, [.int mco, .long md, .long mw, .int m_mfo_13, .ref qf, .ref qm, .ref qk, .int mmy, .ref qn, .ref qo, .ref qi, .ref qx, .int mpr, .int mgn, .ref qg, .int mli, .ref ql, .long u_ma_21, .long u_mb_22, .long u_mc_23]))] := hD
                              obtain ⟨A_29, eA_29⟩ : ∃ y : Nat → Int32, y = (upd m_Bm_15 (m_mfo_13).toNatClampNeg ((w5_12).toInt32)) := ⟨_, rfl⟩
                              rw [← eA_29] at hP hD
                              replace hf := bnd_ok eA_29 hf
                              refine lv_aload_n hx hb dX3_list_192 rfl (lv_at hl 0 rfl) ?_
                              refine va_get (D := (dC, dI)) (ci := 3) (v := .ref qk) (C := "ClassGroupModel") (T := TX3) (N := 20) hx hb hts (fun w h => List.mem_cons_of_mem _ (iwX3 w h)) hown hK hP 3 rfl rfl 6 (by decide) (hts _ (List.mem_cons_of_mem _ kw_513)) (fun _ h9 => h9) rfl dX3_list_193 ?_
                              refine lv_aload_n hx hb dX3_list_196 rfl (lv_at hl 0 rfl) ?_
                              refine va_get (D := (dC, dI)) (ci := 3) (v := .int m_mfo_13) (C := "ClassGroupModel") (T := TX3) (N := 20) hx hb hts (fun w h => List.mem_cons_of_mem _ (iwX3 w h)) hown hK hP 3 rfl rfl 3 (by decide) (hts _ (List.mem_cons_of_mem _ kw_510)) (fun _ h9 => h9) rfl dX3_list_197 ?_
                              refine lv_iconst (v := (-1)) hx hb dX3_list_200 (by decide) ?_
                              obtain ⟨g_201, hf⟩ := ok_g hf
                              refine va_iast hx hb hK hP hD hS 2 2 rfl rfl g_201 dX3_list_201 (fun H locs hP hD hS => ?_)
                              have hP : va_P (dC, dI) vwCl [(qf, .inl (uf, 40960, .inl A_28)), (qm, .inl (um, 40960, .inl A_29)), (qk, .inl (uk, 40960, .inl (upd m_Bk_16 (m_mfo_13).toNatClampNeg (-1)))), (qh, .inr (3, [.int mco, .long md, .long mw, .int m_mfo_13, .ref qf, .ref qm, .ref qk, .int mmy, .ref qn, .ref qo, .ref qi, .ref qx, .int mpr, .int mgn, .ref qg, .int mli, .ref ql, .long u_ma_21, .long u_mb_22, .long u_mc_23]))] H := hP
                              have hD : va_D A [(qf, .inl (uf, 40960, .inl A_28)), (qm, .inl (um, 40960, .inl A_29)), (qk, .inl (uk, 40960, .inl (upd m_Bk_16 (m_mfo_13).toNatClampNeg (-1)))), (qh, .inr (3, [.int mco, .long md, .long mw, .int m_mfo_13, .ref qf, .ref qm, .ref qk, .int mmy, .ref qn, .ref qo, .ref qi, .ref qx, .int mpr, .int mgn, .ref qg, .int mli, .ref ql, .long u_ma_21, .long u_mb_22, .long u_mc_23]))] := hD
                              obtain ⟨A_30, eA_30⟩ : ∃ y : Nat → Int32, y = (upd m_Bk_16 (m_mfo_13).toNatClampNeg (-1)) := ⟨_, rfl⟩
                              rw [← eA_30] at hP hD
                              replace hf := bnd_ok eA_30 hf
                              refine lv_aload_n hx hb dX3_list_202 rfl (lv_at hl 0 rfl) ?_
                              refine lv_dup hx hb dX3_list_203 rfl ?_
                              refine va_get (D := (dC, dI)) (ci := 3) (v := .int m_mfo_13) (C := "ClassGroupModel") (T := TX3) (N := 20) hx hb hts (fun w h => List.mem_cons_of_mem _ (iwX3 w h)) hown hK hP 3 rfl rfl 3 (by decide) (hts _ (List.mem_cons_of_mem _ kw_510)) (fun _ h9 => h9) rfl dX3_list_204 ?_
                              refine lv_iconst (v := 1) hx hb dX3_list_207 (by decide) ?_
                              refine lv_iadd hx hb dX3_list_208 ?_
                              refine lv_topi (fun f_forms_31 ef_forms_31 => ?_)
                              replace hf := bnd_ok ef_forms_31 hf
                              refine va_put (D := (dC, dI)) (ci := 3) (v := .int f_forms_31) (ty := .int) (C := "ClassGroupModel") (T := TX3) (N := 20) hx hb hts (fun w h => List.mem_cons_of_mem _ (iwX3 w h)) tyX3 tyokX3 nmX3 hown hK hP hD hS 3 rfl rfl 3 (by decide) (hts _ (List.mem_cons_of_mem _ kw_510)) (fun _ h9 => h9) rfl (by decide +kernel) rfl rfl (Nat.le_of_ble_eq_true rfl) dX3_list_209 (fun H locs hP hD hS => ?_)
                              have hP : va_P (dC, dI) vwCl [(qf, .inl (uf, 40960, .inl A_28)), (qm, .inl (um, 40960, .inl A_29)), (qk, .inl (uk, 40960, .inl A_30)), (qh, .inr (3, [.int mco, .long md, .long mw, .int f_forms_31, .ref qf, .ref qm, .ref qk, .int mmy, .ref qn, .ref qo, .ref qi, .ref qx, .int mpr, .int mgn, .ref qg, .int mli, .ref ql, .long u_ma_21, .long u_mb_22, .long u_mc_23]))] H := hP
                              have hD : va_D A [(qf, .inl (uf, 40960, .inl A_28)), (qm, .inl (um, 40960, .inl A_29)), (qk, .inl (uk, 40960, .inl A_30)), (qh, .inr (3, [.int mco, .long md, .long mw, .int f_forms_31, .ref qf, .ref qm, .ref qk, .int mmy, .ref qn, .ref qo, .ref qi, .ref qx, .int mpr, .int mgn, .ref qg, .int mli, .ref ql, .long u_ma_21, .long u_mb_22, .long u_mc_23]))] := hD
                              refine lv_lload hx hb dX3_list_212 (lv_at hl 3 rfl) ?_
                              refine lv_lconst (v := 1) hx hb dX3_list_214 (by decide) ?_
                              refine lv_ladd hx hb dX3_list_215 ?_
                              refine lv_topl (fun v5_32 ev5_32 => ?_)
                              replace hf := bnd_ok ev5_32 hf
                              refine lv_lstore (lv' := [(5, .long v5_32), (0, .ref qh), (1, .long t_1), (3, .long w3_3)]) hx hb dX3_list_216 hl (by decide) rfl (fun ls hl => ?_)
                              refine lv_goto (tgt := 82) hx hb dX3_list_218 (by decide) ?_
                              exact ih82 v5_32 f_forms_31 A_28 A_29 A_30 u_ma_21 u_mb_22 u_mc_23 _ _ _ _ _ hf (hP.sub [3, 0, 1, 2] rfl) (hD.sub [3, 0, 1, 2] (by decide) rfl) hS (lv_sub hl [1, 2, 3, 0] rfl) k82_0
                            · have hf := ok_f c_163 hf
                              refine lv_goto (tgt := 212) hx hb dX3_list_166 (by decide) ?_
                              refine lv_lload hx hb dX3_list_212 (lv_at hl 3 rfl) ?_
                              refine lv_lconst (v := 1) hx hb dX3_list_214 (by decide) ?_
                              refine lv_ladd hx hb dX3_list_215 ?_
                              refine lv_topl (fun v5_33 ev5_33 => ?_)
                              replace hf := bnd_ok ev5_33 hf
                              refine lv_lstore (lv' := [(5, .long v5_33), (0, .ref qh), (1, .long t_1), (3, .long w3_3)]) hx hb dX3_list_216 hl (by decide) rfl (fun ls hl => ?_)
                              refine lv_goto (tgt := 82) hx hb dX3_list_218 (by decide) ?_
                              exact ih82 v5_33 m_mfo_13 m_Bf_14 m_Bm_15 m_Bk_16 u_ma_21 u_mb_22 u_mc_23 _ _ _ _ _ hf (hP.sub [3, 0, 1, 2] rfl) (hD.sub [3, 0, 1, 2] (by decide) rfl) hS (lv_sub hl [1, 2, 3, 0] rfl) k82_0
                        · have hf := ok_f c_123 hf
                          refine lv_goto (tgt := 212) hx hb dX3_list_126 (by decide) ?_
                          refine lv_lload hx hb dX3_list_212 (lv_at hl 3 rfl) ?_
                          refine lv_lconst (v := 1) hx hb dX3_list_214 (by decide) ?_
                          refine lv_ladd hx hb dX3_list_215 ?_
                          refine lv_topl (fun v5_34 ev5_34 => ?_)
                          replace hf := bnd_ok ev5_34 hf
                          refine lv_lstore (lv' := [(5, .long v5_34), (0, .ref qh), (1, .long t_1), (3, .long w3_3)]) hx hb dX3_list_216 hl (by decide) rfl (fun ls hl => ?_)
                          refine lv_goto (tgt := 82) hx hb dX3_list_218 (by decide) ?_
                          exact ih82 v5_34 m_mfo_13 m_Bf_14 m_Bm_15 m_Bk_16 m_ma_17 m_mb_18 m_mc_19 _ _ _ _ _ hf (hP.sub [0, 1, 2, 3] rfl) (hD.sub [0, 1, 2, 3] (by decide) rfl) hS (lv_sub hl [1, 2, 3, 0] rfl) k82_0
                    refine lv_if_ge (tgt := 97) hx hb dX3_list_90 (by decide) (fun c_90 => ?_) (fun c_90 => ?_)
                    · have hf := ok_t c_90 hf
                      refine lv_aload_n hx hb dX3_list_97 rfl (lv_at hl 0 rfl) ?_
                      refine va_get (D := (dC, dI)) (ci := 3) (v := .long mw) (C := "ClassGroupModel") (T := TX3) (N := 20) hx hb hts (fun w h => List.mem_cons_of_mem _ (iwX3 w h)) hown hK hP 0 rfl rfl 2 (by decide) (hts _ (List.mem_cons_of_mem _ kw_509)) (fun _ h9 => h9) rfl dX3_list_98 ?_
                      exact hJ101 mw _ _ _ hf (hP.sub [0, 1, 2, 3] rfl) (hD.sub [0, 1, 2, 3] (by decide) rfl) hS (lv_sub hl [0, 1, 2, 3] rfl)
                    · have hf := ok_f c_90 hf
                      refine lv_lload_n hx hb dX3_list_93 rfl (lv_at hl 2 rfl) ?_
                      refine lv_goto (tgt := 101) hx hb dX3_list_94 (by decide) ?_
                      exact hJ101 w3_3 _ _ _ hf (hP.sub [0, 1, 2, 3] rfl) (hD.sub [0, 1, 2, 3] (by decide) rfl) hS (lv_sub hl [0, 1, 2, 3] rfl)
                obtain ⟨res82, hL82_r, hf⟩ := ok_b hf
                refine hL82 F t_11 m_mfo_4 m_Bf_5 m_Bm_6 m_Bk_7 m_ma_8 m_mb_9 m_mc_10 res82 _ _ _ _ hL82_r (hP.sub [0, 1, 2, 3] rfl) (hD.sub [0, 1, 2, 3] (by decide) rfl) hS (lv_sub hl [1, 2, 3, 0] rfl) (fun y_mfo_35 y_Bf_36 y_Bm_37 y_Bk_38 y_ma_39 y_mb_40 y_mc_41 H locs ls hres hP hD hS hl => ?_)
                subst hres
                refine lv_lload_n hx hb dX3_list_221 rfl (lv_at hl 2 rfl) ?_
                refine lv_lconst (v := 1) hx hb dX3_list_222 (by decide) ?_
                refine lv_ladd hx hb dX3_list_223 ?_
                refine lv_topl (fun v3_42 ev3_42 => ?_)
                replace hf := bnd_ok ev3_42 hf
                refine lv_lstore_n (lv' := [(3, .long v3_42), (0, .ref qh), (1, .long t_1)]) hx hb dX3_list_224 rfl hl (by decide) rfl (fun ls hl => ?_)
                refine lv_goto (tgt := 50) hx hb dX3_list_225 (by decide) ?_
                exact ih50 v3_42 y_mfo_35 y_Bf_36 y_Bm_37 y_Bk_38 y_ma_39 y_mb_40 y_mc_41 _ _ _ _ _ hf (hP.sub [0, 1, 2, 3] rfl) (hD.sub [0, 1, 2, 3] (by decide) rfl) hS (lv_sub hl [1, 2, 0] rfl) k50_0
              refine lv_if_ge (tgt := 79) hx hb dX3_list_71 (by decide) (fun c_71 => ?_) (fun c_71 => ?_)
              · have hf := ok_t c_71 hf
                refine lv_lconst (v := 1) hx hb dX3_list_79 (by decide) ?_
                exact hJ80 1 _ _ _ hf (hP.sub [0, 1, 2, 3] rfl) (hD.sub [0, 1, 2, 3] (by decide) rfl) hS (lv_sub hl [0, 1, 2] rfl)
              · have hf := ok_f c_71 hf
                refine lv_lload_n hx hb dX3_list_74 rfl (lv_at hl 2 rfl) ?_
                refine lv_lneg hx hb dX3_list_75 ?_
                refine lv_goto (tgt := 80) hx hb dX3_list_76 (by decide) ?_
                exact hJ80 (-w3_3) _ _ _ hf (hP.sub [0, 1, 2, 3] rfl) (hD.sub [0, 1, 2, 3] (by decide) rfl) hS (lv_sub hl [0, 1, 2] rfl)
            · have hf := ok_t c_59 hf
              refine lv_goto (tgt := 221) hx hb dX3_list_62 (by decide) ?_
              refine lv_lload_n hx hb dX3_list_221 rfl (lv_at hl 2 rfl) ?_
              refine lv_lconst (v := 1) hx hb dX3_list_222 (by decide) ?_
              refine lv_ladd hx hb dX3_list_223 ?_
              refine lv_topl (fun v3_43 ev3_43 => ?_)
              replace hf := bnd_ok ev3_43 hf
              refine lv_lstore_n (lv' := [(3, .long v3_43), (0, .ref qh), (1, .long t_1)]) hx hb dX3_list_224 rfl hl (by decide) rfl (fun ls hl => ?_)
              refine lv_goto (tgt := 50) hx hb dX3_list_225 (by decide) ?_
              exact ih50 v3_43 m_mfo_4 m_Bf_5 m_Bm_6 m_Bk_7 m_ma_8 m_mb_9 m_mc_10 _ _ _ _ _ hf (hP.sub [0, 1, 2, 3] rfl) (hD.sub [0, 1, 2, 3] (by decide) rfl) hS (lv_sub hl [1, 2, 0] rfl) k50_0
      obtain ⟨res50, hL50_r, hf⟩ := ok_b hf
      refine hL50 F t_2 0 Bf Bm Bk ma mb mc res50 _ _ _ _ hL50_r (hP.sub [0, 1, 2, 3] rfl) (hD.sub [0, 1, 2, 3] (by decide) rfl) hS (lv_sub hl [1, 2, 0] rfl) (fun y_mfo_44 y_Bf_45 y_Bm_46 y_Bk_47 y_ma_48 y_mb_49 y_mc_50 H locs ls hres hP hD hS hl => ?_)
      subst hres
      have hP9 := hP.sub (ws' := [(qh, .inr (3, [.int mco, .long md, .long mw, .int y_mfo_44, .ref qf, .ref qm, .ref qk, .int mmy, .ref qn, .ref qo, .ref qi, .ref qx, .int mpr, .int mgn, .ref qg, .int mli, .ref ql, .long y_ma_48, .long y_mb_49, .long y_mc_50])), (qf, .inl (uf, 40960, .inl y_Bf_45)), (qm, .inl (um, 40960, .inl y_Bm_46)), (qk, .inl (uk, 40960, .inl y_Bk_47))]) [0, 1, 2, 3] rfl
      have hD9 := hD.sub (ws' := [(qh, .inr (3, [.int mco, .long md, .long mw, .int y_mfo_44, .ref qf, .ref qm, .ref qk, .int mmy, .ref qn, .ref qo, .ref qi, .ref qx, .int mpr, .int mgn, .ref qg, .int mli, .ref ql, .long y_ma_48, .long y_mb_49, .long y_mc_50])), (qf, .inl (uf, 40960, .inl y_Bf_45)), (qm, .inl (um, 40960, .inl y_Bm_46)), (qk, .inl (uk, 40960, .inl y_Bk_47))]) [0, 1, 2, 3] (by decide) rfl
      have hK9 := hK.sub (tys' := [(uf, .int), (um, .int), (uk, .int)]) [0, 1, 2] rfl
      exact W.vret hx hb hr (fun t ht hW => ⟨⟨(y_mfo_44, y_Bf_45, y_Bm_46, y_Bk_47, y_ma_48, y_mb_49, y_mc_50), rfl, (Option.some.inj hf), by rw [ht]; exact hP9, va_K.moved hW.alike hK9, hD9⟩, hS.F ht⟩) hS.2.2 dX3_list_228
    refine lv_if_ge (tgt := 47) hx hb dX3_list_40 (by decide) (fun c_40 => ?_) (fun c_40 => ?_)
    · have hf := ok_t c_40 hf
      refine lv_lload_n hx hb dX3_list_47 rfl (lv_at hl 0 rfl) ?_
      refine lv_lneg hx hb dX3_list_48 ?_
      exact hJ49 (-t_1) _ _ _ hf (hP.sub [0, 1, 2, 3] rfl) (hD.sub [0, 1, 2, 3] (by decide) rfl) hS (lv_sub hl [1, 0] rfl)
    · have hf := ok_f c_40 hf
      refine lv_lconst (v := 1) hx hb dX3_list_43 (by decide) ?_
      refine lv_goto (tgt := 49) hx hb dX3_list_44 (by decide) ?_
      exact hJ49 1 _ _ _ hf (hP.sub [0, 1, 2, 3] rfl) (hD.sub [0, 1, 2, 3] (by decide) rfl) hS (lv_sub hl [1, 0] rfl)
  refine lv_if_ge (tgt := 29) hx hb dX3_list_11 (by decide) (fun c_11 => ?_) (fun c_11 => ?_)
  · have hf := ok_t c_11 hf
    refine lv_aload_n hx hb dX3_list_29 rfl (lv_at hl 0 rfl) ?_
    refine va_get (D := (dC, dI)) (ci := 3) (v := .long mw) (C := "ClassGroupModel") (T := TX3) (N := 20) hx hb hts (fun w h => List.mem_cons_of_mem _ (iwX3 w h)) hown hK hP 0 rfl rfl 2 (by decide) (hts _ (List.mem_cons_of_mem _ kw_509)) (fun _ h9 => h9) rfl dX3_list_30 ?_
    exact hJ33 mw _ _ _ hf (hP.sub [0, 1, 2, 3] rfl) (hD.sub [0, 1, 2, 3] (by decide) rfl) hS (lv_sub hl [0] rfl)
  · have hf := ok_f c_11 hf
    refine lv_aload_n hx hb dX3_list_14 rfl (lv_at hl 0 rfl) ?_
    refine va_get (D := (dC, dI)) (ci := 3) (v := .long md) (C := "ClassGroupModel") (T := TX3) (N := 20) hx hb hts (fun w h => List.mem_cons_of_mem _ (iwX3 w h)) hown hK hP 0 rfl rfl 1 (by decide) (hts _ (List.mem_cons_of_mem _ kw_508)) (fun _ h9 => h9) rfl dX3_list_15 ?_
    refine lv_lneg hx hb dX3_list_18 ?_
    refine lv_ldc2 (v := 3) hx hb hown (hts _ (List.mem_cons_of_mem _ kw_450)) dX3_list_19 ?_
    refine lv_ldiv hx hb dX3_list_22 (by decide) ?_
    obtain ⟨xc23, hc23, hf⟩ := ok_b hf
    have hPc := hP.sub (ws' := []) [] rfl
    have hDc := hD.sub (ws' := []) [] (by decide) rfl
    have hKc := hK.sub (tys' := []) [] rfl
    have hFc := va_free (wc := []) hD hS hA [] rfl
    refine va_calll (va_runS (As := [.long ((-md) / 3)]) (rest := []) ⟨hx, hb, hml, hown, hts⟩ (c_m_root l dC dI ((-md) / 3) H.size F xc23 hc23) (va_cwS 1 hts (gwS kw_443 kw_444 kw_5 kw_445) rfl rfl rfl (by decide +kernel) ⟨Nat.le_of_ble_eq_true rfl, Nat.le_of_ble_eq_true rfl⟩) ⟨fun a U g mk q => by obtain ⟨q0, q1, qP, qK, qD⟩ := q; exact ⟨q0, q1, qP, va_K.moved (u := U) (U := U.calling g mk a) (Vm.Alike.refl U.vm) qK, qD⟩, fun U hU hW => ⟨rfl, by rw [hU], by rw [hU]; exact hPc, va_K.moved hW.alike hKc, hDc.weaken (fun _ _ _ _ => trivial)⟩⟩ rfl rfl hl.1 rfl (lv_room (Nat.le_of_ble_eq_true rfl)) dX3_list_23 ⟨Nat.zero_le _, Nat.zero_le _⟩) hS (fun q _ h => hFc q h) hFc (fun r_51 u t H1 locs ht hvm hw hB hz1 hk1 hS => ?_)
    obtain ⟨⟩ := u
    obtain ⟨hP1, hK1, hD1⟩ := hB
    rw [ht] at hP1
    subst hw
    obtain ⟨hP, hD⟩ := va_join (wr := [(qh, .inr (3, [.int mco, .long md, .long mw, .int 0, .ref qf, .ref qm, .ref qk, .int mmy, .ref qn, .ref qo, .ref qi, .ref qx, .int mpr, .int mgn, .ref qg, .int mli, .ref ql, .long ma, .long mb, .long mc])), (qf, .inl (uf, 40960, .inl Bf)), (qm, .inl (um, 40960, .inl Bm)), (qk, .inl (uk, 40960, .inl Bk))]) (w1 := []) hP hD [] [0, 1, 2, 3] rfl rfl (by decide) (by decide) hk1 hFc hP1 hD1
    generalize H1 = H at hP hS ⊢
    have hP : va_P (dC, dI) vwCl [(qh, .inr (3, [.int mco, .long md, .long mw, .int 0, .ref qf, .ref qm, .ref qk, .int mmy, .ref qn, .ref qo, .ref qi, .ref qx, .int mpr, .int mgn, .ref qg, .int mli, .ref ql, .long ma, .long mb, .long mc])), (qf, .inl (uf, 40960, .inl Bf)), (qm, .inl (um, 40960, .inl Bm)), (qk, .inl (uk, 40960, .inl Bk))] H := hP
    have hD : va_D A [(qh, .inr (3, [.int mco, .long md, .long mw, .int 0, .ref qf, .ref qm, .ref qk, .int mmy, .ref qn, .ref qo, .ref qi, .ref qx, .int mpr, .int mgn, .ref qg, .int mli, .ref ql, .long ma, .long mb, .long mc])), (qf, .inl (uf, 40960, .inl Bf)), (qm, .inl (um, 40960, .inl Bm)), (qk, .inl (uk, 40960, .inl Bk))] := hD
    refine lv_goto (tgt := 33) hx hb dX3_list_26 (by decide) ?_
    exact hJ33 r_51 _ _ _ hf (hP.sub [0, 1, 2, 3] rfl) (hD.sub [0, 1, 2, 3] (by decide) rfl) hS (lv_sub hl [0] rfl)

def f_m_place_L7 (F : Nat) (ma : Int64) (mb : Int64) (Bf : Nat → Int32) (Bm : Nat → Int32) : Nat → Int32 → Int32 → Option (Int32)
  | 0, _, _ => none
  | n7 + 1, w1_1, w2_2 => (if (w2_2 - w1_1) ≤ 1 then some w1_1 else bnd ((w1_1 + w2_2) / 2) (fun v3_3 => (if vin v3_3 40960 then bnd (fun (t_4 : Int32) => ((if t_4 = 0 then f_m_place_L7 F ma mb Bf Bm n7 v3_3 w2_2 else f_m_place_L7 F ma mb Bf Bm n7 w1_1 v3_3) : Option (Int32))) (fun kJ70 => (if (0 : Int32) < (lg_cmp (((Bf (v3_3).toNatClampNeg)).toInt64) ma) then kJ70 1 else (if vin v3_3 40960 then (if (lg_cmp (((Bf (v3_3).toNatClampNeg)).toInt64) ma) = 0 then (if vin v3_3 40960 then (if (lg_cmp (((Bm (v3_3).toNatClampNeg)).toInt64) mb) ≤ 0 then kJ70 0 else kJ70 1) else none) else kJ70 0) else none))) else none)))
def f_m_place (F : Nat) (mfo : Int32) (Bf : Nat → Int32) (Bm : Nat → Int32) (ma : Int64) (mb : Int64) : Option (Int32) := Option.bind (f_m_place_L7 F ma mb Bf Bm F 0 mfo) (fun x1_5 => some x1_5)
set_option maxHeartbeats 4000000 in
set_option maxRecDepth 100000 in
theorem c_m_place (l : Launch) (dC : Nat → ClassId) (dI : Nat → Nat → Nat) (qh : Nat) (mco : Int32) (md : Int64) (mw : Int64) (mfo : Int32) (qf : Nat) (qm : Nat) (qk : Nat) (mmy : Int32) (qn : Nat) (qo : Nat) (qi : Nat) (qx : Nat) (mpr : Int32) (mgn : Int32) (qg : Nat) (mli : Int32) (ql : Nat) (ma : Int64) (mb : Int64) (mc : Int64) (uf : ClassId) (Bf : Nat → Int32) (um : ClassId) (Bm : Nat → Int32) (sz : Nat) (F : Nat) (out : Int32) (hf : f_m_place F mfo Bf Bm ma mb = some out) : Met l yX3_place wsX3_place ({ frames := 0, cells := 0, slots := 0, locals := 0 }) (va_Pc [.ref qh] (fun U => U.heap.size = sz ∧ va_P (dC, dI) vwCl [(qh, .inr (3, [.int mco, .long md, .long mw, .int mfo, .ref qf, .ref qm, .ref qk, .int mmy, .ref qn, .ref qo, .ref qi, .ref qx, .int mpr, .int mgn, .ref qg, .int mli, .ref ql, .long ma, .long mb, .long mc])), (qf, .inl (uf, 40960, .inl Bf)), (qm, .inl (um, 40960, .inl Bm))] U.heap ∧ va_K (dC, dI) vwCl [(uf, .int), (um, .int)] U ∧ va_D (fun _ => True) [(qh, .inr (3, [.int mco, .long md, .long mw, .int mfo, .ref qf, .ref qm, .ref qk, .int mmy, .ref qn, .ref qo, .ref qi, .ref qx, .int mpr, .int mgn, .ref qg, .int mli, .ref ql, .long ma, .long mb, .long mc])), (qf, .inl (uf, 40960, .inl Bf)), (qm, .inl (um, 40960, .inl Bm))])) (va_Qi (fun (r : Int32) (u : Unit) => r = out) (fun (u : Unit) t => match u with | _ => va_P (dC, dI) vwCl [(qh, .inr (3, [.int mco, .long md, .long mw, .int mfo, .ref qf, .ref qm, .ref qk, .int mmy, .ref qn, .ref qo, .ref qi, .ref qx, .int mpr, .int mgn, .ref qg, .int mli, .ref ql, .long ma, .long mb, .long mc])), (qf, .inl (uf, 40960, .inl Bf)), (qm, .inl (um, 40960, .inl Bm))] t.heap ∧ va_K (dC, dI) vwCl [(uf, .int), (um, .int)] t ∧ va_D (va_A [(qh, .inr (3, [.int mco, .long md, .long mw, .int mfo, .ref qf, .ref qm, .ref qk, .int mmy, .ref qn, .ref qo, .ref qi, .ref qx, .int mpr, .int mgn, .ref qg, .int mli, .ref ql, .long ma, .long mb, .long mc])), (qf, .inl (uf, 40960, .inl Bf)), (qm, .inl (um, 40960, .inl Bm))] sz) [(qh, .inr (3, [.int mco, .long md, .long mw, .int mfo, .ref qf, .ref qm, .ref qk, .int mmy, .ref qn, .ref qo, .ref qi, .ref qx, .int mpr, .int mgn, .ref qg, .int mli, .ref ql, .long ma, .long mb, .long mc])), (qf, .inl (uf, 40960, .inl Bf)), (qm, .inl (um, 40960, .inl Bm))]) (va_A [(qh, .inr (3, [.int mco, .long md, .long mw, .int mfo, .ref qf, .ref qm, .ref qk, .int mmy, .ref qn, .ref qo, .ref qi, .ref qx, .int mpr, .int mgn, .ref qg, .int mli, .ref ql, .long ma, .long mb, .long mc])), (qf, .inl (uf, 40960, .inl Bf)), (qm, .inl (um, 40960, .inl Bm))] sz)) 0 0 (va_A [(qh, .inr (3, [.int mco, .long md, .long mw, .int mfo, .ref qf, .ref qm, .ref qk, .int mmy, .ref qn, .ref qo, .ref qi, .ref qx, .int mpr, .int mgn, .ref qg, .int mli, .ref ql, .long ma, .long mb, .long mc])), (qf, .inl (uf, 40960, .inl Bf)), (qm, .inl (um, 40960, .inl Bm))] sz) := by
  refine Met.ofW (cc := cX3_place) (maxL := 5) (ret := (some .int)) (by decide +kernel) rfl ?_
  intro p e s m args below meth c s₁ B hml hv
  obtain ⟨rfl, hsz, hP, hK, hD0⟩ := hv
  have hx := B.exec
  have hb := B.bytes
  have hr := B.returns
  have hts := atoms_spec (ws := wsX3_place) B.pre
  have hown : s.vm.findClass "ClassGroupModel" = some m.cls := findClass_of_methodNamed B.named
  have hlocks := B.notSynchronized
  subst hsz
  have hD := hD0.self (sz := s.heap.size)
  generalize hAe : va_A [(qh, .inr (3, [.int mco, .long md, .long mw, .int mfo, .ref qf, .ref qm, .ref qk, .int mmy, .ref qn, .ref qo, .ref qi, .ref qx, .int mpr, .int mgn, .ref qg, .int mli, .ref ql, .long ma, .long mb, .long mc])), (qf, .inl (uf, 40960, .inl Bf)), (qm, .inl (um, 40960, .inl Bm))] s.heap.size = A at hD ⊢
  have hA : ∀ q : Nat, s.heap.size ≤ q → A q := fun q h => by rw [← hAe]; exact Or.inr h
  have hS : va_S A s.heap s.heap [] := va_S.rf
  have hl := lv_entry ([.ref qh]) (n := 5) (Nat.le_of_ble_eq_true rfl)
  rw [lg_entry_eq]
  generalize (lg_sl ([.ref qh]) ++ List.replicate (5 - (lg_sl ([.ref qh])).length) Slot.unset).toArray = ls at hl ⊢
  have hl : lv_has ls 5 [(0, .ref qh)] := hl
  unfold f_m_place at hf
  refine lv_iconst (v := 0) hx hb dX3_place_0 (by decide) ?_
  refine lv_istore_n (lv' := [(1, .int 0), (0, .ref qh)]) hx hb dX3_place_1 rfl hl (by decide) rfl (fun ls hl => ?_)
  refine lv_aload_n hx hb dX3_place_2 rfl (lv_at hl 1 rfl) ?_
  refine va_get (D := (dC, dI)) (ci := 3) (v := .int mfo) (C := "ClassGroupModel") (T := TX3) (N := 20) hx hb hts (fun w h => List.mem_cons_of_mem _ (iwX3 w h)) hown hK hP 0 rfl rfl 3 (by decide) (hts _ (List.mem_cons_of_mem _ kw_510)) (fun _ h9 => h9) rfl dX3_place_3 ?_
  refine lv_istore_n (lv' := [(2, .int mfo), (1, .int 0), (0, .ref qh)]) hx hb dX3_place_6 rfl hl (by decide) rfl (fun ls hl => ?_)
  have hL7 : ∀ (n7 : Nat) (w1_1 : Int32) (w2_2 : Int32) (res : Int32) (H : Heap) (locs : List Loc) (ls : Array Slot) (Q : State → Prop), f_m_place_L7 F ma mb Bf Bm n7 w1_1 w2_2 = some res → va_P (dC, dI) vwCl [(qh, .inr (3, [.int mco, .long md, .long mw, .int mfo, .ref qf, .ref qm, .ref qk, .int mmy, .ref qn, .ref qo, .ref qi, .ref qx, .int mpr, .int mgn, .ref qg, .int mli, .ref ql, .long ma, .long mb, .long mc])), (qf, .inl (uf, 40960, .inl Bf)), (qm, .inl (um, 40960, .inl Bm))] H → va_D A [(qh, .inr (3, [.int mco, .long md, .long mw, .int mfo, .ref qf, .ref qm, .ref qk, .int mmy, .ref qn, .ref qo, .ref qi, .ref qx, .int mpr, .int mgn, .ref qg, .int mli, .ref ql, .long ma, .long mb, .long mc])), (qf, .inl (uf, 40960, .inl Bf)), (qm, .inl (um, 40960, .inl Bm))] → va_S A s.heap H locs → lv_has ls 5 [(0, .ref qh), (1, .int w1_1), (2, .int w2_2)] → (∀ (x1_5 : Int32) (H : Heap) (locs : List Loc) (ls : Array Slot), x1_5 = res → va_P (dC, dI) vwCl [(qh, .inr (3, [.int mco, .long md, .long mw, .int mfo, .ref qf, .ref qm, .ref qk, .int mmy, .ref qn, .ref qo, .ref qi, .ref qx, .int mpr, .int mgn, .ref qg, .int mli, .ref ql, .long ma, .long mb, .long mc])), (qf, .inl (uf, 40960, .inl Bf)), (qm, .inl (um, 40960, .inl Bm))] H → va_D A [(qh, .inr (3, [.int mco, .long md, .long mw, .int mfo, .ref qf, .ref qm, .ref qk, .int mmy, .ref qn, .ref qo, .ref qi, .ref qx, .int mpr, .int mgn, .ref qg, .int mli, .ref ql, .long ma, .long mb, .long mc])), (qf, .inl (uf, 40960, .inl Bf)), (qm, .inl (um, 40960, .inl Bm))] → va_S A s.heap H locs → lv_has ls 5 [(1, .int x1_5)] → W p l e ((headSpec wsX3_place ({ frames := 0, cells := 0, slots := 0, locals := 0 })).room) s m ([.ref qh] : List Value).toArray below meth c H locs 0 0 Q (F0 m 87 ls [])) → W p l e ((headSpec wsX3_place ({ frames := 0, cells := 0, slots := 0, locals := 0 })).room) s m ([.ref qh] : List Value).toArray below meth c H locs 0 0 Q (F0 m 7 ls []) := by
    intro n7
    induction n7 with
    | zero => intro w1_1 w2_2 res H locs ls Q hf; simp [f_m_place_L7] at hf
    | succ n7 ih7 =>
      intro w1_1 w2_2 res H locs ls Q hf hP hD hS hl k7_0
      rw [f_m_place_L7] at hf
      refine lv_iload_n hx hb dX3_place_7 rfl (lv_at hl 2 rfl) ?_
      refine lv_iload_n hx hb dX3_place_8 rfl (lv_at hl 1 rfl) ?_
      refine lv_isub hx hb dX3_place_9 ?_
      refine lv_iconst (v := 1) hx hb dX3_place_10 (by decide) ?_
      refine lv_icmp_le (tgt := 87) hx hb dX3_place_11 (by decide) (fun c_11 => ?_) (fun c_11 => ?_)
      · have hf := ok_t c_11 hf
        exact k7_0 w1_1 _ _ _ (Option.some.inj hf) (hP.sub [0, 1, 2] rfl) (hD.sub [0, 1, 2] (by decide) rfl) hS (lv_sub hl [1] rfl)
      · have hf := ok_f c_11 hf
        refine lv_iload_n hx hb dX3_place_14 rfl (lv_at hl 1 rfl) ?_
        refine lv_iload_n hx hb dX3_place_15 rfl (lv_at hl 2 rfl) ?_
        refine lv_iadd hx hb dX3_place_16 ?_
        refine lv_iconst (v := 2) hx hb dX3_place_17 (by decide) ?_
        refine lv_idiv hx hb dX3_place_18 (by decide) ?_
        refine lv_topi (fun v3_3 ev3_3 => ?_)
        replace hf := bnd_ok ev3_3 hf
        refine lv_istore_n (lv' := [(3, .int v3_3), (0, .ref qh), (1, .int w1_1), (2, .int w2_2)]) hx hb dX3_place_19 rfl hl (by decide) rfl (fun ls hl => ?_)
        refine lv_aload_n hx hb dX3_place_20 rfl (lv_at hl 1 rfl) ?_
        refine va_get (D := (dC, dI)) (ci := 3) (v := .ref qf) (C := "ClassGroupModel") (T := TX3) (N := 20) hx hb hts (fun w h => List.mem_cons_of_mem _ (iwX3 w h)) hown hK hP 0 rfl rfl 4 (by decide) (hts _ (List.mem_cons_of_mem _ kw_511)) (fun _ h9 => h9) rfl dX3_place_21 ?_
        refine lv_iload_n hx hb dX3_place_24 rfl (lv_at hl 0 rfl) ?_
        obtain ⟨g_25, hf⟩ := ok_g hf
        refine va_iald hx hb hK hP 1 0 rfl rfl g_25 dX3_place_25 ?_
        refine lv_i2l (v := ((Bf (v3_3).toNatClampNeg)).toInt64) hx hb dX3_place_26 rfl ?_
        refine lv_aload_n hx hb dX3_place_27 rfl (lv_at hl 1 rfl) ?_
        refine va_get (D := (dC, dI)) (ci := 3) (v := .long ma) (C := "ClassGroupModel") (T := TX3) (N := 20) hx hb hts (fun w h => List.mem_cons_of_mem _ (iwX3 w h)) hown hK hP 0 rfl rfl 17 (by decide) (hts _ (List.mem_cons_of_mem _ kw_524)) (fun _ h9 => h9) rfl dX3_place_28 ?_
        refine W.lcmp hx hb dX3_place_31 ?_
        obtain ⟨kJ70, ekJ70, hf⟩ := bnd_ex hf
        have hJ70 : ∀ (t_4 : Int32) (H : Heap) (locs : List Loc) (ls : Array Slot), kJ70 t_4 = some res → va_P (dC, dI) vwCl [(qh, .inr (3, [.int mco, .long md, .long mw, .int mfo, .ref qf, .ref qm, .ref qk, .int mmy, .ref qn, .ref qo, .ref qi, .ref qx, .int mpr, .int mgn, .ref qg, .int mli, .ref ql, .long ma, .long mb, .long mc])), (qf, .inl (uf, 40960, .inl Bf)), (qm, .inl (um, 40960, .inl Bm))] H → va_D A [(qh, .inr (3, [.int mco, .long md, .long mw, .int mfo, .ref qf, .ref qm, .ref qk, .int mmy, .ref qn, .ref qo, .ref qi, .ref qx, .int mpr, .int mgn, .ref qg, .int mli, .ref ql, .long ma, .long mb, .long mc])), (qf, .inl (uf, 40960, .inl Bf)), (qm, .inl (um, 40960, .inl Bm))] → va_S A s.heap H locs → lv_has ls 5 [(0, .ref qh), (1, .int w1_1), (2, .int w2_2), (3, .int v3_3)] → W p l e ((headSpec wsX3_place ({ frames := 0, cells := 0, slots := 0, locals := 0 })).room) s m ([.ref qh] : List Value).toArray below meth c H locs 0 0 Q (F0 m 70 ls [.int t_4]) := by
          intro t_4 H locs ls hf hP hD hS hl
          rw [ekJ70] at hf
          refine lv_istore (lv' := [(4, .int t_4), (0, .ref qh), (1, .int w1_1), (2, .int w2_2), (3, .int v3_3)]) hx hb dX3_place_70 hl (by decide) rfl (fun ls hl => ?_)
          refine lv_iload hx hb dX3_place_72 (lv_at hl 0 rfl) ?_
          refine lv_if_eq (tgt := 82) hx hb dX3_place_74 (by decide) (fun c_74 => ?_) (fun c_74 => ?_)
          · have hf := ok_t c_74 hf
            refine lv_iload_n hx hb dX3_place_82 rfl (lv_at hl 4 rfl) ?_
            refine lv_istore_n (lv' := [(1, .int v3_3), (4, .int t_4), (0, .ref qh), (2, .int w2_2), (3, .int v3_3)]) hx hb dX3_place_83 rfl hl (by decide) rfl (fun ls hl => ?_)
            refine lv_goto (tgt := 7) hx hb dX3_place_84 (by decide) ?_
            exact ih7 v3_3 w2_2 _ _ _ _ _ hf (hP.sub [0, 1, 2] rfl) (hD.sub [0, 1, 2] (by decide) rfl) hS (lv_sub hl [2, 0, 3] rfl) k7_0
          · have hf := ok_f c_74 hf
            refine lv_iload_n hx hb dX3_place_77 rfl (lv_at hl 4 rfl) ?_
            refine lv_istore_n (lv' := [(2, .int v3_3), (4, .int t_4), (0, .ref qh), (1, .int w1_1), (3, .int v3_3)]) hx hb dX3_place_78 rfl hl (by decide) rfl (fun ls hl => ?_)
            refine lv_goto (tgt := 84) hx hb dX3_place_79 (by decide) ?_
            refine lv_goto (tgt := 7) hx hb dX3_place_84 (by decide) ?_
            exact ih7 w1_1 v3_3 _ _ _ _ _ hf (hP.sub [0, 1, 2] rfl) (hD.sub [0, 1, 2] (by decide) rfl) hS (lv_sub hl [2, 3, 0] rfl) k7_0
        refine lv_if_gt (tgt := 65) hx hb dX3_place_32 (by decide) (fun c_32 => ?_) (fun c_32 => ?_)
        · have hf := ok_t c_32 hf
          refine lv_iconst (v := 1) hx hb dX3_place_65 (by decide) ?_
          refine lv_goto (tgt := 70) hx hb dX3_place_66 (by decide) ?_
          exact hJ70 1 _ _ _ hf (hP.sub [0, 1, 2] rfl) (hD.sub [0, 1, 2] (by decide) rfl) hS (lv_sub hl [1, 2, 3, 0] rfl)
        · have hf := ok_f c_32 hf
          refine lv_aload_n hx hb dX3_place_35 rfl (lv_at hl 1 rfl) ?_
          refine va_get (D := (dC, dI)) (ci := 3) (v := .ref qf) (C := "ClassGroupModel") (T := TX3) (N := 20) hx hb hts (fun w h => List.mem_cons_of_mem _ (iwX3 w h)) hown hK hP 0 rfl rfl 4 (by decide) (hts _ (List.mem_cons_of_mem _ kw_511)) (fun _ h9 => h9) rfl dX3_place_36 ?_
          refine lv_iload_n hx hb dX3_place_39 rfl (lv_at hl 0 rfl) ?_
          obtain ⟨g_40, hf⟩ := ok_g hf
          refine va_iald hx hb hK hP 1 0 rfl rfl g_40 dX3_place_40 ?_
          refine lv_i2l (v := ((Bf (v3_3).toNatClampNeg)).toInt64) hx hb dX3_place_41 rfl ?_
          refine lv_aload_n hx hb dX3_place_42 rfl (lv_at hl 1 rfl) ?_
          refine va_get (D := (dC, dI)) (ci := 3) (v := .long ma) (C := "ClassGroupModel") (T := TX3) (N := 20) hx hb hts (fun w h => List.mem_cons_of_mem _ (iwX3 w h)) hown hK hP 0 rfl rfl 17 (by decide) (hts _ (List.mem_cons_of_mem _ kw_524)) (fun _ h9 => h9) rfl dX3_place_43 ?_
          refine W.lcmp hx hb dX3_place_46 ?_
          refine lv_if_ne (tgt := 69) hx hb dX3_place_47 (by decide) (fun c_47 => ?_) (fun c_47 => ?_)
          · have hf := ok_f c_47 hf
            refine lv_iconst (v := 0) hx hb dX3_place_69 (by decide) ?_
            exact hJ70 0 _ _ _ hf (hP.sub [0, 1, 2] rfl) (hD.sub [0, 1, 2] (by decide) rfl) hS (lv_sub hl [1, 2, 3, 0] rfl)
          · have hf := ok_t c_47 hf
            refine lv_aload_n hx hb dX3_place_50 rfl (lv_at hl 1 rfl) ?_
            refine va_get (D := (dC, dI)) (ci := 3) (v := .ref qm) (C := "ClassGroupModel") (T := TX3) (N := 20) hx hb hts (fun w h => List.mem_cons_of_mem _ (iwX3 w h)) hown hK hP 0 rfl rfl 5 (by decide) (hts _ (List.mem_cons_of_mem _ kw_512)) (fun _ h9 => h9) rfl dX3_place_51 ?_
            refine lv_iload_n hx hb dX3_place_54 rfl (lv_at hl 0 rfl) ?_
            obtain ⟨g_55, hf⟩ := ok_g hf
            refine va_iald hx hb hK hP 2 1 rfl rfl g_55 dX3_place_55 ?_
            refine lv_i2l (v := ((Bm (v3_3).toNatClampNeg)).toInt64) hx hb dX3_place_56 rfl ?_
            refine lv_aload_n hx hb dX3_place_57 rfl (lv_at hl 1 rfl) ?_
            refine va_get (D := (dC, dI)) (ci := 3) (v := .long mb) (C := "ClassGroupModel") (T := TX3) (N := 20) hx hb hts (fun w h => List.mem_cons_of_mem _ (iwX3 w h)) hown hK hP 0 rfl rfl 18 (by decide) (hts _ (List.mem_cons_of_mem _ kw_525)) (fun _ h9 => h9) rfl dX3_place_58 ?_
            refine W.lcmp hx hb dX3_place_61 ?_
            refine lv_if_le (tgt := 69) hx hb dX3_place_62 (by decide) (fun c_62 => ?_) (fun c_62 => ?_)
            · have hf := ok_t c_62 hf
              refine lv_iconst (v := 0) hx hb dX3_place_69 (by decide) ?_
              exact hJ70 0 _ _ _ hf (hP.sub [0, 1, 2] rfl) (hD.sub [0, 1, 2] (by decide) rfl) hS (lv_sub hl [1, 2, 3, 0] rfl)
            · have hf := ok_f c_62 hf
              refine lv_iconst (v := 1) hx hb dX3_place_65 (by decide) ?_
              refine lv_goto (tgt := 70) hx hb dX3_place_66 (by decide) ?_
              exact hJ70 1 _ _ _ hf (hP.sub [0, 1, 2] rfl) (hD.sub [0, 1, 2] (by decide) rfl) hS (lv_sub hl [1, 2, 3, 0] rfl)
  obtain ⟨res7, hL7_r, hf⟩ := ok_b hf
  refine hL7 F 0 mfo res7 _ _ _ _ hL7_r (hP.sub [0, 1, 2] rfl) (hD.sub [0, 1, 2] (by decide) rfl) hS (lv_sub hl [2, 1, 0] rfl) (fun x1_5 H locs ls hres hP hD hS hl => ?_)
  subst hres
  refine lv_iload_n hx hb dX3_place_87 rfl (lv_at hl 0 rfl) ?_
  have hP9 := hP.sub (ws' := [(qh, .inr (3, [.int mco, .long md, .long mw, .int mfo, .ref qf, .ref qm, .ref qk, .int mmy, .ref qn, .ref qo, .ref qi, .ref qx, .int mpr, .int mgn, .ref qg, .int mli, .ref ql, .long ma, .long mb, .long mc])), (qf, .inl (uf, 40960, .inl Bf)), (qm, .inl (um, 40960, .inl Bm))]) [0, 1, 2] rfl
  have hD9 := hD.sub (ws' := [(qh, .inr (3, [.int mco, .long md, .long mw, .int mfo, .ref qf, .ref qm, .ref qk, .int mmy, .ref qn, .ref qo, .ref qi, .ref qx, .int mpr, .int mgn, .ref qg, .int mli, .ref ql, .long ma, .long mb, .long mc])), (qf, .inl (uf, 40960, .inl Bf)), (qm, .inl (um, 40960, .inl Bm))]) [0, 1, 2] (by decide) rfl
  have hK9 := hK.sub (tys' := [(uf, .int), (um, .int)]) [0, 1] rfl
  exact W.iret (v := x1_5) hx hb hr (fun t ht hW => ⟨⟨x1_5, (), rfl, (Option.some.inj hf), by rw [ht]; exact hP9, va_K.moved hW.alike hK9, hD9⟩, hS.F ht⟩) hS.2.2 dX3_place_88

def f_m_gather_L57 (F : Nat) (md : Int64) (mw : Int64) (mfo : Int32) (Bf : Nat → Int32) (Bm : Nat → Int32) : Nat → Int32 → Int32 → (Nat → Int32) → (Nat → Int32) → Int64 → Int64 → Int64 → Option (Int32 × (Nat → Int32) × (Nat → Int32) × Int64 × Int64 × Int64)
  | 0, _, _, _, _, _, _, _ => none
  | n57 + 1, w2_12, m_mmy_13, m_Bk_14, m_Bn_15, m_ma_16, m_mb_17, m_mc_18 => (if vin w2_12 40960 then (if (0 : Int32) ≤ (m_Bk_14 (w2_12).toNatClampNeg) then some (m_mmy_13, m_Bk_14, m_Bn_15, m_ma_16, m_mb_17, m_mc_18) else (if vin w2_12 40960 then bnd (upd m_Bk_14 (w2_12).toNatClampNeg m_mmy_13) (fun A_19 => bnd (fun (q_ma_20 : Int64) (q_mb_21 : Int64) (q_mc_22 : Int64) => (Option.bind (f_m_place F mfo Bf Bm q_ma_20 q_mb_21) (fun r_23 => f_m_gather_L57 F md mw mfo Bf Bm n57 r_23 m_mmy_13 A_19 m_Bn_15 q_ma_20 q_mb_21 q_mc_22) : Option (Int32 × (Nat → Int32) × (Nat → Int32) × Int64 × Int64 × Int64))) (fun kJ89 => (if (lg_cmp md 0) ≤ 0 then kJ89 m_ma_16 m_mb_17 m_mc_18 else Option.bind (f_m_step F md mw m_ma_16 m_mb_17 m_mc_18) (fun (u_ma_24, u_mb_25, u_mc_26) => kJ89 u_ma_24 u_mb_25 u_mc_26)))) else none)) else none)
def f_m_gather_L7 (F : Nat) (md : Int64) (mw : Int64) (mfo : Int32) (Bf : Nat → Int32) (Bm : Nat → Int32) : Nat → Int32 → Int32 → (Nat → Int32) → (Nat → Int32) → Int64 → Int64 → Int64 → Option (Int32 × (Nat → Int32) × (Nat → Int32) × Int64 × Int64 × Int64)
  | 0, _, _, _, _, _, _, _ => none
  | n7 + 1, w1_1, m_mmy_2, m_Bk_3, m_Bn_4, m_ma_5, m_mb_6, m_mc_7 => (if mfo ≤ w1_1 then some (m_mmy_2, m_Bk_3, m_Bn_4, m_ma_5, m_mb_6, m_mc_7) else (if vin w1_1 40960 then (if (m_Bk_3 (w1_1).toNatClampNeg) < 0 then (if vin w1_1 40960 then (if vin w1_1 40960 then Option.bind (f_m_be F md (((Bf (w1_1).toNatClampNeg)).toInt64) (((Bm (w1_1).toNatClampNeg)).toInt64)) (fun (u_ma_8, u_mb_9, u_mc_10) => (if vin m_mmy_2 4096 then bnd (upd m_Bn_4 (m_mmy_2).toNatClampNeg w1_1) (fun A_11 => Option.bind (f_m_gather_L57 F md mw mfo Bf Bm F w1_1 m_mmy_2 m_Bk_3 A_11 u_ma_8 u_mb_9 u_mc_10) (fun (y_mmy_27, y_Bk_28, y_Bn_29, y_ma_30, y_mb_31, y_mc_32) => bnd (y_mmy_27 + 1) (fun f_many_33 => bnd (w1_1 + 1) (fun v1_34 => f_m_gather_L7 F md mw mfo Bf Bm n7 v1_34 f_many_33 y_Bk_28 y_Bn_29 y_ma_30 y_mb_31 y_mc_32)))) else none)) else none) else none) else bnd (w1_1 + 1) (fun v1_35 => f_m_gather_L7 F md mw mfo Bf Bm n7 v1_35 m_mmy_2 m_Bk_3 m_Bn_4 m_ma_5 m_mb_6 m_mc_7)) else none))
def f_m_gather (F : Nat) (md : Int64) (mw : Int64) (mfo : Int32) (Bf : Nat → Int32) (Bm : Nat → Int32) (Bk : Nat → Int32) (Bn : Nat → Int32) (ma : Int64) (mb : Int64) (mc : Int64) : Option (Int32 × (Nat → Int32) × (Nat → Int32) × Int64 × Int64 × Int64) := Option.bind (f_m_gather_L7 F md mw mfo Bf Bm F 0 0 Bk Bn ma mb mc) (fun (y_mmy_36, y_Bk_37, y_Bn_38, y_ma_39, y_mb_40, y_mc_41) => some (y_mmy_36, y_Bk_37, y_Bn_38, y_ma_39, y_mb_40, y_mc_41))
set_option maxHeartbeats 4000000 in
set_option maxRecDepth 100000 in
theorem c_m_gather (l : Launch) (dC : Nat → ClassId) (dI : Nat → Nat → Nat) (qh : Nat) (mco : Int32) (md : Int64) (mw : Int64) (mfo : Int32) (qf : Nat) (qm : Nat) (qk : Nat) (mmy : Int32) (qn : Nat) (qo : Nat) (qi : Nat) (qx : Nat) (mpr : Int32) (mgn : Int32) (qg : Nat) (mli : Int32) (ql : Nat) (ma : Int64) (mb : Int64) (mc : Int64) (uf : ClassId) (Bf : Nat → Int32) (um : ClassId) (Bm : Nat → Int32) (uk : ClassId) (Bk : Nat → Int32) (un : ClassId) (Bn : Nat → Int32) (sz : Nat) (F : Nat) (out : Int32 × (Nat → Int32) × (Nat → Int32) × Int64 × Int64 × Int64) (hf : f_m_gather F md mw mfo Bf Bm Bk Bn ma mb mc = some out) : Met l yX3_gather wsX3_gather ({ frames := 2, cells := 0, slots := 0, locals := 50 }) (va_Pc [.ref qh] (fun U => U.heap.size = sz ∧ va_P (dC, dI) vwCl [(qh, .inr (3, [.int mco, .long md, .long mw, .int mfo, .ref qf, .ref qm, .ref qk, .int mmy, .ref qn, .ref qo, .ref qi, .ref qx, .int mpr, .int mgn, .ref qg, .int mli, .ref ql, .long ma, .long mb, .long mc])), (qf, .inl (uf, 40960, .inl Bf)), (qm, .inl (um, 40960, .inl Bm)), (qk, .inl (uk, 40960, .inl Bk)), (qn, .inl (un, 4096, .inl Bn))] U.heap ∧ va_K (dC, dI) vwCl [(uf, .int), (um, .int), (uk, .int), (un, .int)] U ∧ va_D (fun _ => True) [(qh, .inr (3, [.int mco, .long md, .long mw, .int mfo, .ref qf, .ref qm, .ref qk, .int mmy, .ref qn, .ref qo, .ref qi, .ref qx, .int mpr, .int mgn, .ref qg, .int mli, .ref ql, .long ma, .long mb, .long mc])), (qf, .inl (uf, 40960, .inl Bf)), (qm, .inl (um, 40960, .inl Bm)), (qk, .inl (uk, 40960, .inl Bk)), (qn, .inl (un, 4096, .inl Bn))])) (va_Qv (fun (u : Int32 × (Nat → Int32) × (Nat → Int32) × Int64 × Int64 × Int64) => u = out) (fun (u : Int32 × (Nat → Int32) × (Nat → Int32) × Int64 × Int64 × Int64) t => match u with | (u_mmy, u_Bk, u_Bn, u_ma, u_mb, u_mc) => va_P (dC, dI) vwCl [(qh, .inr (3, [.int mco, .long md, .long mw, .int mfo, .ref qf, .ref qm, .ref qk, .int u_mmy, .ref qn, .ref qo, .ref qi, .ref qx, .int mpr, .int mgn, .ref qg, .int mli, .ref ql, .long u_ma, .long u_mb, .long u_mc])), (qf, .inl (uf, 40960, .inl Bf)), (qm, .inl (um, 40960, .inl Bm)), (qk, .inl (uk, 40960, .inl u_Bk)), (qn, .inl (un, 4096, .inl u_Bn))] t.heap ∧ va_K (dC, dI) vwCl [(uf, .int), (um, .int), (uk, .int), (un, .int)] t ∧ va_D (va_A [(qh, .inr (3, [.int mco, .long md, .long mw, .int mfo, .ref qf, .ref qm, .ref qk, .int mmy, .ref qn, .ref qo, .ref qi, .ref qx, .int mpr, .int mgn, .ref qg, .int mli, .ref ql, .long ma, .long mb, .long mc])), (qf, .inl (uf, 40960, .inl Bf)), (qm, .inl (um, 40960, .inl Bm)), (qk, .inl (uk, 40960, .inl Bk)), (qn, .inl (un, 4096, .inl Bn))] sz) [(qh, .inr (3, [.int mco, .long md, .long mw, .int mfo, .ref qf, .ref qm, .ref qk, .int u_mmy, .ref qn, .ref qo, .ref qi, .ref qx, .int mpr, .int mgn, .ref qg, .int mli, .ref ql, .long u_ma, .long u_mb, .long u_mc])), (qf, .inl (uf, 40960, .inl Bf)), (qm, .inl (um, 40960, .inl Bm)), (qk, .inl (uk, 40960, .inl u_Bk)), (qn, .inl (un, 4096, .inl u_Bn))]) (va_A [(qh, .inr (3, [.int mco, .long md, .long mw, .int mfo, .ref qf, .ref qm, .ref qk, .int mmy, .ref qn, .ref qo, .ref qi, .ref qx, .int mpr, .int mgn, .ref qg, .int mli, .ref ql, .long ma, .long mb, .long mc])), (qf, .inl (uf, 40960, .inl Bf)), (qm, .inl (um, 40960, .inl Bm)), (qk, .inl (uk, 40960, .inl Bk)), (qn, .inl (un, 4096, .inl Bn))] sz)) 0 0 (va_A [(qh, .inr (3, [.int mco, .long md, .long mw, .int mfo, .ref qf, .ref qm, .ref qk, .int mmy, .ref qn, .ref qo, .ref qi, .ref qx, .int mpr, .int mgn, .ref qg, .int mli, .ref ql, .long ma, .long mb, .long mc])), (qf, .inl (uf, 40960, .inl Bf)), (qm, .inl (um, 40960, .inl Bm)), (qk, .inl (uk, 40960, .inl Bk)), (qn, .inl (un, 4096, .inl Bn))] sz) := by
  refine Met.ofW (cc := cX3_gather) (maxL := 3) (ret := none) (by decide +kernel) rfl ?_
  intro p e s m args below meth c s₁ B hml hv
  obtain ⟨rfl, hsz, hP, hK, hD0⟩ := hv
  have hx := B.exec
  have hb := B.bytes
  have hr := B.returns
  have hts := atoms_spec (ws := wsX3_gather) B.pre
  have hown : s.vm.findClass "ClassGroupModel" = some m.cls := findClass_of_methodNamed B.named
  have hlocks := B.notSynchronized
  subst hsz
  have hD := hD0.self (sz := s.heap.size)
  generalize hAe : va_A [(qh, .inr (3, [.int mco, .long md, .long mw, .int mfo, .ref qf, .ref qm, .ref qk, .int mmy, .ref qn, .ref qo, .ref qi, .ref qx, .int mpr, .int mgn, .ref qg, .int mli, .ref ql, .long ma, .long mb, .long mc])), (qf, .inl (uf, 40960, .inl Bf)), (qm, .inl (um, 40960, .inl Bm)), (qk, .inl (uk, 40960, .inl Bk)), (qn, .inl (un, 4096, .inl Bn))] s.heap.size = A at hD ⊢
  have hA : ∀ q : Nat, s.heap.size ≤ q → A q := fun q h => by rw [← hAe]; exact Or.inr h
  have hS : va_S A s.heap s.heap [] := va_S.rf
  have hl := lv_entry ([.ref qh]) (n := 3) (Nat.le_of_ble_eq_true rfl)
  rw [lg_entry_eq]
  generalize (lg_sl ([.ref qh]) ++ List.replicate (3 - (lg_sl ([.ref qh])).length) Slot.unset).toArray = ls at hl ⊢
  have hl : lv_has ls 3 [(0, .ref qh)] := hl
  unfold f_m_gather at hf
  refine lv_aload_n hx hb dX3_gather_0 rfl (lv_at hl 0 rfl) ?_
  refine lv_iconst (v := 0) hx hb dX3_gather_1 (by decide) ?_
  refine va_put (D := (dC, dI)) (ci := 3) (v := .int 0) (ty := .int) (C := "ClassGroupModel") (T := TX3) (N := 20) hx hb hts (fun w h => List.mem_cons_of_mem _ (iwX3 w h)) tyX3 tyokX3 nmX3 hown hK hP hD hS 0 rfl rfl 7 (by decide) (hts _ (List.mem_cons_of_mem _ kw_514)) (fun _ h9 => h9) rfl (by decide +kernel) rfl rfl (Nat.le_of_ble_eq_true rfl) dX3_gather_2 (fun H locs hP hD hS => ?_)
  have hP : va_P (dC, dI) vwCl [(qh, .inr (3, [.int mco, .long md, .long mw, .int mfo, .ref qf, .ref qm, .ref qk, .int 0, .ref qn, .ref qo, .ref qi, .ref qx, .int mpr, .int mgn, .ref qg, .int mli, .ref ql, .long ma, .long mb, .long mc])), (qf, .inl (uf, 40960, .inl Bf)), (qm, .inl (um, 40960, .inl Bm)), (qk, .inl (uk, 40960, .inl Bk)), (qn, .inl (un, 4096, .inl Bn))] H := hP
  have hD : va_D A [(qh, .inr (3, [.int mco, .long md, .long mw, .int mfo, .ref qf, .ref qm, .ref qk, .int 0, .ref qn, .ref qo, .ref qi, .ref qx, .int mpr, .int mgn, .ref qg, .int mli, .ref ql, .long ma, .long mb, .long mc])), (qf, .inl (uf, 40960, .inl Bf)), (qm, .inl (um, 40960, .inl Bm)), (qk, .inl (uk, 40960, .inl Bk)), (qn, .inl (un, 4096, .inl Bn))] := hD
  refine lv_iconst (v := 0) hx hb dX3_gather_5 (by decide) ?_
  refine lv_istore_n (lv' := [(1, .int 0), (0, .ref qh)]) hx hb dX3_gather_6 rfl hl (by decide) rfl (fun ls hl => ?_)
  have hL7 : ∀ (n7 : Nat) (w1_1 : Int32) (m_mmy_2 : Int32) (m_Bk_3 : Nat → Int32) (m_Bn_4 : Nat → Int32) (m_ma_5 : Int64) (m_mb_6 : Int64) (m_mc_7 : Int64) (res : Int32 × (Nat → Int32) × (Nat → Int32) × Int64 × Int64 × Int64) (H : Heap) (locs : List Loc) (ls : Array Slot) (Q : State → Prop), f_m_gather_L7 F md mw mfo Bf Bm n7 w1_1 m_mmy_2 m_Bk_3 m_Bn_4 m_ma_5 m_mb_6 m_mc_7 = some res → va_P (dC, dI) vwCl [(qh, .inr (3, [.int mco, .long md, .long mw, .int mfo, .ref qf, .ref qm, .ref qk, .int m_mmy_2, .ref qn, .ref qo, .ref qi, .ref qx, .int mpr, .int mgn, .ref qg, .int mli, .ref ql, .long m_ma_5, .long m_mb_6, .long m_mc_7])), (qf, .inl (uf, 40960, .inl Bf)), (qm, .inl (um, 40960, .inl Bm)), (qk, .inl (uk, 40960, .inl m_Bk_3)), (qn, .inl (un, 4096, .inl m_Bn_4))] H → va_D A [(qh, .inr (3, [.int mco, .long md, .long mw, .int mfo, .ref qf, .ref qm, .ref qk, .int m_mmy_2, .ref qn, .ref qo, .ref qi, .ref qx, .int mpr, .int mgn, .ref qg, .int mli, .ref ql, .long m_ma_5, .long m_mb_6, .long m_mc_7])), (qf, .inl (uf, 40960, .inl Bf)), (qm, .inl (um, 40960, .inl Bm)), (qk, .inl (uk, 40960, .inl m_Bk_3)), (qn, .inl (un, 4096, .inl m_Bn_4))] → va_S A s.heap H locs → lv_has ls 3 [(0, .ref qh), (1, .int w1_1)] → (∀ (y_mmy_36 : Int32) (y_Bk_37 : Nat → Int32) (y_Bn_38 : Nat → Int32) (y_ma_39 : Int64) (y_mb_40 : Int64) (y_mc_41 : Int64) (H : Heap) (locs : List Loc) (ls : Array Slot), (y_mmy_36, y_Bk_37, y_Bn_38, y_ma_39, y_mb_40, y_mc_41) = res → va_P (dC, dI) vwCl [(qh, .inr (3, [.int mco, .long md, .long mw, .int mfo, .ref qf, .ref qm, .ref qk, .int y_mmy_36, .ref qn, .ref qo, .ref qi, .ref qx, .int mpr, .int mgn, .ref qg, .int mli, .ref ql, .long y_ma_39, .long y_mb_40, .long y_mc_41])), (qf, .inl (uf, 40960, .inl Bf)), (qm, .inl (um, 40960, .inl Bm)), (qk, .inl (uk, 40960, .inl y_Bk_37)), (qn, .inl (un, 4096, .inl y_Bn_38))] H → va_D A [(qh, .inr (3, [.int mco, .long md, .long mw, .int mfo, .ref qf, .ref qm, .ref qk, .int y_mmy_36, .ref qn, .ref qo, .ref qi, .ref qx, .int mpr, .int mgn, .ref qg, .int mli, .ref ql, .long y_ma_39, .long y_mb_40, .long y_mc_41])), (qf, .inl (uf, 40960, .inl Bf)), (qm, .inl (um, 40960, .inl Bm)), (qk, .inl (uk, 40960, .inl y_Bk_37)), (qn, .inl (un, 4096, .inl y_Bn_38))] → va_S A s.heap H locs → lv_has ls 3 [] → W p l e ((headSpec wsX3_gather ({ frames := 2, cells := 0, slots := 0, locals := 50 })).room) s m ([.ref qh] : List Value).toArray below meth c H locs 0 0 Q (F0 m 113 ls [])) → W p l e ((headSpec wsX3_gather ({ frames := 2, cells := 0, slots := 0, locals := 50 })).room) s m ([.ref qh] : List Value).toArray below meth c H locs 0 0 Q (F0 m 7 ls []) := by
    intro n7
    induction n7 with
    | zero => intro w1_1 m_mmy_2 m_Bk_3 m_Bn_4 m_ma_5 m_mb_6 m_mc_7 res H locs ls Q hf; simp [f_m_gather_L7] at hf
    | succ n7 ih7 =>
      intro w1_1 m_mmy_2 m_Bk_3 m_Bn_4 m_ma_5 m_mb_6 m_mc_7 res H locs ls Q hf hP hD hS hl k7_0
      rw [f_m_gather_L7] at hf
      refine lv_iload_n hx hb dX3_gather_7 rfl (lv_at hl 1 rfl) ?_
      refine lv_aload_n hx hb dX3_gather_8 rfl (lv_at hl 0 rfl) ?_
      refine va_get (D := (dC, dI)) (ci := 3) (v := .int mfo) (C := "ClassGroupModel") (T := TX3) (N := 20) hx hb hts (fun w h => List.mem_cons_of_mem _ (iwX3 w h)) hown hK hP 0 rfl rfl 3 (by decide) (hts _ (List.mem_cons_of_mem _ kw_510)) (fun _ h9 => h9) rfl dX3_gather_9 ?_
      refine lv_icmp_ge (tgt := 113) hx hb dX3_gather_12 (by decide) (fun c_12 => ?_) (fun c_12 => ?_)
      · have hf := ok_t c_12 hf
        exact k7_0 m_mmy_2 m_Bk_3 m_Bn_4 m_ma_5 m_mb_6 m_mc_7 _ _ _ (Option.some.inj hf) (hP.sub [0, 1, 2, 3, 4] rfl) (hD.sub [0, 1, 2, 3, 4] (by decide) rfl) hS (lv_sub hl [] rfl)
      · have hf := ok_f c_12 hf
        refine lv_aload_n hx hb dX3_gather_15 rfl (lv_at hl 0 rfl) ?_
        refine va_get (D := (dC, dI)) (ci := 3) (v := .ref qk) (C := "ClassGroupModel") (T := TX3) (N := 20) hx hb hts (fun w h => List.mem_cons_of_mem _ (iwX3 w h)) hown hK hP 0 rfl rfl 6 (by decide) (hts _ (List.mem_cons_of_mem _ kw_513)) (fun _ h9 => h9) rfl dX3_gather_16 ?_
        refine lv_iload_n hx hb dX3_gather_19 rfl (lv_at hl 1 rfl) ?_
        obtain ⟨g_20, hf⟩ := ok_g hf
        refine va_iald hx hb hK hP 3 2 rfl rfl g_20 dX3_gather_20 ?_
        refine lv_if_lt (tgt := 27) hx hb dX3_gather_21 (by decide) (fun c_21 => ?_) (fun c_21 => ?_)
        · have hf := ok_t c_21 hf
          refine lv_aload_n hx hb dX3_gather_27 rfl (lv_at hl 0 rfl) ?_
          refine lv_aload_n hx hb dX3_gather_28 rfl (lv_at hl 0 rfl) ?_
          refine va_get (D := (dC, dI)) (ci := 3) (v := .ref qf) (C := "ClassGroupModel") (T := TX3) (N := 20) hx hb hts (fun w h => List.mem_cons_of_mem _ (iwX3 w h)) hown hK hP 0 rfl rfl 4 (by decide) (hts _ (List.mem_cons_of_mem _ kw_511)) (fun _ h9 => h9) rfl dX3_gather_29 ?_
          refine lv_iload_n hx hb dX3_gather_32 rfl (lv_at hl 1 rfl) ?_
          obtain ⟨g_33, hf⟩ := ok_g hf
          refine va_iald hx hb hK hP 1 0 rfl rfl g_33 dX3_gather_33 ?_
          refine lv_i2l (v := ((Bf (w1_1).toNatClampNeg)).toInt64) hx hb dX3_gather_34 rfl ?_
          refine lv_aload_n hx hb dX3_gather_35 rfl (lv_at hl 0 rfl) ?_
          refine va_get (D := (dC, dI)) (ci := 3) (v := .ref qm) (C := "ClassGroupModel") (T := TX3) (N := 20) hx hb hts (fun w h => List.mem_cons_of_mem _ (iwX3 w h)) hown hK hP 0 rfl rfl 5 (by decide) (hts _ (List.mem_cons_of_mem _ kw_512)) (fun _ h9 => h9) rfl dX3_gather_36 ?_
          refine lv_iload_n hx hb dX3_gather_39 rfl (lv_at hl 1 rfl) ?_
          obtain ⟨g_40, hf⟩ := ok_g hf
          refine va_iald hx hb hK hP 2 1 rfl rfl g_40 dX3_gather_40 ?_
          refine lv_i2l (v := ((Bm (w1_1).toNatClampNeg)).toInt64) hx hb dX3_gather_41 rfl ?_
          obtain ⟨xc42, hc42, hf⟩ := ok_b hf
          have hPc := hP.sub (ws' := [(qh, .inr (3, [.int mco, .long md, .long mw, .int mfo, .ref qf, .ref qm, .ref qk, .int m_mmy_2, .ref qn, .ref qo, .ref qi, .ref qx, .int mpr, .int mgn, .ref qg, .int mli, .ref ql, .long m_ma_5, .long m_mb_6, .long m_mc_7]))]) [0] rfl
          have hDc := hD.sub (ws' := [(qh, .inr (3, [.int mco, .long md, .long mw, .int mfo, .ref qf, .ref qm, .ref qk, .int m_mmy_2, .ref qn, .ref qo, .ref qi, .ref qx, .int mpr, .int mgn, .ref qg, .int mli, .ref ql, .long m_ma_5, .long m_mb_6, .long m_mc_7]))]) [0] (by decide) rfl
          have hKc := hK.sub (tys' := []) [] rfl
          have hFc := va_free (wc := [(qh, .inr (3, [.int mco, .long md, .long mw, .int mfo, .ref qf, .ref qm, .ref qk, .int m_mmy_2, .ref qn, .ref qo, .ref qi, .ref qx, .int mpr, .int mgn, .ref qg, .int mli, .ref ql, .long m_ma_5, .long m_mb_6, .long m_mc_7]))]) hD hS hA [0] rfl
          refine va_callv (va_runV (As := [.long ((Bf (w1_1).toNatClampNeg)).toInt64, .long ((Bm (w1_1).toNatClampNeg)).toInt64]) (rest := []) ⟨hx, hb, hml, hown, hts⟩ (c_m_be l dC dI qh mco md mw mfo qf qm qk m_mmy_2 qn qo qi qx mpr mgn qg mli ql m_ma_5 m_mb_6 m_mc_7 (((Bf (w1_1).toNatClampNeg)).toInt64) (((Bm (w1_1).toNatClampNeg)).toInt64) H.size F xc42 hc42) (cwV 2 hts (gwV kw_452 kw_454 ks_29 kw_5 kw_455) rfl rfl rfl (by decide +kernel) ⟨Nat.le_of_ble_eq_true rfl, Nat.le_of_ble_eq_true rfl⟩) ⟨fun a U g mk q => by obtain ⟨q0, q1, qP, qK, qD⟩ := q; exact ⟨q0, q1, qP, va_K.moved (u := U) (U := U.calling g mk a) (Vm.Alike.refl U.vm) qK, qD⟩, va_recv hKc hPc (ci := 3) (q0 := 0) rfl rfl, fun U hU hW => ⟨rfl, by rw [hU], by rw [hU]; exact hPc, va_K.moved hW.alike hKc, hDc.weaken (fun _ _ _ _ => trivial)⟩⟩ rfl rfl hl.1 rfl (lv_room (Nat.le_of_ble_eq_true rfl)) dX3_gather_42 ⟨Nat.zero_le _, Nat.zero_le _⟩) hS (fun q _ h => hFc q h) hFc (fun u t H1 locs ht hvm hw hB hz1 hk1 hS => ?_)
          obtain ⟨u_ma_8, u_mb_9, u_mc_10⟩ := u
          obtain ⟨hP1, hK1, hD1⟩ := hB
          rw [ht] at hP1
          subst hw
          obtain ⟨hP, hD⟩ := va_join (wr := [(qf, .inl (uf, 40960, .inl Bf)), (qm, .inl (um, 40960, .inl Bm)), (qk, .inl (uk, 40960, .inl m_Bk_3)), (qn, .inl (un, 4096, .inl m_Bn_4))]) (w1 := [(qh, .inr (3, [.int mco, .long md, .long mw, .int mfo, .ref qf, .ref qm, .ref qk, .int m_mmy_2, .ref qn, .ref qo, .ref qi, .ref qx, .int mpr, .int mgn, .ref qg, .int mli, .ref ql, .long u_ma_8, .long u_mb_9, .long u_mc_10]))]) hP hD [0] [1, 2, 3, 4] rfl rfl (by decide) (by decide) hk1 hFc hP1 hD1
          generalize H1 = H at hP hS ⊢
          have hP : va_P (dC, dI) vwCl [(qf, .inl (uf, 40960, .inl Bf)), (qm, .inl (um, 40960, .inl Bm)), (qk, .inl (uk, 40960, .inl m_Bk_3)), (qn, .inl (un, 4096, .inl m_Bn_4)), (qh, .inr (3, [.int mco, .long md, .long mw, .int mfo, .ref qf, .ref qm, .ref qk, .int m_mmy_2, .ref qn, .ref qo, .ref qi, .ref qx, .int mpr, .int mgn, .ref qg, .int mli, .ref ql, .long u_ma_8, .long u_mb_9, .long u_mc_10]))] H := hP
          have hD : va_D A [(qf, .inl (uf, 40960, .inl Bf)), (qm, .inl (um, 40960, .inl Bm)), (qk, .inl (uk, 40960, .inl m_Bk_3)), (qn, .inl (un, 4096, .inl m_Bn_4)), (qh, .inr (3, [.int mco, .long md, .long mw, .int mfo, .ref qf, .ref qm, .ref qk, .int m_mmy_2, .ref qn, .ref qo, .ref qi, .ref qx, .int mpr, .int mgn, .ref qg, .int mli, .ref ql, .long u_ma_8, .long u_mb_9, .long u_mc_10]))] := hD
          refine lv_aload_n hx hb dX3_gather_45 rfl (lv_at hl 0 rfl) ?_
          refine va_get (D := (dC, dI)) (ci := 3) (v := .ref qn) (C := "ClassGroupModel") (T := TX3) (N := 20) hx hb hts (fun w h => List.mem_cons_of_mem _ (iwX3 w h)) hown hK hP 4 rfl rfl 8 (by decide) (hts _ (List.mem_cons_of_mem _ kw_515)) (fun _ h9 => h9) rfl dX3_gather_46 ?_
          refine lv_aload_n hx hb dX3_gather_49 rfl (lv_at hl 0 rfl) ?_
          refine va_get (D := (dC, dI)) (ci := 3) (v := .int m_mmy_2) (C := "ClassGroupModel") (T := TX3) (N := 20) hx hb hts (fun w h => List.mem_cons_of_mem _ (iwX3 w h)) hown hK hP 4 rfl rfl 7 (by decide) (hts _ (List.mem_cons_of_mem _ kw_514)) (fun _ h9 => h9) rfl dX3_gather_50 ?_
          refine lv_iload_n hx hb dX3_gather_53 rfl (lv_at hl 1 rfl) ?_
          obtain ⟨g_54, hf⟩ := ok_g hf
          refine va_iast hx hb hK hP hD hS 3 3 rfl rfl g_54 dX3_gather_54 (fun H locs hP hD hS => ?_)
          have hP : va_P (dC, dI) vwCl [(qf, .inl (uf, 40960, .inl Bf)), (qm, .inl (um, 40960, .inl Bm)), (qk, .inl (uk, 40960, .inl m_Bk_3)), (qn, .inl (un, 4096, .inl (upd m_Bn_4 (m_mmy_2).toNatClampNeg w1_1))), (qh, .inr (3, [.int mco, .long md, .long mw, .int mfo, .ref qf, .ref qm, .ref qk, .int m_mmy_2, .ref qn, .ref qo, .ref qi, .ref qx, .int mpr, .int mgn, .ref qg, .int mli, .ref ql, .long u_ma_8, .long u_mb_9, .long u_mc_10]))] H := hP
          have hD : va_D A [(qf, .inl (uf, 40960, .inl Bf)), (qm, .inl (um, 40960, .inl Bm)), (qk, .inl (uk, 40960, .inl m_Bk_3)), (qn, .inl (un, 4096, .inl (upd m_Bn_4 (m_mmy_2).toNatClampNeg w1_1))), (qh, .inr (3, [.int mco, .long md, .long mw, .int mfo, .ref qf, .ref qm, .ref qk, .int m_mmy_2, .ref qn, .ref qo, .ref qi, .ref qx, .int mpr, .int mgn, .ref qg, .int mli, .ref ql, .long u_ma_8, .long u_mb_9, .long u_mc_10]))] := hD
          obtain ⟨A_11, eA_11⟩ : ∃ y : Nat → Int32, y = (upd m_Bn_4 (m_mmy_2).toNatClampNeg w1_1) := ⟨_, rfl⟩
          rw [← eA_11] at hP hD
          replace hf := bnd_ok eA_11 hf
          refine lv_iload_n hx hb dX3_gather_55 rfl (lv_at hl 1 rfl) ?_
          refine lv_istore_n (lv' := [(2, .int w1_1), (0, .ref qh), (1, .int w1_1)]) hx hb dX3_gather_56 rfl hl (by decide) rfl (fun ls hl => ?_)
          have hL57 : ∀ (n57 : Nat) (w2_12 : Int32) (m_mmy_13 : Int32) (m_Bk_14 : Nat → Int32) (m_Bn_15 : Nat → Int32) (m_ma_16 : Int64) (m_mb_17 : Int64) (m_mc_18 : Int64) (res : Int32 × (Nat → Int32) × (Nat → Int32) × Int64 × Int64 × Int64) (H : Heap) (locs : List Loc) (ls : Array Slot) (Q : State → Prop), f_m_gather_L57 F md mw mfo Bf Bm n57 w2_12 m_mmy_13 m_Bk_14 m_Bn_15 m_ma_16 m_mb_17 m_mc_18 = some res → va_P (dC, dI) vwCl [(qh, .inr (3, [.int mco, .long md, .long mw, .int mfo, .ref qf, .ref qm, .ref qk, .int m_mmy_13, .ref qn, .ref qo, .ref qi, .ref qx, .int mpr, .int mgn, .ref qg, .int mli, .ref ql, .long m_ma_16, .long m_mb_17, .long m_mc_18])), (qf, .inl (uf, 40960, .inl Bf)), (qm, .inl (um, 40960, .inl Bm)), (qk, .inl (uk, 40960, .inl m_Bk_14)), (qn, .inl (un, 4096, .inl m_Bn_15))] H → va_D A [(qh, .inr (3, [.int mco, .long md, .long mw, .int mfo, .ref qf, .ref qm, .ref qk, .int m_mmy_13, .ref qn, .ref qo, .ref qi, .ref qx, .int mpr, .int mgn, .ref qg, .int mli, .ref ql, .long m_ma_16, .long m_mb_17, .long m_mc_18])), (qf, .inl (uf, 40960, .inl Bf)), (qm, .inl (um, 40960, .inl Bm)), (qk, .inl (uk, 40960, .inl m_Bk_14)), (qn, .inl (un, 4096, .inl m_Bn_15))] → va_S A s.heap H locs → lv_has ls 3 [(0, .ref qh), (1, .int w1_1), (2, .int w2_12)] → (∀ (y_mmy_27 : Int32) (y_Bk_28 : Nat → Int32) (y_Bn_29 : Nat → Int32) (y_ma_30 : Int64) (y_mb_31 : Int64) (y_mc_32 : Int64) (H : Heap) (locs : List Loc) (ls : Array Slot), (y_mmy_27, y_Bk_28, y_Bn_29, y_ma_30, y_mb_31, y_mc_32) = res → va_P (dC, dI) vwCl [(qh, .inr (3, [.int mco, .long md, .long mw, .int mfo, .ref qf, .ref qm, .ref qk, .int y_mmy_27, .ref qn, .ref qo, .ref qi, .ref qx, .int mpr, .int mgn, .ref qg, .int mli, .ref ql, .long y_ma_30, .long y_mb_31, .long y_mc_32])), (qf, .inl (uf, 40960, .inl Bf)), (qm, .inl (um, 40960, .inl Bm)), (qk, .inl (uk, 40960, .inl y_Bk_28)), (qn, .inl (un, 4096, .inl y_Bn_29))] H → va_D A [(qh, .inr (3, [.int mco, .long md, .long mw, .int mfo, .ref qf, .ref qm, .ref qk, .int y_mmy_27, .ref qn, .ref qo, .ref qi, .ref qx, .int mpr, .int mgn, .ref qg, .int mli, .ref ql, .long y_ma_30, .long y_mb_31, .long y_mc_32])), (qf, .inl (uf, 40960, .inl Bf)), (qm, .inl (um, 40960, .inl Bm)), (qk, .inl (uk, 40960, .inl y_Bk_28)), (qn, .inl (un, 4096, .inl y_Bn_29))] → va_S A s.heap H locs → lv_has ls 3 [(0, .ref qh), (1, .int w1_1)] → W p l e ((headSpec wsX3_gather ({ frames := 2, cells := 0, slots := 0, locals := 50 })).room) s m ([.ref qh] : List Value).toArray below meth c H locs 0 0 Q (F0 m 97 ls [])) → W p l e ((headSpec wsX3_gather ({ frames := 2, cells := 0, slots := 0, locals := 50 })).room) s m ([.ref qh] : List Value).toArray below meth c H locs 0 0 Q (F0 m 57 ls []) := by
            intro n57
            induction n57 with
            | zero => intro w2_12 m_mmy_13 m_Bk_14 m_Bn_15 m_ma_16 m_mb_17 m_mc_18 res H locs ls Q hf; simp [f_m_gather_L57] at hf
            | succ n57 ih57 =>
              intro w2_12 m_mmy_13 m_Bk_14 m_Bn_15 m_ma_16 m_mb_17 m_mc_18 res H locs ls Q hf hP hD hS hl k57_0
              rw [f_m_gather_L57] at hf
              refine lv_aload_n hx hb dX3_gather_57 rfl (lv_at hl 0 rfl) ?_
              refine va_get (D := (dC, dI)) (ci := 3) (v := .ref qk) (C := "ClassGroupModel") (T := TX3) (N := 20) hx hb hts (fun w h => List.mem_cons_of_mem _ (iwX3 w h)) hown hK hP 0 rfl rfl 6 (by decide) (hts _ (List.mem_cons_of_mem _ kw_513)) (fun _ h9 => h9) rfl dX3_gather_58 ?_
              refine lv_iload_n hx hb dX3_gather_61 rfl (lv_at hl 2 rfl) ?_
              obtain ⟨g_62, hf⟩ := ok_g hf
              refine va_iald hx hb hK hP 3 2 rfl rfl g_62 dX3_gather_62 ?_
              refine lv_if_ge (tgt := 97) hx hb dX3_gather_63 (by decide) (fun c_63 => ?_) (fun c_63 => ?_)
              · have hf := ok_t c_63 hf
                exact k57_0 m_mmy_13 m_Bk_14 m_Bn_15 m_ma_16 m_mb_17 m_mc_18 _ _ _ (Option.some.inj hf) (hP.sub [0, 1, 2, 3, 4] rfl) (hD.sub [0, 1, 2, 3, 4] (by decide) rfl) hS (lv_sub hl [0, 1] rfl)
              · have hf := ok_f c_63 hf
                refine lv_aload_n hx hb dX3_gather_66 rfl (lv_at hl 0 rfl) ?_
                refine va_get (D := (dC, dI)) (ci := 3) (v := .ref qk) (C := "ClassGroupModel") (T := TX3) (N := 20) hx hb hts (fun w h => List.mem_cons_of_mem _ (iwX3 w h)) hown hK hP 0 rfl rfl 6 (by decide) (hts _ (List.mem_cons_of_mem _ kw_513)) (fun _ h9 => h9) rfl dX3_gather_67 ?_
                refine lv_iload_n hx hb dX3_gather_70 rfl (lv_at hl 2 rfl) ?_
                refine lv_aload_n hx hb dX3_gather_71 rfl (lv_at hl 0 rfl) ?_
                refine va_get (D := (dC, dI)) (ci := 3) (v := .int m_mmy_13) (C := "ClassGroupModel") (T := TX3) (N := 20) hx hb hts (fun w h => List.mem_cons_of_mem _ (iwX3 w h)) hown hK hP 0 rfl rfl 7 (by decide) (hts _ (List.mem_cons_of_mem _ kw_514)) (fun _ h9 => h9) rfl dX3_gather_72 ?_
                obtain ⟨g_75, hf⟩ := ok_g hf
                refine va_iast hx hb hK hP hD hS 3 2 rfl rfl g_75 dX3_gather_75 (fun H locs hP hD hS => ?_)
                have hP : va_P (dC, dI) vwCl [(qh, .inr (3, [.int mco, .long md, .long mw, .int mfo, .ref qf, .ref qm, .ref qk, .int m_mmy_13, .ref qn, .ref qo, .ref qi, .ref qx, .int mpr, .int mgn, .ref qg, .int mli, .ref ql, .long m_ma_16, .long m_mb_17, .long m_mc_18])), (qf, .inl (uf, 40960, .inl Bf)), (qm, .inl (um, 40960, .inl Bm)), (qk, .inl (uk, 40960, .inl (upd m_Bk_14 (w2_12).toNatClampNeg m_mmy_13))), (qn, .inl (un, 4096, .inl m_Bn_15))] H := hP
                have hD : va_D A [(qh, .inr (3, [.int mco, .long md, .long mw, .int mfo, .ref qf, .ref qm, .ref qk, .int m_mmy_13, .ref qn, .ref qo, .ref qi, .ref qx, .int mpr, .int mgn, .ref qg, .int mli, .ref ql, .long m_ma_16, .long m_mb_17, .long m_mc_18])), (qf, .inl (uf, 40960, .inl Bf)), (qm, .inl (um, 40960, .inl Bm)), (qk, .inl (uk, 40960, .inl (upd m_Bk_14 (w2_12).toNatClampNeg m_mmy_13))), (qn, .inl (un, 4096, .inl m_Bn_15))] := hD
                obtain ⟨A_19, eA_19⟩ : ∃ y : Nat → Int32, y = (upd m_Bk_14 (w2_12).toNatClampNeg m_mmy_13) := ⟨_, rfl⟩
                rw [← eA_19] at hP hD
                replace hf := bnd_ok eA_19 hf
                refine lv_aload_n hx hb dX3_gather_76 rfl (lv_at hl 0 rfl) ?_
                refine va_get (D := (dC, dI)) (ci := 3) (v := .long md) (C := "ClassGroupModel") (T := TX3) (N := 20) hx hb hts (fun w h => List.mem_cons_of_mem _ (iwX3 w h)) hown hK hP 0 rfl rfl 1 (by decide) (hts _ (List.mem_cons_of_mem _ kw_508)) (fun _ h9 => h9) rfl dX3_gather_77 ?_
                refine lv_lconst (v := 0) hx hb dX3_gather_80 (by decide) ?_
                refine W.lcmp hx hb dX3_gather_81 ?_
                obtain ⟨kJ89, ekJ89, hf⟩ := bnd_ex hf
                have hJ89 : ∀ (q_ma_20 : Int64) (q_mb_21 : Int64) (q_mc_22 : Int64) (H : Heap) (locs : List Loc) (ls : Array Slot), kJ89 q_ma_20 q_mb_21 q_mc_22 = some res → va_P (dC, dI) vwCl [(qh, .inr (3, [.int mco, .long md, .long mw, .int mfo, .ref qf, .ref qm, .ref qk, .int m_mmy_13, .ref qn, .ref qo, .ref qi, .ref qx, .int mpr, .int mgn, .ref qg, .int mli, .ref ql, .long q_ma_20, .long q_mb_21, .long q_mc_22])), (qf, .inl (uf, 40960, .inl Bf)), (qm, .inl (um, 40960, .inl Bm)), (qk, .inl (uk, 40960, .inl A_19)), (qn, .inl (un, 4096, .inl m_Bn_15))] H → va_D A [(qh, .inr (3, [.int mco, .long md, .long mw, .int mfo, .ref qf, .ref qm, .ref qk, .int m_mmy_13, .ref qn, .ref qo, .ref qi, .ref qx, .int mpr, .int mgn, .ref qg, .int mli, .ref ql, .long q_ma_20, .long q_mb_21, .long q_mc_22])), (qf, .inl (uf, 40960, .inl Bf)), (qm, .inl (um, 40960, .inl Bm)), (qk, .inl (uk, 40960, .inl A_19)), (qn, .inl (un, 4096, .inl m_Bn_15))] → va_S A s.heap H locs → lv_has ls 3 [(0, .ref qh), (1, .int w1_1)] → W p l e ((headSpec wsX3_gather ({ frames := 2, cells := 0, slots := 0, locals := 50 })).room) s m ([.ref qh] : List Value).toArray below meth c H locs 0 0 Q (F0 m 89 ls []) := by
                  intro q_ma_20 q_mb_21 q_mc_22 H locs ls hf hP hD hS hl
                  rw [ekJ89] at hf
                  refine lv_aload_n hx hb dX3_gather_89 rfl (lv_at hl 0 rfl) ?_
                  obtain ⟨xc90, hc90, hf⟩ := ok_b hf
                  have hPc := hP.sub (ws' := [(qh, .inr (3, [.int mco, .long md, .long mw, .int mfo, .ref qf, .ref qm, .ref qk, .int m_mmy_13, .ref qn, .ref qo, .ref qi, .ref qx, .int mpr, .int mgn, .ref qg, .int mli, .ref ql, .long q_ma_20, .long q_mb_21, .long q_mc_22])), (qf, .inl (uf, 40960, .inl Bf)), (qm, .inl (um, 40960, .inl Bm))]) [0, 1, 2] rfl
                  have hDc := hD.sub (ws' := [(qh, .inr (3, [.int mco, .long md, .long mw, .int mfo, .ref qf, .ref qm, .ref qk, .int m_mmy_13, .ref qn, .ref qo, .ref qi, .ref qx, .int mpr, .int mgn, .ref qg, .int mli, .ref ql, .long q_ma_20, .long q_mb_21, .long q_mc_22])), (qf, .inl (uf, 40960, .inl Bf)), (qm, .inl (um, 40960, .inl Bm))]) [0, 1, 2] (by decide) rfl
                  have hKc := hK.sub (tys' := [(uf, .int), (um, .int)]) [0, 1] rfl
                  have hFc := va_free (wc := [(qh, .inr (3, [.int mco, .long md, .long mw, .int mfo, .ref qf, .ref qm, .ref qk, .int m_mmy_13, .ref qn, .ref qo, .ref qi, .ref qx, .int mpr, .int mgn, .ref qg, .int mli, .ref ql, .long q_ma_20, .long q_mb_21, .long q_mc_22])), (qf, .inl (uf, 40960, .inl Bf)), (qm, .inl (um, 40960, .inl Bm))]) hD hS hA [0, 1, 2] rfl
                  refine va_calli (va_runV (As := []) (rest := []) ⟨hx, hb, hml, hown, hts⟩ (c_m_place l dC dI qh mco md mw mfo qf qm qk m_mmy_13 qn qo qi qx mpr mgn qg mli ql q_ma_20 q_mb_21 q_mc_22 uf Bf um Bm H.size F xc90 hc90) (cwV 0 hts (gwV kw_475 kw_477 ks_33 kw_5 kw_478) rfl rfl rfl (by decide +kernel) ⟨Nat.le_of_ble_eq_true rfl, Nat.le_of_ble_eq_true rfl⟩) ⟨fun a U g mk q => by obtain ⟨q0, q1, qP, qK, qD⟩ := q; exact ⟨q0, q1, qP, va_K.moved (u := U) (U := U.calling g mk a) (Vm.Alike.refl U.vm) qK, qD⟩, va_recv hKc hPc (ci := 3) (q0 := 0) rfl rfl, fun U hU hW => ⟨rfl, by rw [hU], by rw [hU]; exact hPc, va_K.moved hW.alike hKc, hDc.weaken (fun _ _ _ _ => trivial)⟩⟩ rfl rfl hl.1 rfl (lv_room (Nat.le_of_ble_eq_true rfl)) dX3_gather_90 ⟨Nat.zero_le _, Nat.zero_le _⟩) hS (fun q _ h => hFc q h) hFc (fun r_23 u t H1 locs ht hvm hw hB hz1 hk1 hS => ?_)
                  obtain ⟨⟩ := u
                  obtain ⟨hP1, hK1, hD1⟩ := hB
                  rw [ht] at hP1
                  subst hw
                  obtain ⟨hP, hD⟩ := va_join (wr := [(qk, .inl (uk, 40960, .inl A_19)), (qn, .inl (un, 4096, .inl m_Bn_15))]) (w1 := [(qh, .inr (3, [.int mco, .long md, .long mw, .int mfo, .ref qf, .ref qm, .ref qk, .int m_mmy_13, .ref qn, .ref qo, .ref qi, .ref qx, .int mpr, .int mgn, .ref qg, .int mli, .ref ql, .long q_ma_20, .long q_mb_21, .long q_mc_22])), (qf, .inl (uf, 40960, .inl Bf)), (qm, .inl (um, 40960, .inl Bm))]) hP hD [0, 1, 2] [3, 4] rfl rfl (by decide) (by decide) hk1 hFc hP1 hD1
                  generalize H1 = H at hP hS ⊢
                  have hP : va_P (dC, dI) vwCl [(qk, .inl (uk, 40960, .inl A_19)), (qn, .inl (un, 4096, .inl m_Bn_15)), (qh, .inr (3, [.int mco, .long md, .long mw, .int mfo, .ref qf, .ref qm, .ref qk, .int m_mmy_13, .ref qn, .ref qo, .ref qi, .ref qx, .int mpr, .int mgn, .ref qg, .int mli, .ref ql, .long q_ma_20, .long q_mb_21, .long q_mc_22])), (qf, .inl (uf, 40960, .inl Bf)), (qm, .inl (um, 40960, .inl Bm))] H := hP
                  have hD : va_D A [(qk, .inl (uk, 40960, .inl A_19)), (qn, .inl (un, 4096, .inl m_Bn_15)), (qh, .inr (3, [.int mco, .long md, .long mw, .int mfo, .ref qf, .ref qm, .ref qk, .int m_mmy_13, .ref qn, .ref qo, .ref qi, .ref qx, .int mpr, .int mgn, .ref qg, .int mli, .ref ql, .long q_ma_20, .long q_mb_21, .long q_mc_22])), (qf, .inl (uf, 40960, .inl Bf)), (qm, .inl (um, 40960, .inl Bm))] := hD
                  refine lv_istore_n (lv' := [(2, .int r_23), (0, .ref qh), (1, .int w1_1)]) hx hb dX3_gather_93 rfl hl (by decide) rfl (fun ls hl => ?_)
                  refine lv_goto (tgt := 57) hx hb dX3_gather_94 (by decide) ?_
                  exact ih57 r_23 m_mmy_13 A_19 m_Bn_15 q_ma_20 q_mb_21 q_mc_22 _ _ _ _ _ hf (hP.sub [2, 3, 4, 0, 1] rfl) (hD.sub [2, 3, 4, 0, 1] (by decide) rfl) hS (lv_sub hl [1, 2, 0] rfl) k57_0
                refine lv_if_le (tgt := 89) hx hb dX3_gather_82 (by decide) (fun c_82 => ?_) (fun c_82 => ?_)
                · have hf := ok_t c_82 hf
                  exact hJ89 m_ma_16 m_mb_17 m_mc_18 _ _ _ hf (hP.sub [0, 1, 2, 3, 4] rfl) (hD.sub [0, 1, 2, 3, 4] (by decide) rfl) hS (lv_sub hl [0, 1] rfl)
                · have hf := ok_f c_82 hf
                  refine lv_aload_n hx hb dX3_gather_85 rfl (lv_at hl 0 rfl) ?_
                  obtain ⟨xc86, hc86, hf⟩ := ok_b hf
                  have hPc := hP.sub (ws' := [(qh, .inr (3, [.int mco, .long md, .long mw, .int mfo, .ref qf, .ref qm, .ref qk, .int m_mmy_13, .ref qn, .ref qo, .ref qi, .ref qx, .int mpr, .int mgn, .ref qg, .int mli, .ref ql, .long m_ma_16, .long m_mb_17, .long m_mc_18]))]) [0] rfl
                  have hDc := hD.sub (ws' := [(qh, .inr (3, [.int mco, .long md, .long mw, .int mfo, .ref qf, .ref qm, .ref qk, .int m_mmy_13, .ref qn, .ref qo, .ref qi, .ref qx, .int mpr, .int mgn, .ref qg, .int mli, .ref ql, .long m_ma_16, .long m_mb_17, .long m_mc_18]))]) [0] (by decide) rfl
                  have hKc := hK.sub (tys' := []) [] rfl
                  have hFc := va_free (wc := [(qh, .inr (3, [.int mco, .long md, .long mw, .int mfo, .ref qf, .ref qm, .ref qk, .int m_mmy_13, .ref qn, .ref qo, .ref qi, .ref qx, .int mpr, .int mgn, .ref qg, .int mli, .ref ql, .long m_ma_16, .long m_mb_17, .long m_mc_18]))]) hD hS hA [0] rfl
                  refine va_callv (va_runV (As := []) (rest := []) ⟨hx, hb, hml, hown, hts⟩ (c_m_step l dC dI qh mco md mw mfo qf qm qk m_mmy_13 qn qo qi qx mpr mgn qg mli ql m_ma_16 m_mb_17 m_mc_18 H.size F xc86 hc86) (cwV 0 hts (gwV kw_471 kw_473 ks_32 kw_5 kw_474) rfl rfl rfl (by decide +kernel) ⟨Nat.le_of_ble_eq_true rfl, Nat.le_of_ble_eq_true rfl⟩) ⟨fun a U g mk q => by obtain ⟨q0, q1, qP, qK, qD⟩ := q; exact ⟨q0, q1, qP, va_K.moved (u := U) (U := U.calling g mk a) (Vm.Alike.refl U.vm) qK, qD⟩, va_recv hKc hPc (ci := 3) (q0 := 0) rfl rfl, fun U hU hW => ⟨rfl, by rw [hU], by rw [hU]; exact hPc, va_K.moved hW.alike hKc, hDc.weaken (fun _ _ _ _ => trivial)⟩⟩ rfl rfl hl.1 rfl (lv_room (Nat.le_of_ble_eq_true rfl)) dX3_gather_86 ⟨Nat.zero_le _, Nat.zero_le _⟩) hS (fun q _ h => hFc q h) hFc (fun u t H1 locs ht hvm hw hB hz1 hk1 hS => ?_)
                  obtain ⟨u_ma_24, u_mb_25, u_mc_26⟩ := u
                  obtain ⟨hP1, hK1, hD1⟩ := hB
                  rw [ht] at hP1
                  subst hw
                  obtain ⟨hP, hD⟩ := va_join (wr := [(qf, .inl (uf, 40960, .inl Bf)), (qm, .inl (um, 40960, .inl Bm)), (qk, .inl (uk, 40960, .inl A_19)), (qn, .inl (un, 4096, .inl m_Bn_15))]) (w1 := [(qh, .inr (3, [.int mco, .long md, .long mw, .int mfo, .ref qf, .ref qm, .ref qk, .int m_mmy_13, .ref qn, .ref qo, .ref qi, .ref qx, .int mpr, .int mgn, .ref qg, .int mli, .ref ql, .long u_ma_24, .long u_mb_25, .long u_mc_26]))]) hP hD [0] [1, 2, 3, 4] rfl rfl (by decide) (by decide) hk1 hFc hP1 hD1
                  generalize H1 = H at hP hS ⊢
                  have hP : va_P (dC, dI) vwCl [(qf, .inl (uf, 40960, .inl Bf)), (qm, .inl (um, 40960, .inl Bm)), (qk, .inl (uk, 40960, .inl A_19)), (qn, .inl (un, 4096, .inl m_Bn_15)), (qh, .inr (3, [.int mco, .long md, .long mw, .int mfo, .ref qf, .ref qm, .ref qk, .int m_mmy_13, .ref qn, .ref qo, .ref qi, .ref qx, .int mpr, .int mgn, .ref qg, .int mli, .ref ql, .long u_ma_24, .long u_mb_25, .long u_mc_26]))] H := hP
                  have hD : va_D A [(qf, .inl (uf, 40960, .inl Bf)), (qm, .inl (um, 40960, .inl Bm)), (qk, .inl (uk, 40960, .inl A_19)), (qn, .inl (un, 4096, .inl m_Bn_15)), (qh, .inr (3, [.int mco, .long md, .long mw, .int mfo, .ref qf, .ref qm, .ref qk, .int m_mmy_13, .ref qn, .ref qo, .ref qi, .ref qx, .int mpr, .int mgn, .ref qg, .int mli, .ref ql, .long u_ma_24, .long u_mb_25, .long u_mc_26]))] := hD
                  exact hJ89 u_ma_24 u_mb_25 u_mc_26 _ _ _ hf (hP.sub [4, 0, 1, 2, 3] rfl) (hD.sub [4, 0, 1, 2, 3] (by decide) rfl) hS (lv_sub hl [0, 1] rfl)
          obtain ⟨res57, hL57_r, hf⟩ := ok_b hf
          refine hL57 F w1_1 m_mmy_2 m_Bk_3 A_11 u_ma_8 u_mb_9 u_mc_10 res57 _ _ _ _ hL57_r (hP.sub [4, 0, 1, 2, 3] rfl) (hD.sub [4, 0, 1, 2, 3] (by decide) rfl) hS (lv_sub hl [1, 2, 0] rfl) (fun y_mmy_27 y_Bk_28 y_Bn_29 y_ma_30 y_mb_31 y_mc_32 H locs ls hres hP hD hS hl => ?_)
          subst hres
          refine lv_aload_n hx hb dX3_gather_97 rfl (lv_at hl 0 rfl) ?_
          refine lv_dup hx hb dX3_gather_98 rfl ?_
          refine va_get (D := (dC, dI)) (ci := 3) (v := .int y_mmy_27) (C := "ClassGroupModel") (T := TX3) (N := 20) hx hb hts (fun w h => List.mem_cons_of_mem _ (iwX3 w h)) hown hK hP 0 rfl rfl 7 (by decide) (hts _ (List.mem_cons_of_mem _ kw_514)) (fun _ h9 => h9) rfl dX3_gather_99 ?_
          refine lv_iconst (v := 1) hx hb dX3_gather_102 (by decide) ?_
          refine lv_iadd hx hb dX3_gather_103 ?_
          refine lv_topi (fun f_many_33 ef_many_33 => ?_)
          replace hf := bnd_ok ef_many_33 hf
          refine va_put (D := (dC, dI)) (ci := 3) (v := .int f_many_33) (ty := .int) (C := "ClassGroupModel") (T := TX3) (N := 20) hx hb hts (fun w h => List.mem_cons_of_mem _ (iwX3 w h)) tyX3 tyokX3 nmX3 hown hK hP hD hS 0 rfl rfl 7 (by decide) (hts _ (List.mem_cons_of_mem _ kw_514)) (fun _ h9 => h9) rfl (by decide +kernel) rfl rfl (Nat.le_of_ble_eq_true rfl) dX3_gather_104 (fun H locs hP hD hS => ?_)
          have hP : va_P (dC, dI) vwCl [(qh, .inr (3, [.int mco, .long md, .long mw, .int mfo, .ref qf, .ref qm, .ref qk, .int f_many_33, .ref qn, .ref qo, .ref qi, .ref qx, .int mpr, .int mgn, .ref qg, .int mli, .ref ql, .long y_ma_30, .long y_mb_31, .long y_mc_32])), (qf, .inl (uf, 40960, .inl Bf)), (qm, .inl (um, 40960, .inl Bm)), (qk, .inl (uk, 40960, .inl y_Bk_28)), (qn, .inl (un, 4096, .inl y_Bn_29))] H := hP
          have hD : va_D A [(qh, .inr (3, [.int mco, .long md, .long mw, .int mfo, .ref qf, .ref qm, .ref qk, .int f_many_33, .ref qn, .ref qo, .ref qi, .ref qx, .int mpr, .int mgn, .ref qg, .int mli, .ref ql, .long y_ma_30, .long y_mb_31, .long y_mc_32])), (qf, .inl (uf, 40960, .inl Bf)), (qm, .inl (um, 40960, .inl Bm)), (qk, .inl (uk, 40960, .inl y_Bk_28)), (qn, .inl (un, 4096, .inl y_Bn_29))] := hD
          obtain ⟨v1_34, ev1_34⟩ : ∃ y : Int32, y = w1_1 + 1 := ⟨_, rfl⟩
          replace hf := bnd_ok ev1_34 hf
          refine lv_iinc (v := v1_34) (lv' := [(1, .int v1_34), (0, .ref qh)]) hx hb dX3_gather_107 hl (k := 1) rfl (by rw [ev1_34]; rfl) (by decide) rfl (fun ls hl => ?_)
          refine lv_goto (tgt := 7) hx hb dX3_gather_110 (by decide) ?_
          exact ih7 v1_34 f_many_33 y_Bk_28 y_Bn_29 y_ma_30 y_mb_31 y_mc_32 _ _ _ _ _ hf (hP.sub [0, 1, 2, 3, 4] rfl) (hD.sub [0, 1, 2, 3, 4] (by decide) rfl) hS (lv_sub hl [1, 0] rfl) k7_0
        · have hf := ok_f c_21 hf
          refine lv_goto (tgt := 107) hx hb dX3_gather_24 (by decide) ?_
          obtain ⟨v1_35, ev1_35⟩ : ∃ y : Int32, y = w1_1 + 1 := ⟨_, rfl⟩
          replace hf := bnd_ok ev1_35 hf
          refine lv_iinc (v := v1_35) (lv' := [(1, .int v1_35), (0, .ref qh)]) hx hb dX3_gather_107 hl (k := 1) rfl (by rw [ev1_35]; rfl) (by decide) rfl (fun ls hl => ?_)
          refine lv_goto (tgt := 7) hx hb dX3_gather_110 (by decide) ?_
          exact ih7 v1_35 m_mmy_2 m_Bk_3 m_Bn_4 m_ma_5 m_mb_6 m_mc_7 _ _ _ _ _ hf (hP.sub [0, 1, 2, 3, 4] rfl) (hD.sub [0, 1, 2, 3, 4] (by decide) rfl) hS (lv_sub hl [1, 0] rfl) k7_0
  obtain ⟨res7, hL7_r, hf⟩ := ok_b hf
  refine hL7 F 0 0 Bk Bn ma mb mc res7 _ _ _ _ hL7_r (hP.sub [0, 1, 2, 3, 4] rfl) (hD.sub [0, 1, 2, 3, 4] (by decide) rfl) hS (lv_sub hl [1, 0] rfl) (fun y_mmy_36 y_Bk_37 y_Bn_38 y_ma_39 y_mb_40 y_mc_41 H locs ls hres hP hD hS hl => ?_)
  subst hres
  have hP9 := hP.sub (ws' := [(qh, .inr (3, [.int mco, .long md, .long mw, .int mfo, .ref qf, .ref qm, .ref qk, .int y_mmy_36, .ref qn, .ref qo, .ref qi, .ref qx, .int mpr, .int mgn, .ref qg, .int mli, .ref ql, .long y_ma_39, .long y_mb_40, .long y_mc_41])), (qf, .inl (uf, 40960, .inl Bf)), (qm, .inl (um, 40960, .inl Bm)), (qk, .inl (uk, 40960, .inl y_Bk_37)), (qn, .inl (un, 4096, .inl y_Bn_38))]) [0, 1, 2, 3, 4] rfl
  have hD9 := hD.sub (ws' := [(qh, .inr (3, [.int mco, .long md, .long mw, .int mfo, .ref qf, .ref qm, .ref qk, .int y_mmy_36, .ref qn, .ref qo, .ref qi, .ref qx, .int mpr, .int mgn, .ref qg, .int mli, .ref ql, .long y_ma_39, .long y_mb_40, .long y_mc_41])), (qf, .inl (uf, 40960, .inl Bf)), (qm, .inl (um, 40960, .inl Bm)), (qk, .inl (uk, 40960, .inl y_Bk_37)), (qn, .inl (un, 4096, .inl y_Bn_38))]) [0, 1, 2, 3, 4] (by decide) rfl
  have hK9 := hK.sub (tys' := [(uf, .int), (um, .int), (uk, .int), (un, .int)]) [0, 1, 2, 3] rfl
  exact W.vret hx hb hr (fun t ht hW => ⟨⟨(y_mmy_36, y_Bk_37, y_Bn_38, y_ma_39, y_mb_40, y_mc_41), rfl, (Option.some.inj hf), by rw [ht]; exact hP9, va_K.moved hW.alike hK9, hD9⟩, hS.F ht⟩) hS.2.2 dX3_gather_113

def f_m_found_L0 (F : Nat) (md : Int64) (mw : Int64) : Nat → Int64 → Int64 → Int64 → Option (Int64 × Int64 × Int64)
  | 0, _, _, _ => none
  | n0 + 1, m_ma_1, m_mb_2, m_mc_3 => Option.bind (f_m_isRed F md mw m_ma_1 m_mb_2 m_mc_3) (fun r_4 => (if r_4 = 0 then Option.bind (f_m_step F md mw m_ma_1 m_mb_2 m_mc_3) (fun (u_ma_5, u_mb_6, u_mc_7) => f_m_found_L0 F md mw n0 u_ma_5 u_mb_6 u_mc_7) else some (m_ma_1, m_mb_2, m_mc_3)))
def f_m_found (F : Nat) (md : Int64) (mw : Int64) (mfo : Int32) (Bf : Nat → Int32) (Bm : Nat → Int32) (Bk : Nat → Int32) (ma : Int64) (mb : Int64) (mc : Int64) : Option (Int32 × Int64 × Int64 × Int64) := Option.bind (f_m_found_L0 F md mw F ma mb mc) (fun (y_ma_8, y_mb_9, y_mc_10) => Option.bind (f_m_place F mfo Bf Bm y_ma_8 y_mb_9) (fun r_11 => (if vin r_11 40960 then some ((Bk (r_11).toNatClampNeg), y_ma_8, y_mb_9, y_mc_10) else none)))
set_option maxHeartbeats 4000000 in
set_option maxRecDepth 100000 in
theorem c_m_found (l : Launch) (dC : Nat → ClassId) (dI : Nat → Nat → Nat) (qh : Nat) (mco : Int32) (md : Int64) (mw : Int64) (mfo : Int32) (qf : Nat) (qm : Nat) (qk : Nat) (mmy : Int32) (qn : Nat) (qo : Nat) (qi : Nat) (qx : Nat) (mpr : Int32) (mgn : Int32) (qg : Nat) (mli : Int32) (ql : Nat) (ma : Int64) (mb : Int64) (mc : Int64) (uf : ClassId) (Bf : Nat → Int32) (um : ClassId) (Bm : Nat → Int32) (uk : ClassId) (Bk : Nat → Int32) (sz : Nat) (F : Nat) (out : Int32 × Int64 × Int64 × Int64) (hf : f_m_found F md mw mfo Bf Bm Bk ma mb mc = some out) : Met l yX3_found wsX3_found ({ frames := 2, cells := 0, slots := 0, locals := 50 }) (va_Pc [.ref qh] (fun U => U.heap.size = sz ∧ va_P (dC, dI) vwCl [(qh, .inr (3, [.int mco, .long md, .long mw, .int mfo, .ref qf, .ref qm, .ref qk, .int mmy, .ref qn, .ref qo, .ref qi, .ref qx, .int mpr, .int mgn, .ref qg, .int mli, .ref ql, .long ma, .long mb, .long mc])), (qf, .inl (uf, 40960, .inl Bf)), (qm, .inl (um, 40960, .inl Bm)), (qk, .inl (uk, 40960, .inl Bk))] U.heap ∧ va_K (dC, dI) vwCl [(uf, .int), (um, .int), (uk, .int)] U ∧ va_D (fun _ => True) [(qh, .inr (3, [.int mco, .long md, .long mw, .int mfo, .ref qf, .ref qm, .ref qk, .int mmy, .ref qn, .ref qo, .ref qi, .ref qx, .int mpr, .int mgn, .ref qg, .int mli, .ref ql, .long ma, .long mb, .long mc])), (qf, .inl (uf, 40960, .inl Bf)), (qm, .inl (um, 40960, .inl Bm)), (qk, .inl (uk, 40960, .inl Bk))])) (va_Qi (fun (r : Int32) (u : Int64 × Int64 × Int64) => (r, u) = out) (fun (u : Int64 × Int64 × Int64) t => match u with | (u_ma, u_mb, u_mc) => va_P (dC, dI) vwCl [(qh, .inr (3, [.int mco, .long md, .long mw, .int mfo, .ref qf, .ref qm, .ref qk, .int mmy, .ref qn, .ref qo, .ref qi, .ref qx, .int mpr, .int mgn, .ref qg, .int mli, .ref ql, .long u_ma, .long u_mb, .long u_mc])), (qf, .inl (uf, 40960, .inl Bf)), (qm, .inl (um, 40960, .inl Bm)), (qk, .inl (uk, 40960, .inl Bk))] t.heap ∧ va_K (dC, dI) vwCl [(uf, .int), (um, .int), (uk, .int)] t ∧ va_D (va_A [(qh, .inr (3, [.int mco, .long md, .long mw, .int mfo, .ref qf, .ref qm, .ref qk, .int mmy, .ref qn, .ref qo, .ref qi, .ref qx, .int mpr, .int mgn, .ref qg, .int mli, .ref ql, .long ma, .long mb, .long mc])), (qf, .inl (uf, 40960, .inl Bf)), (qm, .inl (um, 40960, .inl Bm)), (qk, .inl (uk, 40960, .inl Bk))] sz) [(qh, .inr (3, [.int mco, .long md, .long mw, .int mfo, .ref qf, .ref qm, .ref qk, .int mmy, .ref qn, .ref qo, .ref qi, .ref qx, .int mpr, .int mgn, .ref qg, .int mli, .ref ql, .long u_ma, .long u_mb, .long u_mc])), (qf, .inl (uf, 40960, .inl Bf)), (qm, .inl (um, 40960, .inl Bm)), (qk, .inl (uk, 40960, .inl Bk))]) (va_A [(qh, .inr (3, [.int mco, .long md, .long mw, .int mfo, .ref qf, .ref qm, .ref qk, .int mmy, .ref qn, .ref qo, .ref qi, .ref qx, .int mpr, .int mgn, .ref qg, .int mli, .ref ql, .long ma, .long mb, .long mc])), (qf, .inl (uf, 40960, .inl Bf)), (qm, .inl (um, 40960, .inl Bm)), (qk, .inl (uk, 40960, .inl Bk))] sz)) 0 0 (va_A [(qh, .inr (3, [.int mco, .long md, .long mw, .int mfo, .ref qf, .ref qm, .ref qk, .int mmy, .ref qn, .ref qo, .ref qi, .ref qx, .int mpr, .int mgn, .ref qg, .int mli, .ref ql, .long ma, .long mb, .long mc])), (qf, .inl (uf, 40960, .inl Bf)), (qm, .inl (um, 40960, .inl Bm)), (qk, .inl (uk, 40960, .inl Bk))] sz) := by
  refine Met.ofW (cc := cX3_found) (maxL := 1) (ret := (some .int)) (by decide +kernel) rfl ?_
  intro p e s m args below meth c s₁ B hml hv
  obtain ⟨rfl, hsz, hP, hK, hD0⟩ := hv
  have hx := B.exec
  have hb := B.bytes
  have hr := B.returns
  have hts := atoms_spec (ws := wsX3_found) B.pre
  have hown : s.vm.findClass "ClassGroupModel" = some m.cls := findClass_of_methodNamed B.named
  have hlocks := B.notSynchronized
  subst hsz
  have hD := hD0.self (sz := s.heap.size)
  generalize hAe : va_A [(qh, .inr (3, [.int mco, .long md, .long mw, .int mfo, .ref qf, .ref qm, .ref qk, .int mmy, .ref qn, .ref qo, .ref qi, .ref qx, .int mpr, .int mgn, .ref qg, .int mli, .ref ql, .long ma, .long mb, .long mc])), (qf, .inl (uf, 40960, .inl Bf)), (qm, .inl (um, 40960, .inl Bm)), (qk, .inl (uk, 40960, .inl Bk))] s.heap.size = A at hD ⊢
  have hA : ∀ q : Nat, s.heap.size ≤ q → A q := fun q h => by rw [← hAe]; exact Or.inr h
  have hS : va_S A s.heap s.heap [] := va_S.rf
  have hl := lv_entry ([.ref qh]) (n := 1) (Nat.le_of_ble_eq_true rfl)
  rw [lg_entry_eq]
  generalize (lg_sl ([.ref qh]) ++ List.replicate (1 - (lg_sl ([.ref qh])).length) Slot.unset).toArray = ls at hl ⊢
  have hl : lv_has ls 1 [(0, .ref qh)] := hl
  unfold f_m_found at hf
  have hL0 : ∀ (n0 : Nat) (m_ma_1 : Int64) (m_mb_2 : Int64) (m_mc_3 : Int64) (res : Int64 × Int64 × Int64) (H : Heap) (locs : List Loc) (ls : Array Slot) (Q : State → Prop), f_m_found_L0 F md mw n0 m_ma_1 m_mb_2 m_mc_3 = some res → va_P (dC, dI) vwCl [(qh, .inr (3, [.int mco, .long md, .long mw, .int mfo, .ref qf, .ref qm, .ref qk, .int mmy, .ref qn, .ref qo, .ref qi, .ref qx, .int mpr, .int mgn, .ref qg, .int mli, .ref ql, .long m_ma_1, .long m_mb_2, .long m_mc_3])), (qf, .inl (uf, 40960, .inl Bf)), (qm, .inl (um, 40960, .inl Bm)), (qk, .inl (uk, 40960, .inl Bk))] H → va_D A [(qh, .inr (3, [.int mco, .long md, .long mw, .int mfo, .ref qf, .ref qm, .ref qk, .int mmy, .ref qn, .ref qo, .ref qi, .ref qx, .int mpr, .int mgn, .ref qg, .int mli, .ref ql, .long m_ma_1, .long m_mb_2, .long m_mc_3])), (qf, .inl (uf, 40960, .inl Bf)), (qm, .inl (um, 40960, .inl Bm)), (qk, .inl (uk, 40960, .inl Bk))] → va_S A s.heap H locs → lv_has ls 1 [(0, .ref qh)] → (∀ (y_ma_8 : Int64) (y_mb_9 : Int64) (y_mc_10 : Int64) (H : Heap) (locs : List Loc) (ls : Array Slot), (y_ma_8, y_mb_9, y_mc_10) = res → va_P (dC, dI) vwCl [(qh, .inr (3, [.int mco, .long md, .long mw, .int mfo, .ref qf, .ref qm, .ref qk, .int mmy, .ref qn, .ref qo, .ref qi, .ref qx, .int mpr, .int mgn, .ref qg, .int mli, .ref ql, .long y_ma_8, .long y_mb_9, .long y_mc_10])), (qf, .inl (uf, 40960, .inl Bf)), (qm, .inl (um, 40960, .inl Bm)), (qk, .inl (uk, 40960, .inl Bk))] H → va_D A [(qh, .inr (3, [.int mco, .long md, .long mw, .int mfo, .ref qf, .ref qm, .ref qk, .int mmy, .ref qn, .ref qo, .ref qi, .ref qx, .int mpr, .int mgn, .ref qg, .int mli, .ref ql, .long y_ma_8, .long y_mb_9, .long y_mc_10])), (qf, .inl (uf, 40960, .inl Bf)), (qm, .inl (um, 40960, .inl Bm)), (qk, .inl (uk, 40960, .inl Bk))] → va_S A s.heap H locs → lv_has ls 1 [(0, .ref qh)] → W p l e ((headSpec wsX3_found ({ frames := 2, cells := 0, slots := 0, locals := 50 })).room) s m ([.ref qh] : List Value).toArray below meth c H locs 0 0 Q (F0 m 14 ls [])) → W p l e ((headSpec wsX3_found ({ frames := 2, cells := 0, slots := 0, locals := 50 })).room) s m ([.ref qh] : List Value).toArray below meth c H locs 0 0 Q (F0 m 0 ls []) := by
    intro n0
    induction n0 with
    | zero => intro m_ma_1 m_mb_2 m_mc_3 res H locs ls Q hf; simp [f_m_found_L0] at hf
    | succ n0 ih0 =>
      intro m_ma_1 m_mb_2 m_mc_3 res H locs ls Q hf hP hD hS hl k0_0
      rw [f_m_found_L0] at hf
      refine lv_aload_n hx hb dX3_found_0 rfl (lv_at hl 0 rfl) ?_
      obtain ⟨xc1, hc1, hf⟩ := ok_b hf
      have hPc := hP.sub (ws' := [(qh, .inr (3, [.int mco, .long md, .long mw, .int mfo, .ref qf, .ref qm, .ref qk, .int mmy, .ref qn, .ref qo, .ref qi, .ref qx, .int mpr, .int mgn, .ref qg, .int mli, .ref ql, .long m_ma_1, .long m_mb_2, .long m_mc_3]))]) [0] rfl
      have hDc := hD.sub (ws' := [(qh, .inr (3, [.int mco, .long md, .long mw, .int mfo, .ref qf, .ref qm, .ref qk, .int mmy, .ref qn, .ref qo, .ref qi, .ref qx, .int mpr, .int mgn, .ref qg, .int mli, .ref ql, .long m_ma_1, .long m_mb_2, .long m_mc_3]))]) [0] (by decide) rfl
      have hKc := hK.sub (tys' := []) [] rfl
      have hFc := va_free (wc := [(qh, .inr (3, [.int mco, .long md, .long mw, .int mfo, .ref qf, .ref qm, .ref qk, .int mmy, .ref qn, .ref qo, .ref qi, .ref qx, .int mpr, .int mgn, .ref qg, .int mli, .ref ql, .long m_ma_1, .long m_mb_2, .long m_mc_3]))]) hD hS hA [0] rfl
      refine va_calli (va_runV (As := []) (rest := []) ⟨hx, hb, hml, hown, hts⟩ (c_m_isRed l dC dI qh mco md mw mfo qf qm qk mmy qn qo qi qx mpr mgn qg mli ql m_ma_1 m_mb_2 m_mc_3 H.size F xc1 hc1) (cwV 0 hts (gwV kw_456 kw_458 ks_30 kw_5 kw_459) rfl rfl rfl (by decide +kernel) ⟨Nat.le_of_ble_eq_true rfl, Nat.le_of_ble_eq_true rfl⟩) ⟨fun a U g mk q => by obtain ⟨q0, q1, qP, qK, qD⟩ := q; exact ⟨q0, q1, qP, va_K.moved (u := U) (U := U.calling g mk a) (Vm.Alike.refl U.vm) qK, qD⟩, va_recv hKc hPc (ci := 3) (q0 := 0) rfl rfl, fun U hU hW => ⟨rfl, by rw [hU], by rw [hU]; exact hPc, va_K.moved hW.alike hKc, hDc.weaken (fun _ _ _ _ => trivial)⟩⟩ rfl rfl hl.1 rfl (lv_room (Nat.le_of_ble_eq_true rfl)) dX3_found_1 ⟨Nat.zero_le _, Nat.zero_le _⟩) hS (fun q _ h => hFc q h) hFc (fun r_4 u t H1 locs ht hvm hw hB hz1 hk1 hS => ?_)
      obtain ⟨⟩ := u
      obtain ⟨hP1, hK1, hD1⟩ := hB
      rw [ht] at hP1
      subst hw
      obtain ⟨hP, hD⟩ := va_join (wr := [(qf, .inl (uf, 40960, .inl Bf)), (qm, .inl (um, 40960, .inl Bm)), (qk, .inl (uk, 40960, .inl Bk))]) (w1 := [(qh, .inr (3, [.int mco, .long md, .long mw, .int mfo, .ref qf, .ref qm, .ref qk, .int mmy, .ref qn, .ref qo, .ref qi, .ref qx, .int mpr, .int mgn, .ref qg, .int mli, .ref ql, .long m_ma_1, .long m_mb_2, .long m_mc_3]))]) hP hD [0] [1, 2, 3] rfl rfl (by decide) (by decide) hk1 hFc hP1 hD1
      generalize H1 = H at hP hS ⊢
      have hP : va_P (dC, dI) vwCl [(qf, .inl (uf, 40960, .inl Bf)), (qm, .inl (um, 40960, .inl Bm)), (qk, .inl (uk, 40960, .inl Bk)), (qh, .inr (3, [.int mco, .long md, .long mw, .int mfo, .ref qf, .ref qm, .ref qk, .int mmy, .ref qn, .ref qo, .ref qi, .ref qx, .int mpr, .int mgn, .ref qg, .int mli, .ref ql, .long m_ma_1, .long m_mb_2, .long m_mc_3]))] H := hP
      have hD : va_D A [(qf, .inl (uf, 40960, .inl Bf)), (qm, .inl (um, 40960, .inl Bm)), (qk, .inl (uk, 40960, .inl Bk)), (qh, .inr (3, [.int mco, .long md, .long mw, .int mfo, .ref qf, .ref qm, .ref qk, .int mmy, .ref qn, .ref qo, .ref qi, .ref qx, .int mpr, .int mgn, .ref qg, .int mli, .ref ql, .long m_ma_1, .long m_mb_2, .long m_mc_3]))] := hD
      refine lv_if_ne (tgt := 14) hx hb dX3_found_4 (by decide) (fun c_4 => ?_) (fun c_4 => ?_)
      · have hf := ok_f c_4 hf
        exact k0_0 m_ma_1 m_mb_2 m_mc_3 _ _ _ (Option.some.inj hf) (hP.sub [3, 0, 1, 2] rfl) (hD.sub [3, 0, 1, 2] (by decide) rfl) hS (lv_sub hl [0] rfl)
      · have hf := ok_t c_4 hf
        refine lv_aload_n hx hb dX3_found_7 rfl (lv_at hl 0 rfl) ?_
        obtain ⟨xc8, hc8, hf⟩ := ok_b hf
        have hPc := hP.sub (ws' := [(qh, .inr (3, [.int mco, .long md, .long mw, .int mfo, .ref qf, .ref qm, .ref qk, .int mmy, .ref qn, .ref qo, .ref qi, .ref qx, .int mpr, .int mgn, .ref qg, .int mli, .ref ql, .long m_ma_1, .long m_mb_2, .long m_mc_3]))]) [3] rfl
        have hDc := hD.sub (ws' := [(qh, .inr (3, [.int mco, .long md, .long mw, .int mfo, .ref qf, .ref qm, .ref qk, .int mmy, .ref qn, .ref qo, .ref qi, .ref qx, .int mpr, .int mgn, .ref qg, .int mli, .ref ql, .long m_ma_1, .long m_mb_2, .long m_mc_3]))]) [3] (by decide) rfl
        have hKc := hK.sub (tys' := []) [] rfl
        have hFc := va_free (wc := [(qh, .inr (3, [.int mco, .long md, .long mw, .int mfo, .ref qf, .ref qm, .ref qk, .int mmy, .ref qn, .ref qo, .ref qi, .ref qx, .int mpr, .int mgn, .ref qg, .int mli, .ref ql, .long m_ma_1, .long m_mb_2, .long m_mc_3]))]) hD hS hA [3] rfl
        refine va_callv (va_runV (As := []) (rest := []) ⟨hx, hb, hml, hown, hts⟩ (c_m_step l dC dI qh mco md mw mfo qf qm qk mmy qn qo qi qx mpr mgn qg mli ql m_ma_1 m_mb_2 m_mc_3 H.size F xc8 hc8) (cwV 0 hts (gwV kw_471 kw_473 ks_32 kw_5 kw_474) rfl rfl rfl (by decide +kernel) ⟨Nat.le_of_ble_eq_true rfl, Nat.le_of_ble_eq_true rfl⟩) ⟨fun a U g mk q => by obtain ⟨q0, q1, qP, qK, qD⟩ := q; exact ⟨q0, q1, qP, va_K.moved (u := U) (U := U.calling g mk a) (Vm.Alike.refl U.vm) qK, qD⟩, va_recv hKc hPc (ci := 3) (q0 := 0) rfl rfl, fun U hU hW => ⟨rfl, by rw [hU], by rw [hU]; exact hPc, va_K.moved hW.alike hKc, hDc.weaken (fun _ _ _ _ => trivial)⟩⟩ rfl rfl hl.1 rfl (lv_room (Nat.le_of_ble_eq_true rfl)) dX3_found_8 ⟨Nat.zero_le _, Nat.zero_le _⟩) hS (fun q _ h => hFc q h) hFc (fun u t H1 locs ht hvm hw hB hz1 hk1 hS => ?_)
        obtain ⟨u_ma_5, u_mb_6, u_mc_7⟩ := u
        obtain ⟨hP1, hK1, hD1⟩ := hB
        rw [ht] at hP1
        subst hw
        obtain ⟨hP, hD⟩ := va_join (wr := [(qf, .inl (uf, 40960, .inl Bf)), (qm, .inl (um, 40960, .inl Bm)), (qk, .inl (uk, 40960, .inl Bk))]) (w1 := [(qh, .inr (3, [.int mco, .long md, .long mw, .int mfo, .ref qf, .ref qm, .ref qk, .int mmy, .ref qn, .ref qo, .ref qi, .ref qx, .int mpr, .int mgn, .ref qg, .int mli, .ref ql, .long u_ma_5, .long u_mb_6, .long u_mc_7]))]) hP hD [3] [0, 1, 2] rfl rfl (by decide) (by decide) hk1 hFc hP1 hD1
        generalize H1 = H at hP hS ⊢
        have hP : va_P (dC, dI) vwCl [(qf, .inl (uf, 40960, .inl Bf)), (qm, .inl (um, 40960, .inl Bm)), (qk, .inl (uk, 40960, .inl Bk)), (qh, .inr (3, [.int mco, .long md, .long mw, .int mfo, .ref qf, .ref qm, .ref qk, .int mmy, .ref qn, .ref qo, .ref qi, .ref qx, .int mpr, .int mgn, .ref qg, .int mli, .ref ql, .long u_ma_5, .long u_mb_6, .long u_mc_7]))] H := hP
        have hD : va_D A [(qf, .inl (uf, 40960, .inl Bf)), (qm, .inl (um, 40960, .inl Bm)), (qk, .inl (uk, 40960, .inl Bk)), (qh, .inr (3, [.int mco, .long md, .long mw, .int mfo, .ref qf, .ref qm, .ref qk, .int mmy, .ref qn, .ref qo, .ref qi, .ref qx, .int mpr, .int mgn, .ref qg, .int mli, .ref ql, .long u_ma_5, .long u_mb_6, .long u_mc_7]))] := hD
        refine lv_goto (tgt := 0) hx hb dX3_found_11 (by decide) ?_
        exact ih0 u_ma_5 u_mb_6 u_mc_7 _ _ _ _ _ hf (hP.sub [3, 0, 1, 2] rfl) (hD.sub [3, 0, 1, 2] (by decide) rfl) hS (lv_sub hl [0] rfl) k0_0
  obtain ⟨res0, hL0_r, hf⟩ := ok_b hf
  refine hL0 F ma mb mc res0 _ _ _ _ hL0_r (hP.sub [0, 1, 2, 3] rfl) (hD.sub [0, 1, 2, 3] (by decide) rfl) hS (lv_sub hl [0] rfl) (fun y_ma_8 y_mb_9 y_mc_10 H locs ls hres hP hD hS hl => ?_)
  subst hres
  refine lv_aload_n hx hb dX3_found_14 rfl (lv_at hl 0 rfl) ?_
  refine va_get (D := (dC, dI)) (ci := 3) (v := .ref qk) (C := "ClassGroupModel") (T := TX3) (N := 20) hx hb hts (fun w h => List.mem_cons_of_mem _ (iwX3 w h)) hown hK hP 0 rfl rfl 6 (by decide) (hts _ (List.mem_cons_of_mem _ kw_513)) (fun _ h9 => h9) rfl dX3_found_15 ?_
  refine lv_aload_n hx hb dX3_found_18 rfl (lv_at hl 0 rfl) ?_
  obtain ⟨xc19, hc19, hf⟩ := ok_b hf
  have hPc := hP.sub (ws' := [(qh, .inr (3, [.int mco, .long md, .long mw, .int mfo, .ref qf, .ref qm, .ref qk, .int mmy, .ref qn, .ref qo, .ref qi, .ref qx, .int mpr, .int mgn, .ref qg, .int mli, .ref ql, .long y_ma_8, .long y_mb_9, .long y_mc_10])), (qf, .inl (uf, 40960, .inl Bf)), (qm, .inl (um, 40960, .inl Bm))]) [0, 1, 2] rfl
  have hDc := hD.sub (ws' := [(qh, .inr (3, [.int mco, .long md, .long mw, .int mfo, .ref qf, .ref qm, .ref qk, .int mmy, .ref qn, .ref qo, .ref qi, .ref qx, .int mpr, .int mgn, .ref qg, .int mli, .ref ql, .long y_ma_8, .long y_mb_9, .long y_mc_10])), (qf, .inl (uf, 40960, .inl Bf)), (qm, .inl (um, 40960, .inl Bm))]) [0, 1, 2] (by decide) rfl
  have hKc := hK.sub (tys' := [(uf, .int), (um, .int)]) [0, 1] rfl
  have hFc := va_free (wc := [(qh, .inr (3, [.int mco, .long md, .long mw, .int mfo, .ref qf, .ref qm, .ref qk, .int mmy, .ref qn, .ref qo, .ref qi, .ref qx, .int mpr, .int mgn, .ref qg, .int mli, .ref ql, .long y_ma_8, .long y_mb_9, .long y_mc_10])), (qf, .inl (uf, 40960, .inl Bf)), (qm, .inl (um, 40960, .inl Bm))]) hD hS hA [0, 1, 2] rfl
  refine va_calli (va_runV (As := []) (rest := [.ref qk]) ⟨hx, hb, hml, hown, hts⟩ (c_m_place l dC dI qh mco md mw mfo qf qm qk mmy qn qo qi qx mpr mgn qg mli ql y_ma_8 y_mb_9 y_mc_10 uf Bf um Bm H.size F xc19 hc19) (cwV 0 hts (gwV kw_475 kw_477 ks_33 kw_5 kw_478) rfl rfl rfl (by decide +kernel) ⟨Nat.le_of_ble_eq_true rfl, Nat.le_of_ble_eq_true rfl⟩) ⟨fun a U g mk q => by obtain ⟨q0, q1, qP, qK, qD⟩ := q; exact ⟨q0, q1, qP, va_K.moved (u := U) (U := U.calling g mk a) (Vm.Alike.refl U.vm) qK, qD⟩, va_recv hKc hPc (ci := 3) (q0 := 0) rfl rfl, fun U hU hW => ⟨rfl, by rw [hU], by rw [hU]; exact hPc, va_K.moved hW.alike hKc, hDc.weaken (fun _ _ _ _ => trivial)⟩⟩ rfl rfl hl.1 rfl (lv_room (Nat.le_of_ble_eq_true rfl)) dX3_found_19 ⟨Nat.zero_le _, Nat.zero_le _⟩) hS (fun q _ h => hFc q h) hFc (fun r_11 u t H1 locs ht hvm hw hB hz1 hk1 hS => ?_)
  obtain ⟨⟩ := u
  obtain ⟨hP1, hK1, hD1⟩ := hB
  rw [ht] at hP1
  subst hw
  obtain ⟨hP, hD⟩ := va_join (wr := [(qk, .inl (uk, 40960, .inl Bk))]) (w1 := [(qh, .inr (3, [.int mco, .long md, .long mw, .int mfo, .ref qf, .ref qm, .ref qk, .int mmy, .ref qn, .ref qo, .ref qi, .ref qx, .int mpr, .int mgn, .ref qg, .int mli, .ref ql, .long y_ma_8, .long y_mb_9, .long y_mc_10])), (qf, .inl (uf, 40960, .inl Bf)), (qm, .inl (um, 40960, .inl Bm))]) hP hD [0, 1, 2] [3] rfl rfl (by decide) (by decide) hk1 hFc hP1 hD1
  generalize H1 = H at hP hS ⊢
  have hP : va_P (dC, dI) vwCl [(qk, .inl (uk, 40960, .inl Bk)), (qh, .inr (3, [.int mco, .long md, .long mw, .int mfo, .ref qf, .ref qm, .ref qk, .int mmy, .ref qn, .ref qo, .ref qi, .ref qx, .int mpr, .int mgn, .ref qg, .int mli, .ref ql, .long y_ma_8, .long y_mb_9, .long y_mc_10])), (qf, .inl (uf, 40960, .inl Bf)), (qm, .inl (um, 40960, .inl Bm))] H := hP
  have hD : va_D A [(qk, .inl (uk, 40960, .inl Bk)), (qh, .inr (3, [.int mco, .long md, .long mw, .int mfo, .ref qf, .ref qm, .ref qk, .int mmy, .ref qn, .ref qo, .ref qi, .ref qx, .int mpr, .int mgn, .ref qg, .int mli, .ref ql, .long y_ma_8, .long y_mb_9, .long y_mc_10])), (qf, .inl (uf, 40960, .inl Bf)), (qm, .inl (um, 40960, .inl Bm))] := hD
  obtain ⟨g_22, hf⟩ := ok_g hf
  refine va_iald hx hb hK hP 0 2 rfl rfl g_22 dX3_found_22 ?_
  have hP9 := hP.sub (ws' := [(qh, .inr (3, [.int mco, .long md, .long mw, .int mfo, .ref qf, .ref qm, .ref qk, .int mmy, .ref qn, .ref qo, .ref qi, .ref qx, .int mpr, .int mgn, .ref qg, .int mli, .ref ql, .long y_ma_8, .long y_mb_9, .long y_mc_10])), (qf, .inl (uf, 40960, .inl Bf)), (qm, .inl (um, 40960, .inl Bm)), (qk, .inl (uk, 40960, .inl Bk))]) [1, 2, 3, 0] rfl
  have hD9 := hD.sub (ws' := [(qh, .inr (3, [.int mco, .long md, .long mw, .int mfo, .ref qf, .ref qm, .ref qk, .int mmy, .ref qn, .ref qo, .ref qi, .ref qx, .int mpr, .int mgn, .ref qg, .int mli, .ref ql, .long y_ma_8, .long y_mb_9, .long y_mc_10])), (qf, .inl (uf, 40960, .inl Bf)), (qm, .inl (um, 40960, .inl Bm)), (qk, .inl (uk, 40960, .inl Bk))]) [1, 2, 3, 0] (by decide) rfl
  have hK9 := hK.sub (tys' := [(uf, .int), (um, .int), (uk, .int)]) [0, 1, 2] rfl
  exact W.iret (v := (Bk (r_11).toNatClampNeg)) hx hb hr (fun t ht hW => ⟨⟨(Bk (r_11).toNatClampNeg), (y_ma_8, y_mb_9, y_mc_10), rfl, (Option.some.inj hf), by rw [ht]; exact hP9, va_K.moved hW.alike hK9, hD9⟩, hS.F ht⟩) hS.2.2 dX3_found_23

def f_m_beName (F : Nat) (md : Int64) (Bf : Nat → Int32) (Bm : Nat → Int32) (Bn : Nat → Int32) (x1 : Int32) : Option (Int64 × Int64 × Int64) := (if vin x1 4096 then (if vin (Bn (x1).toNatClampNeg) 40960 then (if vin x1 4096 then (if vin (Bn (x1).toNatClampNeg) 40960 then Option.bind (f_m_be F md (((Bf ((Bn (x1).toNatClampNeg)).toNatClampNeg)).toInt64) (((Bm ((Bn (x1).toNatClampNeg)).toNatClampNeg)).toInt64)) (fun (u_ma_1, u_mb_2, u_mc_3) => some (u_ma_1, u_mb_2, u_mc_3)) else none) else none) else none) else none)
set_option maxHeartbeats 4000000 in
set_option maxRecDepth 100000 in
theorem c_m_beName (l : Launch) (dC : Nat → ClassId) (dI : Nat → Nat → Nat) (qh : Nat) (mco : Int32) (md : Int64) (mw : Int64) (mfo : Int32) (qf : Nat) (qm : Nat) (qk : Nat) (mmy : Int32) (qn : Nat) (qo : Nat) (qi : Nat) (qx : Nat) (mpr : Int32) (mgn : Int32) (qg : Nat) (mli : Int32) (ql : Nat) (ma : Int64) (mb : Int64) (mc : Int64) (uf : ClassId) (Bf : Nat → Int32) (um : ClassId) (Bm : Nat → Int32) (un : ClassId) (Bn : Nat → Int32) (x1 : Int32) (sz : Nat) (F : Nat) (out : Int64 × Int64 × Int64) (hf : f_m_beName F md Bf Bm Bn x1 = some out) : Met l yX3_beName wsX3_beName ({ frames := 1, cells := 0, slots := 0, locals := 24 }) (va_Pc [.ref qh, .int x1] (fun U => U.heap.size = sz ∧ va_P (dC, dI) vwCl [(qh, .inr (3, [.int mco, .long md, .long mw, .int mfo, .ref qf, .ref qm, .ref qk, .int mmy, .ref qn, .ref qo, .ref qi, .ref qx, .int mpr, .int mgn, .ref qg, .int mli, .ref ql, .long ma, .long mb, .long mc])), (qf, .inl (uf, 40960, .inl Bf)), (qm, .inl (um, 40960, .inl Bm)), (qn, .inl (un, 4096, .inl Bn))] U.heap ∧ va_K (dC, dI) vwCl [(uf, .int), (um, .int), (un, .int)] U ∧ va_D (fun _ => True) [(qh, .inr (3, [.int mco, .long md, .long mw, .int mfo, .ref qf, .ref qm, .ref qk, .int mmy, .ref qn, .ref qo, .ref qi, .ref qx, .int mpr, .int mgn, .ref qg, .int mli, .ref ql, .long ma, .long mb, .long mc])), (qf, .inl (uf, 40960, .inl Bf)), (qm, .inl (um, 40960, .inl Bm)), (qn, .inl (un, 4096, .inl Bn))])) (va_Qv (fun (u : Int64 × Int64 × Int64) => u = out) (fun (u : Int64 × Int64 × Int64) t => match u with | (u_ma, u_mb, u_mc) => va_P (dC, dI) vwCl [(qh, .inr (3, [.int mco, .long md, .long mw, .int mfo, .ref qf, .ref qm, .ref qk, .int mmy, .ref qn, .ref qo, .ref qi, .ref qx, .int mpr, .int mgn, .ref qg, .int mli, .ref ql, .long u_ma, .long u_mb, .long u_mc])), (qf, .inl (uf, 40960, .inl Bf)), (qm, .inl (um, 40960, .inl Bm)), (qn, .inl (un, 4096, .inl Bn))] t.heap ∧ va_K (dC, dI) vwCl [(uf, .int), (um, .int), (un, .int)] t ∧ va_D (va_A [(qh, .inr (3, [.int mco, .long md, .long mw, .int mfo, .ref qf, .ref qm, .ref qk, .int mmy, .ref qn, .ref qo, .ref qi, .ref qx, .int mpr, .int mgn, .ref qg, .int mli, .ref ql, .long ma, .long mb, .long mc])), (qf, .inl (uf, 40960, .inl Bf)), (qm, .inl (um, 40960, .inl Bm)), (qn, .inl (un, 4096, .inl Bn))] sz) [(qh, .inr (3, [.int mco, .long md, .long mw, .int mfo, .ref qf, .ref qm, .ref qk, .int mmy, .ref qn, .ref qo, .ref qi, .ref qx, .int mpr, .int mgn, .ref qg, .int mli, .ref ql, .long u_ma, .long u_mb, .long u_mc])), (qf, .inl (uf, 40960, .inl Bf)), (qm, .inl (um, 40960, .inl Bm)), (qn, .inl (un, 4096, .inl Bn))]) (va_A [(qh, .inr (3, [.int mco, .long md, .long mw, .int mfo, .ref qf, .ref qm, .ref qk, .int mmy, .ref qn, .ref qo, .ref qi, .ref qx, .int mpr, .int mgn, .ref qg, .int mli, .ref ql, .long ma, .long mb, .long mc])), (qf, .inl (uf, 40960, .inl Bf)), (qm, .inl (um, 40960, .inl Bm)), (qn, .inl (un, 4096, .inl Bn))] sz)) 0 0 (va_A [(qh, .inr (3, [.int mco, .long md, .long mw, .int mfo, .ref qf, .ref qm, .ref qk, .int mmy, .ref qn, .ref qo, .ref qi, .ref qx, .int mpr, .int mgn, .ref qg, .int mli, .ref ql, .long ma, .long mb, .long mc])), (qf, .inl (uf, 40960, .inl Bf)), (qm, .inl (um, 40960, .inl Bm)), (qn, .inl (un, 4096, .inl Bn))] sz) := by
  refine Met.ofW (cc := cX3_beName) (maxL := 2) (ret := none) (by decide +kernel) rfl ?_
  intro p e s m args below meth c s₁ B hml hv
  obtain ⟨rfl, hsz, hP, hK, hD0⟩ := hv
  have hx := B.exec
  have hb := B.bytes
  have hr := B.returns
  have hts := atoms_spec (ws := wsX3_beName) B.pre
  have hown : s.vm.findClass "ClassGroupModel" = some m.cls := findClass_of_methodNamed B.named
  have hlocks := B.notSynchronized
  subst hsz
  have hD := hD0.self (sz := s.heap.size)
  generalize hAe : va_A [(qh, .inr (3, [.int mco, .long md, .long mw, .int mfo, .ref qf, .ref qm, .ref qk, .int mmy, .ref qn, .ref qo, .ref qi, .ref qx, .int mpr, .int mgn, .ref qg, .int mli, .ref ql, .long ma, .long mb, .long mc])), (qf, .inl (uf, 40960, .inl Bf)), (qm, .inl (um, 40960, .inl Bm)), (qn, .inl (un, 4096, .inl Bn))] s.heap.size = A at hD ⊢
  have hA : ∀ q : Nat, s.heap.size ≤ q → A q := fun q h => by rw [← hAe]; exact Or.inr h
  have hS : va_S A s.heap s.heap [] := va_S.rf
  have hl := lv_entry ([.ref qh, .int x1]) (n := 2) (Nat.le_of_ble_eq_true rfl)
  rw [lg_entry_eq]
  generalize (lg_sl ([.ref qh, .int x1]) ++ List.replicate (2 - (lg_sl ([.ref qh, .int x1])).length) Slot.unset).toArray = ls at hl ⊢
  have hl : lv_has ls 2 [(0, .ref qh), (1, .int x1)] := hl
  unfold f_m_beName at hf
  refine lv_aload_n hx hb dX3_beName_0 rfl (lv_at hl 0 rfl) ?_
  refine lv_aload_n hx hb dX3_beName_1 rfl (lv_at hl 0 rfl) ?_
  refine va_get (D := (dC, dI)) (ci := 3) (v := .ref qf) (C := "ClassGroupModel") (T := TX3) (N := 20) hx hb hts (fun w h => List.mem_cons_of_mem _ (iwX3 w h)) hown hK hP 0 rfl rfl 4 (by decide) (hts _ (List.mem_cons_of_mem _ kw_511)) (fun _ h9 => h9) rfl dX3_beName_2 ?_
  refine lv_aload_n hx hb dX3_beName_5 rfl (lv_at hl 0 rfl) ?_
  refine va_get (D := (dC, dI)) (ci := 3) (v := .ref qn) (C := "ClassGroupModel") (T := TX3) (N := 20) hx hb hts (fun w h => List.mem_cons_of_mem _ (iwX3 w h)) hown hK hP 0 rfl rfl 8 (by decide) (hts _ (List.mem_cons_of_mem _ kw_515)) (fun _ h9 => h9) rfl dX3_beName_6 ?_
  refine lv_iload_n hx hb dX3_beName_9 rfl (lv_at hl 1 rfl) ?_
  obtain ⟨g_10, hf⟩ := ok_g hf
  refine va_iald hx hb hK hP 3 2 rfl rfl g_10 dX3_beName_10 ?_
  obtain ⟨g_11, hf⟩ := ok_g hf
  refine va_iald hx hb hK hP 1 0 rfl rfl g_11 dX3_beName_11 ?_
  refine lv_i2l (v := ((Bf ((Bn (x1).toNatClampNeg)).toNatClampNeg)).toInt64) hx hb dX3_beName_12 rfl ?_
  refine lv_aload_n hx hb dX3_beName_13 rfl (lv_at hl 0 rfl) ?_
  refine va_get (D := (dC, dI)) (ci := 3) (v := .ref qm) (C := "ClassGroupModel") (T := TX3) (N := 20) hx hb hts (fun w h => List.mem_cons_of_mem _ (iwX3 w h)) hown hK hP 0 rfl rfl 5 (by decide) (hts _ (List.mem_cons_of_mem _ kw_512)) (fun _ h9 => h9) rfl dX3_beName_14 ?_
  refine lv_aload_n hx hb dX3_beName_17 rfl (lv_at hl 0 rfl) ?_
  refine va_get (D := (dC, dI)) (ci := 3) (v := .ref qn) (C := "ClassGroupModel") (T := TX3) (N := 20) hx hb hts (fun w h => List.mem_cons_of_mem _ (iwX3 w h)) hown hK hP 0 rfl rfl 8 (by decide) (hts _ (List.mem_cons_of_mem _ kw_515)) (fun _ h9 => h9) rfl dX3_beName_18 ?_
  refine lv_iload_n hx hb dX3_beName_21 rfl (lv_at hl 1 rfl) ?_
  obtain ⟨g_22, hf⟩ := ok_g hf
  refine va_iald hx hb hK hP 3 2 rfl rfl g_22 dX3_beName_22 ?_
  obtain ⟨g_23, hf⟩ := ok_g hf
  refine va_iald hx hb hK hP 2 1 rfl rfl g_23 dX3_beName_23 ?_
  refine lv_i2l (v := ((Bm ((Bn (x1).toNatClampNeg)).toNatClampNeg)).toInt64) hx hb dX3_beName_24 rfl ?_
  obtain ⟨xc25, hc25, hf⟩ := ok_b hf
  have hPc := hP.sub (ws' := [(qh, .inr (3, [.int mco, .long md, .long mw, .int mfo, .ref qf, .ref qm, .ref qk, .int mmy, .ref qn, .ref qo, .ref qi, .ref qx, .int mpr, .int mgn, .ref qg, .int mli, .ref ql, .long ma, .long mb, .long mc]))]) [0] rfl
  have hDc := hD.sub (ws' := [(qh, .inr (3, [.int mco, .long md, .long mw, .int mfo, .ref qf, .ref qm, .ref qk, .int mmy, .ref qn, .ref qo, .ref qi, .ref qx, .int mpr, .int mgn, .ref qg, .int mli, .ref ql, .long ma, .long mb, .long mc]))]) [0] (by decide) rfl
  have hKc := hK.sub (tys' := []) [] rfl
  have hFc := va_free (wc := [(qh, .inr (3, [.int mco, .long md, .long mw, .int mfo, .ref qf, .ref qm, .ref qk, .int mmy, .ref qn, .ref qo, .ref qi, .ref qx, .int mpr, .int mgn, .ref qg, .int mli, .ref ql, .long ma, .long mb, .long mc]))]) hD hS hA [0] rfl
  refine va_callv (va_runV (As := [.long ((Bf ((Bn (x1).toNatClampNeg)).toNatClampNeg)).toInt64, .long ((Bm ((Bn (x1).toNatClampNeg)).toNatClampNeg)).toInt64]) (rest := []) ⟨hx, hb, hml, hown, hts⟩ (c_m_be l dC dI qh mco md mw mfo qf qm qk mmy qn qo qi qx mpr mgn qg mli ql ma mb mc (((Bf ((Bn (x1).toNatClampNeg)).toNatClampNeg)).toInt64) (((Bm ((Bn (x1).toNatClampNeg)).toNatClampNeg)).toInt64) s.heap.size F xc25 hc25) (cwV 2 hts (gwV kw_452 kw_454 ks_29 kw_5 kw_455) rfl rfl rfl (by decide +kernel) ⟨Nat.le_of_ble_eq_true rfl, Nat.le_of_ble_eq_true rfl⟩) ⟨fun a U g mk q => by obtain ⟨q0, q1, qP, qK, qD⟩ := q; exact ⟨q0, q1, qP, va_K.moved (u := U) (U := U.calling g mk a) (Vm.Alike.refl U.vm) qK, qD⟩, va_recv hKc hPc (ci := 3) (q0 := 0) rfl rfl, fun U hU hW => ⟨rfl, by rw [hU], by rw [hU]; exact hPc, va_K.moved hW.alike hKc, hDc.weaken (fun _ _ _ _ => trivial)⟩⟩ rfl rfl hl.1 rfl (lv_room (Nat.le_of_ble_eq_true rfl)) dX3_beName_25 ⟨Nat.zero_le _, Nat.zero_le _⟩) hS (fun q _ h => hFc q h) hFc (fun u t H1 locs ht hvm hw hB hz1 hk1 hS => ?_)
  obtain ⟨u_ma_1, u_mb_2, u_mc_3⟩ := u
  obtain ⟨hP1, hK1, hD1⟩ := hB
  rw [ht] at hP1
  subst hw
  obtain ⟨hP, hD⟩ := va_join (wr := [(qf, .inl (uf, 40960, .inl Bf)), (qm, .inl (um, 40960, .inl Bm)), (qn, .inl (un, 4096, .inl Bn))]) (w1 := [(qh, .inr (3, [.int mco, .long md, .long mw, .int mfo, .ref qf, .ref qm, .ref qk, .int mmy, .ref qn, .ref qo, .ref qi, .ref qx, .int mpr, .int mgn, .ref qg, .int mli, .ref ql, .long u_ma_1, .long u_mb_2, .long u_mc_3]))]) hP hD [0] [1, 2, 3] rfl rfl (by decide) (by decide) hk1 hFc hP1 hD1
  generalize H1 = H at hP hS ⊢
  have hP : va_P (dC, dI) vwCl [(qf, .inl (uf, 40960, .inl Bf)), (qm, .inl (um, 40960, .inl Bm)), (qn, .inl (un, 4096, .inl Bn)), (qh, .inr (3, [.int mco, .long md, .long mw, .int mfo, .ref qf, .ref qm, .ref qk, .int mmy, .ref qn, .ref qo, .ref qi, .ref qx, .int mpr, .int mgn, .ref qg, .int mli, .ref ql, .long u_ma_1, .long u_mb_2, .long u_mc_3]))] H := hP
  have hD : va_D A [(qf, .inl (uf, 40960, .inl Bf)), (qm, .inl (um, 40960, .inl Bm)), (qn, .inl (un, 4096, .inl Bn)), (qh, .inr (3, [.int mco, .long md, .long mw, .int mfo, .ref qf, .ref qm, .ref qk, .int mmy, .ref qn, .ref qo, .ref qi, .ref qx, .int mpr, .int mgn, .ref qg, .int mli, .ref ql, .long u_ma_1, .long u_mb_2, .long u_mc_3]))] := hD
  have hP9 := hP.sub (ws' := [(qh, .inr (3, [.int mco, .long md, .long mw, .int mfo, .ref qf, .ref qm, .ref qk, .int mmy, .ref qn, .ref qo, .ref qi, .ref qx, .int mpr, .int mgn, .ref qg, .int mli, .ref ql, .long u_ma_1, .long u_mb_2, .long u_mc_3])), (qf, .inl (uf, 40960, .inl Bf)), (qm, .inl (um, 40960, .inl Bm)), (qn, .inl (un, 4096, .inl Bn))]) [3, 0, 1, 2] rfl
  have hD9 := hD.sub (ws' := [(qh, .inr (3, [.int mco, .long md, .long mw, .int mfo, .ref qf, .ref qm, .ref qk, .int mmy, .ref qn, .ref qo, .ref qi, .ref qx, .int mpr, .int mgn, .ref qg, .int mli, .ref ql, .long u_ma_1, .long u_mb_2, .long u_mc_3])), (qf, .inl (uf, 40960, .inl Bf)), (qm, .inl (um, 40960, .inl Bm)), (qn, .inl (un, 4096, .inl Bn))]) [3, 0, 1, 2] (by decide) rfl
  have hK9 := hK.sub (tys' := [(uf, .int), (um, .int), (un, .int)]) [0, 1, 2] rfl
  exact W.vret hx hb hr (fun t ht hW => ⟨⟨(u_ma_1, u_mb_2, u_mc_3), rfl, (Option.some.inj hf), by rw [ht]; exact hP9, va_K.moved hW.alike hK9, hD9⟩, hS.F ht⟩) hS.2.2 dX3_beName_28

