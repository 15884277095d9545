def f_m_times_L111 (F : Nat) (u_mb_5 : Int64) (v7_7 : Int64) (r_9 : Int64) (v11_10 : Int64) (v13_11 : Int64) (v15_12 : Int64) (v17_13 : Int64) : Nat → Int64 → Option (Int64)
  | 0, _ => none
  | n111 + 1, w19_14 => (if ¬ v17_13 = 0 then (if (lg_cmp ((w19_14 - u_mb_5) - (w19_14 - u_mb_5) / v17_13 * v17_13) 0) = 0 then (if ¬ r_9 = 0 then (if ¬ (2 * v11_10) = 0 then (if (lg_cmp ((((v7_7 / r_9) * w19_14) - v13_11) - (((v7_7 / r_9) * w19_14) - v13_11) / (2 * v11_10) * (2 * v11_10)) 0) = 0 then some w19_14 else Option.bind (f_m_size F v15_12) (fun r_17 => bnd (w19_14 + r_17) (fun v19_18 => f_m_times_L111 F u_mb_5 v7_7 r_9 v11_10 v13_11 v15_12 v17_13 n111 v19_18))) else none) else none) else Option.bind (f_m_size F v15_12) (fun r_15 => bnd (w19_14 + r_15) (fun v19_16 => f_m_times_L111 F u_mb_5 v7_7 r_9 v11_10 v13_11 v15_12 v17_13 n111 v19_16))) else none)
def f_m_times (F : Nat) (md : Int64) (mw : Int64) (mfo : Int32) (Bf : Nat → Int32) (Bm : Nat → Int32) (Bk : Nat → Int32) (Bn : Nat → Int32) (x1 : Int32) (x2 : Int32) : Option (Int32 × Int64 × Int64 × Int64) := Option.bind (f_m_beName F md Bf Bm Bn x1) (fun (u_ma_1, u_mb_2, u_mc_3) => Option.bind (f_m_beName F md Bf Bm Bn x2) (fun (u_ma_4, u_mb_5, u_mc_6) => bnd ((u_mb_2 + u_mb_5) / 2) (fun v7_7 => Option.bind (f_m_common F u_ma_1 u_ma_4) (fun r_8 => Option.bind (f_m_common F r_8 v7_7) (fun r_9 => (if ¬ r_9 = 0 then (if ¬ r_9 = 0 then bnd ((u_ma_1 / r_9) * (u_ma_4 / r_9)) (fun v11_10 => (if ¬ r_9 = 0 then bnd ((((u_mb_2 * u_mb_5) + md) / 2) / r_9) (fun v13_11 => (if ¬ r_9 = 0 then bnd ((2 * u_ma_1) / r_9) (fun v15_12 => (if ¬ r_9 = 0 then bnd ((2 * u_ma_4) / r_9) (fun v17_13 => Option.bind (f_m_times_L111 F u_mb_5 v7_7 r_9 v11_10 v13_11 v15_12 v17_13 F u_mb_2) (fun x19_19 => Option.bind (f_m_be F md v11_10 x19_19) (fun (u_ma_20, u_mb_21, u_mc_22) => Option.bind (f_m_found F md mw mfo Bf Bm Bk u_ma_20 u_mb_21 u_mc_22) (fun (r_23, u_ma_24, u_mb_25, u_mc_26) => some (r_23, u_ma_24, u_mb_25, u_mc_26))))) else none)) else none)) else none)) else none) else none))))))
set_option maxHeartbeats 4000000 in
set_option maxRecDepth 100000 in
theorem c_m_times (l : Launch) (dC : Nat → ClassId) (dI : Nat → Nat → Nat) (qh : Nat) (mco : Int32) (md : Int64) (mw : Int64) (mfo : Int32) (qf : Nat) (qm : Nat) (qk : Nat) (mmy : Int32) (qn : Nat) (qo : Nat) (qi : Nat) (qx : Nat) (mpr : Int32) (mgn : Int32) (qg : Nat) (mli : Int32) (ql : Nat) (ma : Int64) (mb : Int64) (mc : Int64) (uf : ClassId) (Bf : Nat → Int32) (um : ClassId) (Bm : Nat → Int32) (uk : ClassId) (Bk : Nat → Int32) (un : ClassId) (Bn : Nat → Int32) (x1 : Int32) (x2 : Int32) (sz : Nat) (F : Nat) (out : Int32 × Int64 × Int64 × Int64) (hf : f_m_times F md mw mfo Bf Bm Bk Bn x1 x2 = some out) : Met l yX3_times wsX3_times ({ frames := 3, cells := 0, slots := 0, locals := 70 }) (va_Pc [.ref qh, .int x1, .int x2] (fun U => U.heap.size = sz ∧ va_P (dC, dI) vwCl [(qh, .inr (3, [.int mco, .long md, .long mw, .int mfo, .ref qf, .ref qm, .ref qk, .int mmy, .ref qn, .ref qo, .ref qi, .ref qx, .int mpr, .int mgn, .ref qg, .int mli, .ref ql, .long ma, .long mb, .long mc])), (qf, .inl (uf, 40960, .inl Bf)), (qm, .inl (um, 40960, .inl Bm)), (qk, .inl (uk, 40960, .inl Bk)), (qn, .inl (un, 4096, .inl Bn))] U.heap ∧ va_K (dC, dI) vwCl [(uf, .int), (um, .int), (uk, .int), (un, .int)] U ∧ va_D (fun _ => True) [(qh, .inr (3, [.int mco, .long md, .long mw, .int mfo, .ref qf, .ref qm, .ref qk, .int mmy, .ref qn, .ref qo, .ref qi, .ref qx, .int mpr, .int mgn, .ref qg, .int mli, .ref ql, .long ma, .long mb, .long mc])), (qf, .inl (uf, 40960, .inl Bf)), (qm, .inl (um, 40960, .inl Bm)), (qk, .inl (uk, 40960, .inl Bk)), (qn, .inl (un, 4096, .inl Bn))])) (va_Qi (fun (r : Int32) (u : Int64 × Int64 × Int64) => (r, u) = out) (fun (u : Int64 × Int64 × Int64) t => match u with | (u_ma, u_mb, u_mc) => va_P (dC, dI) vwCl [(qh, .inr (3, [.int mco, .long md, .long mw, .int mfo, .ref qf, .ref qm, .ref qk, .int mmy, .ref qn, .ref qo, .ref qi, .ref qx, .int mpr, .int mgn, .ref qg, .int mli, .ref ql, .long u_ma, .long u_mb, .long u_mc])), (qf, .inl (uf, 40960, .inl Bf)), (qm, .inl (um, 40960, .inl Bm)), (qk, .inl (uk, 40960, .inl Bk)), (qn, .inl (un, 4096, .inl Bn))] t.heap ∧ va_K (dC, dI) vwCl [(uf, .int), (um, .int), (uk, .int), (un, .int)] t ∧ va_D (va_A [(qh, .inr (3, [.int mco, .long md, .long mw, .int mfo, .ref qf, .ref qm, .ref qk, .int mmy, .ref qn, .ref qo, .ref qi, .ref qx, .int mpr, .int mgn, .ref qg, .int mli, .ref ql, .long ma, .long mb, .long mc])), (qf, .inl (uf, 40960, .inl Bf)), (qm, .inl (um, 40960, .inl Bm)), (qk, .inl (uk, 40960, .inl Bk)), (qn, .inl (un, 4096, .inl Bn))] sz) [(qh, .inr (3, [.int mco, .long md, .long mw, .int mfo, .ref qf, .ref qm, .ref qk, .int mmy, .ref qn, .ref qo, .ref qi, .ref qx, .int mpr, .int mgn, .ref qg, .int mli, .ref ql, .long u_ma, .long u_mb, .long u_mc])), (qf, .inl (uf, 40960, .inl Bf)), (qm, .inl (um, 40960, .inl Bm)), (qk, .inl (uk, 40960, .inl Bk)), (qn, .inl (un, 4096, .inl Bn))]) (va_A [(qh, .inr (3, [.int mco, .long md, .long mw, .int mfo, .ref qf, .ref qm, .ref qk, .int mmy, .ref qn, .ref qo, .ref qi, .ref qx, .int mpr, .int mgn, .ref qg, .int mli, .ref ql, .long ma, .long mb, .long mc])), (qf, .inl (uf, 40960, .inl Bf)), (qm, .inl (um, 40960, .inl Bm)), (qk, .inl (uk, 40960, .inl Bk)), (qn, .inl (un, 4096, .inl Bn))] sz)) 0 0 (va_A [(qh, .inr (3, [.int mco, .long md, .long mw, .int mfo, .ref qf, .ref qm, .ref qk, .int mmy, .ref qn, .ref qo, .ref qi, .ref qx, .int mpr, .int mgn, .ref qg, .int mli, .ref ql, .long ma, .long mb, .long mc])), (qf, .inl (uf, 40960, .inl Bf)), (qm, .inl (um, 40960, .inl Bm)), (qk, .inl (uk, 40960, .inl Bk)), (qn, .inl (un, 4096, .inl Bn))] sz) := by
  refine Met.ofW (cc := cX3_times) (maxL := 21) (ret := (some .int)) (by decide +kernel) rfl ?_
  intro p e s m args below meth c s₁ B hml hv
  obtain ⟨rfl, hsz, hP, hK, hD0⟩ := hv
  have hx := B.exec
  have hb := B.bytes
  have hr := B.returns
  have hts := atoms_spec (ws := wsX3_times) B.pre
  have hown : s.vm.findClass "ClassGroupModel" = some m.cls := findClass_of_methodNamed B.named
  have hlocks := B.notSynchronized
  subst hsz
  have hD := hD0.self (sz := s.heap.size)
  generalize hAe : va_A [(qh, .inr (3, [.int mco, .long md, .long mw, .int mfo, .ref qf, .ref qm, .ref qk, .int mmy, .ref qn, .ref qo, .ref qi, .ref qx, .int mpr, .int mgn, .ref qg, .int mli, .ref ql, .long ma, .long mb, .long mc])), (qf, .inl (uf, 40960, .inl Bf)), (qm, .inl (um, 40960, .inl Bm)), (qk, .inl (uk, 40960, .inl Bk)), (qn, .inl (un, 4096, .inl Bn))] s.heap.size = A at hD ⊢
  have hA : ∀ q : Nat, s.heap.size ≤ q → A q := fun q h => by rw [← hAe]; exact Or.inr h
  have hS : va_S A s.heap s.heap [] := va_S.rf
  have hl := lv_entry ([.ref qh, .int x1, .int x2]) (n := 21) (Nat.le_of_ble_eq_true rfl)
  rw [lg_entry_eq]
  generalize (lg_sl ([.ref qh, .int x1, .int x2]) ++ List.replicate (21 - (lg_sl ([.ref qh, .int x1, .int x2])).length) Slot.unset).toArray = ls at hl ⊢
  have hl : lv_has ls 21 [(0, .ref qh), (1, .int x1), (2, .int x2)] := hl
  unfold f_m_times at hf
  refine lv_aload_n hx hb dX3_times_0 rfl (lv_at hl 0 rfl) ?_
  refine lv_iload_n hx hb dX3_times_1 rfl (lv_at hl 1 rfl) ?_
  obtain ⟨xc2, hc2, hf⟩ := ok_b hf
  have hPc := hP.sub (ws' := [(qh, .inr (3, [.int mco, .long md, .long mw, .int mfo, .ref qf, .ref qm, .ref qk, .int mmy, .ref qn, .ref qo, .ref qi, .ref qx, .int mpr, .int mgn, .ref qg, .int mli, .ref ql, .long ma, .long mb, .long mc])), (qf, .inl (uf, 40960, .inl Bf)), (qm, .inl (um, 40960, .inl Bm)), (qn, .inl (un, 4096, .inl Bn))]) [0, 1, 2, 4] rfl
  have hDc := hD.sub (ws' := [(qh, .inr (3, [.int mco, .long md, .long mw, .int mfo, .ref qf, .ref qm, .ref qk, .int mmy, .ref qn, .ref qo, .ref qi, .ref qx, .int mpr, .int mgn, .ref qg, .int mli, .ref ql, .long ma, .long mb, .long mc])), (qf, .inl (uf, 40960, .inl Bf)), (qm, .inl (um, 40960, .inl Bm)), (qn, .inl (un, 4096, .inl Bn))]) [0, 1, 2, 4] (by decide) rfl
  have hKc := hK.sub (tys' := [(uf, .int), (um, .int), (un, .int)]) [0, 1, 3] rfl
  have hFc := va_free (wc := [(qh, .inr (3, [.int mco, .long md, .long mw, .int mfo, .ref qf, .ref qm, .ref qk, .int mmy, .ref qn, .ref qo, .ref qi, .ref qx, .int mpr, .int mgn, .ref qg, .int mli, .ref ql, .long ma, .long mb, .long mc])), (qf, .inl (uf, 40960, .inl Bf)), (qm, .inl (um, 40960, .inl Bm)), (qn, .inl (un, 4096, .inl Bn))]) hD hS hA [0, 1, 2, 4] rfl
  refine va_callv (va_runV (As := [.int x1]) (rest := []) ⟨hx, hb, hml, hown, hts⟩ (c_m_beName l dC dI qh mco md mw mfo qf qm qk mmy qn qo qi qx mpr mgn qg mli ql ma mb mc uf Bf um Bm un Bn x1 s.heap.size F xc2 hc2) (cwV 1 hts (gwV kw_491 kw_493 ks_37 kw_5 kw_494) rfl rfl rfl (by decide +kernel) ⟨Nat.le_of_ble_eq_true rfl, Nat.le_of_ble_eq_true rfl⟩) ⟨fun a U g mk q => by obtain ⟨q0, q1, qP, qK, qD⟩ := q; exact ⟨q0, q1, qP, va_K.moved (u := U) (U := U.calling g mk a) (Vm.Alike.refl U.vm) qK, qD⟩, va_recv hKc hPc (ci := 3) (q0 := 0) rfl rfl, fun U hU hW => ⟨rfl, by rw [hU], by rw [hU]; exact hPc, va_K.moved hW.alike hKc, hDc.weaken (fun _ _ _ _ => trivial)⟩⟩ rfl rfl hl.1 rfl (lv_room (Nat.le_of_ble_eq_true rfl)) dX3_times_2 ⟨Nat.zero_le _, Nat.zero_le _⟩) hS (fun q _ h => hFc q h) hFc (fun u t H1 locs ht hvm hw hB hz1 hk1 hS => ?_)
  obtain ⟨u_ma_1, u_mb_2, u_mc_3⟩ := u
  obtain ⟨hP1, hK1, hD1⟩ := hB
  rw [ht] at hP1
  subst hw
  obtain ⟨hP, hD⟩ := va_join (wr := [(qk, .inl (uk, 40960, .inl Bk))]) (w1 := [(qh, .inr (3, [.int mco, .long md, .long mw, .int mfo, .ref qf, .ref qm, .ref qk, .int mmy, .ref qn, .ref qo, .ref qi, .ref qx, .int mpr, .int mgn, .ref qg, .int mli, .ref ql, .long u_ma_1, .long u_mb_2, .long u_mc_3])), (qf, .inl (uf, 40960, .inl Bf)), (qm, .inl (um, 40960, .inl Bm)), (qn, .inl (un, 4096, .inl Bn))]) hP hD [0, 1, 2, 4] [3] rfl rfl (by decide) (by decide) hk1 hFc hP1 hD1
  generalize H1 = H at hP hS ⊢
  have hP : va_P (dC, dI) vwCl [(qk, .inl (uk, 40960, .inl Bk)), (qh, .inr (3, [.int mco, .long md, .long mw, .int mfo, .ref qf, .ref qm, .ref qk, .int mmy, .ref qn, .ref qo, .ref qi, .ref qx, .int mpr, .int mgn, .ref qg, .int mli, .ref ql, .long u_ma_1, .long u_mb_2, .long u_mc_3])), (qf, .inl (uf, 40960, .inl Bf)), (qm, .inl (um, 40960, .inl Bm)), (qn, .inl (un, 4096, .inl Bn))] H := hP
  have hD : va_D A [(qk, .inl (uk, 40960, .inl Bk)), (qh, .inr (3, [.int mco, .long md, .long mw, .int mfo, .ref qf, .ref qm, .ref qk, .int mmy, .ref qn, .ref qo, .ref qi, .ref qx, .int mpr, .int mgn, .ref qg, .int mli, .ref ql, .long u_ma_1, .long u_mb_2, .long u_mc_3])), (qf, .inl (uf, 40960, .inl Bf)), (qm, .inl (um, 40960, .inl Bm)), (qn, .inl (un, 4096, .inl Bn))] := hD
  refine lv_aload_n hx hb dX3_times_5 rfl (lv_at hl 0 rfl) ?_
  refine va_get (D := (dC, dI)) (ci := 3) (v := .long u_ma_1) (C := "ClassGroupModel") (T := TX3) (N := 20) hx hb hts (fun w h => List.mem_cons_of_mem _ (iwX3 w h)) hown hK hP 1 rfl rfl 17 (by decide) (hts _ (List.mem_cons_of_mem _ kw_524)) (fun _ h9 => h9) rfl dX3_times_6 ?_
  refine lv_lstore_n (lv' := [(3, .long u_ma_1), (0, .ref qh), (1, .int x1), (2, .int x2)]) hx hb dX3_times_9 rfl hl (by decide) rfl (fun ls hl => ?_)
  refine lv_aload_n hx hb dX3_times_10 rfl (lv_at hl 1 rfl) ?_
  refine va_get (D := (dC, dI)) (ci := 3) (v := .long u_mb_2) (C := "ClassGroupModel") (T := TX3) (N := 20) hx hb hts (fun w h => List.mem_cons_of_mem _ (iwX3 w h)) hown hK hP 1 rfl rfl 18 (by decide) (hts _ (List.mem_cons_of_mem _ kw_525)) (fun _ h9 => h9) rfl dX3_times_11 ?_
  refine lv_lstore (lv' := [(5, .long u_mb_2), (3, .long u_ma_1), (0, .ref qh), (1, .int x1), (2, .int x2)]) hx hb dX3_times_14 hl (by decide) rfl (fun ls hl => ?_)
  refine lv_aload_n hx hb dX3_times_16 rfl (lv_at hl 2 rfl) ?_
  refine lv_iload_n hx hb dX3_times_17 rfl (lv_at hl 4 rfl) ?_
  obtain ⟨xc18, hc18, hf⟩ := ok_b hf
  have hPc := hP.sub (ws' := [(qh, .inr (3, [.int mco, .long md, .long mw, .int mfo, .ref qf, .ref qm, .ref qk, .int mmy, .ref qn, .ref qo, .ref qi, .ref qx, .int mpr, .int mgn, .ref qg, .int mli, .ref ql, .long u_ma_1, .long u_mb_2, .long u_mc_3])), (qf, .inl (uf, 40960, .inl Bf)), (qm, .inl (um, 40960, .inl Bm)), (qn, .inl (un, 4096, .inl Bn))]) [1, 2, 3, 4] rfl
  have hDc := hD.sub (ws' := [(qh, .inr (3, [.int mco, .long md, .long mw, .int mfo, .ref qf, .ref qm, .ref qk, .int mmy, .ref qn, .ref qo, .ref qi, .ref qx, .int mpr, .int mgn, .ref qg, .int mli, .ref ql, .long u_ma_1, .long u_mb_2, .long u_mc_3])), (qf, .inl (uf, 40960, .inl Bf)), (qm, .inl (um, 40960, .inl Bm)), (qn, .inl (un, 4096, .inl Bn))]) [1, 2, 3, 4] (by decide) rfl
  have hKc := hK.sub (tys' := [(uf, .int), (um, .int), (un, .int)]) [0, 1, 3] rfl
  have hFc := va_free (wc := [(qh, .inr (3, [.int mco, .long md, .long mw, .int mfo, .ref qf, .ref qm, .ref qk, .int mmy, .ref qn, .ref qo, .ref qi, .ref qx, .int mpr, .int mgn, .ref qg, .int mli, .ref ql, .long u_ma_1, .long u_mb_2, .long u_mc_3])), (qf, .inl (uf, 40960, .inl Bf)), (qm, .inl (um, 40960, .inl Bm)), (qn, .inl (un, 4096, .inl Bn))]) hD hS hA [1, 2, 3, 4] rfl
  refine va_callv (va_runV (As := [.int x2]) (rest := []) ⟨hx, hb, hml, hown, hts⟩ (c_m_beName l dC dI qh mco md mw mfo qf qm qk mmy qn qo qi qx mpr mgn qg mli ql u_ma_1 u_mb_2 u_mc_3 uf Bf um Bm un Bn x2 H.size F xc18 hc18) (cwV 1 hts (gwV kw_491 kw_493 ks_37 kw_5 kw_494) rfl rfl rfl (by decide +kernel) ⟨Nat.le_of_ble_eq_true rfl, Nat.le_of_ble_eq_true rfl⟩) ⟨fun a U g mk q => by obtain ⟨q0, q1, qP, qK, qD⟩ := q; exact ⟨q0, q1, qP, va_K.moved (u := U) (U := U.calling g mk a) (Vm.Alike.refl U.vm) qK, qD⟩, va_recv hKc hPc (ci := 3) (q0 := 0) rfl rfl, fun U hU hW => ⟨rfl, by rw [hU], by rw [hU]; exact hPc, va_K.moved hW.alike hKc, hDc.weaken (fun _ _ _ _ => trivial)⟩⟩ rfl rfl hl.1 rfl (lv_room (Nat.le_of_ble_eq_true rfl)) dX3_times_18 ⟨Nat.zero_le _, Nat.zero_le _⟩) hS (fun q _ h => hFc q h) hFc (fun u t H1 locs ht hvm hw hB hz1 hk1 hS => ?_)
  obtain ⟨u_ma_4, u_mb_5, u_mc_6⟩ := u
  obtain ⟨hP1, hK1, hD1⟩ := hB
  rw [ht] at hP1
  subst hw
  obtain ⟨hP, hD⟩ := va_join (wr := [(qk, .inl (uk, 40960, .inl Bk))]) (w1 := [(qh, .inr (3, [.int mco, .long md, .long mw, .int mfo, .ref qf, .ref qm, .ref qk, .int mmy, .ref qn, .ref qo, .ref qi, .ref qx, .int mpr, .int mgn, .ref qg, .int mli, .ref ql, .long u_ma_4, .long u_mb_5, .long u_mc_6])), (qf, .inl (uf, 40960, .inl Bf)), (qm, .inl (um, 40960, .inl Bm)), (qn, .inl (un, 4096, .inl Bn))]) hP hD [1, 2, 3, 4] [0] rfl rfl (by decide) (by decide) hk1 hFc hP1 hD1
  generalize H1 = H at hP hS ⊢
  have hP : va_P (dC, dI) vwCl [(qk, .inl (uk, 40960, .inl Bk)), (qh, .inr (3, [.int mco, .long md, .long mw, .int mfo, .ref qf, .ref qm, .ref qk, .int mmy, .ref qn, .ref qo, .ref qi, .ref qx, .int mpr, .int mgn, .ref qg, .int mli, .ref ql, .long u_ma_4, .long u_mb_5, .long u_mc_6])), (qf, .inl (uf, 40960, .inl Bf)), (qm, .inl (um, 40960, .inl Bm)), (qn, .inl (un, 4096, .inl Bn))] H := hP
  have hD : va_D A [(qk, .inl (uk, 40960, .inl Bk)), (qh, .inr (3, [.int mco, .long md, .long mw, .int mfo, .ref qf, .ref qm, .ref qk, .int mmy, .ref qn, .ref qo, .ref qi, .ref qx, .int mpr, .int mgn, .ref qg, .int mli, .ref ql, .long u_ma_4, .long u_mb_5, .long u_mc_6])), (qf, .inl (uf, 40960, .inl Bf)), (qm, .inl (um, 40960, .inl Bm)), (qn, .inl (un, 4096, .inl Bn))] := hD
  refine lv_lload hx hb dX3_times_21 (lv_at hl 0 rfl) ?_
  refine lv_aload_n hx hb dX3_times_23 rfl (lv_at hl 2 rfl) ?_
  refine va_get (D := (dC, dI)) (ci := 3) (v := .long u_mb_5) (C := "ClassGroupModel") (T := TX3) (N := 20) hx hb hts (fun w h => List.mem_cons_of_mem _ (iwX3 w h)) hown hK hP 1 rfl rfl 18 (by decide) (hts _ (List.mem_cons_of_mem _ kw_525)) (fun _ h9 => h9) rfl dX3_times_24 ?_
  refine lv_ladd hx hb dX3_times_27 ?_
  refine lv_ldc2 (v := 2) hx hb hown (hts _ (List.mem_cons_of_mem _ kw_463)) dX3_times_28 ?_
  refine lv_ldiv hx hb dX3_times_31 (by decide) ?_
  refine lv_topl (fun v7_7 ev7_7 => ?_)
  replace hf := bnd_ok ev7_7 hf
  refine lv_lstore (lv' := [(7, .long v7_7), (5, .long u_mb_2), (3, .long u_ma_1), (0, .ref qh), (1, .int x1), (2, .int x2)]) hx hb dX3_times_32 hl (by decide) rfl (fun ls hl => ?_)
  refine lv_lload_n hx hb dX3_times_34 rfl (lv_at hl 2 rfl) ?_
  refine lv_aload_n hx hb dX3_times_35 rfl (lv_at hl 3 rfl) ?_
  refine va_get (D := (dC, dI)) (ci := 3) (v := .long u_ma_4) (C := "ClassGroupModel") (T := TX3) (N := 20) hx hb hts (fun w h => List.mem_cons_of_mem _ (iwX3 w h)) hown hK hP 1 rfl rfl 17 (by decide) (hts _ (List.mem_cons_of_mem _ kw_524)) (fun _ h9 => h9) rfl dX3_times_36 ?_
  obtain ⟨xc39, hc39, hf⟩ := ok_b hf
  have hPc := hP.sub (ws' := []) [] rfl
  have hDc := hD.sub (ws' := []) [] (by decide) rfl
  have hKc := hK.sub (tys' := []) [] rfl
  have hFc := va_free (wc := []) hD hS hA [] rfl
  refine va_calll (va_runS (As := [.long u_ma_1, .long u_ma_4]) (rest := []) ⟨hx, hb, hml, hown, hts⟩ (c_m_common l dC dI u_ma_1 u_ma_4 H.size F xc39 hc39) (va_cwS 2 hts (gwS kw_464 kw_465 kw_5 kw_466) rfl rfl rfl (by decide +kernel) ⟨Nat.le_of_ble_eq_true rfl, Nat.le_of_ble_eq_true rfl⟩) ⟨fun a U g mk q => by obtain ⟨q0, q1, qP, qK, qD⟩ := q; exact ⟨q0, q1, qP, va_K.moved (u := U) (U := U.calling g mk a) (Vm.Alike.refl U.vm) qK, qD⟩, fun U hU hW => ⟨rfl, by rw [hU], by rw [hU]; exact hPc, va_K.moved hW.alike hKc, hDc.weaken (fun _ _ _ _ => trivial)⟩⟩ rfl rfl hl.1 rfl (lv_room (Nat.le_of_ble_eq_true rfl)) dX3_times_39 ⟨Nat.zero_le _, Nat.zero_le _⟩) hS (fun q _ h => hFc q h) hFc (fun r_8 u t H1 locs ht hvm hw hB hz1 hk1 hS => ?_)
  obtain ⟨⟩ := u
  obtain ⟨hP1, hK1, hD1⟩ := hB
  rw [ht] at hP1
  subst hw
  obtain ⟨hP, hD⟩ := va_join (wr := [(qk, .inl (uk, 40960, .inl Bk)), (qh, .inr (3, [.int mco, .long md, .long mw, .int mfo, .ref qf, .ref qm, .ref qk, .int mmy, .ref qn, .ref qo, .ref qi, .ref qx, .int mpr, .int mgn, .ref qg, .int mli, .ref ql, .long u_ma_4, .long u_mb_5, .long u_mc_6])), (qf, .inl (uf, 40960, .inl Bf)), (qm, .inl (um, 40960, .inl Bm)), (qn, .inl (un, 4096, .inl Bn))]) (w1 := []) hP hD [] [0, 1, 2, 3, 4] rfl rfl (by decide) (by decide) hk1 hFc hP1 hD1
  generalize H1 = H at hP hS ⊢
  have hP : va_P (dC, dI) vwCl [(qk, .inl (uk, 40960, .inl Bk)), (qh, .inr (3, [.int mco, .long md, .long mw, .int mfo, .ref qf, .ref qm, .ref qk, .int mmy, .ref qn, .ref qo, .ref qi, .ref qx, .int mpr, .int mgn, .ref qg, .int mli, .ref ql, .long u_ma_4, .long u_mb_5, .long u_mc_6])), (qf, .inl (uf, 40960, .inl Bf)), (qm, .inl (um, 40960, .inl Bm)), (qn, .inl (un, 4096, .inl Bn))] H := hP
  have hD : va_D A [(qk, .inl (uk, 40960, .inl Bk)), (qh, .inr (3, [.int mco, .long md, .long mw, .int mfo, .ref qf, .ref qm, .ref qk, .int mmy, .ref qn, .ref qo, .ref qi, .ref qx, .int mpr, .int mgn, .ref qg, .int mli, .ref ql, .long u_ma_4, .long u_mb_5, .long u_mc_6])), (qf, .inl (uf, 40960, .inl Bf)), (qm, .inl (um, 40960, .inl Bm)), (qn, .inl (un, 4096, .inl Bn))] := hD
  refine lv_lload hx hb dX3_times_42 (lv_at hl 0 rfl) ?_
  obtain ⟨xc44, hc44, hf⟩ := ok_b hf
  have hPc := hP.sub (ws' := []) [] rfl
  have hDc := hD.sub (ws' := []) [] (by decide) rfl
  have hKc := hK.sub (tys' := []) [] rfl
  have hFc := va_free (wc := []) hD hS hA [] rfl
  refine va_calll (va_runS (As := [.long r_8, .long v7_7]) (rest := []) ⟨hx, hb, hml, hown, hts⟩ (c_m_common l dC dI r_8 v7_7 H.size F xc44 hc44) (va_cwS 2 hts (gwS kw_464 kw_465 kw_5 kw_466) rfl rfl rfl (by decide +kernel) ⟨Nat.le_of_ble_eq_true rfl, Nat.le_of_ble_eq_true rfl⟩) ⟨fun a U g mk q => by obtain ⟨q0, q1, qP, qK, qD⟩ := q; exact ⟨q0, q1, qP, va_K.moved (u := U) (U := U.calling g mk a) (Vm.Alike.refl U.vm) qK, qD⟩, fun U hU hW => ⟨rfl, by rw [hU], by rw [hU]; exact hPc, va_K.moved hW.alike hKc, hDc.weaken (fun _ _ _ _ => trivial)⟩⟩ rfl rfl hl.1 rfl (lv_room (Nat.le_of_ble_eq_true rfl)) dX3_times_44 ⟨Nat.zero_le _, Nat.zero_le _⟩) hS (fun q _ h => hFc q h) hFc (fun r_9 u t H1 locs ht hvm hw hB hz1 hk1 hS => ?_)
  obtain ⟨⟩ := u
  obtain ⟨hP1, hK1, hD1⟩ := hB
  rw [ht] at hP1
  subst hw
  obtain ⟨hP, hD⟩ := va_join (wr := [(qk, .inl (uk, 40960, .inl Bk)), (qh, .inr (3, [.int mco, .long md, .long mw, .int mfo, .ref qf, .ref qm, .ref qk, .int mmy, .ref qn, .ref qo, .ref qi, .ref qx, .int mpr, .int mgn, .ref qg, .int mli, .ref ql, .long u_ma_4, .long u_mb_5, .long u_mc_6])), (qf, .inl (uf, 40960, .inl Bf)), (qm, .inl (um, 40960, .inl Bm)), (qn, .inl (un, 4096, .inl Bn))]) (w1 := []) hP hD [] [0, 1, 2, 3, 4] rfl rfl (by decide) (by decide) hk1 hFc hP1 hD1
  generalize H1 = H at hP hS ⊢
  have hP : va_P (dC, dI) vwCl [(qk, .inl (uk, 40960, .inl Bk)), (qh, .inr (3, [.int mco, .long md, .long mw, .int mfo, .ref qf, .ref qm, .ref qk, .int mmy, .ref qn, .ref qo, .ref qi, .ref qx, .int mpr, .int mgn, .ref qg, .int mli, .ref ql, .long u_ma_4, .long u_mb_5, .long u_mc_6])), (qf, .inl (uf, 40960, .inl Bf)), (qm, .inl (um, 40960, .inl Bm)), (qn, .inl (un, 4096, .inl Bn))] H := hP
  have hD : va_D A [(qk, .inl (uk, 40960, .inl Bk)), (qh, .inr (3, [.int mco, .long md, .long mw, .int mfo, .ref qf, .ref qm, .ref qk, .int mmy, .ref qn, .ref qo, .ref qi, .ref qx, .int mpr, .int mgn, .ref qg, .int mli, .ref ql, .long u_ma_4, .long u_mb_5, .long u_mc_6])), (qf, .inl (uf, 40960, .inl Bf)), (qm, .inl (um, 40960, .inl Bm)), (qn, .inl (un, 4096, .inl Bn))] := hD
  refine lv_lstore (lv' := [(9, .long r_9), (7, .long v7_7), (5, .long u_mb_2), (3, .long u_ma_1), (0, .ref qh), (1, .int x1), (2, .int x2)]) hx hb dX3_times_47 hl (by decide) rfl (fun ls hl => ?_)
  refine lv_lload_n hx hb dX3_times_49 rfl (lv_at hl 3 rfl) ?_
  refine lv_lload hx hb dX3_times_50 (lv_at hl 0 rfl) ?_
  obtain ⟨g_52, hf⟩ := ok_g hf
  refine lv_ldiv hx hb dX3_times_52 g_52 ?_
  refine lv_aload_n hx hb dX3_times_53 rfl (lv_at hl 4 rfl) ?_
  refine va_get (D := (dC, dI)) (ci := 3) (v := .long u_ma_4) (C := "ClassGroupModel") (T := TX3) (N := 20) hx hb hts (fun w h => List.mem_cons_of_mem _ (iwX3 w h)) hown hK hP 1 rfl rfl 17 (by decide) (hts _ (List.mem_cons_of_mem _ kw_524)) (fun _ h9 => h9) rfl dX3_times_54 ?_
  refine lv_lload hx hb dX3_times_57 (lv_at hl 0 rfl) ?_
  obtain ⟨g_59, hf⟩ := ok_g hf
  refine lv_ldiv hx hb dX3_times_59 g_59 ?_
  refine lv_lmul hx hb dX3_times_60 ?_
  refine lv_topl (fun v11_10 ev11_10 => ?_)
  replace hf := bnd_ok ev11_10 hf
  refine lv_lstore (lv' := [(11, .long v11_10), (9, .long r_9), (7, .long v7_7), (5, .long u_mb_2), (3, .long u_ma_1), (0, .ref qh), (1, .int x1), (2, .int x2)]) hx hb dX3_times_61 hl (by decide) rfl (fun ls hl => ?_)
  refine lv_lload hx hb dX3_times_63 (lv_at hl 3 rfl) ?_
  refine lv_aload_n hx hb dX3_times_65 rfl (lv_at hl 5 rfl) ?_
  refine va_get (D := (dC, dI)) (ci := 3) (v := .long u_mb_5) (C := "ClassGroupModel") (T := TX3) (N := 20) hx hb hts (fun w h => List.mem_cons_of_mem _ (iwX3 w h)) hown hK hP 1 rfl rfl 18 (by decide) (hts _ (List.mem_cons_of_mem _ kw_525)) (fun _ h9 => h9) rfl dX3_times_66 ?_
  refine lv_lmul hx hb dX3_times_69 ?_
  refine lv_aload_n hx hb dX3_times_70 rfl (lv_at hl 5 rfl) ?_
  refine va_get (D := (dC, dI)) (ci := 3) (v := .long md) (C := "ClassGroupModel") (T := TX3) (N := 20) hx hb hts (fun w h => List.mem_cons_of_mem _ (iwX3 w h)) hown hK hP 1 rfl rfl 1 (by decide) (hts _ (List.mem_cons_of_mem _ kw_508)) (fun _ h9 => h9) rfl dX3_times_71 ?_
  refine lv_ladd hx hb dX3_times_74 ?_
  refine lv_ldc2 (v := 2) hx hb hown (hts _ (List.mem_cons_of_mem _ kw_463)) dX3_times_75 ?_
  refine lv_ldiv hx hb dX3_times_78 (by decide) ?_
  refine lv_lload hx hb dX3_times_79 (lv_at hl 1 rfl) ?_
  obtain ⟨g_81, hf⟩ := ok_g hf
  refine lv_ldiv hx hb dX3_times_81 g_81 ?_
  refine lv_topl (fun v13_11 ev13_11 => ?_)
  replace hf := bnd_ok ev13_11 hf
  refine lv_lstore (lv' := [(13, .long v13_11), (11, .long v11_10), (9, .long r_9), (7, .long v7_7), (5, .long u_mb_2), (3, .long u_ma_1), (0, .ref qh), (1, .int x1), (2, .int x2)]) hx hb dX3_times_82 hl (by decide) rfl (fun ls hl => ?_)
  refine lv_ldc2 (v := 2) hx hb hown (hts _ (List.mem_cons_of_mem _ kw_463)) dX3_times_84 ?_
  refine lv_lload_n hx hb dX3_times_87 rfl (lv_at hl 5 rfl) ?_
  refine lv_lmul hx hb dX3_times_88 ?_
  refine lv_lload hx hb dX3_times_89 (lv_at hl 2 rfl) ?_
  obtain ⟨g_91, hf⟩ := ok_g hf
  refine lv_ldiv hx hb dX3_times_91 g_91 ?_
  refine lv_topl (fun v15_12 ev15_12 => ?_)
  replace hf := bnd_ok ev15_12 hf
  refine lv_lstore (lv' := [(15, .long v15_12), (13, .long v13_11), (11, .long v11_10), (9, .long r_9), (7, .long v7_7), (5, .long u_mb_2), (3, .long u_ma_1), (0, .ref qh), (1, .int x1), (2, .int x2)]) hx hb dX3_times_92 hl (by decide) rfl (fun ls hl => ?_)
  refine lv_ldc2 (v := 2) hx hb hown (hts _ (List.mem_cons_of_mem _ kw_463)) dX3_times_94 ?_
  refine lv_aload_n hx hb dX3_times_97 rfl (lv_at hl 7 rfl) ?_
  refine va_get (D := (dC, dI)) (ci := 3) (v := .long u_ma_4) (C := "ClassGroupModel") (T := TX3) (N := 20) hx hb hts (fun w h => List.mem_cons_of_mem _ (iwX3 w h)) hown hK hP 1 rfl rfl 17 (by decide) (hts _ (List.mem_cons_of_mem _ kw_524)) (fun _ h9 => h9) rfl dX3_times_98 ?_
  refine lv_lmul hx hb dX3_times_101 ?_
  refine lv_lload hx hb dX3_times_102 (lv_at hl 3 rfl) ?_
  obtain ⟨g_104, hf⟩ := ok_g hf
  refine lv_ldiv hx hb dX3_times_104 g_104 ?_
  refine lv_topl (fun v17_13 ev17_13 => ?_)
  replace hf := bnd_ok ev17_13 hf
  refine lv_lstore (lv' := [(17, .long v17_13), (15, .long v15_12), (13, .long v13_11), (11, .long v11_10), (9, .long r_9), (7, .long v7_7), (5, .long u_mb_2), (3, .long u_ma_1), (0, .ref qh), (1, .int x1), (2, .int x2)]) hx hb dX3_times_105 hl (by decide) rfl (fun ls hl => ?_)
  refine lv_lload hx hb dX3_times_107 (lv_at hl 6 rfl) ?_
  refine lv_lstore (lv' := [(19, .long u_mb_2), (17, .long v17_13), (15, .long v15_12), (13, .long v13_11), (11, .long v11_10), (9, .long r_9), (7, .long v7_7), (5, .long u_mb_2), (3, .long u_ma_1), (0, .ref qh), (1, .int x1), (2, .int x2)]) hx hb dX3_times_109 hl (by decide) rfl (fun ls hl => ?_)
  have hL111 : ∀ (n111 : Nat) (w19_14 : Int64) (res : Int64) (H : Heap) (locs : List Loc) (ls : Array Slot) (Q : State → Prop), f_m_times_L111 F u_mb_5 v7_7 r_9 v11_10 v13_11 v15_12 v17_13 n111 w19_14 = some res → va_P (dC, dI) vwCl [(qh, .inr (3, [.int mco, .long md, .long mw, .int mfo, .ref qf, .ref qm, .ref qk, .int mmy, .ref qn, .ref qo, .ref qi, .ref qx, .int mpr, .int mgn, .ref qg, .int mli, .ref ql, .long u_ma_4, .long u_mb_5, .long u_mc_6])), (qf, .inl (uf, 40960, .inl Bf)), (qm, .inl (um, 40960, .inl Bm)), (qk, .inl (uk, 40960, .inl Bk)), (qn, .inl (un, 4096, .inl Bn))] H → va_D A [(qh, .inr (3, [.int mco, .long md, .long mw, .int mfo, .ref qf, .ref qm, .ref qk, .int mmy, .ref qn, .ref qo, .ref qi, .ref qx, .int mpr, .int mgn, .ref qg, .int mli, .ref ql, .long u_ma_4, .long u_mb_5, .long u_mc_6])), (qf, .inl (uf, 40960, .inl Bf)), (qm, .inl (um, 40960, .inl Bm)), (qk, .inl (uk, 40960, .inl Bk)), (qn, .inl (un, 4096, .inl Bn))] → va_S A s.heap H locs → lv_has ls 21 [(0, .ref qh), (7, .long v7_7), (9, .long r_9), (11, .long v11_10), (13, .long v13_11), (15, .long v15_12), (17, .long v17_13), (19, .long w19_14)] → (∀ (x19_19 : Int64) (H : Heap) (locs : List Loc) (ls : Array Slot), x19_19 = res → va_P (dC, dI) vwCl [(qh, .inr (3, [.int mco, .long md, .long mw, .int mfo, .ref qf, .ref qm, .ref qk, .int mmy, .ref qn, .ref qo, .ref qi, .ref qx, .int mpr, .int mgn, .ref qg, .int mli, .ref ql, .long u_ma_4, .long u_mb_5, .long u_mc_6])), (qf, .inl (uf, 40960, .inl Bf)), (qm, .inl (um, 40960, .inl Bm)), (qk, .inl (uk, 40960, .inl Bk)), (qn, .inl (un, 4096, .inl Bn))] H → va_D A [(qh, .inr (3, [.int mco, .long md, .long mw, .int mfo, .ref qf, .ref qm, .ref qk, .int mmy, .ref qn, .ref qo, .ref qi, .ref qx, .int mpr, .int mgn, .ref qg, .int mli, .ref ql, .long u_ma_4, .long u_mb_5, .long u_mc_6])), (qf, .inl (uf, 40960, .inl Bf)), (qm, .inl (um, 40960, .inl Bm)), (qk, .inl (uk, 40960, .inl Bk)), (qn, .inl (un, 4096, .inl Bn))] → va_S A s.heap H locs → lv_has ls 21 [(0, .ref qh), (11, .long v11_10), (19, .long x19_19)] → W p l e ((headSpec wsX3_times ({ frames := 3, cells := 0, slots := 0, locals := 70 })).room) s m ([.ref qh, .int x1, .int x2] : List Value).toArray below meth c H locs 0 0 Q (F0 m 162 ls [])) → W p l e ((headSpec wsX3_times ({ frames := 3, cells := 0, slots := 0, locals := 70 })).room) s m ([.ref qh, .int x1, .int x2] : List Value).toArray below meth c H locs 0 0 Q (F0 m 111 ls []) := by
    intro n111
    induction n111 with
    | zero => intro w19_14 res H locs ls Q hf; simp [f_m_times_L111] at hf
    | succ n111 ih111 =>
      intro w19_14 res H locs ls Q hf hP hD hS hl k111_0
      rw [f_m_times_L111] at hf
      refine lv_lload hx hb dX3_times_111 (lv_at hl 7 rfl) ?_
      refine lv_aload_n hx hb dX3_times_113 rfl (lv_at hl 0 rfl) ?_
      refine va_get (D := (dC, dI)) (ci := 3) (v := .long u_mb_5) (C := "ClassGroupModel") (T := TX3) (N := 20) hx hb hts (fun w h => List.mem_cons_of_mem _ (iwX3 w h)) hown hK hP 0 rfl rfl 18 (by decide) (hts _ (List.mem_cons_of_mem _ kw_525)) (fun _ h9 => h9) rfl dX3_times_114 ?_
      refine lv_lsub hx hb dX3_times_117 ?_
      refine lv_lload hx hb dX3_times_118 (lv_at hl 6 rfl) ?_
      obtain ⟨g_120, hf⟩ := ok_g hf
      refine lv_lrem hx hb dX3_times_120 g_120 ?_
      refine lv_lconst (v := 0) hx hb dX3_times_121 (by decide) ?_
      refine W.lcmp hx hb dX3_times_122 ?_
      refine lv_if_ne (tgt := 149) hx hb dX3_times_123 (by decide) (fun c_123 => ?_) (fun c_123 => ?_)
      · have hf := ok_f c_123 hf
        refine lv_lload hx hb dX3_times_149 (lv_at hl 7 rfl) ?_
        refine lv_lload hx hb dX3_times_151 (lv_at hl 5 rfl) ?_
        obtain ⟨xc153, hc153, hf⟩ := ok_b hf
        have hPc := hP.sub (ws' := []) [] rfl
        have hDc := hD.sub (ws' := []) [] (by decide) rfl
        have hKc := hK.sub (tys' := []) [] rfl
        have hFc := va_free (wc := []) hD hS hA [] rfl
        refine va_calll (va_runS (As := [.long v15_12]) (rest := [.long w19_14]) ⟨hx, hb, hml, hown, hts⟩ (c_m_size l dC dI v15_12 H.size F xc153 hc153) (va_cwS 1 hts (gwS kw_460 kw_461 kw_5 kw_462) rfl rfl rfl (by decide +kernel) ⟨Nat.le_of_ble_eq_true rfl, Nat.le_of_ble_eq_true rfl⟩) ⟨fun a U g mk q => by obtain ⟨q0, q1, qP, qK, qD⟩ := q; exact ⟨q0, q1, qP, va_K.moved (u := U) (U := U.calling g mk a) (Vm.Alike.refl U.vm) qK, qD⟩, fun U hU hW => ⟨rfl, by rw [hU], by rw [hU]; exact hPc, va_K.moved hW.alike hKc, hDc.weaken (fun _ _ _ _ => trivial)⟩⟩ rfl rfl hl.1 rfl (lv_room (Nat.le_of_ble_eq_true rfl)) dX3_times_153 ⟨Nat.zero_le _, Nat.zero_le _⟩) hS (fun q _ h => hFc q h) hFc (fun r_15 u t H1 locs ht hvm hw hB hz1 hk1 hS => ?_)
        obtain ⟨⟩ := u
        obtain ⟨hP1, hK1, hD1⟩ := hB
        rw [ht] at hP1
        subst hw
        obtain ⟨hP, hD⟩ := va_join (wr := [(qh, .inr (3, [.int mco, .long md, .long mw, .int mfo, .ref qf, .ref qm, .ref qk, .int mmy, .ref qn, .ref qo, .ref qi, .ref qx, .int mpr, .int mgn, .ref qg, .int mli, .ref ql, .long u_ma_4, .long u_mb_5, .long u_mc_6])), (qf, .inl (uf, 40960, .inl Bf)), (qm, .inl (um, 40960, .inl Bm)), (qk, .inl (uk, 40960, .inl Bk)), (qn, .inl (un, 4096, .inl Bn))]) (w1 := []) hP hD [] [0, 1, 2, 3, 4] rfl rfl (by decide) (by decide) hk1 hFc hP1 hD1
        generalize H1 = H at hP hS ⊢
        have hP : va_P (dC, dI) vwCl [(qh, .inr (3, [.int mco, .long md, .long mw, .int mfo, .ref qf, .ref qm, .ref qk, .int mmy, .ref qn, .ref qo, .ref qi, .ref qx, .int mpr, .int mgn, .ref qg, .int mli, .ref ql, .long u_ma_4, .long u_mb_5, .long u_mc_6])), (qf, .inl (uf, 40960, .inl Bf)), (qm, .inl (um, 40960, .inl Bm)), (qk, .inl (uk, 40960, .inl Bk)), (qn, .inl (un, 4096, .inl Bn))] H := hP
        have hD : va_D A [(qh, .inr (3, [.int mco, .long md, .long mw, .int mfo, .ref qf, .ref qm, .ref qk, .int mmy, .ref qn, .ref qo, .ref qi, .ref qx, .int mpr, .int mgn, .ref qg, .int mli, .ref ql, .long u_ma_4, .long u_mb_5, .long u_mc_6])), (qf, .inl (uf, 40960, .inl Bf)), (qm, .inl (um, 40960, .inl Bm)), (qk, .inl (uk, 40960, .inl Bk)), (qn, .inl (un, 4096, .inl Bn))] := hD
        refine lv_ladd hx hb dX3_times_156 ?_
        refine lv_topl (fun v19_16 ev19_16 => ?_)
        replace hf := bnd_ok ev19_16 hf
        refine lv_lstore (lv' := [(19, .long v19_16), (0, .ref qh), (7, .long v7_7), (9, .long r_9), (11, .long v11_10), (13, .long v13_11), (15, .long v15_12), (17, .long v17_13)]) hx hb dX3_times_157 hl (by decide) rfl (fun ls hl => ?_)
        refine lv_goto (tgt := 111) hx hb dX3_times_159 (by decide) ?_
        exact ih111 v19_16 _ _ _ _ _ hf (hP.sub [0, 1, 2, 3, 4] rfl) (hD.sub [0, 1, 2, 3, 4] (by decide) rfl) hS (lv_sub hl [1, 2, 3, 4, 5, 6, 7, 0] rfl) k111_0
      · have hf := ok_t c_123 hf
        refine lv_lload hx hb dX3_times_126 (lv_at hl 1 rfl) ?_
        refine lv_lload hx hb dX3_times_128 (lv_at hl 2 rfl) ?_
        obtain ⟨g_130, hf⟩ := ok_g hf
        refine lv_ldiv hx hb dX3_times_130 g_130 ?_
        refine lv_lload hx hb dX3_times_131 (lv_at hl 7 rfl) ?_
        refine lv_lmul hx hb dX3_times_133 ?_
        refine lv_lload hx hb dX3_times_134 (lv_at hl 4 rfl) ?_
        refine lv_lsub hx hb dX3_times_136 ?_
        refine lv_ldc2 (v := 2) hx hb hown (hts _ (List.mem_cons_of_mem _ kw_463)) dX3_times_137 ?_
        refine lv_lload hx hb dX3_times_140 (lv_at hl 3 rfl) ?_
        refine lv_lmul hx hb dX3_times_142 ?_
        obtain ⟨g_143, hf⟩ := ok_g hf
        refine lv_lrem hx hb dX3_times_143 g_143 ?_
        refine lv_lconst (v := 0) hx hb dX3_times_144 (by decide) ?_
        refine W.lcmp hx hb dX3_times_145 ?_
        refine lv_if_eq (tgt := 162) hx hb dX3_times_146 (by decide) (fun c_146 => ?_) (fun c_146 => ?_)
        · have hf := ok_t c_146 hf
          exact k111_0 w19_14 _ _ _ (Option.some.inj hf) (hP.sub [0, 1, 2, 3, 4] rfl) (hD.sub [0, 1, 2, 3, 4] (by decide) rfl) hS (lv_sub hl [0, 3, 7] rfl)
        · have hf := ok_f c_146 hf
          refine lv_lload hx hb dX3_times_149 (lv_at hl 7 rfl) ?_
          refine lv_lload hx hb dX3_times_151 (lv_at hl 5 rfl) ?_
          obtain ⟨xc153, hc153, hf⟩ := ok_b hf
          have hPc := hP.sub (ws' := []) [] rfl
          have hDc := hD.sub (ws' := []) [] (by decide) rfl
          have hKc := hK.sub (tys' := []) [] rfl
          have hFc := va_free (wc := []) hD hS hA [] rfl
          refine va_calll (va_runS (As := [.long v15_12]) (rest := [.long w19_14]) ⟨hx, hb, hml, hown, hts⟩ (c_m_size l dC dI v15_12 H.size F xc153 hc153) (va_cwS 1 hts (gwS kw_460 kw_461 kw_5 kw_462) rfl rfl rfl (by decide +kernel) ⟨Nat.le_of_ble_eq_true rfl, Nat.le_of_ble_eq_true rfl⟩) ⟨fun a U g mk q => by obtain ⟨q0, q1, qP, qK, qD⟩ := q; exact ⟨q0, q1, qP, va_K.moved (u := U) (U := U.calling g mk a) (Vm.Alike.refl U.vm) qK, qD⟩, fun U hU hW => ⟨rfl, by rw [hU], by rw [hU]; exact hPc, va_K.moved hW.alike hKc, hDc.weaken (fun _ _ _ _ => trivial)⟩⟩ rfl rfl hl.1 rfl (lv_room (Nat.le_of_ble_eq_true rfl)) dX3_times_153 ⟨Nat.zero_le _, Nat.zero_le _⟩) hS (fun q _ h => hFc q h) hFc (fun r_17 u t H1 locs ht hvm hw hB hz1 hk1 hS => ?_)
          obtain ⟨⟩ := u
          obtain ⟨hP1, hK1, hD1⟩ := hB
          rw [ht] at hP1
          subst hw
          obtain ⟨hP, hD⟩ := va_join (wr := [(qh, .inr (3, [.int mco, .long md, .long mw, .int mfo, .ref qf, .ref qm, .ref qk, .int mmy, .ref qn, .ref qo, .ref qi, .ref qx, .int mpr, .int mgn, .ref qg, .int mli, .ref ql, .long u_ma_4, .long u_mb_5, .long u_mc_6])), (qf, .inl (uf, 40960, .inl Bf)), (qm, .inl (um, 40960, .inl Bm)), (qk, .inl (uk, 40960, .inl Bk)), (qn, .inl (un, 4096, .inl Bn))]) (w1 := []) hP hD [] [0, 1, 2, 3, 4] rfl rfl (by decide) (by decide) hk1 hFc hP1 hD1
          generalize H1 = H at hP hS ⊢
          have hP : va_P (dC, dI) vwCl [(qh, .inr (3, [.int mco, .long md, .long mw, .int mfo, .ref qf, .ref qm, .ref qk, .int mmy, .ref qn, .ref qo, .ref qi, .ref qx, .int mpr, .int mgn, .ref qg, .int mli, .ref ql, .long u_ma_4, .long u_mb_5, .long u_mc_6])), (qf, .inl (uf, 40960, .inl Bf)), (qm, .inl (um, 40960, .inl Bm)), (qk, .inl (uk, 40960, .inl Bk)), (qn, .inl (un, 4096, .inl Bn))] H := hP
          have hD : va_D A [(qh, .inr (3, [.int mco, .long md, .long mw, .int mfo, .ref qf, .ref qm, .ref qk, .int mmy, .ref qn, .ref qo, .ref qi, .ref qx, .int mpr, .int mgn, .ref qg, .int mli, .ref ql, .long u_ma_4, .long u_mb_5, .long u_mc_6])), (qf, .inl (uf, 40960, .inl Bf)), (qm, .inl (um, 40960, .inl Bm)), (qk, .inl (uk, 40960, .inl Bk)), (qn, .inl (un, 4096, .inl Bn))] := hD
          refine lv_ladd hx hb dX3_times_156 ?_
          refine lv_topl (fun v19_18 ev19_18 => ?_)
          replace hf := bnd_ok ev19_18 hf
          refine lv_lstore (lv' := [(19, .long v19_18), (0, .ref qh), (7, .long v7_7), (9, .long r_9), (11, .long v11_10), (13, .long v13_11), (15, .long v15_12), (17, .long v17_13)]) hx hb dX3_times_157 hl (by decide) rfl (fun ls hl => ?_)
          refine lv_goto (tgt := 111) hx hb dX3_times_159 (by decide) ?_
          exact ih111 v19_18 _ _ _ _ _ hf (hP.sub [0, 1, 2, 3, 4] rfl) (hD.sub [0, 1, 2, 3, 4] (by decide) rfl) hS (lv_sub hl [1, 2, 3, 4, 5, 6, 7, 0] rfl) k111_0
  obtain ⟨res111, hL111_r, hf⟩ := ok_b hf
  refine hL111 F u_mb_2 res111 _ _ _ _ hL111_r (hP.sub [1, 2, 3, 0, 4] rfl) (hD.sub [1, 2, 3, 0, 4] (by decide) rfl) hS (lv_sub hl [9, 6, 5, 4, 3, 2, 1, 0] rfl) (fun x19_19 H locs ls hres hP hD hS hl => ?_)
  subst hres
  refine lv_aload_n hx hb dX3_times_162 rfl (lv_at hl 0 rfl) ?_
  refine lv_lload hx hb dX3_times_163 (lv_at hl 1 rfl) ?_
  refine lv_lload hx hb dX3_times_165 (lv_at hl 2 rfl) ?_
  obtain ⟨xc167, hc167, hf⟩ := ok_b hf
  have hPc := hP.sub (ws' := [(qh, .inr (3, [.int mco, .long md, .long mw, .int mfo, .ref qf, .ref qm, .ref qk, .int mmy, .ref qn, .ref qo, .ref qi, .ref qx, .int mpr, .int mgn, .ref qg, .int mli, .ref ql, .long u_ma_4, .long u_mb_5, .long u_mc_6]))]) [0] rfl
  have hDc := hD.sub (ws' := [(qh, .inr (3, [.int mco, .long md, .long mw, .int mfo, .ref qf, .ref qm, .ref qk, .int mmy, .ref qn, .ref qo, .ref qi, .ref qx, .int mpr, .int mgn, .ref qg, .int mli, .ref ql, .long u_ma_4, .long u_mb_5, .long u_mc_6]))]) [0] (by decide) rfl
  have hKc := hK.sub (tys' := []) [] rfl
  have hFc := va_free (wc := [(qh, .inr (3, [.int mco, .long md, .long mw, .int mfo, .ref qf, .ref qm, .ref qk, .int mmy, .ref qn, .ref qo, .ref qi, .ref qx, .int mpr, .int mgn, .ref qg, .int mli, .ref ql, .long u_ma_4, .long u_mb_5, .long u_mc_6]))]) hD hS hA [0] rfl
  refine va_callv (va_runV (As := [.long v11_10, .long x19_19]) (rest := []) ⟨hx, hb, hml, hown, hts⟩ (c_m_be l dC dI qh mco md mw mfo qf qm qk mmy qn qo qi qx mpr mgn qg mli ql u_ma_4 u_mb_5 u_mc_6 v11_10 x19_19 H.size F xc167 hc167) (cwV 2 hts (gwV kw_452 kw_454 ks_29 kw_5 kw_455) rfl rfl rfl (by decide +kernel) ⟨Nat.le_of_ble_eq_true rfl, Nat.le_of_ble_eq_true rfl⟩) ⟨fun a U g mk q => by obtain ⟨q0, q1, qP, qK, qD⟩ := q; exact ⟨q0, q1, qP, va_K.moved (u := U) (U := U.calling g mk a) (Vm.Alike.refl U.vm) qK, qD⟩, va_recv hKc hPc (ci := 3) (q0 := 0) rfl rfl, fun U hU hW => ⟨rfl, by rw [hU], by rw [hU]; exact hPc, va_K.moved hW.alike hKc, hDc.weaken (fun _ _ _ _ => trivial)⟩⟩ rfl rfl hl.1 rfl (lv_room (Nat.le_of_ble_eq_true rfl)) dX3_times_167 ⟨Nat.zero_le _, Nat.zero_le _⟩) hS (fun q _ h => hFc q h) hFc (fun u t H1 locs ht hvm hw hB hz1 hk1 hS => ?_)
  obtain ⟨u_ma_20, u_mb_21, u_mc_22⟩ := u
  obtain ⟨hP1, hK1, hD1⟩ := hB
  rw [ht] at hP1
  subst hw
  obtain ⟨hP, hD⟩ := va_join (wr := [(qf, .inl (uf, 40960, .inl Bf)), (qm, .inl (um, 40960, .inl Bm)), (qk, .inl (uk, 40960, .inl Bk)), (qn, .inl (un, 4096, .inl Bn))]) (w1 := [(qh, .inr (3, [.int mco, .long md, .long mw, .int mfo, .ref qf, .ref qm, .ref qk, .int mmy, .ref qn, .ref qo, .ref qi, .ref qx, .int mpr, .int mgn, .ref qg, .int mli, .ref ql, .long u_ma_20, .long u_mb_21, .long u_mc_22]))]) hP hD [0] [1, 2, 3, 4] rfl rfl (by decide) (by decide) hk1 hFc hP1 hD1
  generalize H1 = H at hP hS ⊢
  have hP : va_P (dC, dI) vwCl [(qf, .inl (uf, 40960, .inl Bf)), (qm, .inl (um, 40960, .inl Bm)), (qk, .inl (uk, 40960, .inl Bk)), (qn, .inl (un, 4096, .inl Bn)), (qh, .inr (3, [.int mco, .long md, .long mw, .int mfo, .ref qf, .ref qm, .ref qk, .int mmy, .ref qn, .ref qo, .ref qi, .ref qx, .int mpr, .int mgn, .ref qg, .int mli, .ref ql, .long u_ma_20, .long u_mb_21, .long u_mc_22]))] H := hP
  have hD : va_D A [(qf, .inl (uf, 40960, .inl Bf)), (qm, .inl (um, 40960, .inl Bm)), (qk, .inl (uk, 40960, .inl Bk)), (qn, .inl (un, 4096, .inl Bn)), (qh, .inr (3, [.int mco, .long md, .long mw, .int mfo, .ref qf, .ref qm, .ref qk, .int mmy, .ref qn, .ref qo, .ref qi, .ref qx, .int mpr, .int mgn, .ref qg, .int mli, .ref ql, .long u_ma_20, .long u_mb_21, .long u_mc_22]))] := hD
  refine lv_aload_n hx hb dX3_times_170 rfl (lv_at hl 0 rfl) ?_
  obtain ⟨xc171, hc171, hf⟩ := ok_b hf
  have hPc := hP.sub (ws' := [(qh, .inr (3, [.int mco, .long md, .long mw, .int mfo, .ref qf, .ref qm, .ref qk, .int mmy, .ref qn, .ref qo, .ref qi, .ref qx, .int mpr, .int mgn, .ref qg, .int mli, .ref ql, .long u_ma_20, .long u_mb_21, .long u_mc_22])), (qf, .inl (uf, 40960, .inl Bf)), (qm, .inl (um, 40960, .inl Bm)), (qk, .inl (uk, 40960, .inl Bk))]) [4, 0, 1, 2] rfl
  have hDc := hD.sub (ws' := [(qh, .inr (3, [.int mco, .long md, .long mw, .int mfo, .ref qf, .ref qm, .ref qk, .int mmy, .ref qn, .ref qo, .ref qi, .ref qx, .int mpr, .int mgn, .ref qg, .int mli, .ref ql, .long u_ma_20, .long u_mb_21, .long u_mc_22])), (qf, .inl (uf, 40960, .inl Bf)), (qm, .inl (um, 40960, .inl Bm)), (qk, .inl (uk, 40960, .inl Bk))]) [4, 0, 1, 2] (by decide) rfl
  have hKc := hK.sub (tys' := [(uf, .int), (um, .int), (uk, .int)]) [0, 1, 2] rfl
  have hFc := va_free (wc := [(qh, .inr (3, [.int mco, .long md, .long mw, .int mfo, .ref qf, .ref qm, .ref qk, .int mmy, .ref qn, .ref qo, .ref qi, .ref qx, .int mpr, .int mgn, .ref qg, .int mli, .ref ql, .long u_ma_20, .long u_mb_21, .long u_mc_22])), (qf, .inl (uf, 40960, .inl Bf)), (qm, .inl (um, 40960, .inl Bm)), (qk, .inl (uk, 40960, .inl Bk))]) hD hS hA [4, 0, 1, 2] rfl
  refine va_calli (va_runV (As := []) (rest := []) ⟨hx, hb, hml, hown, hts⟩ (c_m_found l dC dI qh mco md mw mfo qf qm qk mmy qn qo qi qx mpr mgn qg mli ql u_ma_20 u_mb_21 u_mc_22 uf Bf um Bm uk Bk H.size F xc171 hc171) (cwV 0 hts (gwV kw_479 kw_481 ks_34 kw_5 kw_482) rfl rfl rfl (by decide +kernel) ⟨Nat.le_of_ble_eq_true rfl, Nat.le_of_ble_eq_true rfl⟩) ⟨fun a U g mk q => by obtain ⟨q0, q1, qP, qK, qD⟩ := q; exact ⟨q0, q1, qP, va_K.moved (u := U) (U := U.calling g mk a) (Vm.Alike.refl U.vm) qK, qD⟩, va_recv hKc hPc (ci := 3) (q0 := 0) rfl rfl, fun U hU hW => ⟨rfl, by rw [hU], by rw [hU]; exact hPc, va_K.moved hW.alike hKc, hDc.weaken (fun _ _ _ _ => trivial)⟩⟩ rfl rfl hl.1 rfl (lv_room (Nat.le_of_ble_eq_true rfl)) dX3_times_171 ⟨Nat.zero_le _, Nat.zero_le _⟩) hS (fun q _ h => hFc q h) hFc (fun r_23 u t H1 locs ht hvm hw hB hz1 hk1 hS => ?_)
  obtain ⟨u_ma_24, u_mb_25, u_mc_26⟩ := u
  obtain ⟨hP1, hK1, hD1⟩ := hB
  rw [ht] at hP1
  subst hw
  obtain ⟨hP, hD⟩ := va_join (wr := [(qn, .inl (un, 4096, .inl Bn))]) (w1 := [(qh, .inr (3, [.int mco, .long md, .long mw, .int mfo, .ref qf, .ref qm, .ref qk, .int mmy, .ref qn, .ref qo, .ref qi, .ref qx, .int mpr, .int mgn, .ref qg, .int mli, .ref ql, .long u_ma_24, .long u_mb_25, .long u_mc_26])), (qf, .inl (uf, 40960, .inl Bf)), (qm, .inl (um, 40960, .inl Bm)), (qk, .inl (uk, 40960, .inl Bk))]) hP hD [4, 0, 1, 2] [3] rfl rfl (by decide) (by decide) hk1 hFc hP1 hD1
  generalize H1 = H at hP hS ⊢
  have hP : va_P (dC, dI) vwCl [(qn, .inl (un, 4096, .inl Bn)), (qh, .inr (3, [.int mco, .long md, .long mw, .int mfo, .ref qf, .ref qm, .ref qk, .int mmy, .ref qn, .ref qo, .ref qi, .ref qx, .int mpr, .int mgn, .ref qg, .int mli, .ref ql, .long u_ma_24, .long u_mb_25, .long u_mc_26])), (qf, .inl (uf, 40960, .inl Bf)), (qm, .inl (um, 40960, .inl Bm)), (qk, .inl (uk, 40960, .inl Bk))] H := hP
  have hD : va_D A [(qn, .inl (un, 4096, .inl Bn)), (qh, .inr (3, [.int mco, .long md, .long mw, .int mfo, .ref qf, .ref qm, .ref qk, .int mmy, .ref qn, .ref qo, .ref qi, .ref qx, .int mpr, .int mgn, .ref qg, .int mli, .ref ql, .long u_ma_24, .long u_mb_25, .long u_mc_26])), (qf, .inl (uf, 40960, .inl Bf)), (qm, .inl (um, 40960, .inl Bm)), (qk, .inl (uk, 40960, .inl Bk))] := hD
  have hP9 := hP.sub (ws' := [(qh, .inr (3, [.int mco, .long md, .long mw, .int mfo, .ref qf, .ref qm, .ref qk, .int mmy, .ref qn, .ref qo, .ref qi, .ref qx, .int mpr, .int mgn, .ref qg, .int mli, .ref ql, .long u_ma_24, .long u_mb_25, .long u_mc_26])), (qf, .inl (uf, 40960, .inl Bf)), (qm, .inl (um, 40960, .inl Bm)), (qk, .inl (uk, 40960, .inl Bk)), (qn, .inl (un, 4096, .inl Bn))]) [1, 2, 3, 4, 0] rfl
  have hD9 := hD.sub (ws' := [(qh, .inr (3, [.int mco, .long md, .long mw, .int mfo, .ref qf, .ref qm, .ref qk, .int mmy, .ref qn, .ref qo, .ref qi, .ref qx, .int mpr, .int mgn, .ref qg, .int mli, .ref ql, .long u_ma_24, .long u_mb_25, .long u_mc_26])), (qf, .inl (uf, 40960, .inl Bf)), (qm, .inl (um, 40960, .inl Bm)), (qk, .inl (uk, 40960, .inl Bk)), (qn, .inl (un, 4096, .inl Bn))]) [1, 2, 3, 4, 0] (by decide) rfl
  have hK9 := hK.sub (tys' := [(uf, .int), (um, .int), (uk, .int), (un, .int)]) [0, 1, 2, 3] rfl
  exact W.iret (v := r_23) hx hb hr (fun t ht hW => ⟨⟨r_23, (u_ma_24, u_mb_25, u_mc_26), rfl, (Option.some.inj hf), by rw [ht]; exact hP9, va_K.moved hW.alike hK9, hD9⟩, hS.F ht⟩) hS.2.2 dX3_times_174

def f_m_turned (F : Nat) (md : Int64) (mw : Int64) (mfo : Int32) (Bf : Nat → Int32) (Bm : Nat → Int32) (Bk : Nat → Int32) (Bn : Nat → Int32) (x1 : Int32) : Option (Int32 × Int64 × Int64 × Int64) := Option.bind (f_m_beName F md Bf Bm Bn x1) (fun (u_ma_1, u_mb_2, u_mc_3) => Option.bind (f_m_be F md u_ma_1 (-u_mb_2)) (fun (u_ma_4, u_mb_5, u_mc_6) => Option.bind (f_m_found F md mw mfo Bf Bm Bk u_ma_4 u_mb_5 u_mc_6) (fun (r_7, u_ma_8, u_mb_9, u_mc_10) => some (r_7, u_ma_8, u_mb_9, u_mc_10))))
set_option maxHeartbeats 4000000 in
set_option maxRecDepth 100000 in
theorem c_m_turned (l : Launch) (dC : Nat → ClassId) (dI : Nat → Nat → Nat) (qh : Nat) (mco : Int32) (md : Int64) (mw : Int64) (mfo : Int32) (qf : Nat) (qm : Nat) (qk : Nat) (mmy : Int32) (qn : Nat) (qo : Nat) (qi : Nat) (qx : Nat) (mpr : Int32) (mgn : Int32) (qg : Nat) (mli : Int32) (ql : Nat) (ma : Int64) (mb : Int64) (mc : Int64) (uf : ClassId) (Bf : Nat → Int32) (um : ClassId) (Bm : Nat → Int32) (uk : ClassId) (Bk : Nat → Int32) (un : ClassId) (Bn : Nat → Int32) (x1 : Int32) (sz : Nat) (F : Nat) (out : Int32 × Int64 × Int64 × Int64) (hf : f_m_turned F md mw mfo Bf Bm Bk Bn x1 = some out) : Met l yX3_turned wsX3_turned ({ frames := 3, cells := 0, slots := 0, locals := 70 }) (va_Pc [.ref qh, .int x1] (fun U => U.heap.size = sz ∧ va_P (dC, dI) vwCl [(qh, .inr (3, [.int mco, .long md, .long mw, .int mfo, .ref qf, .ref qm, .ref qk, .int mmy, .ref qn, .ref qo, .ref qi, .ref qx, .int mpr, .int mgn, .ref qg, .int mli, .ref ql, .long ma, .long mb, .long mc])), (qf, .inl (uf, 40960, .inl Bf)), (qm, .inl (um, 40960, .inl Bm)), (qk, .inl (uk, 40960, .inl Bk)), (qn, .inl (un, 4096, .inl Bn))] U.heap ∧ va_K (dC, dI) vwCl [(uf, .int), (um, .int), (uk, .int), (un, .int)] U ∧ va_D (fun _ => True) [(qh, .inr (3, [.int mco, .long md, .long mw, .int mfo, .ref qf, .ref qm, .ref qk, .int mmy, .ref qn, .ref qo, .ref qi, .ref qx, .int mpr, .int mgn, .ref qg, .int mli, .ref ql, .long ma, .long mb, .long mc])), (qf, .inl (uf, 40960, .inl Bf)), (qm, .inl (um, 40960, .inl Bm)), (qk, .inl (uk, 40960, .inl Bk)), (qn, .inl (un, 4096, .inl Bn))])) (va_Qi (fun (r : Int32) (u : Int64 × Int64 × Int64) => (r, u) = out) (fun (u : Int64 × Int64 × Int64) t => match u with | (u_ma, u_mb, u_mc) => va_P (dC, dI) vwCl [(qh, .inr (3, [.int mco, .long md, .long mw, .int mfo, .ref qf, .ref qm, .ref qk, .int mmy, .ref qn, .ref qo, .ref qi, .ref qx, .int mpr, .int mgn, .ref qg, .int mli, .ref ql, .long u_ma, .long u_mb, .long u_mc])), (qf, .inl (uf, 40960, .inl Bf)), (qm, .inl (um, 40960, .inl Bm)), (qk, .inl (uk, 40960, .inl Bk)), (qn, .inl (un, 4096, .inl Bn))] t.heap ∧ va_K (dC, dI) vwCl [(uf, .int), (um, .int), (uk, .int), (un, .int)] t ∧ va_D (va_A [(qh, .inr (3, [.int mco, .long md, .long mw, .int mfo, .ref qf, .ref qm, .ref qk, .int mmy, .ref qn, .ref qo, .ref qi, .ref qx, .int mpr, .int mgn, .ref qg, .int mli, .ref ql, .long ma, .long mb, .long mc])), (qf, .inl (uf, 40960, .inl Bf)), (qm, .inl (um, 40960, .inl Bm)), (qk, .inl (uk, 40960, .inl Bk)), (qn, .inl (un, 4096, .inl Bn))] sz) [(qh, .inr (3, [.int mco, .long md, .long mw, .int mfo, .ref qf, .ref qm, .ref qk, .int mmy, .ref qn, .ref qo, .ref qi, .ref qx, .int mpr, .int mgn, .ref qg, .int mli, .ref ql, .long u_ma, .long u_mb, .long u_mc])), (qf, .inl (uf, 40960, .inl Bf)), (qm, .inl (um, 40960, .inl Bm)), (qk, .inl (uk, 40960, .inl Bk)), (qn, .inl (un, 4096, .inl Bn))]) (va_A [(qh, .inr (3, [.int mco, .long md, .long mw, .int mfo, .ref qf, .ref qm, .ref qk, .int mmy, .ref qn, .ref qo, .ref qi, .ref qx, .int mpr, .int mgn, .ref qg, .int mli, .ref ql, .long ma, .long mb, .long mc])), (qf, .inl (uf, 40960, .inl Bf)), (qm, .inl (um, 40960, .inl Bm)), (qk, .inl (uk, 40960, .inl Bk)), (qn, .inl (un, 4096, .inl Bn))] sz)) 0 0 (va_A [(qh, .inr (3, [.int mco, .long md, .long mw, .int mfo, .ref qf, .ref qm, .ref qk, .int mmy, .ref qn, .ref qo, .ref qi, .ref qx, .int mpr, .int mgn, .ref qg, .int mli, .ref ql, .long ma, .long mb, .long mc])), (qf, .inl (uf, 40960, .inl Bf)), (qm, .inl (um, 40960, .inl Bm)), (qk, .inl (uk, 40960, .inl Bk)), (qn, .inl (un, 4096, .inl Bn))] sz) := by
  refine Met.ofW (cc := cX3_turned) (maxL := 2) (ret := (some .int)) (by decide +kernel) rfl ?_
  intro p e s m args below meth c s₁ B hml hv
  obtain ⟨rfl, hsz, hP, hK, hD0⟩ := hv
  have hx := B.exec
  have hb := B.bytes
  have hr := B.returns
  have hts := atoms_spec (ws := wsX3_turned) B.pre
  have hown : s.vm.findClass "ClassGroupModel" = some m.cls := findClass_of_methodNamed B.named
  have hlocks := B.notSynchronized
  subst hsz
  have hD := hD0.self (sz := s.heap.size)
  generalize hAe : va_A [(qh, .inr (3, [.int mco, .long md, .long mw, .int mfo, .ref qf, .ref qm, .ref qk, .int mmy, .ref qn, .ref qo, .ref qi, .ref qx, .int mpr, .int mgn, .ref qg, .int mli, .ref ql, .long ma, .long mb, .long mc])), (qf, .inl (uf, 40960, .inl Bf)), (qm, .inl (um, 40960, .inl Bm)), (qk, .inl (uk, 40960, .inl Bk)), (qn, .inl (un, 4096, .inl Bn))] s.heap.size = A at hD ⊢
  have hA : ∀ q : Nat, s.heap.size ≤ q → A q := fun q h => by rw [← hAe]; exact Or.inr h
  have hS : va_S A s.heap s.heap [] := va_S.rf
  have hl := lv_entry ([.ref qh, .int x1]) (n := 2) (Nat.le_of_ble_eq_true rfl)
  rw [lg_entry_eq]
  generalize (lg_sl ([.ref qh, .int x1]) ++ List.replicate (2 - (lg_sl ([.ref qh, .int x1])).length) Slot.unset).toArray = ls at hl ⊢
  have hl : lv_has ls 2 [(0, .ref qh), (1, .int x1)] := hl
  unfold f_m_turned at hf
  refine lv_aload_n hx hb dX3_turned_0 rfl (lv_at hl 0 rfl) ?_
  refine lv_iload_n hx hb dX3_turned_1 rfl (lv_at hl 1 rfl) ?_
  obtain ⟨xc2, hc2, hf⟩ := ok_b hf
  have hPc := hP.sub (ws' := [(qh, .inr (3, [.int mco, .long md, .long mw, .int mfo, .ref qf, .ref qm, .ref qk, .int mmy, .ref qn, .ref qo, .ref qi, .ref qx, .int mpr, .int mgn, .ref qg, .int mli, .ref ql, .long ma, .long mb, .long mc])), (qf, .inl (uf, 40960, .inl Bf)), (qm, .inl (um, 40960, .inl Bm)), (qn, .inl (un, 4096, .inl Bn))]) [0, 1, 2, 4] rfl
  have hDc := hD.sub (ws' := [(qh, .inr (3, [.int mco, .long md, .long mw, .int mfo, .ref qf, .ref qm, .ref qk, .int mmy, .ref qn, .ref qo, .ref qi, .ref qx, .int mpr, .int mgn, .ref qg, .int mli, .ref ql, .long ma, .long mb, .long mc])), (qf, .inl (uf, 40960, .inl Bf)), (qm, .inl (um, 40960, .inl Bm)), (qn, .inl (un, 4096, .inl Bn))]) [0, 1, 2, 4] (by decide) rfl
  have hKc := hK.sub (tys' := [(uf, .int), (um, .int), (un, .int)]) [0, 1, 3] rfl
  have hFc := va_free (wc := [(qh, .inr (3, [.int mco, .long md, .long mw, .int mfo, .ref qf, .ref qm, .ref qk, .int mmy, .ref qn, .ref qo, .ref qi, .ref qx, .int mpr, .int mgn, .ref qg, .int mli, .ref ql, .long ma, .long mb, .long mc])), (qf, .inl (uf, 40960, .inl Bf)), (qm, .inl (um, 40960, .inl Bm)), (qn, .inl (un, 4096, .inl Bn))]) hD hS hA [0, 1, 2, 4] rfl
  refine va_callv (va_runV (As := [.int x1]) (rest := []) ⟨hx, hb, hml, hown, hts⟩ (c_m_beName l dC dI qh mco md mw mfo qf qm qk mmy qn qo qi qx mpr mgn qg mli ql ma mb mc uf Bf um Bm un Bn x1 s.heap.size F xc2 hc2) (cwV 1 hts (gwV kw_491 kw_493 ks_37 kw_5 kw_494) rfl rfl rfl (by decide +kernel) ⟨Nat.le_of_ble_eq_true rfl, Nat.le_of_ble_eq_true rfl⟩) ⟨fun a U g mk q => by obtain ⟨q0, q1, qP, qK, qD⟩ := q; exact ⟨q0, q1, qP, va_K.moved (u := U) (U := U.calling g mk a) (Vm.Alike.refl U.vm) qK, qD⟩, va_recv hKc hPc (ci := 3) (q0 := 0) rfl rfl, fun U hU hW => ⟨rfl, by rw [hU], by rw [hU]; exact hPc, va_K.moved hW.alike hKc, hDc.weaken (fun _ _ _ _ => trivial)⟩⟩ rfl rfl hl.1 rfl (lv_room (Nat.le_of_ble_eq_true rfl)) dX3_turned_2 ⟨Nat.zero_le _, Nat.zero_le _⟩) hS (fun q _ h => hFc q h) hFc (fun u t H1 locs ht hvm hw hB hz1 hk1 hS => ?_)
  obtain ⟨u_ma_1, u_mb_2, u_mc_3⟩ := u
  obtain ⟨hP1, hK1, hD1⟩ := hB
  rw [ht] at hP1
  subst hw
  obtain ⟨hP, hD⟩ := va_join (wr := [(qk, .inl (uk, 40960, .inl Bk))]) (w1 := [(qh, .inr (3, [.int mco, .long md, .long mw, .int mfo, .ref qf, .ref qm, .ref qk, .int mmy, .ref qn, .ref qo, .ref qi, .ref qx, .int mpr, .int mgn, .ref qg, .int mli, .ref ql, .long u_ma_1, .long u_mb_2, .long u_mc_3])), (qf, .inl (uf, 40960, .inl Bf)), (qm, .inl (um, 40960, .inl Bm)), (qn, .inl (un, 4096, .inl Bn))]) hP hD [0, 1, 2, 4] [3] rfl rfl (by decide) (by decide) hk1 hFc hP1 hD1
  generalize H1 = H at hP hS ⊢
  have hP : va_P (dC, dI) vwCl [(qk, .inl (uk, 40960, .inl Bk)), (qh, .inr (3, [.int mco, .long md, .long mw, .int mfo, .ref qf, .ref qm, .ref qk, .int mmy, .ref qn, .ref qo, .ref qi, .ref qx, .int mpr, .int mgn, .ref qg, .int mli, .ref ql, .long u_ma_1, .long u_mb_2, .long u_mc_3])), (qf, .inl (uf, 40960, .inl Bf)), (qm, .inl (um, 40960, .inl Bm)), (qn, .inl (un, 4096, .inl Bn))] H := hP
  have hD : va_D A [(qk, .inl (uk, 40960, .inl Bk)), (qh, .inr (3, [.int mco, .long md, .long mw, .int mfo, .ref qf, .ref qm, .ref qk, .int mmy, .ref qn, .ref qo, .ref qi, .ref qx, .int mpr, .int mgn, .ref qg, .int mli, .ref ql, .long u_ma_1, .long u_mb_2, .long u_mc_3])), (qf, .inl (uf, 40960, .inl Bf)), (qm, .inl (um, 40960, .inl Bm)), (qn, .inl (un, 4096, .inl Bn))] := hD
  refine lv_aload_n hx hb dX3_turned_5 rfl (lv_at hl 0 rfl) ?_
  refine lv_aload_n hx hb dX3_turned_6 rfl (lv_at hl 0 rfl) ?_
  refine va_get (D := (dC, dI)) (ci := 3) (v := .long u_ma_1) (C := "ClassGroupModel") (T := TX3) (N := 20) hx hb hts (fun w h => List.mem_cons_of_mem _ (iwX3 w h)) hown hK hP 1 rfl rfl 17 (by decide) (hts _ (List.mem_cons_of_mem _ kw_524)) (fun _ h9 => h9) rfl dX3_turned_7 ?_
  refine lv_aload_n hx hb dX3_turned_10 rfl (lv_at hl 0 rfl) ?_
  refine va_get (D := (dC, dI)) (ci := 3) (v := .long u_mb_2) (C := "ClassGroupModel") (T := TX3) (N := 20) hx hb hts (fun w h => List.mem_cons_of_mem _ (iwX3 w h)) hown hK hP 1 rfl rfl 18 (by decide) (hts _ (List.mem_cons_of_mem _ kw_525)) (fun _ h9 => h9) rfl dX3_turned_11 ?_
  refine lv_lneg hx hb dX3_turned_14 ?_
  obtain ⟨xc15, hc15, hf⟩ := ok_b hf
  have hPc := hP.sub (ws' := [(qh, .inr (3, [.int mco, .long md, .long mw, .int mfo, .ref qf, .ref qm, .ref qk, .int mmy, .ref qn, .ref qo, .ref qi, .ref qx, .int mpr, .int mgn, .ref qg, .int mli, .ref ql, .long u_ma_1, .long u_mb_2, .long u_mc_3]))]) [1] rfl
  have hDc := hD.sub (ws' := [(qh, .inr (3, [.int mco, .long md, .long mw, .int mfo, .ref qf, .ref qm, .ref qk, .int mmy, .ref qn, .ref qo, .ref qi, .ref qx, .int mpr, .int mgn, .ref qg, .int mli, .ref ql, .long u_ma_1, .long u_mb_2, .long u_mc_3]))]) [1] (by decide) rfl
  have hKc := hK.sub (tys' := []) [] rfl
  have hFc := va_free (wc := [(qh, .inr (3, [.int mco, .long md, .long mw, .int mfo, .ref qf, .ref qm, .ref qk, .int mmy, .ref qn, .ref qo, .ref qi, .ref qx, .int mpr, .int mgn, .ref qg, .int mli, .ref ql, .long u_ma_1, .long u_mb_2, .long u_mc_3]))]) hD hS hA [1] rfl
  refine va_callv (va_runV (As := [.long u_ma_1, .long (-u_mb_2)]) (rest := []) ⟨hx, hb, hml, hown, hts⟩ (c_m_be l dC dI qh mco md mw mfo qf qm qk mmy qn qo qi qx mpr mgn qg mli ql u_ma_1 u_mb_2 u_mc_3 u_ma_1 (-u_mb_2) H.size F xc15 hc15) (cwV 2 hts (gwV kw_452 kw_454 ks_29 kw_5 kw_455) rfl rfl rfl (by decide +kernel) ⟨Nat.le_of_ble_eq_true rfl, Nat.le_of_ble_eq_true rfl⟩) ⟨fun a U g mk q => by obtain ⟨q0, q1, qP, qK, qD⟩ := q; exact ⟨q0, q1, qP, va_K.moved (u := U) (U := U.calling g mk a) (Vm.Alike.refl U.vm) qK, qD⟩, va_recv hKc hPc (ci := 3) (q0 := 0) rfl rfl, fun U hU hW => ⟨rfl, by rw [hU], by rw [hU]; exact hPc, va_K.moved hW.alike hKc, hDc.weaken (fun _ _ _ _ => trivial)⟩⟩ rfl rfl hl.1 rfl (lv_room (Nat.le_of_ble_eq_true rfl)) dX3_turned_15 ⟨Nat.zero_le _, Nat.zero_le _⟩) hS (fun q _ h => hFc q h) hFc (fun u t H1 locs ht hvm hw hB hz1 hk1 hS => ?_)
  obtain ⟨u_ma_4, u_mb_5, u_mc_6⟩ := u
  obtain ⟨hP1, hK1, hD1⟩ := hB
  rw [ht] at hP1
  subst hw
  obtain ⟨hP, hD⟩ := va_join (wr := [(qk, .inl (uk, 40960, .inl Bk)), (qf, .inl (uf, 40960, .inl Bf)), (qm, .inl (um, 40960, .inl Bm)), (qn, .inl (un, 4096, .inl Bn))]) (w1 := [(qh, .inr (3, [.int mco, .long md, .long mw, .int mfo, .ref qf, .ref qm, .ref qk, .int mmy, .ref qn, .ref qo, .ref qi, .ref qx, .int mpr, .int mgn, .ref qg, .int mli, .ref ql, .long u_ma_4, .long u_mb_5, .long u_mc_6]))]) hP hD [1] [0, 2, 3, 4] rfl rfl (by decide) (by decide) hk1 hFc hP1 hD1
  generalize H1 = H at hP hS ⊢
  have hP : va_P (dC, dI) vwCl [(qk, .inl (uk, 40960, .inl Bk)), (qf, .inl (uf, 40960, .inl Bf)), (qm, .inl (um, 40960, .inl Bm)), (qn, .inl (un, 4096, .inl Bn)), (qh, .inr (3, [.int mco, .long md, .long mw, .int mfo, .ref qf, .ref qm, .ref qk, .int mmy, .ref qn, .ref qo, .ref qi, .ref qx, .int mpr, .int mgn, .ref qg, .int mli, .ref ql, .long u_ma_4, .long u_mb_5, .long u_mc_6]))] H := hP
  have hD : va_D A [(qk, .inl (uk, 40960, .inl Bk)), (qf, .inl (uf, 40960, .inl Bf)), (qm, .inl (um, 40960, .inl Bm)), (qn, .inl (un, 4096, .inl Bn)), (qh, .inr (3, [.int mco, .long md, .long mw, .int mfo, .ref qf, .ref qm, .ref qk, .int mmy, .ref qn, .ref qo, .ref qi, .ref qx, .int mpr, .int mgn, .ref qg, .int mli, .ref ql, .long u_ma_4, .long u_mb_5, .long u_mc_6]))] := hD
  refine lv_aload_n hx hb dX3_turned_18 rfl (lv_at hl 0 rfl) ?_
  obtain ⟨xc19, hc19, hf⟩ := ok_b hf
  have hPc := hP.sub (ws' := [(qh, .inr (3, [.int mco, .long md, .long mw, .int mfo, .ref qf, .ref qm, .ref qk, .int mmy, .ref qn, .ref qo, .ref qi, .ref qx, .int mpr, .int mgn, .ref qg, .int mli, .ref ql, .long u_ma_4, .long u_mb_5, .long u_mc_6])), (qf, .inl (uf, 40960, .inl Bf)), (qm, .inl (um, 40960, .inl Bm)), (qk, .inl (uk, 40960, .inl Bk))]) [4, 1, 2, 0] rfl
  have hDc := hD.sub (ws' := [(qh, .inr (3, [.int mco, .long md, .long mw, .int mfo, .ref qf, .ref qm, .ref qk, .int mmy, .ref qn, .ref qo, .ref qi, .ref qx, .int mpr, .int mgn, .ref qg, .int mli, .ref ql, .long u_ma_4, .long u_mb_5, .long u_mc_6])), (qf, .inl (uf, 40960, .inl Bf)), (qm, .inl (um, 40960, .inl Bm)), (qk, .inl (uk, 40960, .inl Bk))]) [4, 1, 2, 0] (by decide) rfl
  have hKc := hK.sub (tys' := [(uf, .int), (um, .int), (uk, .int)]) [0, 1, 2] rfl
  have hFc := va_free (wc := [(qh, .inr (3, [.int mco, .long md, .long mw, .int mfo, .ref qf, .ref qm, .ref qk, .int mmy, .ref qn, .ref qo, .ref qi, .ref qx, .int mpr, .int mgn, .ref qg, .int mli, .ref ql, .long u_ma_4, .long u_mb_5, .long u_mc_6])), (qf, .inl (uf, 40960, .inl Bf)), (qm, .inl (um, 40960, .inl Bm)), (qk, .inl (uk, 40960, .inl Bk))]) hD hS hA [4, 1, 2, 0] rfl
  refine va_calli (va_runV (As := []) (rest := []) ⟨hx, hb, hml, hown, hts⟩ (c_m_found l dC dI qh mco md mw mfo qf qm qk mmy qn qo qi qx mpr mgn qg mli ql u_ma_4 u_mb_5 u_mc_6 uf Bf um Bm uk Bk H.size F xc19 hc19) (cwV 0 hts (gwV kw_479 kw_481 ks_34 kw_5 kw_482) rfl rfl rfl (by decide +kernel) ⟨Nat.le_of_ble_eq_true rfl, Nat.le_of_ble_eq_true rfl⟩) ⟨fun a U g mk q => by obtain ⟨q0, q1, qP, qK, qD⟩ := q; exact ⟨q0, q1, qP, va_K.moved (u := U) (U := U.calling g mk a) (Vm.Alike.refl U.vm) qK, qD⟩, va_recv hKc hPc (ci := 3) (q0 := 0) rfl rfl, fun U hU hW => ⟨rfl, by rw [hU], by rw [hU]; exact hPc, va_K.moved hW.alike hKc, hDc.weaken (fun _ _ _ _ => trivial)⟩⟩ rfl rfl hl.1 rfl (lv_room (Nat.le_of_ble_eq_true rfl)) dX3_turned_19 ⟨Nat.zero_le _, Nat.zero_le _⟩) hS (fun q _ h => hFc q h) hFc (fun r_7 u t H1 locs ht hvm hw hB hz1 hk1 hS => ?_)
  obtain ⟨u_ma_8, u_mb_9, u_mc_10⟩ := u
  obtain ⟨hP1, hK1, hD1⟩ := hB
  rw [ht] at hP1
  subst hw
  obtain ⟨hP, hD⟩ := va_join (wr := [(qn, .inl (un, 4096, .inl Bn))]) (w1 := [(qh, .inr (3, [.int mco, .long md, .long mw, .int mfo, .ref qf, .ref qm, .ref qk, .int mmy, .ref qn, .ref qo, .ref qi, .ref qx, .int mpr, .int mgn, .ref qg, .int mli, .ref ql, .long u_ma_8, .long u_mb_9, .long u_mc_10])), (qf, .inl (uf, 40960, .inl Bf)), (qm, .inl (um, 40960, .inl Bm)), (qk, .inl (uk, 40960, .inl Bk))]) hP hD [4, 1, 2, 0] [3] rfl rfl (by decide) (by decide) hk1 hFc hP1 hD1
  generalize H1 = H at hP hS ⊢
  have hP : va_P (dC, dI) vwCl [(qn, .inl (un, 4096, .inl Bn)), (qh, .inr (3, [.int mco, .long md, .long mw, .int mfo, .ref qf, .ref qm, .ref qk, .int mmy, .ref qn, .ref qo, .ref qi, .ref qx, .int mpr, .int mgn, .ref qg, .int mli, .ref ql, .long u_ma_8, .long u_mb_9, .long u_mc_10])), (qf, .inl (uf, 40960, .inl Bf)), (qm, .inl (um, 40960, .inl Bm)), (qk, .inl (uk, 40960, .inl Bk))] H := hP
  have hD : va_D A [(qn, .inl (un, 4096, .inl Bn)), (qh, .inr (3, [.int mco, .long md, .long mw, .int mfo, .ref qf, .ref qm, .ref qk, .int mmy, .ref qn, .ref qo, .ref qi, .ref qx, .int mpr, .int mgn, .ref qg, .int mli, .ref ql, .long u_ma_8, .long u_mb_9, .long u_mc_10])), (qf, .inl (uf, 40960, .inl Bf)), (qm, .inl (um, 40960, .inl Bm)), (qk, .inl (uk, 40960, .inl Bk))] := hD
  have hP9 := hP.sub (ws' := [(qh, .inr (3, [.int mco, .long md, .long mw, .int mfo, .ref qf, .ref qm, .ref qk, .int mmy, .ref qn, .ref qo, .ref qi, .ref qx, .int mpr, .int mgn, .ref qg, .int mli, .ref ql, .long u_ma_8, .long u_mb_9, .long u_mc_10])), (qf, .inl (uf, 40960, .inl Bf)), (qm, .inl (um, 40960, .inl Bm)), (qk, .inl (uk, 40960, .inl Bk)), (qn, .inl (un, 4096, .inl Bn))]) [1, 2, 3, 4, 0] rfl
  have hD9 := hD.sub (ws' := [(qh, .inr (3, [.int mco, .long md, .long mw, .int mfo, .ref qf, .ref qm, .ref qk, .int mmy, .ref qn, .ref qo, .ref qi, .ref qx, .int mpr, .int mgn, .ref qg, .int mli, .ref ql, .long u_ma_8, .long u_mb_9, .long u_mc_10])), (qf, .inl (uf, 40960, .inl Bf)), (qm, .inl (um, 40960, .inl Bm)), (qk, .inl (uk, 40960, .inl Bk)), (qn, .inl (un, 4096, .inl Bn))]) [1, 2, 3, 4, 0] (by decide) rfl
  have hK9 := hK.sub (tys' := [(uf, .int), (um, .int), (uk, .int), (un, .int)]) [0, 1, 2, 3] rfl
  exact W.iret (v := r_7) hx hb hr (fun t ht hW => ⟨⟨r_7, (u_ma_8, u_mb_9, u_mc_10), rfl, (Option.some.inj hf), by rw [ht]; exact hP9, va_K.moved hW.alike hK9, hD9⟩, hS.F ht⟩) hS.2.2 dX3_turned_22

def f_m_raised_L46 (F : Nat) (md : Int64) (mw : Int64) (mfo : Int32) (Bf : Nat → Int32) (Bm : Nat → Int32) (Bk : Nat → Int32) (Bn : Nat → Int32) (t_1 : Int32) : Nat → Int32 → Int64 → Int64 → Int64 → Int64 → Option (Int32 × Int64 × Int64 × Int64)
  | 0, _, _, _, _, _ => none
  | n46 + 1, w6_7, w7_8, m_ma_9, m_mb_10, m_mc_11 => (if (lg_cmp w7_8 0) ≤ 0 then some (w6_7, m_ma_9, m_mb_10, m_mc_11) else Option.bind (f_m_times F md mw mfo Bf Bm Bk Bn w6_7 t_1) (fun (r_12, u_ma_13, u_mb_14, u_mc_15) => bnd (w7_8 - 1) (fun v7_16 => f_m_raised_L46 F md mw mfo Bf Bm Bk Bn t_1 n46 r_12 v7_16 u_ma_13 u_mb_14 u_mc_15)))
def f_m_raised (F : Nat) (md : Int64) (mw : Int64) (mfo : Int32) (Bf : Nat → Int32) (Bm : Nat → Int32) (Bk : Nat → Int32) (Bn : Nat → Int32) (Bo : Nat → Int32) (mpr : Int32) (ma : Int64) (mb : Int64) (mc : Int64) (x1 : Int32) (x2 : Int32) : Option (Int32 × Int64 × Int64 × Int64) := bnd (fun (t_1 : Int32) (q_ma_2 : Int64) (q_mb_3 : Int64) (q_mc_4 : Int64) => (bnd (fun (t_5 : Int64) => ((if vin x1 4096 then (if ¬ ((Bo (x1).toNatClampNeg)).toInt64 = 0 then bnd (t_5 - t_5 / ((Bo (x1).toNatClampNeg)).toInt64 * ((Bo (x1).toNatClampNeg)).toInt64) (fun v7_6 => Option.bind (f_m_raised_L46 F md mw mfo Bf Bm Bk Bn t_1 F mpr v7_6 q_ma_2 q_mb_3 q_mc_4) (fun (x6_17, y_ma_18, y_mb_19, y_mc_20) => some (x6_17, y_ma_18, y_mb_19, y_mc_20))) else none) else none) : Option (Int32 × Int64 × Int64 × Int64))) (fun kJ26 => (if (0 : Int32) ≤ x2 then kJ26 ((x2).toInt64) else kJ26 (-(x2).toInt64))) : Option (Int32 × Int64 × Int64 × Int64))) (fun kJ13 => (if (0 : Int32) ≤ x2 then kJ13 x1 ma mb mc else Option.bind (f_m_turned F md mw mfo Bf Bm Bk Bn x1) (fun (r_21, u_ma_22, u_mb_23, u_mc_24) => kJ13 r_21 u_ma_22 u_mb_23 u_mc_24)))
set_option maxHeartbeats 4000000 in
set_option maxRecDepth 100000 in
theorem c_m_raised (l : Launch) (dC : Nat → ClassId) (dI : Nat → Nat → Nat) (qh : Nat) (mco : Int32) (md : Int64) (mw : Int64) (mfo : Int32) (qf : Nat) (qm : Nat) (qk : Nat) (mmy : Int32) (qn : Nat) (qo : Nat) (qi : Nat) (qx : Nat) (mpr : Int32) (mgn : Int32) (qg : Nat) (mli : Int32) (ql : Nat) (ma : Int64) (mb : Int64) (mc : Int64) (uf : ClassId) (Bf : Nat → Int32) (um : ClassId) (Bm : Nat → Int32) (uk : ClassId) (Bk : Nat → Int32) (un : ClassId) (Bn : Nat → Int32) (uo : ClassId) (Bo : Nat → Int32) (x1 : Int32) (x2 : Int32) (sz : Nat) (F : Nat) (out : Int32 × Int64 × Int64 × Int64) (hf : f_m_raised F md mw mfo Bf Bm Bk Bn Bo mpr ma mb mc x1 x2 = some out) : Met l yX3_raised wsX3_raised ({ frames := 4, cells := 0, slots := 0, locals := 110 }) (va_Pc [.ref qh, .int x1, .int x2] (fun U => U.heap.size = sz ∧ va_P (dC, dI) vwCl [(qh, .inr (3, [.int mco, .long md, .long mw, .int mfo, .ref qf, .ref qm, .ref qk, .int mmy, .ref qn, .ref qo, .ref qi, .ref qx, .int mpr, .int mgn, .ref qg, .int mli, .ref ql, .long ma, .long mb, .long mc])), (qf, .inl (uf, 40960, .inl Bf)), (qm, .inl (um, 40960, .inl Bm)), (qk, .inl (uk, 40960, .inl Bk)), (qn, .inl (un, 4096, .inl Bn)), (qo, .inl (uo, 4096, .inl Bo))] U.heap ∧ va_K (dC, dI) vwCl [(uf, .int), (um, .int), (uk, .int), (un, .int), (uo, .int)] U ∧ va_D (fun _ => True) [(qh, .inr (3, [.int mco, .long md, .long mw, .int mfo, .ref qf, .ref qm, .ref qk, .int mmy, .ref qn, .ref qo, .ref qi, .ref qx, .int mpr, .int mgn, .ref qg, .int mli, .ref ql, .long ma, .long mb, .long mc])), (qf, .inl (uf, 40960, .inl Bf)), (qm, .inl (um, 40960, .inl Bm)), (qk, .inl (uk, 40960, .inl Bk)), (qn, .inl (un, 4096, .inl Bn)), (qo, .inl (uo, 4096, .inl Bo))])) (va_Qi (fun (r : Int32) (u : Int64 × Int64 × Int64) => (r, u) = out) (fun (u : Int64 × Int64 × Int64) t => match u with | (u_ma, u_mb, u_mc) => va_P (dC, dI) vwCl [(qh, .inr (3, [.int mco, .long md, .long mw, .int mfo, .ref qf, .ref qm, .ref qk, .int mmy, .ref qn, .ref qo, .ref qi, .ref qx, .int mpr, .int mgn, .ref qg, .int mli, .ref ql, .long u_ma, .long u_mb, .long u_mc])), (qf, .inl (uf, 40960, .inl Bf)), (qm, .inl (um, 40960, .inl Bm)), (qk, .inl (uk, 40960, .inl Bk)), (qn, .inl (un, 4096, .inl Bn)), (qo, .inl (uo, 4096, .inl Bo))] t.heap ∧ va_K (dC, dI) vwCl [(uf, .int), (um, .int), (uk, .int), (un, .int), (uo, .int)] t ∧ va_D (va_A [(qh, .inr (3, [.int mco, .long md, .long mw, .int mfo, .ref qf, .ref qm, .ref qk, .int mmy, .ref qn, .ref qo, .ref qi, .ref qx, .int mpr, .int mgn, .ref qg, .int mli, .ref ql, .long ma, .long mb, .long mc])), (qf, .inl (uf, 40960, .inl Bf)), (qm, .inl (um, 40960, .inl Bm)), (qk, .inl (uk, 40960, .inl Bk)), (qn, .inl (un, 4096, .inl Bn)), (qo, .inl (uo, 4096, .inl Bo))] sz) [(qh, .inr (3, [.int mco, .long md, .long mw, .int mfo, .ref qf, .ref qm, .ref qk, .int mmy, .ref qn, .ref qo, .ref qi, .ref qx, .int mpr, .int mgn, .ref qg, .int mli, .ref ql, .long u_ma, .long u_mb, .long u_mc])), (qf, .inl (uf, 40960, .inl Bf)), (qm, .inl (um, 40960, .inl Bm)), (qk, .inl (uk, 40960, .inl Bk)), (qn, .inl (un, 4096, .inl Bn)), (qo, .inl (uo, 4096, .inl Bo))]) (va_A [(qh, .inr (3, [.int mco, .long md, .long mw, .int mfo, .ref qf, .ref qm, .ref qk, .int mmy, .ref qn, .ref qo, .ref qi, .ref qx, .int mpr, .int mgn, .ref qg, .int mli, .ref ql, .long ma, .long mb, .long mc])), (qf, .inl (uf, 40960, .inl Bf)), (qm, .inl (um, 40960, .inl Bm)), (qk, .inl (uk, 40960, .inl Bk)), (qn, .inl (un, 4096, .inl Bn)), (qo, .inl (uo, 4096, .inl Bo))] sz)) 0 0 (va_A [(qh, .inr (3, [.int mco, .long md, .long mw, .int mfo, .ref qf, .ref qm, .ref qk, .int mmy, .ref qn, .ref qo, .ref qi, .ref qx, .int mpr, .int mgn, .ref qg, .int mli, .ref ql, .long ma, .long mb, .long mc])), (qf, .inl (uf, 40960, .inl Bf)), (qm, .inl (um, 40960, .inl Bm)), (qk, .inl (uk, 40960, .inl Bk)), (qn, .inl (un, 4096, .inl Bn)), (qo, .inl (uo, 4096, .inl Bo))] sz) := by
  refine Met.ofW (cc := cX3_raised) (maxL := 9) (ret := (some .int)) (by decide +kernel) rfl ?_
  intro p e s m args below meth c s₁ B hml hv
  obtain ⟨rfl, hsz, hP, hK, hD0⟩ := hv
  have hx := B.exec
  have hb := B.bytes
  have hr := B.returns
  have hts := atoms_spec (ws := wsX3_raised) B.pre
  have hown : s.vm.findClass "ClassGroupModel" = some m.cls := findClass_of_methodNamed B.named
  have hlocks := B.notSynchronized
  subst hsz
  have hD := hD0.self (sz := s.heap.size)
  generalize hAe : va_A [(qh, .inr (3, [.int mco, .long md, .long mw, .int mfo, .ref qf, .ref qm, .ref qk, .int mmy, .ref qn, .ref qo, .ref qi, .ref qx, .int mpr, .int mgn, .ref qg, .int mli, .ref ql, .long ma, .long mb, .long mc])), (qf, .inl (uf, 40960, .inl Bf)), (qm, .inl (um, 40960, .inl Bm)), (qk, .inl (uk, 40960, .inl Bk)), (qn, .inl (un, 4096, .inl Bn)), (qo, .inl (uo, 4096, .inl Bo))] s.heap.size = A at hD ⊢
  have hA : ∀ q : Nat, s.heap.size ≤ q → A q := fun q h => by rw [← hAe]; exact Or.inr h
  have hS : va_S A s.heap s.heap [] := va_S.rf
  have hl := lv_entry ([.ref qh, .int x1, .int x2]) (n := 9) (Nat.le_of_ble_eq_true rfl)
  rw [lg_entry_eq]
  generalize (lg_sl ([.ref qh, .int x1, .int x2]) ++ List.replicate (9 - (lg_sl ([.ref qh, .int x1, .int x2])).length) Slot.unset).toArray = ls at hl ⊢
  have hl : lv_has ls 9 [(0, .ref qh), (1, .int x1), (2, .int x2)] := hl
  unfold f_m_raised at hf
  refine lv_iload_n hx hb dX3_raised_0 rfl (lv_at hl 2 rfl) ?_
  obtain ⟨kJ13, ekJ13, hf⟩ := bnd_ex hf
  have hJ13 : ∀ (t_1 : Int32) (q_ma_2 : Int64) (q_mb_3 : Int64) (q_mc_4 : Int64) (H : Heap) (locs : List Loc) (ls : Array Slot), kJ13 t_1 q_ma_2 q_mb_3 q_mc_4 = some out → va_P (dC, dI) vwCl [(qh, .inr (3, [.int mco, .long md, .long mw, .int mfo, .ref qf, .ref qm, .ref qk, .int mmy, .ref qn, .ref qo, .ref qi, .ref qx, .int mpr, .int mgn, .ref qg, .int mli, .ref ql, .long q_ma_2, .long q_mb_3, .long q_mc_4])), (qf, .inl (uf, 40960, .inl Bf)), (qm, .inl (um, 40960, .inl Bm)), (qk, .inl (uk, 40960, .inl Bk)), (qn, .inl (un, 4096, .inl Bn)), (qo, .inl (uo, 4096, .inl Bo))] H → va_D A [(qh, .inr (3, [.int mco, .long md, .long mw, .int mfo, .ref qf, .ref qm, .ref qk, .int mmy, .ref qn, .ref qo, .ref qi, .ref qx, .int mpr, .int mgn, .ref qg, .int mli, .ref ql, .long q_ma_2, .long q_mb_3, .long q_mc_4])), (qf, .inl (uf, 40960, .inl Bf)), (qm, .inl (um, 40960, .inl Bm)), (qk, .inl (uk, 40960, .inl Bk)), (qn, .inl (un, 4096, .inl Bn)), (qo, .inl (uo, 4096, .inl Bo))] → va_S A s.heap H locs → lv_has ls 9 [(0, .ref qh), (1, .int x1), (2, .int x2)] → W p l e ((headSpec wsX3_raised ({ frames := 4, cells := 0, slots := 0, locals := 110 })).room) s m ([.ref qh, .int x1, .int x2] : List Value).toArray below meth c H locs 0 0 (MQ below (va_Qi (fun (r : Int32) (u : Int64 × Int64 × Int64) => (r, u) = out) (fun (u : Int64 × Int64 × Int64) t => match u with | (u_ma, u_mb, u_mc) => va_P (dC, dI) vwCl [(qh, .inr (3, [.int mco, .long md, .long mw, .int mfo, .ref qf, .ref qm, .ref qk, .int mmy, .ref qn, .ref qo, .ref qi, .ref qx, .int mpr, .int mgn, .ref qg, .int mli, .ref ql, .long u_ma, .long u_mb, .long u_mc])), (qf, .inl (uf, 40960, .inl Bf)), (qm, .inl (um, 40960, .inl Bm)), (qk, .inl (uk, 40960, .inl Bk)), (qn, .inl (un, 4096, .inl Bn)), (qo, .inl (uo, 4096, .inl Bo))] t.heap ∧ va_K (dC, dI) vwCl [(uf, .int), (um, .int), (uk, .int), (un, .int), (uo, .int)] t ∧ va_D A [(qh, .inr (3, [.int mco, .long md, .long mw, .int mfo, .ref qf, .ref qm, .ref qk, .int mmy, .ref qn, .ref qo, .ref qi, .ref qx, .int mpr, .int mgn, .ref qg, .int mli, .ref ql, .long u_ma, .long u_mb, .long u_mc])), (qf, .inl (uf, 40960, .inl Bf)), (qm, .inl (um, 40960, .inl Bm)), (qk, .inl (uk, 40960, .inl Bk)), (qn, .inl (un, 4096, .inl Bn)), (qo, .inl (uo, 4096, .inl Bo))]) A) ([.ref qh, .int x1, .int x2] : List Value).toArray s 0 0 A) (F0 m 13 ls [.int t_1]) := by
    intro t_1 q_ma_2 q_mb_3 q_mc_4 H locs ls hf hP hD hS hl
    rw [ekJ13] at hf
    refine lv_istore_n (lv' := [(3, .int t_1), (0, .ref qh), (1, .int x1), (2, .int x2)]) hx hb dX3_raised_13 rfl hl (by decide) rfl (fun ls hl => ?_)
    refine lv_iload_n hx hb dX3_raised_14 rfl (lv_at hl 3 rfl) ?_
    obtain ⟨kJ26, ekJ26, hf⟩ := bnd_ex hf
    have hJ26 : ∀ (t_5 : Int64) (H : Heap) (locs : List Loc) (ls : Array Slot), kJ26 t_5 = some out → va_P (dC, dI) vwCl [(qh, .inr (3, [.int mco, .long md, .long mw, .int mfo, .ref qf, .ref qm, .ref qk, .int mmy, .ref qn, .ref qo, .ref qi, .ref qx, .int mpr, .int mgn, .ref qg, .int mli, .ref ql, .long q_ma_2, .long q_mb_3, .long q_mc_4])), (qf, .inl (uf, 40960, .inl Bf)), (qm, .inl (um, 40960, .inl Bm)), (qk, .inl (uk, 40960, .inl Bk)), (qn, .inl (un, 4096, .inl Bn)), (qo, .inl (uo, 4096, .inl Bo))] H → va_D A [(qh, .inr (3, [.int mco, .long md, .long mw, .int mfo, .ref qf, .ref qm, .ref qk, .int mmy, .ref qn, .ref qo, .ref qi, .ref qx, .int mpr, .int mgn, .ref qg, .int mli, .ref ql, .long q_ma_2, .long q_mb_3, .long q_mc_4])), (qf, .inl (uf, 40960, .inl Bf)), (qm, .inl (um, 40960, .inl Bm)), (qk, .inl (uk, 40960, .inl Bk)), (qn, .inl (un, 4096, .inl Bn)), (qo, .inl (uo, 4096, .inl Bo))] → va_S A s.heap H locs → lv_has ls 9 [(0, .ref qh), (1, .int x1), (3, .int t_1)] → W p l e ((headSpec wsX3_raised ({ frames := 4, cells := 0, slots := 0, locals := 110 })).room) s m ([.ref qh, .int x1, .int x2] : List Value).toArray below meth c H locs 0 0 (MQ below (va_Qi (fun (r : Int32) (u : Int64 × Int64 × Int64) => (r, u) = out) (fun (u : Int64 × Int64 × Int64) t => match u with | (u_ma, u_mb, u_mc) => va_P (dC, dI) vwCl [(qh, .inr (3, [.int mco, .long md, .long mw, .int mfo, .ref qf, .ref qm, .ref qk, .int mmy, .ref qn, .ref qo, .ref qi, .ref qx, .int mpr, .int mgn, .ref qg, .int mli, .ref ql, .long u_ma, .long u_mb, .long u_mc])), (qf, .inl (uf, 40960, .inl Bf)), (qm, .inl (um, 40960, .inl Bm)), (qk, .inl (uk, 40960, .inl Bk)), (qn, .inl (un, 4096, .inl Bn)), (qo, .inl (uo, 4096, .inl Bo))] t.heap ∧ va_K (dC, dI) vwCl [(uf, .int), (um, .int), (uk, .int), (un, .int), (uo, .int)] t ∧ va_D A [(qh, .inr (3, [.int mco, .long md, .long mw, .int mfo, .ref qf, .ref qm, .ref qk, .int mmy, .ref qn, .ref qo, .ref qi, .ref qx, .int mpr, .int mgn, .ref qg, .int mli, .ref ql, .long u_ma, .long u_mb, .long u_mc])), (qf, .inl (uf, 40960, .inl Bf)), (qm, .inl (um, 40960, .inl Bm)), (qk, .inl (uk, 40960, .inl Bk)), (qn, .inl (un, 4096, .inl Bn)), (qo, .inl (uo, 4096, .inl Bo))]) A) ([.ref qh, .int x1, .int x2] : List Value).toArray s 0 0 A) (F0 m 26 ls [.long t_5]) := by
      intro t_5 H locs ls hf hP hD hS hl
      rw [ekJ26] at hf
      refine lv_lstore (lv' := [(4, .long t_5), (0, .ref qh), (1, .int x1), (3, .int t_1)]) hx hb dX3_raised_26 hl (by decide) rfl (fun ls hl => ?_)
      refine lv_aload_n hx hb dX3_raised_28 rfl (lv_at hl 1 rfl) ?_
      refine va_get (D := (dC, dI)) (ci := 3) (v := .int mpr) (C := "ClassGroupModel") (T := TX3) (N := 20) hx hb hts (fun w h => List.mem_cons_of_mem _ (iwX3 w h)) hown hK hP 0 rfl rfl 12 (by decide) (hts _ (List.mem_cons_of_mem _ kw_519)) (fun _ h9 => h9) rfl dX3_raised_29 ?_
      refine lv_istore (lv' := [(6, .int mpr), (4, .long t_5), (0, .ref qh), (1, .int x1), (3, .int t_1)]) hx hb dX3_raised_32 hl (by decide) rfl (fun ls hl => ?_)
      refine lv_lload hx hb dX3_raised_34 (lv_at hl 1 rfl) ?_
      refine lv_aload_n hx hb dX3_raised_36 rfl (lv_at hl 2 rfl) ?_
      refine va_get (D := (dC, dI)) (ci := 3) (v := .ref qo) (C := "ClassGroupModel") (T := TX3) (N := 20) hx hb hts (fun w h => List.mem_cons_of_mem _ (iwX3 w h)) hown hK hP 0 rfl rfl 9 (by decide) (hts _ (List.mem_cons_of_mem _ kw_516)) (fun _ h9 => h9) rfl dX3_raised_37 ?_
      refine lv_iload_n hx hb dX3_raised_40 rfl (lv_at hl 3 rfl) ?_
      obtain ⟨g_41, hf⟩ := ok_g hf
      refine va_iald hx hb hK hP 5 4 rfl rfl g_41 dX3_raised_41 ?_
      refine lv_i2l (v := ((Bo (x1).toNatClampNeg)).toInt64) hx hb dX3_raised_42 rfl ?_
      obtain ⟨g_43, hf⟩ := ok_g hf
      refine lv_lrem hx hb dX3_raised_43 g_43 ?_
      refine lv_topl (fun v7_6 ev7_6 => ?_)
      replace hf := bnd_ok ev7_6 hf
      refine lv_lstore (lv' := [(7, .long v7_6), (6, .int mpr), (4, .long t_5), (0, .ref qh), (1, .int x1), (3, .int t_1)]) hx hb dX3_raised_44 hl (by decide) rfl (fun ls hl => ?_)
      have hL46 : ∀ (n46 : Nat) (w6_7 : Int32) (w7_8 : Int64) (m_ma_9 : Int64) (m_mb_10 : Int64) (m_mc_11 : Int64) (res : Int32 × Int64 × Int64 × Int64) (H : Heap) (locs : List Loc) (ls : Array Slot) (Q : State → Prop), f_m_raised_L46 F md mw mfo Bf Bm Bk Bn t_1 n46 w6_7 w7_8 m_ma_9 m_mb_10 m_mc_11 = some res → va_P (dC, dI) vwCl [(qh, .inr (3, [.int mco, .long md, .long mw, .int mfo, .ref qf, .ref qm, .ref qk, .int mmy, .ref qn, .ref qo, .ref qi, .ref qx, .int mpr, .int mgn, .ref qg, .int mli, .ref ql, .long m_ma_9, .long m_mb_10, .long m_mc_11])), (qf, .inl (uf, 40960, .inl Bf)), (qm, .inl (um, 40960, .inl Bm)), (qk, .inl (uk, 40960, .inl Bk)), (qn, .inl (un, 4096, .inl Bn)), (qo, .inl (uo, 4096, .inl Bo))] H → va_D A [(qh, .inr (3, [.int mco, .long md, .long mw, .int mfo, .ref qf, .ref qm, .ref qk, .int mmy, .ref qn, .ref qo, .ref qi, .ref qx, .int mpr, .int mgn, .ref qg, .int mli, .ref ql, .long m_ma_9, .long m_mb_10, .long m_mc_11])), (qf, .inl (uf, 40960, .inl Bf)), (qm, .inl (um, 40960, .inl Bm)), (qk, .inl (uk, 40960, .inl Bk)), (qn, .inl (un, 4096, .inl Bn)), (qo, .inl (uo, 4096, .inl Bo))] → va_S A s.heap H locs → lv_has ls 9 [(0, .ref qh), (3, .int t_1), (6, .int w6_7), (7, .long w7_8)] → (∀ (x6_17 : Int32) (y_ma_18 : Int64) (y_mb_19 : Int64) (y_mc_20 : Int64) (H : Heap) (locs : List Loc) (ls : Array Slot), (x6_17, y_ma_18, y_mb_19, y_mc_20) = res → va_P (dC, dI) vwCl [(qh, .inr (3, [.int mco, .long md, .long mw, .int mfo, .ref qf, .ref qm, .ref qk, .int mmy, .ref qn, .ref qo, .ref qi, .ref qx, .int mpr, .int mgn, .ref qg, .int mli, .ref ql, .long y_ma_18, .long y_mb_19, .long y_mc_20])), (qf, .inl (uf, 40960, .inl Bf)), (qm, .inl (um, 40960, .inl Bm)), (qk, .inl (uk, 40960, .inl Bk)), (qn, .inl (un, 4096, .inl Bn)), (qo, .inl (uo, 4096, .inl Bo))] H → va_D A [(qh, .inr (3, [.int mco, .long md, .long mw, .int mfo, .ref qf, .ref qm, .ref qk, .int mmy, .ref qn, .ref qo, .ref qi, .ref qx, .int mpr, .int mgn, .ref qg, .int mli, .ref ql, .long y_ma_18, .long y_mb_19, .long y_mc_20])), (qf, .inl (uf, 40960, .inl Bf)), (qm, .inl (um, 40960, .inl Bm)), (qk, .inl (uk, 40960, .inl Bk)), (qn, .inl (un, 4096, .inl Bn)), (qo, .inl (uo, 4096, .inl Bo))] → va_S A s.heap H locs → lv_has ls 9 [(6, .int x6_17)] → W p l e ((headSpec wsX3_raised ({ frames := 4, cells := 0, slots := 0, locals := 110 })).room) s m ([.ref qh, .int x1, .int x2] : List Value).toArray below meth c H locs 0 0 Q (F0 m 71 ls [])) → W p l e ((headSpec wsX3_raised ({ frames := 4, cells := 0, slots := 0, locals := 110 })).room) s m ([.ref qh, .int x1, .int x2] : List Value).toArray below meth c H locs 0 0 Q (F0 m 46 ls []) := by
        intro n46
        induction n46 with
        | zero => intro w6_7 w7_8 m_ma_9 m_mb_10 m_mc_11 res H locs ls Q hf; simp [f_m_raised_L46] at hf
        | succ n46 ih46 =>
          intro w6_7 w7_8 m_ma_9 m_mb_10 m_mc_11 res H locs ls Q hf hP hD hS hl k46_0
          rw [f_m_raised_L46] at hf
          refine lv_lload hx hb dX3_raised_46 (lv_at hl 3 rfl) ?_
          refine lv_lconst (v := 0) hx hb dX3_raised_48 (by decide) ?_
          refine W.lcmp hx hb dX3_raised_49 ?_
          refine lv_if_le (tgt := 71) hx hb dX3_raised_50 (by decide) (fun c_50 => ?_) (fun c_50 => ?_)
          · have hf := ok_t c_50 hf
            exact k46_0 w6_7 m_ma_9 m_mb_10 m_mc_11 _ _ _ (Option.some.inj hf) (hP.sub [0, 1, 2, 3, 4, 5] rfl) (hD.sub [0, 1, 2, 3, 4, 5] (by decide) rfl) hS (lv_sub hl [2] rfl)
          · have hf := ok_f c_50 hf
            refine lv_aload_n hx hb dX3_raised_53 rfl (lv_at hl 0 rfl) ?_
            refine lv_iload hx hb dX3_raised_54 (lv_at hl 2 rfl) ?_
            refine lv_iload_n hx hb dX3_raised_56 rfl (lv_at hl 1 rfl) ?_
            obtain ⟨xc57, hc57, hf⟩ := ok_b hf
            have hPc := hP.sub (ws' := [(qh, .inr (3, [.int mco, .long md, .long mw, .int mfo, .ref qf, .ref qm, .ref qk, .int mmy, .ref qn, .ref qo, .ref qi, .ref qx, .int mpr, .int mgn, .ref qg, .int mli, .ref ql, .long m_ma_9, .long m_mb_10, .long m_mc_11])), (qf, .inl (uf, 40960, .inl Bf)), (qm, .inl (um, 40960, .inl Bm)), (qk, .inl (uk, 40960, .inl Bk)), (qn, .inl (un, 4096, .inl Bn))]) [0, 1, 2, 3, 4] rfl
            have hDc := hD.sub (ws' := [(qh, .inr (3, [.int mco, .long md, .long mw, .int mfo, .ref qf, .ref qm, .ref qk, .int mmy, .ref qn, .ref qo, .ref qi, .ref qx, .int mpr, .int mgn, .ref qg, .int mli, .ref ql, .long m_ma_9, .long m_mb_10, .long m_mc_11])), (qf, .inl (uf, 40960, .inl Bf)), (qm, .inl (um, 40960, .inl Bm)), (qk, .inl (uk, 40960, .inl Bk)), (qn, .inl (un, 4096, .inl Bn))]) [0, 1, 2, 3, 4] (by decide) rfl
            have hKc := hK.sub (tys' := [(uf, .int), (um, .int), (uk, .int), (un, .int)]) [0, 1, 2, 3] rfl
            have hFc := va_free (wc := [(qh, .inr (3, [.int mco, .long md, .long mw, .int mfo, .ref qf, .ref qm, .ref qk, .int mmy, .ref qn, .ref qo, .ref qi, .ref qx, .int mpr, .int mgn, .ref qg, .int mli, .ref ql, .long m_ma_9, .long m_mb_10, .long m_mc_11])), (qf, .inl (uf, 40960, .inl Bf)), (qm, .inl (um, 40960, .inl Bm)), (qk, .inl (uk, 40960, .inl Bk)), (qn, .inl (un, 4096, .inl Bn))]) hD hS hA [0, 1, 2, 3, 4] rfl
            refine va_calli (va_runV (As := [.int w6_7, .int t_1]) (rest := []) ⟨hx, hb, hml, hown, hts⟩ (c_m_times l dC dI qh mco md mw mfo qf qm qk mmy qn qo qi qx mpr mgn qg mli ql m_ma_9 m_mb_10 m_mc_11 uf Bf um Bm uk Bk un Bn w6_7 t_1 H.size F xc57 hc57) (cwV 2 hts (gwV kw_487 kw_489 ks_36 kw_5 kw_490) rfl rfl rfl (by decide +kernel) ⟨Nat.le_of_ble_eq_true rfl, Nat.le_of_ble_eq_true rfl⟩) ⟨fun a U g mk q => by obtain ⟨q0, q1, qP, qK, qD⟩ := q; exact ⟨q0, q1, qP, va_K.moved (u := U) (U := U.calling g mk a) (Vm.Alike.refl U.vm) qK, qD⟩, va_recv hKc hPc (ci := 3) (q0 := 0) rfl rfl, fun U hU hW => ⟨rfl, by rw [hU], by rw [hU]; exact hPc, va_K.moved hW.alike hKc, hDc.weaken (fun _ _ _ _ => trivial)⟩⟩ rfl rfl hl.1 rfl (lv_room (Nat.le_of_ble_eq_true rfl)) dX3_raised_57 ⟨Nat.zero_le _, Nat.zero_le _⟩) hS (fun q _ h => hFc q h) hFc (fun r_12 u t H1 locs ht hvm hw hB hz1 hk1 hS => ?_)
            obtain ⟨u_ma_13, u_mb_14, u_mc_15⟩ := u
            obtain ⟨hP1, hK1, hD1⟩ := hB
            rw [ht] at hP1
            subst hw
            obtain ⟨hP, hD⟩ := va_join (wr := [(qo, .inl (uo, 4096, .inl Bo))]) (w1 := [(qh, .inr (3, [.int mco, .long md, .long mw, .int mfo, .ref qf, .ref qm, .ref qk, .int mmy, .ref qn, .ref qo, .ref qi, .ref qx, .int mpr, .int mgn, .ref qg, .int mli, .ref ql, .long u_ma_13, .long u_mb_14, .long u_mc_15])), (qf, .inl (uf, 40960, .inl Bf)), (qm, .inl (um, 40960, .inl Bm)), (qk, .inl (uk, 40960, .inl Bk)), (qn, .inl (un, 4096, .inl Bn))]) hP hD [0, 1, 2, 3, 4] [5] rfl rfl (by decide) (by decide) hk1 hFc hP1 hD1
            generalize H1 = H at hP hS ⊢
            have hP : va_P (dC, dI) vwCl [(qo, .inl (uo, 4096, .inl Bo)), (qh, .inr (3, [.int mco, .long md, .long mw, .int mfo, .ref qf, .ref qm, .ref qk, .int mmy, .ref qn, .ref qo, .ref qi, .ref qx, .int mpr, .int mgn, .ref qg, .int mli, .ref ql, .long u_ma_13, .long u_mb_14, .long u_mc_15])), (qf, .inl (uf, 40960, .inl Bf)), (qm, .inl (um, 40960, .inl Bm)), (qk, .inl (uk, 40960, .inl Bk)), (qn, .inl (un, 4096, .inl Bn))] H := hP
            have hD : va_D A [(qo, .inl (uo, 4096, .inl Bo)), (qh, .inr (3, [.int mco, .long md, .long mw, .int mfo, .ref qf, .ref qm, .ref qk, .int mmy, .ref qn, .ref qo, .ref qi, .ref qx, .int mpr, .int mgn, .ref qg, .int mli, .ref ql, .long u_ma_13, .long u_mb_14, .long u_mc_15])), (qf, .inl (uf, 40960, .inl Bf)), (qm, .inl (um, 40960, .inl Bm)), (qk, .inl (uk, 40960, .inl Bk)), (qn, .inl (un, 4096, .inl Bn))] := hD
            refine lv_istore (lv' := [(6, .int r_12), (0, .ref qh), (3, .int t_1), (7, .long w7_8)]) hx hb dX3_raised_60 hl (by decide) rfl (fun ls hl => ?_)
            refine lv_lload hx hb dX3_raised_62 (lv_at hl 3 rfl) ?_
            refine lv_lconst (v := 1) hx hb dX3_raised_64 (by decide) ?_
            refine lv_lsub hx hb dX3_raised_65 ?_
            refine lv_topl (fun v7_16 ev7_16 => ?_)
            replace hf := bnd_ok ev7_16 hf
            refine lv_lstore (lv' := [(7, .long v7_16), (6, .int r_12), (0, .ref qh), (3, .int t_1)]) hx hb dX3_raised_66 hl (by decide) rfl (fun ls hl => ?_)
            refine lv_goto (tgt := 46) hx hb dX3_raised_68 (by decide) ?_
            exact ih46 r_12 v7_16 u_ma_13 u_mb_14 u_mc_15 _ _ _ _ _ hf (hP.sub [1, 2, 3, 4, 5, 0] rfl) (hD.sub [1, 2, 3, 4, 5, 0] (by decide) rfl) hS (lv_sub hl [2, 3, 1, 0] rfl) k46_0
      obtain ⟨res46, hL46_r, hf⟩ := ok_b hf
      refine hL46 F mpr v7_6 q_ma_2 q_mb_3 q_mc_4 res46 _ _ _ _ hL46_r (hP.sub [0, 1, 2, 3, 4, 5] rfl) (hD.sub [0, 1, 2, 3, 4, 5] (by decide) rfl) hS (lv_sub hl [3, 5, 1, 0] rfl) (fun x6_17 y_ma_18 y_mb_19 y_mc_20 H locs ls hres hP hD hS hl => ?_)
      subst hres
      refine lv_iload hx hb dX3_raised_71 (lv_at hl 0 rfl) ?_
      have hP9 := hP.sub (ws' := [(qh, .inr (3, [.int mco, .long md, .long mw, .int mfo, .ref qf, .ref qm, .ref qk, .int mmy, .ref qn, .ref qo, .ref qi, .ref qx, .int mpr, .int mgn, .ref qg, .int mli, .ref ql, .long y_ma_18, .long y_mb_19, .long y_mc_20])), (qf, .inl (uf, 40960, .inl Bf)), (qm, .inl (um, 40960, .inl Bm)), (qk, .inl (uk, 40960, .inl Bk)), (qn, .inl (un, 4096, .inl Bn)), (qo, .inl (uo, 4096, .inl Bo))]) [0, 1, 2, 3, 4, 5] rfl
      have hD9 := hD.sub (ws' := [(qh, .inr (3, [.int mco, .long md, .long mw, .int mfo, .ref qf, .ref qm, .ref qk, .int mmy, .ref qn, .ref qo, .ref qi, .ref qx, .int mpr, .int mgn, .ref qg, .int mli, .ref ql, .long y_ma_18, .long y_mb_19, .long y_mc_20])), (qf, .inl (uf, 40960, .inl Bf)), (qm, .inl (um, 40960, .inl Bm)), (qk, .inl (uk, 40960, .inl Bk)), (qn, .inl (un, 4096, .inl Bn)), (qo, .inl (uo, 4096, .inl Bo))]) [0, 1, 2, 3, 4, 5] (by decide) rfl
      have hK9 := hK.sub (tys' := [(uf, .int), (um, .int), (uk, .int), (un, .int), (uo, .int)]) [0, 1, 2, 3, 4] rfl
      exact W.iret (v := x6_17) hx hb hr (fun t ht hW => ⟨⟨x6_17, (y_ma_18, y_mb_19, y_mc_20), rfl, (Option.some.inj hf), by rw [ht]; exact hP9, va_K.moved hW.alike hK9, hD9⟩, hS.F ht⟩) hS.2.2 dX3_raised_73
    refine lv_if_ge (tgt := 24) hx hb dX3_raised_15 (by decide) (fun c_15 => ?_) (fun c_15 => ?_)
    · have hf := ok_t c_15 hf
      refine lv_iload_n hx hb dX3_raised_24 rfl (lv_at hl 3 rfl) ?_
      refine lv_i2l (v := (x2).toInt64) hx hb dX3_raised_25 rfl ?_
      exact hJ26 ((x2).toInt64) _ _ _ hf (hP.sub [0, 1, 2, 3, 4, 5] rfl) (hD.sub [0, 1, 2, 3, 4, 5] (by decide) rfl) hS (lv_sub hl [1, 2, 0] rfl)
    · have hf := ok_f c_15 hf
      refine lv_iload_n hx hb dX3_raised_18 rfl (lv_at hl 3 rfl) ?_
      refine lv_i2l (v := (x2).toInt64) hx hb dX3_raised_19 rfl ?_
      refine lv_lneg hx hb dX3_raised_20 ?_
      refine lv_goto (tgt := 26) hx hb dX3_raised_21 (by decide) ?_
      exact hJ26 (-(x2).toInt64) _ _ _ hf (hP.sub [0, 1, 2, 3, 4, 5] rfl) (hD.sub [0, 1, 2, 3, 4, 5] (by decide) rfl) hS (lv_sub hl [1, 2, 0] rfl)
  refine lv_if_ge (tgt := 12) hx hb dX3_raised_1 (by decide) (fun c_1 => ?_) (fun c_1 => ?_)
  · have hf := ok_t c_1 hf
    refine lv_iload_n hx hb dX3_raised_12 rfl (lv_at hl 1 rfl) ?_
    exact hJ13 x1 ma mb mc _ _ _ hf (hP.sub [0, 1, 2, 3, 4, 5] rfl) (hD.sub [0, 1, 2, 3, 4, 5] (by decide) rfl) hS (lv_sub hl [0, 1, 2] rfl)
  · have hf := ok_f c_1 hf
    refine lv_aload_n hx hb dX3_raised_4 rfl (lv_at hl 0 rfl) ?_
    refine lv_iload_n hx hb dX3_raised_5 rfl (lv_at hl 1 rfl) ?_
    obtain ⟨xc6, hc6, hf⟩ := ok_b hf
    have hPc := hP.sub (ws' := [(qh, .inr (3, [.int mco, .long md, .long mw, .int mfo, .ref qf, .ref qm, .ref qk, .int mmy, .ref qn, .ref qo, .ref qi, .ref qx, .int mpr, .int mgn, .ref qg, .int mli, .ref ql, .long ma, .long mb, .long mc])), (qf, .inl (uf, 40960, .inl Bf)), (qm, .inl (um, 40960, .inl Bm)), (qk, .inl (uk, 40960, .inl Bk)), (qn, .inl (un, 4096, .inl Bn))]) [0, 1, 2, 3, 4] rfl
    have hDc := hD.sub (ws' := [(qh, .inr (3, [.int mco, .long md, .long mw, .int mfo, .ref qf, .ref qm, .ref qk, .int mmy, .ref qn, .ref qo, .ref qi, .ref qx, .int mpr, .int mgn, .ref qg, .int mli, .ref ql, .long ma, .long mb, .long mc])), (qf, .inl (uf, 40960, .inl Bf)), (qm, .inl (um, 40960, .inl Bm)), (qk, .inl (uk, 40960, .inl Bk)), (qn, .inl (un, 4096, .inl Bn))]) [0, 1, 2, 3, 4] (by decide) rfl
    have hKc := hK.sub (tys' := [(uf, .int), (um, .int), (uk, .int), (un, .int)]) [0, 1, 2, 3] rfl
    have hFc := va_free (wc := [(qh, .inr (3, [.int mco, .long md, .long mw, .int mfo, .ref qf, .ref qm, .ref qk, .int mmy, .ref qn, .ref qo, .ref qi, .ref qx, .int mpr, .int mgn, .ref qg, .int mli, .ref ql, .long ma, .long mb, .long mc])), (qf, .inl (uf, 40960, .inl Bf)), (qm, .inl (um, 40960, .inl Bm)), (qk, .inl (uk, 40960, .inl Bk)), (qn, .inl (un, 4096, .inl Bn))]) hD hS hA [0, 1, 2, 3, 4] rfl
    refine va_calli (va_runV (As := [.int x1]) (rest := []) ⟨hx, hb, hml, hown, hts⟩ (c_m_turned l dC dI qh mco md mw mfo qf qm qk mmy qn qo qi qx mpr mgn qg mli ql ma mb mc uf Bf um Bm uk Bk un Bn x1 s.heap.size F xc6 hc6) (cwV 1 hts (gwV kw_608 kw_610 ks_42 kw_5 kw_611) rfl rfl rfl (by decide +kernel) ⟨Nat.le_of_ble_eq_true rfl, Nat.le_of_ble_eq_true rfl⟩) ⟨fun a U g mk q => by obtain ⟨q0, q1, qP, qK, qD⟩ := q; exact ⟨q0, q1, qP, va_K.moved (u := U) (U := U.calling g mk a) (Vm.Alike.refl U.vm) qK, qD⟩, va_recv hKc hPc (ci := 3) (q0 := 0) rfl rfl, fun U hU hW => ⟨rfl, by rw [hU], by rw [hU]; exact hPc, va_K.moved hW.alike hKc, hDc.weaken (fun _ _ _ _ => trivial)⟩⟩ rfl rfl hl.1 rfl (lv_room (Nat.le_of_ble_eq_true rfl)) dX3_raised_6 ⟨Nat.zero_le _, Nat.zero_le _⟩) hS (fun q _ h => hFc q h) hFc (fun r_21 u t H1 locs ht hvm hw hB hz1 hk1 hS => ?_)
    obtain ⟨u_ma_22, u_mb_23, u_mc_24⟩ := u
    obtain ⟨hP1, hK1, hD1⟩ := hB
    rw [ht] at hP1
    subst hw
    obtain ⟨hP, hD⟩ := va_join (wr := [(qo, .inl (uo, 4096, .inl Bo))]) (w1 := [(qh, .inr (3, [.int mco, .long md, .long mw, .int mfo, .ref qf, .ref qm, .ref qk, .int mmy, .ref qn, .ref qo, .ref qi, .ref qx, .int mpr, .int mgn, .ref qg, .int mli, .ref ql, .long u_ma_22, .long u_mb_23, .long u_mc_24])), (qf, .inl (uf, 40960, .inl Bf)), (qm, .inl (um, 40960, .inl Bm)), (qk, .inl (uk, 40960, .inl Bk)), (qn, .inl (un, 4096, .inl Bn))]) hP hD [0, 1, 2, 3, 4] [5] rfl rfl (by decide) (by decide) hk1 hFc hP1 hD1
    generalize H1 = H at hP hS ⊢
    have hP : va_P (dC, dI) vwCl [(qo, .inl (uo, 4096, .inl Bo)), (qh, .inr (3, [.int mco, .long md, .long mw, .int mfo, .ref qf, .ref qm, .ref qk, .int mmy, .ref qn, .ref qo, .ref qi, .ref qx, .int mpr, .int mgn, .ref qg, .int mli, .ref ql, .long u_ma_22, .long u_mb_23, .long u_mc_24])), (qf, .inl (uf, 40960, .inl Bf)), (qm, .inl (um, 40960, .inl Bm)), (qk, .inl (uk, 40960, .inl Bk)), (qn, .inl (un, 4096, .inl Bn))] H := hP
    have hD : va_D A [(qo, .inl (uo, 4096, .inl Bo)), (qh, .inr (3, [.int mco, .long md, .long mw, .int mfo, .ref qf, .ref qm, .ref qk, .int mmy, .ref qn, .ref qo, .ref qi, .ref qx, .int mpr, .int mgn, .ref qg, .int mli, .ref ql, .long u_ma_22, .long u_mb_23, .long u_mc_24])), (qf, .inl (uf, 40960, .inl Bf)), (qm, .inl (um, 40960, .inl Bm)), (qk, .inl (uk, 40960, .inl Bk)), (qn, .inl (un, 4096, .inl Bn))] := hD
    refine lv_goto (tgt := 13) hx hb dX3_raised_9 (by decide) ?_
    exact hJ13 r_21 u_ma_22 u_mb_23 u_mc_24 _ _ _ hf (hP.sub [1, 2, 3, 4, 5, 0] rfl) (hD.sub [1, 2, 3, 4, 5, 0] (by decide) rfl) hS (lv_sub hl [0, 1, 2] rfl)

def f_m_measure_L12 (F : Nat) (md : Int64) (mw : Int64) (mfo : Int32) (mpr : Int32) (Bf : Nat → Int32) (Bm : Nat → Int32) (Bk : Nat → Int32) (Bn : Nat → Int32) (x1 : Int32) : Nat → Int32 → Int32 → Int32 → (Nat → Int32) → Int64 → Int64 → Int64 → Option (Int32 × (Nat → Int32) × Int64 × Int64 × Int64)
  | 0, _, _, _, _, _, _, _ => none
  | n12 + 1, w2_1, w3_2, m_mli_3, m_Bl_4, m_ma_5, m_mb_6, m_mc_7 => (if w3_2 = 0 then some (m_mli_3, m_Bl_4, m_ma_5, m_mb_6, m_mc_7) else Option.bind (f_m_times F md mw mfo Bf Bm Bk Bn w2_1 x1) (fun (r_8, u_ma_9, u_mb_10, u_mc_11) => (if vin m_mli_3 4096 then bnd (upd m_Bl_4 (m_mli_3).toNatClampNeg r_8) (fun A_12 => bnd (m_mli_3 + 1) (fun f_listed_13 => bnd (fun (t_14 : Int32) => (f_m_measure_L12 F md mw mfo mpr Bf Bm Bk Bn x1 n12 r_8 t_14 f_listed_13 A_12 u_ma_9 u_mb_10 u_mc_11 : Option (Int32 × (Nat → Int32) × Int64 × Int64 × Int64))) (fun kJ56 => (if r_8 = mpr then kJ56 0 else kJ56 1)))) else none)))
def f_m_measure_L63 (F : Nat) (y_mli_15 : Int32) (y_Bl_16 : Nat → Int32) : Nat → Int32 → (Nat → Int32) → Option ((Nat → Int32))
  | 0, _, _ => none
  | n63 + 1, w4_20, m_Bo_21 => (if y_mli_15 ≤ w4_20 then some m_Bo_21 else (if vin w4_20 4096 then Option.bind (f_m_common F ((y_mli_15).toInt64) (((w4_20 + 1)).toInt64)) (fun r_22 => (if ¬ (r_22).toInt32 = 0 then (if vin (y_Bl_16 (w4_20).toNatClampNeg) 4096 then bnd (upd m_Bo_21 ((y_Bl_16 (w4_20).toNatClampNeg)).toNatClampNeg (y_mli_15 / (r_22).toInt32)) (fun A_23 => bnd (w4_20 + 1) (fun v4_24 => f_m_measure_L63 F y_mli_15 y_Bl_16 n63 v4_24 A_23)) else none) else none)) else none))
def f_m_measure (F : Nat) (md : Int64) (mw : Int64) (mfo : Int32) (Bf : Nat → Int32) (Bm : Nat → Int32) (Bk : Nat → Int32) (Bn : Nat → Int32) (mpr : Int32) (Bo : Nat → Int32) (Bl : Nat → Int32) (ma : Int64) (mb : Int64) (mc : Int64) (x1 : Int32) : Option (Int32 × (Nat → Int32) × (Nat → Int32) × Int64 × Int64 × Int64) := Option.bind (f_m_measure_L12 F md mw mfo mpr Bf Bm Bk Bn x1 F mpr 1 0 Bl ma mb mc) (fun (y_mli_15, y_Bl_16, y_ma_17, y_mb_18, y_mc_19) => Option.bind (f_m_measure_L63 F y_mli_15 y_Bl_16 F 0 Bo) (fun y_Bo_25 => some (y_mli_15, y_Bo_25, y_Bl_16, y_ma_17, y_mb_18, y_mc_19)))
set_option maxHeartbeats 4000000 in
set_option maxRecDepth 100000 in
theorem c_m_measure (l : Launch) (dC : Nat → ClassId) (dI : Nat → Nat → Nat) (qh : Nat) (mco : Int32) (md : Int64) (mw : Int64) (mfo : Int32) (qf : Nat) (qm : Nat) (qk : Nat) (mmy : Int32) (qn : Nat) (qo : Nat) (qi : Nat) (qx : Nat) (mpr : Int32) (mgn : Int32) (qg : Nat) (mli : Int32) (ql : Nat) (ma : Int64) (mb : Int64) (mc : Int64) (uf : ClassId) (Bf : Nat → Int32) (um : ClassId) (Bm : Nat → Int32) (uk : ClassId) (Bk : Nat → Int32) (un : ClassId) (Bn : Nat → Int32) (uo : ClassId) (Bo : Nat → Int32) (ul : ClassId) (Bl : Nat → Int32) (x1 : Int32) (sz : Nat) (F : Nat) (out : Int32 × (Nat → Int32) × (Nat → Int32) × Int64 × Int64 × Int64) (hf : f_m_measure F md mw mfo Bf Bm Bk Bn mpr Bo Bl ma mb mc x1 = some out) : Met l yX3_measure wsX3_measure ({ frames := 4, cells := 0, slots := 0, locals := 110 }) (va_Pc [.ref qh, .int x1] (fun U => U.heap.size = sz ∧ va_P (dC, dI) vwCl [(qh, .inr (3, [.int mco, .long md, .long mw, .int mfo, .ref qf, .ref qm, .ref qk, .int mmy, .ref qn, .ref qo, .ref qi, .ref qx, .int mpr, .int mgn, .ref qg, .int mli, .ref ql, .long ma, .long mb, .long mc])), (qf, .inl (uf, 40960, .inl Bf)), (qm, .inl (um, 40960, .inl Bm)), (qk, .inl (uk, 40960, .inl Bk)), (qn, .inl (un, 4096, .inl Bn)), (qo, .inl (uo, 4096, .inl Bo)), (ql, .inl (ul, 4096, .inl Bl))] U.heap ∧ va_K (dC, dI) vwCl [(uf, .int), (um, .int), (uk, .int), (un, .int), (uo, .int), (ul, .int)] U ∧ va_D (fun _ => True) [(qh, .inr (3, [.int mco, .long md, .long mw, .int mfo, .ref qf, .ref qm, .ref qk, .int mmy, .ref qn, .ref qo, .ref qi, .ref qx, .int mpr, .int mgn, .ref qg, .int mli, .ref ql, .long ma, .long mb, .long mc])), (qf, .inl (uf, 40960, .inl Bf)), (qm, .inl (um, 40960, .inl Bm)), (qk, .inl (uk, 40960, .inl Bk)), (qn, .inl (un, 4096, .inl Bn)), (qo, .inl (uo, 4096, .inl Bo)), (ql, .inl (ul, 4096, .inl Bl))])) (va_Qv (fun (u : Int32 × (Nat → Int32) × (Nat → Int32) × Int64 × Int64 × Int64) => u = out) (fun (u : Int32 × (Nat → Int32) × (Nat → Int32) × Int64 × Int64 × Int64) t => match u with | (u_mli, u_Bo, u_Bl, u_ma, u_mb, u_mc) => va_P (dC, dI) vwCl [(qh, .inr (3, [.int mco, .long md, .long mw, .int mfo, .ref qf, .ref qm, .ref qk, .int mmy, .ref qn, .ref qo, .ref qi, .ref qx, .int mpr, .int mgn, .ref qg, .int u_mli, .ref ql, .long u_ma, .long u_mb, .long u_mc])), (qf, .inl (uf, 40960, .inl Bf)), (qm, .inl (um, 40960, .inl Bm)), (qk, .inl (uk, 40960, .inl Bk)), (qn, .inl (un, 4096, .inl Bn)), (qo, .inl (uo, 4096, .inl u_Bo)), (ql, .inl (ul, 4096, .inl u_Bl))] t.heap ∧ va_K (dC, dI) vwCl [(uf, .int), (um, .int), (uk, .int), (un, .int), (uo, .int), (ul, .int)] t ∧ va_D (va_A [(qh, .inr (3, [.int mco, .long md, .long mw, .int mfo, .ref qf, .ref qm, .ref qk, .int mmy, .ref qn, .ref qo, .ref qi, .ref qx, .int mpr, .int mgn, .ref qg, .int mli, .ref ql, .long ma, .long mb, .long mc])), (qf, .inl (uf, 40960, .inl Bf)), (qm, .inl (um, 40960, .inl Bm)), (qk, .inl (uk, 40960, .inl Bk)), (qn, .inl (un, 4096, .inl Bn)), (qo, .inl (uo, 4096, .inl Bo)), (ql, .inl (ul, 4096, .inl Bl))] sz) [(qh, .inr (3, [.int mco, .long md, .long mw, .int mfo, .ref qf, .ref qm, .ref qk, .int mmy, .ref qn, .ref qo, .ref qi, .ref qx, .int mpr, .int mgn, .ref qg, .int u_mli, .ref ql, .long u_ma, .long u_mb, .long u_mc])), (qf, .inl (uf, 40960, .inl Bf)), (qm, .inl (um, 40960, .inl Bm)), (qk, .inl (uk, 40960, .inl Bk)), (qn, .inl (un, 4096, .inl Bn)), (qo, .inl (uo, 4096, .inl u_Bo)), (ql, .inl (ul, 4096, .inl u_Bl))]) (va_A [(qh, .inr (3, [.int mco, .long md, .long mw, .int mfo, .ref qf, .ref qm, .ref qk, .int mmy, .ref qn, .ref qo, .ref qi, .ref qx, .int mpr, .int mgn, .ref qg, .int mli, .ref ql, .long ma, .long mb, .long mc])), (qf, .inl (uf, 40960, .inl Bf)), (qm, .inl (um, 40960, .inl Bm)), (qk, .inl (uk, 40960, .inl Bk)), (qn, .inl (un, 4096, .inl Bn)), (qo, .inl (uo, 4096, .inl Bo)), (ql, .inl (ul, 4096, .inl Bl))] sz)) 0 0 (va_A [(qh, .inr (3, [.int mco, .long md, .long mw, .int mfo, .ref qf, .ref qm, .ref qk, .int mmy, .ref qn, .ref qo, .ref qi, .ref qx, .int mpr, .int mgn, .ref qg, .int mli, .ref ql, .long ma, .long mb, .long mc])), (qf, .inl (uf, 40960, .inl Bf)), (qm, .inl (um, 40960, .inl Bm)), (qk, .inl (uk, 40960, .inl Bk)), (qn, .inl (un, 4096, .inl Bn)), (qo, .inl (uo, 4096, .inl Bo)), (ql, .inl (ul, 4096, .inl Bl))] sz) := by
  refine Met.ofW (cc := cX3_measure) (maxL := 5) (ret := none) (by decide +kernel) rfl ?_
  intro p e s m args below meth c s₁ B hml hv
  obtain ⟨rfl, hsz, hP, hK, hD0⟩ := hv
  have hx := B.exec
  have hb := B.bytes
  have hr := B.returns
  have hts := atoms_spec (ws := wsX3_measure) B.pre
  have hown : s.vm.findClass "ClassGroupModel" = some m.cls := findClass_of_methodNamed B.named
  have hlocks := B.notSynchronized
  subst hsz
  have hD := hD0.self (sz := s.heap.size)
  generalize hAe : va_A [(qh, .inr (3, [.int mco, .long md, .long mw, .int mfo, .ref qf, .ref qm, .ref qk, .int mmy, .ref qn, .ref qo, .ref qi, .ref qx, .int mpr, .int mgn, .ref qg, .int mli, .ref ql, .long ma, .long mb, .long mc])), (qf, .inl (uf, 40960, .inl Bf)), (qm, .inl (um, 40960, .inl Bm)), (qk, .inl (uk, 40960, .inl Bk)), (qn, .inl (un, 4096, .inl Bn)), (qo, .inl (uo, 4096, .inl Bo)), (ql, .inl (ul, 4096, .inl Bl))] s.heap.size = A at hD ⊢
  have hA : ∀ q : Nat, s.heap.size ≤ q → A q := fun q h => by rw [← hAe]; exact Or.inr h
  have hS : va_S A s.heap s.heap [] := va_S.rf
  have hl := lv_entry ([.ref qh, .int x1]) (n := 5) (Nat.le_of_ble_eq_true rfl)
  rw [lg_entry_eq]
  generalize (lg_sl ([.ref qh, .int x1]) ++ List.replicate (5 - (lg_sl ([.ref qh, .int x1])).length) Slot.unset).toArray = ls at hl ⊢
  have hl : lv_has ls 5 [(0, .ref qh), (1, .int x1)] := hl
  unfold f_m_measure at hf
  refine lv_aload_n hx hb dX3_measure_0 rfl (lv_at hl 0 rfl) ?_
  refine lv_iconst (v := 0) hx hb dX3_measure_1 (by decide) ?_
  refine va_put (D := (dC, dI)) (ci := 3) (v := .int 0) (ty := .int) (C := "ClassGroupModel") (T := TX3) (N := 20) hx hb hts (fun w h => List.mem_cons_of_mem _ (iwX3 w h)) tyX3 tyokX3 nmX3 hown hK hP hD hS 0 rfl rfl 15 (by decide) (hts _ (List.mem_cons_of_mem _ kw_522)) (fun _ h9 => h9) rfl (by decide +kernel) rfl rfl (Nat.le_of_ble_eq_true rfl) dX3_measure_2 (fun H locs hP hD hS => ?_)
  have hP : va_P (dC, dI) vwCl [(qh, .inr (3, [.int mco, .long md, .long mw, .int mfo, .ref qf, .ref qm, .ref qk, .int mmy, .ref qn, .ref qo, .ref qi, .ref qx, .int mpr, .int mgn, .ref qg, .int 0, .ref ql, .long ma, .long mb, .long mc])), (qf, .inl (uf, 40960, .inl Bf)), (qm, .inl (um, 40960, .inl Bm)), (qk, .inl (uk, 40960, .inl Bk)), (qn, .inl (un, 4096, .inl Bn)), (qo, .inl (uo, 4096, .inl Bo)), (ql, .inl (ul, 4096, .inl Bl))] H := hP
  have hD : va_D A [(qh, .inr (3, [.int mco, .long md, .long mw, .int mfo, .ref qf, .ref qm, .ref qk, .int mmy, .ref qn, .ref qo, .ref qi, .ref qx, .int mpr, .int mgn, .ref qg, .int 0, .ref ql, .long ma, .long mb, .long mc])), (qf, .inl (uf, 40960, .inl Bf)), (qm, .inl (um, 40960, .inl Bm)), (qk, .inl (uk, 40960, .inl Bk)), (qn, .inl (un, 4096, .inl Bn)), (qo, .inl (uo, 4096, .inl Bo)), (ql, .inl (ul, 4096, .inl Bl))] := hD
  refine lv_aload_n hx hb dX3_measure_5 rfl (lv_at hl 0 rfl) ?_
  refine va_get (D := (dC, dI)) (ci := 3) (v := .int mpr) (C := "ClassGroupModel") (T := TX3) (N := 20) hx hb hts (fun w h => List.mem_cons_of_mem _ (iwX3 w h)) hown hK hP 0 rfl rfl 12 (by decide) (hts _ (List.mem_cons_of_mem _ kw_519)) (fun _ h9 => h9) rfl dX3_measure_6 ?_
  refine lv_istore_n (lv' := [(2, .int mpr), (0, .ref qh), (1, .int x1)]) hx hb dX3_measure_9 rfl hl (by decide) rfl (fun ls hl => ?_)
  refine lv_iconst (v := 1) hx hb dX3_measure_10 (by decide) ?_
  refine lv_istore_n (lv' := [(3, .int 1), (2, .int mpr), (0, .ref qh), (1, .int x1)]) hx hb dX3_measure_11 rfl hl (by decide) rfl (fun ls hl => ?_)
  have hL12 : ∀ (n12 : Nat) (w2_1 : Int32) (w3_2 : Int32) (m_mli_3 : Int32) (m_Bl_4 : Nat → Int32) (m_ma_5 : Int64) (m_mb_6 : Int64) (m_mc_7 : Int64) (res : Int32 × (Nat → Int32) × Int64 × Int64 × Int64) (H : Heap) (locs : List Loc) (ls : Array Slot) (Q : State → Prop), f_m_measure_L12 F md mw mfo mpr Bf Bm Bk Bn x1 n12 w2_1 w3_2 m_mli_3 m_Bl_4 m_ma_5 m_mb_6 m_mc_7 = some res → va_P (dC, dI) vwCl [(qh, .inr (3, [.int mco, .long md, .long mw, .int mfo, .ref qf, .ref qm, .ref qk, .int mmy, .ref qn, .ref qo, .ref qi, .ref qx, .int mpr, .int mgn, .ref qg, .int m_mli_3, .ref ql, .long m_ma_5, .long m_mb_6, .long m_mc_7])), (qf, .inl (uf, 40960, .inl Bf)), (qm, .inl (um, 40960, .inl Bm)), (qk, .inl (uk, 40960, .inl Bk)), (qn, .inl (un, 4096, .inl Bn)), (qo, .inl (uo, 4096, .inl Bo)), (ql, .inl (ul, 4096, .inl m_Bl_4))] H → va_D A [(qh, .inr (3, [.int mco, .long md, .long mw, .int mfo, .ref qf, .ref qm, .ref qk, .int mmy, .ref qn, .ref qo, .ref qi, .ref qx, .int mpr, .int mgn, .ref qg, .int m_mli_3, .ref ql, .long m_ma_5, .long m_mb_6, .long m_mc_7])), (qf, .inl (uf, 40960, .inl Bf)), (qm, .inl (um, 40960, .inl Bm)), (qk, .inl (uk, 40960, .inl Bk)), (qn, .inl (un, 4096, .inl Bn)), (qo, .inl (uo, 4096, .inl Bo)), (ql, .inl (ul, 4096, .inl m_Bl_4))] → va_S A s.heap H locs → lv_has ls 5 [(0, .ref qh), (1, .int x1), (2, .int w2_1), (3, .int w3_2)] → (∀ (y_mli_15 : Int32) (y_Bl_16 : Nat → Int32) (y_ma_17 : Int64) (y_mb_18 : Int64) (y_mc_19 : Int64) (H : Heap) (locs : List Loc) (ls : Array Slot), (y_mli_15, y_Bl_16, y_ma_17, y_mb_18, y_mc_19) = res → va_P (dC, dI) vwCl [(qh, .inr (3, [.int mco, .long md, .long mw, .int mfo, .ref qf, .ref qm, .ref qk, .int mmy, .ref qn, .ref qo, .ref qi, .ref qx, .int mpr, .int mgn, .ref qg, .int y_mli_15, .ref ql, .long y_ma_17, .long y_mb_18, .long y_mc_19])), (qf, .inl (uf, 40960, .inl Bf)), (qm, .inl (um, 40960, .inl Bm)), (qk, .inl (uk, 40960, .inl Bk)), (qn, .inl (un, 4096, .inl Bn)), (qo, .inl (uo, 4096, .inl Bo)), (ql, .inl (ul, 4096, .inl y_Bl_16))] H → va_D A [(qh, .inr (3, [.int mco, .long md, .long mw, .int mfo, .ref qf, .ref qm, .ref qk, .int mmy, .ref qn, .ref qo, .ref qi, .ref qx, .int mpr, .int mgn, .ref qg, .int y_mli_15, .ref ql, .long y_ma_17, .long y_mb_18, .long y_mc_19])), (qf, .inl (uf, 40960, .inl Bf)), (qm, .inl (um, 40960, .inl Bm)), (qk, .inl (uk, 40960, .inl Bk)), (qn, .inl (un, 4096, .inl Bn)), (qo, .inl (uo, 4096, .inl Bo)), (ql, .inl (ul, 4096, .inl y_Bl_16))] → va_S A s.heap H locs → lv_has ls 5 [(0, .ref qh)] → W p l e ((headSpec wsX3_measure ({ frames := 4, cells := 0, slots := 0, locals := 110 })).room) s m ([.ref qh, .int x1] : List Value).toArray below meth c H locs 0 0 Q (F0 m 60 ls [])) → W p l e ((headSpec wsX3_measure ({ frames := 4, cells := 0, slots := 0, locals := 110 })).room) s m ([.ref qh, .int x1] : List Value).toArray below meth c H locs 0 0 Q (F0 m 12 ls []) := by
    intro n12
    induction n12 with
    | zero => intro w2_1 w3_2 m_mli_3 m_Bl_4 m_ma_5 m_mb_6 m_mc_7 res H locs ls Q hf; simp [f_m_measure_L12] at hf
    | succ n12 ih12 =>
      intro w2_1 w3_2 m_mli_3 m_Bl_4 m_ma_5 m_mb_6 m_mc_7 res H locs ls Q hf hP hD hS hl k12_0
      rw [f_m_measure_L12] at hf
      refine lv_iload_n hx hb dX3_measure_12 rfl (lv_at hl 3 rfl) ?_
      refine lv_if_eq (tgt := 60) hx hb dX3_measure_13 (by decide) (fun c_13 => ?_) (fun c_13 => ?_)
      · have hf := ok_t c_13 hf
        exact k12_0 m_mli_3 m_Bl_4 m_ma_5 m_mb_6 m_mc_7 _ _ _ (Option.some.inj hf) (hP.sub [0, 1, 2, 3, 4, 5, 6] rfl) (hD.sub [0, 1, 2, 3, 4, 5, 6] (by decide) rfl) hS (lv_sub hl [0] rfl)
      · have hf := ok_f c_13 hf
        refine lv_aload_n hx hb dX3_measure_16 rfl (lv_at hl 0 rfl) ?_
        refine lv_iload_n hx hb dX3_measure_17 rfl (lv_at hl 2 rfl) ?_
        refine lv_iload_n hx hb dX3_measure_18 rfl (lv_at hl 1 rfl) ?_
        obtain ⟨xc19, hc19, hf⟩ := ok_b hf
        have hPc := hP.sub (ws' := [(qh, .inr (3, [.int mco, .long md, .long mw, .int mfo, .ref qf, .ref qm, .ref qk, .int mmy, .ref qn, .ref qo, .ref qi, .ref qx, .int mpr, .int mgn, .ref qg, .int m_mli_3, .ref ql, .long m_ma_5, .long m_mb_6, .long m_mc_7])), (qf, .inl (uf, 40960, .inl Bf)), (qm, .inl (um, 40960, .inl Bm)), (qk, .inl (uk, 40960, .inl Bk)), (qn, .inl (un, 4096, .inl Bn))]) [0, 1, 2, 3, 4] rfl
        have hDc := hD.sub (ws' := [(qh, .inr (3, [.int mco, .long md, .long mw, .int mfo, .ref qf, .ref qm, .ref qk, .int mmy, .ref qn, .ref qo, .ref qi, .ref qx, .int mpr, .int mgn, .ref qg, .int m_mli_3, .ref ql, .long m_ma_5, .long m_mb_6, .long m_mc_7])), (qf, .inl (uf, 40960, .inl Bf)), (qm, .inl (um, 40960, .inl Bm)), (qk, .inl (uk, 40960, .inl Bk)), (qn, .inl (un, 4096, .inl Bn))]) [0, 1, 2, 3, 4] (by decide) rfl
        have hKc := hK.sub (tys' := [(uf, .int), (um, .int), (uk, .int), (un, .int)]) [0, 1, 2, 3] rfl
        have hFc := va_free (wc := [(qh, .inr (3, [.int mco, .long md, .long mw, .int mfo, .ref qf, .ref qm, .ref qk, .int mmy, .ref qn, .ref qo, .ref qi, .ref qx, .int mpr, .int mgn, .ref qg, .int m_mli_3, .ref ql, .long m_ma_5, .long m_mb_6, .long m_mc_7])), (qf, .inl (uf, 40960, .inl Bf)), (qm, .inl (um, 40960, .inl Bm)), (qk, .inl (uk, 40960, .inl Bk)), (qn, .inl (un, 4096, .inl Bn))]) hD hS hA [0, 1, 2, 3, 4] rfl
        refine va_calli (va_runV (As := [.int w2_1, .int x1]) (rest := []) ⟨hx, hb, hml, hown, hts⟩ (c_m_times l dC dI qh mco md mw mfo qf qm qk mmy qn qo qi qx mpr mgn qg m_mli_3 ql m_ma_5 m_mb_6 m_mc_7 uf Bf um Bm uk Bk un Bn w2_1 x1 H.size F xc19 hc19) (cwV 2 hts (gwV kw_487 kw_489 ks_36 kw_5 kw_490) rfl rfl rfl (by decide +kernel) ⟨Nat.le_of_ble_eq_true rfl, Nat.le_of_ble_eq_true rfl⟩) ⟨fun a U g mk q => by obtain ⟨q0, q1, qP, qK, qD⟩ := q; exact ⟨q0, q1, qP, va_K.moved (u := U) (U := U.calling g mk a) (Vm.Alike.refl U.vm) qK, qD⟩, va_recv hKc hPc (ci := 3) (q0 := 0) rfl rfl, fun U hU hW => ⟨rfl, by rw [hU], by rw [hU]; exact hPc, va_K.moved hW.alike hKc, hDc.weaken (fun _ _ _ _ => trivial)⟩⟩ rfl rfl hl.1 rfl (lv_room (Nat.le_of_ble_eq_true rfl)) dX3_measure_19 ⟨Nat.zero_le _, Nat.zero_le _⟩) hS (fun q _ h => hFc q h) hFc (fun r_8 u t H1 locs ht hvm hw hB hz1 hk1 hS => ?_)
        obtain ⟨u_ma_9, u_mb_10, u_mc_11⟩ := u
        obtain ⟨hP1, hK1, hD1⟩ := hB
        rw [ht] at hP1
        subst hw
        obtain ⟨hP, hD⟩ := va_join (wr := [(qo, .inl (uo, 4096, .inl Bo)), (ql, .inl (ul, 4096, .inl m_Bl_4))]) (w1 := [(qh, .inr (3, [.int mco, .long md, .long mw, .int mfo, .ref qf, .ref qm, .ref qk, .int mmy, .ref qn, .ref qo, .ref qi, .ref qx, .int mpr, .int mgn, .ref qg, .int m_mli_3, .ref ql, .long u_ma_9, .long u_mb_10, .long u_mc_11])), (qf, .inl (uf, 40960, .inl Bf)), (qm, .inl (um, 40960, .inl Bm)), (qk, .inl (uk, 40960, .inl Bk)), (qn, .inl (un, 4096, .inl Bn))]) hP hD [0, 1, 2, 3, 4] [5, 6] rfl rfl (by decide) (by decide) hk1 hFc hP1 hD1
        generalize H1 = H at hP hS ⊢
        have hP : va_P (dC, dI) vwCl [(qo, .inl (uo, 4096, .inl Bo)), (ql, .inl (ul, 4096, .inl m_Bl_4)), (qh, .inr (3, [.int mco, .long md, .long mw, .int mfo, .ref qf, .ref qm, .ref qk, .int mmy, .ref qn, .ref qo, .ref qi, .ref qx, .int mpr, .int mgn, .ref qg, .int m_mli_3, .ref ql, .long u_ma_9, .long u_mb_10, .long u_mc_11])), (qf, .inl (uf, 40960, .inl Bf)), (qm, .inl (um, 40960, .inl Bm)), (qk, .inl (uk, 40960, .inl Bk)), (qn, .inl (un, 4096, .inl Bn))] H := hP
        have hD : va_D A [(qo, .inl (uo, 4096, .inl Bo)), (ql, .inl (ul, 4096, .inl m_Bl_4)), (qh, .inr (3, [.int mco, .long md, .long mw, .int mfo, .ref qf, .ref qm, .ref qk, .int mmy, .ref qn, .ref qo, .ref qi, .ref qx, .int mpr, .int mgn, .ref qg, .int m_mli_3, .ref ql, .long u_ma_9, .long u_mb_10, .long u_mc_11])), (qf, .inl (uf, 40960, .inl Bf)), (qm, .inl (um, 40960, .inl Bm)), (qk, .inl (uk, 40960, .inl Bk)), (qn, .inl (un, 4096, .inl Bn))] := hD
        refine lv_istore_n (lv' := [(2, .int r_8), (0, .ref qh), (1, .int x1), (3, .int w3_2)]) hx hb dX3_measure_22 rfl hl (by decide) rfl (fun ls hl => ?_)
        refine lv_aload_n hx hb dX3_measure_23 rfl (lv_at hl 1 rfl) ?_
        refine va_get (D := (dC, dI)) (ci := 3) (v := .ref ql) (C := "ClassGroupModel") (T := TX3) (N := 20) hx hb hts (fun w h => List.mem_cons_of_mem _ (iwX3 w h)) hown hK hP 2 rfl rfl 16 (by decide) (hts _ (List.mem_cons_of_mem _ kw_523)) (fun _ h9 => h9) rfl dX3_measure_24 ?_
        refine lv_aload_n hx hb dX3_measure_27 rfl (lv_at hl 1 rfl) ?_
        refine va_get (D := (dC, dI)) (ci := 3) (v := .int m_mli_3) (C := "ClassGroupModel") (T := TX3) (N := 20) hx hb hts (fun w h => List.mem_cons_of_mem _ (iwX3 w h)) hown hK hP 2 rfl rfl 15 (by decide) (hts _ (List.mem_cons_of_mem _ kw_522)) (fun _ h9 => h9) rfl dX3_measure_28 ?_
        refine lv_iload_n hx hb dX3_measure_31 rfl (lv_at hl 0 rfl) ?_
        obtain ⟨g_32, hf⟩ := ok_g hf
        refine va_iast hx hb hK hP hD hS 1 5 rfl rfl g_32 dX3_measure_32 (fun H locs hP hD hS => ?_)
        have hP : va_P (dC, dI) vwCl [(qo, .inl (uo, 4096, .inl Bo)), (ql, .inl (ul, 4096, .inl (upd m_Bl_4 (m_mli_3).toNatClampNeg r_8))), (qh, .inr (3, [.int mco, .long md, .long mw, .int mfo, .ref qf, .ref qm, .ref qk, .int mmy, .ref qn, .ref qo, .ref qi, .ref qx, .int mpr, .int mgn, .ref qg, .int m_mli_3, .ref ql, .long u_ma_9, .long u_mb_10, .long u_mc_11])), (qf, .inl (uf, 40960, .inl Bf)), (qm, .inl (um, 40960, .inl Bm)), (qk, .inl (uk, 40960, .inl Bk)), (qn, .inl (un, 4096, .inl Bn))] H := hP
        have hD : va_D A [(qo, .inl (uo, 4096, .inl Bo)), (ql, .inl (ul, 4096, .inl (upd m_Bl_4 (m_mli_3).toNatClampNeg r_8))), (qh, .inr (3, [.int mco, .long md, .long mw, .int mfo, .ref qf, .ref qm, .ref qk, .int mmy, .ref qn, .ref qo, .ref qi, .ref qx, .int mpr, .int mgn, .ref qg, .int m_mli_3, .ref ql, .long u_ma_9, .long u_mb_10, .long u_mc_11])), (qf, .inl (uf, 40960, .inl Bf)), (qm, .inl (um, 40960, .inl Bm)), (qk, .inl (uk, 40960, .inl Bk)), (qn, .inl (un, 4096, .inl Bn))] := hD
        obtain ⟨A_12, eA_12⟩ : ∃ y : Nat → Int32, y = (upd m_Bl_4 (m_mli_3).toNatClampNeg r_8) := ⟨_, rfl⟩
        rw [← eA_12] at hP hD
        replace hf := bnd_ok eA_12 hf
        refine lv_aload_n hx hb dX3_measure_33 rfl (lv_at hl 1 rfl) ?_
        refine lv_dup hx hb dX3_measure_34 rfl ?_
        refine va_get (D := (dC, dI)) (ci := 3) (v := .int m_mli_3) (C := "ClassGroupModel") (T := TX3) (N := 20) hx hb hts (fun w h => List.mem_cons_of_mem _ (iwX3 w h)) hown hK hP 2 rfl rfl 15 (by decide) (hts _ (List.mem_cons_of_mem _ kw_522)) (fun _ h9 => h9) rfl dX3_measure_35 ?_
        refine lv_iconst (v := 1) hx hb dX3_measure_38 (by decide) ?_
        refine lv_iadd hx hb dX3_measure_39 ?_
        refine lv_topi (fun f_listed_13 ef_listed_13 => ?_)
        replace hf := bnd_ok ef_listed_13 hf
        refine va_put (D := (dC, dI)) (ci := 3) (v := .int f_listed_13) (ty := .int) (C := "ClassGroupModel") (T := TX3) (N := 20) hx hb hts (fun w h => List.mem_cons_of_mem _ (iwX3 w h)) tyX3 tyokX3 nmX3 hown hK hP hD hS 2 rfl rfl 15 (by decide) (hts _ (List.mem_cons_of_mem _ kw_522)) (fun _ h9 => h9) rfl (by decide +kernel) rfl rfl (Nat.le_of_ble_eq_true rfl) dX3_measure_40 (fun H locs hP hD hS => ?_)
        have hP : va_P (dC, dI) vwCl [(qo, .inl (uo, 4096, .inl Bo)), (ql, .inl (ul, 4096, .inl A_12)), (qh, .inr (3, [.int mco, .long md, .long mw, .int mfo, .ref qf, .ref qm, .ref qk, .int mmy, .ref qn, .ref qo, .ref qi, .ref qx, .int mpr, .int mgn, .ref qg, .int f_listed_13, .ref ql, .long u_ma_9, .long u_mb_10, .long u_mc_11])), (qf, .inl (uf, 40960, .inl Bf)), (qm, .inl (um, 40960, .inl Bm)), (qk, .inl (uk, 40960, .inl Bk)), (qn, .inl (un, 4096, .inl Bn))] H := hP
        have hD : va_D A [(qo, .inl (uo, 4096, .inl Bo)), (ql, .inl (ul, 4096, .inl A_12)), (qh, .inr (3, [.int mco, .long md, .long mw, .int mfo, .ref qf, .ref qm, .ref qk, .int mmy, .ref qn, .ref qo, .ref qi, .ref qx, .int mpr, .int mgn, .ref qg, .int f_listed_13, .ref ql, .long u_ma_9, .long u_mb_10, .long u_mc_11])), (qf, .inl (uf, 40960, .inl Bf)), (qm, .inl (um, 40960, .inl Bm)), (qk, .inl (uk, 40960, .inl Bk)), (qn, .inl (un, 4096, .inl Bn))] := hD
        refine lv_iload_n hx hb dX3_measure_43 rfl (lv_at hl 0 rfl) ?_
        refine lv_aload_n hx hb dX3_measure_44 rfl (lv_at hl 1 rfl) ?_
        refine va_get (D := (dC, dI)) (ci := 3) (v := .int mpr) (C := "ClassGroupModel") (T := TX3) (N := 20) hx hb hts (fun w h => List.mem_cons_of_mem _ (iwX3 w h)) hown hK hP 2 rfl rfl 12 (by decide) (hts _ (List.mem_cons_of_mem _ kw_519)) (fun _ h9 => h9) rfl dX3_measure_45 ?_
        obtain ⟨kJ56, ekJ56, hf⟩ := bnd_ex hf
        have hJ56 : ∀ (t_14 : Int32) (H : Heap) (locs : List Loc) (ls : Array Slot), kJ56 t_14 = some res → va_P (dC, dI) vwCl [(qh, .inr (3, [.int mco, .long md, .long mw, .int mfo, .ref qf, .ref qm, .ref qk, .int mmy, .ref qn, .ref qo, .ref qi, .ref qx, .int mpr, .int mgn, .ref qg, .int f_listed_13, .ref ql, .long u_ma_9, .long u_mb_10, .long u_mc_11])), (qf, .inl (uf, 40960, .inl Bf)), (qm, .inl (um, 40960, .inl Bm)), (qk, .inl (uk, 40960, .inl Bk)), (qn, .inl (un, 4096, .inl Bn)), (qo, .inl (uo, 4096, .inl Bo)), (ql, .inl (ul, 4096, .inl A_12))] H → va_D A [(qh, .inr (3, [.int mco, .long md, .long mw, .int mfo, .ref qf, .ref qm, .ref qk, .int mmy, .ref qn, .ref qo, .ref qi, .ref qx, .int mpr, .int mgn, .ref qg, .int f_listed_13, .ref ql, .long u_ma_9, .long u_mb_10, .long u_mc_11])), (qf, .inl (uf, 40960, .inl Bf)), (qm, .inl (um, 40960, .inl Bm)), (qk, .inl (uk, 40960, .inl Bk)), (qn, .inl (un, 4096, .inl Bn)), (qo, .inl (uo, 4096, .inl Bo)), (ql, .inl (ul, 4096, .inl A_12))] → va_S A s.heap H locs → lv_has ls 5 [(0, .ref qh), (1, .int x1), (2, .int r_8)] → W p l e ((headSpec wsX3_measure ({ frames := 4, cells := 0, slots := 0, locals := 110 })).room) s m ([.ref qh, .int x1] : List Value).toArray below meth c H locs 0 0 Q (F0 m 56 ls [.int t_14]) := by
          intro t_14 H locs ls hf hP hD hS hl
          rw [ekJ56] at hf
          refine lv_istore_n (lv' := [(3, .int t_14), (0, .ref qh), (1, .int x1), (2, .int r_8)]) hx hb dX3_measure_56 rfl hl (by decide) rfl (fun ls hl => ?_)
          refine lv_goto (tgt := 12) hx hb dX3_measure_57 (by decide) ?_
          exact ih12 r_8 t_14 f_listed_13 A_12 u_ma_9 u_mb_10 u_mc_11 _ _ _ _ _ hf (hP.sub [0, 1, 2, 3, 4, 5, 6] rfl) (hD.sub [0, 1, 2, 3, 4, 5, 6] (by decide) rfl) hS (lv_sub hl [1, 2, 3, 0] rfl) k12_0
        refine lv_icmp_eq (tgt := 55) hx hb dX3_measure_48 (by decide) (fun c_48 => ?_) (fun c_48 => ?_)
        · have hf := ok_t c_48 hf
          refine lv_iconst (v := 0) hx hb dX3_measure_55 (by decide) ?_
          exact hJ56 0 _ _ _ hf (hP.sub [2, 3, 4, 5, 6, 0, 1] rfl) (hD.sub [2, 3, 4, 5, 6, 0, 1] (by decide) rfl) hS (lv_sub hl [1, 2, 0] rfl)
        · have hf := ok_f c_48 hf
          refine lv_iconst (v := 1) hx hb dX3_measure_51 (by decide) ?_
          refine lv_goto (tgt := 56) hx hb dX3_measure_52 (by decide) ?_
          exact hJ56 1 _ _ _ hf (hP.sub [2, 3, 4, 5, 6, 0, 1] rfl) (hD.sub [2, 3, 4, 5, 6, 0, 1] (by decide) rfl) hS (lv_sub hl [1, 2, 0] rfl)
  obtain ⟨res12, hL12_r, hf⟩ := ok_b hf
  refine hL12 F mpr 1 0 Bl ma mb mc res12 _ _ _ _ hL12_r (hP.sub [0, 1, 2, 3, 4, 5, 6] rfl) (hD.sub [0, 1, 2, 3, 4, 5, 6] (by decide) rfl) hS (lv_sub hl [2, 3, 1, 0] rfl) (fun y_mli_15 y_Bl_16 y_ma_17 y_mb_18 y_mc_19 H locs ls hres hP hD hS hl => ?_)
  subst hres
  refine lv_iconst (v := 0) hx hb dX3_measure_60 (by decide) ?_
  refine lv_istore (lv' := [(4, .int 0), (0, .ref qh)]) hx hb dX3_measure_61 hl (by decide) rfl (fun ls hl => ?_)
  have hL63 : ∀ (n63 : Nat) (w4_20 : Int32) (m_Bo_21 : Nat → Int32) (res : (Nat → Int32)) (H : Heap) (locs : List Loc) (ls : Array Slot) (Q : State → Prop), f_m_measure_L63 F y_mli_15 y_Bl_16 n63 w4_20 m_Bo_21 = some res → va_P (dC, dI) vwCl [(qh, .inr (3, [.int mco, .long md, .long mw, .int mfo, .ref qf, .ref qm, .ref qk, .int mmy, .ref qn, .ref qo, .ref qi, .ref qx, .int mpr, .int mgn, .ref qg, .int y_mli_15, .ref ql, .long y_ma_17, .long y_mb_18, .long y_mc_19])), (qf, .inl (uf, 40960, .inl Bf)), (qm, .inl (um, 40960, .inl Bm)), (qk, .inl (uk, 40960, .inl Bk)), (qn, .inl (un, 4096, .inl Bn)), (qo, .inl (uo, 4096, .inl m_Bo_21)), (ql, .inl (ul, 4096, .inl y_Bl_16))] H → va_D A [(qh, .inr (3, [.int mco, .long md, .long mw, .int mfo, .ref qf, .ref qm, .ref qk, .int mmy, .ref qn, .ref qo, .ref qi, .ref qx, .int mpr, .int mgn, .ref qg, .int y_mli_15, .ref ql, .long y_ma_17, .long y_mb_18, .long y_mc_19])), (qf, .inl (uf, 40960, .inl Bf)), (qm, .inl (um, 40960, .inl Bm)), (qk, .inl (uk, 40960, .inl Bk)), (qn, .inl (un, 4096, .inl Bn)), (qo, .inl (uo, 4096, .inl m_Bo_21)), (ql, .inl (ul, 4096, .inl y_Bl_16))] → va_S A s.heap H locs → lv_has ls 5 [(0, .ref qh), (4, .int w4_20)] → (∀ (y_Bo_25 : Nat → Int32) (H : Heap) (locs : List Loc) (ls : Array Slot), y_Bo_25 = res → va_P (dC, dI) vwCl [(qh, .inr (3, [.int mco, .long md, .long mw, .int mfo, .ref qf, .ref qm, .ref qk, .int mmy, .ref qn, .ref qo, .ref qi, .ref qx, .int mpr, .int mgn, .ref qg, .int y_mli_15, .ref ql, .long y_ma_17, .long y_mb_18, .long y_mc_19])), (qf, .inl (uf, 40960, .inl Bf)), (qm, .inl (um, 40960, .inl Bm)), (qk, .inl (uk, 40960, .inl Bk)), (qn, .inl (un, 4096, .inl Bn)), (qo, .inl (uo, 4096, .inl y_Bo_25)), (ql, .inl (ul, 4096, .inl y_Bl_16))] H → va_D A [(qh, .inr (3, [.int mco, .long md, .long mw, .int mfo, .ref qf, .ref qm, .ref qk, .int mmy, .ref qn, .ref qo, .ref qi, .ref qx, .int mpr, .int mgn, .ref qg, .int y_mli_15, .ref ql, .long y_ma_17, .long y_mb_18, .long y_mc_19])), (qf, .inl (uf, 40960, .inl Bf)), (qm, .inl (um, 40960, .inl Bm)), (qk, .inl (uk, 40960, .inl Bk)), (qn, .inl (un, 4096, .inl Bn)), (qo, .inl (uo, 4096, .inl y_Bo_25)), (ql, .inl (ul, 4096, .inl y_Bl_16))] → va_S A s.heap H locs → lv_has ls 5 [] → W p l e ((headSpec wsX3_measure ({ frames := 4, cells := 0, slots := 0, locals := 110 })).room) s m ([.ref qh, .int x1] : List Value).toArray below meth c H locs 0 0 Q (F0 m 109 ls [])) → W p l e ((headSpec wsX3_measure ({ frames := 4, cells := 0, slots := 0, locals := 110 })).room) s m ([.ref qh, .int x1] : List Value).toArray below meth c H locs 0 0 Q (F0 m 63 ls []) := by
    intro n63
    induction n63 with
    | zero => intro w4_20 m_Bo_21 res H locs ls Q hf; simp [f_m_measure_L63] at hf
    | succ n63 ih63 =>
      intro w4_20 m_Bo_21 res H locs ls Q hf hP hD hS hl k63_0
      rw [f_m_measure_L63] at hf
      refine lv_iload hx hb dX3_measure_63 (lv_at hl 1 rfl) ?_
      refine lv_aload_n hx hb dX3_measure_65 rfl (lv_at hl 0 rfl) ?_
      refine va_get (D := (dC, dI)) (ci := 3) (v := .int y_mli_15) (C := "ClassGroupModel") (T := TX3) (N := 20) hx hb hts (fun w h => List.mem_cons_of_mem _ (iwX3 w h)) hown hK hP 0 rfl rfl 15 (by decide) (hts _ (List.mem_cons_of_mem _ kw_522)) (fun _ h9 => h9) rfl dX3_measure_66 ?_
      refine lv_icmp_ge (tgt := 109) hx hb dX3_measure_69 (by decide) (fun c_69 => ?_) (fun c_69 => ?_)
      · have hf := ok_t c_69 hf
        exact k63_0 m_Bo_21 _ _ _ (Option.some.inj hf) (hP.sub [0, 1, 2, 3, 4, 5, 6] rfl) (hD.sub [0, 1, 2, 3, 4, 5, 6] (by decide) rfl) hS (lv_sub hl [] rfl)
      · have hf := ok_f c_69 hf
        refine lv_aload_n hx hb dX3_measure_72 rfl (lv_at hl 0 rfl) ?_
        refine va_get (D := (dC, dI)) (ci := 3) (v := .ref qo) (C := "ClassGroupModel") (T := TX3) (N := 20) hx hb hts (fun w h => List.mem_cons_of_mem _ (iwX3 w h)) hown hK hP 0 rfl rfl 9 (by decide) (hts _ (List.mem_cons_of_mem _ kw_516)) (fun _ h9 => h9) rfl dX3_measure_73 ?_
        refine lv_aload_n hx hb dX3_measure_76 rfl (lv_at hl 0 rfl) ?_
        refine va_get (D := (dC, dI)) (ci := 3) (v := .ref ql) (C := "ClassGroupModel") (T := TX3) (N := 20) hx hb hts (fun w h => List.mem_cons_of_mem _ (iwX3 w h)) hown hK hP 0 rfl rfl 16 (by decide) (hts _ (List.mem_cons_of_mem _ kw_523)) (fun _ h9 => h9) rfl dX3_measure_77 ?_
        refine lv_iload hx hb dX3_measure_80 (lv_at hl 1 rfl) ?_
        obtain ⟨g_82, hf⟩ := ok_g hf
        refine va_iald hx hb hK hP 6 5 rfl rfl g_82 dX3_measure_82 ?_
        refine lv_aload_n hx hb dX3_measure_83 rfl (lv_at hl 0 rfl) ?_
        refine va_get (D := (dC, dI)) (ci := 3) (v := .int y_mli_15) (C := "ClassGroupModel") (T := TX3) (N := 20) hx hb hts (fun w h => List.mem_cons_of_mem _ (iwX3 w h)) hown hK hP 0 rfl rfl 15 (by decide) (hts _ (List.mem_cons_of_mem _ kw_522)) (fun _ h9 => h9) rfl dX3_measure_84 ?_
        refine lv_aload_n hx hb dX3_measure_87 rfl (lv_at hl 0 rfl) ?_
        refine va_get (D := (dC, dI)) (ci := 3) (v := .int y_mli_15) (C := "ClassGroupModel") (T := TX3) (N := 20) hx hb hts (fun w h => List.mem_cons_of_mem _ (iwX3 w h)) hown hK hP 0 rfl rfl 15 (by decide) (hts _ (List.mem_cons_of_mem _ kw_522)) (fun _ h9 => h9) rfl dX3_measure_88 ?_
        refine lv_i2l (v := (y_mli_15).toInt64) hx hb dX3_measure_91 rfl ?_
        refine lv_iload hx hb dX3_measure_92 (lv_at hl 1 rfl) ?_
        refine lv_iconst (v := 1) hx hb dX3_measure_94 (by decide) ?_
        refine lv_iadd hx hb dX3_measure_95 ?_
        refine lv_i2l (v := ((w4_20 + 1)).toInt64) hx hb dX3_measure_96 rfl ?_
        obtain ⟨xc97, hc97, hf⟩ := ok_b hf
        have hPc := hP.sub (ws' := []) [] rfl
        have hDc := hD.sub (ws' := []) [] (by decide) rfl
        have hKc := hK.sub (tys' := []) [] rfl
        have hFc := va_free (wc := []) hD hS hA [] rfl
        refine va_calll (va_runS (As := [.long (y_mli_15).toInt64, .long ((w4_20 + 1)).toInt64]) (rest := [.int y_mli_15, .int (y_Bl_16 (w4_20).toNatClampNeg), .ref qo]) ⟨hx, hb, hml, hown, hts⟩ (c_m_common l dC dI ((y_mli_15).toInt64) (((w4_20 + 1)).toInt64) H.size F xc97 hc97) (va_cwS 2 hts (gwS kw_464 kw_465 kw_5 kw_466) rfl rfl rfl (by decide +kernel) ⟨Nat.le_of_ble_eq_true rfl, Nat.le_of_ble_eq_true rfl⟩) ⟨fun a U g mk q => by obtain ⟨q0, q1, qP, qK, qD⟩ := q; exact ⟨q0, q1, qP, va_K.moved (u := U) (U := U.calling g mk a) (Vm.Alike.refl U.vm) qK, qD⟩, fun U hU hW => ⟨rfl, by rw [hU], by rw [hU]; exact hPc, va_K.moved hW.alike hKc, hDc.weaken (fun _ _ _ _ => trivial)⟩⟩ rfl rfl hl.1 rfl (lv_room (Nat.le_of_ble_eq_true rfl)) dX3_measure_97 ⟨Nat.zero_le _, Nat.zero_le _⟩) hS (fun q _ h => hFc q h) hFc (fun r_22 u t H1 locs ht hvm hw hB hz1 hk1 hS => ?_)
        obtain ⟨⟩ := u
        obtain ⟨hP1, hK1, hD1⟩ := hB
        rw [ht] at hP1
        subst hw
        obtain ⟨hP, hD⟩ := va_join (wr := [(qh, .inr (3, [.int mco, .long md, .long mw, .int mfo, .ref qf, .ref qm, .ref qk, .int mmy, .ref qn, .ref qo, .ref qi, .ref qx, .int mpr, .int mgn, .ref qg, .int y_mli_15, .ref ql, .long y_ma_17, .long y_mb_18, .long y_mc_19])), (qf, .inl (uf, 40960, .inl Bf)), (qm, .inl (um, 40960, .inl Bm)), (qk, .inl (uk, 40960, .inl Bk)), (qn, .inl (un, 4096, .inl Bn)), (qo, .inl (uo, 4096, .inl m_Bo_21)), (ql, .inl (ul, 4096, .inl y_Bl_16))]) (w1 := []) hP hD [] [0, 1, 2, 3, 4, 5, 6] rfl rfl (by decide) (by decide) hk1 hFc hP1 hD1
        generalize H1 = H at hP hS ⊢
        have hP : va_P (dC, dI) vwCl [(qh, .inr (3, [.int mco, .long md, .long mw, .int mfo, .ref qf, .ref qm, .ref qk, .int mmy, .ref qn, .ref qo, .ref qi, .ref qx, .int mpr, .int mgn, .ref qg, .int y_mli_15, .ref ql, .long y_ma_17, .long y_mb_18, .long y_mc_19])), (qf, .inl (uf, 40960, .inl Bf)), (qm, .inl (um, 40960, .inl Bm)), (qk, .inl (uk, 40960, .inl Bk)), (qn, .inl (un, 4096, .inl Bn)), (qo, .inl (uo, 4096, .inl m_Bo_21)), (ql, .inl (ul, 4096, .inl y_Bl_16))] H := hP
        have hD : va_D A [(qh, .inr (3, [.int mco, .long md, .long mw, .int mfo, .ref qf, .ref qm, .ref qk, .int mmy, .ref qn, .ref qo, .ref qi, .ref qx, .int mpr, .int mgn, .ref qg, .int y_mli_15, .ref ql, .long y_ma_17, .long y_mb_18, .long y_mc_19])), (qf, .inl (uf, 40960, .inl Bf)), (qm, .inl (um, 40960, .inl Bm)), (qk, .inl (uk, 40960, .inl Bk)), (qn, .inl (un, 4096, .inl Bn)), (qo, .inl (uo, 4096, .inl m_Bo_21)), (ql, .inl (ul, 4096, .inl y_Bl_16))] := hD
        refine lv_l2i (v := (r_22).toInt32) hx hb dX3_measure_100 rfl ?_
        obtain ⟨g_101, hf⟩ := ok_g hf
        refine lv_idiv hx hb dX3_measure_101 g_101 ?_
        obtain ⟨g_102, hf⟩ := ok_g hf
        refine va_iast hx hb hK hP hD hS 5 4 rfl rfl g_102 dX3_measure_102 (fun H locs hP hD hS => ?_)
        have hP : va_P (dC, dI) vwCl [(qh, .inr (3, [.int mco, .long md, .long mw, .int mfo, .ref qf, .ref qm, .ref qk, .int mmy, .ref qn, .ref qo, .ref qi, .ref qx, .int mpr, .int mgn, .ref qg, .int y_mli_15, .ref ql, .long y_ma_17, .long y_mb_18, .long y_mc_19])), (qf, .inl (uf, 40960, .inl Bf)), (qm, .inl (um, 40960, .inl Bm)), (qk, .inl (uk, 40960, .inl Bk)), (qn, .inl (un, 4096, .inl Bn)), (qo, .inl (uo, 4096, .inl (upd m_Bo_21 ((y_Bl_16 (w4_20).toNatClampNeg)).toNatClampNeg (y_mli_15 / (r_22).toInt32)))), (ql, .inl (ul, 4096, .inl y_Bl_16))] H := hP
        have hD : va_D A [(qh, .inr (3, [.int mco, .long md, .long mw, .int mfo, .ref qf, .ref qm, .ref qk, .int mmy, .ref qn, .ref qo, .ref qi, .ref qx, .int mpr, .int mgn, .ref qg, .int y_mli_15, .ref ql, .long y_ma_17, .long y_mb_18, .long y_mc_19])), (qf, .inl (uf, 40960, .inl Bf)), (qm, .inl (um, 40960, .inl Bm)), (qk, .inl (uk, 40960, .inl Bk)), (qn, .inl (un, 4096, .inl Bn)), (qo, .inl (uo, 4096, .inl (upd m_Bo_21 ((y_Bl_16 (w4_20).toNatClampNeg)).toNatClampNeg (y_mli_15 / (r_22).toInt32)))), (ql, .inl (ul, 4096, .inl y_Bl_16))] := hD
        obtain ⟨A_23, eA_23⟩ : ∃ y : Nat → Int32, y = (upd m_Bo_21 ((y_Bl_16 (w4_20).toNatClampNeg)).toNatClampNeg (y_mli_15 / (r_22).toInt32)) := ⟨_, rfl⟩
        rw [← eA_23] at hP hD
        replace hf := bnd_ok eA_23 hf
        obtain ⟨v4_24, ev4_24⟩ : ∃ y : Int32, y = w4_20 + 1 := ⟨_, rfl⟩
        replace hf := bnd_ok ev4_24 hf
        refine lv_iinc (v := v4_24) (lv' := [(4, .int v4_24), (0, .ref qh)]) hx hb dX3_measure_103 hl (k := 1) rfl (by rw [ev4_24]; rfl) (by decide) rfl (fun ls hl => ?_)
        refine lv_goto (tgt := 63) hx hb dX3_measure_106 (by decide) ?_
        exact ih63 v4_24 A_23 _ _ _ _ _ hf (hP.sub [0, 1, 2, 3, 4, 5, 6] rfl) (hD.sub [0, 1, 2, 3, 4, 5, 6] (by decide) rfl) hS (lv_sub hl [1, 0] rfl) k63_0
  obtain ⟨res63, hL63_r, hf⟩ := ok_b hf
  refine hL63 F 0 Bo res63 _ _ _ _ hL63_r (hP.sub [0, 1, 2, 3, 4, 5, 6] rfl) (hD.sub [0, 1, 2, 3, 4, 5, 6] (by decide) rfl) hS (lv_sub hl [1, 0] rfl) (fun y_Bo_25 H locs ls hres hP hD hS hl => ?_)
  subst hres
  have hP9 := hP.sub (ws' := [(qh, .inr (3, [.int mco, .long md, .long mw, .int mfo, .ref qf, .ref qm, .ref qk, .int mmy, .ref qn, .ref qo, .ref qi, .ref qx, .int mpr, .int mgn, .ref qg, .int y_mli_15, .ref ql, .long y_ma_17, .long y_mb_18, .long y_mc_19])), (qf, .inl (uf, 40960, .inl Bf)), (qm, .inl (um, 40960, .inl Bm)), (qk, .inl (uk, 40960, .inl Bk)), (qn, .inl (un, 4096, .inl Bn)), (qo, .inl (uo, 4096, .inl y_Bo_25)), (ql, .inl (ul, 4096, .inl y_Bl_16))]) [0, 1, 2, 3, 4, 5, 6] rfl
  have hD9 := hD.sub (ws' := [(qh, .inr (3, [.int mco, .long md, .long mw, .int mfo, .ref qf, .ref qm, .ref qk, .int mmy, .ref qn, .ref qo, .ref qi, .ref qx, .int mpr, .int mgn, .ref qg, .int y_mli_15, .ref ql, .long y_ma_17, .long y_mb_18, .long y_mc_19])), (qf, .inl (uf, 40960, .inl Bf)), (qm, .inl (um, 40960, .inl Bm)), (qk, .inl (uk, 40960, .inl Bk)), (qn, .inl (un, 4096, .inl Bn)), (qo, .inl (uo, 4096, .inl y_Bo_25)), (ql, .inl (ul, 4096, .inl y_Bl_16))]) [0, 1, 2, 3, 4, 5, 6] (by decide) rfl
  have hK9 := hK.sub (tys' := [(uf, .int), (um, .int), (uk, .int), (un, .int), (uo, .int), (ul, .int)]) [0, 1, 2, 3, 4, 5] rfl
  exact W.vret hx hb hr (fun t ht hW => ⟨⟨(y_mli_15, y_Bo_25, y_Bl_16, y_ma_17, y_mb_18, y_mc_19), rfl, (Option.some.inj hf), by rw [ht]; exact hP9, va_K.moved hW.alike hK9, hD9⟩, hS.F ht⟩) hS.2.2 dX3_measure_109

def f_m_isApart_L2 (F : Nat) (md : Int64) (mw : Int64) (mfo : Int32) (mpr : Int32) (Bf : Nat → Int32) (Bm : Nat → Int32) (Bk : Nat → Int32) (Bn : Nat → Int32) (Bi : Nat → Int32) (x1 : Int32) : Nat → Int32 → Int64 → Int64 → Int64 → Option (Int32 × Int64 × Int64 × Int64)
  | 0, _, _, _, _ => none
  | n2 + 1, w2_1, m_ma_2, m_mb_3, m_mc_4 => (if w2_1 = mpr then some (w2_1, m_ma_2, m_mb_3, m_mc_4) else (if vin w2_1 4096 then (if (Bi (w2_1).toNatClampNeg) = 0 then Option.bind (f_m_times F md mw mfo Bf Bm Bk Bn w2_1 x1) (fun (r_5, u_ma_6, u_mb_7, u_mc_8) => f_m_isApart_L2 F md mw mfo mpr Bf Bm Bk Bn Bi x1 n2 r_5 u_ma_6 u_mb_7 u_mc_8) else some (w2_1, m_ma_2, m_mb_3, m_mc_4)) else none))
def f_m_isApart (F : Nat) (md : Int64) (mw : Int64) (mfo : Int32) (Bf : Nat → Int32) (Bm : Nat → Int32) (Bk : Nat → Int32) (Bn : Nat → Int32) (mpr : Int32) (Bi : Nat → Int32) (ma : Int64) (mb : Int64) (mc : Int64) (x1 : Int32) : Option (Int32 × Int64 × Int64 × Int64) := Option.bind (f_m_isApart_L2 F md mw mfo mpr Bf Bm Bk Bn Bi x1 F x1 ma mb mc) (fun (x2_9, y_ma_10, y_mb_11, y_mc_12) => (if x2_9 = mpr then (if x1 = mpr then some (0, y_ma_10, y_mb_11, y_mc_12) else some (1, y_ma_10, y_mb_11, y_mc_12)) else some (0, y_ma_10, y_mb_11, y_mc_12)))
set_option maxHeartbeats 4000000 in
set_option maxRecDepth 100000 in
theorem c_m_isApart (l : Launch) (dC : Nat → ClassId) (dI : Nat → Nat → Nat) (qh : Nat) (mco : Int32) (md : Int64) (mw : Int64) (mfo : Int32) (qf : Nat) (qm : Nat) (qk : Nat) (mmy : Int32) (qn : Nat) (qo : Nat) (qi : Nat) (qx : Nat) (mpr : Int32) (mgn : Int32) (qg : Nat) (mli : Int32) (ql : Nat) (ma : Int64) (mb : Int64) (mc : Int64) (uf : ClassId) (Bf : Nat → Int32) (um : ClassId) (Bm : Nat → Int32) (uk : ClassId) (Bk : Nat → Int32) (un : ClassId) (Bn : Nat → Int32) (ui : ClassId) (Bi : Nat → Int32) (x1 : Int32) (sz : Nat) (F : Nat) (out : Int32 × Int64 × Int64 × Int64) (hf : f_m_isApart F md mw mfo Bf Bm Bk Bn mpr Bi ma mb mc x1 = some out) : Met l yX3_isApart wsX3_isApart ({ frames := 4, cells := 0, slots := 0, locals := 110 }) (va_Pc [.ref qh, .int x1] (fun U => U.heap.size = sz ∧ va_P (dC, dI) vwCl [(qh, .inr (3, [.int mco, .long md, .long mw, .int mfo, .ref qf, .ref qm, .ref qk, .int mmy, .ref qn, .ref qo, .ref qi, .ref qx, .int mpr, .int mgn, .ref qg, .int mli, .ref ql, .long ma, .long mb, .long mc])), (qf, .inl (uf, 40960, .inl Bf)), (qm, .inl (um, 40960, .inl Bm)), (qk, .inl (uk, 40960, .inl Bk)), (qn, .inl (un, 4096, .inl Bn)), (qi, .inl (ui, 4096, .inl Bi))] U.heap ∧ va_K (dC, dI) vwCl [(uf, .int), (um, .int), (uk, .int), (un, .int), (ui, .boolean)] U ∧ va_D (fun _ => True) [(qh, .inr (3, [.int mco, .long md, .long mw, .int mfo, .ref qf, .ref qm, .ref qk, .int mmy, .ref qn, .ref qo, .ref qi, .ref qx, .int mpr, .int mgn, .ref qg, .int mli, .ref ql, .long ma, .long mb, .long mc])), (qf, .inl (uf, 40960, .inl Bf)), (qm, .inl (um, 40960, .inl Bm)), (qk, .inl (uk, 40960, .inl Bk)), (qn, .inl (un, 4096, .inl Bn)), (qi, .inl (ui, 4096, .inl Bi))])) (va_Qi (fun (r : Int32) (u : Int64 × Int64 × Int64) => (r, u) = out) (fun (u : Int64 × Int64 × Int64) t => match u with | (u_ma, u_mb, u_mc) => va_P (dC, dI) vwCl [(qh, .inr (3, [.int mco, .long md, .long mw, .int mfo, .ref qf, .ref qm, .ref qk, .int mmy, .ref qn, .ref qo, .ref qi, .ref qx, .int mpr, .int mgn, .ref qg, .int mli, .ref ql, .long u_ma, .long u_mb, .long u_mc])), (qf, .inl (uf, 40960, .inl Bf)), (qm, .inl (um, 40960, .inl Bm)), (qk, .inl (uk, 40960, .inl Bk)), (qn, .inl (un, 4096, .inl Bn)), (qi, .inl (ui, 4096, .inl Bi))] t.heap ∧ va_K (dC, dI) vwCl [(uf, .int), (um, .int), (uk, .int), (un, .int), (ui, .boolean)] t ∧ va_D (va_A [(qh, .inr (3, [.int mco, .long md, .long mw, .int mfo, .ref qf, .ref qm, .ref qk, .int mmy, .ref qn, .ref qo, .ref qi, .ref qx, .int mpr, .int mgn, .ref qg, .int mli, .ref ql, .long ma, .long mb, .long mc])), (qf, .inl (uf, 40960, .inl Bf)), (qm, .inl (um, 40960, .inl Bm)), (qk, .inl (uk, 40960, .inl Bk)), (qn, .inl (un, 4096, .inl Bn)), (qi, .inl (ui, 4096, .inl Bi))] sz) [(qh, .inr (3, [.int mco, .long md, .long mw, .int mfo, .ref qf, .ref qm, .ref qk, .int mmy, .ref qn, .ref qo, .ref qi, .ref qx, .int mpr, .int mgn, .ref qg, .int mli, .ref ql, .long u_ma, .long u_mb, .long u_mc])), (qf, .inl (uf, 40960, .inl Bf)), (qm, .inl (um, 40960, .inl Bm)), (qk, .inl (uk, 40960, .inl Bk)), (qn, .inl (un, 4096, .inl Bn)), (qi, .inl (ui, 4096, .inl Bi))]) (va_A [(qh, .inr (3, [.int mco, .long md, .long mw, .int mfo, .ref qf, .ref qm, .ref qk, .int mmy, .ref qn, .ref qo, .ref qi, .ref qx, .int mpr, .int mgn, .ref qg, .int mli, .ref ql, .long ma, .long mb, .long mc])), (qf, .inl (uf, 40960, .inl Bf)), (qm, .inl (um, 40960, .inl Bm)), (qk, .inl (uk, 40960, .inl Bk)), (qn, .inl (un, 4096, .inl Bn)), (qi, .inl (ui, 4096, .inl Bi))] sz)) 0 0 (va_A [(qh, .inr (3, [.int mco, .long md, .long mw, .int mfo, .ref qf, .ref qm, .ref qk, .int mmy, .ref qn, .ref qo, .ref qi, .ref qx, .int mpr, .int mgn, .ref qg, .int mli, .ref ql, .long ma, .long mb, .long mc])), (qf, .inl (uf, 40960, .inl Bf)), (qm, .inl (um, 40960, .inl Bm)), (qk, .inl (uk, 40960, .inl Bk)), (qn, .inl (un, 4096, .inl Bn)), (qi, .inl (ui, 4096, .inl Bi))] sz) := by
  refine Met.ofW (cc := cX3_isApart) (maxL := 3) (ret := (some .boolean)) (by decide +kernel) rfl ?_
  intro p e s m args below meth c s₁ B hml hv
  obtain ⟨rfl, hsz, hP, hK, hD0⟩ := hv
  have hx := B.exec
  have hb := B.bytes
  have hr := B.returns
  have hts := atoms_spec (ws := wsX3_isApart) B.pre
  have hown : s.vm.findClass "ClassGroupModel" = some m.cls := findClass_of_methodNamed B.named
  have hlocks := B.notSynchronized
  subst hsz
  have hD := hD0.self (sz := s.heap.size)
  generalize hAe : va_A [(qh, .inr (3, [.int mco, .long md, .long mw, .int mfo, .ref qf, .ref qm, .ref qk, .int mmy, .ref qn, .ref qo, .ref qi, .ref qx, .int mpr, .int mgn, .ref qg, .int mli, .ref ql, .long ma, .long mb, .long mc])), (qf, .inl (uf, 40960, .inl Bf)), (qm, .inl (um, 40960, .inl Bm)), (qk, .inl (uk, 40960, .inl Bk)), (qn, .inl (un, 4096, .inl Bn)), (qi, .inl (ui, 4096, .inl Bi))] s.heap.size = A at hD ⊢
  have hA : ∀ q : Nat, s.heap.size ≤ q → A q := fun q h => by rw [← hAe]; exact Or.inr h
  have hS : va_S A s.heap s.heap [] := va_S.rf
  have hl := lv_entry ([.ref qh, .int x1]) (n := 3) (Nat.le_of_ble_eq_true rfl)
  rw [lg_entry_eq]
  generalize (lg_sl ([.ref qh, .int x1]) ++ List.replicate (3 - (lg_sl ([.ref qh, .int x1])).length) Slot.unset).toArray = ls at hl ⊢
  have hl : lv_has ls 3 [(0, .ref qh), (1, .int x1)] := hl
  unfold f_m_isApart at hf
  refine lv_iload_n hx hb dX3_isApart_0 rfl (lv_at hl 1 rfl) ?_
  refine lv_istore_n (lv' := [(2, .int x1), (0, .ref qh), (1, .int x1)]) hx hb dX3_isApart_1 rfl hl (by decide) rfl (fun ls hl => ?_)
  have hL2 : ∀ (n2 : Nat) (w2_1 : Int32) (m_ma_2 : Int64) (m_mb_3 : Int64) (m_mc_4 : Int64) (res : Int32 × Int64 × Int64 × Int64) (H : Heap) (locs : List Loc) (ls : Array Slot) (Q : State → Prop), f_m_isApart_L2 F md mw mfo mpr Bf Bm Bk Bn Bi x1 n2 w2_1 m_ma_2 m_mb_3 m_mc_4 = some res → va_P (dC, dI) vwCl [(qh, .inr (3, [.int mco, .long md, .long mw, .int mfo, .ref qf, .ref qm, .ref qk, .int mmy, .ref qn, .ref qo, .ref qi, .ref qx, .int mpr, .int mgn, .ref qg, .int mli, .ref ql, .long m_ma_2, .long m_mb_3, .long m_mc_4])), (qf, .inl (uf, 40960, .inl Bf)), (qm, .inl (um, 40960, .inl Bm)), (qk, .inl (uk, 40960, .inl Bk)), (qn, .inl (un, 4096, .inl Bn)), (qi, .inl (ui, 4096, .inl Bi))] H → va_D A [(qh, .inr (3, [.int mco, .long md, .long mw, .int mfo, .ref qf, .ref qm, .ref qk, .int mmy, .ref qn, .ref qo, .ref qi, .ref qx, .int mpr, .int mgn, .ref qg, .int mli, .ref ql, .long m_ma_2, .long m_mb_3, .long m_mc_4])), (qf, .inl (uf, 40960, .inl Bf)), (qm, .inl (um, 40960, .inl Bm)), (qk, .inl (uk, 40960, .inl Bk)), (qn, .inl (un, 4096, .inl Bn)), (qi, .inl (ui, 4096, .inl Bi))] → va_S A s.heap H locs → lv_has ls 3 [(0, .ref qh), (1, .int x1), (2, .int w2_1)] → (∀ (x2_9 : Int32) (y_ma_10 : Int64) (y_mb_11 : Int64) (y_mc_12 : Int64) (H : Heap) (locs : List Loc) (ls : Array Slot), (x2_9, y_ma_10, y_mb_11, y_mc_12) = res → va_P (dC, dI) vwCl [(qh, .inr (3, [.int mco, .long md, .long mw, .int mfo, .ref qf, .ref qm, .ref qk, .int mmy, .ref qn, .ref qo, .ref qi, .ref qx, .int mpr, .int mgn, .ref qg, .int mli, .ref ql, .long y_ma_10, .long y_mb_11, .long y_mc_12])), (qf, .inl (uf, 40960, .inl Bf)), (qm, .inl (um, 40960, .inl Bm)), (qk, .inl (uk, 40960, .inl Bk)), (qn, .inl (un, 4096, .inl Bn)), (qi, .inl (ui, 4096, .inl Bi))] H → va_D A [(qh, .inr (3, [.int mco, .long md, .long mw, .int mfo, .ref qf, .ref qm, .ref qk, .int mmy, .ref qn, .ref qo, .ref qi, .ref qx, .int mpr, .int mgn, .ref qg, .int mli, .ref ql, .long y_ma_10, .long y_mb_11, .long y_mc_12])), (qf, .inl (uf, 40960, .inl Bf)), (qm, .inl (um, 40960, .inl Bm)), (qk, .inl (uk, 40960, .inl Bk)), (qn, .inl (un, 4096, .inl Bn)), (qi, .inl (ui, 4096, .inl Bi))] → va_S A s.heap H locs → lv_has ls 3 [(0, .ref qh), (1, .int x1), (2, .int x2_9)] → W p l e ((headSpec wsX3_isApart ({ frames := 4, cells := 0, slots := 0, locals := 110 })).room) s m ([.ref qh, .int x1] : List Value).toArray below meth c H locs 0 0 Q (F0 m 29 ls [])) → W p l e ((headSpec wsX3_isApart ({ frames := 4, cells := 0, slots := 0, locals := 110 })).room) s m ([.ref qh, .int x1] : List Value).toArray below meth c H locs 0 0 Q (F0 m 2 ls []) := by
    intro n2
    induction n2 with
    | zero => intro w2_1 m_ma_2 m_mb_3 m_mc_4 res H locs ls Q hf; simp [f_m_isApart_L2] at hf
    | succ n2 ih2 =>
      intro w2_1 m_ma_2 m_mb_3 m_mc_4 res H locs ls Q hf hP hD hS hl k2_0
      rw [f_m_isApart_L2] at hf
      refine lv_iload_n hx hb dX3_isApart_2 rfl (lv_at hl 2 rfl) ?_
      refine lv_aload_n hx hb dX3_isApart_3 rfl (lv_at hl 0 rfl) ?_
      refine va_get (D := (dC, dI)) (ci := 3) (v := .int mpr) (C := "ClassGroupModel") (T := TX3) (N := 20) hx hb hts (fun w h => List.mem_cons_of_mem _ (iwX3 w h)) hown hK hP 0 rfl rfl 12 (by decide) (hts _ (List.mem_cons_of_mem _ kw_519)) (fun _ h9 => h9) rfl dX3_isApart_4 ?_
      refine lv_icmp_eq (tgt := 29) hx hb dX3_isApart_7 (by decide) (fun c_7 => ?_) (fun c_7 => ?_)
      · have hf := ok_t c_7 hf
        exact k2_0 w2_1 m_ma_2 m_mb_3 m_mc_4 _ _ _ (Option.some.inj hf) (hP.sub [0, 1, 2, 3, 4, 5] rfl) (hD.sub [0, 1, 2, 3, 4, 5] (by decide) rfl) hS (lv_sub hl [0, 1, 2] rfl)
      · have hf := ok_f c_7 hf
        refine lv_aload_n hx hb dX3_isApart_10 rfl (lv_at hl 0 rfl) ?_
        refine va_get (D := (dC, dI)) (ci := 3) (v := .ref qi) (C := "ClassGroupModel") (T := TX3) (N := 20) hx hb hts (fun w h => List.mem_cons_of_mem _ (iwX3 w h)) hown hK hP 0 rfl rfl 10 (by decide) (hts _ (List.mem_cons_of_mem _ kw_517)) (fun _ h9 => h9) rfl dX3_isApart_11 ?_
        refine lv_iload_n hx hb dX3_isApart_14 rfl (lv_at hl 2 rfl) ?_
        obtain ⟨g_15, hf⟩ := ok_g hf
        refine va_zald hx hb hK hP 5 4 rfl rfl g_15 dX3_isApart_15 ?_
        refine lv_if_ne (tgt := 29) hx hb dX3_isApart_16 (by decide) (fun c_16 => ?_) (fun c_16 => ?_)
        · have hf := ok_f c_16 hf
          exact k2_0 w2_1 m_ma_2 m_mb_3 m_mc_4 _ _ _ (Option.some.inj hf) (hP.sub [0, 1, 2, 3, 4, 5] rfl) (hD.sub [0, 1, 2, 3, 4, 5] (by decide) rfl) hS (lv_sub hl [0, 1, 2] rfl)
        · have hf := ok_t c_16 hf
          refine lv_aload_n hx hb dX3_isApart_19 rfl (lv_at hl 0 rfl) ?_
          refine lv_iload_n hx hb dX3_isApart_20 rfl (lv_at hl 2 rfl) ?_
          refine lv_iload_n hx hb dX3_isApart_21 rfl (lv_at hl 1 rfl) ?_
          obtain ⟨xc22, hc22, hf⟩ := ok_b hf
          have hPc := hP.sub (ws' := [(qh, .inr (3, [.int mco, .long md, .long mw, .int mfo, .ref qf, .ref qm, .ref qk, .int mmy, .ref qn, .ref qo, .ref qi, .ref qx, .int mpr, .int mgn, .ref qg, .int mli, .ref ql, .long m_ma_2, .long m_mb_3, .long m_mc_4])), (qf, .inl (uf, 40960, .inl Bf)), (qm, .inl (um, 40960, .inl Bm)), (qk, .inl (uk, 40960, .inl Bk)), (qn, .inl (un, 4096, .inl Bn))]) [0, 1, 2, 3, 4] rfl
          have hDc := hD.sub (ws' := [(qh, .inr (3, [.int mco, .long md, .long mw, .int mfo, .ref qf, .ref qm, .ref qk, .int mmy, .ref qn, .ref qo, .ref qi, .ref qx, .int mpr, .int mgn, .ref qg, .int mli, .ref ql, .long m_ma_2, .long m_mb_3, .long m_mc_4])), (qf, .inl (uf, 40960, .inl Bf)), (qm, .inl (um, 40960, .inl Bm)), (qk, .inl (uk, 40960, .inl Bk)), (qn, .inl (un, 4096, .inl Bn))]) [0, 1, 2, 3, 4] (by decide) rfl
          have hKc := hK.sub (tys' := [(uf, .int), (um, .int), (uk, .int), (un, .int)]) [0, 1, 2, 3] rfl
          have hFc := va_free (wc := [(qh, .inr (3, [.int mco, .long md, .long mw, .int mfo, .ref qf, .ref qm, .ref qk, .int mmy, .ref qn, .ref qo, .ref qi, .ref qx, .int mpr, .int mgn, .ref qg, .int mli, .ref ql, .long m_ma_2, .long m_mb_3, .long m_mc_4])), (qf, .inl (uf, 40960, .inl Bf)), (qm, .inl (um, 40960, .inl Bm)), (qk, .inl (uk, 40960, .inl Bk)), (qn, .inl (un, 4096, .inl Bn))]) hD hS hA [0, 1, 2, 3, 4] rfl
          refine va_calli (va_runV (As := [.int w2_1, .int x1]) (rest := []) ⟨hx, hb, hml, hown, hts⟩ (c_m_times l dC dI qh mco md mw mfo qf qm qk mmy qn qo qi qx mpr mgn qg mli ql m_ma_2 m_mb_3 m_mc_4 uf Bf um Bm uk Bk un Bn w2_1 x1 H.size F xc22 hc22) (cwV 2 hts (gwV kw_487 kw_489 ks_36 kw_5 kw_490) rfl rfl rfl (by decide +kernel) ⟨Nat.le_of_ble_eq_true rfl, Nat.le_of_ble_eq_true rfl⟩) ⟨fun a U g mk q => by obtain ⟨q0, q1, qP, qK, qD⟩ := q; exact ⟨q0, q1, qP, va_K.moved (u := U) (U := U.calling g mk a) (Vm.Alike.refl U.vm) qK, qD⟩, va_recv hKc hPc (ci := 3) (q0 := 0) rfl rfl, fun U hU hW => ⟨rfl, by rw [hU], by rw [hU]; exact hPc, va_K.moved hW.alike hKc, hDc.weaken (fun _ _ _ _ => trivial)⟩⟩ rfl rfl hl.1 rfl (lv_room (Nat.le_of_ble_eq_true rfl)) dX3_isApart_22 ⟨Nat.zero_le _, Nat.zero_le _⟩) hS (fun q _ h => hFc q h) hFc (fun r_5 u t H1 locs ht hvm hw hB hz1 hk1 hS => ?_)
          obtain ⟨u_ma_6, u_mb_7, u_mc_8⟩ := u
          obtain ⟨hP1, hK1, hD1⟩ := hB
          rw [ht] at hP1
          subst hw
          obtain ⟨hP, hD⟩ := va_join (wr := [(qi, .inl (ui, 4096, .inl Bi))]) (w1 := [(qh, .inr (3, [.int mco, .long md, .long mw, .int mfo, .ref qf, .ref qm, .ref qk, .int mmy, .ref qn, .ref qo, .ref qi, .ref qx, .int mpr, .int mgn, .ref qg, .int mli, .ref ql, .long u_ma_6, .long u_mb_7, .long u_mc_8])), (qf, .inl (uf, 40960, .inl Bf)), (qm, .inl (um, 40960, .inl Bm)), (qk, .inl (uk, 40960, .inl Bk)), (qn, .inl (un, 4096, .inl Bn))]) hP hD [0, 1, 2, 3, 4] [5] rfl rfl (by decide) (by decide) hk1 hFc hP1 hD1
          generalize H1 = H at hP hS ⊢
          have hP : va_P (dC, dI) vwCl [(qi, .inl (ui, 4096, .inl Bi)), (qh, .inr (3, [.int mco, .long md, .long mw, .int mfo, .ref qf, .ref qm, .ref qk, .int mmy, .ref qn, .ref qo, .ref qi, .ref qx, .int mpr, .int mgn, .ref qg, .int mli, .ref ql, .long u_ma_6, .long u_mb_7, .long u_mc_8])), (qf, .inl (uf, 40960, .inl Bf)), (qm, .inl (um, 40960, .inl Bm)), (qk, .inl (uk, 40960, .inl Bk)), (qn, .inl (un, 4096, .inl Bn))] H := hP
          have hD : va_D A [(qi, .inl (ui, 4096, .inl Bi)), (qh, .inr (3, [.int mco, .long md, .long mw, .int mfo, .ref qf, .ref qm, .ref qk, .int mmy, .ref qn, .ref qo, .ref qi, .ref qx, .int mpr, .int mgn, .ref qg, .int mli, .ref ql, .long u_ma_6, .long u_mb_7, .long u_mc_8])), (qf, .inl (uf, 40960, .inl Bf)), (qm, .inl (um, 40960, .inl Bm)), (qk, .inl (uk, 40960, .inl Bk)), (qn, .inl (un, 4096, .inl Bn))] := hD
          refine lv_istore_n (lv' := [(2, .int r_5), (0, .ref qh), (1, .int x1)]) hx hb dX3_isApart_25 rfl hl (by decide) rfl (fun ls hl => ?_)
          refine lv_goto (tgt := 2) hx hb dX3_isApart_26 (by decide) ?_
          exact ih2 r_5 u_ma_6 u_mb_7 u_mc_8 _ _ _ _ _ hf (hP.sub [1, 2, 3, 4, 5, 0] rfl) (hD.sub [1, 2, 3, 4, 5, 0] (by decide) rfl) hS (lv_sub hl [1, 2, 0] rfl) k2_0
  obtain ⟨res2, hL2_r, hf⟩ := ok_b hf
  refine hL2 F x1 ma mb mc res2 _ _ _ _ hL2_r (hP.sub [0, 1, 2, 3, 4, 5] rfl) (hD.sub [0, 1, 2, 3, 4, 5] (by decide) rfl) hS (lv_sub hl [1, 2, 0] rfl) (fun x2_9 y_ma_10 y_mb_11 y_mc_12 H locs ls hres hP hD hS hl => ?_)
  subst hres
  refine lv_iload_n hx hb dX3_isApart_29 rfl (lv_at hl 2 rfl) ?_
  refine lv_aload_n hx hb dX3_isApart_30 rfl (lv_at hl 0 rfl) ?_
  refine va_get (D := (dC, dI)) (ci := 3) (v := .int mpr) (C := "ClassGroupModel") (T := TX3) (N := 20) hx hb hts (fun w h => List.mem_cons_of_mem _ (iwX3 w h)) hown hK hP 0 rfl rfl 12 (by decide) (hts _ (List.mem_cons_of_mem _ kw_519)) (fun _ h9 => h9) rfl dX3_isApart_31 ?_
  refine lv_icmp_ne (tgt := 49) hx hb dX3_isApart_34 (by decide) (fun c_34 => ?_) (fun c_34 => ?_)
  · have hf := ok_f c_34 hf
    refine lv_iconst (v := 0) hx hb dX3_isApart_49 (by decide) ?_
    have hP9 := hP.sub (ws' := [(qh, .inr (3, [.int mco, .long md, .long mw, .int mfo, .ref qf, .ref qm, .ref qk, .int mmy, .ref qn, .ref qo, .ref qi, .ref qx, .int mpr, .int mgn, .ref qg, .int mli, .ref ql, .long y_ma_10, .long y_mb_11, .long y_mc_12])), (qf, .inl (uf, 40960, .inl Bf)), (qm, .inl (um, 40960, .inl Bm)), (qk, .inl (uk, 40960, .inl Bk)), (qn, .inl (un, 4096, .inl Bn)), (qi, .inl (ui, 4096, .inl Bi))]) [0, 1, 2, 3, 4, 5] rfl
    have hD9 := hD.sub (ws' := [(qh, .inr (3, [.int mco, .long md, .long mw, .int mfo, .ref qf, .ref qm, .ref qk, .int mmy, .ref qn, .ref qo, .ref qi, .ref qx, .int mpr, .int mgn, .ref qg, .int mli, .ref ql, .long y_ma_10, .long y_mb_11, .long y_mc_12])), (qf, .inl (uf, 40960, .inl Bf)), (qm, .inl (um, 40960, .inl Bm)), (qk, .inl (uk, 40960, .inl Bk)), (qn, .inl (un, 4096, .inl Bn)), (qi, .inl (ui, 4096, .inl Bi))]) [0, 1, 2, 3, 4, 5] (by decide) rfl
    have hK9 := hK.sub (tys' := [(uf, .int), (um, .int), (uk, .int), (un, .int), (ui, .boolean)]) [0, 1, 2, 3, 4] rfl
    exact W.zret (v := 0) (ty := .boolean) hx hb hr rfl (fun t ht hW => ⟨⟨0, (y_ma_10, y_mb_11, y_mc_12), rfl, (Option.some.inj hf), by rw [ht]; exact hP9, va_K.moved hW.alike hK9, hD9⟩, hS.F ht⟩) hS.2.2 dX3_isApart_50
  · have hf := ok_t c_34 hf
    refine lv_iload_n hx hb dX3_isApart_37 rfl (lv_at hl 1 rfl) ?_
    refine lv_aload_n hx hb dX3_isApart_38 rfl (lv_at hl 0 rfl) ?_
    refine va_get (D := (dC, dI)) (ci := 3) (v := .int mpr) (C := "ClassGroupModel") (T := TX3) (N := 20) hx hb hts (fun w h => List.mem_cons_of_mem _ (iwX3 w h)) hown hK hP 0 rfl rfl 12 (by decide) (hts _ (List.mem_cons_of_mem _ kw_519)) (fun _ h9 => h9) rfl dX3_isApart_39 ?_
    refine lv_icmp_eq (tgt := 49) hx hb dX3_isApart_42 (by decide) (fun c_42 => ?_) (fun c_42 => ?_)
    · have hf := ok_t c_42 hf
      refine lv_iconst (v := 0) hx hb dX3_isApart_49 (by decide) ?_
      have hP9 := hP.sub (ws' := [(qh, .inr (3, [.int mco, .long md, .long mw, .int mfo, .ref qf, .ref qm, .ref qk, .int mmy, .ref qn, .ref qo, .ref qi, .ref qx, .int mpr, .int mgn, .ref qg, .int mli, .ref ql, .long y_ma_10, .long y_mb_11, .long y_mc_12])), (qf, .inl (uf, 40960, .inl Bf)), (qm, .inl (um, 40960, .inl Bm)), (qk, .inl (uk, 40960, .inl Bk)), (qn, .inl (un, 4096, .inl Bn)), (qi, .inl (ui, 4096, .inl Bi))]) [0, 1, 2, 3, 4, 5] rfl
      have hD9 := hD.sub (ws' := [(qh, .inr (3, [.int mco, .long md, .long mw, .int mfo, .ref qf, .ref qm, .ref qk, .int mmy, .ref qn, .ref qo, .ref qi, .ref qx, .int mpr, .int mgn, .ref qg, .int mli, .ref ql, .long y_ma_10, .long y_mb_11, .long y_mc_12])), (qf, .inl (uf, 40960, .inl Bf)), (qm, .inl (um, 40960, .inl Bm)), (qk, .inl (uk, 40960, .inl Bk)), (qn, .inl (un, 4096, .inl Bn)), (qi, .inl (ui, 4096, .inl Bi))]) [0, 1, 2, 3, 4, 5] (by decide) rfl
      have hK9 := hK.sub (tys' := [(uf, .int), (um, .int), (uk, .int), (un, .int), (ui, .boolean)]) [0, 1, 2, 3, 4] rfl
      exact W.zret (v := 0) (ty := .boolean) hx hb hr rfl (fun t ht hW => ⟨⟨0, (y_ma_10, y_mb_11, y_mc_12), rfl, (Option.some.inj hf), by rw [ht]; exact hP9, va_K.moved hW.alike hK9, hD9⟩, hS.F ht⟩) hS.2.2 dX3_isApart_50
    · have hf := ok_f c_42 hf
      refine lv_iconst (v := 1) hx hb dX3_isApart_45 (by decide) ?_
      refine lv_goto (tgt := 50) hx hb dX3_isApart_46 (by decide) ?_
      have hP9 := hP.sub (ws' := [(qh, .inr (3, [.int mco, .long md, .long mw, .int mfo, .ref qf, .ref qm, .ref qk, .int mmy, .ref qn, .ref qo, .ref qi, .ref qx, .int mpr, .int mgn, .ref qg, .int mli, .ref ql, .long y_ma_10, .long y_mb_11, .long y_mc_12])), (qf, .inl (uf, 40960, .inl Bf)), (qm, .inl (um, 40960, .inl Bm)), (qk, .inl (uk, 40960, .inl Bk)), (qn, .inl (un, 4096, .inl Bn)), (qi, .inl (ui, 4096, .inl Bi))]) [0, 1, 2, 3, 4, 5] rfl
      have hD9 := hD.sub (ws' := [(qh, .inr (3, [.int mco, .long md, .long mw, .int mfo, .ref qf, .ref qm, .ref qk, .int mmy, .ref qn, .ref qo, .ref qi, .ref qx, .int mpr, .int mgn, .ref qg, .int mli, .ref ql, .long y_ma_10, .long y_mb_11, .long y_mc_12])), (qf, .inl (uf, 40960, .inl Bf)), (qm, .inl (um, 40960, .inl Bm)), (qk, .inl (uk, 40960, .inl Bk)), (qn, .inl (un, 4096, .inl Bn)), (qi, .inl (ui, 4096, .inl Bi))]) [0, 1, 2, 3, 4, 5] (by decide) rfl
      have hK9 := hK.sub (tys' := [(uf, .int), (um, .int), (uk, .int), (un, .int), (ui, .boolean)]) [0, 1, 2, 3, 4] rfl
      exact W.zret (v := 1) (ty := .boolean) hx hb hr rfl (fun t ht hW => ⟨⟨1, (y_ma_10, y_mb_11, y_mc_12), rfl, (Option.some.inj hf), by rw [ht]; exact hP9, va_K.moved hW.alike hK9, hD9⟩, hS.F ht⟩) hS.2.2 dX3_isApart_50

