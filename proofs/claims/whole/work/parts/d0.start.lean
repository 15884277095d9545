/-! THE LAW, from its entry -/
theorem ex_ref {t : Term} {nm : String} {args : Array Value} {s : State} (h : (Cond.exactly t nm).before args s = true) : ∃ a, t.eval args s none [] s = some (.ref a) := by
  cases hv : t.eval args s none [] s with
  | none => simp [Cond.before, Cond.holds, Cond.value, hv] at h
  | some v => cases v with
    | ref a => exact ⟨a, rfl⟩
    | _ => cases hc : s.vm.findClass nm <;> simp [Cond.before, Cond.holds, Cond.value, hv, hc] at h
theorem is_ref {t : Term} {args : Array Value} {s : State} (h : (Cond.isRef t).before args s = true) : ∃ v, t.eval args s none [] s = some v ∧ v.isRef = true := by
  cases hv : t.eval args s none [] s with
  | none => simp [Cond.before, Cond.holds, Cond.value, hv] at h
  | some v => exact ⟨v, rfl, by cases v <;> simp_all [Cond.before, Cond.holds, Cond.value, Value.isRef]⟩
/-- both objects, new: D is -4 -/
theorem both_new (F : Nat) (hF : 10000000 ≤ F) : ∃ (dd rt cl rf pr gk go gc : Int32) (An : Nat → Int32) (a1 b1 c1 a2 b2 c2 zg z1 z2 : Int64) (Ag As Ao Ac Ae : Nat → Int32) (mco : Int32) (md mw : Int64) (mfo mmy mpr mgn mli : Int32) (ma mb mc : Int64) (Bf Bm Bk Bn Bo Bi Bx Bg Bl : Nat → Int32), f_init F = some (dd, rt, cl, rf, pr, gk, go, gc, An, a1, b1, c1, a2, b2, c2, zg, z1, z2, Ag, As, Ao, Ac, Ae) ∧ f_m_init F = some (mco, md, mw, mfo, mmy, mpr, mgn, mli, ma, mb, mc, Bf, Bm, Bk, Bn, Bo, Bi, Bx, Bg, Bl) ∧ INV dd rt cl rf pr gk go gc An Ag As Ao Ac md mw mfo mmy mpr mgn Bf Bm Bk Bn Bo Bx Bg := by
  have hT : takeable (-4) := by
    refine ⟨by decide, by decide, by decide, fun x hx => ?_⟩
    have h0 : 0 ≤ x * x := by
      rcases Int.le_total 0 x with q | q
      · exact Int.mul_nonneg q q
      · exact Int.mul_nonneg_of_nonpos_of_nonpos q q
    omega
  obtain ⟨R, cl, rf, pr, N, An, x, y, z, mw, mgn, ml, Bf, Bm, Bk, Bn, Bo, Bi, Bx, Bg, Bl, x', y', z', h1, h2, h3⟩ := both_take F hF hT (fun _ => 0) 0 0 0 (fun _ => 0) (fun _ => 0) (fun _ => 0) (fun _ => 0) (fun _ => 0) (fun _ => 0) (fun _ => 0) (fun _ => 0) (fun _ => 0) 0 0 0 0
  have h1' : f_become F (fun _ => 0) 0 0 0 (-4) = _ := h1
  have h2' : f_m_begin F (fun _ => 0) (fun _ => 0) (fun _ => 0) (fun _ => 0) (fun _ => 0) (fun _ => 0) (fun _ => 0) (fun _ => 0) (fun _ => 0) 0 0 0 0 (-4) = _ := h2
  refine ⟨_, _, _, _, _, _, 0, 0, An, x, y, z, 0, 0, 0, 0, 0, 0, fun _ => 0, fun _ => 0, fun _ => 0, fun _ => 0, fun _ => 0, 0, _, mw, _, _, _, mgn, ml, x', y', z', Bf, Bm, Bk, Bn, Bo, Bi, Bx, Bg, Bl, ?_, ?_, h3 0 0 (fun _ => 0) (fun _ => 0) (fun _ => 0) (fun _ => 0)⟩
  · unfold f_init
    simp only [bnd, f_Form_init, f_Bz_init, Option.bind_some]
    rw [h1']; rfl
  · unfold f_m_init
    simp only [bnd]
    rw [h2']; rfl
set_option maxHeartbeats 40000000 in
set_option maxRecDepth 100000 in
theorem whole_start {p : Program} {e : Env} {s : State} {m : MethodId} {below : List Frame} {meth : Method} {c : Code} (l : Launch) (hlt : l.stackTraces = false) {b L : Nat} {xs : Nat → Int32} (hL : L ≤ 2048) (C0 : lw_At p s m meth c b L xs) : W p l e room_1 s m #[Value.ref b] below meth c s.heap [] 0 0 (lw_Z below #[Value.ref b] s) (entryFrame m ([Value.ref b] : List Value).toArray 7) := by
  obtain ⟨hx, hb, hr, hml, hown0, htsT, hX, hbl, hlocks, hgv⟩ := id C0
  have hown : s.vm.findClass "ClassGroupLaw" = some m.cls := hown0
  have hgs := flat_of_before _ hgv
  have hts : ∀ w ∈ Cond.initialized "ClassGroupLaw" :: wT, w.before #[Value.ref b] s = true := fun w hw => by
    rcases List.mem_cons.mp hw with h | h
    · rw [h]; exact htsT _ (List.mem_filter.mp kw_0).1
    · exact htsT _ (List.mem_filter.mp h).1
  obtain ⟨A, hAd⟩ : ∃ A : Nat → Prop, A = fun q => s.heap.size ≤ q := ⟨_, rfl⟩
  have hA : ∀ q : Nat, s.heap.size ≤ q → A q := fun q h => by rw [hAd]; exact h
  have hA1 : ∀ q : Nat, A q → s.heap.size ≤ q := fun q h => by rw [hAd] at h; exact h
  have hbA : ¬ A b := fun h => by have := hA1 b h; omega
  have hAl : ∀ a : Nat, a < s.heap.size → ¬ A a := fun a h h2 => by have := hA1 a h2; omega
  have hini := htsT (.initialized Bundle.tN) (by decide +kernel)
  obtain ⟨u1, hu1, hu1r⟩ := is_ref (hgs (.isRef (.static Bundle.tN "UNASSIGNED_STACK" Bundle.steD)) (by decide +kernel))
  obtain ⟨u2, hu2, hu2r⟩ := is_ref (hgs (.isRef (.static Bundle.tN "SUPPRESSED_SENTINEL" Bundle.listD)) (by decide +kernel))
  have hZ1 : tw_Z Bundle.tN "UNASSIGNED_STACK" Bundle.steD u1 A s s.heap := tw_Zof (htsT (.laysStatic Bundle.tN "UNASSIGNED_STACK" Bundle.steD) (by decide +kernel)) hini hu1 hAl
  have hZ2 : tw_Z Bundle.tN "SUPPRESSED_SENTINEL" Bundle.listD u2 A s s.heap := tw_Zof (htsT (.laysStatic Bundle.tN "SUPPRESSED_SENTINEL" Bundle.listD) (by decide +kernel)) hini hu2 hAl
  obtain ⟨q55, hq55⟩ := ex_ref (hgs (.exactly (.string "ClassGroup" 55) "java/lang/String") (by decide +kernel))
  have hKt55 : tw_K "ClassGroup" 55 "this discriminant can't be taken" q55 u1 u2 A s s.heap := ⟨vk_R.of (htsT (.stringRef "ClassGroup" 55 "this discriminant can't be taken") (by decide +kernel)) hq55, ⟨hZ1, hu1r⟩, hZ2, hu2r⟩
  obtain ⟨q87, hq87⟩ := ex_ref (hgs (.exactly (.string "ClassGroup" 87) "java/lang/String") (by decide +kernel))
  have hKt87 : tw_K "ClassGroup" 87 "no such class or coefficient" q87 u1 u2 A s s.heap := ⟨vk_R.of (htsT (.stringRef "ClassGroup" 87 "no such class or coefficient") (by decide +kernel)) hq87, ⟨hZ1, hu1r⟩, hZ2, hu2r⟩
  obtain ⟨q108, hq108⟩ := ex_ref (hgs (.exactly (.string "ClassGroup" 108) "java/lang/String") (by decide +kernel))
  have hKt108 : tw_K "ClassGroup" 108 "no form of this discriminant" q108 u1 u2 A s s.heap := ⟨vk_R.of (htsT (.stringRef "ClassGroup" 108 "no form of this discriminant") (by decide +kernel)) hq108, ⟨hZ1, hu1r⟩, hZ2, hu2r⟩
  obtain ⟨q126, hq126⟩ := ex_ref (hgs (.exactly (.string "ClassGroup" 126) "java/lang/String") (by decide +kernel))
  have hKt126 : tw_K "ClassGroup" 126 "no such class" q126 u1 u2 A s s.heap := ⟨vk_R.of (htsT (.stringRef "ClassGroup" 126 "no such class") (by decide +kernel)) hq126, ⟨hZ1, hu1r⟩, hZ2, hu2r⟩
  obtain ⟨q145, hq145⟩ := ex_ref (hgs (.exactly (.string "ClassGroup" 145) "java/lang/String") (by decide +kernel))
  have hKt145 : tw_K "ClassGroup" 145 "no such generator" q145 u1 u2 A s s.heap := ⟨vk_R.of (htsT (.stringRef "ClassGroup" 145 "no such generator") (by decide +kernel)) hq145, ⟨hZ1, hu1r⟩, hZ2, hu2r⟩
  obtain ⟨q147, hq147⟩ := ex_ref (hgs (.exactly (.string "ClassGroup" 147) "java/lang/String") (by decide +kernel))
  have hKt147 : tw_K "ClassGroup" 147 "no such class or generator" q147 u1 u2 A s s.heap := ⟨vk_R.of (htsT (.stringRef "ClassGroup" 147 "no such class or generator") (by decide +kernel)) hq147, ⟨hZ1, hu1r⟩, hZ2, hu2r⟩
  have hNw0 : va_Nw (.methodLinkNest "ClassGroup" 30 ⟨"ClassGroup$Form", "<init>", "()V"⟩ "ClassGroup") s := va_Nw.of rfl (htsT (.methodLinkNest "ClassGroup" 30 ⟨"ClassGroup$Form", "<init>", "()V"⟩ "ClassGroup") (by decide +kernel))
  have hNw1 : va_Nw (.methodLinkNest "ClassGroup" 40 ⟨"ClassGroup$Bezout", "<init>", "()V"⟩ "ClassGroup") s := va_Nw.of rfl (htsT (.methodLinkNest "ClassGroup" 40 ⟨"ClassGroup$Bezout", "<init>", "()V"⟩ "ClassGroup") (by decide +kernel))
  obtain ⟨k0, n0, hKn0⟩ := u_known (C := "ClassGroup") (T := TX0) (N := 17) (n := 17) hts (fun w h => List.mem_cons_of_mem _ (iwX0 w h)) (hts _ (List.mem_cons_of_mem _ kw_13))
  obtain ⟨k1, n1, hKn1⟩ := u_known (C := "ClassGroup$Form") (T := TX1) (N := 3) (n := 3) hts (fun w h => List.mem_cons_of_mem _ (iwX1 w h)) (hts _ (List.mem_cons_of_mem _ kw_21))
  obtain ⟨k2, n2, hKn2⟩ := u_known (C := "ClassGroup$Bezout") (T := TX2) (N := 3) (n := 3) hts (fun w h => List.mem_cons_of_mem _ (iwX2 w h)) (hts _ (List.mem_cons_of_mem _ kw_41))
  obtain ⟨k3, n3, hKn3⟩ := u_known (C := "ClassGroupModel") (T := TX3) (N := 20) (n := 20) hts (fun w h => List.mem_cons_of_mem _ (iwX3 w h)) (hts _ (List.mem_cons_of_mem _ kw_430))
  obtain ⟨dC, dI, hKc⟩ : ∃ (dC : Nat → ClassId) (dI : Nat → Nat → Nat), ∀ (k : Nat) (q : vw_C), vwCl[k]? = some q → u_Kn s q.1 q.2.1 q.2.2 (dC k) (dI k) := by
    refine ⟨fun k => if k = 0 then k0 else if k = 1 then k1 else if k = 2 then k2 else k3, fun k => if k = 0 then n0 else if k = 1 then n1 else if k = 2 then n2 else n3, ?_⟩
    intro k q hq
    match k, hq with
    | 0, hq => cases hq; exact hKn0
    | 1, hq => cases hq; exact hKn1
    | 2, hq => cases hq; exact hKn2
    | 3, hq => cases hq; exact hKn3
    | k + 4, hq => simp [vwCl] at hq
  have hS : va_S A s.heap s.heap [] := va_S.rf
  have hK : va_K (dC, dI) vwCl [] s := ⟨hKc, fun k q h => by simp at h⟩
  have hP : va_P (dC, dI) vwCl [] s.heap := fun k q h => by simp at h
  have hD : va_D A [] := ⟨fun i j p q h => by simp at h, fun k q h => by simp at h⟩
  have hl := lv_entry ([.ref b]) (n := 7) (Nat.le_of_ble_eq_true rfl)
  rw [lg_entry_eq]
  generalize (lg_sl ([.ref b]) ++ List.replicate (7 - (lg_sl ([.ref b])).length) Slot.unset).toArray = ls at hl ⊢
  have hl : lv_has ls 7 [(0, .ref b)] := hl
  obtain ⟨dd, rt, cl, rf, pr, gk, go, gc, An, a1, b1, c1, a2, b2, c2, zg, z1, z2, Ag, As, Ao, Ac, Ae, mco, md, mw, mfo, mmy, mpr, mgn, mli, ma, mb, mc, Bf, Bm, Bk, Bn, Bo, Bi, Bx, Bg, Bl, hf1, hf2, hI⟩ := both_new 2000000000 (by decide)
  refine va_new (ci := 0) (fs := [.int 0, .int 0, .int 0, .int 0, .int 0, .null, .int 0, .int 0, .int 0, .null, .null, .null, .null, .null, .null, .null, .null]) (C := "ClassGroup") (T := TX0) (N := 17) hx hb hts (fun w h => List.mem_cons_of_mem _ (iwX0 w h)) tyX0 tyokX0 hown (hts _ (List.mem_cons_of_mem _ kw_12)) (hts _ (List.mem_cons_of_mem _ kw_13)) (hts _ (List.mem_cons_of_mem _ kw_1)) hK hP hD hS hA rfl (by decide +kernel) (Nat.le_of_ble_eq_true rfl) (Nat.le_of_ble_eq_true rfl) dL_law_0 (fun ph H hP hD hS => ?_)
  have hP : va_P (dC, dI) vwCl [(ph, .inr (0, [.int 0, .int 0, .int 0, .int 0, .int 0, .null, .int 0, .int 0, .int 0, .null, .null, .null, .null, .null, .null, .null, .null]))] H := hP
  have hD : va_D A [(ph, .inr (0, [.int 0, .int 0, .int 0, .int 0, .int 0, .null, .int 0, .int 0, .int 0, .null, .null, .null, .null, .null, .null, .null, .null]))] := hD
  refine lv_dup hx hb dL_law_3 rfl ?_
  have hPc := hP.sub (ws' := [(ph, .inr (0, [.int 0, .int 0, .int 0, .int 0, .int 0, .null, .int 0, .int 0, .int 0, .null, .null, .null, .null, .null, .null, .null, .null]))]) [0] rfl
  have hDc := hD.sub (ws' := [(ph, .inr (0, [.int 0, .int 0, .int 0, .int 0, .int 0, .null, .int 0, .int 0, .int 0, .null, .null, .null, .null, .null, .null, .null, .null]))]) [0] (by decide) rfl
  have hKc := hK.sub (tys' := []) [] rfl
  have hFc := va_free (wc := [(ph, .inr (0, [.int 0, .int 0, .int 0, .int 0, .int 0, .null, .int 0, .int 0, .int 0, .null, .null, .null, .null, .null, .null, .null, .null]))]) hD hS hA [0] rfl
  refine va_callv (va_runI (As := []) (rest := [.ref ph]) ⟨hx, hb, hml, hown, hts⟩ (c_init l dC dI ph H.size 2000000000 _ hf1) (cwI 0 hts (gwI kw_16) rfl rfl rfl (hts _ (List.mem_cons_of_mem _ kw_1)) (hts _ (List.mem_cons_of_mem _ kw_14)) (hts _ (List.mem_cons_of_mem _ kw_15)) rfl (by decide +kernel) ⟨Nat.le_of_ble_eq_true rfl, Nat.le_of_ble_eq_true rfl⟩) ⟨fun a U g mk q => by obtain ⟨q0, q1, qP, qK, qD, n0, n1⟩ := q; exact ⟨q0, q1, qP, va_K.moved (u := U) (U := U.calling g mk a) (Vm.Alike.refl U.vm) qK, qD, va_Nw.same rfl rfl n0, va_Nw.same rfl rfl n1⟩, fun U hU hW => ⟨rfl, by rw [hU], by rw [hU]; exact hPc, va_K.moved hW.alike hKc, hDc.weaken (fun _ _ _ _ => trivial), hNw0.warmM hW, hNw1.warmM hW⟩⟩ rfl rfl hl.1 rfl (lv_room (Nat.le_of_ble_eq_true rfl)) dL_law_4 ⟨Nat.le_of_ble_eq_true rfl, Nat.le_of_ble_eq_true rfl⟩) hS (fun q _ h => hFc q h) hFc (fun u t H1 locs ht hvm hw hB hz1 hk1 hS => ?_)
  obtain ⟨pn, pg, ps, po, pc, pe, p1, p2, pz, tn, tg, ts, to, tc, te, dd9, rt9, cl9, rf9, pr9, gk9, go9, gc9, An9, a19, b19, c19, a29, b29, c29, zg9, z19, z29, Ag9, As9, Ao9, Ac9, Ae9⟩ := u
  obtain ⟨hP1, hK1, hD1⟩ := hB
  rw [ht] at hP1
  have hK1 := va_K.moved hvm.symm hK1
  cases hw
  obtain ⟨hP, hD⟩ := va_join (wr := []) (w1 := [(ph, .inr (0, [.int dd, .int rt, .int cl, .int rf, .int pr, .ref pn, .int gk, .int go, .int gc, .ref pg, .ref ps, .ref po, .ref pc, .ref pe, .ref p1, .ref p2, .ref pz])), (pn, .inl (tn, 1908, .inl An)), (p1, .inr (1, [.long a1, .long b1, .long c1])), (p2, .inr (1, [.long a2, .long b2, .long c2])), (pz, .inr (2, [.long zg, .long z1, .long z2])), (pg, .inl (tg, 11, .inl Ag)), (ps, .inl (ts, 12, .inl As)), (po, .inl (to, 1908, .inl Ao)), (pc, .inl (tc, 1908, .inl Ac)), (pe, .inl (te, 1908, .inl Ae))]) hP hD [0] [] rfl rfl (by decide) (by decide) hk1 hFc hP1 hD1
  have hK := (hK.sub (tys' := []) [] rfl).app hK1
  generalize H1 = H at hP hS ⊢
  have hP : va_P (dC, dI) vwCl [(ph, .inr (0, [.int dd, .int rt, .int cl, .int rf, .int pr, .ref pn, .int gk, .int go, .int gc, .ref pg, .ref ps, .ref po, .ref pc, .ref pe, .ref p1, .ref p2, .ref pz])), (pn, .inl (tn, 1908, .inl An)), (p1, .inr (1, [.long a1, .long b1, .long c1])), (p2, .inr (1, [.long a2, .long b2, .long c2])), (pz, .inr (2, [.long zg, .long z1, .long z2])), (pg, .inl (tg, 11, .inl Ag)), (ps, .inl (ts, 12, .inl As)), (po, .inl (to, 1908, .inl Ao)), (pc, .inl (tc, 1908, .inl Ac)), (pe, .inl (te, 1908, .inl Ae))] H := hP
  have hD : va_D A [(ph, .inr (0, [.int dd, .int rt, .int cl, .int rf, .int pr, .ref pn, .int gk, .int go, .int gc, .ref pg, .ref ps, .ref po, .ref pc, .ref pe, .ref p1, .ref p2, .ref pz])), (pn, .inl (tn, 1908, .inl An)), (p1, .inr (1, [.long a1, .long b1, .long c1])), (p2, .inr (1, [.long a2, .long b2, .long c2])), (pz, .inr (2, [.long zg, .long z1, .long z2])), (pg, .inl (tg, 11, .inl Ag)), (ps, .inl (ts, 12, .inl As)), (po, .inl (to, 1908, .inl Ao)), (pc, .inl (tc, 1908, .inl Ac)), (pe, .inl (te, 1908, .inl Ae))] := hD
  have hK : va_K (dC, dI) vwCl [(tn, .int), (tg, .int), (ts, .int), (to, .int), (tc, .int), (te, .int)] s := hK
  refine lv_astore_n (lv' := [(1, .ref ph), (0, .ref b)]) hx hb dL_law_7 rfl hl (by decide) rfl (fun ls hl => ?_)
  refine va_new (ci := 3) (fs := [.int 0, .long 0, .long 0, .int 0, .null, .null, .null, .int 0, .null, .null, .null, .null, .int 0, .int 0, .null, .int 0, .null, .long 0, .long 0, .long 0]) (C := "ClassGroupModel") (T := TX3) (N := 20) hx hb hts (fun w h => List.mem_cons_of_mem _ (iwX3 w h)) tyX3 tyokX3 hown (hts _ (List.mem_cons_of_mem _ kw_429)) (hts _ (List.mem_cons_of_mem _ kw_430)) (hts _ (List.mem_cons_of_mem _ kw_5)) hK hP hD hS hA rfl (by decide +kernel) (Nat.le_of_ble_eq_true rfl) (Nat.le_of_ble_eq_true rfl) dL_law_8 (fun qh H hP hD hS => ?_)
  have hP : va_P (dC, dI) vwCl [(ph, .inr (0, [.int dd, .int rt, .int cl, .int rf, .int pr, .ref pn, .int gk, .int go, .int gc, .ref pg, .ref ps, .ref po, .ref pc, .ref pe, .ref p1, .ref p2, .ref pz])), (pn, .inl (tn, 1908, .inl An)), (p1, .inr (1, [.long a1, .long b1, .long c1])), (p2, .inr (1, [.long a2, .long b2, .long c2])), (pz, .inr (2, [.long zg, .long z1, .long z2])), (pg, .inl (tg, 11, .inl Ag)), (ps, .inl (ts, 12, .inl As)), (po, .inl (to, 1908, .inl Ao)), (pc, .inl (tc, 1908, .inl Ac)), (pe, .inl (te, 1908, .inl Ae)), (qh, .inr (3, [.int 0, .long 0, .long 0, .int 0, .null, .null, .null, .int 0, .null, .null, .null, .null, .int 0, .int 0, .null, .int 0, .null, .long 0, .long 0, .long 0]))] H := hP
  have hD : va_D A [(ph, .inr (0, [.int dd, .int rt, .int cl, .int rf, .int pr, .ref pn, .int gk, .int go, .int gc, .ref pg, .ref ps, .ref po, .ref pc, .ref pe, .ref p1, .ref p2, .ref pz])), (pn, .inl (tn, 1908, .inl An)), (p1, .inr (1, [.long a1, .long b1, .long c1])), (p2, .inr (1, [.long a2, .long b2, .long c2])), (pz, .inr (2, [.long zg, .long z1, .long z2])), (pg, .inl (tg, 11, .inl Ag)), (ps, .inl (ts, 12, .inl As)), (po, .inl (to, 1908, .inl Ao)), (pc, .inl (tc, 1908, .inl Ac)), (pe, .inl (te, 1908, .inl Ae)), (qh, .inr (3, [.int 0, .long 0, .long 0, .int 0, .null, .null, .null, .int 0, .null, .null, .null, .null, .int 0, .int 0, .null, .int 0, .null, .long 0, .long 0, .long 0]))] := hD
  refine lv_dup hx hb dL_law_11 rfl ?_
  have hPc := hP.sub (ws' := [(qh, .inr (3, [.int 0, .long 0, .long 0, .int 0, .null, .null, .null, .int 0, .null, .null, .null, .null, .int 0, .int 0, .null, .int 0, .null, .long 0, .long 0, .long 0]))]) [10] rfl
  have hDc := hD.sub (ws' := [(qh, .inr (3, [.int 0, .long 0, .long 0, .int 0, .null, .null, .null, .int 0, .null, .null, .null, .null, .int 0, .int 0, .null, .int 0, .null, .long 0, .long 0, .long 0]))]) [10] (by decide) rfl
  have hKc := hK.sub (tys' := []) [] rfl
  have hFc := va_free (wc := [(qh, .inr (3, [.int 0, .long 0, .long 0, .int 0, .null, .null, .null, .int 0, .null, .null, .null, .null, .int 0, .int 0, .null, .int 0, .null, .long 0, .long 0, .long 0]))]) hD hS hA [10] rfl
  refine va_callv (va_runI (As := []) (rest := [.ref qh]) ⟨hx, hb, hml, hown, hts⟩ (c_m_init l dC dI qh H.size 2000000000 _ hf2) (cwI 0 hts (gwI kw_433) rfl rfl rfl (hts _ (List.mem_cons_of_mem _ kw_5)) (hts _ (List.mem_cons_of_mem _ kw_431)) (hts _ (List.mem_cons_of_mem _ kw_432)) rfl (by decide +kernel) ⟨Nat.le_of_ble_eq_true rfl, Nat.le_of_ble_eq_true rfl⟩) ⟨fun a U g mk q => by obtain ⟨q0, q1, qP, qK, qD⟩ := q; exact ⟨q0, q1, qP, va_K.moved (u := U) (U := U.calling g mk a) (Vm.Alike.refl U.vm) qK, qD⟩, fun U hU hW => ⟨rfl, by rw [hU], by rw [hU]; exact hPc, va_K.moved hW.alike hKc, hDc.weaken (fun _ _ _ _ => trivial)⟩⟩ rfl rfl hl.1 rfl (lv_room (Nat.le_of_ble_eq_true rfl)) dL_law_12 ⟨Nat.le_of_ble_eq_true rfl, Nat.le_of_ble_eq_true rfl⟩) hS (fun q _ h => hFc q h) hFc (fun u t H1 locs ht hvm hw hB hz1 hk1 hS => ?_)
  obtain ⟨qf, qm, qk, qn, qo, qi, qx, qg, ql, uf, um, uk, un, uo, ui, ux, ug, ul, mco9, md9, mw9, mfo9, mmy9, mpr9, mgn9, mli9, ma9, mb9, mc9, Bf9, Bm9, Bk9, Bn9, Bo9, Bi9, Bx9, Bg9, Bl9⟩ := u
  obtain ⟨hP1, hK1, hD1⟩ := hB
  rw [ht] at hP1
  have hK1 := va_K.moved hvm.symm hK1
  cases hw
  obtain ⟨hP, hD⟩ := va_join (wr := [(ph, .inr (0, [.int dd, .int rt, .int cl, .int rf, .int pr, .ref pn, .int gk, .int go, .int gc, .ref pg, .ref ps, .ref po, .ref pc, .ref pe, .ref p1, .ref p2, .ref pz])), (pn, .inl (tn, 1908, .inl An)), (p1, .inr (1, [.long a1, .long b1, .long c1])), (p2, .inr (1, [.long a2, .long b2, .long c2])), (pz, .inr (2, [.long zg, .long z1, .long z2])), (pg, .inl (tg, 11, .inl Ag)), (ps, .inl (ts, 12, .inl As)), (po, .inl (to, 1908, .inl Ao)), (pc, .inl (tc, 1908, .inl Ac)), (pe, .inl (te, 1908, .inl Ae))]) (w1 := [(qh, .inr (3, [.int mco, .long md, .long mw, .int mfo, .ref qf, .ref qm, .ref qk, .int mmy, .ref qn, .ref qo, .ref qi, .ref qx, .int mpr, .int mgn, .ref qg, .int mli, .ref ql, .long ma, .long mb, .long mc])), (qf, .inl (uf, 40960, .inl Bf)), (qm, .inl (um, 40960, .inl Bm)), (qk, .inl (uk, 40960, .inl Bk)), (qn, .inl (un, 4096, .inl Bn)), (qo, .inl (uo, 4096, .inl Bo)), (qi, .inl (ui, 4096, .inl Bi)), (qx, .inl (ux, 32768, .inl Bx)), (qg, .inl (ug, 8, .inl Bg)), (ql, .inl (ul, 4096, .inl Bl))]) hP hD [10] [0, 1, 2, 3, 4, 5, 6, 7, 8, 9] rfl rfl (by decide) (by decide) hk1 hFc hP1 hD1
  have hK := hK.app hK1
  generalize H1 = H at hP hS ⊢
  have hP : va_P (dC, dI) vwCl [(ph, .inr (0, [.int dd, .int rt, .int cl, .int rf, .int pr, .ref pn, .int gk, .int go, .int gc, .ref pg, .ref ps, .ref po, .ref pc, .ref pe, .ref p1, .ref p2, .ref pz])), (pn, .inl (tn, 1908, .inl An)), (p1, .inr (1, [.long a1, .long b1, .long c1])), (p2, .inr (1, [.long a2, .long b2, .long c2])), (pz, .inr (2, [.long zg, .long z1, .long z2])), (pg, .inl (tg, 11, .inl Ag)), (ps, .inl (ts, 12, .inl As)), (po, .inl (to, 1908, .inl Ao)), (pc, .inl (tc, 1908, .inl Ac)), (pe, .inl (te, 1908, .inl Ae)), (qh, .inr (3, [.int mco, .long md, .long mw, .int mfo, .ref qf, .ref qm, .ref qk, .int mmy, .ref qn, .ref qo, .ref qi, .ref qx, .int mpr, .int mgn, .ref qg, .int mli, .ref ql, .long ma, .long mb, .long mc])), (qf, .inl (uf, 40960, .inl Bf)), (qm, .inl (um, 40960, .inl Bm)), (qk, .inl (uk, 40960, .inl Bk)), (qn, .inl (un, 4096, .inl Bn)), (qo, .inl (uo, 4096, .inl Bo)), (qi, .inl (ui, 4096, .inl Bi)), (qx, .inl (ux, 32768, .inl Bx)), (qg, .inl (ug, 8, .inl Bg)), (ql, .inl (ul, 4096, .inl Bl))] H := hP
  have hD : va_D A [(ph, .inr (0, [.int dd, .int rt, .int cl, .int rf, .int pr, .ref pn, .int gk, .int go, .int gc, .ref pg, .ref ps, .ref po, .ref pc, .ref pe, .ref p1, .ref p2, .ref pz])), (pn, .inl (tn, 1908, .inl An)), (p1, .inr (1, [.long a1, .long b1, .long c1])), (p2, .inr (1, [.long a2, .long b2, .long c2])), (pz, .inr (2, [.long zg, .long z1, .long z2])), (pg, .inl (tg, 11, .inl Ag)), (ps, .inl (ts, 12, .inl As)), (po, .inl (to, 1908, .inl Ao)), (pc, .inl (tc, 1908, .inl Ac)), (pe, .inl (te, 1908, .inl Ae)), (qh, .inr (3, [.int mco, .long md, .long mw, .int mfo, .ref qf, .ref qm, .ref qk, .int mmy, .ref qn, .ref qo, .ref qi, .ref qx, .int mpr, .int mgn, .ref qg, .int mli, .ref ql, .long ma, .long mb, .long mc])), (qf, .inl (uf, 40960, .inl Bf)), (qm, .inl (um, 40960, .inl Bm)), (qk, .inl (uk, 40960, .inl Bk)), (qn, .inl (un, 4096, .inl Bn)), (qo, .inl (uo, 4096, .inl Bo)), (qi, .inl (ui, 4096, .inl Bi)), (qx, .inl (ux, 32768, .inl Bx)), (qg, .inl (ug, 8, .inl Bg)), (ql, .inl (ul, 4096, .inl Bl))] := hD
  have hK : va_K (dC, dI) vwCl [(tn, .int), (tg, .int), (ts, .int), (to, .int), (tc, .int), (te, .int), (uf, .int), (um, .int), (uk, .int), (un, .int), (uo, .int), (ui, .boolean), (ux, .int), (ug, .int), (ul, .int)] s := hK
  refine lv_astore_n (lv' := [(2, .ref qh), (1, .ref ph), (0, .ref b)]) hx hb dL_law_15 rfl hl (by decide) rfl (fun ls hl => ?_)
  refine lv_iconst (v := 1) hx hb dL_law_16 (by decide) ?_
  obtain ⟨Lv, eLv⟩ : ∃ y : Nat → Int64, y = (fun _ => 0) := ⟨_, rfl⟩
  refine va_newa (atype := .long) (a0 := (1, .inr (.inl Lv))) (N' := 1) (ty := .long) hx hb (hts _ (List.mem_cons_of_mem _ kw_632)) rfl hK hP hD hS hA (fun _ => by rw [eLv]; rfl) (by decide) (by decide) (Nat.le_of_ble_eq_true rfl) (Nat.le_of_ble_eq_true rfl) (Nat.le_of_ble_eq_true rfl) dL_law_17 (fun pv tv H hK hP hD hS => ?_)
  have hP : va_P (dC, dI) vwCl [(ph, .inr (0, [.int dd, .int rt, .int cl, .int rf, .int pr, .ref pn, .int gk, .int go, .int gc, .ref pg, .ref ps, .ref po, .ref pc, .ref pe, .ref p1, .ref p2, .ref pz])), (pn, .inl (tn, 1908, .inl An)), (p1, .inr (1, [.long a1, .long b1, .long c1])), (p2, .inr (1, [.long a2, .long b2, .long c2])), (pz, .inr (2, [.long zg, .long z1, .long z2])), (pg, .inl (tg, 11, .inl Ag)), (ps, .inl (ts, 12, .inl As)), (po, .inl (to, 1908, .inl Ao)), (pc, .inl (tc, 1908, .inl Ac)), (pe, .inl (te, 1908, .inl Ae)), (qh, .inr (3, [.int mco, .long md, .long mw, .int mfo, .ref qf, .ref qm, .ref qk, .int mmy, .ref qn, .ref qo, .ref qi, .ref qx, .int mpr, .int mgn, .ref qg, .int mli, .ref ql, .long ma, .long mb, .long mc])), (qf, .inl (uf, 40960, .inl Bf)), (qm, .inl (um, 40960, .inl Bm)), (qk, .inl (uk, 40960, .inl Bk)), (qn, .inl (un, 4096, .inl Bn)), (qo, .inl (uo, 4096, .inl Bo)), (qi, .inl (ui, 4096, .inl Bi)), (qx, .inl (ux, 32768, .inl Bx)), (qg, .inl (ug, 8, .inl Bg)), (ql, .inl (ul, 4096, .inl Bl)), (pv, .inl (tv, 1, .inr (.inl Lv)))] H := hP
  have hD : va_D A [(ph, .inr (0, [.int dd, .int rt, .int cl, .int rf, .int pr, .ref pn, .int gk, .int go, .int gc, .ref pg, .ref ps, .ref po, .ref pc, .ref pe, .ref p1, .ref p2, .ref pz])), (pn, .inl (tn, 1908, .inl An)), (p1, .inr (1, [.long a1, .long b1, .long c1])), (p2, .inr (1, [.long a2, .long b2, .long c2])), (pz, .inr (2, [.long zg, .long z1, .long z2])), (pg, .inl (tg, 11, .inl Ag)), (ps, .inl (ts, 12, .inl As)), (po, .inl (to, 1908, .inl Ao)), (pc, .inl (tc, 1908, .inl Ac)), (pe, .inl (te, 1908, .inl Ae)), (qh, .inr (3, [.int mco, .long md, .long mw, .int mfo, .ref qf, .ref qm, .ref qk, .int mmy, .ref qn, .ref qo, .ref qi, .ref qx, .int mpr, .int mgn, .ref qg, .int mli, .ref ql, .long ma, .long mb, .long mc])), (qf, .inl (uf, 40960, .inl Bf)), (qm, .inl (um, 40960, .inl Bm)), (qk, .inl (uk, 40960, .inl Bk)), (qn, .inl (un, 4096, .inl Bn)), (qo, .inl (uo, 4096, .inl Bo)), (qi, .inl (ui, 4096, .inl Bi)), (qx, .inl (ux, 32768, .inl Bx)), (qg, .inl (ug, 8, .inl Bg)), (ql, .inl (ul, 4096, .inl Bl)), (pv, .inl (tv, 1, .inr (.inl Lv)))] := hD
  have hK : va_K (dC, dI) vwCl [(tn, .int), (tg, .int), (ts, .int), (to, .int), (tc, .int), (te, .int), (uf, .int), (um, .int), (uk, .int), (un, .int), (uo, .int), (ui, .boolean), (ux, .int), (ug, .int), (ul, .int), (tv, .long)] s := hK
  refine lv_astore_n (lv' := [(3, .ref pv), (2, .ref qh), (1, .ref ph), (0, .ref b)]) hx hb dL_law_19 rfl hl (by decide) rfl (fun ls hl => ?_)
  refine lv_iconst (v := 0) hx hb dL_law_20 (by decide) ?_
  refine lv_istore (lv' := [(4, .int 0), (3, .ref pv), (2, .ref qh), (1, .ref ph), (0, .ref b)]) hx hb dL_law_21 hl (by decide) rfl (fun ls hl => ?_)
  have hlaw : f_law_L23 2000000000 L xs 600 0 dd rt cl rf pr gk go gc An a1 b1 c1 a2 b2 c2 zg z1 z2 Ag As Ao Ac Ae Lv mco md mw mfo mmy mpr mgn mli ma mb mc Bf Bm Bk Bn Bo Bi Bx Bg Bl = some 1 := law_s 2000000000 (by decide) hL xs 600 0 dd rt cl rf pr gk go gc An a1 b1 c1 a2 b2 c2 zg z1 z2 Ag As Ao Ac Ae Lv mco md mw mfo mmy mpr mgn mli ma mb mc Bf Bm Bk Bn Bo Bi Bx Bg Bl (by omega) (by omega) hI
  have hPl := hP.sub (ws' := [(ph, .inr (0, [.int dd, .int rt, .int cl, .int rf, .int pr, .ref pn, .int gk, .int go, .int gc, .ref pg, .ref ps, .ref po, .ref pc, .ref pe, .ref p1, .ref p2, .ref pz])), (pn, .inl (tn, 1908, .inl An)), (p1, .inr (1, [.long a1, .long b1, .long c1])), (p2, .inr (1, [.long a2, .long b2, .long c2])), (pz, .inr (2, [.long zg, .long z1, .long z2])), (pg, .inl (tg, 11, .inl Ag)), (ps, .inl (ts, 12, .inl As)), (po, .inl (to, 1908, .inl Ao)), (pc, .inl (tc, 1908, .inl Ac)), (pe, .inl (te, 1908, .inl Ae)), (pv, .inl (tv, 1, .inr (.inl Lv))), (qh, .inr (3, [.int mco, .long md, .long mw, .int mfo, .ref qf, .ref qm, .ref qk, .int mmy, .ref qn, .ref qo, .ref qi, .ref qx, .int mpr, .int mgn, .ref qg, .int mli, .ref ql, .long ma, .long mb, .long mc])), (qf, .inl (uf, 40960, .inl Bf)), (qm, .inl (um, 40960, .inl Bm)), (qk, .inl (uk, 40960, .inl Bk)), (qn, .inl (un, 4096, .inl Bn)), (qo, .inl (uo, 4096, .inl Bo)), (qi, .inl (ui, 4096, .inl Bi)), (qx, .inl (ux, 32768, .inl Bx)), (qg, .inl (ug, 8, .inl Bg)), (ql, .inl (ul, 4096, .inl Bl))]) [0, 1, 2, 3, 4, 5, 6, 7, 8, 9, 20, 10, 11, 12, 13, 14, 15, 16, 17, 18, 19] rfl
  have hDl := hD.sub (ws' := [(ph, .inr (0, [.int dd, .int rt, .int cl, .int rf, .int pr, .ref pn, .int gk, .int go, .int gc, .ref pg, .ref ps, .ref po, .ref pc, .ref pe, .ref p1, .ref p2, .ref pz])), (pn, .inl (tn, 1908, .inl An)), (p1, .inr (1, [.long a1, .long b1, .long c1])), (p2, .inr (1, [.long a2, .long b2, .long c2])), (pz, .inr (2, [.long zg, .long z1, .long z2])), (pg, .inl (tg, 11, .inl Ag)), (ps, .inl (ts, 12, .inl As)), (po, .inl (to, 1908, .inl Ao)), (pc, .inl (tc, 1908, .inl Ac)), (pe, .inl (te, 1908, .inl Ae)), (pv, .inl (tv, 1, .inr (.inl Lv))), (qh, .inr (3, [.int mco, .long md, .long mw, .int mfo, .ref qf, .ref qm, .ref qk, .int mmy, .ref qn, .ref qo, .ref qi, .ref qx, .int mpr, .int mgn, .ref qg, .int mli, .ref ql, .long ma, .long mb, .long mc])), (qf, .inl (uf, 40960, .inl Bf)), (qm, .inl (um, 40960, .inl Bm)), (qk, .inl (uk, 40960, .inl Bk)), (qn, .inl (un, 4096, .inl Bn)), (qo, .inl (uo, 4096, .inl Bo)), (qi, .inl (ui, 4096, .inl Bi)), (qx, .inl (ux, 32768, .inl Bx)), (qg, .inl (ug, 8, .inl Bg)), (ql, .inl (ul, 4096, .inl Bl))]) [0, 1, 2, 3, 4, 5, 6, 7, 8, 9, 20, 10, 11, 12, 13, 14, 15, 16, 17, 18, 19] (by decide) rfl
  have hKl := hK.sub (tys' := [(tn, .int), (tg, .int), (ts, .int), (to, .int), (tc, .int), (te, .int), (tv, .long), (uf, .int), (um, .int), (uk, .int), (un, .int), (uo, .int), (ui, .boolean), (ux, .int), (ug, .int), (ul, .int)]) [0, 1, 2, 3, 4, 5, 15, 6, 7, 8, 9, 10, 11, 12, 13, 14] rfl
  exact law_loop l hlt hx hb hr hml hown hts hX hbl hlocks A hA hA1 hbA dC dI ph pn pg ps po pc pe p1 p2 pz tn tg ts to tc te pv tv qh qf qm qk qn qo qi qx qg ql uf um uk un uo ui ux ug ul q55 q87 q108 q126 q145 q147 u1 u2 hKt55 hKt87 hKt108 hKt126 hKt145 hKt147 hKl 2000000000 600 0 dd rt cl rf pr gk go gc An a1 b1 c1 a2 b2 c2 zg z1 z2 Ag As Ao Ac Ae Lv mco md mw mfo mmy mpr mgn mli ma mb mc Bf Bm Bk Bn Bo Bi Bx Bg Bl _ _ H locs ls (by decide) (by decide) hlaw hPl hDl hS hl
