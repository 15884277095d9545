/-! the words of the two kinds of throw -/
def tw_up : List String := ["java/lang/RuntimeException", "java/lang/Exception"]
theorem tw_dec {x : MethodName} {bytes : ByteArray} {n : Nat} {ret : Option FieldType} {args : Array Value} {s : State} (h1 : (Cond.instanceMethod x).before args s = true) (h2 : (Cond.code x bytes n ret).before args s = true) : (Cond.declares x).before args s = true := by
  obtain ⟨m, meth, hn, hm, hst, -⟩ := Cond.instanceMethod_spec h1
  obtain ⟨meth', c, hm', -, -, -, -, -, -, hsig⟩ := Cond.code_spec hn h2
  cases hm.symm.trans hm'
  simp [Cond.before, Cond.holds, Cond.value, hn, hm, hst, hsig]
theorem tw_cast {C : String} {n : Nat} {args : Array Value} {s : State} (h : (Cond.instantiable C n).before args s = true) : (Cond.castable C C).before args s = true := by
  obtain ⟨c, k, hc, -⟩ := Cond.instantiable_spec h
  simp [Cond.before, Cond.holds, Cond.value, hc, va_asg]
def tw_odd (cls : String) (w : Cond) : Prop := w = .declares (Bundle.initS "java/lang/RuntimeException") ∨ w = .declares (Bundle.initS "java/lang/Exception") ∨ w = .declares (Bundle.initS "java/lang/Throwable") ∨ w = .castable cls cls
def tw_res (w : Cond) : Prop := w = tw_isU ∨ w = tw_isS ∨ w = tw_lyU ∨ w = tw_lyS
set_option maxRecDepth 100000 in
theorem tw_atA : ∀ w ∈ Bundle.ownAtoms "ClassGroup" 57 "java/lang/IllegalArgumentException" tw_up, (w ∈ tables_1 ∧ goodWord w = true ∧ w.onTables = true) ∨ tw_odd "java/lang/IllegalArgumentException" w ∨ tw_res w := by unfold tw_odd tw_res; decide +kernel
set_option maxRecDepth 100000 in
theorem tw_atB : ∀ w ∈ Bundle.ownAtoms "ClassGroup" 89 "java/lang/IndexOutOfBoundsException" tw_up, (w ∈ tables_1 ∧ goodWord w = true ∧ w.onTables = true) ∨ tw_odd "java/lang/IndexOutOfBoundsException" w ∨ tw_res w := by unfold tw_odd tw_res; decide +kernel
theorem tw_on {c0 : Cond} {args : Array Value} {s : State} {as : List Cond} {cls : String} (hts : ∀ w ∈ c0 :: wT, w.before args s = true) (hin : (Cond.instantiable cls 6).before args s = true)
    (h : ∀ w ∈ as, (w ∈ tables_1 ∧ goodWord w = true ∧ w.onTables = true) ∨ tw_odd cls w ∨ tw_res w) :
    ∀ w ∈ as, (w.onTables = true ∧ w.before args s = true) ∨ w = tw_isU ∨ w = tw_isS ∨ w = tw_lyU ∨ w = tw_lyS := by
  intro w hw
  have tk : ∀ {v : Cond}, v ∈ wT → v.before args s = true := fun h => hts _ (List.mem_cons_of_mem _ h)
  rcases h w hw with ⟨h1, h2, h3⟩ | (rfl | rfl | rfl | rfl) | h
  · exact Or.inl ⟨h3, tk (wT_mem (List.mem_append_right _ h1) h2)⟩
  · exact Or.inl ⟨rfl, tw_dec (tk kw_317) (tk kw_318)⟩
  · exact Or.inl ⟨rfl, tw_dec (tk kw_320) (tk kw_321)⟩
  · exact Or.inl ⟨rfl, tw_dec (tk kw_323) (tk kw_324)⟩
  · exact Or.inl ⟨rfl, tw_cast hin⟩
  · exact Or.inr h
theorem tw_P {D : va_G} {cl : List vw_C} {ws : va_W} {H H1 : Heap} (h : va_P D cl ws H) (hk : ∀ a : Nat, a < H.size → H1[a]? = H[a]?) : va_P D cl ws H1 := fun k q hq => (h k q hq).kept (hk q.1 (h k q hq).lt)
theorem tw_ce {s t : State} {x : Addr} {cls : String} (hW : s.WarmedH t.vm) (h : ∃ ce, t.heap[x]? = some ce ∧ s.vm.findClass cls = some ce.cls ∧ ce.vm = .none) : ∃ ce, t.heap[x]? = some ce ∧ t.vm.findClass cls = some ce.cls ∧ ce.vm = .none := by
  obtain ⟨ce, h1, h2, h3⟩ := h
  exact ⟨ce, h1, by rw [hW.alike.findClass]; exact h2, h3⟩
theorem tw_F {A : Nat → Prop} {s t : State} {H : Heap} {locs : List Loc} (hS : va_S A s.heap H locs) (hz : H.size ≤ t.heap.size) (hk : ∀ a : Nat, a < H.size → t.heap[a]? = H[a]?) : va_F A s t := ⟨Nat.le_trans hS.1 hz, fun q h1 h2 => (hk q (Nat.lt_of_lt_of_le h1 hS.1)).trans (hS.2.1 q h1 h2)⟩
