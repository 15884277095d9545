theorem tw_static {C n d : String} {v : Value} {A : Nat → Prop} {s : State} (args : Array Value) (h : va_Z C n d v A s s.heap) (hv : v.isRef = true) : (Cond.isRef (.static C n d)).before args s = true := by
  obtain ⟨cf, kf, fi, f, a, cell, h1, h2, h3, h4, h5, h6, h7, h8⟩ := h
  have e : (Term.static C n d).eval args s none [] s = some v := by
    simp [Term.eval, State.fieldNamed?, h1, h2, h4, h5, h6, h7]
  cases v <;> simp_all [Cond.before, Cond.holds, Cond.value, Value.isRef]
/-- a static that nobody writes, with all that 'laysStatic' says of it -/
def tw_Z (C n d : String) (v : Value) (A : Nat → Prop) (U : State) (H : Heap) : Prop := va_Z C n d v A U H ∧ ∃ (c : ClassId) (k : Class) (i : Nat) (f : Field) (a : Nat) (cell : Cell),
  U.vm.findClass C = some c ∧ U.fieldFound? C n d = some (c, k, i, f) ∧ f.isStatic = true ∧ k.statics = some a ∧ H[a]? = some cell ∧ cell.vm.isStatics = true ∧ cell.cls = c ∧ f.slot < cell.slots.size ∧ k.staticTypes[f.slot]? = some f.type ∧ ¬ A a
theorem tw_Z.moved {C n d : String} {v : Value} {A : Nat → Prop} {u U : State} {H : Heap} (hvm : u.vm.Alike U.vm) (h : tw_Z C n d v A u H) : tw_Z C n d v A U H := by
  obtain ⟨h0, c, k, i, f, a, cell, h1, h2, h3, h4, h5⟩ := h
  obtain ⟨k', hi', he⟩ := State.fieldFound?_setVm hvm h2
  exact ⟨h0.moved hvm, c, k', i, f, a, cell, by rw [hvm.findClass]; exact h1, hi', h3, by rw [he]; exact h4, h5.1, h5.2.1, h5.2.2.1, h5.2.2.2.1, by rw [he]; exact h5.2.2.2.2.1, h5.2.2.2.2.2⟩
theorem tw_Z.kept {C n d : String} {v : Value} {A : Nat → Prop} {U : State} {H H1 : Heap} (h : tw_Z C n d v A U H) (hq : ∀ a : Nat, a < H.size → ¬ A a → H1[a]? = H[a]?) : tw_Z C n d v A U H1 := by
  obtain ⟨h0, c, k, i, f, a, cell, h1, h2, h3, h4, h5, h6⟩ := h
  exact ⟨h0.kept hq, c, k, i, f, a, cell, h1, h2, h3, h4, by rw [hq a (Array.getElem?_eq_some_iff.mp h5).1 h6.2.2.2.2]; exact h5, h6⟩
theorem tw_Z.narrow {C n d : String} {v : Value} {A B : Nat → Prop} {U : State} {H : Heap} (h : tw_Z C n d v A U H) (hAB : ∀ q, B q → A q) : tw_Z C n d v B U H := by
  obtain ⟨h0, c, k, i, f, a, cell, h1, h2, h3, h4, h5, h6⟩ := h
  exact ⟨h0.narrow hAB, c, k, i, f, a, cell, h1, h2, h3, h4, h5, h6.1, h6.2.1, h6.2.2.1, h6.2.2.2.1, fun z => h6.2.2.2.2 (hAB a z)⟩
theorem tw_Zof {args : Array Value} {s : State} {C n d : String} {v : Value} {A : Nat → Prop} (hl : (Cond.laysStatic C n d).before args s = true) (hini : (Cond.initialized C).before args s = true) (hv : (Term.static C n d).eval args s none [] s = some v) (hA : ∀ a : Nat, a < s.heap.size → ¬ A a) : tw_Z C n d v A s s.heap := by
  obtain ⟨c, k, i, f, a, cell, h1, h2, h3, h4, h5, h6, h7, h8, h9⟩ := Cond.laysStatic_spec hl
  exact ⟨va_Zof hl hini hv hA, c, k, i, f, a, cell, h1, h2, h3, h4, h5, h6, h7, h8, h9, hA a (Array.getElem?_eq_some_iff.mp h5).1⟩
theorem tw_lays {C n d : String} {v : Value} {A : Nat → Prop} {s : State} (args : Array Value) (h : tw_Z C n d v A s s.heap) : (Cond.laysStatic C n d).before args s = true := by
  obtain ⟨-, c, k, i, f, a, cell, h1, h2, h3, h4, h5, h6, h7, h8, h9, -⟩ := h
  simp [Cond.before, Cond.holds, Cond.value, h1, h2, h3, h4, h5, h6, h7, h8, h9]
section TX
variable {p : Program} {l : Launch} {e : Env} {R : Room} {s : State} {m : MethodId} {args : Array Value} {below : List Frame} {meth : Method} {c : Code} {H : Heap} {locs : List Loc} {cells slots : Nat}
def tw_isU : Cond := .isRef (.static Bundle.tN "UNASSIGNED_STACK" Bundle.steD)
def tw_isS : Cond := .isRef (.static Bundle.tN "SUPPRESSED_SENTINEL" Bundle.listD)
def tw_lyU : Cond := .laysStatic Bundle.tN "UNASSIGNED_STACK" Bundle.steD
def tw_lyS : Cond := .laysStatic Bundle.tN "SUPPRESSED_SENTINEL" Bundle.listD
/-- what a method that throws asks of its start beside its world: the message's String, Throwable's two statics -/
def tw_K (own : String) (il : Nat) (tx : String) (q : Nat) (u1 u2 : Value) (A : Nat → Prop) (U : State) (H : Heap) : Prop := vk_R own il tx q U ∧ (tw_Z Bundle.tN "UNASSIGNED_STACK" Bundle.steD u1 A U H ∧ u1.isRef = true) ∧ tw_Z Bundle.tN "SUPPRESSED_SENTINEL" Bundle.listD u2 A U H ∧ u2.isRef = true
theorem tw_K.kept {own tx : String} {il q : Nat} {u1 u2 : Value} {A : Nat → Prop} {U : State} {H H1 : Heap} (h : tw_K own il tx q u1 u2 A U H) (hq : ∀ a : Nat, a < H.size → ¬ A a → H1[a]? = H[a]?) : tw_K own il tx q u1 u2 A U H1 := ⟨h.1, ⟨h.2.1.1.kept hq, h.2.1.2⟩, h.2.2.1.kept hq, h.2.2.2⟩
theorem tw_K.same {own tx : String} {il q : Nat} {u1 u2 : Value} {A : Nat → Prop} {u U : State} {H : Heap} (hv : U.vm = u.vm) (h : tw_K own il tx q u1 u2 A u H) : tw_K own il tx q u1 u2 A U H := ⟨h.1.same hv, ⟨h.2.1.1.moved (by rw [hv]; exact Vm.Alike.refl _), h.2.1.2⟩, h.2.2.1.moved (by rw [hv]; exact Vm.Alike.refl _), h.2.2.2⟩
theorem tw_K.warm {own tx : String} {il q : Nat} {u1 u2 : Value} {A : Nat → Prop} {s U : State} {H : Heap} (hW : s.WarmedH U.vm) (h : tw_K own il tx q u1 u2 A s H) : tw_K own il tx q u1 u2 A U H := ⟨h.1.warm hW, ⟨h.2.1.1.moved hW.alike, h.2.1.2⟩, h.2.2.1.moved hW.alike, h.2.2.2⟩
theorem tw_K.narrow {own tx : String} {il q : Nat} {u1 u2 : Value} {A B : Nat → Prop} {U : State} {H : Heap} (h : tw_K own il tx q u1 u2 A U H) (hAB : ∀ q, B q → A q) : tw_K own il tx q u1 u2 B U H := ⟨h.1, ⟨h.2.1.1.narrow hAB, h.2.1.2⟩, h.2.2.1.narrow hAB, h.2.2.2⟩
/-- throw new X("..") in a method that catches nothing, from where nothing has been written yet -/
theorem tw_throw0 {cc : ByteArray} {pc : Nat} {ls : Array Slot} {own cls tx : String} {names : List String} {ic ix il q : Nat}
    (hx : p.tables.exec = Jvm.exec) (hb : c.code = cc) (htr : l.stackTraces = false) (hown : s.vm.findClass own = some m.cls) (hcls : Bundle.fit cls = true) (hnames : ∀ n ∈ names, Bundle.fit n = true)
    (hat : ∀ w ∈ Bundle.ownAtoms own ic cls names, w.before args s = true)
    (hR : vk_R own il tx q s) (hcl : (Cond.classLink own ix cls).before args s = true) (hins : (Cond.instantiable cls 6).before args s = true) (hini : (Cond.initialized cls).before args s = true)
    (hsize : ls.size = c.maxLocals) (hlocks : meth.locks = false) (hnoh : c.exceptionTable.isEmpty = true)
    (d0 : decode cc pc = .ok (.new ix, 3)) (d3 : decode cc (pc + 3) = .ok (.dup, 1)) (d4 : decode cc (pc + 4) = .ok (.ldc il, 2)) (d6 : decode cc (pc + 6) = .ok (.invokespecial ic, 3)) (d9 : decode cc (pc + 9) = .ok (.athrow, 1))
    (hRf : names.length + 3 < R.frames) (hRl : 1 + (13 * (names.length + 1) + 42) ≤ R.locals) (hcells : 1 ≤ R.cells) (hslots : 6 ≤ R.slots) :
    W p l e R s m args below meth c s.heap [] 0 0
      (fun t => t.status = .running ∧ Ended t below (.threw s.heap.size) ∧ s.WarmedH t.vm ∧ s.sameButNew ({ t with vm := s.vm } : State) [] 1 6 ∧
        ∃ ce, t.heap[s.heap.size]? = some ce ∧ s.vm.findClass cls = some ce.cls ∧ ce.vm = .none) (F0 m pc ls []) := by
  refine W.newc hx hb (own := own) (C := cls) (n := 6) hown hcl hins hini rfl d0 (by omega) (by omega) (fun cC kC h1 h2 h3 h4 => ?_)
  refine lv_dup hx hb d3 rfl ?_
  refine va_ldcS hx hb hown hR d4 ?_
  intro T1 hT1 X1
  have htr' : e.platform.stackTraces = false := by rw [X1.admits.platform]; exact htr
  have hcat : 2 * 0 + ([Value.ref s.heap.size].map (fun v => v.category)).sum + (13 * (names.length + 1) + 42) ≤ R.locals := by
    have e : (Value.ref s.heap.size).category = 1 := rfl
    simpa [e] using hRl
  obtain ⟨U, k1, k2, k3, k4, k5, ce, k6, k7⟩ := X1.ctorThrowS hx htr' (own := own) (cls := cls) (names := names) (ic := ic) hown hcls hnames hat (fun _ h => by cases h) (a := s.heap.size) h1 h2
    (by rw [hT1]; simp) (Nat.le_refl _) (msg := .ref q) rfl (g := F0 m (pc + 6) ls [.ref q, .ref s.heap.size, .ref s.heap.size]) rfl hsize rfl rfl (rest := []) rfl (by rw [hb]; exact d6) (by rw [hb]; exact d9)
    (fun x hx => by
      have h0 : c.exceptionTable.toList = [] := by simpa [Array.isEmpty] using hnoh
      rw [h0] at hx; cases hx) hRf hcat
  exact ⟨U, k1, k2, k3, k4, k5, ce, k6, k7.cls, k7.vm⟩
/-- throw new X("..") in a method that catches nothing -/
theorem tw_throw {cc : ByteArray} {pc : Nat} {ls : Array Slot} {own cls tx : String} {names : List String} {ic ix il q : Nat} {A : Nat → Prop} {u1 u2 : Value} {Qt : Array Value → State → Addr → State → Prop} {free : Addr → Prop}
    (hx : p.tables.exec = Jvm.exec) (hb : c.code = cc) (htr : l.stackTraces = false) (hown : s.vm.findClass own = some m.cls) (hcls : Bundle.fit cls = true) (hnames : ∀ n ∈ names, Bundle.fit n = true)
    (hat : ∀ w ∈ Bundle.ownAtoms own ic cls names, (w.onTables = true ∧ w.before args s = true) ∨ w = tw_isU ∨ w = tw_isS ∨ w = tw_lyU ∨ w = tw_lyS)
    (hKt : tw_K own il tx q u1 u2 A s H)
    (hcl : (Cond.classLink own ix cls).before args s = true) (hins : (Cond.instantiable cls 6).before args s = true) (hini : (Cond.initialized cls).before args s = true)
    (hsize : ls.size = c.maxLocals) (hlocks : meth.locks = false) (hnoh : c.exceptionTable.isEmpty = true)
    (d0 : decode cc pc = .ok (.new ix, 3)) (d3 : decode cc (pc + 3) = .ok (.dup, 1)) (d4 : decode cc (pc + 4) = .ok (.ldc il, 2)) (d6 : decode cc (pc + 6) = .ok (.invokespecial ic, 3)) (d9 : decode cc (pc + 9) = .ok (.athrow, 1))
    (hRf : names.length + 3 < R.frames) (hRl : 1 + (13 * (names.length + 1) + 42) ≤ R.locals) (hcells : cells + 1 ≤ R.cells) (hslots : slots + 6 ≤ R.slots)
    (hq : ∀ (t : State), H.size ≤ t.heap.size → (∀ a : Nat, a < H.size → t.heap[a]? = H[a]?) → (∃ ce, t.heap[H.size]? = some ce ∧ s.vm.findClass cls = some ce.cls ∧ ce.vm = .none) → s.WarmedH t.vm → Qt args s H.size t)
    (hf : ∀ q ∈ locs, free q.base) :
    W p l e R s m args below meth c H locs cells slots (tw_MQ below Qt args s (cells + 1) (slots + 6) free) (F0 m pc ls []) := by
  intro T hT X
  obtain ⟨hR, ⟨hZ1, hr1⟩, hZ2, hr2⟩ := hKt
  have X0 := tw_rebase X (k := 1) (n := 6) hcells hslots
  have hZ1' : tw_Z Bundle.tN "UNASSIGNED_STACK" Bundle.steD u1 A ({ s with heap := T.heap, slotsUsed := T.slotsUsed } : State) T.heap := by rw [hT]; exact hZ1
  have hZ2' : tw_Z Bundle.tN "SUPPRESSED_SENTINEL" Bundle.listD u2 A ({ s with heap := T.heap, slotsUsed := T.slotsUsed } : State) T.heap := by rw [hT]; exact hZ2
  have tb : ∀ {w : Cond}, w.onTables = true → w.before args s = true → w.before args ({ s with heap := T.heap, slotsUsed := T.slotsUsed } : State) = true := fun h1 h2 => va_tabs (A := args) (u := s) h1 rfl h2
  have hcl' := tb rfl hcl
  have hins' := tb rfl hins
  have hini' := tb rfl hini
  have hat' : ∀ w ∈ Bundle.ownAtoms own ic cls names, w.before args ({ s with heap := T.heap, slotsUsed := T.slotsUsed } : State) = true := by
    intro w hw
    rcases hat w hw with ⟨h1, h2⟩ | h | h | h | h
    · exact tb h1 h2
    · rw [h]; exact tw_static args hZ1'.1 hr1
    · rw [h]; exact tw_static args hZ2'.1 hr2
    · rw [h]; exact tw_lays args hZ1'
    · rw [h]; exact tw_lays args hZ2'
  have K := tw_throw0 (p := p) (l := l) (e := e) (R := ({ R with cells := 1, slots := 6 } : Room)) (s := ({ s with heap := T.heap, slotsUsed := T.slotsUsed } : State)) (m := m) (args := args) (below := below) (meth := meth) (c := c) (ls := ls)
    hx hb htr hown hcls hnames hat' (vk_R.same (u := s) rfl hR) hcl' hins' hini' hsize hlocks hnoh d0 d3 d4 d6 d9 hRf hRl (Nat.le_refl 1) (Nat.le_refl 6)
  obtain ⟨t, st, k1, k2, k3, k4, ce, k5, k6, k7⟩ := K T rfl X0
  refine ⟨t, st, T.heap.size, k1, k2, ?_, locs, ⟨k3, ?_⟩, hf⟩
  · rw [hT] at k4 k5 ⊢
    refine hq t k4.2.1 (fun a ha => ?_) ⟨ce, k5, k6, k7⟩ k3
    obtain ⟨c', g1, g2, g3, g4⟩ := k4.2.2.2.2.2 a H[a] (by simp [ha])
    have g5 : c'.slots = (H[a]).slots := by
      apply Array.ext_getElem?
      intro i
      exact g4 i (by simp)
    have g6 : c' = H[a] := by rw [g2, g5]
    rw [show t.heap[a]? = some c' from g1, g6]
    simp [ha]
  · have e1 : (T.setVm s.vm).sameButNew ({ t with vm := s.vm } : State) [] 1 6 := by
      refine ⟨?_, k4.2⟩
      have e2 := k4.1
      have e3 : T.setVm s.vm = ({ s.setFrames (T.setVm s.vm).frames with heap := (T.setVm s.vm).heap, slotsUsed := (T.setVm s.vm).slotsUsed } : State) := X.same.1
      rw [e3]
      refine e2.trans ?_
      show ({ s.setFrames ({ t with vm := s.vm } : State).frames with heap := t.heap, slotsUsed := t.slotsUsed } : State) = ({ (s.setFrames (T.setVm s.vm).frames).setFrames ({ t with vm := s.vm } : State).frames with heap := t.heap, slotsUsed := t.slotsUsed } : State)
      rw [State.setFrames_setFrames]
    have e4 := X.same.trans e1
    rw [List.append_nil] at e4
    exact e4
end TX
