theorem tw_table {p : Program} {l : Launch} {x : MethodName} {S : Spec} {code : ByteArray} {maxLocals : Nat} {ret : Option FieldType} {e : Env} {s : State} {m : MethodId} {args : Array Value} {below : List Frame}
    {meth : Method} {c : Code} {s₁ : State} {h1 h2 h3 h4 : Nat} (B : BodyLoose p l x S code maxLocals ret e s m args below meth c s₁) (h : (Cond.codeWith x code maxLocals ret [(h1, h2, h3, h4)]).before args s = true) : c.exceptionTable.toList = [⟨h1, h2, h3, h4⟩] := by
  obtain ⟨m', meth', c', hn, hm', hc', -, -, he, -⟩ := Cond.codeWith_spec h
  cases B.named.symm.trans hn
  cases B.method.symm.trans hm'
  cases (Stand.of_body B).code.symm.trans hc'
  cases ht : c.exceptionTable.toList with
  | nil => rw [ht] at he; cases he
  | cons a r =>
    rw [ht] at he
    simp only [List.map_cons, List.cons.injEq, List.map_eq_nil_iff, Prod.mk.injEq] at he
    obtain ⟨⟨e1, e2, e3, e4⟩, e5⟩ := he
    subst e1; subst e2; subst e3; subst e4; subst e5
    rfl
