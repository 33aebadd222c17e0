/-! constructors -/
theorem zl_arr {args : Array Value} {s : State} {ty : FieldType} (h : (Cond.arrayClass ty).before args s = true) : ∃ cA : ClassId, s.vm.findClass ("[" ++ ty.toString) = some cA ∧ ArrOfT s cA ty := by
  obtain ⟨cA, kA, comp, h1, h2, h3⟩ := Cond.arrayClass_spec h
  exact ⟨cA, h1, fun n z => ⟨fun k h => (by cases h), kA, h2, comp, h3⟩⟩
theorem zl_tys {D : va_G} {args : Array Value} {s : State} (hts : ∀ w ∈ z_AW, w.before args s = true) (hc : ∀ (k : Nat) (q : vw_C), z_cl[k]? = some q → u_Kn s q.1 q.2.1 q.2.2 (D.1 k) (D.2 k)) (h1 : Cond.arrayClass .int ∈ z_AW) (h2 : Cond.arrayClass .long ∈ z_AW) (h3 : Cond.arrayClass .boolean ∈ z_AW) : ∃ cA : Nat → ClassId, va_K D z_cl (z_tys cA) s := by
  obtain ⟨c1, a1, b1⟩ := zl_arr (hts _ h1)
  obtain ⟨c2, a2, b2⟩ := zl_arr (hts _ h2)
  obtain ⟨c3, a3, b3⟩ := zl_arr (hts _ h3)
  refine ⟨fun k => if k = 0 then c1 else if k = 1 then c2 else c3, hc, ?_⟩
  intro k q hq
  match k, hq with
  | 0, hq => cases hq; exact ⟨b1, a1⟩
  | 1, hq => cases hq; exact ⟨b2, a2⟩
  | 2, hq => cases hq; exact ⟨b3, a3⟩
  | k + 3, hq => simp at hq
