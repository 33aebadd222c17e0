/-! constructors -/
theorem zl_arr {args : Array Value} {s : State} {ty : FieldType} (h : (Cond.arrayClass ty).before args s = true) : ∃ cA : ClassId, s.vm.findClass ("[" ++ ty.toString) = some cA ∧ ArrOfT s cA ty := by
  obtain ⟨cA, kA, comp, h1, h2, h3⟩ := Cond.arrayClass_spec h
  exact ⟨cA, h1, fun n z => ⟨fun k h => (by cases h), kA, h2, comp, h3⟩⟩
theorem zl_tys {D : va_G} {args : Array Value} {s : State} (hts : ∀ w ∈ z_AW, w.before args s = true) (hc : ∀ (k : Nat) (q : vw_C), z_cl[k]? = some q → u_Kn s q.1 q.2.1 q.2.2 (D.1 k) (D.2 k)) (h1 : Cond.arrayClass .int ∈ z_AW) (h2 : Cond.arrayClass .long ∈ z_AW) (h3 : Cond.arrayClass .boolean ∈ z_AW) : ∃ cA : Nat → ClassId, va_K D z_cl (z_tys cA) s := by
  obtain ⟨c1, a1, b1⟩ := zl_arr (hts _ h1)
  obtain ⟨c2, a2, b2⟩ := zl_arr (hts _ h2)
  obtain ⟨c3, a3, b3⟩ := zl_arr (hts _ h3)
  refine ⟨fun k => if k = 0 then c1 else if k = 1 then c2 else c3, hc, ?_⟩
  intro k q hq
  match k, hq with
  | 0, hq => cases hq; exact ⟨b1, a1⟩
  | 1, hq => cases hq; exact ⟨b2, a2⟩
  | 2, hq => cases hq; exact ⟨b3, a3⟩
  | k + 3, hq => simp at hq
section ZN
variable {p : Program} {l : Launch} {e : Env} {R : Room} {s : State} {m : MethodId} {args : Array Value} {below : List Frame} {meth : Method} {c : Code} {Q : State → Prop}
theorem zl_newa {cc : ByteArray} {D : va_G} {cA : Nat → ClassId} {A : Nat → Prop} {H0 H : Heap} {locs : List Loc} {cells slots pc N' : Nat} {ls : Array Slot} {rest : List Value} {ws : va_W} {n : Int32} {a0 : vp_A} (t : Nat) {atype : ArrayType} (hx : p.tables.exec = Jvm.exec) (hb : c.code = cc) (harr : (Cond.arrayClass (newarray.typeOf atype)).before args s = true) (ht : (z_tys cA)[t]? = some (cA t, newarray.typeOf atype)) (hK : va_K D z_cl (z_tys cA) s) (hP : va_P D z_cl ws H) (hD : va_D A ws) (hS : va_S A H0 H locs) (hA : ∀ q, H0.size ≤ q → A q)
    (ha : ∀ c : ClassId, vp_cell c a0 = arrV c N' (fun _ => defaultValue (newarray.typeOf atype))) (hn : ¬ n < 0) (hN : n.toNatClampNeg = N') (hbytes : N' * componentBytes (newarray.typeOf atype) ≤ 536870912) (hcells : cells + 1 ≤ R.cells) (hslots : slots + N' ≤ R.slots) (hdg : decode cc pc = .ok (.newarray atype, 2))
    (kk : ∀ (q : Nat) (H1 : Heap), va_P D z_cl (ws ++ [(q, .inl (cA t, a0))]) H1 → va_D A (ws ++ [(q, .inl (cA t, a0))]) → va_S A H0 H1 locs → W p l e R s m args below meth c H1 locs (cells + 1) (slots + N') Q (F0 m (pc + 2) ls (.ref q :: rest))) : W p l e R s m args below meth c H locs cells slots Q (F0 m pc ls (.int n :: rest)) := by
  refine va_newa hx hb harr rfl hK hP hD hS hA ha hn hN hbytes hcells hslots hdg (fun q c2 H1 hK2 hP2 hD2 hS2 => ?_)
  have h1 := (hK2.2 3 (c2, newarray.typeOf atype) rfl).2
  have h2 := (hK.2 t _ ht).2
  have ec : c2 = cA t := by
    cases atype <;> exact Option.some.inj (h1.symm.trans h2)
  subst ec
  exact kk q H1 hP2 hD2 hS2
end ZN
