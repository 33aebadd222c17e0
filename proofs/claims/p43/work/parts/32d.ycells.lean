/-! the law's machine: cells -/
theorem y_asg (vm : Vm) (c : ClassId) : vm.assignable c c = true := by
  show vm.assignableAux (255 + 1) c c = true
  rw [Vm.assignableAux]
  simp only [beq_self_eq_true, Bool.true_or]
section YH
variable {ε : y_Ev} {κ : y_K} {q : z_M} {fr lo mc ms nc ns : Nat} {ws ws2 : va_W} {pc : Nat} {lv : z_L} {st : List Value} {P : y_T}
theorem y_ial {a n i : Nat} {f : Nat → Int32} {v : Int32} (hC : y_ok ε κ q fr lo mc ms) (k : Nat) (hk : ws[k]? = some (a, .inl (y_c ε 0, n, .inl f))) (hF : z_F q pc = some .iaload) (hi : i < n) (hn : n < 2 ^ 31) (hv : f i = v) (kk : y_G ε κ q nc ns ws (pc + 1, lv, .int v :: st, [])) : y_G ε κ q nc ns ws (pc, lv, .int (nI i) :: .ref a :: st, []) := by
  obtain ⟨hx, hb, hml, hts, hown, hK, hN, hE, hA, hR, hdec⟩ := id hC
  refine y_inW (fun H locs ls hl hP hD hS => va_iald hx hb hK hP k 0 hk rfl (z_inN hi hn) (y_dcd hC hF) ?_)
  rw [nI_clamp (by omega), hv]
  exact y_outW kk hl hP hD hS
theorem y_bal {a n i : Nat} {f : Nat → Int32} {v : Int32} (hC : y_ok ε κ q fr lo mc ms) (k : Nat) (hk : ws[k]? = some (a, .inl (y_c ε 2, n, .inl f))) (hF : z_F q pc = some .baload) (hi : i < n) (hn : n < 2 ^ 31) (hv : f i = v) (kk : y_G ε κ q nc ns ws (pc + 1, lv, .int v :: st, [])) : y_G ε κ q nc ns ws (pc, lv, .int (nI i) :: .ref a :: st, []) := by
  obtain ⟨hx, hb, hml, hts, hown, hK, hN, hE, hA, hR, hdec⟩ := id hC
  refine y_inW (fun H locs ls hl hP hD hS => va_bald hx hb hK hP k 2 hk rfl (z_inN hi hn) (y_dcd hC hF) ?_)
  rw [nI_clamp (by omega), hv]
  exact y_outW kk hl hP hD hS
theorem y_ias {a n i : Nat} {f : Nat → Int32} {x : Int32} (hC : y_ok ε κ q fr lo mc ms) (k : Nat) (hk : ws[k]? = some (a, .inl (y_c ε 0, n, .inl f))) (hF : z_F q pc = some .iastore) (hi : i < n) (hn : n < 2 ^ 31) (he : ws.set k (a, .inl (y_c ε 0, n, .inl (upd f i x))) = ws2) (kk : y_G ε κ q nc ns ws2 (pc + 1, lv, st, [])) : y_G ε κ q nc ns ws (pc, lv, .int x :: .int (nI i) :: .ref a :: st, []) := by
  obtain ⟨hx, hb, hml, hts, hown, hK, hN, hE, hA, hR, hdec⟩ := id hC
  refine y_inW (fun H locs ls hl hP hD hS => va_iast hx hb hK hP hD hS k 0 hk rfl (z_inN hi hn) (y_dcd hC hF) (fun H1 locs1 hP1 hD1 hS1 => ?_))
  rw [nI_clamp (by omega), he] at hP1 hD1
  exact y_outW kk hl hP1 hD1 hS1
theorem y_bas {a n i : Nat} {f : Nat → Int32} {x y : Int32} (hC : y_ok ε κ q fr lo mc ms) (k : Nat) (hk : ws[k]? = some (a, .inl (y_c ε 2, n, .inl f))) (hF : z_F q pc = some .bastore) (hi : i < n) (hn : n < 2 ^ 31) (hx8 : vp_nar .byte x = y) (he : ws.set k (a, .inl (y_c ε 2, n, .inl (upd f i y))) = ws2) (kk : y_G ε κ q nc ns ws2 (pc + 1, lv, st, [])) : y_G ε κ q nc ns ws (pc, lv, .int x :: .int (nI i) :: .ref a :: st, []) := by
  obtain ⟨hx, hb, hml, hts, hown, hK, hN, hE, hA, hR, hdec⟩ := id hC
  refine y_inW (fun H locs ls hl hP hD hS => va_bast hx hb hK hP hD hS k 2 hk rfl (z_inN hi hn) (y_dcd hC hF) (fun H1 locs1 hP1 hD1 hS1 => ?_))
  rw [nI_clamp (by omega), hx8, he] at hP1 hD1
  exact y_outW kk hl hP1 hD1 hS1
theorem y_alen {a n : Nat} {f : (Nat → Int32) ⊕ (Nat → Int64) ⊕ (Nat → UInt32) ⊕ (Nat → UInt64) ⊕ (Nat → Option Nat)} (hC : y_ok ε κ q fr lo mc ms) (k t : Nat) {ty : FieldType} (ht : (z_tys (y_c ε))[t]? = some (y_c ε t, ty)) (hk : ws[k]? = some (a, .inl (y_c ε t, n, f))) (hF : z_F q pc = some .arraylength) (kk : y_G ε κ q nc ns ws (pc + 1, lv, .int (nI n) :: st, [])) : y_G ε κ q nc ns ws (pc, lv, .ref a :: st, []) := by
  obtain ⟨hx, hb, hml, hts, hown, hK, hN, hE, hA, hR, hdec⟩ := id hC
  exact y_inW (fun H locs ls hl hP hD hS => va_alen hx hb hK hP k t hk ht (v := nI n) rfl (y_dcd hC hF) (y_outW kk hl hP hD hS))
theorem y_aal {a n i v : Nat} {f : Nat → Option Nat} (hC : y_ok ε κ q fr lo mc ms) (k : Nat) (hk : ws[k]? = some (a, .inl (y_c ε 3, n, .inr (.inr (.inr (.inr f)))))) (hF : z_F q pc = some .aaload) (hi : i < n) (hn : n < 2 ^ 31) (hv : f i = some v) (kk : y_G ε κ q nc ns ws (pc + 1, lv, .ref v :: st, [])) : y_G ε κ q nc ns ws (pc, lv, .int (nI i) :: .ref a :: st, []) := by
  obtain ⟨hx, hb, hml, hts, hown, hK, hN, hE, hA, hR, hdec⟩ := id hC
  refine y_inW (fun H locs ls hl hP hD hS => ?_)
  have e : (nI i).toNatClampNeg = i := nI_clamp (by omega)
  exact W.aald (v := .ref v) (ty := .array .int) hx hb (hP k _ hk) ((hK.2 3 _ rfl).1 n (fun j => va_rf (f j))) rfl (fun z => by cases z) (by show ¬ (nI i < 0 ∨ (arrV _ _ _).slots.size ≤ _); rw [arrV_size]; exact z_inN hi hn) (by show (arrV _ _ _).slots[_]? = _; rw [e, arrV_read _ _ hi, hv]; rfl) rfl rfl (y_dcd hC hF) (y_outW kk hl hP hD hS)
theorem y_aas {a n i v k2 : Nat} {x : vp_A} {f : Nat → Option Nat} (hC : y_ok ε κ q fr lo mc ms) (k : Nat) (hk : ws[k]? = some (a, .inl (y_c ε 3, n, .inr (.inr (.inr (.inr f)))))) (hv : ws[k2]? = some (v, .inl (y_c ε 0, x))) (hF : z_F q pc = some .aastore) (hi : i < n) (hn : n < 2 ^ 31) (he : ws.set k (a, .inl (y_c ε 3, n, .inr (.inr (.inr (.inr (va_up f i (some v))))))) = ws2) (kk : y_G ε κ q nc ns ws2 (pc + 1, lv, st, [])) : y_G ε κ q nc ns ws (pc, lv, .ref v :: .int (nI i) :: .ref a :: st, []) := by
  obtain ⟨hx, hb, hml, hts, hown, hK, hN, hE, hA, hR, hdec⟩ := id hC
  refine y_inW (fun H locs ls hl hP hD hS => ?_)
  have e : (nI i).toNatClampNeg = i := nI_clamp (by omega)
  obtain ⟨comp, cI, kA, f1, -, f2, f3, f4⟩ := arrayOverA_spec (hE.2.2.2.2.2.2.2.2.2 #[])
  have r3 : (k_s κ).vm.findClass ("[" ++ (FieldType.array .int).toString) = some (y_c ε 3) := (hK.2 3 _ rfl).2
  have r0 : (k_s κ).vm.findClass ("[" ++ FieldType.int.toString) = some (y_c ε 0) := (hK.2 0 _ rfl).2
  obtain rfl : cI = y_c ε 3 := Option.some.inj (f4.symm.trans r3)
  obtain rfl : comp = y_c ε 0 := Option.some.inj (f1.symm.trans r0)
  obtain ⟨kC, hkC, -⟩ := Vm.findClass_spec f1
  have hvm0 : ∀ (cA : ClassId) (x : vp_A), (vp_cell cA x).vm = .none ∧ (vp_cell cA x).cls = cA := by
    intro cA x
    obtain ⟨n, f | f | f | f | f⟩ := x <;> exact ⟨rfl, rfl⟩
  refine W.aast (k := kA) (kv := kC) (kcomp := kC) (comp := y_c ε 0) (t := .array .int) hx hb (hP k _ hk) (fun z h => by cases h) (fun h => by cases h) f2 f3 rfl hkC ⟨(fun h => z_inN hi hn (Or.inl h)), by show _ < (arrV _ _ _).slots.size; rw [arrV_size, e]; exact hi⟩ (hP k2 _ hv) (fun z h => by rw [(hvm0 _ _).1] at h; cases h) (by rw [(hvm0 _ _).2]; exact hkC) (by rw [(hvm0 _ _).2]; exact y_asg _ _) rfl rfl (y_dcd hC hF) fun H1 e1 z oq => ?_
  rw [← he] at kk
  refine y_outW kk hl (hP.set hD hk ?_ oq) (hD.set hk) (hS.put z oq (hD.2 k _ hk))
  show H1[a]? = some (vp_cell _ _)
  rw [e1]
  rw [vp_cell_q, vp_cell_q, arrV_store]
  congr 2
  funext j
  by_cases hq : j = i
  · subst hq
    simp [updV, va_up, va_rf, e]
  · simp [updV, va_up, hq, e]
theorem y_get {a k j ci idx : Nat} {C : String} {T : u_T} {N : Nat} {fs : List Value} {v : Value} (hC : y_ok ε κ q fr lo mc ms) (hcl : z_cl[ci]? = some (C, T, N)) (hk : ws[k]? = some (a, .inr (ci, fs))) (hj : Nat.ble (j + 1) N = true) (hF : z_F q pc = some (.getfield idx)) (hw : Cond.fieldLink (z_own q.2.2.2.2.1) idx (T j).1 (T j).2.1 (T j).2.2.1 ∈ z_AW) (hv : fs[j]? = some v) (kk : y_G ε κ q nc ns ws (pc + 3, lv, v :: st, [])) : y_G ε κ q nc ns ws (pc, lv, .ref a :: st, []) := by
  obtain ⟨hx, hb, hml, hts, hown, hK, hN, hE, hA, hR, hdec⟩ := id hC
  exact y_inW (fun H locs ls hl hP hD hS => va_get (own := z_own q.2.2.2.2.1) hx hb hts (z_fields hcl) hown hK hP k hk hcl j (Nat.le_of_ble_eq_true hj) (hts _ hw) (fun _ h9 => h9) hv (y_dcd hC hF) (y_outW kk hl hP hD hS))
theorem y_put {a k j ci idx : Nat} {C : String} {T : u_T} {N : Nat} {fs : List Value} {v : Value} {ty : FieldType} (hC : y_ok ε κ q fr lo mc ms) (hcl : z_cl[ci]? = some (C, T, N)) (hk : ws[k]? = some (a, .inr (ci, fs))) (hj : Nat.ble (j + 1) N = true) (hF : z_F q pc = some (.putfield idx)) (hw : Cond.fieldLink (z_own q.2.2.2.2.1) idx (T j).1 (T j).2.1 (T j).2.2.1 ∈ z_AW) (hfin : (T j).2.2.2 = false) (hd : parseFieldDescriptor (T j).2.2.1 = some ty) (hn : narrow ty v = v) (hfit : fits ty v = true) (hl0 : Nat.ble (j + 1) fs.length = true) (he : ws.set k (a, .inr (ci, fs.set j v)) = ws2) (kk : y_G ε κ q nc ns ws2 (pc + 3, lv, st, [])) : y_G ε κ q nc ns ws (pc, lv, v :: .ref a :: st, []) := by
  obtain ⟨hx, hb, hml, hts, hown, hK, hN, hE, hA, hR, hdec⟩ := id hC
  obtain ⟨ty0, hty, hnm⟩ := z_names hcl
  refine y_inW (fun H locs ls hl hP hD hS => va_put (own := z_own q.2.2.2.2.1) hx hb hts (z_fields hcl) ty0 hty hnm hown hK hP hD hS k hk hcl j (Nat.le_of_ble_eq_true hj) (hts _ hw) (fun _ h9 => h9) hfin hd hn hfit (Nat.le_of_ble_eq_true hl0) (y_dcd hC hF) (fun H1 locs1 hP1 hD1 hS1 => ?_))
  rw [he] at hP1 hD1
  exact y_outW kk hl hP1 hD1 hS1
theorem y_putF {a k j ci idx : Nat} {C : String} {T : u_T} {N : Nat} {fs : List Value} {v : Value} {ty : FieldType} (hC : y_ok ε κ q fr lo mc ms) (hin : (k_me κ).name = "<init>") (hcl : z_cl[ci]? = some (C, T, N)) (hk : ws[k]? = some (a, .inr (ci, fs))) (hj : Nat.ble (j + 1) N = true) (hF : z_F q pc = some (.putfield idx)) (hw : Cond.fieldLink (z_own q.2.2.2.2.1) idx (T j).1 (T j).2.1 (T j).2.2.1 ∈ z_AW) (hfin : (T j).2.2.2 = true) (hdecl : (T j).1 = z_own q.2.2.2.2.1) (hd : parseFieldDescriptor (T j).2.2.1 = some ty) (hn : narrow ty v = v) (hfit : fits ty v = true) (hl0 : Nat.ble (j + 1) fs.length = true) (he : ws.set k (a, .inr (ci, fs.set j v)) = ws2) (kk : y_G ε κ q nc ns ws2 (pc + 3, lv, st, [])) : y_G ε κ q nc ns ws (pc, lv, v :: .ref a :: st, []) := by
  obtain ⟨hx, hb, hml, hts, hown, hK, hN, hE, hA, hR, hdec⟩ := id hC
  obtain ⟨ty0, hty, hnm⟩ := z_names hcl
  refine y_inW (fun H locs ls hl hP hD hS => va_putF (own := z_own q.2.2.2.2.1) hx hb hts (z_fields hcl) ty0 hty hnm hown hK hP hD hS k hk hcl j (Nat.le_of_ble_eq_true hj) (hts _ hw) (fun _ h9 => h9) hfin hin hdecl hd hn hfit (Nat.le_of_ble_eq_true hl0) (y_dcd hC hF) (fun H1 locs1 hP1 hD1 hS1 => ?_))
  rw [he] at hP1 hD1
  exact y_outW kk hl hP1 hD1 hS1
/-- new cells stand ahead of the others -/
theorem y_newa {n : Nat} {a0 : vp_A} (hC : y_ok ε κ q fr lo mc ms) (t : Nat) {atype : ArrayType} (hw : Cond.arrayClass (newarray.typeOf atype) ∈ z_AW) (ht : (z_tys (y_c ε))[t]? = some (y_c ε t, newarray.typeOf atype)) (ha : ∀ c : ClassId, vp_cell c a0 = arrV c n (fun _ => defaultValue (newarray.typeOf atype))) (hn : n < 2 ^ 26) (hby : componentBytes (newarray.typeOf atype) ≤ 8) (hc : nc + 1 ≤ mc) (hs : ns + n ≤ ms) (hF : z_F q pc = some (.newarray atype)) (kk : ∀ a : Nat, y_G ε κ q (nc + 1) (ns + n) ((a, .inl (y_c ε t, a0)) :: ws) (pc + 2, lv, .ref a :: st, [])) : y_G ε κ q nc ns ws (pc, lv, .int (nI n) :: st, []) := by
  obtain ⟨hx, hb, hml, hts, hown, hK, hN, hE, hA, hR, hdec⟩ := id hC
  refine y_inW (fun H locs ls hl hP hD hS => zl_newa t (N' := n) (a0 := a0) hx hb (hts _ hw) ht hK hP hD hS hA ha (nI_pos (by omega)) (nI_clamp (by omega)) ?_ (by rw [hR]; exact hc) (by rw [hR]; exact hs) (y_dcd hC hF) (fun a H1 hP1 hD1 hS1 => y_outW (kk a) hl (y_comm (a := ws) hP1) (y_commD (a := ws) hD1) hS1))
  have := Nat.mul_le_mul (show n ≤ 2 ^ 26 by omega) hby
  omega
theorem y_new {ci idx : Nat} {C : String} {T : u_T} {N : Nat} {fs : List Value} (hC : y_ok ε κ q fr lo mc ms) (hcl : z_cl[ci]? = some (C, T, N)) (ty : Nat → FieldType) (hty : ∀ k, k < N → parseFieldDescriptor (T k).2.2.1 = some (ty k)) (hw1 : Cond.classLink (z_own q.2.2.2.2.1) idx C ∈ z_AW) (hw2 : Cond.instantiable C N ∈ z_AW) (hw3 : Cond.initialized C ∈ z_AW) (hfs : ∀ j, j < N → defaultValue (ty j) = vp_V fs j) (hc : nc + 1 ≤ mc) (hs : ns + N ≤ ms) (hF : z_F q pc = some (.new idx)) (kk : ∀ a : Nat, y_G ε κ q (nc + 1) (ns + N) ((a, .inr (ci, fs)) :: ws) (pc + 3, lv, .ref a :: st, [])) : y_G ε κ q nc ns ws (pc, lv, st, []) := by
  obtain ⟨hx, hb, hml, hts, hown, hK, hN, hE, hA, hR, hdec⟩ := id hC
  exact y_inW (fun H locs ls hl hP hD hS => va_new (own := z_own q.2.2.2.2.1) hx hb hts (z_fields hcl) ty hty hown (hts _ hw1) (hts _ hw2) (hts _ hw3) hK hP hD hS hA hcl hfs (by rw [hR]; exact hc) (by rw [hR]; exact hs) (y_dcd hC hF) (fun a H1 hP1 hD1 hS1 => y_outW (kk a) hl (y_comm (a := ws) hP1) (y_commD (a := ws) hD1) hS1))
/-- int[n][] -/
theorem y_newq {n idx : Nat} (hC : y_ok ε κ q fr lo mc ms) (hw1 : Cond.classLink (z_own q.2.2.2.2.1) idx (FieldType.array .int).toString ∈ z_AW) (hn : n < 2 ^ 26) (hc : nc + 1 ≤ mc) (hs : ns + n ≤ ms) (hF : z_F q pc = some (.anewarray idx)) (kk : ∀ a : Nat, y_G ε κ q (nc + 1) (ns + n) ((a, .inl (y_c ε 3, n, .inr (.inr (.inr (.inr (fun _ => none)))))) :: ws) (pc + 3, lv, .ref a :: st, [])) : y_G ε κ q nc ns ws (pc, lv, .int (nI n) :: st, []) := by
  obtain ⟨hx, hb, hml, hts, hown, hK, hN, hE, hA, hR, hdec⟩ := id hC
  have e : (nI n).toNatClampNeg = n := nI_clamp (by omega)
  refine y_inW (fun H locs ls hl hP hD hS => W.anewA (own := z_own q.2.2.2.2.1) hx hb hown (hts _ hw1) (hE.2.2.2.2.2.2.2.2.2 _) rfl (y_dcd hC hF) rfl (nI_pos (by omega)) (by rw [e]; omega) (by rw [hR]; exact hc) (by rw [hR, e]; exact hs) fun cA kA comp f1 f2 f3 f4 => ?_)
  have r3 : (k_s κ).vm.findClass ("[" ++ (FieldType.array .int).toString) = some (y_c ε 3) := (hK.2 3 _ rfl).2
  obtain rfl : cA = y_c ε 3 := Option.some.inj (f1.symm.trans r3)
  rw [e]
  generalize hH1 : H.push ({ cls := y_c ε 3, slots := Array.replicate n .null, vm := .none } : Cell) = H1
  have z1 : H1.size = H.size + 1 := by rw [← hH1, Array.size_push]
  have e1 : H1[H.size]? = some (arrV (y_c ε 3) n (fun _ => .null)) := by rw [← hH1, Array.getElem?_push_size, ← arrV_new]
  have o1 : ∀ q : Nat, q < H.size → H1[q]? = H[q]? := fun q hq => by rw [← hH1, Array.getElem?_push, if_neg (Nat.ne_of_lt hq)]
  have hk : ∀ (k : Nat) (x : Nat × va_E), ws[k]? = some x → H1[x.1]? = H[x.1]? := fun k x hx => o1 x.1 ((hP k x hx).lt)
  have hP1 : va_P (y_D ε) z_cl (ws ++ [(H.size, .inl (y_c ε 3, n, .inr (.inr (.inr (.inr (fun _ => none))))))]) H1 := (hP.kept hk).app (fun k x hx => by
    have hz : k < 1 := (List.getElem?_eq_some_iff.mp hx).1
    rw [show k = 0 by omega] at hx
    cases hx
    show H1[H.size]? = some (vp_cell _ _)
    rw [vp_cell_q]
    exact e1)
  exact y_outW (kk H.size) hl (y_comm (a := ws) hP1) (y_commD (a := ws) (hD.push hP rfl (hA _ hS.1))) ⟨Nat.le_trans hS.1 (by omega), fun x h1 h2 => (o1 x (Nat.lt_of_lt_of_le h1 hS.1)).trans (hS.2.1 x h1 h2), hS.2.2⟩
theorem y_nB : "[" ++ FieldType.byte.toString = "[B" := by decide
theorem y_clone {a n k idx : Nat} {f : Nat → Int32} (hC : y_ok ε κ q fr lo mc ms) (hk : ws[k]? = some (a, .inl (y_c ε 2, n, .inl f))) (hF : z_F q pc = some (.invokevirtual idx)) (hw1 : Cond.methodLink (z_own q.2.2.2.2.1) idx ⟨"[B", "clone", "()Ljava/lang/Object;"⟩ ∈ z_AW) (hw2 : Cond.sameMethod "[B" "java/lang/Object" "clone" "()Ljava/lang/Object;" ∈ z_AW) (hw3 : Cond.native ⟨"java/lang/Object", "clone", "()Ljava/lang/Object;"⟩ ∈ z_AW) (hw4 : Cond.instanceMethod ⟨"java/lang/Object", "clone", "()Ljava/lang/Object;"⟩ ∈ z_AW) (hw5 : Cond.selects "[B" ⟨"[B", "clone", "()Ljava/lang/Object;"⟩ ⟨"java/lang/Object", "clone", "()Ljava/lang/Object;"⟩ ∈ z_AW) (hw6 : Cond.castable "[B" "java/lang/Cloneable" ∈ z_NW) (hfit : ∀ j, fits .byte (.int (f j)) = true) (hfr : 1 ≤ fr) (hlo : Nat.ble ((st.map fun v => v.category).sum + 14) lo = true) (hc : nc + 1 ≤ mc) (hs : ns + n ≤ ms) (kk : ∀ a2 : Nat, y_G ε κ q (nc + 1) (ns + n) ((a2, .inl (y_c ε 2, n, .inl f)) :: ws) (pc + 3, lv, .ref a2 :: st, [])) : y_G ε κ q nc ns ws (pc, lv, .ref a :: st, []) := by
  obtain ⟨hx, hb, hml, hts, hown, hK, hN, hE, hA, hR, hdec⟩ := id hC
  have hle := Nat.le_of_ble_eq_true hlo
  have hnm : (k_s κ).vm.findClass "[B" = some (y_c ε 2) := by rw [← y_nB]; exact (hK.2 2 _ rfl).2
  refine y_inW (fun H locs ls hl hP hD hS => va_clone (own := z_own q.2.2.2.2.1) (ty := .byte) hx hb (hml.trans hl.1.symm) hown (hts _ hw1) (hts _ hw2) (hts _ hw3) (hts _ hw4) (hts _ hw5) (hN _ hw6) hK hP hD hS hA k 2 hk rfl hnm (fun i v hv => ?_) (by rw [hR]; exact hfr) (by rw [hR]; exact hle) (by rw [hR]; exact hc) (by rw [hR]; exact hs) (y_dcd hC hF) (fun a2 H1 hK1 hP1 hD1 hS1 => y_outW (kk a2) hl (y_comm (a := ws) hP1) (y_commD (a := ws) hD1) hS1))
  have hi : i < n := by
    have h1 := (Array.getElem?_eq_some_iff.mp hv).1
    rw [show (vp_cell (y_c ε 2) (n, .inl f)).slots.size = n from arrV_size _ _ _] at h1
    exact h1
  rw [show (vp_cell (y_c ε 2) (n, .inl f)).slots[i]? = some (.int (f i)) from arrV_read _ _ hi] at hv
  cases hv
  exact hfit i
theorem y_castB {a n k idx : Nat} {f : Nat → Int32} (hC : y_ok ε κ q fr lo mc ms) (hk : ws[k]? = some (a, .inl (y_c ε 2, n, .inl f))) (hF : z_F q pc = some (.checkcast idx)) (hw1 : Cond.classLink (z_own q.2.2.2.2.1) idx "[B" ∈ z_AW) (kk : y_G ε κ q nc ns ws (pc + 3, lv, .ref a :: st, [])) : y_G ε κ q nc ns ws (pc, lv, .ref a :: st, []) := by
  obtain ⟨hx, hb, hml, hts, hown, hK, hN, hE, hA, hR, hdec⟩ := id hC
  have hnm : (k_s κ).vm.findClass "[B" = some (y_c ε 2) := by rw [← y_nB]; exact (hK.2 2 _ rfl).2
  exact y_inW (fun H locs ls hl hP hD hS => va_castA (own := z_own q.2.2.2.2.1) hx hb hown (hts _ hw1) hP k hk hnm (y_dcd hC hF) (y_outW kk hl hP hD hS))
/-! old cells -/
theorem y_gsC {idx : Nat} (hC : y_ok ε κ q fr lo mc ms) (hF : z_F q pc = some (.getstatic idx)) (hw : Cond.fieldLink (z_own q.2.2.2.2.1) idx "java/lang/String" "COMPACT_STRINGS" "Z" ∈ z_AW) (kk : y_G ε κ q nc ns ws (pc + 3, lv, .int (nI 1) :: st, [])) : y_G ε κ q nc ns ws (pc, lv, st, []) := by
  obtain ⟨hx, hb, hml, hts, hown, hK, hN, hE, hA, hR, hdec⟩ := id hC
  exact y_inW (fun H locs ls hl hP hD hS => va_gets (own := z_own q.2.2.2.2.1) hx hb hE.1 hS hown (hts _ hw) (fun _ h9 => h9) (y_dcd hC hF) (y_outW kk hl hP hD hS))
theorem y_gsF {idx : Nat} (hC : y_ok ε κ q fr lo mc ms) (hF : z_F q pc = some (.getstatic idx)) (hw : Cond.fieldLink (z_own q.2.2.2.2.1) idx "jdk/internal/util/Preconditions" "SIOOBE_FORMATTER" "Ljava/util/function/BiFunction;" ∈ z_AW) (k1 : y_G ε κ q nc ns ws (pc + 3, lv, .null :: st, [])) (k2 : ∀ a : Nat, y_G ε κ q nc ns ws (pc + 3, lv, .ref a :: st, [])) : y_G ε κ q nc ns ws (pc, lv, st, []) := by
  obtain ⟨hx, hb, hml, hts, hown, hK, hN, hE, hA, hR, hdec⟩ := id hC
  refine y_inW (fun H locs ls hl hP hD hS => va_gets (own := z_own q.2.2.2.2.1) hx hb hE.2.1 hS hown (hts _ hw) (fun _ h9 => h9) (y_dcd hC hF) ?_)
  rcases hE.2.2.2.2.2.2.1 with h | ⟨a, h⟩
  · rw [h]; exact y_outW k1 hl hP hD hS
  · rw [h]; exact y_outW (k2 a) hl hP hD hS
theorem y_gs1 {idx : Nat} (hC : y_ok ε κ q fr lo mc ms) (hF : z_F q pc = some (.getstatic idx)) (hw : Cond.fieldLink (z_own q.2.2.2.2.1) idx "java/lang/Integer" "DigitOnes" "[B" ∈ z_AW) (kk : y_G ε κ q nc ns ws (pc + 3, lv, .ref (y_a ε 40) :: st, [])) : y_G ε κ q nc ns ws (pc, lv, st, []) := by
  obtain ⟨hx, hb, hml, hts, hown, hK, hN, hE, hA, hR, hdec⟩ := id hC
  exact y_inW (fun H locs ls hl hP hD hS => va_gets (own := z_own q.2.2.2.2.1) hx hb hE.2.2.1.1 hS hown (hts _ hw) (fun _ h9 => h9) (y_dcd hC hF) (y_outW kk hl hP hD hS))
theorem y_gs2 {idx : Nat} (hC : y_ok ε κ q fr lo mc ms) (hF : z_F q pc = some (.getstatic idx)) (hw : Cond.fieldLink (z_own q.2.2.2.2.1) idx "java/lang/Integer" "DigitTens" "[B" ∈ z_AW) (kk : y_G ε κ q nc ns ws (pc + 3, lv, .ref (y_a ε 41) :: st, [])) : y_G ε κ q nc ns ws (pc, lv, st, []) := by
  obtain ⟨hx, hb, hml, hts, hown, hK, hN, hE, hA, hR, hdec⟩ := id hC
  exact y_inW (fun H locs ls hl hP hD hS => va_gets (own := z_own q.2.2.2.2.1) hx hb hE.2.2.2.1.1 hS hown (hts _ hw) (fun _ h9 => h9) (y_dcd hC hF) (y_outW kk hl hP hD hS))
theorem y_dg1 {i : Nat} (hC : y_ok ε κ q fr lo mc ms) (hF : z_F q pc = some .baload) (hi : i < 100) (kk : y_G ε κ q nc ns ws (pc + 1, lv, .int (nI (48 + i % 10)) :: st, [])) : y_G ε κ q nc ns ws (pc, lv, .int (nI i) :: .ref (y_a ε 40) :: st, []) := by
  obtain ⟨hx, hb, hml, hts, hown, hK, hN, hE, hA, hR, hdec⟩ := id hC
  exact y_inW (fun H locs ls hl hP hD hS => va_tb hx hb hE.2.2.1.2 hS (z_inN hi (by decide)) (v := .int (nI (48 + i % 10))) (by rw [nI_clamp (by omega)]) (y_dcd hC hF) (y_outW kk hl hP hD hS))
theorem y_dg2 {i : Nat} (hC : y_ok ε κ q fr lo mc ms) (hF : z_F q pc = some .baload) (hi : i < 100) (kk : y_G ε κ q nc ns ws (pc + 1, lv, .int (nI (48 + i / 10)) :: st, [])) : y_G ε κ q nc ns ws (pc, lv, .int (nI i) :: .ref (y_a ε 41) :: st, []) := by
  obtain ⟨hx, hb, hml, hts, hown, hK, hN, hE, hA, hR, hdec⟩ := id hC
  exact y_inW (fun H locs ls hl hP hD hS => va_tb hx hb hE.2.2.2.1.2 hS (z_inN hi (by decide)) (v := .int (nI (48 + i / 10))) (by rw [nI_clamp (by omega)]) (y_dcd hC hF) (y_outW kk hl hP hD hS))
theorem y_slen (hC : y_ok ε κ q fr lo mc ms) (hF : z_F q pc = some .arraylength) (kk : y_G ε κ q nc ns ws (pc + 1, lv, .int (nI (y_L ε)) :: st, [])) : y_G ε κ q nc ns ws (pc, lv, .ref (y_a ε 42) :: st, []) := by
  obtain ⟨hx, hb, hml, hts, hown, hK, hN, hE, hA, hR, hdec⟩ := id hC
  exact y_inW (fun H locs ls hl hP hD hS => va_tlen hx hb hE.2.2.2.2.2.2.2.1 hS (v := nI (y_L ε)) rfl (y_dcd hC hF) (y_outW kk hl hP hD hS))
theorem y_sld {i : Nat} (hC : y_ok ε κ q fr lo mc ms) (hF : z_F q pc = some .iaload) (hi : i < y_L ε) (kk : y_G ε κ q nc ns ws (pc + 1, lv, .int (y_x ε i) :: st, [])) : y_G ε κ q nc ns ws (pc, lv, .int (nI i) :: .ref (y_a ε 42) :: st, []) := by
  obtain ⟨hx, hb, hml, hts, hown, hK, hN, hE, hA, hR, hdec⟩ := id hC
  have h260 : y_L ε ≤ 260 := hE.2.2.2.2.2.2.2.2.1
  exact y_inW (fun H locs ls hl hP hD hS => va_ti hx hb hE.2.2.2.2.2.2.2.1 hS (z_inN hi (by omega)) (v := .int (y_x ε i)) (by rw [nI_clamp (by omega)]) (y_dcd hC hF) (y_outW kk hl hP hD hS))
theorem y_ldS {i : Nat} (hC : y_ok ε κ q fr lo mc ms) (ho : z_own q.2.2.2.2.1 = "BallotWaysLaw") (hi : i < 13) (hF : z_F q pc = some (.ldc (y_ix.getD i 0))) (kk : y_G ε κ q nc ns ws (pc + 2, lv, .ref (y_a ε i) :: st, [])) : y_G ε κ q nc ns ws (pc, lv, st, []) := by
  obtain ⟨hx, hb, hml, hts, hown, hK, hN, hE, hA, hR, hdec⟩ := id hC
  rw [ho] at hown
  exact y_inW (fun H locs ls hl hP hD hS => va_ldcS hx hb hown (hE.2.2.2.2.2.1 i hi) (y_dcd hC hF) (y_outW kk hl hP hD hS))
/-! a text: made, or a constant -/
/-- the String at a, its bytes at v: f, the text L; B: its cells, if it was made -/
def y_Tv (ε : y_Ev) (a v : Nat) (f : Nat → Int32) (L : List Nat) (B : va_W) : Prop := ((∃ h z : Int32, B = [(a, .inr (6, [.ref v, .int (nI 0), .int h, .int z])), (v, .inl (y_c ε 2, L.length, .inl f))]) ∨ (B = [] ∧ ∃ i, i < 13 ∧ a = y_a ε i ∧ v = y_a ε (i + 20) ∧ L = y_bts i ∧ f = fun j => (y_byt.getD i []).getD j 0)) ∧ (∀ k, k < L.length → f k = nI (L.getD k 0)) ∧ (∀ c ∈ L, c < 128) ∧ L.length ≤ 200
theorem y_len_i : ∀ i, i < 13 → y_len.getD i 0 = (y_bts i).length := by decide +kernel
theorem y_tval {a v k idx : Nat} {f : Nat → Int32} {L : List Nat} {X B : va_W} (hC : y_ok ε κ q fr lo mc ms) (hT : y_Tv ε a v f L B) (hk : X.length = k) (hF : z_F q pc = some (.getfield idx)) (hw : Cond.fieldLink (z_own q.2.2.2.2.1) idx "java/lang/String" "value" "[B" ∈ z_AW) (kk : y_G ε κ q nc ns (X ++ B) (pc + 3, lv, .ref v :: st, [])) : y_G ε κ q nc ns (X ++ B) (pc, lv, .ref a :: st, []) := by
  obtain ⟨⟨h, z, rfl⟩ | ⟨rfl, i, hi, rfl, rfl, rfl, rfl⟩, -⟩ := hT
  · exact y_get (k := k) (ci := 6) (j := 0) hC rfl (by rw [List.getElem?_append_right (by omega), hk, Nat.sub_self]; rfl) rfl hF hw rfl kk
  · obtain ⟨hx, hb, hml, hts, hown, hK, hN, hE, hA, hR, hdec⟩ := id hC
    exact y_inW (fun H locs ls hl hP hD hS => vk_getf (own := z_own q.2.2.2.2.1) hx hb (hE.2.2.2.2.1.1 i hi).2.2.1 hS hown (hts _ hw) (fun _ h9 => h9) (y_dcd hC hF) (y_outW kk hl hP hD hS))
theorem y_tcod {a v k idx : Nat} {f : Nat → Int32} {L : List Nat} {X B : va_W} (hC : y_ok ε κ q fr lo mc ms) (hT : y_Tv ε a v f L B) (hk : X.length = k) (hF : z_F q pc = some (.getfield idx)) (hw : Cond.fieldLink (z_own q.2.2.2.2.1) idx "java/lang/String" "coder" "B" ∈ z_AW) (kk : y_G ε κ q nc ns (X ++ B) (pc + 3, lv, .int (nI 0) :: st, [])) : y_G ε κ q nc ns (X ++ B) (pc, lv, .ref a :: st, []) := by
  obtain ⟨⟨h, z, rfl⟩ | ⟨rfl, i, hi, rfl, rfl, rfl, rfl⟩, -⟩ := hT
  · exact y_get (k := k) (ci := 6) (j := 1) hC rfl (by rw [List.getElem?_append_right (by omega), hk, Nat.sub_self]; rfl) rfl hF hw rfl kk
  · obtain ⟨hx, hb, hml, hts, hown, hK, hN, hE, hA, hR, hdec⟩ := id hC
    exact y_inW (fun H locs ls hl hP hD hS => vk_getf (own := z_own q.2.2.2.2.1) hx hb (hE.2.2.2.2.1.1 i hi).2.1 hS hown (hts _ hw) (fun _ h9 => h9) (y_dcd hC hF) (y_outW kk hl hP hD hS))
theorem y_tlen {a v k : Nat} {f : Nat → Int32} {L : List Nat} {X B : va_W} (hC : y_ok ε κ q fr lo mc ms) (hT : y_Tv ε a v f L B) (hk : X.length = k) (hF : z_F q pc = some .arraylength) (kk : y_G ε κ q nc ns (X ++ B) (pc + 1, lv, .int (nI L.length) :: st, [])) : y_G ε κ q nc ns (X ++ B) (pc, lv, .ref v :: st, []) := by
  obtain ⟨⟨h, z, rfl⟩ | ⟨rfl, i, hi, rfl, rfl, rfl, rfl⟩, -⟩ := hT
  · exact y_alen hC (k + 1) 2 rfl (by rw [List.getElem?_append_right (by omega), hk, Nat.add_sub_cancel_left]; rfl) hF kk
  · obtain ⟨hx, hb, hml, hts, hown, hK, hN, hE, hA, hR, hdec⟩ := id hC
    have h1 := (hE.2.2.2.2.1.1 i hi).2.2.2
    rw [y_len_i i hi] at h1
    exact y_inW (fun H locs ls hl hP hD hS => va_tlen hx hb h1 hS (v := nI (y_bts i).length) rfl (y_dcd hC hF) (y_outW kk hl hP hD hS))
theorem y_tbal {a v k i : Nat} {f : Nat → Int32} {L : List Nat} {X B : va_W} (hC : y_ok ε κ q fr lo mc ms) (hT : y_Tv ε a v f L B) (hk : X.length = k) (hF : z_F q pc = some .baload) (hi : i < L.length) (kk : y_G ε κ q nc ns (X ++ B) (pc + 1, lv, .int (nI (L.getD i 0)) :: st, [])) : y_G ε κ q nc ns (X ++ B) (pc, lv, .int (nI i) :: .ref v :: st, []) := by
  obtain ⟨h0, hf, hc, h200⟩ := hT
  rcases h0 with ⟨h, z, rfl⟩ | ⟨rfl, j, hj, rfl, rfl, rfl, rfl⟩
  · exact y_bal hC (k + 1) (by rw [List.getElem?_append_right (by omega), hk, Nat.add_sub_cancel_left]; rfl) hF hi (by omega) (hf i hi) kk
  · obtain ⟨hx, hb, hml, hts, hown, hK, hN, hE, hA, hR, hdec⟩ := id hC
    have h1 := (hE.2.2.2.2.1.1 j hj).2.2.2
    rw [y_len_i j hj] at h1
    exact y_inW (fun H locs ls hl hP hD hS => va_tb hx hb h1 hS (z_inN hi (by omega)) (v := .int (nI ((y_bts j).getD i 0))) (by rw [nI_clamp (by omega)]; exact congrArg Value.int (hf i hi)) (y_dcd hC hF) (y_outW kk hl hP hD hS))
theorem y_trec {a v : Nat} {f : Nat → Int32} {L : List Nat} {X B : va_W} (hC : y_ok ε κ q fr lo mc ms) (hT : y_Tv ε a v f L B) {H : Heap} {locs : List Loc} (hP : va_P (y_D ε) z_cl (B ++ X) H) (hS : va_S (k_A κ) (k_s κ).heap H locs) : ∃ cell : Cell, H[a]? = some cell ∧ cell.vm.isStatics = false ∧ (k_s κ).vm.findClass "java/lang/String" = some cell.cls := by
  obtain ⟨hx, hb, hml, hts, hown, hK, hN, hE, hA, hR, hdec⟩ := id hC
  obtain ⟨⟨h, z, rfl⟩ | ⟨rfl, i, hi, rfl, rfl, rfl, rfl⟩, -⟩ := hT
  · exact va_recv (q := (RJ0, TJ0, 4)) (ci := 6) (q0 := 0) hK hP rfl rfl
  · exact vk_recv hE.2.2.2.2.1 hi hS
theorem y_fitN : ∀ c, c < 128 → fits .byte (.int (nI c)) = true := by decide +kernel
/-- the text's bytes go into an array of the world -/
theorem y_tcpy {a v k n1 b dp : Nat} {f g : Nat → Int32} {L : List Nat} {X B : va_W} (hC : y_ok ε κ q fr lo mc ms) (hT : y_Tv ε a v f L B) (k1 : Nat) (h1 : X[k1]? = some (b, .inl (y_c ε 2, n1, .inl g))) {idx : Nat} (hF : z_F q pc = some (.invokestatic idx)) (hw1 : Cond.methodLink (z_own q.2.2.2.2.1) idx arraycopyName ∈ z_AW) (hw2 : Cond.native arraycopyName ∈ z_AW) (hw3 : Cond.static arraycopyName ∈ z_AW) (hw4 : Cond.initialized "java/lang/System" ∈ z_AW) (hd : dp + L.length ≤ n1) (hn1 : n1 < 2 ^ 31) (hfr : 1 ≤ fr) (hlo : Nat.ble ((st.map fun v => v.category).sum + (nativeFrameWords "java/lang/System" "arraycopy" 5 + 11)) lo = true) (he : X.set k1 (b, .inl (y_c ε 2, n1, .inl (va_cpy f g 0 dp L.length))) = ws2) (kk : y_G ε κ q nc ns (ws2 ++ B) (pc + 3, lv, st, [])) : y_G ε κ q nc ns (X ++ B) (pc, lv, .int (nI L.length) :: .int (nI dp) :: .ref b :: .int (nI 0) :: .ref v :: st, []) := by
  obtain ⟨h0, hf, hc, h200⟩ := hT
  obtain ⟨hx, hb, hml, hts, hown, hK, hN, hE, hA, hR, hdec⟩ := id hC
  have hfit : ∀ i, i < (nI L.length).toNatClampNeg → fits .byte (.int (f ((nI 0).toNatClampNeg + i))) = true := by
    intro i hi
    rw [nI_clamp (by omega)] at hi
    rw [nI_clamp (by omega), Nat.zero_add, hf i hi]
    exact y_fitN _ (hc _ (by rw [List.getD_eq_getElem?_getD, List.getElem?_eq_getElem hi]; exact List.getElem_mem hi))
  have hkl : k1 < X.length := (List.getElem?_eq_some_iff.mp h1).1
  have hset : ∀ y, (X ++ B).set k1 y = X.set k1 y ++ B := fun y => List.set_append_left _ _ hkl
  have hk1 : (X ++ B)[k1]? = some (b, .inl (y_c ε 2, n1, .inl g)) := by rw [List.getElem?_append_left hkl]; exact h1
  have hle := Nat.le_of_ble_eq_true hlo
  refine y_inW (fun H locs ls hl hP hD hS => ?_)
  rcases h0 with ⟨h, z, rfl⟩ | ⟨rfl, j, hj, rfl, rfl, rfl, rfl⟩
  · refine va_copyi (own := z_own q.2.2.2.2.1) (ty := .byte) hx hb (hml.trans hl.1.symm) hown (hts _ hw1) (hts _ hw2) (hts _ hw3) (hts _ hw4) hK hP hD hS (X.length + 1) k1 2 2 (by rw [List.getElem?_append_right (by omega), Nat.add_sub_cancel_left]; rfl) hk1 rfl rfl rfl (nI_pos (by omega)) (nI_pos (by omega)) (nI_pos (by omega)) (by rw [nI_clamp (by omega), nI_clamp (by omega)]; omega) (by rw [nI_clamp (by omega), nI_clamp (by omega)]; omega) hfit (by rw [hR]; exact hfr) (by rw [hR]; exact hle) (y_dcd hC hF) (fun H1 locs1 hP1 hD1 hS1 => ?_)
    rw [nI_clamp (by omega), nI_clamp (by omega), nI_clamp (by omega), hset, he] at hP1 hD1
    exact y_outW kk hl hP1 hD1 hS1
  · have h7 := (hE.2.2.2.2.1.1 j hj).2.2.2
    rw [y_len_i j hj] at h7
    refine vk_copyt (own := z_own q.2.2.2.2.1) hx hb (hml.trans hl.1.symm) hown (hts _ hw1) (hts _ hw2) (hts _ hw3) (hts _ hw4) hK hP hD hS h7 k1 2 hk1 rfl (nI_pos (by omega)) (nI_pos (by omega)) (nI_pos (by omega)) (by rw [nI_clamp (by omega), nI_clamp (by omega)]; omega) (by rw [nI_clamp (by omega), nI_clamp (by omega)]; omega) hfit (by rw [hR]; exact hfr) (by rw [hR]; exact hle) (y_dcd hC hF) (fun H1 locs1 hP1 hD1 hS1 => ?_)
    rw [nI_clamp (by omega), nI_clamp (by omega), nI_clamp (by omega), hset, he] at hP1 hD1
    exact y_outW kk hl hP1 hD1 hS1
/-- bytes from one array of the world to another -/
theorem y_cpyb {k0 k1 n0 n1 a b sp dp n : Nat} {f g : Nat → Int32} (hC : y_ok ε κ q fr lo mc ms) (h0 : ws[k0]? = some (a, .inl (y_c ε 2, n0, .inl f))) (h1 : ws[k1]? = some (b, .inl (y_c ε 2, n1, .inl g))) {idx : Nat} (hF : z_F q pc = some (.invokestatic idx)) (hw1 : Cond.methodLink (z_own q.2.2.2.2.1) idx arraycopyName ∈ z_AW) (hw2 : Cond.native arraycopyName ∈ z_AW) (hw3 : Cond.static arraycopyName ∈ z_AW) (hw4 : Cond.initialized "java/lang/System" ∈ z_AW) (hs : sp + n ≤ n0) (hd : dp + n ≤ n1) (hn0 : n0 < 2 ^ 31) (hn1 : n1 < 2 ^ 31) (hfit : ∀ j, fits .byte (.int (f j)) = true) (hfr : 1 ≤ fr) (hlo : Nat.ble ((st.map fun v => v.category).sum + (nativeFrameWords "java/lang/System" "arraycopy" 5 + 11)) lo = true) (he : ws.set k1 (b, .inl (y_c ε 2, n1, .inl (va_cpy f g sp dp n))) = ws2) (kk : y_G ε κ q nc ns ws2 (pc + 3, lv, st, [])) : y_G ε κ q nc ns ws (pc, lv, .int (nI n) :: .int (nI dp) :: .ref b :: .int (nI sp) :: .ref a :: st, []) := by
  obtain ⟨hx, hb, hml, hts, hown, hK, hN, hE, hA, hR, hdec⟩ := id hC
  have hle := Nat.le_of_ble_eq_true hlo
  refine y_inW (fun H locs ls hl hP hD hS => va_copyi (own := z_own q.2.2.2.2.1) (ty := .byte) hx hb (hml.trans hl.1.symm) hown (hts _ hw1) (hts _ hw2) (hts _ hw3) (hts _ hw4) hK hP hD hS k0 k1 2 2 h0 h1 rfl rfl rfl (nI_pos (by omega)) (nI_pos (by omega)) (nI_pos (by omega)) (by rw [nI_clamp (by omega), nI_clamp (by omega)]; omega) (by rw [nI_clamp (by omega), nI_clamp (by omega)]; omega) (fun i _ => hfit _) (by rw [hR]; exact hfr) (by rw [hR]; exact hle) (y_dcd hC hF) (fun H1 locs1 hP1 hD1 hS1 => ?_))
  rw [nI_clamp (by omega), nI_clamp (by omega), nI_clamp (by omega), he] at hP1 hD1
  exact y_outW kk hl hP1 hD1 hS1
end YH
