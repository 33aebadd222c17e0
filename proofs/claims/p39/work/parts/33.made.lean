/-! constructors -/
theorem z_word_m {pos : Nat} {w : Cond} (h : lw_tbl[pos]? = some w) (g : goodWord w = true) : w ∈ z_AW := List.mem_filter.mpr ⟨List.mem_of_getElem? h, g⟩
theorem z_tb {w : Cond} (h : w ∈ tables_1) (g : goodWord w = true) : w ∈ z_AW := List.mem_filter.mpr ⟨List.mem_append_right _ h, g⟩
theorem z_t1 {i : Nat} {w : Cond} (h : tables_1_1[i]? = some w) (g : goodWord w = true) : w ∈ z_AW := z_tb (show w ∈ tables_1_1 ++ (tables_1_2 ++ (tables_1_3 ++ (tables_1_4 ++ (tables_1_5 ++ tables_1_6)))) from List.mem_append_left _ (List.mem_of_getElem? h)) g
theorem z_t2 {i : Nat} {w : Cond} (h : tables_1_2[i]? = some w) (g : goodWord w = true) : w ∈ z_AW := z_tb (show w ∈ tables_1_1 ++ (tables_1_2 ++ (tables_1_3 ++ (tables_1_4 ++ (tables_1_5 ++ tables_1_6)))) from List.mem_append_right _ (List.mem_append_left _ (List.mem_of_getElem? h))) g
theorem z_t3 {i : Nat} {w : Cond} (h : tables_1_3[i]? = some w) (g : goodWord w = true) : w ∈ z_AW := z_tb (show w ∈ tables_1_1 ++ (tables_1_2 ++ (tables_1_3 ++ (tables_1_4 ++ (tables_1_5 ++ tables_1_6)))) from List.mem_append_right _ (List.mem_append_right _ (List.mem_append_left _ (List.mem_of_getElem? h)))) g
theorem z_t4 {i : Nat} {w : Cond} (h : tables_1_4[i]? = some w) (g : goodWord w = true) : w ∈ z_AW := z_tb (show w ∈ tables_1_1 ++ (tables_1_2 ++ (tables_1_3 ++ (tables_1_4 ++ (tables_1_5 ++ tables_1_6)))) from List.mem_append_right _ (List.mem_append_right _ (List.mem_append_right _ (List.mem_append_left _ (List.mem_of_getElem? h))))) g
theorem z_t5 {i : Nat} {w : Cond} (h : tables_1_5[i]? = some w) (g : goodWord w = true) : w ∈ z_AW := z_tb (show w ∈ tables_1_1 ++ (tables_1_2 ++ (tables_1_3 ++ (tables_1_4 ++ (tables_1_5 ++ tables_1_6)))) from List.mem_append_right _ (List.mem_append_right _ (List.mem_append_right _ (List.mem_append_right _ (List.mem_append_left _ (List.mem_of_getElem? h)))))) g
theorem z_t6 {i : Nat} {w : Cond} (h : tables_1_6[i]? = some w) (g : goodWord w = true) : w ∈ z_AW := z_tb (show w ∈ tables_1_1 ++ (tables_1_2 ++ (tables_1_3 ++ (tables_1_4 ++ (tables_1_5 ++ tables_1_6)))) from List.mem_append_right _ (List.mem_append_right _ (List.mem_append_right _ (List.mem_append_right _ (List.mem_append_right _ (List.mem_of_getElem? h)))))) g
theorem zl_arr {args : Array Value} {s : State} {ty : FieldType} (h : (Cond.arrayClass ty).before args s = true) : ∃ cA : ClassId, s.vm.findClass ("[" ++ ty.toString) = some cA ∧ ArrOfT s cA ty := by
  obtain ⟨cA, kA, comp, h1, h2, h3⟩ := Cond.arrayClass_spec h
  exact ⟨cA, h1, fun n z => ⟨fun k h => (by cases h), kA, h2, comp, h3⟩⟩
theorem zl_tys {D : va_G} {args : Array Value} {s : State} (hts : ∀ w ∈ z_AW, w.before args s = true) (hc : ∀ (k : Nat) (q : vw_C), z_cl[k]? = some q → u_Kn s q.1 q.2.1 q.2.2 (D.1 k) (D.2 k)) (h1 : Cond.arrayClass .int ∈ z_AW) (h2 : Cond.arrayClass .long ∈ z_AW) (h3 : Cond.arrayClass .boolean ∈ z_AW) : ∃ cA : Nat → ClassId, va_K D z_cl (z_tys cA) s := by
  obtain ⟨c1, a1, b1⟩ := zl_arr (hts _ h1)
  obtain ⟨c2, a2, b2⟩ := zl_arr (hts _ h2)
  obtain ⟨c3, a3, b3⟩ := zl_arr (hts _ h3)
  refine ⟨fun k => if k = 0 then c1 else if k = 1 then c2 else c3, hc, ?_⟩
  intro k q hq
  match k, hq with
  | 0, hq => cases hq; exact ⟨b1, a1⟩
  | 1, hq => cases hq; exact ⟨b2, a2⟩
  | 2, hq => cases hq; exact ⟨b3, a3⟩
  | k + 3, hq => simp at hq
section ZN
variable {p : Program} {l : Launch} {e : Env} {R : Room} {s : State} {m : MethodId} {args : Array Value} {below : List Frame} {meth : Method} {c : Code} {Q : State → Prop}
theorem zl_newa {cc : ByteArray} {D : va_G} {cA : Nat → ClassId} {A : Nat → Prop} {H0 H : Heap} {locs : List Loc} {cells slots pc N' : Nat} {ls : Array Slot} {rest : List Value} {ws : va_W} {n : Int32} {a0 : vp_A} (t : Nat) {atype : ArrayType} (hx : p.tables.exec = Jvm.exec) (hb : c.code = cc) (harr : (Cond.arrayClass (newarray.typeOf atype)).before args s = true) (ht : (z_tys cA)[t]? = some (cA t, newarray.typeOf atype)) (hK : va_K D z_cl (z_tys cA) s) (hP : va_P D z_cl ws H) (hD : va_D A ws) (hS : va_S A H0 H locs) (hA : ∀ q, H0.size ≤ q → A q)
    (ha : ∀ c : ClassId, vp_cell c a0 = arrV c N' (fun _ => defaultValue (newarray.typeOf atype))) (hn : ¬ n < 0) (hN : n.toNatClampNeg = N') (hbytes : N' * componentBytes (newarray.typeOf atype) ≤ 536870912) (hcells : cells + 1 ≤ R.cells) (hslots : slots + N' ≤ R.slots) (hdg : decode cc pc = .ok (.newarray atype, 2))
    (kk : ∀ (q : Nat) (H1 : Heap), va_P D z_cl (ws ++ [(q, .inl (cA t, a0))]) H1 → va_D A (ws ++ [(q, .inl (cA t, a0))]) → va_S A H0 H1 locs → W p l e R s m args below meth c H1 locs (cells + 1) (slots + N') Q (F0 m (pc + 2) ls (.ref q :: rest))) : W p l e R s m args below meth c H locs cells slots Q (F0 m pc ls (.int n :: rest)) := by
  refine va_newa hx hb harr rfl hK hP hD hS hA ha hn hN hbytes hcells hslots hdg (fun q c2 H1 hK2 hP2 hD2 hS2 => ?_)
  have h1 := (hK2.2 3 (c2, newarray.typeOf atype) rfl).2
  have h2 := (hK.2 t _ ht).2
  have ec : c2 = cA t := by
    cases atype <;> exact Option.some.inj (h1.symm.trans h2)
  subst ec
  exact kk q H1 hP2 hD2 hS2
end ZN
theorem zl_joinR {A0 : Nat → Prop} {D : va_G} {cl : List vw_C} {a b a1 : va_W} {H H1 : Heap} (hP : va_P D cl (b ++ a) H) (hD : va_D A0 (b ++ a)) (hk : ∀ q : Nat, q < H.size → ¬ va_A a H.size q → H1[q]? = H[q]?) (hF : ∀ q, va_A a H.size q → A0 q) (hP1 : va_P D cl a1 H1) (hD1 : va_D (va_A a H.size) a1) : va_P D cl (b ++ a1) H1 ∧ va_D A0 (b ++ a1) :=
  va_join hP hD ((List.range a.length).map (fun i => i + b.length)) (List.range b.length) (zl_R b a) (zl_L b a) (zl_nd0 _ List.nodup_range) (fun i hi q => by
    obtain ⟨j, _, rfl⟩ := List.mem_map.mp q
    have := List.mem_range.mp hi
    omega) hk hF hP1 hD1
theorem zl_Pr {D : va_G} {cl : List vw_C} {a b : va_W} {H : Heap} (h : va_P D cl (b ++ a) H) : va_P D cl a H := fun k q hk => h (k + b.length) q (by rw [List.getElem?_append_right (by omega), Nat.add_sub_cancel]; exact hk)
theorem zl_Dr {A : Nat → Prop} {a b : va_W} (h : va_D A (b ++ a)) : va_D A a := h.sub ((List.range a.length).map (fun i => i + b.length)) (zl_nd b.length _ List.nodup_range) (zl_R b a)
/-- a world, cell by cell -/
def zk_W (cA : Nat → ClassId) (ad : Nat → Nat) : Nat → List z_E → va_W
  | _, [] => []
  | k, e :: t => (ad k, z_ce cA ad e) :: zk_W cA ad (k + 1) t
theorem zk_W_go (cA : Nat → ClassId) (ad : Nat → Nat) : ∀ (h : List z_E) (j : Nat), h.mapIdx (fun k e => (ad (k + j), z_ce cA ad e)) = zk_W cA ad j h
  | [], _ => rfl
  | e :: t, j => by
    rw [List.mapIdx_cons, Nat.zero_add]
    show _ = (ad j, z_ce cA ad e) :: zk_W cA ad (j + 1) t
    rw [← zk_W_go cA ad t (j + 1)]
    congr 1
    refine congrArg (fun f => t.mapIdx f) ?_
    funext k e
    rw [Nat.add_assoc, Nat.add_comm 1 j]
theorem zk_W_eq (cA : Nat → ClassId) (ad : Nat → Nat) (h : List z_E) : z_W cA ad h = zk_W cA ad 0 h := zk_W_go cA ad h 0
/-- the cells of an object and of what its constructor made -/
def zk_ad (h0 : Nat) (u : List Nat) : Nat → Nat := fun k => (h0 :: u).getD k 0
/-- a constructor's contract -/
def zk_C (l : Launch) (y : MethodName) (cY : ByteArray) (ci : Nat) (fs : List Value) (fr lo mc ms : Nat) (Q : List z_E → Prop) : Prop := ∀ (D : va_G) (cA : Nat → ClassId) (h0 sz : Nat), Met l y (Cond.code y cY 1 none :: z_AW) ({ frames := fr, cells := mc, slots := ms, locals := lo }) (va_Pc [.ref h0] (fun U => U.heap.size = sz ∧ va_P D z_cl [(h0, .inr (ci, fs))] U.heap ∧ va_K D z_cl (z_tys cA) U ∧ va_D (fun _ => True) [(h0, .inr (ci, fs))] ∧ z_N U)) (va_Qv (fun u : List Nat × List z_E => Q u.2) (fun u t => va_P D z_cl (z_W cA (zk_ad h0 u.1) u.2) t.heap ∧ va_K D z_cl (z_tys cA) t ∧ va_D (va_A [(h0, .inr (ci, fs))] sz) (z_W cA (zk_ad h0 u.1) u.2)) (va_A [(h0, .inr (ci, fs))] sz)) mc ms (va_A [(h0, .inr (ci, fs))] sz)
theorem zl_GoodI {y : MethodName} {cY : ByteArray} (h5 : Cond.code y cY 1 none ∈ z_AW) : GoodIn z_AW (Cond.code y cY 1 none :: z_AW) := by
  intro w hw
  refine z_AW_good w ?_
  rcases List.mem_cons.mp hw with rfl | hw
  · exact h5
  · exact hw
theorem zl_GoodS {own : String} {idx : Nat} {y : z_M} (h1 : Cond.methodLink own idx y.1 ∈ z_AW) (h2 : Cond.static y.1 ∈ z_AW) (h4 : Cond.initialized y.1.cls ∈ z_AW) (h5 : Cond.code y.1 y.2.1 y.2.2.1 y.2.2.2.1 ∈ z_AW) : GoodIn z_AW (va_wsS own idx y.1 (Cond.code y.1 y.2.1 y.2.2.1 y.2.2.2.1 :: z_AW)) := by
  intro w hw
  refine z_AW_good w ?_
  unfold va_wsS at hw
  simp only [List.cons_append, List.nil_append, List.mem_cons] at hw
  rcases hw with rfl | rfl | rfl | rfl | hw
  · exact h1
  · exact h2
  · exact h4
  · exact h5
  · exact hw
section ZI
variable {p : Program} {l : Launch} {e : Env} {R : Room} {s : State} {m : MethodId} {args : Array Value} {below : List Frame} {meth : Method} {c : Code} {Q : State → Prop}
/-- the constructor of the newest object -/
theorem zl_init {cc cY : ByteArray} {own : String} {y : MethodName} {D : va_G} {cA : Nat → ClassId} {A : Nat → Prop} {H0 H : Heap} {locs : List Loc} {cells slots nL pc idx b ci fr lo mc ms : Nat} {fs : List Value} {ls : Array Slot} {rest : List Value} {B : va_W} {Qc : List z_E → Prop}
    (hx : p.tables.exec = Jvm.exec) (hb : c.code = cc) (hml : c.maxLocals = nL) (hown : s.vm.findClass own = some m.cls) (hts : ∀ w ∈ z_AW, w.before args s = true) (hN : z_N s) (hK : va_K D z_cl (z_tys cA) s)
    (hA : ∀ q, H0.size ≤ q → A q) (hP : va_P D z_cl (B ++ [(b, .inr (ci, fs))]) H) (hD : va_D A (B ++ [(b, .inr (ci, fs))])) (hS : va_S A H0 H locs)
    (hC : zk_C l y cY ci fs fr lo mc ms Qc) (g1 : Cond.code y cY 1 none ∈ z_AW) (g2 : Cond.initialized y.cls ∈ z_AW) (g3 : Cond.methodLink own idx y ∈ z_AW) (g4 : Cond.instanceMethod y ∈ z_AW) (hy : y.name = "<init>") (hnp : y.cls ≠ "java/lang/invoke/MethodHandle" ∧ y.cls ≠ "java/lang/invoke/VarHandle" ∧ (parseMethodDescriptor y.desc).map (fun d => d.parameters.length) = some 0)
    (hR : fr + 1 ≤ R.frames ∧ 8 + (1 + 11) + lo ≤ R.locals) (hcs : cells + mc ≤ R.cells ∧ slots + ms ≤ R.slots) (hls : ls.size = nL) (hcat : (rest.map fun v => v.category).sum ≤ 8) (hd : decode cc pc = .ok (.invokespecial idx, 3))
    (kk : ∀ (u : List Nat) (h' : List z_E) (H1 : Heap) (locs1 : List Loc), Qc h' → va_P D z_cl (B ++ z_W cA (zk_ad b u) h') H1 → va_D A (B ++ z_W cA (zk_ad b u) h') → va_S A H0 H1 locs1 → W p l e R s m args below meth c H1 locs1 (cells + mc) (slots + ms) Q (F0 m (pc + 3) ls rest)) :
    W p l e R s m args below meth c H locs cells slots Q (F0 m pc ls (.ref b :: rest)) := by
  have hPc := zl_Pr hP
  have hDc := zl_Dr hD
  have hF : ∀ q, va_A [(b, .inr (ci, fs))] H.size q → A q := va_free hD hS hA ((List.range 1).map (fun i => i + B.length)) (zl_R B _)
  refine va_callv (va_runI (As := []) (rest := rest) ⟨hx, hb, hml, hown, hts⟩ (hC D cA b H.size) (cwI 0 hts (zl_GoodI g1) rfl rfl rfl (hts _ g2) (hts _ g3) (hts _ g4) hy hnp hR) ⟨fun a U g mk q => by obtain ⟨q0, q1, qP, qK, qD, qN⟩ := q; exact ⟨q0, q1, qP, va_K.moved (u := U) (U := U.calling g mk a) (Vm.Alike.refl U.vm) qK, qD, z_N_same (u := U) (U := U.calling g mk a) rfl qN⟩, fun U hU hW => ⟨rfl, by rw [hU], by rw [hU]; exact hPc, va_K.moved hW.alike hK, hDc.weaken (fun _ _ _ _ => trivial), z_N_warm hW hN⟩⟩ rfl rfl hls rfl (lv_room hcat) hd hcs) hS (fun q _ h => hF q h) hF (fun u t H1 locs1 ht hvm hw hB hz1 hk1 hS1 => ?_)
  obtain ⟨hP1, -, hD1⟩ := hB
  rw [ht] at hP1
  obtain ⟨hP2, hD2⟩ := zl_joinR hP hD hk1 hF hP1 hD1
  exact kk u.1 u.2 H1 locs1 hw hP2 hD2 hS1
/-- a static method of the tables, over the whole world -/
theorem zl_callS {cc : ByteArray} {own : String} {D : va_G} {cA : Nat → ClassId} {ad : Nat → Nat} {A : Nat → Prop} {H0 H : Heap} {locs : List Loc} {cells slots nL pc idx d y : Nat} {ls : Array Slot} {av rest : List Value} {h : List z_E} {P : z_T} {qy : z_M}
    (hx : p.tables.exec = Jvm.exec) (hb : c.code = cc) (hml : c.maxLocals = nL) (hown : s.vm.findClass own = some m.cls) (hts : ∀ w ∈ z_AW, w.before args s = true) (hN : z_N s) (hK : va_K D z_cl (z_tys cA) s) (hRf : d + 1 ≤ R.frames) (hRl : 64 * (d + 1) ≤ R.locals) (hcs : cells ≤ R.cells ∧ slots ≤ R.slots) (hls : ls.size = nL)
    (hA : ∀ q, H0.size ≤ q → A q) (hP : va_P D z_cl (z_W cA ad h) H) (hD : va_D A (z_W cA ad h)) (hS : va_S A H0 H locs)
    (hC : z_CAL d y av h P) (hy : z_mt[y]? = some qy) (g1 : qy.2.2.2.1 = none)
    (g2 : Cond.methodLink own idx qy.1 ∈ z_AW) (g3 : Cond.static qy.1 ∈ z_AW) (g5 : Cond.initialized qy.1.cls ∈ z_AW) (hnp : (parseMethodDescriptor qy.1.desc).map (fun d => d.parameters.length) = some av.length)
    (hcat : (rest.map fun v => v.category).sum ≤ 8) (hd : decode cc pc = .ok (.invokestatic idx, 3))
    (kk : ∀ (h' : List z_E) (H1 : Heap) (locs1 : List Loc), P none h' → va_P D z_cl (z_W cA ad h') H1 → va_D A (z_W cA ad h') → va_S A H0 H1 locs1 → W p l e R s m args below meth c H1 locs1 cells slots Q (F0 m (pc + 3) ls rest)) :
    W p l e R s m args below meth c H locs cells slots Q (F0 m pc ls ((av.map (z_re ad)).reverse ++ rest)) := by
  have hF : ∀ q, va_A (z_W cA ad h) H.size q → A q := va_free hD hS hA (List.range (z_W cA ad h).length) (z_all _)
  have hyf := z_m_of hy
  have hM := z_snd l D cA d y _ h P hC qy hy ad H.size
  have hr := va_runS (As := av.map (z_re ad)) (rest := rest) (g := F0 m pc ls ((av.map (z_re ad)).reverse ++ rest)) (own := own) (index := idx) (nL := nL) (cells := cells) (slots := slots) (H := H) (locs := locs) (below := below) (meth := meth) (e := e) (R := R) ⟨hx, hb, hml, hown, hts⟩ hM (va_cwS av.length hts (zl_GoodS g2 g3 g5 hyf.1) rfl rfl rfl ⟨hyf.2.2.2.2.1.1, hyf.2.2.2.2.1.2, hnp⟩ ⟨hRf, by show 8 + (qy.2.2.1 + 11) + 64 * d ≤ R.locals; have := hyf.2.2.1; omega⟩) ⟨z_blind, z_pre hP hD hK hN⟩ rfl (by simp) hls rfl (lv_room hcat) hd ⟨hcs.1, hcs.2⟩
  rw [g1] at hr
  unfold z_Q at hr
  dsimp only at hr
  refine va_callv hr hS (fun q _ h => hF q h) hF (fun u t H1 locs1 ht hvm hw hB hz1 hk1 hS1 => ?_)
  obtain ⟨hP1, hD1⟩ := z_back hP hD hF ht hB hk1
  exact kk u H1 locs1 hw hP1 hD1 hS1
end ZI
def LH (l_cells : Nat → Int64) (l_sizes : Nat → Int32) : List z_E := [.inr (0, [.ref 1, .ref 2]), .inl (1, 160, .inr (.inl l_cells)), .inl (0, 4, .inl l_sizes)]
theorem c_J7_fill_53178_l (d : Nat) {l_cells : Nat → Int64} {l_sizes : Nat → Int32} {v : Int32}  : z_CAL (d + 1) 244 [.ref 2, .int v] (LH l_cells l_sizes) (fun r h2 => ∃ (f2 : Nat → Int32), r = none ∧ h2 = (LH l_cells f2) ∧ (∀ k, k < 4 → f2 k = v)) := by
  refine e_of2 (q := zmJ7_fill_53178) rfl rfl (fun R hR => ?_)
  refine e_steps 5 (σ' := (5, [(3, .int (nI 4)), (2, .int (nI 0)), (0, .ref 2), (1, .int v)], [], (LH l_cells l_sizes))) rfl ?_
  have loop_5 : ∀ (z_5 : Nat) (k : Nat) (fl : Nat → Int32), 4 - k < z_5 → (k ≤ 4 ∧ ∀ i, i < k → fl i = v) → z_EV (d + 0) zmJ7_fill_53178 R (5, [(0, .ref 2), (1, .int v), (2, .int (nI k)), (3, .int (nI 4))], [], (LH l_cells fl)) := by
    intro z_5
    induction z_5 with
    | zero => intro k fl hm_5 _; exact absurd hm_5 (Nat.not_lt_zero _)
    | succ z_5 ih_5 =>
      intro k fl hm_5 hi_5
      obtain ⟨l1, l2⟩ := hi_5
      refine e_steps 2 (σ' := (7, [(0, .ref 2), (1, .int v), (2, .int (nI k)), (3, .int (nI 4))], [.int (nI 4), .int (nI k)], (LH l_cells fl))) rfl ?_
      refine e_if (c := nI 4 ≤ nI k) rfl (fun c_7 => ?_) (fun c_7 => ?_)
      · skip
        rw [nI_leI (by omega) (by omega)] at c_7
        refine e_steps 0 (σ' := (20, [(0, .ref 2), (1, .int v), (2, .int (nI k)), (3, .int (nI 4))], [], (LH l_cells fl))) rfl ?_
        exact e_ret rfl (trivial) (hR _ _ ⟨fl, rfl, rfl, (by exact fun k0 hk0 => l2 k0 (by omega))⟩)
      · skip
        rw [nI_leI (by omega) (by omega)] at c_7
        refine e_steps 3 (σ' := (13, [(0, .ref 2), (1, .int v), (2, .int (nI k)), (3, .int (nI 4))], [.int v, .int (nI k), .ref 2], (LH l_cells fl))) rfl ?_
        refine e_ias (LH l_cells (upd fl k v)) rfl rfl (by first | assumption | omega | rfl | trivial) (by decide) rfl ?_
        refine e_steps 0 (σ' := (14, [(0, .ref 2), (1, .int v), (2, .int (nI k)), (3, .int (nI 4))], [], (LH l_cells (upd fl k v)))) rfl ?_
        refine e_inc (n := 1) rfl rfl rfl (k + 1) (by rfl) [(2, .int (nI (k + 1))), (0, .ref 2), (1, .int v), (3, .int (nI 4))] rfl ?_
        refine e_steps 1 (σ' := (5, [(2, .int (nI (k + 1))), (0, .ref 2), (1, .int v), (3, .int (nI 4))], [], (LH l_cells (upd fl k v)))) rfl ?_
        refine e_sub [1, 2, 0, 3] rfl ?_
        exact ih_5 (k + 1) (upd fl k v) (by omega) (by exact ⟨by omega, fun i hi => by unfold upd; by_cases e : i = k; rw [if_pos e]; rw [if_neg e]; exact l2 i (by omega)⟩)
  refine e_sub [2, 3, 1, 0] rfl ?_
  exact loop_5 _ 0 l_sizes (Nat.lt_succ_self _) (by exact ⟨by omega, fun i hi => absurd hi (Nat.not_lt_zero i)⟩)
abbrev cX1_init : ByteArray := prog_3_method_1_code
def yX1_init : MethodName := ⟨RX1, "<init>", "()V"⟩
theorem dX1_init_0 : decode cX1_init 0 = .ok (.aload_n 0, 1) := z_is_ok (by decide +kernel)
theorem dX1_init_1 : decode cX1_init 1 = .ok (.invokespecial 3, 3) := z_is_ok (by decide +kernel)
theorem dX1_init_4 : decode cX1_init 4 = .ok (.aload_n 0, 1) := z_is_ok (by decide +kernel)
theorem dX1_init_5 : decode cX1_init 5 = .ok (.bipush 16, 2) := z_is_ok (by decide +kernel)
theorem dX1_init_7 : decode cX1_init 7 = .ok (.newarray .int, 2) := by decide +kernel
theorem dX1_init_9 : decode cX1_init 9 = .ok (.putfield 9, 3) := z_is_ok (by decide +kernel)
theorem dX1_init_12 : decode cX1_init 12 = .ok (.aload_n 0, 1) := z_is_ok (by decide +kernel)
theorem dX1_init_13 : decode cX1_init 13 = .ok (.iconst 0, 1) := z_is_ok (by decide +kernel)
theorem dX1_init_14 : decode cX1_init 14 = .ok (.putfield 15, 3) := z_is_ok (by decide +kernel)
theorem dX1_init_17 : decode cX1_init 17 = .ok (.return_, 1) := z_is_ok (by decide +kernel)
set_option maxHeartbeats 4000000 in
set_option maxRecDepth 100000 in
theorem k_X1 (l : Launch) : zk_C l yX1_init cX1_init 1 [.null, .int 0] 1 12 1 16 (fun h' => h' = [.inr (1, [.ref 1, .int 0]), .inl (0, 16, .inl (fun _ => 0))]) := by
  intro D cA h0 sz
  refine va_MetF (cc := cX1_init) (maxL := 1) (ret := none) (by decide) rfl ?_
  intro p e s m args below meth c s₁ B hml hv
  obtain ⟨rfl, hsz, hP, hK, hD0, hN⟩ := hv
  have hx := B.exec
  have hb := B.bytes
  have hr := B.returns
  have hts0 := atoms_spec B.pre
  have hts : ∀ w ∈ z_AW, w.before ([.ref h0] : List Value).toArray s = true := fun w hw => hts0 w (List.mem_cons_of_mem _ hw)
  have hown : s.vm.findClass RX1 = some m.cls := findClass_of_methodNamed B.named
  have hlocks := B.notSynchronized
  have hin : meth.name = "<init>" := (name_of_methodNamed B.named B.method).1
  subst hsz
  have hD := hD0.self (sz := s.heap.size)
  generalize hAe : va_A [(h0, .inr (1, [.null, .int 0]))] s.heap.size = A at hD ⊢
  have hA : ∀ q : Nat, s.heap.size ≤ q → A q := fun q h => by rw [← hAe]; exact Or.inr h
  have hS : va_S A s.heap s.heap [] := va_S.rf
  have hl := lv_entry ([.ref h0]) (n := 1) (Nat.le_of_ble_eq_true rfl)
  rw [lg_entry_eq]
  generalize (lg_sl ([.ref h0]) ++ List.replicate (1 - (lg_sl ([.ref h0])).length) Slot.unset).toArray = ls at hl ⊢
  have hl : lv_has ls 1 [(0, .ref h0)] := hl
  refine lv_aload_n hx hb dX1_init_0 rfl (lv_at hl 0 rfl) ?_
  refine W.objInit hx hb hown (hts (.methodLink RX1 3 objectInit) (z_t1 (i := 157) rfl rfl)) (hts (.instanceMethod objectInit) (z_t1 (i := 18) rfl rfl)) (hts _ (z_t1 (i := 19) rfl rfl)) rfl (by rw [hml]; exact hl.1) rfl dX1_init_1 (Nat.le_of_ble_eq_true rfl) (Nat.le_of_ble_eq_true rfl) ?_
  refine W.eq (g2 := F0 m 4 ls []) rfl ?_
  refine lv_aload_n hx hb dX1_init_4 rfl (lv_at hl 0 rfl) ?_
  refine lv_bipush (v := 16) hx hb dX1_init_5 (by decide) ?_
  refine zl_newa 0 (atype := .int) (N' := 16) (a0 := (16, .inl (fun _ => 0))) hx hb (hts (.arrayClass .int) (z_t1 (i := 70) rfl rfl)) rfl hK hP hD hS hA (fun _ => rfl) (by decide) (by decide) (by decide) (Nat.le_of_ble_eq_true rfl) (Nat.le_of_ble_eq_true rfl) dX1_init_7 (fun q1 H hP hD hS => ?_)
  have hP : va_P D z_cl [(h0, .inr (1, [.null, .int 0])), (q1, .inl (cA 0, 16, .inl (fun _ => 0)))] H := hP
  have hD : va_D A [(h0, .inr (1, [.null, .int 0])), (q1, .inl (cA 0, 16, .inl (fun _ => 0)))] := hD
  refine va_putF (D := D) (ci := 1) (v := .ref q1) (ty := .array .int) (C := RX1) (T := TX1) (N := 2) hx hb hts (z_fields (ci := 1) rfl) tyX1 tyX1_ok nmX1 hown hK hP hD hS 0 rfl rfl 0 (by decide) (hts (.fieldLink RX1 9 "BallotWays$Paper" "bytes" "[I") (z_t1 (i := 158) rfl rfl)) (fun _ h9 => h9) rfl hin rfl (by decide +kernel) rfl rfl (Nat.le_of_ble_eq_true rfl) dX1_init_9 (fun H locs hP hD hS => ?_)
  have hP : va_P D z_cl [(h0, .inr (1, [.ref q1, .int 0])), (q1, .inl (cA 0, 16, .inl (fun _ => 0)))] H := hP
  have hD : va_D A [(h0, .inr (1, [.ref q1, .int 0])), (q1, .inl (cA 0, 16, .inl (fun _ => 0)))] := hD
  refine lv_aload_n hx hb dX1_init_12 rfl (lv_at hl 0 rfl) ?_
  refine lv_iconst (v := 0) hx hb dX1_init_13 (by decide) ?_
  refine va_put (D := D) (ci := 1) (v := .int 0) (ty := .int) (C := RX1) (T := TX1) (N := 2) hx hb hts (z_fields (ci := 1) rfl) tyX1 tyX1_ok nmX1 hown hK hP hD hS 0 rfl rfl 1 (by decide) (hts (.fieldLink RX1 15 "BallotWays$Paper" "length" "I") (z_t1 (i := 159) rfl rfl)) (fun _ h9 => h9) rfl (by decide +kernel) rfl rfl (Nat.le_of_ble_eq_true rfl) dX1_init_14 (fun H locs hP hD hS => ?_)
  have hP : va_P D z_cl [(h0, .inr (1, [.ref q1, .int 0])), (q1, .inl (cA 0, 16, .inl (fun _ => 0)))] H := hP
  have hD : va_D A [(h0, .inr (1, [.ref q1, .int 0])), (q1, .inl (cA 0, 16, .inl (fun _ => 0)))] := hD
  exact W.vret hx hb hr (fun t ht hW => ⟨⟨([q1], [.inr (1, [.ref 1, .int 0]), .inl (0, 16, .inl (fun _ => 0))]), rfl, rfl, by rw [ht]; exact hP, va_K.moved hW.alike hK, hD⟩, hS.F ht⟩) hS.2.2 dX1_init_17 hlocks
abbrev cX3_init : ByteArray := prog_5_method_1_code
def yX3_init : MethodName := ⟨RX3, "<init>", "()V"⟩
theorem dX3_init_0 : decode cX3_init 0 = .ok (.aload_n 0, 1) := z_is_ok (by decide +kernel)
theorem dX3_init_1 : decode cX3_init 1 = .ok (.invokespecial 3, 3) := z_is_ok (by decide +kernel)
theorem dX3_init_4 : decode cX3_init 4 = .ok (.aload_n 0, 1) := z_is_ok (by decide +kernel)
theorem dX3_init_5 : decode cX3_init 5 = .ok (.bipush 120, 2) := z_is_ok (by decide +kernel)
theorem dX3_init_7 : decode cX3_init 7 = .ok (.newarray .int, 2) := by decide +kernel
theorem dX3_init_9 : decode cX3_init 9 = .ok (.putfield 9, 3) := z_is_ok (by decide +kernel)
theorem dX3_init_12 : decode cX3_init 12 = .ok (.aload_n 0, 1) := z_is_ok (by decide +kernel)
theorem dX3_init_13 : decode cX3_init 13 = .ok (.iconst 0, 1) := z_is_ok (by decide +kernel)
theorem dX3_init_14 : decode cX3_init 14 = .ok (.putfield 15, 3) := z_is_ok (by decide +kernel)
theorem dX3_init_17 : decode cX3_init 17 = .ok (.aload_n 0, 1) := z_is_ok (by decide +kernel)
theorem dX3_init_18 : decode cX3_init 18 = .ok (.iconst 0, 1) := z_is_ok (by decide +kernel)
theorem dX3_init_19 : decode cX3_init 19 = .ok (.putfield 19, 3) := z_is_ok (by decide +kernel)
theorem dX3_init_22 : decode cX3_init 22 = .ok (.return_, 1) := z_is_ok (by decide +kernel)
set_option maxHeartbeats 4000000 in
set_option maxRecDepth 100000 in
theorem k_X3 (l : Launch) : zk_C l yX3_init cX3_init 3 [.null, .int 0, .int 0, .int 0, .int 0] 1 12 1 120 (fun h' => h' = [.inr (3, [.ref 1, .int 0, .int 0, .int 0, .int 0]), .inl (0, 120, .inl (fun _ => 0))]) := by
  intro D cA h0 sz
  refine va_MetF (cc := cX3_init) (maxL := 1) (ret := none) (by decide) rfl ?_
  intro p e s m args below meth c s₁ B hml hv
  obtain ⟨rfl, hsz, hP, hK, hD0, hN⟩ := hv
  have hx := B.exec
  have hb := B.bytes
  have hr := B.returns
  have hts0 := atoms_spec B.pre
  have hts : ∀ w ∈ z_AW, w.before ([.ref h0] : List Value).toArray s = true := fun w hw => hts0 w (List.mem_cons_of_mem _ hw)
  have hown : s.vm.findClass RX3 = some m.cls := findClass_of_methodNamed B.named
  have hlocks := B.notSynchronized
  have hin : meth.name = "<init>" := (name_of_methodNamed B.named B.method).1
  subst hsz
  have hD := hD0.self (sz := s.heap.size)
  generalize hAe : va_A [(h0, .inr (3, [.null, .int 0, .int 0, .int 0, .int 0]))] s.heap.size = A at hD ⊢
  have hA : ∀ q : Nat, s.heap.size ≤ q → A q := fun q h => by rw [← hAe]; exact Or.inr h
  have hS : va_S A s.heap s.heap [] := va_S.rf
  have hl := lv_entry ([.ref h0]) (n := 1) (Nat.le_of_ble_eq_true rfl)
  rw [lg_entry_eq]
  generalize (lg_sl ([.ref h0]) ++ List.replicate (1 - (lg_sl ([.ref h0])).length) Slot.unset).toArray = ls at hl ⊢
  have hl : lv_has ls 1 [(0, .ref h0)] := hl
  refine lv_aload_n hx hb dX3_init_0 rfl (lv_at hl 0 rfl) ?_
  refine W.objInit hx hb hown (hts (.methodLink RX3 3 objectInit) (z_t1 (i := 117) rfl rfl)) (hts (.instanceMethod objectInit) (z_t1 (i := 18) rfl rfl)) (hts _ (z_t1 (i := 19) rfl rfl)) rfl (by rw [hml]; exact hl.1) rfl dX3_init_1 (Nat.le_of_ble_eq_true rfl) (Nat.le_of_ble_eq_true rfl) ?_
  refine W.eq (g2 := F0 m 4 ls []) rfl ?_
  refine lv_aload_n hx hb dX3_init_4 rfl (lv_at hl 0 rfl) ?_
  refine lv_bipush (v := 120) hx hb dX3_init_5 (by decide) ?_
  refine zl_newa 0 (atype := .int) (N' := 120) (a0 := (120, .inl (fun _ => 0))) hx hb (hts (.arrayClass .int) (z_t1 (i := 70) rfl rfl)) rfl hK hP hD hS hA (fun _ => rfl) (by decide) (by decide) (by decide) (Nat.le_of_ble_eq_true rfl) (Nat.le_of_ble_eq_true rfl) dX3_init_7 (fun q1 H hP hD hS => ?_)
  have hP : va_P D z_cl [(h0, .inr (3, [.null, .int 0, .int 0, .int 0, .int 0])), (q1, .inl (cA 0, 120, .inl (fun _ => 0)))] H := hP
  have hD : va_D A [(h0, .inr (3, [.null, .int 0, .int 0, .int 0, .int 0])), (q1, .inl (cA 0, 120, .inl (fun _ => 0)))] := hD
  refine va_putF (D := D) (ci := 3) (v := .ref q1) (ty := .array .int) (C := RX3) (T := TX3) (N := 5) hx hb hts (z_fields (ci := 3) rfl) tyX3 tyX3_ok nmX3 hown hK hP hD hS 0 rfl rfl 0 (by decide) (hts (.fieldLink RX3 9 "BallotWays$Tape" "bytes" "[I") (z_t1 (i := 118) rfl rfl)) (fun _ h9 => h9) rfl hin rfl (by decide +kernel) rfl rfl (Nat.le_of_ble_eq_true rfl) dX3_init_9 (fun H locs hP hD hS => ?_)
  have hP : va_P D z_cl [(h0, .inr (3, [.ref q1, .int 0, .int 0, .int 0, .int 0])), (q1, .inl (cA 0, 120, .inl (fun _ => 0)))] H := hP
  have hD : va_D A [(h0, .inr (3, [.ref q1, .int 0, .int 0, .int 0, .int 0])), (q1, .inl (cA 0, 120, .inl (fun _ => 0)))] := hD
  refine lv_aload_n hx hb dX3_init_12 rfl (lv_at hl 0 rfl) ?_
  refine lv_iconst (v := 0) hx hb dX3_init_13 (by decide) ?_
  refine va_put (D := D) (ci := 3) (v := .int 0) (ty := .int) (C := RX3) (T := TX3) (N := 5) hx hb hts (z_fields (ci := 3) rfl) tyX3 tyX3_ok nmX3 hown hK hP hD hS 0 rfl rfl 1 (by decide) (hts (.fieldLink RX3 15 "BallotWays$Tape" "length" "I") (z_t1 (i := 119) rfl rfl)) (fun _ h9 => h9) rfl (by decide +kernel) rfl rfl (Nat.le_of_ble_eq_true rfl) dX3_init_14 (fun H locs hP hD hS => ?_)
  have hP : va_P D z_cl [(h0, .inr (3, [.ref q1, .int 0, .int 0, .int 0, .int 0])), (q1, .inl (cA 0, 120, .inl (fun _ => 0)))] H := hP
  have hD : va_D A [(h0, .inr (3, [.ref q1, .int 0, .int 0, .int 0, .int 0])), (q1, .inl (cA 0, 120, .inl (fun _ => 0)))] := hD
  refine lv_aload_n hx hb dX3_init_17 rfl (lv_at hl 0 rfl) ?_
  refine lv_iconst (v := 0) hx hb dX3_init_18 (by decide) ?_
  refine va_put (D := D) (ci := 3) (v := .int 0) (ty := .int) (C := RX3) (T := TX3) (N := 5) hx hb hts (z_fields (ci := 3) rfl) tyX3 tyX3_ok nmX3 hown hK hP hD hS 0 rfl rfl 2 (by decide) (hts (.fieldLink RX3 19 "BallotWays$Tape" "next" "I") (z_t1 (i := 121) rfl rfl)) (fun _ h9 => h9) rfl (by decide +kernel) rfl rfl (Nat.le_of_ble_eq_true rfl) dX3_init_19 (fun H locs hP hD hS => ?_)
  have hP : va_P D z_cl [(h0, .inr (3, [.ref q1, .int 0, .int 0, .int 0, .int 0])), (q1, .inl (cA 0, 120, .inl (fun _ => 0)))] H := hP
  have hD : va_D A [(h0, .inr (3, [.ref q1, .int 0, .int 0, .int 0, .int 0])), (q1, .inl (cA 0, 120, .inl (fun _ => 0)))] := hD
  exact W.vret hx hb hr (fun t ht hW => ⟨⟨([q1], [.inr (3, [.ref 1, .int 0, .int 0, .int 0, .int 0]), .inl (0, 120, .inl (fun _ => 0))]), rfl, rfl, by rw [ht]; exact hP, va_K.moved hW.alike hK, hD⟩, hS.F ht⟩) hS.2.2 dX3_init_22 hlocks
abbrev cX4_init : ByteArray := prog_6_method_1_code
def yX4_init : MethodName := ⟨RX4, "<init>", "()V"⟩
theorem dX4_init_0 : decode cX4_init 0 = .ok (.aload_n 0, 1) := z_is_ok (by decide +kernel)
theorem dX4_init_1 : decode cX4_init 1 = .ok (.invokespecial 5, 3) := z_is_ok (by decide +kernel)
theorem dX4_init_4 : decode cX4_init 4 = .ok (.aload_n 0, 1) := z_is_ok (by decide +kernel)
theorem dX4_init_5 : decode cX4_init 5 = .ok (.bipush 64, 2) := z_is_ok (by decide +kernel)
theorem dX4_init_7 : decode cX4_init 7 = .ok (.newarray .int, 2) := by decide +kernel
theorem dX4_init_9 : decode cX4_init 9 = .ok (.putfield 11, 3) := z_is_ok (by decide +kernel)
theorem dX4_init_12 : decode cX4_init 12 = .ok (.aload_n 0, 1) := z_is_ok (by decide +kernel)
theorem dX4_init_13 : decode cX4_init 13 = .ok (.bipush 8, 2) := z_is_ok (by decide +kernel)
theorem dX4_init_15 : decode cX4_init 15 = .ok (.newarray .int, 2) := by decide +kernel
theorem dX4_init_17 : decode cX4_init 17 = .ok (.putfield 15, 3) := z_is_ok (by decide +kernel)
theorem dX4_init_20 : decode cX4_init 20 = .ok (.aload_n 0, 1) := z_is_ok (by decide +kernel)
theorem dX4_init_21 : decode cX4_init 21 = .ok (.bipush 64, 2) := z_is_ok (by decide +kernel)
theorem dX4_init_23 : decode cX4_init 23 = .ok (.newarray .long, 2) := by decide +kernel
theorem dX4_init_25 : decode cX4_init 25 = .ok (.putfield 18, 3) := z_is_ok (by decide +kernel)
theorem dX4_init_28 : decode cX4_init 28 = .ok (.aload_n 0, 1) := z_is_ok (by decide +kernel)
theorem dX4_init_29 : decode cX4_init 29 = .ok (.bipush 64, 2) := z_is_ok (by decide +kernel)
theorem dX4_init_31 : decode cX4_init 31 = .ok (.newarray .long, 2) := by decide +kernel
theorem dX4_init_33 : decode cX4_init 33 = .ok (.putfield 22, 3) := z_is_ok (by decide +kernel)
theorem dX4_init_36 : decode cX4_init 36 = .ok (.aload_n 0, 1) := z_is_ok (by decide +kernel)
theorem dX4_init_37 : decode cX4_init 37 = .ok (.bipush 8, 2) := z_is_ok (by decide +kernel)
theorem dX4_init_39 : decode cX4_init 39 = .ok (.newarray .int, 2) := by decide +kernel
theorem dX4_init_41 : decode cX4_init 41 = .ok (.putfield 25, 3) := z_is_ok (by decide +kernel)
theorem dX4_init_44 : decode cX4_init 44 = .ok (.aload_n 0, 1) := z_is_ok (by decide +kernel)
theorem dX4_init_45 : decode cX4_init 45 = .ok (.bipush 8, 2) := z_is_ok (by decide +kernel)
theorem dX4_init_47 : decode cX4_init 47 = .ok (.newarray .int, 2) := by decide +kernel
theorem dX4_init_49 : decode cX4_init 49 = .ok (.putfield 28, 3) := z_is_ok (by decide +kernel)
theorem dX4_init_52 : decode cX4_init 52 = .ok (.aload_n 0, 1) := z_is_ok (by decide +kernel)
theorem dX4_init_53 : decode cX4_init 53 = .ok (.bipush 8, 2) := z_is_ok (by decide +kernel)
theorem dX4_init_55 : decode cX4_init 55 = .ok (.newarray .int, 2) := by decide +kernel
theorem dX4_init_57 : decode cX4_init 57 = .ok (.putfield 31, 3) := z_is_ok (by decide +kernel)
theorem dX4_init_60 : decode cX4_init 60 = .ok (.return_, 1) := z_is_ok (by decide +kernel)
set_option maxHeartbeats 4000000 in
set_option maxRecDepth 100000 in
theorem k_X4 (l : Launch) : zk_C l yX4_init cX4_init 4 [.int 0, .int 0, .int 0, .int 0, .null, .null, .null, .null, .null, .null, .null] 1 12 7 224 (fun h' => h' = [.inr (4, [.int 0, .int 0, .int 0, .int 0, .ref 1, .ref 2, .ref 3, .ref 4, .ref 5, .ref 6, .ref 7]), .inl (0, 64, .inl (fun _ => 0)), .inl (0, 8, .inl (fun _ => 0)), .inl (1, 64, .inr (.inl (fun _ => 0))), .inl (1, 64, .inr (.inl (fun _ => 0))), .inl (0, 8, .inl (fun _ => 0)), .inl (0, 8, .inl (fun _ => 0)), .inl (0, 8, .inl (fun _ => 0))]) := by
  intro D cA h0 sz
  refine va_MetF (cc := cX4_init) (maxL := 1) (ret := none) (by decide) rfl ?_
  intro p e s m args below meth c s₁ B hml hv
  obtain ⟨rfl, hsz, hP, hK, hD0, hN⟩ := hv
  have hx := B.exec
  have hb := B.bytes
  have hr := B.returns
  have hts0 := atoms_spec B.pre
  have hts : ∀ w ∈ z_AW, w.before ([.ref h0] : List Value).toArray s = true := fun w hw => hts0 w (List.mem_cons_of_mem _ hw)
  have hown : s.vm.findClass RX4 = some m.cls := findClass_of_methodNamed B.named
  have hlocks := B.notSynchronized
  have hin : meth.name = "<init>" := (name_of_methodNamed B.named B.method).1
  subst hsz
  have hD := hD0.self (sz := s.heap.size)
  generalize hAe : va_A [(h0, .inr (4, [.int 0, .int 0, .int 0, .int 0, .null, .null, .null, .null, .null, .null, .null]))] s.heap.size = A at hD ⊢
  have hA : ∀ q : Nat, s.heap.size ≤ q → A q := fun q h => by rw [← hAe]; exact Or.inr h
  have hS : va_S A s.heap s.heap [] := va_S.rf
  have hl := lv_entry ([.ref h0]) (n := 1) (Nat.le_of_ble_eq_true rfl)
  rw [lg_entry_eq]
  generalize (lg_sl ([.ref h0]) ++ List.replicate (1 - (lg_sl ([.ref h0])).length) Slot.unset).toArray = ls at hl ⊢
  have hl : lv_has ls 1 [(0, .ref h0)] := hl
  refine lv_aload_n hx hb dX4_init_0 rfl (lv_at hl 0 rfl) ?_
  refine W.objInit hx hb hown (hts (.methodLink RX4 5 objectInit) (z_t1 (i := 76) rfl rfl)) (hts (.instanceMethod objectInit) (z_t1 (i := 18) rfl rfl)) (hts _ (z_t1 (i := 19) rfl rfl)) rfl (by rw [hml]; exact hl.1) rfl dX4_init_1 (Nat.le_of_ble_eq_true rfl) (Nat.le_of_ble_eq_true rfl) ?_
  refine W.eq (g2 := F0 m 4 ls []) rfl ?_
  refine lv_aload_n hx hb dX4_init_4 rfl (lv_at hl 0 rfl) ?_
  refine lv_bipush (v := 64) hx hb dX4_init_5 (by decide) ?_
  refine zl_newa 0 (atype := .int) (N' := 64) (a0 := (64, .inl (fun _ => 0))) hx hb (hts (.arrayClass .int) (z_t1 (i := 70) rfl rfl)) rfl hK hP hD hS hA (fun _ => rfl) (by decide) (by decide) (by decide) (Nat.le_of_ble_eq_true rfl) (Nat.le_of_ble_eq_true rfl) dX4_init_7 (fun q1 H hP hD hS => ?_)
  have hP : va_P D z_cl [(h0, .inr (4, [.int 0, .int 0, .int 0, .int 0, .null, .null, .null, .null, .null, .null, .null])), (q1, .inl (cA 0, 64, .inl (fun _ => 0)))] H := hP
  have hD : va_D A [(h0, .inr (4, [.int 0, .int 0, .int 0, .int 0, .null, .null, .null, .null, .null, .null, .null])), (q1, .inl (cA 0, 64, .inl (fun _ => 0)))] := hD
  refine va_putF (D := D) (ci := 4) (v := .ref q1) (ty := .array .int) (C := RX4) (T := TX4) (N := 11) hx hb hts (z_fields (ci := 4) rfl) tyX4 tyX4_ok nmX4 hown hK hP hD hS 0 rfl rfl 4 (by decide) (hts (.fieldLink RX4 11 "BallotWays$Ways" "fors" "[I") (z_t1 (i := 81) rfl rfl)) (fun _ h9 => h9) rfl hin rfl (by decide +kernel) rfl rfl (Nat.le_of_ble_eq_true rfl) dX4_init_9 (fun H locs hP hD hS => ?_)
  have hP : va_P D z_cl [(h0, .inr (4, [.int 0, .int 0, .int 0, .int 0, .ref q1, .null, .null, .null, .null, .null, .null])), (q1, .inl (cA 0, 64, .inl (fun _ => 0)))] H := hP
  have hD : va_D A [(h0, .inr (4, [.int 0, .int 0, .int 0, .int 0, .ref q1, .null, .null, .null, .null, .null, .null])), (q1, .inl (cA 0, 64, .inl (fun _ => 0)))] := hD
  refine lv_aload_n hx hb dX4_init_12 rfl (lv_at hl 0 rfl) ?_
  refine lv_bipush (v := 8) hx hb dX4_init_13 (by decide) ?_
  refine zl_newa 0 (atype := .int) (N' := 8) (a0 := (8, .inl (fun _ => 0))) hx hb (hts (.arrayClass .int) (z_t1 (i := 70) rfl rfl)) rfl hK hP hD hS hA (fun _ => rfl) (by decide) (by decide) (by decide) (Nat.le_of_ble_eq_true rfl) (Nat.le_of_ble_eq_true rfl) dX4_init_15 (fun q2 H hP hD hS => ?_)
  have hP : va_P D z_cl [(h0, .inr (4, [.int 0, .int 0, .int 0, .int 0, .ref q1, .null, .null, .null, .null, .null, .null])), (q1, .inl (cA 0, 64, .inl (fun _ => 0))), (q2, .inl (cA 0, 8, .inl (fun _ => 0)))] H := hP
  have hD : va_D A [(h0, .inr (4, [.int 0, .int 0, .int 0, .int 0, .ref q1, .null, .null, .null, .null, .null, .null])), (q1, .inl (cA 0, 64, .inl (fun _ => 0))), (q2, .inl (cA 0, 8, .inl (fun _ => 0)))] := hD
  refine va_putF (D := D) (ci := 4) (v := .ref q2) (ty := .array .int) (C := RX4) (T := TX4) (N := 11) hx hb hts (z_fields (ci := 4) rfl) tyX4 tyX4_ok nmX4 hown hK hP hD hS 0 rfl rfl 5 (by decide) (hts (.fieldLink RX4 15 "BallotWays$Ways" "draw" "[I") (z_t1 (i := 82) rfl rfl)) (fun _ h9 => h9) rfl hin rfl (by decide +kernel) rfl rfl (Nat.le_of_ble_eq_true rfl) dX4_init_17 (fun H locs hP hD hS => ?_)
  have hP : va_P D z_cl [(h0, .inr (4, [.int 0, .int 0, .int 0, .int 0, .ref q1, .ref q2, .null, .null, .null, .null, .null])), (q1, .inl (cA 0, 64, .inl (fun _ => 0))), (q2, .inl (cA 0, 8, .inl (fun _ => 0)))] H := hP
  have hD : va_D A [(h0, .inr (4, [.int 0, .int 0, .int 0, .int 0, .ref q1, .ref q2, .null, .null, .null, .null, .null])), (q1, .inl (cA 0, 64, .inl (fun _ => 0))), (q2, .inl (cA 0, 8, .inl (fun _ => 0)))] := hD
  refine lv_aload_n hx hb dX4_init_20 rfl (lv_at hl 0 rfl) ?_
  refine lv_bipush (v := 64) hx hb dX4_init_21 (by decide) ?_
  refine zl_newa 1 (atype := .long) (N' := 64) (a0 := (64, .inr (.inl (fun _ => 0)))) hx hb (hts (.arrayClass .long) (z_t1 (i := 111) rfl rfl)) rfl hK hP hD hS hA (fun _ => rfl) (by decide) (by decide) (by decide) (Nat.le_of_ble_eq_true rfl) (Nat.le_of_ble_eq_true rfl) dX4_init_23 (fun q3 H hP hD hS => ?_)
  have hP : va_P D z_cl [(h0, .inr (4, [.int 0, .int 0, .int 0, .int 0, .ref q1, .ref q2, .null, .null, .null, .null, .null])), (q1, .inl (cA 0, 64, .inl (fun _ => 0))), (q2, .inl (cA 0, 8, .inl (fun _ => 0))), (q3, .inl (cA 1, 64, .inr (.inl (fun _ => 0))))] H := hP
  have hD : va_D A [(h0, .inr (4, [.int 0, .int 0, .int 0, .int 0, .ref q1, .ref q2, .null, .null, .null, .null, .null])), (q1, .inl (cA 0, 64, .inl (fun _ => 0))), (q2, .inl (cA 0, 8, .inl (fun _ => 0))), (q3, .inl (cA 1, 64, .inr (.inl (fun _ => 0))))] := hD
  refine va_putF (D := D) (ci := 4) (v := .ref q3) (ty := .array .long) (C := RX4) (T := TX4) (N := 11) hx hb hts (z_fields (ci := 4) rfl) tyX4 tyX4_ok nmX4 hown hK hP hD hS 0 rfl rfl 6 (by decide) (hts (.fieldLink RX4 18 "BallotWays$Ways" "links" "[J") (z_t1 (i := 83) rfl rfl)) (fun _ h9 => h9) rfl hin rfl (by decide +kernel) rfl rfl (Nat.le_of_ble_eq_true rfl) dX4_init_25 (fun H locs hP hD hS => ?_)
  have hP : va_P D z_cl [(h0, .inr (4, [.int 0, .int 0, .int 0, .int 0, .ref q1, .ref q2, .ref q3, .null, .null, .null, .null])), (q1, .inl (cA 0, 64, .inl (fun _ => 0))), (q2, .inl (cA 0, 8, .inl (fun _ => 0))), (q3, .inl (cA 1, 64, .inr (.inl (fun _ => 0))))] H := hP
  have hD : va_D A [(h0, .inr (4, [.int 0, .int 0, .int 0, .int 0, .ref q1, .ref q2, .ref q3, .null, .null, .null, .null])), (q1, .inl (cA 0, 64, .inl (fun _ => 0))), (q2, .inl (cA 0, 8, .inl (fun _ => 0))), (q3, .inl (cA 1, 64, .inr (.inl (fun _ => 0))))] := hD
  refine lv_aload_n hx hb dX4_init_28 rfl (lv_at hl 0 rfl) ?_
  refine lv_bipush (v := 64) hx hb dX4_init_29 (by decide) ?_
  refine zl_newa 1 (atype := .long) (N' := 64) (a0 := (64, .inr (.inl (fun _ => 0)))) hx hb (hts (.arrayClass .long) (z_t1 (i := 111) rfl rfl)) rfl hK hP hD hS hA (fun _ => rfl) (by decide) (by decide) (by decide) (Nat.le_of_ble_eq_true rfl) (Nat.le_of_ble_eq_true rfl) dX4_init_31 (fun q4 H hP hD hS => ?_)
  have hP : va_P D z_cl [(h0, .inr (4, [.int 0, .int 0, .int 0, .int 0, .ref q1, .ref q2, .ref q3, .null, .null, .null, .null])), (q1, .inl (cA 0, 64, .inl (fun _ => 0))), (q2, .inl (cA 0, 8, .inl (fun _ => 0))), (q3, .inl (cA 1, 64, .inr (.inl (fun _ => 0)))), (q4, .inl (cA 1, 64, .inr (.inl (fun _ => 0))))] H := hP
  have hD : va_D A [(h0, .inr (4, [.int 0, .int 0, .int 0, .int 0, .ref q1, .ref q2, .ref q3, .null, .null, .null, .null])), (q1, .inl (cA 0, 64, .inl (fun _ => 0))), (q2, .inl (cA 0, 8, .inl (fun _ => 0))), (q3, .inl (cA 1, 64, .inr (.inl (fun _ => 0)))), (q4, .inl (cA 1, 64, .inr (.inl (fun _ => 0))))] := hD
  refine va_putF (D := D) (ci := 4) (v := .ref q4) (ty := .array .long) (C := RX4) (T := TX4) (N := 11) hx hb hts (z_fields (ci := 4) rfl) tyX4 tyX4_ok nmX4 hown hK hP hD hS 0 rfl rfl 7 (by decide) (hts (.fieldLink RX4 22 "BallotWays$Ways" "best" "[J") (z_t1 (i := 84) rfl rfl)) (fun _ h9 => h9) rfl hin rfl (by decide +kernel) rfl rfl (Nat.le_of_ble_eq_true rfl) dX4_init_33 (fun H locs hP hD hS => ?_)
  have hP : va_P D z_cl [(h0, .inr (4, [.int 0, .int 0, .int 0, .int 0, .ref q1, .ref q2, .ref q3, .ref q4, .null, .null, .null])), (q1, .inl (cA 0, 64, .inl (fun _ => 0))), (q2, .inl (cA 0, 8, .inl (fun _ => 0))), (q3, .inl (cA 1, 64, .inr (.inl (fun _ => 0)))), (q4, .inl (cA 1, 64, .inr (.inl (fun _ => 0))))] H := hP
  have hD : va_D A [(h0, .inr (4, [.int 0, .int 0, .int 0, .int 0, .ref q1, .ref q2, .ref q3, .ref q4, .null, .null, .null])), (q1, .inl (cA 0, 64, .inl (fun _ => 0))), (q2, .inl (cA 0, 8, .inl (fun _ => 0))), (q3, .inl (cA 1, 64, .inr (.inl (fun _ => 0)))), (q4, .inl (cA 1, 64, .inr (.inl (fun _ => 0))))] := hD
  refine lv_aload_n hx hb dX4_init_36 rfl (lv_at hl 0 rfl) ?_
  refine lv_bipush (v := 8) hx hb dX4_init_37 (by decide) ?_
  refine zl_newa 0 (atype := .int) (N' := 8) (a0 := (8, .inl (fun _ => 0))) hx hb (hts (.arrayClass .int) (z_t1 (i := 70) rfl rfl)) rfl hK hP hD hS hA (fun _ => rfl) (by decide) (by decide) (by decide) (Nat.le_of_ble_eq_true rfl) (Nat.le_of_ble_eq_true rfl) dX4_init_39 (fun q5 H hP hD hS => ?_)
  have hP : va_P D z_cl [(h0, .inr (4, [.int 0, .int 0, .int 0, .int 0, .ref q1, .ref q2, .ref q3, .ref q4, .null, .null, .null])), (q1, .inl (cA 0, 64, .inl (fun _ => 0))), (q2, .inl (cA 0, 8, .inl (fun _ => 0))), (q3, .inl (cA 1, 64, .inr (.inl (fun _ => 0)))), (q4, .inl (cA 1, 64, .inr (.inl (fun _ => 0)))), (q5, .inl (cA 0, 8, .inl (fun _ => 0)))] H := hP
  have hD : va_D A [(h0, .inr (4, [.int 0, .int 0, .int 0, .int 0, .ref q1, .ref q2, .ref q3, .ref q4, .null, .null, .null])), (q1, .inl (cA 0, 64, .inl (fun _ => 0))), (q2, .inl (cA 0, 8, .inl (fun _ => 0))), (q3, .inl (cA 1, 64, .inr (.inl (fun _ => 0)))), (q4, .inl (cA 1, 64, .inr (.inl (fun _ => 0)))), (q5, .inl (cA 0, 8, .inl (fun _ => 0)))] := hD
  refine va_putF (D := D) (ci := 4) (v := .ref q5) (ty := .array .int) (C := RX4) (T := TX4) (N := 11) hx hb hts (z_fields (ci := 4) rfl) tyX4 tyX4_ok nmX4 hown hK hP hD hS 0 rfl rfl 8 (by decide) (hts (.fieldLink RX4 25 "BallotWays$Ways" "beaters" "[I") (z_t1 (i := 85) rfl rfl)) (fun _ h9 => h9) rfl hin rfl (by decide +kernel) rfl rfl (Nat.le_of_ble_eq_true rfl) dX4_init_41 (fun H locs hP hD hS => ?_)
  have hP : va_P D z_cl [(h0, .inr (4, [.int 0, .int 0, .int 0, .int 0, .ref q1, .ref q2, .ref q3, .ref q4, .ref q5, .null, .null])), (q1, .inl (cA 0, 64, .inl (fun _ => 0))), (q2, .inl (cA 0, 8, .inl (fun _ => 0))), (q3, .inl (cA 1, 64, .inr (.inl (fun _ => 0)))), (q4, .inl (cA 1, 64, .inr (.inl (fun _ => 0)))), (q5, .inl (cA 0, 8, .inl (fun _ => 0)))] H := hP
  have hD : va_D A [(h0, .inr (4, [.int 0, .int 0, .int 0, .int 0, .ref q1, .ref q2, .ref q3, .ref q4, .ref q5, .null, .null])), (q1, .inl (cA 0, 64, .inl (fun _ => 0))), (q2, .inl (cA 0, 8, .inl (fun _ => 0))), (q3, .inl (cA 1, 64, .inr (.inl (fun _ => 0)))), (q4, .inl (cA 1, 64, .inr (.inl (fun _ => 0)))), (q5, .inl (cA 0, 8, .inl (fun _ => 0)))] := hD
  refine lv_aload_n hx hb dX4_init_44 rfl (lv_at hl 0 rfl) ?_
  refine lv_bipush (v := 8) hx hb dX4_init_45 (by decide) ?_
  refine zl_newa 0 (atype := .int) (N' := 8) (a0 := (8, .inl (fun _ => 0))) hx hb (hts (.arrayClass .int) (z_t1 (i := 70) rfl rfl)) rfl hK hP hD hS hA (fun _ => rfl) (by decide) (by decide) (by decide) (Nat.le_of_ble_eq_true rfl) (Nat.le_of_ble_eq_true rfl) dX4_init_47 (fun q6 H hP hD hS => ?_)
  have hP : va_P D z_cl [(h0, .inr (4, [.int 0, .int 0, .int 0, .int 0, .ref q1, .ref q2, .ref q3, .ref q4, .ref q5, .null, .null])), (q1, .inl (cA 0, 64, .inl (fun _ => 0))), (q2, .inl (cA 0, 8, .inl (fun _ => 0))), (q3, .inl (cA 1, 64, .inr (.inl (fun _ => 0)))), (q4, .inl (cA 1, 64, .inr (.inl (fun _ => 0)))), (q5, .inl (cA 0, 8, .inl (fun _ => 0))), (q6, .inl (cA 0, 8, .inl (fun _ => 0)))] H := hP
  have hD : va_D A [(h0, .inr (4, [.int 0, .int 0, .int 0, .int 0, .ref q1, .ref q2, .ref q3, .ref q4, .ref q5, .null, .null])), (q1, .inl (cA 0, 64, .inl (fun _ => 0))), (q2, .inl (cA 0, 8, .inl (fun _ => 0))), (q3, .inl (cA 1, 64, .inr (.inl (fun _ => 0)))), (q4, .inl (cA 1, 64, .inr (.inl (fun _ => 0)))), (q5, .inl (cA 0, 8, .inl (fun _ => 0))), (q6, .inl (cA 0, 8, .inl (fun _ => 0)))] := hD
  refine va_putF (D := D) (ci := 4) (v := .ref q6) (ty := .array .int) (C := RX4) (T := TX4) (N := 11) hx hb hts (z_fields (ci := 4) rfl) tyX4 tyX4_ok nmX4 hown hK hP hD hS 0 rfl rfl 9 (by decide) (hts (.fieldLink RX4 28 "BallotWays$Ways" "distances" "[I") (z_t1 (i := 86) rfl rfl)) (fun _ h9 => h9) rfl hin rfl (by decide +kernel) rfl rfl (Nat.le_of_ble_eq_true rfl) dX4_init_49 (fun H locs hP hD hS => ?_)
  have hP : va_P D z_cl [(h0, .inr (4, [.int 0, .int 0, .int 0, .int 0, .ref q1, .ref q2, .ref q3, .ref q4, .ref q5, .ref q6, .null])), (q1, .inl (cA 0, 64, .inl (fun _ => 0))), (q2, .inl (cA 0, 8, .inl (fun _ => 0))), (q3, .inl (cA 1, 64, .inr (.inl (fun _ => 0)))), (q4, .inl (cA 1, 64, .inr (.inl (fun _ => 0)))), (q5, .inl (cA 0, 8, .inl (fun _ => 0))), (q6, .inl (cA 0, 8, .inl (fun _ => 0)))] H := hP
  have hD : va_D A [(h0, .inr (4, [.int 0, .int 0, .int 0, .int 0, .ref q1, .ref q2, .ref q3, .ref q4, .ref q5, .ref q6, .null])), (q1, .inl (cA 0, 64, .inl (fun _ => 0))), (q2, .inl (cA 0, 8, .inl (fun _ => 0))), (q3, .inl (cA 1, 64, .inr (.inl (fun _ => 0)))), (q4, .inl (cA 1, 64, .inr (.inl (fun _ => 0)))), (q5, .inl (cA 0, 8, .inl (fun _ => 0))), (q6, .inl (cA 0, 8, .inl (fun _ => 0)))] := hD
  refine lv_aload_n hx hb dX4_init_52 rfl (lv_at hl 0 rfl) ?_
  refine lv_bipush (v := 8) hx hb dX4_init_53 (by decide) ?_
  refine zl_newa 0 (atype := .int) (N' := 8) (a0 := (8, .inl (fun _ => 0))) hx hb (hts (.arrayClass .int) (z_t1 (i := 70) rfl rfl)) rfl hK hP hD hS hA (fun _ => rfl) (by decide) (by decide) (by decide) (Nat.le_of_ble_eq_true rfl) (Nat.le_of_ble_eq_true rfl) dX4_init_55 (fun q7 H hP hD hS => ?_)
  have hP : va_P D z_cl [(h0, .inr (4, [.int 0, .int 0, .int 0, .int 0, .ref q1, .ref q2, .ref q3, .ref q4, .ref q5, .ref q6, .null])), (q1, .inl (cA 0, 64, .inl (fun _ => 0))), (q2, .inl (cA 0, 8, .inl (fun _ => 0))), (q3, .inl (cA 1, 64, .inr (.inl (fun _ => 0)))), (q4, .inl (cA 1, 64, .inr (.inl (fun _ => 0)))), (q5, .inl (cA 0, 8, .inl (fun _ => 0))), (q6, .inl (cA 0, 8, .inl (fun _ => 0))), (q7, .inl (cA 0, 8, .inl (fun _ => 0)))] H := hP
  have hD : va_D A [(h0, .inr (4, [.int 0, .int 0, .int 0, .int 0, .ref q1, .ref q2, .ref q3, .ref q4, .ref q5, .ref q6, .null])), (q1, .inl (cA 0, 64, .inl (fun _ => 0))), (q2, .inl (cA 0, 8, .inl (fun _ => 0))), (q3, .inl (cA 1, 64, .inr (.inl (fun _ => 0)))), (q4, .inl (cA 1, 64, .inr (.inl (fun _ => 0)))), (q5, .inl (cA 0, 8, .inl (fun _ => 0))), (q6, .inl (cA 0, 8, .inl (fun _ => 0))), (q7, .inl (cA 0, 8, .inl (fun _ => 0)))] := hD
  refine va_putF (D := D) (ci := 4) (v := .ref q7) (ty := .array .int) (C := RX4) (T := TX4) (N := 11) hx hb hts (z_fields (ci := 4) rfl) tyX4 tyX4_ok nmX4 hown hK hP hD hS 0 rfl rfl 10 (by decide) (hts (.fieldLink RX4 31 "BallotWays$Ways" "route" "[I") (z_t1 (i := 87) rfl rfl)) (fun _ h9 => h9) rfl hin rfl (by decide +kernel) rfl rfl (Nat.le_of_ble_eq_true rfl) dX4_init_57 (fun H locs hP hD hS => ?_)
  have hP : va_P D z_cl [(h0, .inr (4, [.int 0, .int 0, .int 0, .int 0, .ref q1, .ref q2, .ref q3, .ref q4, .ref q5, .ref q6, .ref q7])), (q1, .inl (cA 0, 64, .inl (fun _ => 0))), (q2, .inl (cA 0, 8, .inl (fun _ => 0))), (q3, .inl (cA 1, 64, .inr (.inl (fun _ => 0)))), (q4, .inl (cA 1, 64, .inr (.inl (fun _ => 0)))), (q5, .inl (cA 0, 8, .inl (fun _ => 0))), (q6, .inl (cA 0, 8, .inl (fun _ => 0))), (q7, .inl (cA 0, 8, .inl (fun _ => 0)))] H := hP
  have hD : va_D A [(h0, .inr (4, [.int 0, .int 0, .int 0, .int 0, .ref q1, .ref q2, .ref q3, .ref q4, .ref q5, .ref q6, .ref q7])), (q1, .inl (cA 0, 64, .inl (fun _ => 0))), (q2, .inl (cA 0, 8, .inl (fun _ => 0))), (q3, .inl (cA 1, 64, .inr (.inl (fun _ => 0)))), (q4, .inl (cA 1, 64, .inr (.inl (fun _ => 0)))), (q5, .inl (cA 0, 8, .inl (fun _ => 0))), (q6, .inl (cA 0, 8, .inl (fun _ => 0))), (q7, .inl (cA 0, 8, .inl (fun _ => 0)))] := hD
  exact W.vret hx hb hr (fun t ht hW => ⟨⟨([q1, q2, q3, q4, q5, q6, q7], [.inr (4, [.int 0, .int 0, .int 0, .int 0, .ref 1, .ref 2, .ref 3, .ref 4, .ref 5, .ref 6, .ref 7]), .inl (0, 64, .inl (fun _ => 0)), .inl (0, 8, .inl (fun _ => 0)), .inl (1, 64, .inr (.inl (fun _ => 0))), .inl (1, 64, .inr (.inl (fun _ => 0))), .inl (0, 8, .inl (fun _ => 0)), .inl (0, 8, .inl (fun _ => 0)), .inl (0, 8, .inl (fun _ => 0))]), rfl, rfl, by rw [ht]; exact hP, va_K.moved hW.alike hK, hD⟩, hS.F ht⟩) hS.2.2 dX4_init_60 hlocks
abbrev cX0_init : ByteArray := prog_2_method_1_code
def yX0_init : MethodName := ⟨RX0, "<init>", "()V"⟩
theorem dX0_init_0 : decode cX0_init 0 = .ok (.aload_n 0, 1) := z_is_ok (by decide +kernel)
theorem dX0_init_1 : decode cX0_init 1 = .ok (.invokespecial 3, 3) := z_is_ok (by decide +kernel)
theorem dX0_init_4 : decode cX0_init 4 = .ok (.aload_n 0, 1) := z_is_ok (by decide +kernel)
theorem dX0_init_5 : decode cX0_init 5 = .ok (.sipush 160, 3) := z_is_ok (by decide +kernel)
theorem dX0_init_8 : decode cX0_init 8 = .ok (.newarray .long, 2) := by decide +kernel
theorem dX0_init_10 : decode cX0_init 10 = .ok (.putfield 11, 3) := z_is_ok (by decide +kernel)
theorem dX0_init_13 : decode cX0_init 13 = .ok (.aload_n 0, 1) := z_is_ok (by decide +kernel)
theorem dX0_init_14 : decode cX0_init 14 = .ok (.iconst 4, 1) := z_is_ok (by decide +kernel)
theorem dX0_init_15 : decode cX0_init 15 = .ok (.newarray .int, 2) := by decide +kernel
theorem dX0_init_17 : decode cX0_init 17 = .ok (.putfield 15, 3) := z_is_ok (by decide +kernel)
theorem dX0_init_20 : decode cX0_init 20 = .ok (.aload_n 0, 1) := z_is_ok (by decide +kernel)
theorem dX0_init_21 : decode cX0_init 21 = .ok (.getfield 15, 3) := z_is_ok (by decide +kernel)
theorem dX0_init_24 : decode cX0_init 24 = .ok (.iconst (-1), 1) := z_is_ok (by decide +kernel)
theorem dX0_init_25 : decode cX0_init 25 = .ok (.invokestatic 19, 3) := z_is_ok (by decide +kernel)
theorem dX0_init_28 : decode cX0_init 28 = .ok (.return_, 1) := z_is_ok (by decide +kernel)
set_option maxHeartbeats 4000000 in
set_option maxRecDepth 100000 in
theorem k_X0 (l : Launch) : zk_C l yX0_init cX0_init 0 [.null, .null] 3 192 2 164 (fun h' => ∃ s2 : Nat → Int32, h' = LH (fun _ => 0) s2 ∧ ∀ k, k < 4 → s2 k = -1) := by
  intro D cA h0 sz
  refine va_MetF (cc := cX0_init) (maxL := 1) (ret := none) (by decide) rfl ?_
  intro p e s m args below meth c s₁ B hml hv
  obtain ⟨rfl, hsz, hP, hK, hD0, hN⟩ := hv
  have hx := B.exec
  have hb := B.bytes
  have hr := B.returns
  have hts0 := atoms_spec B.pre
  have hts : ∀ w ∈ z_AW, w.before ([.ref h0] : List Value).toArray s = true := fun w hw => hts0 w (List.mem_cons_of_mem _ hw)
  have hown : s.vm.findClass RX0 = some m.cls := findClass_of_methodNamed B.named
  have hlocks := B.notSynchronized
  have hin : meth.name = "<init>" := (name_of_methodNamed B.named B.method).1
  subst hsz
  have hD := hD0.self (sz := s.heap.size)
  generalize hAe : va_A [(h0, .inr (0, [.null, .null]))] s.heap.size = A at hD ⊢
  have hA : ∀ q : Nat, s.heap.size ≤ q → A q := fun q h => by rw [← hAe]; exact Or.inr h
  have hS : va_S A s.heap s.heap [] := va_S.rf
  have hl := lv_entry ([.ref h0]) (n := 1) (Nat.le_of_ble_eq_true rfl)
  rw [lg_entry_eq]
  generalize (lg_sl ([.ref h0]) ++ List.replicate (1 - (lg_sl ([.ref h0])).length) Slot.unset).toArray = ls at hl ⊢
  have hl : lv_has ls 1 [(0, .ref h0)] := hl
  refine lv_aload_n hx hb dX0_init_0 rfl (lv_at hl 0 rfl) ?_
  refine W.objInit hx hb hown (hts (.methodLink RX0 3 objectInit) (z_t1 (i := 143) rfl rfl)) (hts (.instanceMethod objectInit) (z_t1 (i := 18) rfl rfl)) (hts _ (z_t1 (i := 19) rfl rfl)) rfl (by rw [hml]; exact hl.1) rfl dX0_init_1 (Nat.le_of_ble_eq_true rfl) (Nat.le_of_ble_eq_true rfl) ?_
  refine W.eq (g2 := F0 m 4 ls []) rfl ?_
  refine lv_aload_n hx hb dX0_init_4 rfl (lv_at hl 0 rfl) ?_
  refine lv_sipush (v := 160) hx hb dX0_init_5 (by decide) ?_
  refine zl_newa 1 (atype := .long) (N' := 160) (a0 := (160, .inr (.inl (fun _ => 0)))) hx hb (hts (.arrayClass .long) (z_t1 (i := 111) rfl rfl)) rfl hK hP hD hS hA (fun _ => rfl) (by decide) (by decide) (by decide) (Nat.le_of_ble_eq_true rfl) (Nat.le_of_ble_eq_true rfl) dX0_init_8 (fun q1 H hP hD hS => ?_)
  have hP : va_P D z_cl [(h0, .inr (0, [.null, .null])), (q1, .inl (cA 1, 160, .inr (.inl (fun _ => 0))))] H := hP
  have hD : va_D A [(h0, .inr (0, [.null, .null])), (q1, .inl (cA 1, 160, .inr (.inl (fun _ => 0))))] := hD
  refine va_putF (D := D) (ci := 0) (v := .ref q1) (ty := .array .long) (C := RX0) (T := TX0) (N := 2) hx hb hts (z_fields (ci := 0) rfl) tyX0 tyX0_ok nmX0 hown hK hP hD hS 0 rfl rfl 0 (by decide) (hts (.fieldLink RX0 11 "BallotWays$Lists" "cells" "[J") (z_t1 (i := 145) rfl rfl)) (fun _ h9 => h9) rfl hin rfl (by decide +kernel) rfl rfl (Nat.le_of_ble_eq_true rfl) dX0_init_10 (fun H locs hP hD hS => ?_)
  have hP : va_P D z_cl [(h0, .inr (0, [.ref q1, .null])), (q1, .inl (cA 1, 160, .inr (.inl (fun _ => 0))))] H := hP
  have hD : va_D A [(h0, .inr (0, [.ref q1, .null])), (q1, .inl (cA 1, 160, .inr (.inl (fun _ => 0))))] := hD
  refine lv_aload_n hx hb dX0_init_13 rfl (lv_at hl 0 rfl) ?_
  refine lv_iconst (v := 4) hx hb dX0_init_14 (by decide) ?_
  refine zl_newa 0 (atype := .int) (N' := 4) (a0 := (4, .inl (fun _ => 0))) hx hb (hts (.arrayClass .int) (z_t1 (i := 70) rfl rfl)) rfl hK hP hD hS hA (fun _ => rfl) (by decide) (by decide) (by decide) (Nat.le_of_ble_eq_true rfl) (Nat.le_of_ble_eq_true rfl) dX0_init_15 (fun q2 H hP hD hS => ?_)
  have hP : va_P D z_cl [(h0, .inr (0, [.ref q1, .null])), (q1, .inl (cA 1, 160, .inr (.inl (fun _ => 0)))), (q2, .inl (cA 0, 4, .inl (fun _ => 0)))] H := hP
  have hD : va_D A [(h0, .inr (0, [.ref q1, .null])), (q1, .inl (cA 1, 160, .inr (.inl (fun _ => 0)))), (q2, .inl (cA 0, 4, .inl (fun _ => 0)))] := hD
  refine va_putF (D := D) (ci := 0) (v := .ref q2) (ty := .array .int) (C := RX0) (T := TX0) (N := 2) hx hb hts (z_fields (ci := 0) rfl) tyX0 tyX0_ok nmX0 hown hK hP hD hS 0 rfl rfl 1 (by decide) (hts (.fieldLink RX0 15 "BallotWays$Lists" "sizes" "[I") (z_t1 (i := 146) rfl rfl)) (fun _ h9 => h9) rfl hin rfl (by decide +kernel) rfl rfl (Nat.le_of_ble_eq_true rfl) dX0_init_17 (fun H locs hP hD hS => ?_)
  have hP : va_P D z_cl [(h0, .inr (0, [.ref q1, .ref q2])), (q1, .inl (cA 1, 160, .inr (.inl (fun _ => 0)))), (q2, .inl (cA 0, 4, .inl (fun _ => 0)))] H := hP
  have hD : va_D A [(h0, .inr (0, [.ref q1, .ref q2])), (q1, .inl (cA 1, 160, .inr (.inl (fun _ => 0)))), (q2, .inl (cA 0, 4, .inl (fun _ => 0)))] := hD
  refine lv_aload_n hx hb dX0_init_20 rfl (lv_at hl 0 rfl) ?_
  refine va_get (D := D) (ci := 0) (v := .ref q2) (C := RX0) (T := TX0) (N := 2) hx hb hts (z_fields (ci := 0) rfl) hown hK hP 0 rfl rfl 1 (by decide) (hts (.fieldLink RX0 15 "BallotWays$Lists" "sizes" "[I") (z_t1 (i := 146) rfl rfl)) (fun _ h9 => h9) rfl dX0_init_21 ?_
  refine lv_iconst (v := (-1)) hx hb dX0_init_24 (by decide) ?_
  have hP : va_P D z_cl (z_W cA (zk_ad h0 [q1, q2]) (LH (fun _ => 0) (fun _ => 0))) H := hP
  have hD : va_D A (z_W cA (zk_ad h0 [q1, q2]) (LH (fun _ => 0) (fun _ => 0))) := hD
  refine zl_callS (own := RX0) (av := [.ref 2, .int (-1)]) (rest := []) hx hb hml hown hts hN hK (d := 1) (y := 244) (by decide) (by decide) ⟨Nat.le_of_ble_eq_true rfl, Nat.le_of_ble_eq_true rfl⟩ hl.1 hA hP hD hS (c_J7_fill_53178_l 0) rfl rfl (z_t1 (i := 144) rfl rfl) (z_t1 (i := 31) rfl rfl) (z_t1 (i := 3) rfl rfl) (by decide +kernel) (Nat.le_of_ble_eq_true rfl) dX0_init_25 (fun h9 H locs hq hP hD hS => ?_)
  obtain ⟨s2, -, rfl, hs2⟩ := hq
  exact W.vret hx hb hr (fun t ht hW => ⟨⟨([q1, q2], LH (fun _ => 0) s2), rfl, ⟨_, rfl, hs2⟩, by rw [ht]; exact hP, va_K.moved hW.alike hK, hD⟩, hS.F ht⟩) hS.2.2 dX0_init_28 hlocks
abbrev cX2_init : ByteArray := prog_4_method_1_code
def yX2_init : MethodName := ⟨RX2, "<init>", "()V"⟩
theorem dX2_init_0 : decode cX2_init 0 = .ok (.aload_n 0, 1) := z_is_ok (by decide +kernel)
theorem dX2_init_1 : decode cX2_init 1 = .ok (.invokespecial 3, 3) := z_is_ok (by decide +kernel)
theorem dX2_init_4 : decode cX2_init 4 = .ok (.aload_n 0, 1) := z_is_ok (by decide +kernel)
theorem dX2_init_5 : decode cX2_init 5 = .ok (.bipush 40, 2) := z_is_ok (by decide +kernel)
theorem dX2_init_7 : decode cX2_init 7 = .ok (.newarray .int, 2) := by decide +kernel
theorem dX2_init_9 : decode cX2_init 9 = .ok (.putfield 9, 3) := z_is_ok (by decide +kernel)
theorem dX2_init_12 : decode cX2_init 12 = .ok (.aload_n 0, 1) := z_is_ok (by decide +kernel)
theorem dX2_init_13 : decode cX2_init 13 = .ok (.bipush 40, 2) := z_is_ok (by decide +kernel)
theorem dX2_init_15 : decode cX2_init 15 = .ok (.newarray .int, 2) := by decide +kernel
theorem dX2_init_17 : decode cX2_init 17 = .ok (.putfield 15, 3) := z_is_ok (by decide +kernel)
theorem dX2_init_20 : decode cX2_init 20 = .ok (.aload_n 0, 1) := z_is_ok (by decide +kernel)
theorem dX2_init_21 : decode cX2_init 21 = .ok (.bipush 8, 2) := z_is_ok (by decide +kernel)
theorem dX2_init_23 : decode cX2_init 23 = .ok (.newarray .int, 2) := by decide +kernel
theorem dX2_init_25 : decode cX2_init 25 = .ok (.putfield 18, 3) := z_is_ok (by decide +kernel)
theorem dX2_init_28 : decode cX2_init 28 = .ok (.aload_n 0, 1) := z_is_ok (by decide +kernel)
theorem dX2_init_29 : decode cX2_init 29 = .ok (.bipush 64, 2) := z_is_ok (by decide +kernel)
theorem dX2_init_31 : decode cX2_init 31 = .ok (.newarray .int, 2) := by decide +kernel
theorem dX2_init_33 : decode cX2_init 33 = .ok (.putfield 21, 3) := z_is_ok (by decide +kernel)
theorem dX2_init_36 : decode cX2_init 36 = .ok (.aload_n 0, 1) := z_is_ok (by decide +kernel)
theorem dX2_init_37 : decode cX2_init 37 = .ok (.iconst 0, 1) := z_is_ok (by decide +kernel)
theorem dX2_init_38 : decode cX2_init 38 = .ok (.putfield 24, 3) := z_is_ok (by decide +kernel)
theorem dX2_init_41 : decode cX2_init 41 = .ok (.aload_n 0, 1) := z_is_ok (by decide +kernel)
theorem dX2_init_42 : decode cX2_init 42 = .ok (.iconst 3, 1) := z_is_ok (by decide +kernel)
theorem dX2_init_43 : decode cX2_init 43 = .ok (.invokevirtual 28, 3) := z_is_ok (by decide +kernel)
theorem dX2_init_46 : decode cX2_init 46 = .ok (.return_, 1) := z_is_ok (by decide +kernel)
set_option maxHeartbeats 4000000 in
set_option maxRecDepth 100000 in
theorem k_X2 (l : Launch) : zk_C l yX2_init cX2_init 2 [.int 0, .int 0, .int 0, .int 0, .null, .null, .null, .null] 4 256 4 152 (fun h' => ∃ d2 f2 : Nat → Int32, h' = PH (nI 3) (nI 0) (nI 0) (nI 0) (fun _ => 0) (fun _ => 0) d2 f2 ∧ ∀ R C cn pl, z_PI R C d2 f2 3 0 0 0 (fun k => k) cn pl) := by
  intro D cA h0 sz
  refine va_MetF (cc := cX2_init) (maxL := 1) (ret := none) (by decide) rfl ?_
  intro p e s m args below meth c s₁ B hml hv
  obtain ⟨rfl, hsz, hP, hK, hD0, hN⟩ := hv
  have hx := B.exec
  have hb := B.bytes
  have hr := B.returns
  have hts0 := atoms_spec B.pre
  have hts : ∀ w ∈ z_AW, w.before ([.ref h0] : List Value).toArray s = true := fun w hw => hts0 w (List.mem_cons_of_mem _ hw)
  have hown : s.vm.findClass RX2 = some m.cls := findClass_of_methodNamed B.named
  have hlocks := B.notSynchronized
  have hin : meth.name = "<init>" := (name_of_methodNamed B.named B.method).1
  subst hsz
  have hD := hD0.self (sz := s.heap.size)
  generalize hAe : va_A [(h0, .inr (2, [.int 0, .int 0, .int 0, .int 0, .null, .null, .null, .null]))] s.heap.size = A at hD ⊢
  have hA : ∀ q : Nat, s.heap.size ≤ q → A q := fun q h => by rw [← hAe]; exact Or.inr h
  have hS : va_S A s.heap s.heap [] := va_S.rf
  have hl := lv_entry ([.ref h0]) (n := 1) (Nat.le_of_ble_eq_true rfl)
  rw [lg_entry_eq]
  generalize (lg_sl ([.ref h0]) ++ List.replicate (1 - (lg_sl ([.ref h0])).length) Slot.unset).toArray = ls at hl ⊢
  have hl : lv_has ls 1 [(0, .ref h0)] := hl
  refine lv_aload_n hx hb dX2_init_0 rfl (lv_at hl 0 rfl) ?_
  refine W.objInit hx hb hown (hts (.methodLink RX2 3 objectInit) (z_t1 (i := 25) rfl rfl)) (hts (.instanceMethod objectInit) (z_t1 (i := 18) rfl rfl)) (hts _ (z_t1 (i := 19) rfl rfl)) rfl (by rw [hml]; exact hl.1) rfl dX2_init_1 (Nat.le_of_ble_eq_true rfl) (Nat.le_of_ble_eq_true rfl) ?_
  refine W.eq (g2 := F0 m 4 ls []) rfl ?_
  refine lv_aload_n hx hb dX2_init_4 rfl (lv_at hl 0 rfl) ?_
  refine lv_bipush (v := 40) hx hb dX2_init_5 (by decide) ?_
  refine zl_newa 0 (atype := .int) (N' := 40) (a0 := (40, .inl (fun _ => 0))) hx hb (hts (.arrayClass .int) (z_t1 (i := 70) rfl rfl)) rfl hK hP hD hS hA (fun _ => rfl) (by decide) (by decide) (by decide) (Nat.le_of_ble_eq_true rfl) (Nat.le_of_ble_eq_true rfl) dX2_init_7 (fun q1 H hP hD hS => ?_)
  have hP : va_P D z_cl [(h0, .inr (2, [.int 0, .int 0, .int 0, .int 0, .null, .null, .null, .null])), (q1, .inl (cA 0, 40, .inl (fun _ => 0)))] H := hP
  have hD : va_D A [(h0, .inr (2, [.int 0, .int 0, .int 0, .int 0, .null, .null, .null, .null])), (q1, .inl (cA 0, 40, .inl (fun _ => 0)))] := hD
  refine va_putF (D := D) (ci := 2) (v := .ref q1) (ty := .array .int) (C := RX2) (T := TX2) (N := 8) hx hb hts (z_fields (ci := 2) rfl) tyX2 tyX2_ok nmX2 hown hK hP hD hS 0 rfl rfl 4 (by decide) (hts (.fieldLink RX2 9 "BallotWays$Poll" "rankings" "[I") (z_t1 (i := 47) rfl rfl)) (fun _ h9 => h9) rfl hin rfl (by decide +kernel) rfl rfl (Nat.le_of_ble_eq_true rfl) dX2_init_9 (fun H locs hP hD hS => ?_)
  have hP : va_P D z_cl [(h0, .inr (2, [.int 0, .int 0, .int 0, .int 0, .ref q1, .null, .null, .null])), (q1, .inl (cA 0, 40, .inl (fun _ => 0)))] H := hP
  have hD : va_D A [(h0, .inr (2, [.int 0, .int 0, .int 0, .int 0, .ref q1, .null, .null, .null])), (q1, .inl (cA 0, 40, .inl (fun _ => 0)))] := hD
  refine lv_aload_n hx hb dX2_init_12 rfl (lv_at hl 0 rfl) ?_
  refine lv_bipush (v := 40) hx hb dX2_init_13 (by decide) ?_
  refine zl_newa 0 (atype := .int) (N' := 40) (a0 := (40, .inl (fun _ => 0))) hx hb (hts (.arrayClass .int) (z_t1 (i := 70) rfl rfl)) rfl hK hP hD hS hA (fun _ => rfl) (by decide) (by decide) (by decide) (Nat.le_of_ble_eq_true rfl) (Nat.le_of_ble_eq_true rfl) dX2_init_15 (fun q2 H hP hD hS => ?_)
  have hP : va_P D z_cl [(h0, .inr (2, [.int 0, .int 0, .int 0, .int 0, .ref q1, .null, .null, .null])), (q1, .inl (cA 0, 40, .inl (fun _ => 0))), (q2, .inl (cA 0, 40, .inl (fun _ => 0)))] H := hP
  have hD : va_D A [(h0, .inr (2, [.int 0, .int 0, .int 0, .int 0, .ref q1, .null, .null, .null])), (q1, .inl (cA 0, 40, .inl (fun _ => 0))), (q2, .inl (cA 0, 40, .inl (fun _ => 0)))] := hD
  refine va_putF (D := D) (ci := 2) (v := .ref q2) (ty := .array .int) (C := RX2) (T := TX2) (N := 8) hx hb hts (z_fields (ci := 2) rfl) tyX2 tyX2_ok nmX2 hown hK hP hD hS 0 rfl rfl 5 (by decide) (hts (.fieldLink RX2 15 "BallotWays$Poll" "counts" "[I") (z_t1 (i := 48) rfl rfl)) (fun _ h9 => h9) rfl hin rfl (by decide +kernel) rfl rfl (Nat.le_of_ble_eq_true rfl) dX2_init_17 (fun H locs hP hD hS => ?_)
  have hP : va_P D z_cl [(h0, .inr (2, [.int 0, .int 0, .int 0, .int 0, .ref q1, .ref q2, .null, .null])), (q1, .inl (cA 0, 40, .inl (fun _ => 0))), (q2, .inl (cA 0, 40, .inl (fun _ => 0)))] H := hP
  have hD : va_D A [(h0, .inr (2, [.int 0, .int 0, .int 0, .int 0, .ref q1, .ref q2, .null, .null])), (q1, .inl (cA 0, 40, .inl (fun _ => 0))), (q2, .inl (cA 0, 40, .inl (fun _ => 0)))] := hD
  refine lv_aload_n hx hb dX2_init_20 rfl (lv_at hl 0 rfl) ?_
  refine lv_bipush (v := 8) hx hb dX2_init_21 (by decide) ?_
  refine zl_newa 0 (atype := .int) (N' := 8) (a0 := (8, .inl (fun _ => 0))) hx hb (hts (.arrayClass .int) (z_t1 (i := 70) rfl rfl)) rfl hK hP hD hS hA (fun _ => rfl) (by decide) (by decide) (by decide) (Nat.le_of_ble_eq_true rfl) (Nat.le_of_ble_eq_true rfl) dX2_init_23 (fun q3 H hP hD hS => ?_)
  have hP : va_P D z_cl [(h0, .inr (2, [.int 0, .int 0, .int 0, .int 0, .ref q1, .ref q2, .null, .null])), (q1, .inl (cA 0, 40, .inl (fun _ => 0))), (q2, .inl (cA 0, 40, .inl (fun _ => 0))), (q3, .inl (cA 0, 8, .inl (fun _ => 0)))] H := hP
  have hD : va_D A [(h0, .inr (2, [.int 0, .int 0, .int 0, .int 0, .ref q1, .ref q2, .null, .null])), (q1, .inl (cA 0, 40, .inl (fun _ => 0))), (q2, .inl (cA 0, 40, .inl (fun _ => 0))), (q3, .inl (cA 0, 8, .inl (fun _ => 0)))] := hD
  refine va_putF (D := D) (ci := 2) (v := .ref q3) (ty := .array .int) (C := RX2) (T := TX2) (N := 8) hx hb hts (z_fields (ci := 2) rfl) tyX2 tyX2_ok nmX2 hown hK hP hD hS 0 rfl rfl 6 (by decide) (hts (.fieldLink RX2 18 "BallotWays$Poll" "draw" "[I") (z_t1 (i := 49) rfl rfl)) (fun _ h9 => h9) rfl hin rfl (by decide +kernel) rfl rfl (Nat.le_of_ble_eq_true rfl) dX2_init_25 (fun H locs hP hD hS => ?_)
  have hP : va_P D z_cl [(h0, .inr (2, [.int 0, .int 0, .int 0, .int 0, .ref q1, .ref q2, .ref q3, .null])), (q1, .inl (cA 0, 40, .inl (fun _ => 0))), (q2, .inl (cA 0, 40, .inl (fun _ => 0))), (q3, .inl (cA 0, 8, .inl (fun _ => 0)))] H := hP
  have hD : va_D A [(h0, .inr (2, [.int 0, .int 0, .int 0, .int 0, .ref q1, .ref q2, .ref q3, .null])), (q1, .inl (cA 0, 40, .inl (fun _ => 0))), (q2, .inl (cA 0, 40, .inl (fun _ => 0))), (q3, .inl (cA 0, 8, .inl (fun _ => 0)))] := hD
  refine lv_aload_n hx hb dX2_init_28 rfl (lv_at hl 0 rfl) ?_
  refine lv_bipush (v := 64) hx hb dX2_init_29 (by decide) ?_
  refine zl_newa 0 (atype := .int) (N' := 64) (a0 := (64, .inl (fun _ => 0))) hx hb (hts (.arrayClass .int) (z_t1 (i := 70) rfl rfl)) rfl hK hP hD hS hA (fun _ => rfl) (by decide) (by decide) (by decide) (Nat.le_of_ble_eq_true rfl) (Nat.le_of_ble_eq_true rfl) dX2_init_31 (fun q4 H hP hD hS => ?_)
  have hP : va_P D z_cl [(h0, .inr (2, [.int 0, .int 0, .int 0, .int 0, .ref q1, .ref q2, .ref q3, .null])), (q1, .inl (cA 0, 40, .inl (fun _ => 0))), (q2, .inl (cA 0, 40, .inl (fun _ => 0))), (q3, .inl (cA 0, 8, .inl (fun _ => 0))), (q4, .inl (cA 0, 64, .inl (fun _ => 0)))] H := hP
  have hD : va_D A [(h0, .inr (2, [.int 0, .int 0, .int 0, .int 0, .ref q1, .ref q2, .ref q3, .null])), (q1, .inl (cA 0, 40, .inl (fun _ => 0))), (q2, .inl (cA 0, 40, .inl (fun _ => 0))), (q3, .inl (cA 0, 8, .inl (fun _ => 0))), (q4, .inl (cA 0, 64, .inl (fun _ => 0)))] := hD
  refine va_putF (D := D) (ci := 2) (v := .ref q4) (ty := .array .int) (C := RX2) (T := TX2) (N := 8) hx hb hts (z_fields (ci := 2) rfl) tyX2 tyX2_ok nmX2 hown hK hP hD hS 0 rfl rfl 7 (by decide) (hts (.fieldLink RX2 21 "BallotWays$Poll" "fors" "[I") (z_t1 (i := 51) rfl rfl)) (fun _ h9 => h9) rfl hin rfl (by decide +kernel) rfl rfl (Nat.le_of_ble_eq_true rfl) dX2_init_33 (fun H locs hP hD hS => ?_)
  have hP : va_P D z_cl [(h0, .inr (2, [.int 0, .int 0, .int 0, .int 0, .ref q1, .ref q2, .ref q3, .ref q4])), (q1, .inl (cA 0, 40, .inl (fun _ => 0))), (q2, .inl (cA 0, 40, .inl (fun _ => 0))), (q3, .inl (cA 0, 8, .inl (fun _ => 0))), (q4, .inl (cA 0, 64, .inl (fun _ => 0)))] H := hP
  have hD : va_D A [(h0, .inr (2, [.int 0, .int 0, .int 0, .int 0, .ref q1, .ref q2, .ref q3, .ref q4])), (q1, .inl (cA 0, 40, .inl (fun _ => 0))), (q2, .inl (cA 0, 40, .inl (fun _ => 0))), (q3, .inl (cA 0, 8, .inl (fun _ => 0))), (q4, .inl (cA 0, 64, .inl (fun _ => 0)))] := hD
  refine lv_aload_n hx hb dX2_init_36 rfl (lv_at hl 0 rfl) ?_
  refine lv_iconst (v := 0) hx hb dX2_init_37 (by decide) ?_
  refine va_put (D := D) (ci := 2) (v := .int 0) (ty := .int) (C := RX2) (T := TX2) (N := 8) hx hb hts (z_fields (ci := 2) rfl) tyX2 tyX2_ok nmX2 hown hK hP hD hS 0 rfl rfl 2 (by decide) (hts (.fieldLink RX2 24 "BallotWays$Poll" "rule" "I") (z_t1 (i := 42) rfl rfl)) (fun _ h9 => h9) rfl (by decide +kernel) rfl rfl (Nat.le_of_ble_eq_true rfl) dX2_init_38 (fun H locs hP hD hS => ?_)
  have hP : va_P D z_cl [(h0, .inr (2, [.int 0, .int 0, .int 0, .int 0, .ref q1, .ref q2, .ref q3, .ref q4])), (q1, .inl (cA 0, 40, .inl (fun _ => 0))), (q2, .inl (cA 0, 40, .inl (fun _ => 0))), (q3, .inl (cA 0, 8, .inl (fun _ => 0))), (q4, .inl (cA 0, 64, .inl (fun _ => 0)))] H := hP
  have hD : va_D A [(h0, .inr (2, [.int 0, .int 0, .int 0, .int 0, .ref q1, .ref q2, .ref q3, .ref q4])), (q1, .inl (cA 0, 40, .inl (fun _ => 0))), (q2, .inl (cA 0, 40, .inl (fun _ => 0))), (q3, .inl (cA 0, 8, .inl (fun _ => 0))), (q4, .inl (cA 0, 64, .inl (fun _ => 0)))] := hD
  refine lv_aload_n hx hb dX2_init_41 rfl (lv_at hl 0 rfl) ?_
  refine lv_iconst (v := 3) hx hb dX2_init_42 (by decide) ?_
  have hP : va_P D z_cl (zk_W cA (zk_ad h0 [q1, q2, q3, q4]) 0 (PH 0 0 (nI 0) 0 (fun _ => 0) (fun _ => 0) (fun _ => 0) (fun _ => 0)) ++ []) H := hP
  have hD : va_D A (zk_W cA (zk_ad h0 [q1, q2, q3, q4]) 0 (PH 0 0 (nI 0) 0 (fun _ => 0) (fun _ => 0) (fun _ => 0) (fun _ => 0)) ++ []) := hD
  rw [← zk_W_eq] at hP hD
  refine zl_call (own := RX2) (av := [.int (nI 3)]) (rest := []) (ad := zk_ad h0 [q1, q2, q3, q4]) (b := 0) (ci := 2) (B := []) (h := PH 0 0 (nI 0) 0 (fun _ => 0) (fun _ => 0) (fun _ => 0) (fun _ => 0)) (d := 2) (y := 10) hx hb hml hown hts hN hK (by decide) (by decide) ⟨Nat.le_of_ble_eq_true rfl, Nat.le_of_ble_eq_true rfl⟩ hl.1 hA hP hD hS (c_X2_start_P 0 (by decide) (by decide) (by decide)) rfl rfl rfl rfl (z_t1 (i := 26) rfl rfl) (z_t1 (i := 27) rfl rfl) (z_t1 (i := 28) rfl rfl) (z_t1 (i := 2) rfl rfl) (by decide +kernel) (Nat.le_of_ble_eq_true rfl) dX2_init_43 (fun r h9 H locs hq hP hD hS => ?_)
  obtain ⟨d2, f2, rfl, rfl, hI⟩ := hq
  exact W.vret hx hb hr (fun t ht hW => ⟨⟨([q1, q2, q3, q4], PH (nI 3) (nI 0) (nI 0) (nI 0) (fun _ => 0) (fun _ => 0) d2 f2), rfl, ⟨_, _, rfl, fun R C cn pl => hI R C cn pl⟩, by rw [ht]; exact hP, va_K.moved hW.alike hK, hD⟩, hS.F ht⟩) hS.2.2 dX2_init_46 hlocks
abbrev cX6_init : ByteArray := prog_8_method_1_code
def yX6_init : MethodName := ⟨RX6, "<init>", "()V"⟩
theorem dX6_init_0 : decode cX6_init 0 = .ok (.aload_n 0, 1) := z_is_ok (by decide +kernel)
theorem dX6_init_1 : decode cX6_init 1 = .ok (.invokespecial 5, 3) := z_is_ok (by decide +kernel)
theorem dX6_init_4 : decode cX6_init 4 = .ok (.aload_n 0, 1) := z_is_ok (by decide +kernel)
theorem dX6_init_5 : decode cX6_init 5 = .ok (.sipush 372, 3) := z_is_ok (by decide +kernel)
theorem dX6_init_8 : decode cX6_init 8 = .ok (.newarray .int, 2) := by decide +kernel
theorem dX6_init_10 : decode cX6_init 10 = .ok (.putfield 11, 3) := z_is_ok (by decide +kernel)
theorem dX6_init_13 : decode cX6_init 13 = .ok (.aload_n 0, 1) := z_is_ok (by decide +kernel)
theorem dX6_init_14 : decode cX6_init 14 = .ok (.sipush 372, 3) := z_is_ok (by decide +kernel)
theorem dX6_init_17 : decode cX6_init 17 = .ok (.newarray .int, 2) := by decide +kernel
theorem dX6_init_19 : decode cX6_init 19 = .ok (.putfield 15, 3) := z_is_ok (by decide +kernel)
theorem dX6_init_22 : decode cX6_init 22 = .ok (.aload_n 0, 1) := z_is_ok (by decide +kernel)
theorem dX6_init_23 : decode cX6_init 23 = .ok (.sipush 372, 3) := z_is_ok (by decide +kernel)
theorem dX6_init_26 : decode cX6_init 26 = .ok (.newarray .int, 2) := by decide +kernel
theorem dX6_init_28 : decode cX6_init 28 = .ok (.putfield 18, 3) := z_is_ok (by decide +kernel)
theorem dX6_init_31 : decode cX6_init 31 = .ok (.aload_n 0, 1) := z_is_ok (by decide +kernel)
theorem dX6_init_32 : decode cX6_init 32 = .ok (.bipush 120, 2) := z_is_ok (by decide +kernel)
theorem dX6_init_34 : decode cX6_init 34 = .ok (.newarray .int, 2) := by decide +kernel
theorem dX6_init_36 : decode cX6_init 36 = .ok (.putfield 21, 3) := z_is_ok (by decide +kernel)
theorem dX6_init_39 : decode cX6_init 39 = .ok (.aload_n 0, 1) := z_is_ok (by decide +kernel)
theorem dX6_init_40 : decode cX6_init 40 = .ok (.bipush 8, 2) := z_is_ok (by decide +kernel)
theorem dX6_init_42 : decode cX6_init 42 = .ok (.newarray .int, 2) := by decide +kernel
theorem dX6_init_44 : decode cX6_init 44 = .ok (.putfield 24, 3) := z_is_ok (by decide +kernel)
theorem dX6_init_47 : decode cX6_init 47 = .ok (.aload_n 0, 1) := z_is_ok (by decide +kernel)
theorem dX6_init_48 : decode cX6_init 48 = .ok (.bipush 16, 2) := z_is_ok (by decide +kernel)
theorem dX6_init_50 : decode cX6_init 50 = .ok (.newarray .int, 2) := by decide +kernel
theorem dX6_init_52 : decode cX6_init 52 = .ok (.putfield 27, 3) := z_is_ok (by decide +kernel)
theorem dX6_init_55 : decode cX6_init 55 = .ok (.aload_n 0, 1) := z_is_ok (by decide +kernel)
theorem dX6_init_56 : decode cX6_init 56 = .ok (.bipush 64, 2) := z_is_ok (by decide +kernel)
theorem dX6_init_58 : decode cX6_init 58 = .ok (.newarray .long, 2) := by decide +kernel
theorem dX6_init_60 : decode cX6_init 60 = .ok (.putfield 30, 3) := z_is_ok (by decide +kernel)
theorem dX6_init_63 : decode cX6_init 63 = .ok (.aload_n 0, 1) := z_is_ok (by decide +kernel)
theorem dX6_init_64 : decode cX6_init 64 = .ok (.bipush 64, 2) := z_is_ok (by decide +kernel)
theorem dX6_init_66 : decode cX6_init 66 = .ok (.newarray .long, 2) := by decide +kernel
theorem dX6_init_68 : decode cX6_init 68 = .ok (.putfield 34, 3) := z_is_ok (by decide +kernel)
theorem dX6_init_71 : decode cX6_init 71 = .ok (.aload_n 0, 1) := z_is_ok (by decide +kernel)
theorem dX6_init_72 : decode cX6_init 72 = .ok (.bipush 64, 2) := z_is_ok (by decide +kernel)
theorem dX6_init_74 : decode cX6_init 74 = .ok (.newarray .long, 2) := by decide +kernel
theorem dX6_init_76 : decode cX6_init 76 = .ok (.putfield 37, 3) := z_is_ok (by decide +kernel)
theorem dX6_init_79 : decode cX6_init 79 = .ok (.aload_n 0, 1) := z_is_ok (by decide +kernel)
theorem dX6_init_80 : decode cX6_init 80 = .ok (.bipush 8, 2) := z_is_ok (by decide +kernel)
theorem dX6_init_82 : decode cX6_init 82 = .ok (.newarray .boolean, 2) := by decide +kernel
theorem dX6_init_84 : decode cX6_init 84 = .ok (.putfield 40, 3) := z_is_ok (by decide +kernel)
theorem dX6_init_87 : decode cX6_init 87 = .ok (.aload_n 0, 1) := z_is_ok (by decide +kernel)
theorem dX6_init_88 : decode cX6_init 88 = .ok (.bipush 8, 2) := z_is_ok (by decide +kernel)
theorem dX6_init_90 : decode cX6_init 90 = .ok (.newarray .int, 2) := by decide +kernel
theorem dX6_init_92 : decode cX6_init 92 = .ok (.putfield 44, 3) := z_is_ok (by decide +kernel)
theorem dX6_init_95 : decode cX6_init 95 = .ok (.aload_n 0, 1) := z_is_ok (by decide +kernel)
theorem dX6_init_96 : decode cX6_init 96 = .ok (.bipush 8, 2) := z_is_ok (by decide +kernel)
theorem dX6_init_98 : decode cX6_init 98 = .ok (.newarray .int, 2) := by decide +kernel
theorem dX6_init_100 : decode cX6_init 100 = .ok (.putfield 47, 3) := z_is_ok (by decide +kernel)
theorem dX6_init_103 : decode cX6_init 103 = .ok (.aload_n 0, 1) := z_is_ok (by decide +kernel)
theorem dX6_init_104 : decode cX6_init 104 = .ok (.iconst 4, 1) := z_is_ok (by decide +kernel)
theorem dX6_init_105 : decode cX6_init 105 = .ok (.newarray .int, 2) := by decide +kernel
theorem dX6_init_107 : decode cX6_init 107 = .ok (.dup, 1) := z_is_ok (by decide +kernel)
theorem dX6_init_108 : decode cX6_init 108 = .ok (.iconst 0, 1) := z_is_ok (by decide +kernel)
theorem dX6_init_109 : decode cX6_init 109 = .ok (.iconst (-1), 1) := z_is_ok (by decide +kernel)
theorem dX6_init_110 : decode cX6_init 110 = .ok (.iastore, 1) := z_is_ok (by decide +kernel)
theorem dX6_init_111 : decode cX6_init 111 = .ok (.dup, 1) := z_is_ok (by decide +kernel)
theorem dX6_init_112 : decode cX6_init 112 = .ok (.iconst 1, 1) := z_is_ok (by decide +kernel)
theorem dX6_init_113 : decode cX6_init 113 = .ok (.iconst (-1), 1) := z_is_ok (by decide +kernel)
theorem dX6_init_114 : decode cX6_init 114 = .ok (.iastore, 1) := z_is_ok (by decide +kernel)
theorem dX6_init_115 : decode cX6_init 115 = .ok (.dup, 1) := z_is_ok (by decide +kernel)
theorem dX6_init_116 : decode cX6_init 116 = .ok (.iconst 2, 1) := z_is_ok (by decide +kernel)
theorem dX6_init_117 : decode cX6_init 117 = .ok (.iconst (-1), 1) := z_is_ok (by decide +kernel)
theorem dX6_init_118 : decode cX6_init 118 = .ok (.iastore, 1) := z_is_ok (by decide +kernel)
theorem dX6_init_119 : decode cX6_init 119 = .ok (.dup, 1) := z_is_ok (by decide +kernel)
theorem dX6_init_120 : decode cX6_init 120 = .ok (.iconst 3, 1) := z_is_ok (by decide +kernel)
theorem dX6_init_121 : decode cX6_init 121 = .ok (.iconst (-1), 1) := z_is_ok (by decide +kernel)
theorem dX6_init_122 : decode cX6_init 122 = .ok (.iastore, 1) := z_is_ok (by decide +kernel)
theorem dX6_init_123 : decode cX6_init 123 = .ok (.putfield 50, 3) := z_is_ok (by decide +kernel)
theorem dX6_init_126 : decode cX6_init 126 = .ok (.aload_n 0, 1) := z_is_ok (by decide +kernel)
theorem dX6_init_127 : decode cX6_init 127 = .ok (.sipush 160, 3) := z_is_ok (by decide +kernel)
theorem dX6_init_130 : decode cX6_init 130 = .ok (.newarray .long, 2) := by decide +kernel
theorem dX6_init_132 : decode cX6_init 132 = .ok (.putfield 53, 3) := z_is_ok (by decide +kernel)
theorem dX6_init_135 : decode cX6_init 135 = .ok (.aload_n 0, 1) := z_is_ok (by decide +kernel)
theorem dX6_init_136 : decode cX6_init 136 = .ok (.iconst 3, 1) := z_is_ok (by decide +kernel)
theorem dX6_init_137 : decode cX6_init 137 = .ok (.invokevirtual 56, 3) := z_is_ok (by decide +kernel)
theorem dX6_init_140 : decode cX6_init 140 = .ok (.return_, 1) := z_is_ok (by decide +kernel)
set_option maxHeartbeats 4000000 in
set_option maxRecDepth 100000 in
theorem k_X6 (l : Launch) : zk_C l yX6_init cX6_init 6 [.null, .null, .null, .int 0, .null, .int 0, .int 0, .int 0, .int 0, .null, .null, .int 0, .null, .null, .null, .null, .null, .null, .int 0, .null, .null, .long 0, .long 0] 4 256 14 1640 (fun h' => ∃ g2 lz : Nat → Int32, h' = MH g2 (fun _ => 0) (fun _ => 0) 0 (fun _ => 0) 0 0 0 0 (fun _ => 0) (fun _ => 0) 0 (fun _ => 0) (fun _ => 0) (fun _ => 0) (fun _ => 0) (fun _ => 0) (fun _ => 0) 0 lz (fun _ => 0) 0 0 ∧ (∀ cn pl, z_GI g2 3 0 0 0 (fun k => k) cn pl) ∧ ∀ k, k < 4 → lz k = -1) := by
  intro D cA h0 sz
  refine va_MetF (cc := cX6_init) (maxL := 1) (ret := none) (by decide) rfl ?_
  intro p e s m args below meth c s₁ B hml hv
  obtain ⟨rfl, hsz, hP, hK, hD0, hN⟩ := hv
  have hx := B.exec
  have hb := B.bytes
  have hr := B.returns
  have hts0 := atoms_spec B.pre
  have hts : ∀ w ∈ z_AW, w.before ([.ref h0] : List Value).toArray s = true := fun w hw => hts0 w (List.mem_cons_of_mem _ hw)
  have hown : s.vm.findClass RX6 = some m.cls := findClass_of_methodNamed B.named
  have hlocks := B.notSynchronized
  have hin : meth.name = "<init>" := (name_of_methodNamed B.named B.method).1
  subst hsz
  have hD := hD0.self (sz := s.heap.size)
  generalize hAe : va_A [(h0, .inr (6, [.null, .null, .null, .int 0, .null, .int 0, .int 0, .int 0, .int 0, .null, .null, .int 0, .null, .null, .null, .null, .null, .null, .int 0, .null, .null, .long 0, .long 0]))] s.heap.size = A at hD ⊢
  have hA : ∀ q : Nat, s.heap.size ≤ q → A q := fun q h => by rw [← hAe]; exact Or.inr h
  have hS : va_S A s.heap s.heap [] := va_S.rf
  have hl := lv_entry ([.ref h0]) (n := 1) (Nat.le_of_ble_eq_true rfl)
  rw [lg_entry_eq]
  generalize (lg_sl ([.ref h0]) ++ List.replicate (1 - (lg_sl ([.ref h0])).length) Slot.unset).toArray = ls at hl ⊢
  have hl : lv_has ls 1 [(0, .ref h0)] := hl
  refine lv_aload_n hx hb dX6_init_0 rfl (lv_at hl 0 rfl) ?_
  refine W.objInit hx hb hown (hts (.methodLink RX6 5 objectInit) (z_t4 (i := 46) rfl rfl)) (hts (.instanceMethod objectInit) (z_t1 (i := 18) rfl rfl)) (hts _ (z_t1 (i := 19) rfl rfl)) rfl (by rw [hml]; exact hl.1) rfl dX6_init_1 (Nat.le_of_ble_eq_true rfl) (Nat.le_of_ble_eq_true rfl) ?_
  refine W.eq (g2 := F0 m 4 ls []) rfl ?_
  refine lv_aload_n hx hb dX6_init_4 rfl (lv_at hl 0 rfl) ?_
  refine lv_sipush (v := 372) hx hb dX6_init_5 (by decide) ?_
  refine zl_newa 0 (atype := .int) (N' := 372) (a0 := (372, .inl (fun _ => 0))) hx hb (hts (.arrayClass .int) (z_t1 (i := 70) rfl rfl)) rfl hK hP hD hS hA (fun _ => rfl) (by decide) (by decide) (by decide) (Nat.le_of_ble_eq_true rfl) (Nat.le_of_ble_eq_true rfl) dX6_init_8 (fun q1 H hP hD hS => ?_)
  have hP : va_P D z_cl [(h0, .inr (6, [.null, .null, .null, .int 0, .null, .int 0, .int 0, .int 0, .int 0, .null, .null, .int 0, .null, .null, .null, .null, .null, .null, .int 0, .null, .null, .long 0, .long 0])), (q1, .inl (cA 0, 372, .inl (fun _ => 0)))] H := hP
  have hD : va_D A [(h0, .inr (6, [.null, .null, .null, .int 0, .null, .int 0, .int 0, .int 0, .int 0, .null, .null, .int 0, .null, .null, .null, .null, .null, .null, .int 0, .null, .null, .long 0, .long 0])), (q1, .inl (cA 0, 372, .inl (fun _ => 0)))] := hD
  refine va_putF (D := D) (ci := 6) (v := .ref q1) (ty := .array .int) (C := RX6) (T := TX6) (N := 23) hx hb hts (z_fields (ci := 6) rfl) tyX6 tyX6_ok nmX6 hown hK hP hD hS 0 rfl rfl 0 (by decide) (hts (.fieldLink RX6 11 "BallotWaysModel" "g" "[I") (z_t4 (i := 51) rfl rfl)) (fun _ h9 => h9) rfl hin rfl (by decide +kernel) rfl rfl (Nat.le_of_ble_eq_true rfl) dX6_init_10 (fun H locs hP hD hS => ?_)
  have hP : va_P D z_cl [(h0, .inr (6, [.ref q1, .null, .null, .int 0, .null, .int 0, .int 0, .int 0, .int 0, .null, .null, .int 0, .null, .null, .null, .null, .null, .null, .int 0, .null, .null, .long 0, .long 0])), (q1, .inl (cA 0, 372, .inl (fun _ => 0)))] H := hP
  have hD : va_D A [(h0, .inr (6, [.ref q1, .null, .null, .int 0, .null, .int 0, .int 0, .int 0, .int 0, .null, .null, .int 0, .null, .null, .null, .null, .null, .null, .int 0, .null, .null, .long 0, .long 0])), (q1, .inl (cA 0, 372, .inl (fun _ => 0)))] := hD
  refine lv_aload_n hx hb dX6_init_13 rfl (lv_at hl 0 rfl) ?_
  refine lv_sipush (v := 372) hx hb dX6_init_14 (by decide) ?_
  refine zl_newa 0 (atype := .int) (N' := 372) (a0 := (372, .inl (fun _ => 0))) hx hb (hts (.arrayClass .int) (z_t1 (i := 70) rfl rfl)) rfl hK hP hD hS hA (fun _ => rfl) (by decide) (by decide) (by decide) (Nat.le_of_ble_eq_true rfl) (Nat.le_of_ble_eq_true rfl) dX6_init_17 (fun q2 H hP hD hS => ?_)
  have hP : va_P D z_cl [(h0, .inr (6, [.ref q1, .null, .null, .int 0, .null, .int 0, .int 0, .int 0, .int 0, .null, .null, .int 0, .null, .null, .null, .null, .null, .null, .int 0, .null, .null, .long 0, .long 0])), (q1, .inl (cA 0, 372, .inl (fun _ => 0))), (q2, .inl (cA 0, 372, .inl (fun _ => 0)))] H := hP
  have hD : va_D A [(h0, .inr (6, [.ref q1, .null, .null, .int 0, .null, .int 0, .int 0, .int 0, .int 0, .null, .null, .int 0, .null, .null, .null, .null, .null, .null, .int 0, .null, .null, .long 0, .long 0])), (q1, .inl (cA 0, 372, .inl (fun _ => 0))), (q2, .inl (cA 0, 372, .inl (fun _ => 0)))] := hD
  refine va_putF (D := D) (ci := 6) (v := .ref q2) (ty := .array .int) (C := RX6) (T := TX6) (N := 23) hx hb hts (z_fields (ci := 6) rfl) tyX6 tyX6_ok nmX6 hown hK hP hD hS 0 rfl rfl 1 (by decide) (hts (.fieldLink RX6 15 "BallotWaysModel" "kept" "[I") (z_t4 (i := 52) rfl rfl)) (fun _ h9 => h9) rfl hin rfl (by decide +kernel) rfl rfl (Nat.le_of_ble_eq_true rfl) dX6_init_19 (fun H locs hP hD hS => ?_)
  have hP : va_P D z_cl [(h0, .inr (6, [.ref q1, .ref q2, .null, .int 0, .null, .int 0, .int 0, .int 0, .int 0, .null, .null, .int 0, .null, .null, .null, .null, .null, .null, .int 0, .null, .null, .long 0, .long 0])), (q1, .inl (cA 0, 372, .inl (fun _ => 0))), (q2, .inl (cA 0, 372, .inl (fun _ => 0)))] H := hP
  have hD : va_D A [(h0, .inr (6, [.ref q1, .ref q2, .null, .int 0, .null, .int 0, .int 0, .int 0, .int 0, .null, .null, .int 0, .null, .null, .null, .null, .null, .null, .int 0, .null, .null, .long 0, .long 0])), (q1, .inl (cA 0, 372, .inl (fun _ => 0))), (q2, .inl (cA 0, 372, .inl (fun _ => 0)))] := hD
  refine lv_aload_n hx hb dX6_init_22 rfl (lv_at hl 0 rfl) ?_
  refine lv_sipush (v := 372) hx hb dX6_init_23 (by decide) ?_
  refine zl_newa 0 (atype := .int) (N' := 372) (a0 := (372, .inl (fun _ => 0))) hx hb (hts (.arrayClass .int) (z_t1 (i := 70) rfl rfl)) rfl hK hP hD hS hA (fun _ => rfl) (by decide) (by decide) (by decide) (Nat.le_of_ble_eq_true rfl) (Nat.le_of_ble_eq_true rfl) dX6_init_26 (fun q3 H hP hD hS => ?_)
  have hP : va_P D z_cl [(h0, .inr (6, [.ref q1, .ref q2, .null, .int 0, .null, .int 0, .int 0, .int 0, .int 0, .null, .null, .int 0, .null, .null, .null, .null, .null, .null, .int 0, .null, .null, .long 0, .long 0])), (q1, .inl (cA 0, 372, .inl (fun _ => 0))), (q2, .inl (cA 0, 372, .inl (fun _ => 0))), (q3, .inl (cA 0, 372, .inl (fun _ => 0)))] H := hP
  have hD : va_D A [(h0, .inr (6, [.ref q1, .ref q2, .null, .int 0, .null, .int 0, .int 0, .int 0, .int 0, .null, .null, .int 0, .null, .null, .null, .null, .null, .null, .int 0, .null, .null, .long 0, .long 0])), (q1, .inl (cA 0, 372, .inl (fun _ => 0))), (q2, .inl (cA 0, 372, .inl (fun _ => 0))), (q3, .inl (cA 0, 372, .inl (fun _ => 0)))] := hD
  refine va_putF (D := D) (ci := 6) (v := .ref q3) (ty := .array .int) (C := RX6) (T := TX6) (N := 23) hx hb hts (z_fields (ci := 6) rfl) tyX6 tyX6_ok nmX6 hown hK hP hD hS 0 rfl rfl 2 (by decide) (hts (.fieldLink RX6 18 "BallotWaysModel" "was" "[I") (z_t4 (i := 53) rfl rfl)) (fun _ h9 => h9) rfl hin rfl (by decide +kernel) rfl rfl (Nat.le_of_ble_eq_true rfl) dX6_init_28 (fun H locs hP hD hS => ?_)
  have hP : va_P D z_cl [(h0, .inr (6, [.ref q1, .ref q2, .ref q3, .int 0, .null, .int 0, .int 0, .int 0, .int 0, .null, .null, .int 0, .null, .null, .null, .null, .null, .null, .int 0, .null, .null, .long 0, .long 0])), (q1, .inl (cA 0, 372, .inl (fun _ => 0))), (q2, .inl (cA 0, 372, .inl (fun _ => 0))), (q3, .inl (cA 0, 372, .inl (fun _ => 0)))] H := hP
  have hD : va_D A [(h0, .inr (6, [.ref q1, .ref q2, .ref q3, .int 0, .null, .int 0, .int 0, .int 0, .int 0, .null, .null, .int 0, .null, .null, .null, .null, .null, .null, .int 0, .null, .null, .long 0, .long 0])), (q1, .inl (cA 0, 372, .inl (fun _ => 0))), (q2, .inl (cA 0, 372, .inl (fun _ => 0))), (q3, .inl (cA 0, 372, .inl (fun _ => 0)))] := hD
  refine lv_aload_n hx hb dX6_init_31 rfl (lv_at hl 0 rfl) ?_
  refine lv_bipush (v := 120) hx hb dX6_init_32 (by decide) ?_
  refine zl_newa 0 (atype := .int) (N' := 120) (a0 := (120, .inl (fun _ => 0))) hx hb (hts (.arrayClass .int) (z_t1 (i := 70) rfl rfl)) rfl hK hP hD hS hA (fun _ => rfl) (by decide) (by decide) (by decide) (Nat.le_of_ble_eq_true rfl) (Nat.le_of_ble_eq_true rfl) dX6_init_34 (fun q4 H hP hD hS => ?_)
  have hP : va_P D z_cl [(h0, .inr (6, [.ref q1, .ref q2, .ref q3, .int 0, .null, .int 0, .int 0, .int 0, .int 0, .null, .null, .int 0, .null, .null, .null, .null, .null, .null, .int 0, .null, .null, .long 0, .long 0])), (q1, .inl (cA 0, 372, .inl (fun _ => 0))), (q2, .inl (cA 0, 372, .inl (fun _ => 0))), (q3, .inl (cA 0, 372, .inl (fun _ => 0))), (q4, .inl (cA 0, 120, .inl (fun _ => 0)))] H := hP
  have hD : va_D A [(h0, .inr (6, [.ref q1, .ref q2, .ref q3, .int 0, .null, .int 0, .int 0, .int 0, .int 0, .null, .null, .int 0, .null, .null, .null, .null, .null, .null, .int 0, .null, .null, .long 0, .long 0])), (q1, .inl (cA 0, 372, .inl (fun _ => 0))), (q2, .inl (cA 0, 372, .inl (fun _ => 0))), (q3, .inl (cA 0, 372, .inl (fun _ => 0))), (q4, .inl (cA 0, 120, .inl (fun _ => 0)))] := hD
  refine va_putF (D := D) (ci := 6) (v := .ref q4) (ty := .array .int) (C := RX6) (T := TX6) (N := 23) hx hb hts (z_fields (ci := 6) rfl) tyX6 tyX6_ok nmX6 hown hK hP hD hS 0 rfl rfl 4 (by decide) (hts (.fieldLink RX6 21 "BallotWaysModel" "tape" "[I") (z_t4 (i := 55) rfl rfl)) (fun _ h9 => h9) rfl hin rfl (by decide +kernel) rfl rfl (Nat.le_of_ble_eq_true rfl) dX6_init_36 (fun H locs hP hD hS => ?_)
  have hP : va_P D z_cl [(h0, .inr (6, [.ref q1, .ref q2, .ref q3, .int 0, .ref q4, .int 0, .int 0, .int 0, .int 0, .null, .null, .int 0, .null, .null, .null, .null, .null, .null, .int 0, .null, .null, .long 0, .long 0])), (q1, .inl (cA 0, 372, .inl (fun _ => 0))), (q2, .inl (cA 0, 372, .inl (fun _ => 0))), (q3, .inl (cA 0, 372, .inl (fun _ => 0))), (q4, .inl (cA 0, 120, .inl (fun _ => 0)))] H := hP
  have hD : va_D A [(h0, .inr (6, [.ref q1, .ref q2, .ref q3, .int 0, .ref q4, .int 0, .int 0, .int 0, .int 0, .null, .null, .int 0, .null, .null, .null, .null, .null, .null, .int 0, .null, .null, .long 0, .long 0])), (q1, .inl (cA 0, 372, .inl (fun _ => 0))), (q2, .inl (cA 0, 372, .inl (fun _ => 0))), (q3, .inl (cA 0, 372, .inl (fun _ => 0))), (q4, .inl (cA 0, 120, .inl (fun _ => 0)))] := hD
  refine lv_aload_n hx hb dX6_init_39 rfl (lv_at hl 0 rfl) ?_
  refine lv_bipush (v := 8) hx hb dX6_init_40 (by decide) ?_
  refine zl_newa 0 (atype := .int) (N' := 8) (a0 := (8, .inl (fun _ => 0))) hx hb (hts (.arrayClass .int) (z_t1 (i := 70) rfl rfl)) rfl hK hP hD hS hA (fun _ => rfl) (by decide) (by decide) (by decide) (Nat.le_of_ble_eq_true rfl) (Nat.le_of_ble_eq_true rfl) dX6_init_42 (fun q5 H hP hD hS => ?_)
  have hP : va_P D z_cl [(h0, .inr (6, [.ref q1, .ref q2, .ref q3, .int 0, .ref q4, .int 0, .int 0, .int 0, .int 0, .null, .null, .int 0, .null, .null, .null, .null, .null, .null, .int 0, .null, .null, .long 0, .long 0])), (q1, .inl (cA 0, 372, .inl (fun _ => 0))), (q2, .inl (cA 0, 372, .inl (fun _ => 0))), (q3, .inl (cA 0, 372, .inl (fun _ => 0))), (q4, .inl (cA 0, 120, .inl (fun _ => 0))), (q5, .inl (cA 0, 8, .inl (fun _ => 0)))] H := hP
  have hD : va_D A [(h0, .inr (6, [.ref q1, .ref q2, .ref q3, .int 0, .ref q4, .int 0, .int 0, .int 0, .int 0, .null, .null, .int 0, .null, .null, .null, .null, .null, .null, .int 0, .null, .null, .long 0, .long 0])), (q1, .inl (cA 0, 372, .inl (fun _ => 0))), (q2, .inl (cA 0, 372, .inl (fun _ => 0))), (q3, .inl (cA 0, 372, .inl (fun _ => 0))), (q4, .inl (cA 0, 120, .inl (fun _ => 0))), (q5, .inl (cA 0, 8, .inl (fun _ => 0)))] := hD
  refine va_putF (D := D) (ci := 6) (v := .ref q5) (ty := .array .int) (C := RX6) (T := TX6) (N := 23) hx hb hts (z_fields (ci := 6) rfl) tyX6 tyX6_ok nmX6 hown hK hP hD hS 0 rfl rfl 9 (by decide) (hts (.fieldLink RX6 24 "BallotWaysModel" "ranking" "[I") (z_t4 (i := 60) rfl rfl)) (fun _ h9 => h9) rfl hin rfl (by decide +kernel) rfl rfl (Nat.le_of_ble_eq_true rfl) dX6_init_44 (fun H locs hP hD hS => ?_)
  have hP : va_P D z_cl [(h0, .inr (6, [.ref q1, .ref q2, .ref q3, .int 0, .ref q4, .int 0, .int 0, .int 0, .int 0, .ref q5, .null, .int 0, .null, .null, .null, .null, .null, .null, .int 0, .null, .null, .long 0, .long 0])), (q1, .inl (cA 0, 372, .inl (fun _ => 0))), (q2, .inl (cA 0, 372, .inl (fun _ => 0))), (q3, .inl (cA 0, 372, .inl (fun _ => 0))), (q4, .inl (cA 0, 120, .inl (fun _ => 0))), (q5, .inl (cA 0, 8, .inl (fun _ => 0)))] H := hP
  have hD : va_D A [(h0, .inr (6, [.ref q1, .ref q2, .ref q3, .int 0, .ref q4, .int 0, .int 0, .int 0, .int 0, .ref q5, .null, .int 0, .null, .null, .null, .null, .null, .null, .int 0, .null, .null, .long 0, .long 0])), (q1, .inl (cA 0, 372, .inl (fun _ => 0))), (q2, .inl (cA 0, 372, .inl (fun _ => 0))), (q3, .inl (cA 0, 372, .inl (fun _ => 0))), (q4, .inl (cA 0, 120, .inl (fun _ => 0))), (q5, .inl (cA 0, 8, .inl (fun _ => 0)))] := hD
  refine lv_aload_n hx hb dX6_init_47 rfl (lv_at hl 0 rfl) ?_
  refine lv_bipush (v := 16) hx hb dX6_init_48 (by decide) ?_
  refine zl_newa 0 (atype := .int) (N' := 16) (a0 := (16, .inl (fun _ => 0))) hx hb (hts (.arrayClass .int) (z_t1 (i := 70) rfl rfl)) rfl hK hP hD hS hA (fun _ => rfl) (by decide) (by decide) (by decide) (Nat.le_of_ble_eq_true rfl) (Nat.le_of_ble_eq_true rfl) dX6_init_50 (fun q6 H hP hD hS => ?_)
  have hP : va_P D z_cl [(h0, .inr (6, [.ref q1, .ref q2, .ref q3, .int 0, .ref q4, .int 0, .int 0, .int 0, .int 0, .ref q5, .null, .int 0, .null, .null, .null, .null, .null, .null, .int 0, .null, .null, .long 0, .long 0])), (q1, .inl (cA 0, 372, .inl (fun _ => 0))), (q2, .inl (cA 0, 372, .inl (fun _ => 0))), (q3, .inl (cA 0, 372, .inl (fun _ => 0))), (q4, .inl (cA 0, 120, .inl (fun _ => 0))), (q5, .inl (cA 0, 8, .inl (fun _ => 0))), (q6, .inl (cA 0, 16, .inl (fun _ => 0)))] H := hP
  have hD : va_D A [(h0, .inr (6, [.ref q1, .ref q2, .ref q3, .int 0, .ref q4, .int 0, .int 0, .int 0, .int 0, .ref q5, .null, .int 0, .null, .null, .null, .null, .null, .null, .int 0, .null, .null, .long 0, .long 0])), (q1, .inl (cA 0, 372, .inl (fun _ => 0))), (q2, .inl (cA 0, 372, .inl (fun _ => 0))), (q3, .inl (cA 0, 372, .inl (fun _ => 0))), (q4, .inl (cA 0, 120, .inl (fun _ => 0))), (q5, .inl (cA 0, 8, .inl (fun _ => 0))), (q6, .inl (cA 0, 16, .inl (fun _ => 0)))] := hD
  refine va_putF (D := D) (ci := 6) (v := .ref q6) (ty := .array .int) (C := RX6) (T := TX6) (N := 23) hx hb hts (z_fields (ci := 6) rfl) tyX6 tyX6_ok nmX6 hown hK hP hD hS 0 rfl rfl 10 (by decide) (hts (.fieldLink RX6 27 "BallotWaysModel" "paper" "[I") (z_t4 (i := 61) rfl rfl)) (fun _ h9 => h9) rfl hin rfl (by decide +kernel) rfl rfl (Nat.le_of_ble_eq_true rfl) dX6_init_52 (fun H locs hP hD hS => ?_)
  have hP : va_P D z_cl [(h0, .inr (6, [.ref q1, .ref q2, .ref q3, .int 0, .ref q4, .int 0, .int 0, .int 0, .int 0, .ref q5, .ref q6, .int 0, .null, .null, .null, .null, .null, .null, .int 0, .null, .null, .long 0, .long 0])), (q1, .inl (cA 0, 372, .inl (fun _ => 0))), (q2, .inl (cA 0, 372, .inl (fun _ => 0))), (q3, .inl (cA 0, 372, .inl (fun _ => 0))), (q4, .inl (cA 0, 120, .inl (fun _ => 0))), (q5, .inl (cA 0, 8, .inl (fun _ => 0))), (q6, .inl (cA 0, 16, .inl (fun _ => 0)))] H := hP
  have hD : va_D A [(h0, .inr (6, [.ref q1, .ref q2, .ref q3, .int 0, .ref q4, .int 0, .int 0, .int 0, .int 0, .ref q5, .ref q6, .int 0, .null, .null, .null, .null, .null, .null, .int 0, .null, .null, .long 0, .long 0])), (q1, .inl (cA 0, 372, .inl (fun _ => 0))), (q2, .inl (cA 0, 372, .inl (fun _ => 0))), (q3, .inl (cA 0, 372, .inl (fun _ => 0))), (q4, .inl (cA 0, 120, .inl (fun _ => 0))), (q5, .inl (cA 0, 8, .inl (fun _ => 0))), (q6, .inl (cA 0, 16, .inl (fun _ => 0)))] := hD
  refine lv_aload_n hx hb dX6_init_55 rfl (lv_at hl 0 rfl) ?_
  refine lv_bipush (v := 64) hx hb dX6_init_56 (by decide) ?_
  refine zl_newa 1 (atype := .long) (N' := 64) (a0 := (64, .inr (.inl (fun _ => 0)))) hx hb (hts (.arrayClass .long) (z_t1 (i := 111) rfl rfl)) rfl hK hP hD hS hA (fun _ => rfl) (by decide) (by decide) (by decide) (Nat.le_of_ble_eq_true rfl) (Nat.le_of_ble_eq_true rfl) dX6_init_58 (fun q7 H hP hD hS => ?_)
  have hP : va_P D z_cl [(h0, .inr (6, [.ref q1, .ref q2, .ref q3, .int 0, .ref q4, .int 0, .int 0, .int 0, .int 0, .ref q5, .ref q6, .int 0, .null, .null, .null, .null, .null, .null, .int 0, .null, .null, .long 0, .long 0])), (q1, .inl (cA 0, 372, .inl (fun _ => 0))), (q2, .inl (cA 0, 372, .inl (fun _ => 0))), (q3, .inl (cA 0, 372, .inl (fun _ => 0))), (q4, .inl (cA 0, 120, .inl (fun _ => 0))), (q5, .inl (cA 0, 8, .inl (fun _ => 0))), (q6, .inl (cA 0, 16, .inl (fun _ => 0))), (q7, .inl (cA 1, 64, .inr (.inl (fun _ => 0))))] H := hP
  have hD : va_D A [(h0, .inr (6, [.ref q1, .ref q2, .ref q3, .int 0, .ref q4, .int 0, .int 0, .int 0, .int 0, .ref q5, .ref q6, .int 0, .null, .null, .null, .null, .null, .null, .int 0, .null, .null, .long 0, .long 0])), (q1, .inl (cA 0, 372, .inl (fun _ => 0))), (q2, .inl (cA 0, 372, .inl (fun _ => 0))), (q3, .inl (cA 0, 372, .inl (fun _ => 0))), (q4, .inl (cA 0, 120, .inl (fun _ => 0))), (q5, .inl (cA 0, 8, .inl (fun _ => 0))), (q6, .inl (cA 0, 16, .inl (fun _ => 0))), (q7, .inl (cA 1, 64, .inr (.inl (fun _ => 0))))] := hD
  refine va_putF (D := D) (ci := 6) (v := .ref q7) (ty := .array .long) (C := RX6) (T := TX6) (N := 23) hx hb hts (z_fields (ci := 6) rfl) tyX6 tyX6_ok nmX6 hown hK hP hD hS 0 rfl rfl 12 (by decide) (hts (.fieldLink RX6 30 "BallotWaysModel" "pairs" "[J") (z_t4 (i := 63) rfl rfl)) (fun _ h9 => h9) rfl hin rfl (by decide +kernel) rfl rfl (Nat.le_of_ble_eq_true rfl) dX6_init_60 (fun H locs hP hD hS => ?_)
  have hP : va_P D z_cl [(h0, .inr (6, [.ref q1, .ref q2, .ref q3, .int 0, .ref q4, .int 0, .int 0, .int 0, .int 0, .ref q5, .ref q6, .int 0, .ref q7, .null, .null, .null, .null, .null, .int 0, .null, .null, .long 0, .long 0])), (q1, .inl (cA 0, 372, .inl (fun _ => 0))), (q2, .inl (cA 0, 372, .inl (fun _ => 0))), (q3, .inl (cA 0, 372, .inl (fun _ => 0))), (q4, .inl (cA 0, 120, .inl (fun _ => 0))), (q5, .inl (cA 0, 8, .inl (fun _ => 0))), (q6, .inl (cA 0, 16, .inl (fun _ => 0))), (q7, .inl (cA 1, 64, .inr (.inl (fun _ => 0))))] H := hP
  have hD : va_D A [(h0, .inr (6, [.ref q1, .ref q2, .ref q3, .int 0, .ref q4, .int 0, .int 0, .int 0, .int 0, .ref q5, .ref q6, .int 0, .ref q7, .null, .null, .null, .null, .null, .int 0, .null, .null, .long 0, .long 0])), (q1, .inl (cA 0, 372, .inl (fun _ => 0))), (q2, .inl (cA 0, 372, .inl (fun _ => 0))), (q3, .inl (cA 0, 372, .inl (fun _ => 0))), (q4, .inl (cA 0, 120, .inl (fun _ => 0))), (q5, .inl (cA 0, 8, .inl (fun _ => 0))), (q6, .inl (cA 0, 16, .inl (fun _ => 0))), (q7, .inl (cA 1, 64, .inr (.inl (fun _ => 0))))] := hD
  refine lv_aload_n hx hb dX6_init_63 rfl (lv_at hl 0 rfl) ?_
  refine lv_bipush (v := 64) hx hb dX6_init_64 (by decide) ?_
  refine zl_newa 1 (atype := .long) (N' := 64) (a0 := (64, .inr (.inl (fun _ => 0)))) hx hb (hts (.arrayClass .long) (z_t1 (i := 111) rfl rfl)) rfl hK hP hD hS hA (fun _ => rfl) (by decide) (by decide) (by decide) (Nat.le_of_ble_eq_true rfl) (Nat.le_of_ble_eq_true rfl) dX6_init_66 (fun q8 H hP hD hS => ?_)
  have hP : va_P D z_cl [(h0, .inr (6, [.ref q1, .ref q2, .ref q3, .int 0, .ref q4, .int 0, .int 0, .int 0, .int 0, .ref q5, .ref q6, .int 0, .ref q7, .null, .null, .null, .null, .null, .int 0, .null, .null, .long 0, .long 0])), (q1, .inl (cA 0, 372, .inl (fun _ => 0))), (q2, .inl (cA 0, 372, .inl (fun _ => 0))), (q3, .inl (cA 0, 372, .inl (fun _ => 0))), (q4, .inl (cA 0, 120, .inl (fun _ => 0))), (q5, .inl (cA 0, 8, .inl (fun _ => 0))), (q6, .inl (cA 0, 16, .inl (fun _ => 0))), (q7, .inl (cA 1, 64, .inr (.inl (fun _ => 0)))), (q8, .inl (cA 1, 64, .inr (.inl (fun _ => 0))))] H := hP
  have hD : va_D A [(h0, .inr (6, [.ref q1, .ref q2, .ref q3, .int 0, .ref q4, .int 0, .int 0, .int 0, .int 0, .ref q5, .ref q6, .int 0, .ref q7, .null, .null, .null, .null, .null, .int 0, .null, .null, .long 0, .long 0])), (q1, .inl (cA 0, 372, .inl (fun _ => 0))), (q2, .inl (cA 0, 372, .inl (fun _ => 0))), (q3, .inl (cA 0, 372, .inl (fun _ => 0))), (q4, .inl (cA 0, 120, .inl (fun _ => 0))), (q5, .inl (cA 0, 8, .inl (fun _ => 0))), (q6, .inl (cA 0, 16, .inl (fun _ => 0))), (q7, .inl (cA 1, 64, .inr (.inl (fun _ => 0)))), (q8, .inl (cA 1, 64, .inr (.inl (fun _ => 0))))] := hD
  refine va_putF (D := D) (ci := 6) (v := .ref q8) (ty := .array .long) (C := RX6) (T := TX6) (N := 23) hx hb hts (z_fields (ci := 6) rfl) tyX6 tyX6_ok nmX6 hown hK hP hD hS 0 rfl rfl 13 (by decide) (hts (.fieldLink RX6 34 "BallotWaysModel" "above" "[J") (z_t4 (i := 64) rfl rfl)) (fun _ h9 => h9) rfl hin rfl (by decide +kernel) rfl rfl (Nat.le_of_ble_eq_true rfl) dX6_init_68 (fun H locs hP hD hS => ?_)
  have hP : va_P D z_cl [(h0, .inr (6, [.ref q1, .ref q2, .ref q3, .int 0, .ref q4, .int 0, .int 0, .int 0, .int 0, .ref q5, .ref q6, .int 0, .ref q7, .ref q8, .null, .null, .null, .null, .int 0, .null, .null, .long 0, .long 0])), (q1, .inl (cA 0, 372, .inl (fun _ => 0))), (q2, .inl (cA 0, 372, .inl (fun _ => 0))), (q3, .inl (cA 0, 372, .inl (fun _ => 0))), (q4, .inl (cA 0, 120, .inl (fun _ => 0))), (q5, .inl (cA 0, 8, .inl (fun _ => 0))), (q6, .inl (cA 0, 16, .inl (fun _ => 0))), (q7, .inl (cA 1, 64, .inr (.inl (fun _ => 0)))), (q8, .inl (cA 1, 64, .inr (.inl (fun _ => 0))))] H := hP
  have hD : va_D A [(h0, .inr (6, [.ref q1, .ref q2, .ref q3, .int 0, .ref q4, .int 0, .int 0, .int 0, .int 0, .ref q5, .ref q6, .int 0, .ref q7, .ref q8, .null, .null, .null, .null, .int 0, .null, .null, .long 0, .long 0])), (q1, .inl (cA 0, 372, .inl (fun _ => 0))), (q2, .inl (cA 0, 372, .inl (fun _ => 0))), (q3, .inl (cA 0, 372, .inl (fun _ => 0))), (q4, .inl (cA 0, 120, .inl (fun _ => 0))), (q5, .inl (cA 0, 8, .inl (fun _ => 0))), (q6, .inl (cA 0, 16, .inl (fun _ => 0))), (q7, .inl (cA 1, 64, .inr (.inl (fun _ => 0)))), (q8, .inl (cA 1, 64, .inr (.inl (fun _ => 0))))] := hD
  refine lv_aload_n hx hb dX6_init_71 rfl (lv_at hl 0 rfl) ?_
  refine lv_bipush (v := 64) hx hb dX6_init_72 (by decide) ?_
  refine zl_newa 1 (atype := .long) (N' := 64) (a0 := (64, .inr (.inl (fun _ => 0)))) hx hb (hts (.arrayClass .long) (z_t1 (i := 111) rfl rfl)) rfl hK hP hD hS hA (fun _ => rfl) (by decide) (by decide) (by decide) (Nat.le_of_ble_eq_true rfl) (Nat.le_of_ble_eq_true rfl) dX6_init_74 (fun q9 H hP hD hS => ?_)
  have hP : va_P D z_cl [(h0, .inr (6, [.ref q1, .ref q2, .ref q3, .int 0, .ref q4, .int 0, .int 0, .int 0, .int 0, .ref q5, .ref q6, .int 0, .ref q7, .ref q8, .null, .null, .null, .null, .int 0, .null, .null, .long 0, .long 0])), (q1, .inl (cA 0, 372, .inl (fun _ => 0))), (q2, .inl (cA 0, 372, .inl (fun _ => 0))), (q3, .inl (cA 0, 372, .inl (fun _ => 0))), (q4, .inl (cA 0, 120, .inl (fun _ => 0))), (q5, .inl (cA 0, 8, .inl (fun _ => 0))), (q6, .inl (cA 0, 16, .inl (fun _ => 0))), (q7, .inl (cA 1, 64, .inr (.inl (fun _ => 0)))), (q8, .inl (cA 1, 64, .inr (.inl (fun _ => 0)))), (q9, .inl (cA 1, 64, .inr (.inl (fun _ => 0))))] H := hP
  have hD : va_D A [(h0, .inr (6, [.ref q1, .ref q2, .ref q3, .int 0, .ref q4, .int 0, .int 0, .int 0, .int 0, .ref q5, .ref q6, .int 0, .ref q7, .ref q8, .null, .null, .null, .null, .int 0, .null, .null, .long 0, .long 0])), (q1, .inl (cA 0, 372, .inl (fun _ => 0))), (q2, .inl (cA 0, 372, .inl (fun _ => 0))), (q3, .inl (cA 0, 372, .inl (fun _ => 0))), (q4, .inl (cA 0, 120, .inl (fun _ => 0))), (q5, .inl (cA 0, 8, .inl (fun _ => 0))), (q6, .inl (cA 0, 16, .inl (fun _ => 0))), (q7, .inl (cA 1, 64, .inr (.inl (fun _ => 0)))), (q8, .inl (cA 1, 64, .inr (.inl (fun _ => 0)))), (q9, .inl (cA 1, 64, .inr (.inl (fun _ => 0))))] := hD
  refine va_putF (D := D) (ci := 6) (v := .ref q9) (ty := .array .long) (C := RX6) (T := TX6) (N := 23) hx hb hts (z_fields (ci := 6) rfl) tyX6 tyX6_ok nmX6 hown hK hP hD hS 0 rfl rfl 14 (by decide) (hts (.fieldLink RX6 37 "BallotWaysModel" "below" "[J") (z_t4 (i := 65) rfl rfl)) (fun _ h9 => h9) rfl hin rfl (by decide +kernel) rfl rfl (Nat.le_of_ble_eq_true rfl) dX6_init_76 (fun H locs hP hD hS => ?_)
  have hP : va_P D z_cl [(h0, .inr (6, [.ref q1, .ref q2, .ref q3, .int 0, .ref q4, .int 0, .int 0, .int 0, .int 0, .ref q5, .ref q6, .int 0, .ref q7, .ref q8, .ref q9, .null, .null, .null, .int 0, .null, .null, .long 0, .long 0])), (q1, .inl (cA 0, 372, .inl (fun _ => 0))), (q2, .inl (cA 0, 372, .inl (fun _ => 0))), (q3, .inl (cA 0, 372, .inl (fun _ => 0))), (q4, .inl (cA 0, 120, .inl (fun _ => 0))), (q5, .inl (cA 0, 8, .inl (fun _ => 0))), (q6, .inl (cA 0, 16, .inl (fun _ => 0))), (q7, .inl (cA 1, 64, .inr (.inl (fun _ => 0)))), (q8, .inl (cA 1, 64, .inr (.inl (fun _ => 0)))), (q9, .inl (cA 1, 64, .inr (.inl (fun _ => 0))))] H := hP
  have hD : va_D A [(h0, .inr (6, [.ref q1, .ref q2, .ref q3, .int 0, .ref q4, .int 0, .int 0, .int 0, .int 0, .ref q5, .ref q6, .int 0, .ref q7, .ref q8, .ref q9, .null, .null, .null, .int 0, .null, .null, .long 0, .long 0])), (q1, .inl (cA 0, 372, .inl (fun _ => 0))), (q2, .inl (cA 0, 372, .inl (fun _ => 0))), (q3, .inl (cA 0, 372, .inl (fun _ => 0))), (q4, .inl (cA 0, 120, .inl (fun _ => 0))), (q5, .inl (cA 0, 8, .inl (fun _ => 0))), (q6, .inl (cA 0, 16, .inl (fun _ => 0))), (q7, .inl (cA 1, 64, .inr (.inl (fun _ => 0)))), (q8, .inl (cA 1, 64, .inr (.inl (fun _ => 0)))), (q9, .inl (cA 1, 64, .inr (.inl (fun _ => 0))))] := hD
  refine lv_aload_n hx hb dX6_init_79 rfl (lv_at hl 0 rfl) ?_
  refine lv_bipush (v := 8) hx hb dX6_init_80 (by decide) ?_
  refine zl_newa 2 (atype := .boolean) (N' := 8) (a0 := (8, .inl (fun _ => 0))) hx hb (hts (.arrayClass .boolean) (z_t4 (i := 121) rfl rfl)) rfl hK hP hD hS hA (fun _ => rfl) (by decide) (by decide) (by decide) (Nat.le_of_ble_eq_true rfl) (Nat.le_of_ble_eq_true rfl) dX6_init_82 (fun q10 H hP hD hS => ?_)
  have hP : va_P D z_cl [(h0, .inr (6, [.ref q1, .ref q2, .ref q3, .int 0, .ref q4, .int 0, .int 0, .int 0, .int 0, .ref q5, .ref q6, .int 0, .ref q7, .ref q8, .ref q9, .null, .null, .null, .int 0, .null, .null, .long 0, .long 0])), (q1, .inl (cA 0, 372, .inl (fun _ => 0))), (q2, .inl (cA 0, 372, .inl (fun _ => 0))), (q3, .inl (cA 0, 372, .inl (fun _ => 0))), (q4, .inl (cA 0, 120, .inl (fun _ => 0))), (q5, .inl (cA 0, 8, .inl (fun _ => 0))), (q6, .inl (cA 0, 16, .inl (fun _ => 0))), (q7, .inl (cA 1, 64, .inr (.inl (fun _ => 0)))), (q8, .inl (cA 1, 64, .inr (.inl (fun _ => 0)))), (q9, .inl (cA 1, 64, .inr (.inl (fun _ => 0)))), (q10, .inl (cA 2, 8, .inl (fun _ => 0)))] H := hP
  have hD : va_D A [(h0, .inr (6, [.ref q1, .ref q2, .ref q3, .int 0, .ref q4, .int 0, .int 0, .int 0, .int 0, .ref q5, .ref q6, .int 0, .ref q7, .ref q8, .ref q9, .null, .null, .null, .int 0, .null, .null, .long 0, .long 0])), (q1, .inl (cA 0, 372, .inl (fun _ => 0))), (q2, .inl (cA 0, 372, .inl (fun _ => 0))), (q3, .inl (cA 0, 372, .inl (fun _ => 0))), (q4, .inl (cA 0, 120, .inl (fun _ => 0))), (q5, .inl (cA 0, 8, .inl (fun _ => 0))), (q6, .inl (cA 0, 16, .inl (fun _ => 0))), (q7, .inl (cA 1, 64, .inr (.inl (fun _ => 0)))), (q8, .inl (cA 1, 64, .inr (.inl (fun _ => 0)))), (q9, .inl (cA 1, 64, .inr (.inl (fun _ => 0)))), (q10, .inl (cA 2, 8, .inl (fun _ => 0)))] := hD
  refine va_putF (D := D) (ci := 6) (v := .ref q10) (ty := .array .boolean) (C := RX6) (T := TX6) (N := 23) hx hb hts (z_fields (ci := 6) rfl) tyX6 tyX6_ok nmX6 hown hK hP hD hS 0 rfl rfl 15 (by decide) (hts (.fieldLink RX6 40 "BallotWaysModel" "isDone" "[Z") (z_t4 (i := 66) rfl rfl)) (fun _ h9 => h9) rfl hin rfl (by decide +kernel) rfl rfl (Nat.le_of_ble_eq_true rfl) dX6_init_84 (fun H locs hP hD hS => ?_)
  have hP : va_P D z_cl [(h0, .inr (6, [.ref q1, .ref q2, .ref q3, .int 0, .ref q4, .int 0, .int 0, .int 0, .int 0, .ref q5, .ref q6, .int 0, .ref q7, .ref q8, .ref q9, .ref q10, .null, .null, .int 0, .null, .null, .long 0, .long 0])), (q1, .inl (cA 0, 372, .inl (fun _ => 0))), (q2, .inl (cA 0, 372, .inl (fun _ => 0))), (q3, .inl (cA 0, 372, .inl (fun _ => 0))), (q4, .inl (cA 0, 120, .inl (fun _ => 0))), (q5, .inl (cA 0, 8, .inl (fun _ => 0))), (q6, .inl (cA 0, 16, .inl (fun _ => 0))), (q7, .inl (cA 1, 64, .inr (.inl (fun _ => 0)))), (q8, .inl (cA 1, 64, .inr (.inl (fun _ => 0)))), (q9, .inl (cA 1, 64, .inr (.inl (fun _ => 0)))), (q10, .inl (cA 2, 8, .inl (fun _ => 0)))] H := hP
  have hD : va_D A [(h0, .inr (6, [.ref q1, .ref q2, .ref q3, .int 0, .ref q4, .int 0, .int 0, .int 0, .int 0, .ref q5, .ref q6, .int 0, .ref q7, .ref q8, .ref q9, .ref q10, .null, .null, .int 0, .null, .null, .long 0, .long 0])), (q1, .inl (cA 0, 372, .inl (fun _ => 0))), (q2, .inl (cA 0, 372, .inl (fun _ => 0))), (q3, .inl (cA 0, 372, .inl (fun _ => 0))), (q4, .inl (cA 0, 120, .inl (fun _ => 0))), (q5, .inl (cA 0, 8, .inl (fun _ => 0))), (q6, .inl (cA 0, 16, .inl (fun _ => 0))), (q7, .inl (cA 1, 64, .inr (.inl (fun _ => 0)))), (q8, .inl (cA 1, 64, .inr (.inl (fun _ => 0)))), (q9, .inl (cA 1, 64, .inr (.inl (fun _ => 0)))), (q10, .inl (cA 2, 8, .inl (fun _ => 0)))] := hD
  refine lv_aload_n hx hb dX6_init_87 rfl (lv_at hl 0 rfl) ?_
  refine lv_bipush (v := 8) hx hb dX6_init_88 (by decide) ?_
  refine zl_newa 0 (atype := .int) (N' := 8) (a0 := (8, .inl (fun _ => 0))) hx hb (hts (.arrayClass .int) (z_t1 (i := 70) rfl rfl)) rfl hK hP hD hS hA (fun _ => rfl) (by decide) (by decide) (by decide) (Nat.le_of_ble_eq_true rfl) (Nat.le_of_ble_eq_true rfl) dX6_init_90 (fun q11 H hP hD hS => ?_)
  have hP : va_P D z_cl [(h0, .inr (6, [.ref q1, .ref q2, .ref q3, .int 0, .ref q4, .int 0, .int 0, .int 0, .int 0, .ref q5, .ref q6, .int 0, .ref q7, .ref q8, .ref q9, .ref q10, .null, .null, .int 0, .null, .null, .long 0, .long 0])), (q1, .inl (cA 0, 372, .inl (fun _ => 0))), (q2, .inl (cA 0, 372, .inl (fun _ => 0))), (q3, .inl (cA 0, 372, .inl (fun _ => 0))), (q4, .inl (cA 0, 120, .inl (fun _ => 0))), (q5, .inl (cA 0, 8, .inl (fun _ => 0))), (q6, .inl (cA 0, 16, .inl (fun _ => 0))), (q7, .inl (cA 1, 64, .inr (.inl (fun _ => 0)))), (q8, .inl (cA 1, 64, .inr (.inl (fun _ => 0)))), (q9, .inl (cA 1, 64, .inr (.inl (fun _ => 0)))), (q10, .inl (cA 2, 8, .inl (fun _ => 0))), (q11, .inl (cA 0, 8, .inl (fun _ => 0)))] H := hP
  have hD : va_D A [(h0, .inr (6, [.ref q1, .ref q2, .ref q3, .int 0, .ref q4, .int 0, .int 0, .int 0, .int 0, .ref q5, .ref q6, .int 0, .ref q7, .ref q8, .ref q9, .ref q10, .null, .null, .int 0, .null, .null, .long 0, .long 0])), (q1, .inl (cA 0, 372, .inl (fun _ => 0))), (q2, .inl (cA 0, 372, .inl (fun _ => 0))), (q3, .inl (cA 0, 372, .inl (fun _ => 0))), (q4, .inl (cA 0, 120, .inl (fun _ => 0))), (q5, .inl (cA 0, 8, .inl (fun _ => 0))), (q6, .inl (cA 0, 16, .inl (fun _ => 0))), (q7, .inl (cA 1, 64, .inr (.inl (fun _ => 0)))), (q8, .inl (cA 1, 64, .inr (.inl (fun _ => 0)))), (q9, .inl (cA 1, 64, .inr (.inl (fun _ => 0)))), (q10, .inl (cA 2, 8, .inl (fun _ => 0))), (q11, .inl (cA 0, 8, .inl (fun _ => 0)))] := hD
  refine va_putF (D := D) (ci := 6) (v := .ref q11) (ty := .array .int) (C := RX6) (T := TX6) (N := 23) hx hb hts (z_fields (ci := 6) rfl) tyX6 tyX6_ok nmX6 hown hK hP hD hS 0 rfl rfl 16 (by decide) (hts (.fieldLink RX6 44 "BallotWaysModel" "left" "[I") (z_t4 (i := 67) rfl rfl)) (fun _ h9 => h9) rfl hin rfl (by decide +kernel) rfl rfl (Nat.le_of_ble_eq_true rfl) dX6_init_92 (fun H locs hP hD hS => ?_)
  have hP : va_P D z_cl [(h0, .inr (6, [.ref q1, .ref q2, .ref q3, .int 0, .ref q4, .int 0, .int 0, .int 0, .int 0, .ref q5, .ref q6, .int 0, .ref q7, .ref q8, .ref q9, .ref q10, .ref q11, .null, .int 0, .null, .null, .long 0, .long 0])), (q1, .inl (cA 0, 372, .inl (fun _ => 0))), (q2, .inl (cA 0, 372, .inl (fun _ => 0))), (q3, .inl (cA 0, 372, .inl (fun _ => 0))), (q4, .inl (cA 0, 120, .inl (fun _ => 0))), (q5, .inl (cA 0, 8, .inl (fun _ => 0))), (q6, .inl (cA 0, 16, .inl (fun _ => 0))), (q7, .inl (cA 1, 64, .inr (.inl (fun _ => 0)))), (q8, .inl (cA 1, 64, .inr (.inl (fun _ => 0)))), (q9, .inl (cA 1, 64, .inr (.inl (fun _ => 0)))), (q10, .inl (cA 2, 8, .inl (fun _ => 0))), (q11, .inl (cA 0, 8, .inl (fun _ => 0)))] H := hP
  have hD : va_D A [(h0, .inr (6, [.ref q1, .ref q2, .ref q3, .int 0, .ref q4, .int 0, .int 0, .int 0, .int 0, .ref q5, .ref q6, .int 0, .ref q7, .ref q8, .ref q9, .ref q10, .ref q11, .null, .int 0, .null, .null, .long 0, .long 0])), (q1, .inl (cA 0, 372, .inl (fun _ => 0))), (q2, .inl (cA 0, 372, .inl (fun _ => 0))), (q3, .inl (cA 0, 372, .inl (fun _ => 0))), (q4, .inl (cA 0, 120, .inl (fun _ => 0))), (q5, .inl (cA 0, 8, .inl (fun _ => 0))), (q6, .inl (cA 0, 16, .inl (fun _ => 0))), (q7, .inl (cA 1, 64, .inr (.inl (fun _ => 0)))), (q8, .inl (cA 1, 64, .inr (.inl (fun _ => 0)))), (q9, .inl (cA 1, 64, .inr (.inl (fun _ => 0)))), (q10, .inl (cA 2, 8, .inl (fun _ => 0))), (q11, .inl (cA 0, 8, .inl (fun _ => 0)))] := hD
  refine lv_aload_n hx hb dX6_init_95 rfl (lv_at hl 0 rfl) ?_
  refine lv_bipush (v := 8) hx hb dX6_init_96 (by decide) ?_
  refine zl_newa 0 (atype := .int) (N' := 8) (a0 := (8, .inl (fun _ => 0))) hx hb (hts (.arrayClass .int) (z_t1 (i := 70) rfl rfl)) rfl hK hP hD hS hA (fun _ => rfl) (by decide) (by decide) (by decide) (Nat.le_of_ble_eq_true rfl) (Nat.le_of_ble_eq_true rfl) dX6_init_98 (fun q12 H hP hD hS => ?_)
  have hP : va_P D z_cl [(h0, .inr (6, [.ref q1, .ref q2, .ref q3, .int 0, .ref q4, .int 0, .int 0, .int 0, .int 0, .ref q5, .ref q6, .int 0, .ref q7, .ref q8, .ref q9, .ref q10, .ref q11, .null, .int 0, .null, .null, .long 0, .long 0])), (q1, .inl (cA 0, 372, .inl (fun _ => 0))), (q2, .inl (cA 0, 372, .inl (fun _ => 0))), (q3, .inl (cA 0, 372, .inl (fun _ => 0))), (q4, .inl (cA 0, 120, .inl (fun _ => 0))), (q5, .inl (cA 0, 8, .inl (fun _ => 0))), (q6, .inl (cA 0, 16, .inl (fun _ => 0))), (q7, .inl (cA 1, 64, .inr (.inl (fun _ => 0)))), (q8, .inl (cA 1, 64, .inr (.inl (fun _ => 0)))), (q9, .inl (cA 1, 64, .inr (.inl (fun _ => 0)))), (q10, .inl (cA 2, 8, .inl (fun _ => 0))), (q11, .inl (cA 0, 8, .inl (fun _ => 0))), (q12, .inl (cA 0, 8, .inl (fun _ => 0)))] H := hP
  have hD : va_D A [(h0, .inr (6, [.ref q1, .ref q2, .ref q3, .int 0, .ref q4, .int 0, .int 0, .int 0, .int 0, .ref q5, .ref q6, .int 0, .ref q7, .ref q8, .ref q9, .ref q10, .ref q11, .null, .int 0, .null, .null, .long 0, .long 0])), (q1, .inl (cA 0, 372, .inl (fun _ => 0))), (q2, .inl (cA 0, 372, .inl (fun _ => 0))), (q3, .inl (cA 0, 372, .inl (fun _ => 0))), (q4, .inl (cA 0, 120, .inl (fun _ => 0))), (q5, .inl (cA 0, 8, .inl (fun _ => 0))), (q6, .inl (cA 0, 16, .inl (fun _ => 0))), (q7, .inl (cA 1, 64, .inr (.inl (fun _ => 0)))), (q8, .inl (cA 1, 64, .inr (.inl (fun _ => 0)))), (q9, .inl (cA 1, 64, .inr (.inl (fun _ => 0)))), (q10, .inl (cA 2, 8, .inl (fun _ => 0))), (q11, .inl (cA 0, 8, .inl (fun _ => 0))), (q12, .inl (cA 0, 8, .inl (fun _ => 0)))] := hD
  refine va_putF (D := D) (ci := 6) (v := .ref q12) (ty := .array .int) (C := RX6) (T := TX6) (N := 23) hx hb hts (z_fields (ci := 6) rfl) tyX6 tyX6_ok nmX6 hown hK hP hD hS 0 rfl rfl 17 (by decide) (hts (.fieldLink RX6 47 "BallotWaysModel" "row" "[I") (z_t4 (i := 68) rfl rfl)) (fun _ h9 => h9) rfl hin rfl (by decide +kernel) rfl rfl (Nat.le_of_ble_eq_true rfl) dX6_init_100 (fun H locs hP hD hS => ?_)
  have hP : va_P D z_cl [(h0, .inr (6, [.ref q1, .ref q2, .ref q3, .int 0, .ref q4, .int 0, .int 0, .int 0, .int 0, .ref q5, .ref q6, .int 0, .ref q7, .ref q8, .ref q9, .ref q10, .ref q11, .ref q12, .int 0, .null, .null, .long 0, .long 0])), (q1, .inl (cA 0, 372, .inl (fun _ => 0))), (q2, .inl (cA 0, 372, .inl (fun _ => 0))), (q3, .inl (cA 0, 372, .inl (fun _ => 0))), (q4, .inl (cA 0, 120, .inl (fun _ => 0))), (q5, .inl (cA 0, 8, .inl (fun _ => 0))), (q6, .inl (cA 0, 16, .inl (fun _ => 0))), (q7, .inl (cA 1, 64, .inr (.inl (fun _ => 0)))), (q8, .inl (cA 1, 64, .inr (.inl (fun _ => 0)))), (q9, .inl (cA 1, 64, .inr (.inl (fun _ => 0)))), (q10, .inl (cA 2, 8, .inl (fun _ => 0))), (q11, .inl (cA 0, 8, .inl (fun _ => 0))), (q12, .inl (cA 0, 8, .inl (fun _ => 0)))] H := hP
  have hD : va_D A [(h0, .inr (6, [.ref q1, .ref q2, .ref q3, .int 0, .ref q4, .int 0, .int 0, .int 0, .int 0, .ref q5, .ref q6, .int 0, .ref q7, .ref q8, .ref q9, .ref q10, .ref q11, .ref q12, .int 0, .null, .null, .long 0, .long 0])), (q1, .inl (cA 0, 372, .inl (fun _ => 0))), (q2, .inl (cA 0, 372, .inl (fun _ => 0))), (q3, .inl (cA 0, 372, .inl (fun _ => 0))), (q4, .inl (cA 0, 120, .inl (fun _ => 0))), (q5, .inl (cA 0, 8, .inl (fun _ => 0))), (q6, .inl (cA 0, 16, .inl (fun _ => 0))), (q7, .inl (cA 1, 64, .inr (.inl (fun _ => 0)))), (q8, .inl (cA 1, 64, .inr (.inl (fun _ => 0)))), (q9, .inl (cA 1, 64, .inr (.inl (fun _ => 0)))), (q10, .inl (cA 2, 8, .inl (fun _ => 0))), (q11, .inl (cA 0, 8, .inl (fun _ => 0))), (q12, .inl (cA 0, 8, .inl (fun _ => 0)))] := hD
  refine lv_aload_n hx hb dX6_init_103 rfl (lv_at hl 0 rfl) ?_
  refine lv_iconst (v := 4) hx hb dX6_init_104 (by decide) ?_
  refine zl_newa 0 (atype := .int) (N' := 4) (a0 := (4, .inl (fun _ => 0))) hx hb (hts (.arrayClass .int) (z_t1 (i := 70) rfl rfl)) rfl hK hP hD hS hA (fun _ => rfl) (by decide) (by decide) (by decide) (Nat.le_of_ble_eq_true rfl) (Nat.le_of_ble_eq_true rfl) dX6_init_105 (fun q13 H hP hD hS => ?_)
  have hP : va_P D z_cl [(h0, .inr (6, [.ref q1, .ref q2, .ref q3, .int 0, .ref q4, .int 0, .int 0, .int 0, .int 0, .ref q5, .ref q6, .int 0, .ref q7, .ref q8, .ref q9, .ref q10, .ref q11, .ref q12, .int 0, .null, .null, .long 0, .long 0])), (q1, .inl (cA 0, 372, .inl (fun _ => 0))), (q2, .inl (cA 0, 372, .inl (fun _ => 0))), (q3, .inl (cA 0, 372, .inl (fun _ => 0))), (q4, .inl (cA 0, 120, .inl (fun _ => 0))), (q5, .inl (cA 0, 8, .inl (fun _ => 0))), (q6, .inl (cA 0, 16, .inl (fun _ => 0))), (q7, .inl (cA 1, 64, .inr (.inl (fun _ => 0)))), (q8, .inl (cA 1, 64, .inr (.inl (fun _ => 0)))), (q9, .inl (cA 1, 64, .inr (.inl (fun _ => 0)))), (q10, .inl (cA 2, 8, .inl (fun _ => 0))), (q11, .inl (cA 0, 8, .inl (fun _ => 0))), (q12, .inl (cA 0, 8, .inl (fun _ => 0))), (q13, .inl (cA 0, 4, .inl (fun _ => 0)))] H := hP
  have hD : va_D A [(h0, .inr (6, [.ref q1, .ref q2, .ref q3, .int 0, .ref q4, .int 0, .int 0, .int 0, .int 0, .ref q5, .ref q6, .int 0, .ref q7, .ref q8, .ref q9, .ref q10, .ref q11, .ref q12, .int 0, .null, .null, .long 0, .long 0])), (q1, .inl (cA 0, 372, .inl (fun _ => 0))), (q2, .inl (cA 0, 372, .inl (fun _ => 0))), (q3, .inl (cA 0, 372, .inl (fun _ => 0))), (q4, .inl (cA 0, 120, .inl (fun _ => 0))), (q5, .inl (cA 0, 8, .inl (fun _ => 0))), (q6, .inl (cA 0, 16, .inl (fun _ => 0))), (q7, .inl (cA 1, 64, .inr (.inl (fun _ => 0)))), (q8, .inl (cA 1, 64, .inr (.inl (fun _ => 0)))), (q9, .inl (cA 1, 64, .inr (.inl (fun _ => 0)))), (q10, .inl (cA 2, 8, .inl (fun _ => 0))), (q11, .inl (cA 0, 8, .inl (fun _ => 0))), (q12, .inl (cA 0, 8, .inl (fun _ => 0))), (q13, .inl (cA 0, 4, .inl (fun _ => 0)))] := hD
  refine lv_dup hx hb dX6_init_107 rfl ?_
  refine lv_iconst (v := 0) hx hb dX6_init_108 (by decide) ?_
  refine lv_iconst (v := (-1)) hx hb dX6_init_109 (by decide) ?_
  refine va_iast hx hb hK hP hD hS 13 0 rfl rfl (by unfold vp_in; decide) dX6_init_110 (fun H locs hP hD hS => ?_)
  have hP : va_P D z_cl [(h0, .inr (6, [.ref q1, .ref q2, .ref q3, .int 0, .ref q4, .int 0, .int 0, .int 0, .int 0, .ref q5, .ref q6, .int 0, .ref q7, .ref q8, .ref q9, .ref q10, .ref q11, .ref q12, .int 0, .null, .null, .long 0, .long 0])), (q1, .inl (cA 0, 372, .inl (fun _ => 0))), (q2, .inl (cA 0, 372, .inl (fun _ => 0))), (q3, .inl (cA 0, 372, .inl (fun _ => 0))), (q4, .inl (cA 0, 120, .inl (fun _ => 0))), (q5, .inl (cA 0, 8, .inl (fun _ => 0))), (q6, .inl (cA 0, 16, .inl (fun _ => 0))), (q7, .inl (cA 1, 64, .inr (.inl (fun _ => 0)))), (q8, .inl (cA 1, 64, .inr (.inl (fun _ => 0)))), (q9, .inl (cA 1, 64, .inr (.inl (fun _ => 0)))), (q10, .inl (cA 2, 8, .inl (fun _ => 0))), (q11, .inl (cA 0, 8, .inl (fun _ => 0))), (q12, .inl (cA 0, 8, .inl (fun _ => 0))), (q13, .inl (cA 0, 4, .inl (upd (fun _ => 0) (0 : Int32).toNatClampNeg (-1))))] H := hP
  have hD : va_D A [(h0, .inr (6, [.ref q1, .ref q2, .ref q3, .int 0, .ref q4, .int 0, .int 0, .int 0, .int 0, .ref q5, .ref q6, .int 0, .ref q7, .ref q8, .ref q9, .ref q10, .ref q11, .ref q12, .int 0, .null, .null, .long 0, .long 0])), (q1, .inl (cA 0, 372, .inl (fun _ => 0))), (q2, .inl (cA 0, 372, .inl (fun _ => 0))), (q3, .inl (cA 0, 372, .inl (fun _ => 0))), (q4, .inl (cA 0, 120, .inl (fun _ => 0))), (q5, .inl (cA 0, 8, .inl (fun _ => 0))), (q6, .inl (cA 0, 16, .inl (fun _ => 0))), (q7, .inl (cA 1, 64, .inr (.inl (fun _ => 0)))), (q8, .inl (cA 1, 64, .inr (.inl (fun _ => 0)))), (q9, .inl (cA 1, 64, .inr (.inl (fun _ => 0)))), (q10, .inl (cA 2, 8, .inl (fun _ => 0))), (q11, .inl (cA 0, 8, .inl (fun _ => 0))), (q12, .inl (cA 0, 8, .inl (fun _ => 0))), (q13, .inl (cA 0, 4, .inl (upd (fun _ => 0) (0 : Int32).toNatClampNeg (-1))))] := hD
  refine lv_dup hx hb dX6_init_111 rfl ?_
  refine lv_iconst (v := 1) hx hb dX6_init_112 (by decide) ?_
  refine lv_iconst (v := (-1)) hx hb dX6_init_113 (by decide) ?_
  refine va_iast hx hb hK hP hD hS 13 0 rfl rfl (by unfold vp_in; decide) dX6_init_114 (fun H locs hP hD hS => ?_)
  have hP : va_P D z_cl [(h0, .inr (6, [.ref q1, .ref q2, .ref q3, .int 0, .ref q4, .int 0, .int 0, .int 0, .int 0, .ref q5, .ref q6, .int 0, .ref q7, .ref q8, .ref q9, .ref q10, .ref q11, .ref q12, .int 0, .null, .null, .long 0, .long 0])), (q1, .inl (cA 0, 372, .inl (fun _ => 0))), (q2, .inl (cA 0, 372, .inl (fun _ => 0))), (q3, .inl (cA 0, 372, .inl (fun _ => 0))), (q4, .inl (cA 0, 120, .inl (fun _ => 0))), (q5, .inl (cA 0, 8, .inl (fun _ => 0))), (q6, .inl (cA 0, 16, .inl (fun _ => 0))), (q7, .inl (cA 1, 64, .inr (.inl (fun _ => 0)))), (q8, .inl (cA 1, 64, .inr (.inl (fun _ => 0)))), (q9, .inl (cA 1, 64, .inr (.inl (fun _ => 0)))), (q10, .inl (cA 2, 8, .inl (fun _ => 0))), (q11, .inl (cA 0, 8, .inl (fun _ => 0))), (q12, .inl (cA 0, 8, .inl (fun _ => 0))), (q13, .inl (cA 0, 4, .inl (upd (upd (fun _ => 0) (0 : Int32).toNatClampNeg (-1)) (1 : Int32).toNatClampNeg (-1))))] H := hP
  have hD : va_D A [(h0, .inr (6, [.ref q1, .ref q2, .ref q3, .int 0, .ref q4, .int 0, .int 0, .int 0, .int 0, .ref q5, .ref q6, .int 0, .ref q7, .ref q8, .ref q9, .ref q10, .ref q11, .ref q12, .int 0, .null, .null, .long 0, .long 0])), (q1, .inl (cA 0, 372, .inl (fun _ => 0))), (q2, .inl (cA 0, 372, .inl (fun _ => 0))), (q3, .inl (cA 0, 372, .inl (fun _ => 0))), (q4, .inl (cA 0, 120, .inl (fun _ => 0))), (q5, .inl (cA 0, 8, .inl (fun _ => 0))), (q6, .inl (cA 0, 16, .inl (fun _ => 0))), (q7, .inl (cA 1, 64, .inr (.inl (fun _ => 0)))), (q8, .inl (cA 1, 64, .inr (.inl (fun _ => 0)))), (q9, .inl (cA 1, 64, .inr (.inl (fun _ => 0)))), (q10, .inl (cA 2, 8, .inl (fun _ => 0))), (q11, .inl (cA 0, 8, .inl (fun _ => 0))), (q12, .inl (cA 0, 8, .inl (fun _ => 0))), (q13, .inl (cA 0, 4, .inl (upd (upd (fun _ => 0) (0 : Int32).toNatClampNeg (-1)) (1 : Int32).toNatClampNeg (-1))))] := hD
  refine lv_dup hx hb dX6_init_115 rfl ?_
  refine lv_iconst (v := 2) hx hb dX6_init_116 (by decide) ?_
  refine lv_iconst (v := (-1)) hx hb dX6_init_117 (by decide) ?_
  refine va_iast hx hb hK hP hD hS 13 0 rfl rfl (by unfold vp_in; decide) dX6_init_118 (fun H locs hP hD hS => ?_)
  have hP : va_P D z_cl [(h0, .inr (6, [.ref q1, .ref q2, .ref q3, .int 0, .ref q4, .int 0, .int 0, .int 0, .int 0, .ref q5, .ref q6, .int 0, .ref q7, .ref q8, .ref q9, .ref q10, .ref q11, .ref q12, .int 0, .null, .null, .long 0, .long 0])), (q1, .inl (cA 0, 372, .inl (fun _ => 0))), (q2, .inl (cA 0, 372, .inl (fun _ => 0))), (q3, .inl (cA 0, 372, .inl (fun _ => 0))), (q4, .inl (cA 0, 120, .inl (fun _ => 0))), (q5, .inl (cA 0, 8, .inl (fun _ => 0))), (q6, .inl (cA 0, 16, .inl (fun _ => 0))), (q7, .inl (cA 1, 64, .inr (.inl (fun _ => 0)))), (q8, .inl (cA 1, 64, .inr (.inl (fun _ => 0)))), (q9, .inl (cA 1, 64, .inr (.inl (fun _ => 0)))), (q10, .inl (cA 2, 8, .inl (fun _ => 0))), (q11, .inl (cA 0, 8, .inl (fun _ => 0))), (q12, .inl (cA 0, 8, .inl (fun _ => 0))), (q13, .inl (cA 0, 4, .inl (upd (upd (upd (fun _ => 0) (0 : Int32).toNatClampNeg (-1)) (1 : Int32).toNatClampNeg (-1)) (2 : Int32).toNatClampNeg (-1))))] H := hP
  have hD : va_D A [(h0, .inr (6, [.ref q1, .ref q2, .ref q3, .int 0, .ref q4, .int 0, .int 0, .int 0, .int 0, .ref q5, .ref q6, .int 0, .ref q7, .ref q8, .ref q9, .ref q10, .ref q11, .ref q12, .int 0, .null, .null, .long 0, .long 0])), (q1, .inl (cA 0, 372, .inl (fun _ => 0))), (q2, .inl (cA 0, 372, .inl (fun _ => 0))), (q3, .inl (cA 0, 372, .inl (fun _ => 0))), (q4, .inl (cA 0, 120, .inl (fun _ => 0))), (q5, .inl (cA 0, 8, .inl (fun _ => 0))), (q6, .inl (cA 0, 16, .inl (fun _ => 0))), (q7, .inl (cA 1, 64, .inr (.inl (fun _ => 0)))), (q8, .inl (cA 1, 64, .inr (.inl (fun _ => 0)))), (q9, .inl (cA 1, 64, .inr (.inl (fun _ => 0)))), (q10, .inl (cA 2, 8, .inl (fun _ => 0))), (q11, .inl (cA 0, 8, .inl (fun _ => 0))), (q12, .inl (cA 0, 8, .inl (fun _ => 0))), (q13, .inl (cA 0, 4, .inl (upd (upd (upd (fun _ => 0) (0 : Int32).toNatClampNeg (-1)) (1 : Int32).toNatClampNeg (-1)) (2 : Int32).toNatClampNeg (-1))))] := hD
  refine lv_dup hx hb dX6_init_119 rfl ?_
  refine lv_iconst (v := 3) hx hb dX6_init_120 (by decide) ?_
  refine lv_iconst (v := (-1)) hx hb dX6_init_121 (by decide) ?_
  refine va_iast hx hb hK hP hD hS 13 0 rfl rfl (by unfold vp_in; decide) dX6_init_122 (fun H locs hP hD hS => ?_)
  have hP : va_P D z_cl [(h0, .inr (6, [.ref q1, .ref q2, .ref q3, .int 0, .ref q4, .int 0, .int 0, .int 0, .int 0, .ref q5, .ref q6, .int 0, .ref q7, .ref q8, .ref q9, .ref q10, .ref q11, .ref q12, .int 0, .null, .null, .long 0, .long 0])), (q1, .inl (cA 0, 372, .inl (fun _ => 0))), (q2, .inl (cA 0, 372, .inl (fun _ => 0))), (q3, .inl (cA 0, 372, .inl (fun _ => 0))), (q4, .inl (cA 0, 120, .inl (fun _ => 0))), (q5, .inl (cA 0, 8, .inl (fun _ => 0))), (q6, .inl (cA 0, 16, .inl (fun _ => 0))), (q7, .inl (cA 1, 64, .inr (.inl (fun _ => 0)))), (q8, .inl (cA 1, 64, .inr (.inl (fun _ => 0)))), (q9, .inl (cA 1, 64, .inr (.inl (fun _ => 0)))), (q10, .inl (cA 2, 8, .inl (fun _ => 0))), (q11, .inl (cA 0, 8, .inl (fun _ => 0))), (q12, .inl (cA 0, 8, .inl (fun _ => 0))), (q13, .inl (cA 0, 4, .inl (upd (upd (upd (upd (fun _ => 0) (0 : Int32).toNatClampNeg (-1)) (1 : Int32).toNatClampNeg (-1)) (2 : Int32).toNatClampNeg (-1)) (3 : Int32).toNatClampNeg (-1))))] H := hP
  have hD : va_D A [(h0, .inr (6, [.ref q1, .ref q2, .ref q3, .int 0, .ref q4, .int 0, .int 0, .int 0, .int 0, .ref q5, .ref q6, .int 0, .ref q7, .ref q8, .ref q9, .ref q10, .ref q11, .ref q12, .int 0, .null, .null, .long 0, .long 0])), (q1, .inl (cA 0, 372, .inl (fun _ => 0))), (q2, .inl (cA 0, 372, .inl (fun _ => 0))), (q3, .inl (cA 0, 372, .inl (fun _ => 0))), (q4, .inl (cA 0, 120, .inl (fun _ => 0))), (q5, .inl (cA 0, 8, .inl (fun _ => 0))), (q6, .inl (cA 0, 16, .inl (fun _ => 0))), (q7, .inl (cA 1, 64, .inr (.inl (fun _ => 0)))), (q8, .inl (cA 1, 64, .inr (.inl (fun _ => 0)))), (q9, .inl (cA 1, 64, .inr (.inl (fun _ => 0)))), (q10, .inl (cA 2, 8, .inl (fun _ => 0))), (q11, .inl (cA 0, 8, .inl (fun _ => 0))), (q12, .inl (cA 0, 8, .inl (fun _ => 0))), (q13, .inl (cA 0, 4, .inl (upd (upd (upd (upd (fun _ => 0) (0 : Int32).toNatClampNeg (-1)) (1 : Int32).toNatClampNeg (-1)) (2 : Int32).toNatClampNeg (-1)) (3 : Int32).toNatClampNeg (-1))))] := hD
  refine va_putF (D := D) (ci := 6) (v := .ref q13) (ty := .array .int) (C := RX6) (T := TX6) (N := 23) hx hb hts (z_fields (ci := 6) rfl) tyX6 tyX6_ok nmX6 hown hK hP hD hS 0 rfl rfl 19 (by decide) (hts (.fieldLink RX6 50 "BallotWaysModel" "many" "[I") (z_t4 (i := 70) rfl rfl)) (fun _ h9 => h9) rfl hin rfl (by decide +kernel) rfl rfl (Nat.le_of_ble_eq_true rfl) dX6_init_123 (fun H locs hP hD hS => ?_)
  have hP : va_P D z_cl [(h0, .inr (6, [.ref q1, .ref q2, .ref q3, .int 0, .ref q4, .int 0, .int 0, .int 0, .int 0, .ref q5, .ref q6, .int 0, .ref q7, .ref q8, .ref q9, .ref q10, .ref q11, .ref q12, .int 0, .ref q13, .null, .long 0, .long 0])), (q1, .inl (cA 0, 372, .inl (fun _ => 0))), (q2, .inl (cA 0, 372, .inl (fun _ => 0))), (q3, .inl (cA 0, 372, .inl (fun _ => 0))), (q4, .inl (cA 0, 120, .inl (fun _ => 0))), (q5, .inl (cA 0, 8, .inl (fun _ => 0))), (q6, .inl (cA 0, 16, .inl (fun _ => 0))), (q7, .inl (cA 1, 64, .inr (.inl (fun _ => 0)))), (q8, .inl (cA 1, 64, .inr (.inl (fun _ => 0)))), (q9, .inl (cA 1, 64, .inr (.inl (fun _ => 0)))), (q10, .inl (cA 2, 8, .inl (fun _ => 0))), (q11, .inl (cA 0, 8, .inl (fun _ => 0))), (q12, .inl (cA 0, 8, .inl (fun _ => 0))), (q13, .inl (cA 0, 4, .inl (upd (upd (upd (upd (fun _ => 0) (0 : Int32).toNatClampNeg (-1)) (1 : Int32).toNatClampNeg (-1)) (2 : Int32).toNatClampNeg (-1)) (3 : Int32).toNatClampNeg (-1))))] H := hP
  have hD : va_D A [(h0, .inr (6, [.ref q1, .ref q2, .ref q3, .int 0, .ref q4, .int 0, .int 0, .int 0, .int 0, .ref q5, .ref q6, .int 0, .ref q7, .ref q8, .ref q9, .ref q10, .ref q11, .ref q12, .int 0, .ref q13, .null, .long 0, .long 0])), (q1, .inl (cA 0, 372, .inl (fun _ => 0))), (q2, .inl (cA 0, 372, .inl (fun _ => 0))), (q3, .inl (cA 0, 372, .inl (fun _ => 0))), (q4, .inl (cA 0, 120, .inl (fun _ => 0))), (q5, .inl (cA 0, 8, .inl (fun _ => 0))), (q6, .inl (cA 0, 16, .inl (fun _ => 0))), (q7, .inl (cA 1, 64, .inr (.inl (fun _ => 0)))), (q8, .inl (cA 1, 64, .inr (.inl (fun _ => 0)))), (q9, .inl (cA 1, 64, .inr (.inl (fun _ => 0)))), (q10, .inl (cA 2, 8, .inl (fun _ => 0))), (q11, .inl (cA 0, 8, .inl (fun _ => 0))), (q12, .inl (cA 0, 8, .inl (fun _ => 0))), (q13, .inl (cA 0, 4, .inl (upd (upd (upd (upd (fun _ => 0) (0 : Int32).toNatClampNeg (-1)) (1 : Int32).toNatClampNeg (-1)) (2 : Int32).toNatClampNeg (-1)) (3 : Int32).toNatClampNeg (-1))))] := hD
  refine lv_aload_n hx hb dX6_init_126 rfl (lv_at hl 0 rfl) ?_
  refine lv_sipush (v := 160) hx hb dX6_init_127 (by decide) ?_
  refine zl_newa 1 (atype := .long) (N' := 160) (a0 := (160, .inr (.inl (fun _ => 0)))) hx hb (hts (.arrayClass .long) (z_t1 (i := 111) rfl rfl)) rfl hK hP hD hS hA (fun _ => rfl) (by decide) (by decide) (by decide) (Nat.le_of_ble_eq_true rfl) (Nat.le_of_ble_eq_true rfl) dX6_init_130 (fun q14 H hP hD hS => ?_)
  have hP : va_P D z_cl [(h0, .inr (6, [.ref q1, .ref q2, .ref q3, .int 0, .ref q4, .int 0, .int 0, .int 0, .int 0, .ref q5, .ref q6, .int 0, .ref q7, .ref q8, .ref q9, .ref q10, .ref q11, .ref q12, .int 0, .ref q13, .null, .long 0, .long 0])), (q1, .inl (cA 0, 372, .inl (fun _ => 0))), (q2, .inl (cA 0, 372, .inl (fun _ => 0))), (q3, .inl (cA 0, 372, .inl (fun _ => 0))), (q4, .inl (cA 0, 120, .inl (fun _ => 0))), (q5, .inl (cA 0, 8, .inl (fun _ => 0))), (q6, .inl (cA 0, 16, .inl (fun _ => 0))), (q7, .inl (cA 1, 64, .inr (.inl (fun _ => 0)))), (q8, .inl (cA 1, 64, .inr (.inl (fun _ => 0)))), (q9, .inl (cA 1, 64, .inr (.inl (fun _ => 0)))), (q10, .inl (cA 2, 8, .inl (fun _ => 0))), (q11, .inl (cA 0, 8, .inl (fun _ => 0))), (q12, .inl (cA 0, 8, .inl (fun _ => 0))), (q13, .inl (cA 0, 4, .inl (upd (upd (upd (upd (fun _ => 0) (0 : Int32).toNatClampNeg (-1)) (1 : Int32).toNatClampNeg (-1)) (2 : Int32).toNatClampNeg (-1)) (3 : Int32).toNatClampNeg (-1)))), (q14, .inl (cA 1, 160, .inr (.inl (fun _ => 0))))] H := hP
  have hD : va_D A [(h0, .inr (6, [.ref q1, .ref q2, .ref q3, .int 0, .ref q4, .int 0, .int 0, .int 0, .int 0, .ref q5, .ref q6, .int 0, .ref q7, .ref q8, .ref q9, .ref q10, .ref q11, .ref q12, .int 0, .ref q13, .null, .long 0, .long 0])), (q1, .inl (cA 0, 372, .inl (fun _ => 0))), (q2, .inl (cA 0, 372, .inl (fun _ => 0))), (q3, .inl (cA 0, 372, .inl (fun _ => 0))), (q4, .inl (cA 0, 120, .inl (fun _ => 0))), (q5, .inl (cA 0, 8, .inl (fun _ => 0))), (q6, .inl (cA 0, 16, .inl (fun _ => 0))), (q7, .inl (cA 1, 64, .inr (.inl (fun _ => 0)))), (q8, .inl (cA 1, 64, .inr (.inl (fun _ => 0)))), (q9, .inl (cA 1, 64, .inr (.inl (fun _ => 0)))), (q10, .inl (cA 2, 8, .inl (fun _ => 0))), (q11, .inl (cA 0, 8, .inl (fun _ => 0))), (q12, .inl (cA 0, 8, .inl (fun _ => 0))), (q13, .inl (cA 0, 4, .inl (upd (upd (upd (upd (fun _ => 0) (0 : Int32).toNatClampNeg (-1)) (1 : Int32).toNatClampNeg (-1)) (2 : Int32).toNatClampNeg (-1)) (3 : Int32).toNatClampNeg (-1)))), (q14, .inl (cA 1, 160, .inr (.inl (fun _ => 0))))] := hD
  refine va_putF (D := D) (ci := 6) (v := .ref q14) (ty := .array .long) (C := RX6) (T := TX6) (N := 23) hx hb hts (z_fields (ci := 6) rfl) tyX6 tyX6_ok nmX6 hown hK hP hD hS 0 rfl rfl 20 (by decide) (hts (.fieldLink RX6 53 "BallotWaysModel" "item" "[J") (z_t4 (i := 71) rfl rfl)) (fun _ h9 => h9) rfl hin rfl (by decide +kernel) rfl rfl (Nat.le_of_ble_eq_true rfl) dX6_init_132 (fun H locs hP hD hS => ?_)
  have hP : va_P D z_cl [(h0, .inr (6, [.ref q1, .ref q2, .ref q3, .int 0, .ref q4, .int 0, .int 0, .int 0, .int 0, .ref q5, .ref q6, .int 0, .ref q7, .ref q8, .ref q9, .ref q10, .ref q11, .ref q12, .int 0, .ref q13, .ref q14, .long 0, .long 0])), (q1, .inl (cA 0, 372, .inl (fun _ => 0))), (q2, .inl (cA 0, 372, .inl (fun _ => 0))), (q3, .inl (cA 0, 372, .inl (fun _ => 0))), (q4, .inl (cA 0, 120, .inl (fun _ => 0))), (q5, .inl (cA 0, 8, .inl (fun _ => 0))), (q6, .inl (cA 0, 16, .inl (fun _ => 0))), (q7, .inl (cA 1, 64, .inr (.inl (fun _ => 0)))), (q8, .inl (cA 1, 64, .inr (.inl (fun _ => 0)))), (q9, .inl (cA 1, 64, .inr (.inl (fun _ => 0)))), (q10, .inl (cA 2, 8, .inl (fun _ => 0))), (q11, .inl (cA 0, 8, .inl (fun _ => 0))), (q12, .inl (cA 0, 8, .inl (fun _ => 0))), (q13, .inl (cA 0, 4, .inl (upd (upd (upd (upd (fun _ => 0) (0 : Int32).toNatClampNeg (-1)) (1 : Int32).toNatClampNeg (-1)) (2 : Int32).toNatClampNeg (-1)) (3 : Int32).toNatClampNeg (-1)))), (q14, .inl (cA 1, 160, .inr (.inl (fun _ => 0))))] H := hP
  have hD : va_D A [(h0, .inr (6, [.ref q1, .ref q2, .ref q3, .int 0, .ref q4, .int 0, .int 0, .int 0, .int 0, .ref q5, .ref q6, .int 0, .ref q7, .ref q8, .ref q9, .ref q10, .ref q11, .ref q12, .int 0, .ref q13, .ref q14, .long 0, .long 0])), (q1, .inl (cA 0, 372, .inl (fun _ => 0))), (q2, .inl (cA 0, 372, .inl (fun _ => 0))), (q3, .inl (cA 0, 372, .inl (fun _ => 0))), (q4, .inl (cA 0, 120, .inl (fun _ => 0))), (q5, .inl (cA 0, 8, .inl (fun _ => 0))), (q6, .inl (cA 0, 16, .inl (fun _ => 0))), (q7, .inl (cA 1, 64, .inr (.inl (fun _ => 0)))), (q8, .inl (cA 1, 64, .inr (.inl (fun _ => 0)))), (q9, .inl (cA 1, 64, .inr (.inl (fun _ => 0)))), (q10, .inl (cA 2, 8, .inl (fun _ => 0))), (q11, .inl (cA 0, 8, .inl (fun _ => 0))), (q12, .inl (cA 0, 8, .inl (fun _ => 0))), (q13, .inl (cA 0, 4, .inl (upd (upd (upd (upd (fun _ => 0) (0 : Int32).toNatClampNeg (-1)) (1 : Int32).toNatClampNeg (-1)) (2 : Int32).toNatClampNeg (-1)) (3 : Int32).toNatClampNeg (-1)))), (q14, .inl (cA 1, 160, .inr (.inl (fun _ => 0))))] := hD
  refine lv_aload_n hx hb dX6_init_135 rfl (lv_at hl 0 rfl) ?_
  refine lv_iconst (v := 3) hx hb dX6_init_136 (by decide) ?_
  have hP : va_P D z_cl (zk_W cA (zk_ad h0 [q1, q2, q3, q4, q5, q6, q7, q8, q9, q10, q11, q12, q13, q14]) 0 (MH (fun _ => 0) (fun _ => 0) (fun _ => 0) 0 (fun _ => 0) 0 0 0 0 (fun _ => 0) (fun _ => 0) 0 (fun _ => 0) (fun _ => 0) (fun _ => 0) (fun _ => 0) (fun _ => 0) (fun _ => 0) 0 (upd (upd (upd (upd (fun _ => 0) (0 : Int32).toNatClampNeg (-1)) (1 : Int32).toNatClampNeg (-1)) (2 : Int32).toNatClampNeg (-1)) (3 : Int32).toNatClampNeg (-1)) (fun _ => 0) 0 0) ++ []) H := hP
  have hD : va_D A (zk_W cA (zk_ad h0 [q1, q2, q3, q4, q5, q6, q7, q8, q9, q10, q11, q12, q13, q14]) 0 (MH (fun _ => 0) (fun _ => 0) (fun _ => 0) 0 (fun _ => 0) 0 0 0 0 (fun _ => 0) (fun _ => 0) 0 (fun _ => 0) (fun _ => 0) (fun _ => 0) (fun _ => 0) (fun _ => 0) (fun _ => 0) 0 (upd (upd (upd (upd (fun _ => 0) (0 : Int32).toNatClampNeg (-1)) (1 : Int32).toNatClampNeg (-1)) (2 : Int32).toNatClampNeg (-1)) (3 : Int32).toNatClampNeg (-1)) (fun _ => 0) 0 0) ++ []) := hD
  rw [← zk_W_eq] at hP hD
  refine zl_call (own := RX6) (av := [.int (nI 3)]) (rest := []) (ad := zk_ad h0 [q1, q2, q3, q4, q5, q6, q7, q8, q9, q10, q11, q12, q13, q14]) (b := 0) (ci := 6) (B := []) (h := MH (fun _ => 0) (fun _ => 0) (fun _ => 0) 0 (fun _ => 0) 0 0 0 0 (fun _ => 0) (fun _ => 0) 0 (fun _ => 0) (fun _ => 0) (fun _ => 0) (fun _ => 0) (fun _ => 0) (fun _ => 0) 0 (upd (upd (upd (upd (fun _ => 0) (0 : Int32).toNatClampNeg (-1)) (1 : Int32).toNatClampNeg (-1)) (2 : Int32).toNatClampNeg (-1)) (3 : Int32).toNatClampNeg (-1)) (fun _ => 0) 0 0) (d := 1) (y := 140) hx hb hml hown hts hN hK (by decide) (by decide) ⟨Nat.le_of_ble_eq_true rfl, Nat.le_of_ble_eq_true rfl⟩ hl.1 hA hP hD hS (c_X6_begins 0 (by decide) (by decide) rfl (by decide)) rfl rfl rfl rfl (z_t4 (i := 47) rfl rfl) (z_t4 (i := 49) rfl rfl) (z_word_m (pos := 25) rfl rfl) (z_t1 (i := 8) rfl rfl) (by decide +kernel) (Nat.le_of_ble_eq_true rfl) dX6_init_137 (fun r h9 H locs hq hP hD hS => ?_)
  obtain ⟨g2, rfl, rfl, hI⟩ := hq
  exact W.vret hx hb hr (fun t ht hW => ⟨⟨([q1, q2, q3, q4, q5, q6, q7, q8, q9, q10, q11, q12, q13, q14], MH g2 (fun _ => 0) (fun _ => 0) 0 (fun _ => 0) 0 0 0 0 (fun _ => 0) (fun _ => 0) 0 (fun _ => 0) (fun _ => 0) (fun _ => 0) (fun _ => 0) (fun _ => 0) (fun _ => 0) 0 (upd (upd (upd (upd (fun _ => 0) (0 : Int32).toNatClampNeg (-1)) (1 : Int32).toNatClampNeg (-1)) (2 : Int32).toNatClampNeg (-1)) (3 : Int32).toNatClampNeg (-1)) (fun _ => 0) 0 0), rfl, ⟨_, _, rfl, fun cn pl => hI cn pl, by intro k hk; match k, hk with | 0, _ => rfl | 1, _ => rfl | 2, _ => rfl | 3, _ => rfl | k + 4, hk => exact absurd hk (by omega)⟩, by rw [ht]; exact hP, va_K.moved hW.alike hK, hD⟩, hS.F ht⟩) hS.2.2 dX6_init_140 hlocks
abbrev cX5_init : ByteArray := prog_1_method_1_code
def yX5_init : MethodName := ⟨RX5, "<init>", "()V"⟩
theorem dX5_init_0 : decode cX5_init 0 = .ok (.aload_n 0, 1) := z_is_ok (by decide +kernel)
theorem dX5_init_1 : decode cX5_init 1 = .ok (.invokespecial 5, 3) := z_is_ok (by decide +kernel)
theorem dX5_init_4 : decode cX5_init 4 = .ok (.aload_n 0, 1) := z_is_ok (by decide +kernel)
theorem dX5_init_5 : decode cX5_init 5 = .ok (.new 11, 3) := z_is_ok (by decide +kernel)
theorem dX5_init_8 : decode cX5_init 8 = .ok (.dup, 1) := z_is_ok (by decide +kernel)
theorem dX5_init_9 : decode cX5_init 9 = .ok (.invokespecial 13, 3) := z_is_ok (by decide +kernel)
theorem dX5_init_12 : decode cX5_init 12 = .ok (.putfield 14, 3) := z_is_ok (by decide +kernel)
theorem dX5_init_15 : decode cX5_init 15 = .ok (.aload_n 0, 1) := z_is_ok (by decide +kernel)
theorem dX5_init_16 : decode cX5_init 16 = .ok (.new 11, 3) := z_is_ok (by decide +kernel)
theorem dX5_init_19 : decode cX5_init 19 = .ok (.dup, 1) := z_is_ok (by decide +kernel)
theorem dX5_init_20 : decode cX5_init 20 = .ok (.invokespecial 13, 3) := z_is_ok (by decide +kernel)
theorem dX5_init_23 : decode cX5_init 23 = .ok (.putfield 18, 3) := z_is_ok (by decide +kernel)
theorem dX5_init_26 : decode cX5_init 26 = .ok (.aload_n 0, 1) := z_is_ok (by decide +kernel)
theorem dX5_init_27 : decode cX5_init 27 = .ok (.new 11, 3) := z_is_ok (by decide +kernel)
theorem dX5_init_30 : decode cX5_init 30 = .ok (.dup, 1) := z_is_ok (by decide +kernel)
theorem dX5_init_31 : decode cX5_init 31 = .ok (.invokespecial 13, 3) := z_is_ok (by decide +kernel)
theorem dX5_init_34 : decode cX5_init 34 = .ok (.putfield 21, 3) := z_is_ok (by decide +kernel)
theorem dX5_init_37 : decode cX5_init 37 = .ok (.aload_n 0, 1) := z_is_ok (by decide +kernel)
theorem dX5_init_38 : decode cX5_init 38 = .ok (.new 24, 3) := z_is_ok (by decide +kernel)
theorem dX5_init_41 : decode cX5_init 41 = .ok (.dup, 1) := z_is_ok (by decide +kernel)
theorem dX5_init_42 : decode cX5_init 42 = .ok (.invokespecial 26, 3) := z_is_ok (by decide +kernel)
theorem dX5_init_45 : decode cX5_init 45 = .ok (.putfield 27, 3) := z_is_ok (by decide +kernel)
theorem dX5_init_48 : decode cX5_init 48 = .ok (.aload_n 0, 1) := z_is_ok (by decide +kernel)
theorem dX5_init_49 : decode cX5_init 49 = .ok (.new 31, 3) := z_is_ok (by decide +kernel)
theorem dX5_init_52 : decode cX5_init 52 = .ok (.dup, 1) := z_is_ok (by decide +kernel)
theorem dX5_init_53 : decode cX5_init 53 = .ok (.invokespecial 33, 3) := z_is_ok (by decide +kernel)
theorem dX5_init_56 : decode cX5_init 56 = .ok (.putfield 34, 3) := z_is_ok (by decide +kernel)
theorem dX5_init_59 : decode cX5_init 59 = .ok (.aload_n 0, 1) := z_is_ok (by decide +kernel)
theorem dX5_init_60 : decode cX5_init 60 = .ok (.new 38, 3) := z_is_ok (by decide +kernel)
theorem dX5_init_63 : decode cX5_init 63 = .ok (.dup, 1) := z_is_ok (by decide +kernel)
theorem dX5_init_64 : decode cX5_init 64 = .ok (.invokespecial 40, 3) := z_is_ok (by decide +kernel)
theorem dX5_init_67 : decode cX5_init 67 = .ok (.putfield 41, 3) := z_is_ok (by decide +kernel)
theorem dX5_init_70 : decode cX5_init 70 = .ok (.aload_n 0, 1) := z_is_ok (by decide +kernel)
theorem dX5_init_71 : decode cX5_init 71 = .ok (.new 45, 3) := z_is_ok (by decide +kernel)
theorem dX5_init_74 : decode cX5_init 74 = .ok (.dup, 1) := z_is_ok (by decide +kernel)
theorem dX5_init_75 : decode cX5_init 75 = .ok (.invokespecial 47, 3) := z_is_ok (by decide +kernel)
theorem dX5_init_78 : decode cX5_init 78 = .ok (.putfield 48, 3) := z_is_ok (by decide +kernel)
theorem dX5_init_81 : decode cX5_init 81 = .ok (.aload_n 0, 1) := z_is_ok (by decide +kernel)
theorem dX5_init_82 : decode cX5_init 82 = .ok (.iconst 0, 1) := z_is_ok (by decide +kernel)
theorem dX5_init_83 : decode cX5_init 83 = .ok (.putfield 52, 3) := z_is_ok (by decide +kernel)
theorem dX5_init_86 : decode cX5_init 86 = .ok (.return_, 1) := z_is_ok (by decide +kernel)
set_option maxHeartbeats 4000000 in
set_option maxRecDepth 100000 in
theorem k_X5 (l : Launch) : zk_C l yX5_init cX5_init 5 [.null, .null, .null, .null, .null, .null, .null, .int 0] 5 320 30 1024 (fun h' => ∃ d1 f1 d2 f2 d3 f3 sz0 : Nat → Int32, h' = CH (nI 3) (nI 0) (nI 0) (nI 0) (fun _ => 0) (fun _ => 0) d1 f1 (nI 3) (nI 0) (nI 0) (nI 0) (fun _ => 0) (fun _ => 0) d2 f2 (nI 3) (nI 0) (nI 0) (nI 0) (fun _ => 0) (fun _ => 0) d3 f3 0 0 0 0 (fun _ => 0) (fun _ => 0) (fun _ => 0) (fun _ => 0) (fun _ => 0) (fun _ => 0) (fun _ => 0) (fun _ => 0) 0 0 0 0 (fun _ => 0) sz0 (fun _ => 0) 0 0 ∧ (∀ R C cn pl, z_PI R C d1 f1 3 0 0 0 (fun k => k) cn pl) ∧ (∀ R C cn pl, z_PI R C d2 f2 3 0 0 0 (fun k => k) cn pl) ∧ (∀ R C cn pl, z_PI R C d3 f3 3 0 0 0 (fun k => k) cn pl) ∧ ∀ k, k < 4 → sz0 k = -1) := by
  intro D cA h0 sz
  refine va_MetF (cc := cX5_init) (maxL := 1) (ret := none) (by decide) rfl ?_
  intro p e s m args below meth c s₁ B hml hv
  obtain ⟨rfl, hsz, hP, hK, hD0, hN⟩ := hv
  have hx := B.exec
  have hb := B.bytes
  have hr := B.returns
  have hts0 := atoms_spec B.pre
  have hts : ∀ w ∈ z_AW, w.before ([.ref h0] : List Value).toArray s = true := fun w hw => hts0 w (List.mem_cons_of_mem _ hw)
  have hown : s.vm.findClass RX5 = some m.cls := findClass_of_methodNamed B.named
  have hlocks := B.notSynchronized
  have hin : meth.name = "<init>" := (name_of_methodNamed B.named B.method).1
  subst hsz
  have hD := hD0.self (sz := s.heap.size)
  generalize hAe : va_A [(h0, .inr (5, [.null, .null, .null, .null, .null, .null, .null, .int 0]))] s.heap.size = A at hD ⊢
  have hA : ∀ q : Nat, s.heap.size ≤ q → A q := fun q h => by rw [← hAe]; exact Or.inr h
  have hS : va_S A s.heap s.heap [] := va_S.rf
  have hl := lv_entry ([.ref h0]) (n := 1) (Nat.le_of_ble_eq_true rfl)
  rw [lg_entry_eq]
  generalize (lg_sl ([.ref h0]) ++ List.replicate (1 - (lg_sl ([.ref h0])).length) Slot.unset).toArray = ls at hl ⊢
  have hl : lv_has ls 1 [(0, .ref h0)] := hl
  refine lv_aload_n hx hb dX5_init_0 rfl (lv_at hl 0 rfl) ?_
  refine W.objInit hx hb hown (hts (.methodLink RX5 5 objectInit) (z_t1 (i := 17) rfl rfl)) (hts (.instanceMethod objectInit) (z_t1 (i := 18) rfl rfl)) (hts _ (z_t1 (i := 19) rfl rfl)) rfl (by rw [hml]; exact hl.1) rfl dX5_init_1 (Nat.le_of_ble_eq_true rfl) (Nat.le_of_ble_eq_true rfl) ?_
  refine W.eq (g2 := F0 m 4 ls []) rfl ?_
  refine lv_aload_n hx hb dX5_init_4 rfl (lv_at hl 0 rfl) ?_
  refine va_new (ci := 2) (fs := [.int 0, .int 0, .int 0, .int 0, .null, .null, .null, .null]) (C := RX2) (T := TX2) (N := 8) hx hb hts (z_fields (ci := 2) rfl) tyX2 tyX2_ok hown (hts (.classLink RX5 11 RX2) (z_t1 (i := 20) rfl rfl)) (hts (.instantiable RX2 8) (z_t1 (i := 21) rfl rfl)) (hts (.initialized RX2) (z_t1 (i := 2) rfl rfl)) hK hP hD hS hA rfl (fun j hj => by match j, hj with | 0, _ => rfl | 1, _ => rfl | 2, _ => rfl | 3, _ => rfl | 4, _ => rfl | 5, _ => rfl | 6, _ => rfl | 7, _ => rfl | j + 8, hj => exact absurd hj (by omega)) (Nat.le_of_ble_eq_true rfl) (Nat.le_of_ble_eq_true rfl) dX5_init_5 (fun q1 H hP hD hS => ?_)
  have hP : va_P D z_cl ([(h0, .inr (5, [.null, .null, .null, .null, .null, .null, .null, .int 0]))] ++ [(q1, .inr (2, [.int 0, .int 0, .int 0, .int 0, .null, .null, .null, .null]))]) H := hP
  have hD : va_D A ([(h0, .inr (5, [.null, .null, .null, .null, .null, .null, .null, .int 0]))] ++ [(q1, .inr (2, [.int 0, .int 0, .int 0, .int 0, .null, .null, .null, .null]))]) := hD
  refine lv_dup hx hb dX5_init_8 rfl ?_
  refine zl_init (own := RX5) (ci := 2) (b := q1) hx hb hml hown hts hN hK hA hP hD hS (k_X2 l) (z_t1 (i := 24) rfl rfl) (z_t1 (i := 2) rfl rfl) (z_t1 (i := 22) rfl rfl) (z_t1 (i := 23) rfl rfl) rfl (by decide +kernel) ⟨Nat.le_of_ble_eq_true rfl, Nat.le_of_ble_eq_true rfl⟩ ⟨Nat.le_of_ble_eq_true rfl, Nat.le_of_ble_eq_true rfl⟩ hl.1 (Nat.le_of_ble_eq_true rfl) dX5_init_9 (fun u2 h9 H locs hq hP hD hS => ?_)
  obtain ⟨d_2, f_2, rfl, hI_2⟩ := hq
  have hP : va_P D z_cl ([(h0, .inr (5, [.null, .null, .null, .null, .null, .null, .null, .int 0]))] ++ z_W cA (zk_ad q1 u2) (PH (nI 3) (nI 0) (nI 0) (nI 0) (fun _ => 0) (fun _ => 0) d_2 f_2)) H := hP
  have hD : va_D A ([(h0, .inr (5, [.null, .null, .null, .null, .null, .null, .null, .int 0]))] ++ z_W cA (zk_ad q1 u2) (PH (nI 3) (nI 0) (nI 0) (nI 0) (fun _ => 0) (fun _ => 0) d_2 f_2)) := hD
  refine va_putF (D := D) (ci := 5) (v := .ref q1) (ty := .object "BallotWays$Poll") (C := RX5) (T := TX5) (N := 8) hx hb hts (z_fields (ci := 5) rfl) tyX5 tyX5_ok nmX5 hown hK hP hD hS 0 rfl rfl 0 (by decide) (hts (.fieldLink RX5 14 "BallotWays" "poll" "LBallotWays$Poll;") (z_t1 (i := 166) rfl rfl)) (fun _ h9 => h9) rfl hin rfl (by decide +kernel) rfl rfl (Nat.le_of_ble_eq_true rfl) dX5_init_12 (fun H locs hP hD hS => ?_)
  have hP : va_P D z_cl ([(h0, .inr (5, [.ref q1, .null, .null, .null, .null, .null, .null, .int 0]))] ++ z_W cA (zk_ad q1 u2) (PH (nI 3) (nI 0) (nI 0) (nI 0) (fun _ => 0) (fun _ => 0) d_2 f_2)) H := hP
  have hD : va_D A ([(h0, .inr (5, [.ref q1, .null, .null, .null, .null, .null, .null, .int 0]))] ++ z_W cA (zk_ad q1 u2) (PH (nI 3) (nI 0) (nI 0) (nI 0) (fun _ => 0) (fun _ => 0) d_2 f_2)) := hD
  refine lv_aload_n hx hb dX5_init_15 rfl (lv_at hl 0 rfl) ?_
  refine va_new (ci := 2) (fs := [.int 0, .int 0, .int 0, .int 0, .null, .null, .null, .null]) (C := RX2) (T := TX2) (N := 8) hx hb hts (z_fields (ci := 2) rfl) tyX2 tyX2_ok hown (hts (.classLink RX5 11 RX2) (z_t1 (i := 20) rfl rfl)) (hts (.instantiable RX2 8) (z_t1 (i := 21) rfl rfl)) (hts (.initialized RX2) (z_t1 (i := 2) rfl rfl)) hK hP hD hS hA rfl (fun j hj => by match j, hj with | 0, _ => rfl | 1, _ => rfl | 2, _ => rfl | 3, _ => rfl | 4, _ => rfl | 5, _ => rfl | 6, _ => rfl | 7, _ => rfl | j + 8, hj => exact absurd hj (by omega)) (Nat.le_of_ble_eq_true rfl) (Nat.le_of_ble_eq_true rfl) dX5_init_16 (fun q3 H hP hD hS => ?_)
  have hP : va_P D z_cl (([(h0, .inr (5, [.ref q1, .null, .null, .null, .null, .null, .null, .int 0]))] ++ z_W cA (zk_ad q1 u2) (PH (nI 3) (nI 0) (nI 0) (nI 0) (fun _ => 0) (fun _ => 0) d_2 f_2)) ++ [(q3, .inr (2, [.int 0, .int 0, .int 0, .int 0, .null, .null, .null, .null]))]) H := hP
  have hD : va_D A (([(h0, .inr (5, [.ref q1, .null, .null, .null, .null, .null, .null, .int 0]))] ++ z_W cA (zk_ad q1 u2) (PH (nI 3) (nI 0) (nI 0) (nI 0) (fun _ => 0) (fun _ => 0) d_2 f_2)) ++ [(q3, .inr (2, [.int 0, .int 0, .int 0, .int 0, .null, .null, .null, .null]))]) := hD
  refine lv_dup hx hb dX5_init_19 rfl ?_
  refine zl_init (own := RX5) (ci := 2) (b := q3) hx hb hml hown hts hN hK hA hP hD hS (k_X2 l) (z_t1 (i := 24) rfl rfl) (z_t1 (i := 2) rfl rfl) (z_t1 (i := 22) rfl rfl) (z_t1 (i := 23) rfl rfl) rfl (by decide +kernel) ⟨Nat.le_of_ble_eq_true rfl, Nat.le_of_ble_eq_true rfl⟩ ⟨Nat.le_of_ble_eq_true rfl, Nat.le_of_ble_eq_true rfl⟩ hl.1 (Nat.le_of_ble_eq_true rfl) dX5_init_20 (fun u4 h9 H locs hq hP hD hS => ?_)
  obtain ⟨d_4, f_4, rfl, hI_4⟩ := hq
  have hP : va_P D z_cl (([(h0, .inr (5, [.ref q1, .null, .null, .null, .null, .null, .null, .int 0]))] ++ z_W cA (zk_ad q1 u2) (PH (nI 3) (nI 0) (nI 0) (nI 0) (fun _ => 0) (fun _ => 0) d_2 f_2)) ++ z_W cA (zk_ad q3 u4) (PH (nI 3) (nI 0) (nI 0) (nI 0) (fun _ => 0) (fun _ => 0) d_4 f_4)) H := hP
  have hD : va_D A (([(h0, .inr (5, [.ref q1, .null, .null, .null, .null, .null, .null, .int 0]))] ++ z_W cA (zk_ad q1 u2) (PH (nI 3) (nI 0) (nI 0) (nI 0) (fun _ => 0) (fun _ => 0) d_2 f_2)) ++ z_W cA (zk_ad q3 u4) (PH (nI 3) (nI 0) (nI 0) (nI 0) (fun _ => 0) (fun _ => 0) d_4 f_4)) := hD
  refine va_putF (D := D) (ci := 5) (v := .ref q3) (ty := .object "BallotWays$Poll") (C := RX5) (T := TX5) (N := 8) hx hb hts (z_fields (ci := 5) rfl) tyX5 tyX5_ok nmX5 hown hK hP hD hS 0 rfl rfl 1 (by decide) (hts (.fieldLink RX5 18 "BallotWays" "kept" "LBallotWays$Poll;") (z_t1 (i := 167) rfl rfl)) (fun _ h9 => h9) rfl hin rfl (by decide +kernel) rfl rfl (Nat.le_of_ble_eq_true rfl) dX5_init_23 (fun H locs hP hD hS => ?_)
  have hP : va_P D z_cl (([(h0, .inr (5, [.ref q1, .ref q3, .null, .null, .null, .null, .null, .int 0]))] ++ z_W cA (zk_ad q1 u2) (PH (nI 3) (nI 0) (nI 0) (nI 0) (fun _ => 0) (fun _ => 0) d_2 f_2)) ++ z_W cA (zk_ad q3 u4) (PH (nI 3) (nI 0) (nI 0) (nI 0) (fun _ => 0) (fun _ => 0) d_4 f_4)) H := hP
  have hD : va_D A (([(h0, .inr (5, [.ref q1, .ref q3, .null, .null, .null, .null, .null, .int 0]))] ++ z_W cA (zk_ad q1 u2) (PH (nI 3) (nI 0) (nI 0) (nI 0) (fun _ => 0) (fun _ => 0) d_2 f_2)) ++ z_W cA (zk_ad q3 u4) (PH (nI 3) (nI 0) (nI 0) (nI 0) (fun _ => 0) (fun _ => 0) d_4 f_4)) := hD
  refine lv_aload_n hx hb dX5_init_26 rfl (lv_at hl 0 rfl) ?_
  refine va_new (ci := 2) (fs := [.int 0, .int 0, .int 0, .int 0, .null, .null, .null, .null]) (C := RX2) (T := TX2) (N := 8) hx hb hts (z_fields (ci := 2) rfl) tyX2 tyX2_ok hown (hts (.classLink RX5 11 RX2) (z_t1 (i := 20) rfl rfl)) (hts (.instantiable RX2 8) (z_t1 (i := 21) rfl rfl)) (hts (.initialized RX2) (z_t1 (i := 2) rfl rfl)) hK hP hD hS hA rfl (fun j hj => by match j, hj with | 0, _ => rfl | 1, _ => rfl | 2, _ => rfl | 3, _ => rfl | 4, _ => rfl | 5, _ => rfl | 6, _ => rfl | 7, _ => rfl | j + 8, hj => exact absurd hj (by omega)) (Nat.le_of_ble_eq_true rfl) (Nat.le_of_ble_eq_true rfl) dX5_init_27 (fun q5 H hP hD hS => ?_)
  have hP : va_P D z_cl ((([(h0, .inr (5, [.ref q1, .ref q3, .null, .null, .null, .null, .null, .int 0]))] ++ z_W cA (zk_ad q1 u2) (PH (nI 3) (nI 0) (nI 0) (nI 0) (fun _ => 0) (fun _ => 0) d_2 f_2)) ++ z_W cA (zk_ad q3 u4) (PH (nI 3) (nI 0) (nI 0) (nI 0) (fun _ => 0) (fun _ => 0) d_4 f_4)) ++ [(q5, .inr (2, [.int 0, .int 0, .int 0, .int 0, .null, .null, .null, .null]))]) H := hP
  have hD : va_D A ((([(h0, .inr (5, [.ref q1, .ref q3, .null, .null, .null, .null, .null, .int 0]))] ++ z_W cA (zk_ad q1 u2) (PH (nI 3) (nI 0) (nI 0) (nI 0) (fun _ => 0) (fun _ => 0) d_2 f_2)) ++ z_W cA (zk_ad q3 u4) (PH (nI 3) (nI 0) (nI 0) (nI 0) (fun _ => 0) (fun _ => 0) d_4 f_4)) ++ [(q5, .inr (2, [.int 0, .int 0, .int 0, .int 0, .null, .null, .null, .null]))]) := hD
  refine lv_dup hx hb dX5_init_30 rfl ?_
  refine zl_init (own := RX5) (ci := 2) (b := q5) hx hb hml hown hts hN hK hA hP hD hS (k_X2 l) (z_t1 (i := 24) rfl rfl) (z_t1 (i := 2) rfl rfl) (z_t1 (i := 22) rfl rfl) (z_t1 (i := 23) rfl rfl) rfl (by decide +kernel) ⟨Nat.le_of_ble_eq_true rfl, Nat.le_of_ble_eq_true rfl⟩ ⟨Nat.le_of_ble_eq_true rfl, Nat.le_of_ble_eq_true rfl⟩ hl.1 (Nat.le_of_ble_eq_true rfl) dX5_init_31 (fun u6 h9 H locs hq hP hD hS => ?_)
  obtain ⟨d_6, f_6, rfl, hI_6⟩ := hq
  have hP : va_P D z_cl ((([(h0, .inr (5, [.ref q1, .ref q3, .null, .null, .null, .null, .null, .int 0]))] ++ z_W cA (zk_ad q1 u2) (PH (nI 3) (nI 0) (nI 0) (nI 0) (fun _ => 0) (fun _ => 0) d_2 f_2)) ++ z_W cA (zk_ad q3 u4) (PH (nI 3) (nI 0) (nI 0) (nI 0) (fun _ => 0) (fun _ => 0) d_4 f_4)) ++ z_W cA (zk_ad q5 u6) (PH (nI 3) (nI 0) (nI 0) (nI 0) (fun _ => 0) (fun _ => 0) d_6 f_6)) H := hP
  have hD : va_D A ((([(h0, .inr (5, [.ref q1, .ref q3, .null, .null, .null, .null, .null, .int 0]))] ++ z_W cA (zk_ad q1 u2) (PH (nI 3) (nI 0) (nI 0) (nI 0) (fun _ => 0) (fun _ => 0) d_2 f_2)) ++ z_W cA (zk_ad q3 u4) (PH (nI 3) (nI 0) (nI 0) (nI 0) (fun _ => 0) (fun _ => 0) d_4 f_4)) ++ z_W cA (zk_ad q5 u6) (PH (nI 3) (nI 0) (nI 0) (nI 0) (fun _ => 0) (fun _ => 0) d_6 f_6)) := hD
  refine va_putF (D := D) (ci := 5) (v := .ref q5) (ty := .object "BallotWays$Poll") (C := RX5) (T := TX5) (N := 8) hx hb hts (z_fields (ci := 5) rfl) tyX5 tyX5_ok nmX5 hown hK hP hD hS 0 rfl rfl 2 (by decide) (hts (.fieldLink RX5 21 "BallotWays" "draft" "LBallotWays$Poll;") (z_t1 (i := 168) rfl rfl)) (fun _ h9 => h9) rfl hin rfl (by decide +kernel) rfl rfl (Nat.le_of_ble_eq_true rfl) dX5_init_34 (fun H locs hP hD hS => ?_)
  have hP : va_P D z_cl ((([(h0, .inr (5, [.ref q1, .ref q3, .ref q5, .null, .null, .null, .null, .int 0]))] ++ z_W cA (zk_ad q1 u2) (PH (nI 3) (nI 0) (nI 0) (nI 0) (fun _ => 0) (fun _ => 0) d_2 f_2)) ++ z_W cA (zk_ad q3 u4) (PH (nI 3) (nI 0) (nI 0) (nI 0) (fun _ => 0) (fun _ => 0) d_4 f_4)) ++ z_W cA (zk_ad q5 u6) (PH (nI 3) (nI 0) (nI 0) (nI 0) (fun _ => 0) (fun _ => 0) d_6 f_6)) H := hP
  have hD : va_D A ((([(h0, .inr (5, [.ref q1, .ref q3, .ref q5, .null, .null, .null, .null, .int 0]))] ++ z_W cA (zk_ad q1 u2) (PH (nI 3) (nI 0) (nI 0) (nI 0) (fun _ => 0) (fun _ => 0) d_2 f_2)) ++ z_W cA (zk_ad q3 u4) (PH (nI 3) (nI 0) (nI 0) (nI 0) (fun _ => 0) (fun _ => 0) d_4 f_4)) ++ z_W cA (zk_ad q5 u6) (PH (nI 3) (nI 0) (nI 0) (nI 0) (fun _ => 0) (fun _ => 0) d_6 f_6)) := hD
  refine lv_aload_n hx hb dX5_init_37 rfl (lv_at hl 0 rfl) ?_
  refine va_new (ci := 4) (fs := [.int 0, .int 0, .int 0, .int 0, .null, .null, .null, .null, .null, .null, .null]) (C := RX4) (T := TX4) (N := 11) hx hb hts (z_fields (ci := 4) rfl) tyX4 tyX4_ok hown (hts (.classLink RX5 24 RX4) (z_t1 (i := 71) rfl rfl)) (hts (.instantiable RX4 11) (z_t1 (i := 72) rfl rfl)) (hts (.initialized RX4) (z_t1 (i := 4) rfl rfl)) hK hP hD hS hA rfl (fun j hj => by match j, hj with | 0, _ => rfl | 1, _ => rfl | 2, _ => rfl | 3, _ => rfl | 4, _ => rfl | 5, _ => rfl | 6, _ => rfl | 7, _ => rfl | 8, _ => rfl | 9, _ => rfl | 10, _ => rfl | j + 11, hj => exact absurd hj (by omega)) (Nat.le_of_ble_eq_true rfl) (Nat.le_of_ble_eq_true rfl) dX5_init_38 (fun q7 H hP hD hS => ?_)
  have hP : va_P D z_cl (((([(h0, .inr (5, [.ref q1, .ref q3, .ref q5, .null, .null, .null, .null, .int 0]))] ++ z_W cA (zk_ad q1 u2) (PH (nI 3) (nI 0) (nI 0) (nI 0) (fun _ => 0) (fun _ => 0) d_2 f_2)) ++ z_W cA (zk_ad q3 u4) (PH (nI 3) (nI 0) (nI 0) (nI 0) (fun _ => 0) (fun _ => 0) d_4 f_4)) ++ z_W cA (zk_ad q5 u6) (PH (nI 3) (nI 0) (nI 0) (nI 0) (fun _ => 0) (fun _ => 0) d_6 f_6)) ++ [(q7, .inr (4, [.int 0, .int 0, .int 0, .int 0, .null, .null, .null, .null, .null, .null, .null]))]) H := hP
  have hD : va_D A (((([(h0, .inr (5, [.ref q1, .ref q3, .ref q5, .null, .null, .null, .null, .int 0]))] ++ z_W cA (zk_ad q1 u2) (PH (nI 3) (nI 0) (nI 0) (nI 0) (fun _ => 0) (fun _ => 0) d_2 f_2)) ++ z_W cA (zk_ad q3 u4) (PH (nI 3) (nI 0) (nI 0) (nI 0) (fun _ => 0) (fun _ => 0) d_4 f_4)) ++ z_W cA (zk_ad q5 u6) (PH (nI 3) (nI 0) (nI 0) (nI 0) (fun _ => 0) (fun _ => 0) d_6 f_6)) ++ [(q7, .inr (4, [.int 0, .int 0, .int 0, .int 0, .null, .null, .null, .null, .null, .null, .null]))]) := hD
  refine lv_dup hx hb dX5_init_41 rfl ?_
  refine zl_init (own := RX5) (ci := 4) (b := q7) hx hb hml hown hts hN hK hA hP hD hS (k_X4 l) (z_t1 (i := 75) rfl rfl) (z_t1 (i := 4) rfl rfl) (z_t1 (i := 73) rfl rfl) (z_t1 (i := 74) rfl rfl) rfl (by decide +kernel) ⟨Nat.le_of_ble_eq_true rfl, Nat.le_of_ble_eq_true rfl⟩ ⟨Nat.le_of_ble_eq_true rfl, Nat.le_of_ble_eq_true rfl⟩ hl.1 (Nat.le_of_ble_eq_true rfl) dX5_init_42 (fun u8 h9 H locs hq hP hD hS => ?_)
  obtain rfl := hq
  have hP : va_P D z_cl (((([(h0, .inr (5, [.ref q1, .ref q3, .ref q5, .null, .null, .null, .null, .int 0]))] ++ z_W cA (zk_ad q1 u2) (PH (nI 3) (nI 0) (nI 0) (nI 0) (fun _ => 0) (fun _ => 0) d_2 f_2)) ++ z_W cA (zk_ad q3 u4) (PH (nI 3) (nI 0) (nI 0) (nI 0) (fun _ => 0) (fun _ => 0) d_4 f_4)) ++ z_W cA (zk_ad q5 u6) (PH (nI 3) (nI 0) (nI 0) (nI 0) (fun _ => 0) (fun _ => 0) d_6 f_6)) ++ z_W cA (zk_ad q7 u8) [.inr (4, [.int 0, .int 0, .int 0, .int 0, .ref 1, .ref 2, .ref 3, .ref 4, .ref 5, .ref 6, .ref 7]), .inl (0, 64, .inl (fun _ => 0)), .inl (0, 8, .inl (fun _ => 0)), .inl (1, 64, .inr (.inl (fun _ => 0))), .inl (1, 64, .inr (.inl (fun _ => 0))), .inl (0, 8, .inl (fun _ => 0)), .inl (0, 8, .inl (fun _ => 0)), .inl (0, 8, .inl (fun _ => 0))]) H := hP
  have hD : va_D A (((([(h0, .inr (5, [.ref q1, .ref q3, .ref q5, .null, .null, .null, .null, .int 0]))] ++ z_W cA (zk_ad q1 u2) (PH (nI 3) (nI 0) (nI 0) (nI 0) (fun _ => 0) (fun _ => 0) d_2 f_2)) ++ z_W cA (zk_ad q3 u4) (PH (nI 3) (nI 0) (nI 0) (nI 0) (fun _ => 0) (fun _ => 0) d_4 f_4)) ++ z_W cA (zk_ad q5 u6) (PH (nI 3) (nI 0) (nI 0) (nI 0) (fun _ => 0) (fun _ => 0) d_6 f_6)) ++ z_W cA (zk_ad q7 u8) [.inr (4, [.int 0, .int 0, .int 0, .int 0, .ref 1, .ref 2, .ref 3, .ref 4, .ref 5, .ref 6, .ref 7]), .inl (0, 64, .inl (fun _ => 0)), .inl (0, 8, .inl (fun _ => 0)), .inl (1, 64, .inr (.inl (fun _ => 0))), .inl (1, 64, .inr (.inl (fun _ => 0))), .inl (0, 8, .inl (fun _ => 0)), .inl (0, 8, .inl (fun _ => 0)), .inl (0, 8, .inl (fun _ => 0))]) := hD
  refine va_putF (D := D) (ci := 5) (v := .ref q7) (ty := .object "BallotWays$Ways") (C := RX5) (T := TX5) (N := 8) hx hb hts (z_fields (ci := 5) rfl) tyX5 tyX5_ok nmX5 hown hK hP hD hS 0 rfl rfl 3 (by decide) (hts (.fieldLink RX5 27 "BallotWays" "ways" "LBallotWays$Ways;") (z_t1 (i := 169) rfl rfl)) (fun _ h9 => h9) rfl hin rfl (by decide +kernel) rfl rfl (Nat.le_of_ble_eq_true rfl) dX5_init_45 (fun H locs hP hD hS => ?_)
  have hP : va_P D z_cl (((([(h0, .inr (5, [.ref q1, .ref q3, .ref q5, .ref q7, .null, .null, .null, .int 0]))] ++ z_W cA (zk_ad q1 u2) (PH (nI 3) (nI 0) (nI 0) (nI 0) (fun _ => 0) (fun _ => 0) d_2 f_2)) ++ z_W cA (zk_ad q3 u4) (PH (nI 3) (nI 0) (nI 0) (nI 0) (fun _ => 0) (fun _ => 0) d_4 f_4)) ++ z_W cA (zk_ad q5 u6) (PH (nI 3) (nI 0) (nI 0) (nI 0) (fun _ => 0) (fun _ => 0) d_6 f_6)) ++ z_W cA (zk_ad q7 u8) [.inr (4, [.int 0, .int 0, .int 0, .int 0, .ref 1, .ref 2, .ref 3, .ref 4, .ref 5, .ref 6, .ref 7]), .inl (0, 64, .inl (fun _ => 0)), .inl (0, 8, .inl (fun _ => 0)), .inl (1, 64, .inr (.inl (fun _ => 0))), .inl (1, 64, .inr (.inl (fun _ => 0))), .inl (0, 8, .inl (fun _ => 0)), .inl (0, 8, .inl (fun _ => 0)), .inl (0, 8, .inl (fun _ => 0))]) H := hP
  have hD : va_D A (((([(h0, .inr (5, [.ref q1, .ref q3, .ref q5, .ref q7, .null, .null, .null, .int 0]))] ++ z_W cA (zk_ad q1 u2) (PH (nI 3) (nI 0) (nI 0) (nI 0) (fun _ => 0) (fun _ => 0) d_2 f_2)) ++ z_W cA (zk_ad q3 u4) (PH (nI 3) (nI 0) (nI 0) (nI 0) (fun _ => 0) (fun _ => 0) d_4 f_4)) ++ z_W cA (zk_ad q5 u6) (PH (nI 3) (nI 0) (nI 0) (nI 0) (fun _ => 0) (fun _ => 0) d_6 f_6)) ++ z_W cA (zk_ad q7 u8) [.inr (4, [.int 0, .int 0, .int 0, .int 0, .ref 1, .ref 2, .ref 3, .ref 4, .ref 5, .ref 6, .ref 7]), .inl (0, 64, .inl (fun _ => 0)), .inl (0, 8, .inl (fun _ => 0)), .inl (1, 64, .inr (.inl (fun _ => 0))), .inl (1, 64, .inr (.inl (fun _ => 0))), .inl (0, 8, .inl (fun _ => 0)), .inl (0, 8, .inl (fun _ => 0)), .inl (0, 8, .inl (fun _ => 0))]) := hD
  refine lv_aload_n hx hb dX5_init_48 rfl (lv_at hl 0 rfl) ?_
  refine va_new (ci := 3) (fs := [.null, .int 0, .int 0, .int 0, .int 0]) (C := RX3) (T := TX3) (N := 5) hx hb hts (z_fields (ci := 3) rfl) tyX3 tyX3_ok hown (hts (.classLink RX5 31 RX3) (z_t1 (i := 112) rfl rfl)) (hts (.instantiable RX3 5) (z_t1 (i := 113) rfl rfl)) (hts (.initialized RX3) (z_t1 (i := 5) rfl rfl)) hK hP hD hS hA rfl (fun j hj => by match j, hj with | 0, _ => rfl | 1, _ => rfl | 2, _ => rfl | 3, _ => rfl | 4, _ => rfl | j + 5, hj => exact absurd hj (by omega)) (Nat.le_of_ble_eq_true rfl) (Nat.le_of_ble_eq_true rfl) dX5_init_49 (fun q9 H hP hD hS => ?_)
  have hP : va_P D z_cl ((((([(h0, .inr (5, [.ref q1, .ref q3, .ref q5, .ref q7, .null, .null, .null, .int 0]))] ++ z_W cA (zk_ad q1 u2) (PH (nI 3) (nI 0) (nI 0) (nI 0) (fun _ => 0) (fun _ => 0) d_2 f_2)) ++ z_W cA (zk_ad q3 u4) (PH (nI 3) (nI 0) (nI 0) (nI 0) (fun _ => 0) (fun _ => 0) d_4 f_4)) ++ z_W cA (zk_ad q5 u6) (PH (nI 3) (nI 0) (nI 0) (nI 0) (fun _ => 0) (fun _ => 0) d_6 f_6)) ++ z_W cA (zk_ad q7 u8) [.inr (4, [.int 0, .int 0, .int 0, .int 0, .ref 1, .ref 2, .ref 3, .ref 4, .ref 5, .ref 6, .ref 7]), .inl (0, 64, .inl (fun _ => 0)), .inl (0, 8, .inl (fun _ => 0)), .inl (1, 64, .inr (.inl (fun _ => 0))), .inl (1, 64, .inr (.inl (fun _ => 0))), .inl (0, 8, .inl (fun _ => 0)), .inl (0, 8, .inl (fun _ => 0)), .inl (0, 8, .inl (fun _ => 0))]) ++ [(q9, .inr (3, [.null, .int 0, .int 0, .int 0, .int 0]))]) H := hP
  have hD : va_D A ((((([(h0, .inr (5, [.ref q1, .ref q3, .ref q5, .ref q7, .null, .null, .null, .int 0]))] ++ z_W cA (zk_ad q1 u2) (PH (nI 3) (nI 0) (nI 0) (nI 0) (fun _ => 0) (fun _ => 0) d_2 f_2)) ++ z_W cA (zk_ad q3 u4) (PH (nI 3) (nI 0) (nI 0) (nI 0) (fun _ => 0) (fun _ => 0) d_4 f_4)) ++ z_W cA (zk_ad q5 u6) (PH (nI 3) (nI 0) (nI 0) (nI 0) (fun _ => 0) (fun _ => 0) d_6 f_6)) ++ z_W cA (zk_ad q7 u8) [.inr (4, [.int 0, .int 0, .int 0, .int 0, .ref 1, .ref 2, .ref 3, .ref 4, .ref 5, .ref 6, .ref 7]), .inl (0, 64, .inl (fun _ => 0)), .inl (0, 8, .inl (fun _ => 0)), .inl (1, 64, .inr (.inl (fun _ => 0))), .inl (1, 64, .inr (.inl (fun _ => 0))), .inl (0, 8, .inl (fun _ => 0)), .inl (0, 8, .inl (fun _ => 0)), .inl (0, 8, .inl (fun _ => 0))]) ++ [(q9, .inr (3, [.null, .int 0, .int 0, .int 0, .int 0]))]) := hD
  refine lv_dup hx hb dX5_init_52 rfl ?_
  refine zl_init (own := RX5) (ci := 3) (b := q9) hx hb hml hown hts hN hK hA hP hD hS (k_X3 l) (z_t1 (i := 116) rfl rfl) (z_t1 (i := 5) rfl rfl) (z_t1 (i := 114) rfl rfl) (z_t1 (i := 115) rfl rfl) rfl (by decide +kernel) ⟨Nat.le_of_ble_eq_true rfl, Nat.le_of_ble_eq_true rfl⟩ ⟨Nat.le_of_ble_eq_true rfl, Nat.le_of_ble_eq_true rfl⟩ hl.1 (Nat.le_of_ble_eq_true rfl) dX5_init_53 (fun u10 h9 H locs hq hP hD hS => ?_)
  obtain rfl := hq
  have hP : va_P D z_cl ((((([(h0, .inr (5, [.ref q1, .ref q3, .ref q5, .ref q7, .null, .null, .null, .int 0]))] ++ z_W cA (zk_ad q1 u2) (PH (nI 3) (nI 0) (nI 0) (nI 0) (fun _ => 0) (fun _ => 0) d_2 f_2)) ++ z_W cA (zk_ad q3 u4) (PH (nI 3) (nI 0) (nI 0) (nI 0) (fun _ => 0) (fun _ => 0) d_4 f_4)) ++ z_W cA (zk_ad q5 u6) (PH (nI 3) (nI 0) (nI 0) (nI 0) (fun _ => 0) (fun _ => 0) d_6 f_6)) ++ z_W cA (zk_ad q7 u8) [.inr (4, [.int 0, .int 0, .int 0, .int 0, .ref 1, .ref 2, .ref 3, .ref 4, .ref 5, .ref 6, .ref 7]), .inl (0, 64, .inl (fun _ => 0)), .inl (0, 8, .inl (fun _ => 0)), .inl (1, 64, .inr (.inl (fun _ => 0))), .inl (1, 64, .inr (.inl (fun _ => 0))), .inl (0, 8, .inl (fun _ => 0)), .inl (0, 8, .inl (fun _ => 0)), .inl (0, 8, .inl (fun _ => 0))]) ++ z_W cA (zk_ad q9 u10) [.inr (3, [.ref 1, .int 0, .int 0, .int 0, .int 0]), .inl (0, 120, .inl (fun _ => 0))]) H := hP
  have hD : va_D A ((((([(h0, .inr (5, [.ref q1, .ref q3, .ref q5, .ref q7, .null, .null, .null, .int 0]))] ++ z_W cA (zk_ad q1 u2) (PH (nI 3) (nI 0) (nI 0) (nI 0) (fun _ => 0) (fun _ => 0) d_2 f_2)) ++ z_W cA (zk_ad q3 u4) (PH (nI 3) (nI 0) (nI 0) (nI 0) (fun _ => 0) (fun _ => 0) d_4 f_4)) ++ z_W cA (zk_ad q5 u6) (PH (nI 3) (nI 0) (nI 0) (nI 0) (fun _ => 0) (fun _ => 0) d_6 f_6)) ++ z_W cA (zk_ad q7 u8) [.inr (4, [.int 0, .int 0, .int 0, .int 0, .ref 1, .ref 2, .ref 3, .ref 4, .ref 5, .ref 6, .ref 7]), .inl (0, 64, .inl (fun _ => 0)), .inl (0, 8, .inl (fun _ => 0)), .inl (1, 64, .inr (.inl (fun _ => 0))), .inl (1, 64, .inr (.inl (fun _ => 0))), .inl (0, 8, .inl (fun _ => 0)), .inl (0, 8, .inl (fun _ => 0)), .inl (0, 8, .inl (fun _ => 0))]) ++ z_W cA (zk_ad q9 u10) [.inr (3, [.ref 1, .int 0, .int 0, .int 0, .int 0]), .inl (0, 120, .inl (fun _ => 0))]) := hD
  refine va_putF (D := D) (ci := 5) (v := .ref q9) (ty := .object "BallotWays$Tape") (C := RX5) (T := TX5) (N := 8) hx hb hts (z_fields (ci := 5) rfl) tyX5 tyX5_ok nmX5 hown hK hP hD hS 0 rfl rfl 4 (by decide) (hts (.fieldLink RX5 34 "BallotWays" "tape" "LBallotWays$Tape;") (z_t1 (i := 170) rfl rfl)) (fun _ h9 => h9) rfl hin rfl (by decide +kernel) rfl rfl (Nat.le_of_ble_eq_true rfl) dX5_init_56 (fun H locs hP hD hS => ?_)
  have hP : va_P D z_cl ((((([(h0, .inr (5, [.ref q1, .ref q3, .ref q5, .ref q7, .ref q9, .null, .null, .int 0]))] ++ z_W cA (zk_ad q1 u2) (PH (nI 3) (nI 0) (nI 0) (nI 0) (fun _ => 0) (fun _ => 0) d_2 f_2)) ++ z_W cA (zk_ad q3 u4) (PH (nI 3) (nI 0) (nI 0) (nI 0) (fun _ => 0) (fun _ => 0) d_4 f_4)) ++ z_W cA (zk_ad q5 u6) (PH (nI 3) (nI 0) (nI 0) (nI 0) (fun _ => 0) (fun _ => 0) d_6 f_6)) ++ z_W cA (zk_ad q7 u8) [.inr (4, [.int 0, .int 0, .int 0, .int 0, .ref 1, .ref 2, .ref 3, .ref 4, .ref 5, .ref 6, .ref 7]), .inl (0, 64, .inl (fun _ => 0)), .inl (0, 8, .inl (fun _ => 0)), .inl (1, 64, .inr (.inl (fun _ => 0))), .inl (1, 64, .inr (.inl (fun _ => 0))), .inl (0, 8, .inl (fun _ => 0)), .inl (0, 8, .inl (fun _ => 0)), .inl (0, 8, .inl (fun _ => 0))]) ++ z_W cA (zk_ad q9 u10) [.inr (3, [.ref 1, .int 0, .int 0, .int 0, .int 0]), .inl (0, 120, .inl (fun _ => 0))]) H := hP
  have hD : va_D A ((((([(h0, .inr (5, [.ref q1, .ref q3, .ref q5, .ref q7, .ref q9, .null, .null, .int 0]))] ++ z_W cA (zk_ad q1 u2) (PH (nI 3) (nI 0) (nI 0) (nI 0) (fun _ => 0) (fun _ => 0) d_2 f_2)) ++ z_W cA (zk_ad q3 u4) (PH (nI 3) (nI 0) (nI 0) (nI 0) (fun _ => 0) (fun _ => 0) d_4 f_4)) ++ z_W cA (zk_ad q5 u6) (PH (nI 3) (nI 0) (nI 0) (nI 0) (fun _ => 0) (fun _ => 0) d_6 f_6)) ++ z_W cA (zk_ad q7 u8) [.inr (4, [.int 0, .int 0, .int 0, .int 0, .ref 1, .ref 2, .ref 3, .ref 4, .ref 5, .ref 6, .ref 7]), .inl (0, 64, .inl (fun _ => 0)), .inl (0, 8, .inl (fun _ => 0)), .inl (1, 64, .inr (.inl (fun _ => 0))), .inl (1, 64, .inr (.inl (fun _ => 0))), .inl (0, 8, .inl (fun _ => 0)), .inl (0, 8, .inl (fun _ => 0)), .inl (0, 8, .inl (fun _ => 0))]) ++ z_W cA (zk_ad q9 u10) [.inr (3, [.ref 1, .int 0, .int 0, .int 0, .int 0]), .inl (0, 120, .inl (fun _ => 0))]) := hD
  refine lv_aload_n hx hb dX5_init_59 rfl (lv_at hl 0 rfl) ?_
  refine va_new (ci := 0) (fs := [.null, .null]) (C := RX0) (T := TX0) (N := 2) hx hb hts (z_fields (ci := 0) rfl) tyX0 tyX0_ok hown (hts (.classLink RX5 38 RX0) (z_t1 (i := 138) rfl rfl)) (hts (.instantiable RX0 2) (z_t1 (i := 139) rfl rfl)) (hts (.initialized RX0) (z_t1 (i := 6) rfl rfl)) hK hP hD hS hA rfl (fun j hj => by match j, hj with | 0, _ => rfl | 1, _ => rfl | j + 2, hj => exact absurd hj (by omega)) (Nat.le_of_ble_eq_true rfl) (Nat.le_of_ble_eq_true rfl) dX5_init_60 (fun q11 H hP hD hS => ?_)
  have hP : va_P D z_cl (((((([(h0, .inr (5, [.ref q1, .ref q3, .ref q5, .ref q7, .ref q9, .null, .null, .int 0]))] ++ z_W cA (zk_ad q1 u2) (PH (nI 3) (nI 0) (nI 0) (nI 0) (fun _ => 0) (fun _ => 0) d_2 f_2)) ++ z_W cA (zk_ad q3 u4) (PH (nI 3) (nI 0) (nI 0) (nI 0) (fun _ => 0) (fun _ => 0) d_4 f_4)) ++ z_W cA (zk_ad q5 u6) (PH (nI 3) (nI 0) (nI 0) (nI 0) (fun _ => 0) (fun _ => 0) d_6 f_6)) ++ z_W cA (zk_ad q7 u8) [.inr (4, [.int 0, .int 0, .int 0, .int 0, .ref 1, .ref 2, .ref 3, .ref 4, .ref 5, .ref 6, .ref 7]), .inl (0, 64, .inl (fun _ => 0)), .inl (0, 8, .inl (fun _ => 0)), .inl (1, 64, .inr (.inl (fun _ => 0))), .inl (1, 64, .inr (.inl (fun _ => 0))), .inl (0, 8, .inl (fun _ => 0)), .inl (0, 8, .inl (fun _ => 0)), .inl (0, 8, .inl (fun _ => 0))]) ++ z_W cA (zk_ad q9 u10) [.inr (3, [.ref 1, .int 0, .int 0, .int 0, .int 0]), .inl (0, 120, .inl (fun _ => 0))]) ++ [(q11, .inr (0, [.null, .null]))]) H := hP
  have hD : va_D A (((((([(h0, .inr (5, [.ref q1, .ref q3, .ref q5, .ref q7, .ref q9, .null, .null, .int 0]))] ++ z_W cA (zk_ad q1 u2) (PH (nI 3) (nI 0) (nI 0) (nI 0) (fun _ => 0) (fun _ => 0) d_2 f_2)) ++ z_W cA (zk_ad q3 u4) (PH (nI 3) (nI 0) (nI 0) (nI 0) (fun _ => 0) (fun _ => 0) d_4 f_4)) ++ z_W cA (zk_ad q5 u6) (PH (nI 3) (nI 0) (nI 0) (nI 0) (fun _ => 0) (fun _ => 0) d_6 f_6)) ++ z_W cA (zk_ad q7 u8) [.inr (4, [.int 0, .int 0, .int 0, .int 0, .ref 1, .ref 2, .ref 3, .ref 4, .ref 5, .ref 6, .ref 7]), .inl (0, 64, .inl (fun _ => 0)), .inl (0, 8, .inl (fun _ => 0)), .inl (1, 64, .inr (.inl (fun _ => 0))), .inl (1, 64, .inr (.inl (fun _ => 0))), .inl (0, 8, .inl (fun _ => 0)), .inl (0, 8, .inl (fun _ => 0)), .inl (0, 8, .inl (fun _ => 0))]) ++ z_W cA (zk_ad q9 u10) [.inr (3, [.ref 1, .int 0, .int 0, .int 0, .int 0]), .inl (0, 120, .inl (fun _ => 0))]) ++ [(q11, .inr (0, [.null, .null]))]) := hD
  refine lv_dup hx hb dX5_init_63 rfl ?_
  refine zl_init (own := RX5) (ci := 0) (b := q11) hx hb hml hown hts hN hK hA hP hD hS (k_X0 l) (z_t1 (i := 142) rfl rfl) (z_t1 (i := 6) rfl rfl) (z_t1 (i := 140) rfl rfl) (z_t1 (i := 141) rfl rfl) rfl (by decide +kernel) ⟨Nat.le_of_ble_eq_true rfl, Nat.le_of_ble_eq_true rfl⟩ ⟨Nat.le_of_ble_eq_true rfl, Nat.le_of_ble_eq_true rfl⟩ hl.1 (Nat.le_of_ble_eq_true rfl) dX5_init_64 (fun u12 h9 H locs hq hP hD hS => ?_)
  obtain ⟨s_12, rfl, hs_12⟩ := hq
  have hP : va_P D z_cl (((((([(h0, .inr (5, [.ref q1, .ref q3, .ref q5, .ref q7, .ref q9, .null, .null, .int 0]))] ++ z_W cA (zk_ad q1 u2) (PH (nI 3) (nI 0) (nI 0) (nI 0) (fun _ => 0) (fun _ => 0) d_2 f_2)) ++ z_W cA (zk_ad q3 u4) (PH (nI 3) (nI 0) (nI 0) (nI 0) (fun _ => 0) (fun _ => 0) d_4 f_4)) ++ z_W cA (zk_ad q5 u6) (PH (nI 3) (nI 0) (nI 0) (nI 0) (fun _ => 0) (fun _ => 0) d_6 f_6)) ++ z_W cA (zk_ad q7 u8) [.inr (4, [.int 0, .int 0, .int 0, .int 0, .ref 1, .ref 2, .ref 3, .ref 4, .ref 5, .ref 6, .ref 7]), .inl (0, 64, .inl (fun _ => 0)), .inl (0, 8, .inl (fun _ => 0)), .inl (1, 64, .inr (.inl (fun _ => 0))), .inl (1, 64, .inr (.inl (fun _ => 0))), .inl (0, 8, .inl (fun _ => 0)), .inl (0, 8, .inl (fun _ => 0)), .inl (0, 8, .inl (fun _ => 0))]) ++ z_W cA (zk_ad q9 u10) [.inr (3, [.ref 1, .int 0, .int 0, .int 0, .int 0]), .inl (0, 120, .inl (fun _ => 0))]) ++ z_W cA (zk_ad q11 u12) (LH (fun _ => 0) s_12)) H := hP
  have hD : va_D A (((((([(h0, .inr (5, [.ref q1, .ref q3, .ref q5, .ref q7, .ref q9, .null, .null, .int 0]))] ++ z_W cA (zk_ad q1 u2) (PH (nI 3) (nI 0) (nI 0) (nI 0) (fun _ => 0) (fun _ => 0) d_2 f_2)) ++ z_W cA (zk_ad q3 u4) (PH (nI 3) (nI 0) (nI 0) (nI 0) (fun _ => 0) (fun _ => 0) d_4 f_4)) ++ z_W cA (zk_ad q5 u6) (PH (nI 3) (nI 0) (nI 0) (nI 0) (fun _ => 0) (fun _ => 0) d_6 f_6)) ++ z_W cA (zk_ad q7 u8) [.inr (4, [.int 0, .int 0, .int 0, .int 0, .ref 1, .ref 2, .ref 3, .ref 4, .ref 5, .ref 6, .ref 7]), .inl (0, 64, .inl (fun _ => 0)), .inl (0, 8, .inl (fun _ => 0)), .inl (1, 64, .inr (.inl (fun _ => 0))), .inl (1, 64, .inr (.inl (fun _ => 0))), .inl (0, 8, .inl (fun _ => 0)), .inl (0, 8, .inl (fun _ => 0)), .inl (0, 8, .inl (fun _ => 0))]) ++ z_W cA (zk_ad q9 u10) [.inr (3, [.ref 1, .int 0, .int 0, .int 0, .int 0]), .inl (0, 120, .inl (fun _ => 0))]) ++ z_W cA (zk_ad q11 u12) (LH (fun _ => 0) s_12)) := hD
  refine va_putF (D := D) (ci := 5) (v := .ref q11) (ty := .object "BallotWays$Lists") (C := RX5) (T := TX5) (N := 8) hx hb hts (z_fields (ci := 5) rfl) tyX5 tyX5_ok nmX5 hown hK hP hD hS 0 rfl rfl 5 (by decide) (hts (.fieldLink RX5 41 "BallotWays" "lists" "LBallotWays$Lists;") (z_t1 (i := 171) rfl rfl)) (fun _ h9 => h9) rfl hin rfl (by decide +kernel) rfl rfl (Nat.le_of_ble_eq_true rfl) dX5_init_67 (fun H locs hP hD hS => ?_)
  have hP : va_P D z_cl (((((([(h0, .inr (5, [.ref q1, .ref q3, .ref q5, .ref q7, .ref q9, .ref q11, .null, .int 0]))] ++ z_W cA (zk_ad q1 u2) (PH (nI 3) (nI 0) (nI 0) (nI 0) (fun _ => 0) (fun _ => 0) d_2 f_2)) ++ z_W cA (zk_ad q3 u4) (PH (nI 3) (nI 0) (nI 0) (nI 0) (fun _ => 0) (fun _ => 0) d_4 f_4)) ++ z_W cA (zk_ad q5 u6) (PH (nI 3) (nI 0) (nI 0) (nI 0) (fun _ => 0) (fun _ => 0) d_6 f_6)) ++ z_W cA (zk_ad q7 u8) [.inr (4, [.int 0, .int 0, .int 0, .int 0, .ref 1, .ref 2, .ref 3, .ref 4, .ref 5, .ref 6, .ref 7]), .inl (0, 64, .inl (fun _ => 0)), .inl (0, 8, .inl (fun _ => 0)), .inl (1, 64, .inr (.inl (fun _ => 0))), .inl (1, 64, .inr (.inl (fun _ => 0))), .inl (0, 8, .inl (fun _ => 0)), .inl (0, 8, .inl (fun _ => 0)), .inl (0, 8, .inl (fun _ => 0))]) ++ z_W cA (zk_ad q9 u10) [.inr (3, [.ref 1, .int 0, .int 0, .int 0, .int 0]), .inl (0, 120, .inl (fun _ => 0))]) ++ z_W cA (zk_ad q11 u12) (LH (fun _ => 0) s_12)) H := hP
  have hD : va_D A (((((([(h0, .inr (5, [.ref q1, .ref q3, .ref q5, .ref q7, .ref q9, .ref q11, .null, .int 0]))] ++ z_W cA (zk_ad q1 u2) (PH (nI 3) (nI 0) (nI 0) (nI 0) (fun _ => 0) (fun _ => 0) d_2 f_2)) ++ z_W cA (zk_ad q3 u4) (PH (nI 3) (nI 0) (nI 0) (nI 0) (fun _ => 0) (fun _ => 0) d_4 f_4)) ++ z_W cA (zk_ad q5 u6) (PH (nI 3) (nI 0) (nI 0) (nI 0) (fun _ => 0) (fun _ => 0) d_6 f_6)) ++ z_W cA (zk_ad q7 u8) [.inr (4, [.int 0, .int 0, .int 0, .int 0, .ref 1, .ref 2, .ref 3, .ref 4, .ref 5, .ref 6, .ref 7]), .inl (0, 64, .inl (fun _ => 0)), .inl (0, 8, .inl (fun _ => 0)), .inl (1, 64, .inr (.inl (fun _ => 0))), .inl (1, 64, .inr (.inl (fun _ => 0))), .inl (0, 8, .inl (fun _ => 0)), .inl (0, 8, .inl (fun _ => 0)), .inl (0, 8, .inl (fun _ => 0))]) ++ z_W cA (zk_ad q9 u10) [.inr (3, [.ref 1, .int 0, .int 0, .int 0, .int 0]), .inl (0, 120, .inl (fun _ => 0))]) ++ z_W cA (zk_ad q11 u12) (LH (fun _ => 0) s_12)) := hD
  refine lv_aload_n hx hb dX5_init_70 rfl (lv_at hl 0 rfl) ?_
  refine va_new (ci := 1) (fs := [.null, .int 0]) (C := RX1) (T := TX1) (N := 2) hx hb hts (z_fields (ci := 1) rfl) tyX1 tyX1_ok hown (hts (.classLink RX5 45 RX1) (z_t1 (i := 152) rfl rfl)) (hts (.instantiable RX1 2) (z_t1 (i := 153) rfl rfl)) (hts (.initialized RX1) (z_t1 (i := 7) rfl rfl)) hK hP hD hS hA rfl (fun j hj => by match j, hj with | 0, _ => rfl | 1, _ => rfl | j + 2, hj => exact absurd hj (by omega)) (Nat.le_of_ble_eq_true rfl) (Nat.le_of_ble_eq_true rfl) dX5_init_71 (fun q13 H hP hD hS => ?_)
  have hP : va_P D z_cl ((((((([(h0, .inr (5, [.ref q1, .ref q3, .ref q5, .ref q7, .ref q9, .ref q11, .null, .int 0]))] ++ z_W cA (zk_ad q1 u2) (PH (nI 3) (nI 0) (nI 0) (nI 0) (fun _ => 0) (fun _ => 0) d_2 f_2)) ++ z_W cA (zk_ad q3 u4) (PH (nI 3) (nI 0) (nI 0) (nI 0) (fun _ => 0) (fun _ => 0) d_4 f_4)) ++ z_W cA (zk_ad q5 u6) (PH (nI 3) (nI 0) (nI 0) (nI 0) (fun _ => 0) (fun _ => 0) d_6 f_6)) ++ z_W cA (zk_ad q7 u8) [.inr (4, [.int 0, .int 0, .int 0, .int 0, .ref 1, .ref 2, .ref 3, .ref 4, .ref 5, .ref 6, .ref 7]), .inl (0, 64, .inl (fun _ => 0)), .inl (0, 8, .inl (fun _ => 0)), .inl (1, 64, .inr (.inl (fun _ => 0))), .inl (1, 64, .inr (.inl (fun _ => 0))), .inl (0, 8, .inl (fun _ => 0)), .inl (0, 8, .inl (fun _ => 0)), .inl (0, 8, .inl (fun _ => 0))]) ++ z_W cA (zk_ad q9 u10) [.inr (3, [.ref 1, .int 0, .int 0, .int 0, .int 0]), .inl (0, 120, .inl (fun _ => 0))]) ++ z_W cA (zk_ad q11 u12) (LH (fun _ => 0) s_12)) ++ [(q13, .inr (1, [.null, .int 0]))]) H := hP
  have hD : va_D A ((((((([(h0, .inr (5, [.ref q1, .ref q3, .ref q5, .ref q7, .ref q9, .ref q11, .null, .int 0]))] ++ z_W cA (zk_ad q1 u2) (PH (nI 3) (nI 0) (nI 0) (nI 0) (fun _ => 0) (fun _ => 0) d_2 f_2)) ++ z_W cA (zk_ad q3 u4) (PH (nI 3) (nI 0) (nI 0) (nI 0) (fun _ => 0) (fun _ => 0) d_4 f_4)) ++ z_W cA (zk_ad q5 u6) (PH (nI 3) (nI 0) (nI 0) (nI 0) (fun _ => 0) (fun _ => 0) d_6 f_6)) ++ z_W cA (zk_ad q7 u8) [.inr (4, [.int 0, .int 0, .int 0, .int 0, .ref 1, .ref 2, .ref 3, .ref 4, .ref 5, .ref 6, .ref 7]), .inl (0, 64, .inl (fun _ => 0)), .inl (0, 8, .inl (fun _ => 0)), .inl (1, 64, .inr (.inl (fun _ => 0))), .inl (1, 64, .inr (.inl (fun _ => 0))), .inl (0, 8, .inl (fun _ => 0)), .inl (0, 8, .inl (fun _ => 0)), .inl (0, 8, .inl (fun _ => 0))]) ++ z_W cA (zk_ad q9 u10) [.inr (3, [.ref 1, .int 0, .int 0, .int 0, .int 0]), .inl (0, 120, .inl (fun _ => 0))]) ++ z_W cA (zk_ad q11 u12) (LH (fun _ => 0) s_12)) ++ [(q13, .inr (1, [.null, .int 0]))]) := hD
  refine lv_dup hx hb dX5_init_74 rfl ?_
  refine zl_init (own := RX5) (ci := 1) (b := q13) hx hb hml hown hts hN hK hA hP hD hS (k_X1 l) (z_t1 (i := 156) rfl rfl) (z_t1 (i := 7) rfl rfl) (z_t1 (i := 154) rfl rfl) (z_t1 (i := 155) rfl rfl) rfl (by decide +kernel) ⟨Nat.le_of_ble_eq_true rfl, Nat.le_of_ble_eq_true rfl⟩ ⟨Nat.le_of_ble_eq_true rfl, Nat.le_of_ble_eq_true rfl⟩ hl.1 (Nat.le_of_ble_eq_true rfl) dX5_init_75 (fun u14 h9 H locs hq hP hD hS => ?_)
  obtain rfl := hq
  have hP : va_P D z_cl ((((((([(h0, .inr (5, [.ref q1, .ref q3, .ref q5, .ref q7, .ref q9, .ref q11, .null, .int 0]))] ++ z_W cA (zk_ad q1 u2) (PH (nI 3) (nI 0) (nI 0) (nI 0) (fun _ => 0) (fun _ => 0) d_2 f_2)) ++ z_W cA (zk_ad q3 u4) (PH (nI 3) (nI 0) (nI 0) (nI 0) (fun _ => 0) (fun _ => 0) d_4 f_4)) ++ z_W cA (zk_ad q5 u6) (PH (nI 3) (nI 0) (nI 0) (nI 0) (fun _ => 0) (fun _ => 0) d_6 f_6)) ++ z_W cA (zk_ad q7 u8) [.inr (4, [.int 0, .int 0, .int 0, .int 0, .ref 1, .ref 2, .ref 3, .ref 4, .ref 5, .ref 6, .ref 7]), .inl (0, 64, .inl (fun _ => 0)), .inl (0, 8, .inl (fun _ => 0)), .inl (1, 64, .inr (.inl (fun _ => 0))), .inl (1, 64, .inr (.inl (fun _ => 0))), .inl (0, 8, .inl (fun _ => 0)), .inl (0, 8, .inl (fun _ => 0)), .inl (0, 8, .inl (fun _ => 0))]) ++ z_W cA (zk_ad q9 u10) [.inr (3, [.ref 1, .int 0, .int 0, .int 0, .int 0]), .inl (0, 120, .inl (fun _ => 0))]) ++ z_W cA (zk_ad q11 u12) (LH (fun _ => 0) s_12)) ++ z_W cA (zk_ad q13 u14) [.inr (1, [.ref 1, .int 0]), .inl (0, 16, .inl (fun _ => 0))]) H := hP
  have hD : va_D A ((((((([(h0, .inr (5, [.ref q1, .ref q3, .ref q5, .ref q7, .ref q9, .ref q11, .null, .int 0]))] ++ z_W cA (zk_ad q1 u2) (PH (nI 3) (nI 0) (nI 0) (nI 0) (fun _ => 0) (fun _ => 0) d_2 f_2)) ++ z_W cA (zk_ad q3 u4) (PH (nI 3) (nI 0) (nI 0) (nI 0) (fun _ => 0) (fun _ => 0) d_4 f_4)) ++ z_W cA (zk_ad q5 u6) (PH (nI 3) (nI 0) (nI 0) (nI 0) (fun _ => 0) (fun _ => 0) d_6 f_6)) ++ z_W cA (zk_ad q7 u8) [.inr (4, [.int 0, .int 0, .int 0, .int 0, .ref 1, .ref 2, .ref 3, .ref 4, .ref 5, .ref 6, .ref 7]), .inl (0, 64, .inl (fun _ => 0)), .inl (0, 8, .inl (fun _ => 0)), .inl (1, 64, .inr (.inl (fun _ => 0))), .inl (1, 64, .inr (.inl (fun _ => 0))), .inl (0, 8, .inl (fun _ => 0)), .inl (0, 8, .inl (fun _ => 0)), .inl (0, 8, .inl (fun _ => 0))]) ++ z_W cA (zk_ad q9 u10) [.inr (3, [.ref 1, .int 0, .int 0, .int 0, .int 0]), .inl (0, 120, .inl (fun _ => 0))]) ++ z_W cA (zk_ad q11 u12) (LH (fun _ => 0) s_12)) ++ z_W cA (zk_ad q13 u14) [.inr (1, [.ref 1, .int 0]), .inl (0, 16, .inl (fun _ => 0))]) := hD
  refine va_putF (D := D) (ci := 5) (v := .ref q13) (ty := .object "BallotWays$Paper") (C := RX5) (T := TX5) (N := 8) hx hb hts (z_fields (ci := 5) rfl) tyX5 tyX5_ok nmX5 hown hK hP hD hS 0 rfl rfl 6 (by decide) (hts (.fieldLink RX5 48 "BallotWays" "sheet" "LBallotWays$Paper;") (z_t1 (i := 172) rfl rfl)) (fun _ h9 => h9) rfl hin rfl (by decide +kernel) rfl rfl (Nat.le_of_ble_eq_true rfl) dX5_init_78 (fun H locs hP hD hS => ?_)
  have hP : va_P D z_cl ((((((([(h0, .inr (5, [.ref q1, .ref q3, .ref q5, .ref q7, .ref q9, .ref q11, .ref q13, .int 0]))] ++ z_W cA (zk_ad q1 u2) (PH (nI 3) (nI 0) (nI 0) (nI 0) (fun _ => 0) (fun _ => 0) d_2 f_2)) ++ z_W cA (zk_ad q3 u4) (PH (nI 3) (nI 0) (nI 0) (nI 0) (fun _ => 0) (fun _ => 0) d_4 f_4)) ++ z_W cA (zk_ad q5 u6) (PH (nI 3) (nI 0) (nI 0) (nI 0) (fun _ => 0) (fun _ => 0) d_6 f_6)) ++ z_W cA (zk_ad q7 u8) [.inr (4, [.int 0, .int 0, .int 0, .int 0, .ref 1, .ref 2, .ref 3, .ref 4, .ref 5, .ref 6, .ref 7]), .inl (0, 64, .inl (fun _ => 0)), .inl (0, 8, .inl (fun _ => 0)), .inl (1, 64, .inr (.inl (fun _ => 0))), .inl (1, 64, .inr (.inl (fun _ => 0))), .inl (0, 8, .inl (fun _ => 0)), .inl (0, 8, .inl (fun _ => 0)), .inl (0, 8, .inl (fun _ => 0))]) ++ z_W cA (zk_ad q9 u10) [.inr (3, [.ref 1, .int 0, .int 0, .int 0, .int 0]), .inl (0, 120, .inl (fun _ => 0))]) ++ z_W cA (zk_ad q11 u12) (LH (fun _ => 0) s_12)) ++ z_W cA (zk_ad q13 u14) [.inr (1, [.ref 1, .int 0]), .inl (0, 16, .inl (fun _ => 0))]) H := hP
  have hD : va_D A ((((((([(h0, .inr (5, [.ref q1, .ref q3, .ref q5, .ref q7, .ref q9, .ref q11, .ref q13, .int 0]))] ++ z_W cA (zk_ad q1 u2) (PH (nI 3) (nI 0) (nI 0) (nI 0) (fun _ => 0) (fun _ => 0) d_2 f_2)) ++ z_W cA (zk_ad q3 u4) (PH (nI 3) (nI 0) (nI 0) (nI 0) (fun _ => 0) (fun _ => 0) d_4 f_4)) ++ z_W cA (zk_ad q5 u6) (PH (nI 3) (nI 0) (nI 0) (nI 0) (fun _ => 0) (fun _ => 0) d_6 f_6)) ++ z_W cA (zk_ad q7 u8) [.inr (4, [.int 0, .int 0, .int 0, .int 0, .ref 1, .ref 2, .ref 3, .ref 4, .ref 5, .ref 6, .ref 7]), .inl (0, 64, .inl (fun _ => 0)), .inl (0, 8, .inl (fun _ => 0)), .inl (1, 64, .inr (.inl (fun _ => 0))), .inl (1, 64, .inr (.inl (fun _ => 0))), .inl (0, 8, .inl (fun _ => 0)), .inl (0, 8, .inl (fun _ => 0)), .inl (0, 8, .inl (fun _ => 0))]) ++ z_W cA (zk_ad q9 u10) [.inr (3, [.ref 1, .int 0, .int 0, .int 0, .int 0]), .inl (0, 120, .inl (fun _ => 0))]) ++ z_W cA (zk_ad q11 u12) (LH (fun _ => 0) s_12)) ++ z_W cA (zk_ad q13 u14) [.inr (1, [.ref 1, .int 0]), .inl (0, 16, .inl (fun _ => 0))]) := hD
  refine lv_aload_n hx hb dX5_init_81 rfl (lv_at hl 0 rfl) ?_
  refine lv_iconst (v := 0) hx hb dX5_init_82 (by decide) ?_
  refine va_put (D := D) (ci := 5) (v := .int 0) (ty := .boolean) (C := RX5) (T := TX5) (N := 8) hx hb hts (z_fields (ci := 5) rfl) tyX5 tyX5_ok nmX5 hown hK hP hD hS 0 rfl rfl 7 (by decide) (hts (.fieldLink RX5 52 "BallotWays" "keeps" "Z") (z_t1 (i := 173) rfl rfl)) (fun _ h9 => h9) rfl (by decide +kernel) rfl rfl (Nat.le_of_ble_eq_true rfl) dX5_init_83 (fun H locs hP hD hS => ?_)
  have hP : va_P D z_cl ((((((([(h0, .inr (5, [.ref q1, .ref q3, .ref q5, .ref q7, .ref q9, .ref q11, .ref q13, .int 0]))] ++ z_W cA (zk_ad q1 u2) (PH (nI 3) (nI 0) (nI 0) (nI 0) (fun _ => 0) (fun _ => 0) d_2 f_2)) ++ z_W cA (zk_ad q3 u4) (PH (nI 3) (nI 0) (nI 0) (nI 0) (fun _ => 0) (fun _ => 0) d_4 f_4)) ++ z_W cA (zk_ad q5 u6) (PH (nI 3) (nI 0) (nI 0) (nI 0) (fun _ => 0) (fun _ => 0) d_6 f_6)) ++ z_W cA (zk_ad q7 u8) [.inr (4, [.int 0, .int 0, .int 0, .int 0, .ref 1, .ref 2, .ref 3, .ref 4, .ref 5, .ref 6, .ref 7]), .inl (0, 64, .inl (fun _ => 0)), .inl (0, 8, .inl (fun _ => 0)), .inl (1, 64, .inr (.inl (fun _ => 0))), .inl (1, 64, .inr (.inl (fun _ => 0))), .inl (0, 8, .inl (fun _ => 0)), .inl (0, 8, .inl (fun _ => 0)), .inl (0, 8, .inl (fun _ => 0))]) ++ z_W cA (zk_ad q9 u10) [.inr (3, [.ref 1, .int 0, .int 0, .int 0, .int 0]), .inl (0, 120, .inl (fun _ => 0))]) ++ z_W cA (zk_ad q11 u12) (LH (fun _ => 0) s_12)) ++ z_W cA (zk_ad q13 u14) [.inr (1, [.ref 1, .int 0]), .inl (0, 16, .inl (fun _ => 0))]) H := hP
  have hD : va_D A ((((((([(h0, .inr (5, [.ref q1, .ref q3, .ref q5, .ref q7, .ref q9, .ref q11, .ref q13, .int 0]))] ++ z_W cA (zk_ad q1 u2) (PH (nI 3) (nI 0) (nI 0) (nI 0) (fun _ => 0) (fun _ => 0) d_2 f_2)) ++ z_W cA (zk_ad q3 u4) (PH (nI 3) (nI 0) (nI 0) (nI 0) (fun _ => 0) (fun _ => 0) d_4 f_4)) ++ z_W cA (zk_ad q5 u6) (PH (nI 3) (nI 0) (nI 0) (nI 0) (fun _ => 0) (fun _ => 0) d_6 f_6)) ++ z_W cA (zk_ad q7 u8) [.inr (4, [.int 0, .int 0, .int 0, .int 0, .ref 1, .ref 2, .ref 3, .ref 4, .ref 5, .ref 6, .ref 7]), .inl (0, 64, .inl (fun _ => 0)), .inl (0, 8, .inl (fun _ => 0)), .inl (1, 64, .inr (.inl (fun _ => 0))), .inl (1, 64, .inr (.inl (fun _ => 0))), .inl (0, 8, .inl (fun _ => 0)), .inl (0, 8, .inl (fun _ => 0)), .inl (0, 8, .inl (fun _ => 0))]) ++ z_W cA (zk_ad q9 u10) [.inr (3, [.ref 1, .int 0, .int 0, .int 0, .int 0]), .inl (0, 120, .inl (fun _ => 0))]) ++ z_W cA (zk_ad q11 u12) (LH (fun _ => 0) s_12)) ++ z_W cA (zk_ad q13 u14) [.inr (1, [.ref 1, .int 0]), .inl (0, 16, .inl (fun _ => 0))]) := hD
  simp only [zk_W_eq] at hP hD
  have hP : va_P D z_cl (zk_W cA (zk_ad h0 [q1, u2.getD 0 0, u2.getD 1 0, u2.getD 2 0, u2.getD 3 0, q3, u4.getD 0 0, u4.getD 1 0, u4.getD 2 0, u4.getD 3 0, q5, u6.getD 0 0, u6.getD 1 0, u6.getD 2 0, u6.getD 3 0, q7, u8.getD 0 0, u8.getD 1 0, u8.getD 2 0, u8.getD 3 0, u8.getD 4 0, u8.getD 5 0, u8.getD 6 0, q9, u10.getD 0 0, q11, u12.getD 0 0, u12.getD 1 0, q13, u14.getD 0 0]) 0 (CH (nI 3) (nI 0) (nI 0) (nI 0) (fun _ => 0) (fun _ => 0) d_2 f_2 (nI 3) (nI 0) (nI 0) (nI 0) (fun _ => 0) (fun _ => 0) d_4 f_4 (nI 3) (nI 0) (nI 0) (nI 0) (fun _ => 0) (fun _ => 0) d_6 f_6 0 0 0 0 (fun _ => 0) (fun _ => 0) (fun _ => 0) (fun _ => 0) (fun _ => 0) (fun _ => 0) (fun _ => 0) (fun _ => 0) 0 0 0 0 (fun _ => 0) s_12 (fun _ => 0) 0 0)) H := hP
  have hD : va_D A (zk_W cA (zk_ad h0 [q1, u2.getD 0 0, u2.getD 1 0, u2.getD 2 0, u2.getD 3 0, q3, u4.getD 0 0, u4.getD 1 0, u4.getD 2 0, u4.getD 3 0, q5, u6.getD 0 0, u6.getD 1 0, u6.getD 2 0, u6.getD 3 0, q7, u8.getD 0 0, u8.getD 1 0, u8.getD 2 0, u8.getD 3 0, u8.getD 4 0, u8.getD 5 0, u8.getD 6 0, q9, u10.getD 0 0, q11, u12.getD 0 0, u12.getD 1 0, q13, u14.getD 0 0]) 0 (CH (nI 3) (nI 0) (nI 0) (nI 0) (fun _ => 0) (fun _ => 0) d_2 f_2 (nI 3) (nI 0) (nI 0) (nI 0) (fun _ => 0) (fun _ => 0) d_4 f_4 (nI 3) (nI 0) (nI 0) (nI 0) (fun _ => 0) (fun _ => 0) d_6 f_6 0 0 0 0 (fun _ => 0) (fun _ => 0) (fun _ => 0) (fun _ => 0) (fun _ => 0) (fun _ => 0) (fun _ => 0) (fun _ => 0) 0 0 0 0 (fun _ => 0) s_12 (fun _ => 0) 0 0)) := hD
  rw [← zk_W_eq] at hP hD
  exact W.vret hx hb hr (fun t ht hW => ⟨⟨([q1, u2.getD 0 0, u2.getD 1 0, u2.getD 2 0, u2.getD 3 0, q3, u4.getD 0 0, u4.getD 1 0, u4.getD 2 0, u4.getD 3 0, q5, u6.getD 0 0, u6.getD 1 0, u6.getD 2 0, u6.getD 3 0, q7, u8.getD 0 0, u8.getD 1 0, u8.getD 2 0, u8.getD 3 0, u8.getD 4 0, u8.getD 5 0, u8.getD 6 0, q9, u10.getD 0 0, q11, u12.getD 0 0, u12.getD 1 0, q13, u14.getD 0 0], CH (nI 3) (nI 0) (nI 0) (nI 0) (fun _ => 0) (fun _ => 0) d_2 f_2 (nI 3) (nI 0) (nI 0) (nI 0) (fun _ => 0) (fun _ => 0) d_4 f_4 (nI 3) (nI 0) (nI 0) (nI 0) (fun _ => 0) (fun _ => 0) d_6 f_6 0 0 0 0 (fun _ => 0) (fun _ => 0) (fun _ => 0) (fun _ => 0) (fun _ => 0) (fun _ => 0) (fun _ => 0) (fun _ => 0) 0 0 0 0 (fun _ => 0) s_12 (fun _ => 0) 0 0), rfl, ⟨_, _, _, _, _, _, _, rfl, hI_2, hI_4, hI_6, hs_12⟩, by rw [ht]; exact hP, va_K.moved hW.alike hK, hD⟩, hS.F ht⟩) hS.2.2 dX5_init_86 hlocks
