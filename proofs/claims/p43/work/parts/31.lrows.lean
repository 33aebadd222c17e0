/-! the law's own rows: a call on the left of two worlds -/
theorem zl_L {α : Type} (a b : List α) : (List.range a.length).map (fun i => (a ++ b)[i]?) = a.map some := by
  rw [← z_all a]
  apply List.map_congr_left
  intro i hi
  rw [List.getElem?_append_left (List.mem_range.mp hi)]
theorem zl_R {α : Type} (a b : List α) : ((List.range b.length).map (fun i => i + a.length)).map (fun i => (a ++ b)[i]?) = b.map some := by
  rw [← z_all b, List.map_map]
  apply List.map_congr_left
  intro i hi
  show (a ++ b)[i + a.length]? = b[i]?
  rw [List.getElem?_append_right (by omega)]
  congr 1
  omega
theorem zl_nd (k : Nat) : ∀ (l : List Nat), l.Nodup → va_nd (l.map (fun i => i + k)) = true
  | [], _ => rfl
  | a :: l, h => by
    obtain ⟨h1, h2⟩ := List.nodup_cons.mp h
    show (decide (a + k ∉ l.map (fun i => i + k)) && va_nd (l.map (fun i => i + k))) = true
    rw [zl_nd k l h2, Bool.and_true, decide_eq_true_eq]
    intro q
    obtain ⟨b, hb, e⟩ := List.mem_map.mp q
    have : b = a := by omega
    exact h1 (this ▸ hb)
theorem zl_nd0 : ∀ (l : List Nat), l.Nodup → va_nd l = true
  | [], _ => rfl
  | a :: l, h => by
    obtain ⟨h1, h2⟩ := List.nodup_cons.mp h
    show (decide (a ∉ l) && va_nd l) = true
    rw [zl_nd0 l h2, Bool.and_true, decide_eq_true_eq]
    exact h1
theorem zl_Pl {D : va_G} {cl : List vw_C} {a b : va_W} {H : Heap} (h : va_P D cl (a ++ b) H) : va_P D cl a H := fun k q hk => h k q (by rw [List.getElem?_append_left]; exact hk; rcases Nat.lt_or_ge k a.length with h | h; exact h; rw [List.getElem?_eq_none h] at hk; cases hk)
theorem zl_Dl {A : Nat → Prop} {a b : va_W} (h : va_D A (a ++ b)) : va_D A a := h.sub (List.range a.length) (zl_nd0 _ List.nodup_range) (zl_L a b)
theorem zl_GoodV {own : String} {idx : Nat} {y : z_M} {C : String} (h1 : Cond.methodLink own idx y.1 ∈ z_AW) (h2 : Cond.instanceMethod y.1 ∈ z_AW) (h3 : Cond.selects C y.1 y.1 ∈ z_AW) (h4 : Cond.initialized C ∈ z_AW) (h5 : Cond.code y.1 y.2.1 y.2.2.1 y.2.2.2.1 ∈ z_AW) : GoodIn z_AW (wsV own idx C y.1 (Cond.code y.1 y.2.1 y.2.2.1 y.2.2.2.1 :: z_AW)) := by
  intro w hw
  refine z_AW_good w ?_
  unfold wsV at hw
  simp only [List.cons_append, List.nil_append, List.mem_cons] at hw
  rcases hw with rfl | rfl | rfl | rfl | rfl | hw
  · exact h1
  · exact h2
  · exact h3
  · exact h4
  · exact h5
  · exact hw
theorem zl_join {A0 : Nat → Prop} {D : va_G} {cl : List vw_C} {a b a1 : va_W} {H H1 : Heap} (hP : va_P D cl (a ++ b) H) (hD : va_D A0 (a ++ b)) (hk : ∀ q : Nat, q < H.size → ¬ va_A a H.size q → H1[q]? = H[q]?) (hF : ∀ q, va_A a H.size q → A0 q) (hP1 : va_P D cl a1 H1) (hD1 : va_D (va_A a H.size) a1) : va_P D cl (b ++ a1) H1 ∧ va_D A0 (b ++ a1) :=
  va_join hP hD (List.range a.length) ((List.range b.length).map (fun i => i + a.length)) (zl_L a b) (zl_R a b) (zl_nd a.length _ List.nodup_range) (fun i hi q => by
    obtain ⟨j, _, rfl⟩ := List.mem_map.mp hi
    have := List.mem_range.mp q
    omega) hk hF hP1 hD1
section ZL
variable {p : Program} {l : Launch} {e : Env} {R : Room} {s : State} {m : MethodId} {args : Array Value} {below : List Frame} {meth : Method} {c : Code} {Q : State → Prop}
theorem zl_call {cc : ByteArray} {own C : String} {D : va_G} {cA : Nat → ClassId} {ad : Nat → Nat} {A : Nat → Prop} {H0 H : Heap} {locs : List Loc} {cells slots nL pc idx b ci d y N : Nat} {T : u_T} {fs : List Value} {ls : Array Slot} {av rest : List Value} {h : List z_E} {B : va_W} {P : z_T} {qy : z_M}
    (hx : p.tables.exec = Jvm.exec) (hb : c.code = cc) (hml : c.maxLocals = nL) (hown : s.vm.findClass own = some m.cls) (hts : ∀ w ∈ z_AW, w.before args s = true) (hN : z_N s) (hK : va_K D z_cl (z_tys cA) s) (hRf : d + 1 ≤ R.frames) (hRl : 64 * (d + 1) ≤ R.locals) (hcs : cells ≤ R.cells ∧ slots ≤ R.slots) (hls : ls.size = nL)
    (hA : ∀ q, H0.size ≤ q → A q) (hP : va_P D z_cl (z_W cA ad h ++ B) H) (hD : va_D A (z_W cA ad h ++ B)) (hS : va_S A H0 H locs)
    (hC : z_CAL d y (.ref b :: av) h P) (hy : z_mt[y]? = some qy) (hcl : z_cl[ci]? = some (C, T, N)) (hrc : h[b]? = some (.inr (ci, fs)))
    (g1 : qy.1.cls = C) (g2 : Cond.methodLink own idx qy.1 ∈ z_AW) (g3 : Cond.instanceMethod qy.1 ∈ z_AW) (g4 : Cond.selects C qy.1 qy.1 ∈ z_AW) (g5 : Cond.initialized C ∈ z_AW) (hnp : (parseMethodDescriptor qy.1.desc).map (fun d => d.parameters.length) = some av.length)
    (hcat : (rest.map fun v => v.category).sum ≤ 8) (hd : decode cc pc = .ok (.invokevirtual idx, 3))
    (kk : ∀ (r : Option Value) (h' : List z_E) (H1 : Heap) (locs1 : List Loc), P r h' → va_P D z_cl (B ++ z_W cA ad h') H1 → va_D A (B ++ z_W cA ad h') → va_S A H0 H1 locs1 → W p l e R s m args below meth c H1 locs1 cells slots Q (F0 m (pc + 3) ls (r.toList ++ rest))) :
    W p l e R s m args below meth c H locs cells slots Q (F0 m pc ls ((av.map (z_re ad)).reverse ++ .ref (ad b) :: rest)) := by
  have hF : ∀ q, va_A (z_W cA ad h) H.size q → A q := va_free hD hS hA (List.range (z_W cA ad h).length) (zl_L _ _)
  have hPl := zl_Pl hP
  have hDl := zl_Dl hD
  have hyf := z_m_of hy
  have hM := z_snd l D cA d y _ h P hC qy hy ad H.size
  have hr := va_runV (As := av.map (z_re ad)) (b := ad b) (rest := rest) (g := F0 m pc ls ((av.map (z_re ad)).reverse ++ .ref (ad b) :: rest)) (own := own) (index := idx) (C := C) (nL := nL) (cells := cells) (slots := slots) (H := H) (locs := locs) (below := below) (meth := meth) (e := e) (R := R) ⟨hx, hb, hml, hown, hts⟩ hM (cwV av.length hts (zl_GoodV g2 g3 g4 g5 hyf.1) rfl rfl rfl ⟨g1, hyf.2.2.2.2.1.1, hyf.2.2.2.2.1.2, hnp⟩ ⟨hRf, by show 8 + (qy.2.2.1 + 11) + 64 * d ≤ R.locals; have := hyf.2.2.1; omega⟩) ⟨z_blind, va_recv hK hPl hcl (z_W_get hrc), z_pre hPl hDl hK hN⟩ rfl (by simp) hls rfl (lv_room hcat) hd ⟨hcs.1, hcs.2⟩
  generalize qy.2.2.2.1 = ret at hr
  unfold z_Q at hr
  split at hr
  · refine va_callv hr hS (fun q _ h => hF q h) hF (fun u t H1 locs1 ht hvm hw hB hz1 hk1 hS1 => ?_)
    obtain ⟨hP1, -, hD1⟩ := hB
    rw [ht] at hP1
    obtain ⟨hP2, hD2⟩ := zl_join hP hD hk1 hF hP1 hD1
    exact kk none u H1 locs1 hw hP2 hD2 hS1
  · refine va_calll hr hS (fun q _ h => hF q h) hF (fun r u t H1 locs1 ht hvm hw hB hz1 hk1 hS1 => ?_)
    obtain ⟨hP1, -, hD1⟩ := hB
    rw [ht] at hP1
    obtain ⟨hP2, hD2⟩ := zl_join hP hD hk1 hF hP1 hD1
    exact kk (some (.long r)) u H1 locs1 hw hP2 hD2 hS1
  · refine va_calli hr hS (fun q _ h => hF q h) hF (fun r u t H1 locs1 ht hvm hw hB hz1 hk1 hS1 => ?_)
    obtain ⟨hP1, -, hD1⟩ := hB
    rw [ht] at hP1
    obtain ⟨hP2, hD2⟩ := zl_join hP hD hk1 hF hP1 hD1
    exact kk (some (.int r)) u H1 locs1 hw hP2 hD2 hS1
end ZL
/-! constructors -/
theorem z_word_m {pos : Nat} {w : Cond} (h : lw_tbl[pos]? = some w) (g : goodWord w = true) : w ∈ z_AW := z_lw (List.mem_of_getElem? h) g
theorem z_tb {w : Cond} (h : w ∈ tables_1) (g : goodWord w = true) : w ∈ z_AW := z_lw (List.mem_append_right _ h) g
theorem z_t1 {i : Nat} {w : Cond} (h : tables_1_1[i]? = some w) (g : goodWord w = true) : w ∈ z_AW := z_tb (show w ∈ tables_1_1 ++ (tables_1_2 ++ (tables_1_3 ++ tables_1_4)) from (List.mem_append_left _ (List.mem_of_getElem? h))) g
theorem z_t2 {i : Nat} {w : Cond} (h : tables_1_2[i]? = some w) (g : goodWord w = true) : w ∈ z_AW := z_tb (show w ∈ tables_1_1 ++ (tables_1_2 ++ (tables_1_3 ++ tables_1_4)) from (List.mem_append_right _ (List.mem_append_left _ (List.mem_of_getElem? h)))) g
theorem z_t3 {i : Nat} {w : Cond} (h : tables_1_3[i]? = some w) (g : goodWord w = true) : w ∈ z_AW := z_tb (show w ∈ tables_1_1 ++ (tables_1_2 ++ (tables_1_3 ++ tables_1_4)) from (List.mem_append_right _ (List.mem_append_right _ (List.mem_append_left _ (List.mem_of_getElem? h))))) g
theorem z_t4 {i : Nat} {w : Cond} (h : tables_1_4[i]? = some w) (g : goodWord w = true) : w ∈ z_AW := z_tb (show w ∈ tables_1_1 ++ (tables_1_2 ++ (tables_1_3 ++ tables_1_4)) from (List.mem_append_right _ (List.mem_append_right _ (List.mem_append_right _ (List.mem_of_getElem? h))))) g
theorem zl_arr {args : Array Value} {s : State} {ty : FieldType} (h : (Cond.arrayClass ty).before args s = true) : ∃ cA : ClassId, s.vm.findClass ("[" ++ ty.toString) = some cA ∧ ArrOfT s cA ty := by
  obtain ⟨cA, kA, comp, h1, h2, h3⟩ := Cond.arrayClass_spec h
  exact ⟨cA, h1, fun n z => ⟨fun k h => (by cases h), kA, h2, comp, h3⟩⟩
theorem zl_tys {D : va_G} {args : Array Value} {s : State} (hts : ∀ w ∈ z_AW, w.before args s = true) (hc : ∀ (k : Nat) (q : vw_C), z_cl[k]? = some q → u_Kn s q.1 q.2.1 q.2.2 (D.1 k) (D.2 k)) (h1 : Cond.arrayClass .int ∈ z_AW) (h2 : Cond.arrayClass .long ∈ z_AW) (h3 : Cond.arrayClass .byte ∈ z_AW) (h4 : (Cond.arrayOver (.array .int)).before args s = true) : ∃ cA : Nat → ClassId, va_K D z_cl (z_tys cA) s := by
  obtain ⟨c1, a1, b1⟩ := zl_arr (hts _ h1)
  obtain ⟨c2, a2, b2⟩ := zl_arr (hts _ h2)
  obtain ⟨c3, a3, b3⟩ := zl_arr (hts _ h3)
  obtain ⟨comp, c4, kA, f1, -, f2, f3, f4⟩ := arrayOverA_spec h4
  refine ⟨fun k => if k = 0 then c1 else if k = 1 then c2 else if k = 2 then c3 else c4, hc, ?_⟩
  intro k q hq
  match k, hq with
  | 0, hq => cases hq; exact ⟨b1, a1⟩
  | 1, hq => cases hq; exact ⟨b2, a2⟩
  | 2, hq => cases hq; exact ⟨b3, a3⟩
  | 3, hq => cases hq; exact ⟨fun n z => ⟨fun k h => (by cases h), kA, f2, comp, f3⟩, f4⟩
  | k + 4, hq => simp at hq
section ZN
variable {p : Program} {l : Launch} {e : Env} {R : Room} {s : State} {m : MethodId} {args : Array Value} {below : List Frame} {meth : Method} {c : Code} {Q : State → Prop}
theorem zl_newa {cc : ByteArray} {D : va_G} {cA : Nat → ClassId} {A : Nat → Prop} {H0 H : Heap} {locs : List Loc} {cells slots pc N' : Nat} {ls : Array Slot} {rest : List Value} {ws : va_W} {n : Int32} {a0 : vp_A} (t : Nat) {atype : ArrayType} (hx : p.tables.exec = Jvm.exec) (hb : c.code = cc) (harr : (Cond.arrayClass (newarray.typeOf atype)).before args s = true) (ht : (z_tys cA)[t]? = some (cA t, newarray.typeOf atype)) (hK : va_K D z_cl (z_tys cA) s) (hP : va_P D z_cl ws H) (hD : va_D A ws) (hS : va_S A H0 H locs) (hA : ∀ q, H0.size ≤ q → A q)
    (ha : ∀ c : ClassId, vp_cell c a0 = arrV c N' (fun _ => defaultValue (newarray.typeOf atype))) (hn : ¬ n < 0) (hN : n.toNatClampNeg = N') (hbytes : N' * componentBytes (newarray.typeOf atype) ≤ 536870912) (hcells : cells + 1 ≤ R.cells) (hslots : slots + N' ≤ R.slots) (hdg : decode cc pc = .ok (.newarray atype, 2))
    (kk : ∀ (q : Nat) (H1 : Heap), va_P D z_cl (ws ++ [(q, .inl (cA t, a0))]) H1 → va_D A (ws ++ [(q, .inl (cA t, a0))]) → va_S A H0 H1 locs → W p l e R s m args below meth c H1 locs (cells + 1) (slots + N') Q (F0 m (pc + 2) ls (.ref q :: rest))) : W p l e R s m args below meth c H locs cells slots Q (F0 m pc ls (.int n :: rest)) := by
  refine va_newa hx hb harr rfl hK hP hD hS hA ha hn hN hbytes hcells hslots hdg (fun q c2 H1 hK2 hP2 hD2 hS2 => ?_)
  have h1 := (hK2.2 4 (c2, newarray.typeOf atype) rfl).2
  have h2 := (hK.2 t _ ht).2
  have ec : c2 = cA t := by
    cases atype <;> exact Option.some.inj (h1.symm.trans h2)
  subst ec
  exact kk q H1 hP2 hD2 hS2
end ZN
theorem zl_joinR {A0 : Nat → Prop} {D : va_G} {cl : List vw_C} {a b a1 : va_W} {H H1 : Heap} (hP : va_P D cl (b ++ a) H) (hD : va_D A0 (b ++ a)) (hk : ∀ q : Nat, q < H.size → ¬ va_A a H.size q → H1[q]? = H[q]?) (hF : ∀ q, va_A a H.size q → A0 q) (hP1 : va_P D cl a1 H1) (hD1 : va_D (va_A a H.size) a1) : va_P D cl (b ++ a1) H1 ∧ va_D A0 (b ++ a1) :=
  va_join hP hD ((List.range a.length).map (fun i => i + b.length)) (List.range b.length) (zl_R b a) (zl_L b a) (zl_nd0 _ List.nodup_range) (fun i hi q => by
    obtain ⟨j, _, rfl⟩ := List.mem_map.mp q
    have := List.mem_range.mp hi
    omega) hk hF hP1 hD1
theorem zl_Pr {D : va_G} {cl : List vw_C} {a b : va_W} {H : Heap} (h : va_P D cl (b ++ a) H) : va_P D cl a H := fun k q hk => h (k + b.length) q (by rw [List.getElem?_append_right (by omega), Nat.add_sub_cancel]; exact hk)
theorem zl_Dr {A : Nat → Prop} {a b : va_W} (h : va_D A (b ++ a)) : va_D A a := h.sub ((List.range a.length).map (fun i => i + b.length)) (zl_nd b.length _ List.nodup_range) (zl_R b a)
/-- a world, cell by cell -/
def zk_W (cA : Nat → ClassId) (ad : Nat → Nat) : Nat → List z_E → va_W
  | _, [] => []
  | k, e :: t => (ad k, z_ce cA ad e) :: zk_W cA ad (k + 1) t
theorem zk_W_go (cA : Nat → ClassId) (ad : Nat → Nat) : ∀ (h : List z_E) (j : Nat), h.mapIdx (fun k e => (ad (k + j), z_ce cA ad e)) = zk_W cA ad j h
  | [], _ => rfl
  | e :: t, j => by
    rw [List.mapIdx_cons, Nat.zero_add]
    show _ = (ad j, z_ce cA ad e) :: zk_W cA ad (j + 1) t
    rw [← zk_W_go cA ad t (j + 1)]
    congr 1
    refine congrArg (fun f => t.mapIdx f) ?_
    funext k e
    rw [Nat.add_assoc, Nat.add_comm 1 j]
theorem zk_W_eq (cA : Nat → ClassId) (ad : Nat → Nat) (h : List z_E) : z_W cA ad h = zk_W cA ad 0 h := zk_W_go cA ad h 0
/-- the cells of an object and of what its constructor made -/
def zk_ad (h0 : Nat) (u : List Nat) : Nat → Nat := fun k => (h0 :: u).getD k 0
/-- a constructor's contract -/
def zk_C (l : Launch) (y : MethodName) (cY : ByteArray) (ci : Nat) (fs : List Value) (fr lo mc ms : Nat) (Q : List z_E → Prop) : Prop := ∀ (D : va_G) (cA : Nat → ClassId) (h0 sz : Nat), Met l y (Cond.code y cY 1 none :: z_AW) ({ frames := fr, cells := mc, slots := ms, locals := lo }) (va_Pc [.ref h0] (fun U => U.heap.size = sz ∧ va_P D z_cl [(h0, .inr (ci, fs))] U.heap ∧ va_K D z_cl (z_tys cA) U ∧ va_D (fun _ => True) [(h0, .inr (ci, fs))] ∧ z_N U)) (va_Qv (fun u : List Nat × List z_E => Q u.2) (fun u t => va_P D z_cl (z_W cA (zk_ad h0 u.1) u.2) t.heap ∧ va_K D z_cl (z_tys cA) t ∧ va_D (va_A [(h0, .inr (ci, fs))] sz) (z_W cA (zk_ad h0 u.1) u.2)) (va_A [(h0, .inr (ci, fs))] sz)) mc ms (va_A [(h0, .inr (ci, fs))] sz)
theorem zl_GoodI {y : MethodName} {cY : ByteArray} (h5 : Cond.code y cY 1 none ∈ z_AW) : GoodIn z_AW (Cond.code y cY 1 none :: z_AW) := by
  intro w hw
  refine z_AW_good w ?_
  rcases List.mem_cons.mp hw with rfl | hw
  · exact h5
  · exact hw
theorem zl_GoodS {own : String} {idx : Nat} {y : z_M} (h1 : Cond.methodLink own idx y.1 ∈ z_AW) (h2 : Cond.static y.1 ∈ z_AW) (h4 : Cond.initialized y.1.cls ∈ z_AW) (h5 : Cond.code y.1 y.2.1 y.2.2.1 y.2.2.2.1 ∈ z_AW) : GoodIn z_AW (va_wsS own idx y.1 (Cond.code y.1 y.2.1 y.2.2.1 y.2.2.2.1 :: z_AW)) := by
  intro w hw
  refine z_AW_good w ?_
  unfold va_wsS at hw
  simp only [List.cons_append, List.nil_append, List.mem_cons] at hw
  rcases hw with rfl | rfl | rfl | rfl | hw
  · exact h1
  · exact h2
  · exact h4
  · exact h5
  · exact hw
section ZI
variable {p : Program} {l : Launch} {e : Env} {R : Room} {s : State} {m : MethodId} {args : Array Value} {below : List Frame} {meth : Method} {c : Code} {Q : State → Prop}
/-- the constructor of the newest object -/
theorem zl_init {cc cY : ByteArray} {own : String} {y : MethodName} {D : va_G} {cA : Nat → ClassId} {A : Nat → Prop} {H0 H : Heap} {locs : List Loc} {cells slots nL pc idx b ci fr lo mc ms : Nat} {fs : List Value} {ls : Array Slot} {rest : List Value} {B : va_W} {Qc : List z_E → Prop}
    (hx : p.tables.exec = Jvm.exec) (hb : c.code = cc) (hml : c.maxLocals = nL) (hown : s.vm.findClass own = some m.cls) (hts : ∀ w ∈ z_AW, w.before args s = true) (hN : z_N s) (hK : va_K D z_cl (z_tys cA) s)
    (hA : ∀ q, H0.size ≤ q → A q) (hP : va_P D z_cl (B ++ [(b, .inr (ci, fs))]) H) (hD : va_D A (B ++ [(b, .inr (ci, fs))])) (hS : va_S A H0 H locs)
    (hC : zk_C l y cY ci fs fr lo mc ms Qc) (g1 : Cond.code y cY 1 none ∈ z_AW) (g2 : Cond.initialized y.cls ∈ z_AW) (g3 : Cond.methodLink own idx y ∈ z_AW) (g4 : Cond.instanceMethod y ∈ z_AW) (hy : y.name = "<init>") (hnp : y.cls ≠ "java/lang/invoke/MethodHandle" ∧ y.cls ≠ "java/lang/invoke/VarHandle" ∧ (parseMethodDescriptor y.desc).map (fun d => d.parameters.length) = some 0)
    (hR : fr + 1 ≤ R.frames ∧ 8 + (1 + 11) + lo ≤ R.locals) (hcs : cells + mc ≤ R.cells ∧ slots + ms ≤ R.slots) (hls : ls.size = nL) (hcat : (rest.map fun v => v.category).sum ≤ 8) (hd : decode cc pc = .ok (.invokespecial idx, 3))
    (kk : ∀ (u : List Nat) (h' : List z_E) (H1 : Heap) (locs1 : List Loc), Qc h' → va_P D z_cl (B ++ z_W cA (zk_ad b u) h') H1 → va_D A (B ++ z_W cA (zk_ad b u) h') → va_S A H0 H1 locs1 → W p l e R s m args below meth c H1 locs1 (cells + mc) (slots + ms) Q (F0 m (pc + 3) ls rest)) :
    W p l e R s m args below meth c H locs cells slots Q (F0 m pc ls (.ref b :: rest)) := by
  have hPc := zl_Pr hP
  have hDc := zl_Dr hD
  have hF : ∀ q, va_A [(b, .inr (ci, fs))] H.size q → A q := va_free hD hS hA ((List.range 1).map (fun i => i + B.length)) (zl_R B _)
  refine va_callv (va_runI (As := []) (rest := rest) ⟨hx, hb, hml, hown, hts⟩ (hC D cA b H.size) (cwI 0 hts (zl_GoodI g1) rfl rfl rfl (hts _ g2) (hts _ g3) (hts _ g4) hy hnp hR) ⟨fun a U g mk q => by obtain ⟨q0, q1, qP, qK, qD, qN⟩ := q; exact ⟨q0, q1, qP, va_K.moved (u := U) (U := U.calling g mk a) (Vm.Alike.refl U.vm) qK, qD, z_N_same (u := U) (U := U.calling g mk a) rfl qN⟩, fun U hU hW => ⟨rfl, by rw [hU], by rw [hU]; exact hPc, va_K.moved hW.alike hK, hDc.weaken (fun _ _ _ _ => trivial), z_N_warm hW hN⟩⟩ rfl rfl hls rfl (lv_room hcat) hd hcs) hS (fun q _ h => hF q h) hF (fun u t H1 locs1 ht hvm hw hB hz1 hk1 hS1 => ?_)
  obtain ⟨hP1, -, hD1⟩ := hB
  rw [ht] at hP1
  obtain ⟨hP2, hD2⟩ := zl_joinR hP hD hk1 hF hP1 hD1
  exact kk u.1 u.2 H1 locs1 hw hP2 hD2 hS1
/-- a static method of the tables, over the whole world -/
theorem zl_callS {cc : ByteArray} {own : String} {D : va_G} {cA : Nat → ClassId} {ad : Nat → Nat} {A : Nat → Prop} {H0 H : Heap} {locs : List Loc} {cells slots nL pc idx d y : Nat} {ls : Array Slot} {av rest : List Value} {h : List z_E} {P : z_T} {qy : z_M}
    (hx : p.tables.exec = Jvm.exec) (hb : c.code = cc) (hml : c.maxLocals = nL) (hown : s.vm.findClass own = some m.cls) (hts : ∀ w ∈ z_AW, w.before args s = true) (hN : z_N s) (hK : va_K D z_cl (z_tys cA) s) (hRf : d + 1 ≤ R.frames) (hRl : 64 * (d + 1) ≤ R.locals) (hcs : cells ≤ R.cells ∧ slots ≤ R.slots) (hls : ls.size = nL)
    (hA : ∀ q, H0.size ≤ q → A q) (hP : va_P D z_cl (z_W cA ad h) H) (hD : va_D A (z_W cA ad h)) (hS : va_S A H0 H locs)
    (hC : z_CAL d y av h P) (hy : z_mt[y]? = some qy) (g1 : qy.2.2.2.1 = none)
    (g2 : Cond.methodLink own idx qy.1 ∈ z_AW) (g3 : Cond.static qy.1 ∈ z_AW) (g5 : Cond.initialized qy.1.cls ∈ z_AW) (hnp : (parseMethodDescriptor qy.1.desc).map (fun d => d.parameters.length) = some av.length)
    (hcat : (rest.map fun v => v.category).sum ≤ 8) (hd : decode cc pc = .ok (.invokestatic idx, 3))
    (kk : ∀ (h' : List z_E) (H1 : Heap) (locs1 : List Loc), P none h' → va_P D z_cl (z_W cA ad h') H1 → va_D A (z_W cA ad h') → va_S A H0 H1 locs1 → W p l e R s m args below meth c H1 locs1 cells slots Q (F0 m (pc + 3) ls rest)) :
    W p l e R s m args below meth c H locs cells slots Q (F0 m pc ls ((av.map (z_re ad)).reverse ++ rest)) := by
  have hF : ∀ q, va_A (z_W cA ad h) H.size q → A q := va_free hD hS hA (List.range (z_W cA ad h).length) (z_all _)
  have hyf := z_m_of hy
  have hM := z_snd l D cA d y _ h P hC qy hy ad H.size
  have hr := va_runS (As := av.map (z_re ad)) (rest := rest) (g := F0 m pc ls ((av.map (z_re ad)).reverse ++ rest)) (own := own) (index := idx) (nL := nL) (cells := cells) (slots := slots) (H := H) (locs := locs) (below := below) (meth := meth) (e := e) (R := R) ⟨hx, hb, hml, hown, hts⟩ hM (va_cwS av.length hts (zl_GoodS g2 g3 g5 hyf.1) rfl rfl rfl ⟨hyf.2.2.2.2.1.1, hyf.2.2.2.2.1.2, hnp⟩ ⟨hRf, by show 8 + (qy.2.2.1 + 11) + 64 * d ≤ R.locals; have := hyf.2.2.1; omega⟩) ⟨z_blind, z_pre hP hD hK hN⟩ rfl (by simp) hls rfl (lv_room hcat) hd ⟨hcs.1, hcs.2⟩
  rw [g1] at hr
  unfold z_Q at hr
  dsimp only at hr
  refine va_callv hr hS (fun q _ h => hF q h) hF (fun u t H1 locs1 ht hvm hw hB hz1 hk1 hS1 => ?_)
  obtain ⟨hP1, hD1⟩ := z_back hP hD hF ht hB hk1
  exact kk u H1 locs1 hw hP1 hD1 hS1
end ZI
