/-! the law's machine: calls, ends -/
theorem y_GoodU {own C owner : String} {idx : Nat} {x : MethodName} {y : z_M} (h1 : Cond.methodLink own idx x ∈ z_AW) (h2 : Cond.sameMethod x.cls owner x.name x.desc ∈ z_AW) (h3 : Cond.selects C x y.1 ∈ z_AW) (h4 : Cond.instanceMethod y.1 ∈ z_AW) (h5 : Cond.initialized y.1.cls ∈ z_AW) (h6 : Cond.code y.1 y.2.1 y.2.2.1 y.2.2.2.1 ∈ z_AW) : GoodIn z_AW (va_wsU own idx C owner x y.1 (Cond.code y.1 y.2.1 y.2.2.1 y.2.2.2.1 :: z_AW)) := by
  intro w hw
  refine z_AW_good w ?_
  unfold va_wsU at hw
  simp only [List.cons_append, List.nil_append, List.mem_cons] at hw
  rcases hw with rfl | rfl | rfl | rfl | rfl | rfl | hw
  · exact h1
  · exact h2
  · exact h3
  · exact h4
  · exact h5
  · exact h6
  · exact hw
theorem y_GoodSU {own : String} {idx : Nat} {y : z_M} (h1 : Cond.methodLink own idx y.1 ∈ z_AW) (h2 : Cond.sameMethod y.1.cls y.1.cls y.1.name y.1.desc ∈ z_AW) (h3 : Cond.superclass own y.1.cls ∈ z_AW) (h4 : Cond.instanceMethod y.1 ∈ z_AW) (h5 : Cond.initialized y.1.cls ∈ z_AW) (h6 : Cond.code y.1 y.2.1 y.2.2.1 y.2.2.2.1 ∈ z_AW) : GoodIn z_AW (va_wsSU own idx y.1 (Cond.code y.1 y.2.1 y.2.2.1 y.2.2.2.1 :: z_AW)) := by
  intro w hw
  refine z_AW_good w ?_
  unfold va_wsSU at hw
  simp only [List.cons_append, List.nil_append, List.mem_cons] at hw
  rcases hw with rfl | rfl | rfl | rfl | rfl | rfl | hw
  · exact h1
  · exact h2
  · exact h3
  · exact h4
  · exact h5
  · exact h6
  · exact hw
theorem y_GoodC {y : z_M} (h5 : Cond.code y.1 y.2.1 y.2.2.1 y.2.2.2.1 ∈ z_AW) : GoodIn z_AW (Cond.code y.1 y.2.1 y.2.2.1 y.2.2.2.1 :: z_AW) := by
  intro w hw
  refine z_AW_good w ?_
  rcases List.mem_cons.mp hw with rfl | hw
  · exact h5
  · exact hw
theorem y_selP {C : String} {z y : MethodName} {s : State} {args : Array Value} (hz : (Cond.selects C z z).before args s = true) (hcl : z.cls = y.cls) (hy : y.cls ≠ "java/lang/invoke/MethodHandle" ∧ y.cls ≠ "java/lang/invoke/VarHandle") (hpriv : (Cond.privateMethod y).before args s = true) (hinst : (Cond.instanceMethod y).before args s = true) : (Cond.selects C y y).before args s = true := by
  obtain ⟨c, r, m, h1, h2, h3, h4, mk, h5, h6⟩ := Cond.selects_spec hz
  obtain ⟨mk2, methM, hnamed, hmethM, -, -⟩ := Cond.instanceMethod_spec hinst
  have hfound : s.methodFound? y.cls y.name y.desc = some mk2 := State.methodFound?_of_named hnamed hy
  have hsel : selectMethod {} s.vm c mk2 = .method mk2 := selectMethod_private hmethM (Cond.privateMethod_at hpriv mk2 methM hnamed hmethM)
  have hcls : mk2.cls = m.cls := Option.some.inj ((findClass_of_methodNamed hnamed).symm.trans (by rw [← hcl]; exact findClass_of_methodNamed h3))
  simp only [Cond.before, Cond.holds, Cond.value, h1, hfound, hnamed, hsel, hcls, h5]
  simp
  exact h6
section YC
variable {ε : y_Ev} {κ : y_K} {q : z_M} {fr lo mc ms nc ns : Nat} {ws wr w : va_W} {pc : Nat} {lv : z_L} {st : List Value} {P : y_T}
theorem y_pre {av : List Value} {H : Heap} {locs : List Loc} (hC : y_ok ε κ q fr lo mc ms) (hP : va_P (y_D ε) z_cl (w ++ wr) H) (hD : va_D (k_A κ) (w ++ wr)) (hS : va_S (k_A κ) (k_s κ).heap H locs) : (∀ a, va_A w H.size a → k_A κ a) ∧ ∀ U : State, U.heap = H → (k_s κ).WarmedH U.vm → va_Pc av (y_P ε H.size w) av.toArray U := by
  obtain ⟨hx, hb, hml, hts, hown, hK, hN, hE, hA, hR, hdec⟩ := id hC
  have hF : ∀ a, va_A w H.size a → k_A κ a := va_free hD hS hA (List.range w.length) (zl_L _ _)
  exact ⟨hF, fun U hU hW => ⟨rfl, by rw [hU], by rw [hU]; exact zl_Pl hP, va_K.moved hW.alike hK, (zl_Dl hD).weaken (fun _ _ _ _ => trivial), z_N_warm hW hN, y_E.step hE hS hF hU hW⟩⟩
/-- a call, once it runs -/
theorem y_after {y : z_M} {mc2 ms2 : Nat} {H : Heap} {locs : List Loc} {ls : Array Slot} {a : Array Value} {g : List Value} (hC : y_ok ε κ q fr lo mc ms) (hl : lv_has ls q.2.2.1 lv) (hP : va_P (y_D ε) z_cl (w ++ wr) H) (hD : va_D (k_A κ) (w ++ wr)) (hS : va_S (k_A κ) (k_s κ).heap H locs) (k : ∀ (r : Option Value) (w2 : va_W), P r w2 → y_G ε κ q (nc + mc2) (ns + ms2) (w2 ++ wr) (pc + 3, lv, r.toList ++ st, [])) (hr : va_Run (k_p κ) ε.1 (k_e κ) (k_R κ) (k_s κ) (k_m κ) (k_a κ) (k_b κ) (k_me κ) (k_c κ) H locs nc ns mc2 ms2 (F0 (k_m κ) pc ls g) st (y_Q y.2.2.2.1 P ε (va_A w H.size) a) (va_A w H.size)) : W (k_p κ) ε.1 (k_e κ) (k_R κ) (k_s κ) (k_m κ) (k_a κ) (k_b κ) (k_me κ) (k_c κ) H locs nc ns (k_Q κ) (F0 (k_m κ) pc ls g) := by
  have hF := (y_pre (av := []) hC hP hD hS).1
  generalize y.2.2.2.1 = ret at hr
  unfold y_Q at hr
  split at hr
  · refine va_callv hr hS (fun q _ h => hF q h) hF (fun u t H1 locs1 ht hvm hw hB hz1 hk1 hS1 => ?_)
    obtain ⟨hP1, -, hD1⟩ := hB
    rw [ht] at hP1
    obtain ⟨hP2, hD2⟩ := y_joinL hP hD hk1 hF hP1 hD1
    exact y_outW (k none u hw) hl hP2 hD2 hS1
  · refine va_calll hr hS (fun q _ h => hF q h) hF (fun r u t H1 locs1 ht hvm hw hB hz1 hk1 hS1 => ?_)
    obtain ⟨hP1, -, hD1⟩ := hB
    rw [ht] at hP1
    obtain ⟨hP2, hD2⟩ := y_joinL hP hD hk1 hF hP1 hD1
    exact y_outW (k (some (.long r)) u hw) hl hP2 hD2 hS1
  · refine va_callr hr hS (fun q _ h => hF q h) hF (fun u ra t H1 locs1 ht hvm hw hB hz1 hk1 hS1 => ?_)
    obtain ⟨rfl, hP1, -, hD1⟩ := hB
    rw [ht] at hP1
    obtain ⟨hP2, hD2⟩ := y_joinL hP hD hk1 hF hP1 hD1
    exact y_outW (k (some (.ref u.1)) u.2 hw) hl hP2 hD2 hS1
  · refine va_callr hr hS (fun q _ h => hF q h) hF (fun u ra t H1 locs1 ht hvm hw hB hz1 hk1 hS1 => ?_)
    obtain ⟨rfl, hP1, -, hD1⟩ := hB
    rw [ht] at hP1
    obtain ⟨hP2, hD2⟩ := y_joinL hP hD hk1 hF hP1 hD1
    exact y_outW (k (some (.ref u.1)) u.2 hw) hl hP2 hD2 hS1
  · refine va_calli hr hS (fun q _ h => hF q h) hF (fun r u t H1 locs1 ht hvm hw hB hz1 hk1 hS1 => ?_)
    obtain ⟨hP1, -, hD1⟩ := hB
    rw [ht] at hP1
    obtain ⟨hP2, hD2⟩ := y_joinL hP hD hk1 hF hP1 hD1
    exact y_outW (k (some (.int r)) u hw) hl hP2 hD2 hS1
/-- a static method -/
theorem y_callS {y idx fr2 lo2 mc2 ms2 : Nat} {qy : z_M} {av : List Value} (hC : y_ok ε κ q fr lo mc ms) (hy : z_mt[y]? = some qy) (hF : z_F q pc = some (.invokestatic idx)) (hw1 : Cond.methodLink (z_own q.2.2.2.2.1) idx qy.1 ∈ z_AW) (hw2 : Cond.static qy.1 ∈ z_AW) (hw3 : Cond.initialized qy.1.cls ∈ z_AW) (hM : y_C ε qy fr2 lo2 mc2 ms2 av w P) (hnp : (parseMethodDescriptor qy.1.desc).map (fun d => d.parameters.length) = some av.length) (hfr : Nat.ble (fr2 + 1) fr = true) (hlo : Nat.ble (8 + (qy.2.2.1 + 11) + lo2) lo = true) (hc : nc + mc2 ≤ mc) (hs : ns + ms2 ≤ ms) (hcat : Nat.ble (st.map fun v => v.category).sum 8 = true) (k : ∀ (r : Option Value) (w2 : va_W), P r w2 → y_G ε κ q (nc + mc2) (ns + ms2) (w2 ++ wr) (pc + 3, lv, r.toList ++ st, [])) : y_G ε κ q nc ns (w ++ wr) (pc, lv, av.reverse ++ st, []) := by
  obtain ⟨hx, hb, hml, hts, hown, hK, hN, hE, hA, hR, hdec⟩ := id hC
  have hyf := z_m_of hy
  refine y_inW (fun H locs ls hl hP hD hS => ?_)
  obtain ⟨hFa, hpre⟩ := y_pre (av := av) hC hP hD hS
  exact y_after (y := qy) hC hl hP hD hS k (va_runS (As := av) (rest := st) (own := z_own q.2.2.2.2.1) (index := idx) (nL := q.2.2.1) ⟨hx, hb, hml, hown, hts⟩ (hM H.size) (va_cwS av.length hts (zl_GoodS hw1 hw2 hw3 hyf.1) rfl rfl rfl ⟨hyf.2.2.2.2.1.1, hyf.2.2.2.2.1.2, hnp⟩ (by rw [hR]; exact ⟨Nat.le_of_ble_eq_true hfr, Nat.le_of_ble_eq_true hlo⟩)) ⟨y_blind, hpre⟩ rfl rfl hl.1 rfl (lv_room (Nat.le_of_ble_eq_true hcat)) (y_dcd hC hF) (by rw [hR]; exact ⟨hc, hs⟩))
/-- an instance method of the receiver's own class -/
theorem y_callV {y idx fr2 lo2 mc2 ms2 b : Nat} {C : String} {qy : z_M} {av : List Value} (hC : y_ok ε κ q fr lo mc ms) (hy : z_mt[y]? = some qy) (hF : z_F q pc = some (.invokevirtual idx)) (g1 : qy.1.cls = C) (hw1 : Cond.methodLink (z_own q.2.2.2.2.1) idx qy.1 ∈ z_AW) (hw2 : Cond.instanceMethod qy.1 ∈ z_AW) (hw3 : Cond.selects C qy.1 qy.1 ∈ z_AW) (hw4 : Cond.initialized C ∈ z_AW) (hrec : ∀ (H : Heap) (locs : List Loc), va_P (y_D ε) z_cl (w ++ wr) H → va_S (k_A κ) (k_s κ).heap H locs → ∃ cell : Cell, H[b]? = some cell ∧ cell.vm.isStatics = false ∧ (k_s κ).vm.findClass C = some cell.cls) (hM : y_C ε qy fr2 lo2 mc2 ms2 (.ref b :: av) w P) (hnp : (parseMethodDescriptor qy.1.desc).map (fun d => d.parameters.length) = some av.length) (hfr : Nat.ble (fr2 + 1) fr = true) (hlo : Nat.ble (8 + (qy.2.2.1 + 11) + lo2) lo = true) (hc : nc + mc2 ≤ mc) (hs : ns + ms2 ≤ ms) (hcat : Nat.ble (st.map fun v => v.category).sum 8 = true) (k : ∀ (r : Option Value) (w2 : va_W), P r w2 → y_G ε κ q (nc + mc2) (ns + ms2) (w2 ++ wr) (pc + 3, lv, r.toList ++ st, [])) : y_G ε κ q nc ns (w ++ wr) (pc, lv, av.reverse ++ .ref b :: st, []) := by
  obtain ⟨hx, hb, hml, hts, hown, hK, hN, hE, hA, hR, hdec⟩ := id hC
  have hyf := z_m_of hy
  refine y_inW (fun H locs ls hl hP hD hS => ?_)
  obtain ⟨hFa, hpre⟩ := y_pre (av := .ref b :: av) hC hP hD hS
  exact y_after (y := qy) hC hl hP hD hS k (va_runV (As := av) (b := b) (rest := st) (own := z_own q.2.2.2.2.1) (index := idx) (C := C) (nL := q.2.2.1) ⟨hx, hb, hml, hown, hts⟩ (hM H.size) (cwV av.length hts (zl_GoodV hw1 hw2 hw3 hw4 hyf.1) rfl rfl rfl ⟨g1, hyf.2.2.2.2.1.1, hyf.2.2.2.2.1.2, hnp⟩ (by rw [hR]; exact ⟨Nat.le_of_ble_eq_true hfr, Nat.le_of_ble_eq_true hlo⟩)) ⟨y_blind, hrec H locs hP hS, hpre⟩ rfl rfl hl.1 rfl (lv_room (Nat.le_of_ble_eq_true hcat)) (y_dcd hC hF) (by rw [hR]; exact ⟨hc, hs⟩))
/-- a method that the receiver's class inherits, or its own under the superclass's name -/
theorem y_callU {y idx fr2 lo2 mc2 ms2 b : Nat} {C : String} {x : MethodName} {qy : z_M} {av : List Value} (hC : y_ok ε κ q fr lo mc ms) (hy : z_mt[y]? = some qy) (hF : z_F q pc = some (.invokevirtual idx)) (hxy : qy.1 = x) (hw1 : Cond.methodLink (z_own q.2.2.2.2.1) idx x ∈ z_AW) (hw2 : Cond.sameMethod x.cls x.cls x.name x.desc ∈ z_AW) (hw3 : Cond.selects C x qy.1 ∈ z_AW) (hw4 : Cond.instanceMethod qy.1 ∈ z_AW) (hw5 : Cond.initialized qy.1.cls ∈ z_AW) (hrec : ∀ (H : Heap) (locs : List Loc), va_P (y_D ε) z_cl (w ++ wr) H → va_S (k_A κ) (k_s κ).heap H locs → ∃ cell : Cell, H[b]? = some cell ∧ cell.vm.isStatics = false ∧ (k_s κ).vm.findClass C = some cell.cls) (hM : y_C ε qy fr2 lo2 mc2 ms2 (.ref b :: av) w P) (hnp : (parseMethodDescriptor x.desc).map (fun d => d.parameters.length) = some av.length) (hfr : Nat.ble (fr2 + 1) fr = true) (hlo : Nat.ble (8 + (qy.2.2.1 + 11) + lo2) lo = true) (hc : nc + mc2 ≤ mc) (hs : ns + ms2 ≤ ms) (hcat : Nat.ble (st.map fun v => v.category).sum 8 = true) (k : ∀ (r : Option Value) (w2 : va_W), P r w2 → y_G ε κ q (nc + mc2) (ns + ms2) (w2 ++ wr) (pc + 3, lv, r.toList ++ st, [])) : y_G ε κ q nc ns (w ++ wr) (pc, lv, av.reverse ++ .ref b :: st, []) := by
  obtain ⟨hx, hb, hml, hts, hown, hK, hN, hE, hA, hR, hdec⟩ := id hC
  have hyf := z_m_of hy
  refine y_inW (fun H locs ls hl hP hD hS => ?_)
  obtain ⟨hFa, hpre⟩ := y_pre (av := .ref b :: av) hC hP hD hS
  exact y_after (y := qy) hC hl hP hD hS k (va_runU (x := x) (As := av) (b := b) (rest := st) (own := z_own q.2.2.2.2.1) (index := idx) (C := C) (owner := x.cls) (nL := q.2.2.1) ⟨hx, hb, hml, hown, hts⟩ (hM H.size) (va_cwU av.length hts (y_GoodU hw1 hw2 hw3 hw4 hw5 hyf.1) rfl rfl rfl hxy ⟨by rw [← hxy]; exact hyf.2.2.2.2.1.1, by rw [← hxy]; exact hyf.2.2.2.2.1.2, hnp⟩ (by rw [hR]; exact ⟨Nat.le_of_ble_eq_true hfr, Nat.le_of_ble_eq_true hlo⟩)) ⟨y_blind, hrec H locs hP hS, hpre⟩ rfl rfl hl.1 rfl (lv_room (Nat.le_of_ble_eq_true hcat)) (y_dcd hC hF) (by rw [hR]; exact ⟨hc, hs⟩))
/-- an overriding method, called by the superclass's name -/
theorem y_callO {y idx fr2 lo2 mc2 ms2 b m0 : Nat} {C : String} {x : MethodName} {b0 : ByteArray} {r0 : Option FieldType} {qy : z_M} {av : List Value} (hC : y_ok ε κ q fr lo mc ms) (hy : z_mt[y]? = some qy) (hF : z_F q pc = some (.invokevirtual idx)) (hw0 : Cond.code x b0 m0 r0 ∈ z_AW) (hx0 : x.cls ≠ "java/lang/invoke/MethodHandle" ∧ x.cls ≠ "java/lang/invoke/VarHandle") (hw1 : Cond.methodLink (z_own q.2.2.2.2.1) idx x ∈ z_AW) (hw2 : Cond.sameMethod x.cls x.cls x.name x.desc ∈ z_AW) (hw6 : Cond.instanceMethod x ∈ z_AW) (hw3 : Cond.selects C x qy.1 ∈ z_AW) (hw4 : Cond.instanceMethod qy.1 ∈ z_AW) (hw5 : Cond.initialized qy.1.cls ∈ z_AW) (hrec : ∀ (H : Heap) (locs : List Loc), va_P (y_D ε) z_cl (w ++ wr) H → va_S (k_A κ) (k_s κ).heap H locs → ∃ cell : Cell, H[b]? = some cell ∧ cell.vm.isStatics = false ∧ (k_s κ).vm.findClass C = some cell.cls) (hM : y_C ε qy fr2 lo2 mc2 ms2 (.ref b :: av) w P) (hnp : (parseMethodDescriptor x.desc).map (fun d => d.parameters.length) = some av.length) (hfr : Nat.ble (fr2 + 1) fr = true) (hlo : Nat.ble (8 + (qy.2.2.1 + 11) + lo2) lo = true) (hc : nc + mc2 ≤ mc) (hs : ns + ms2 ≤ ms) (hcat : Nat.ble (st.map fun v => v.category).sum 8 = true) (k : ∀ (r : Option Value) (w2 : va_W), P r w2 → y_G ε κ q (nc + mc2) (ns + ms2) (w2 ++ wr) (pc + 3, lv, r.toList ++ st, [])) : y_G ε κ q nc ns (w ++ wr) (pc, lv, av.reverse ++ .ref b :: st, []) := by
  obtain ⟨hx, hb, hml, hts, hown, hK, hN, hE, hA, hR, hdec⟩ := id hC
  have hyf := z_m_of hy
  have hG : GoodIn z_AW (va_wsO (z_own q.2.2.2.2.1) idx C x.cls x qy.1 (Cond.code qy.1 qy.2.1 qy.2.2.1 qy.2.2.2.1 :: z_AW)) := by
    intro w hw
    refine z_AW_good w ?_
    unfold va_wsO at hw
    simp only [List.cons_append, List.nil_append, List.mem_cons] at hw
    rcases hw with rfl | rfl | rfl | rfl | rfl | rfl | rfl | hw
    · exact hw1
    · exact hw2
    · exact hw6
    · exact hw3
    · exact hw4
    · exact hw5
    · exact hyf.1
    · exact hw
  refine y_inW (fun H locs ls hl hP hD hS => ?_)
  obtain ⟨hFa, hpre⟩ := y_pre (av := .ref b :: av) hC hP hD hS
  exact y_after (y := qy) hC hl hP hD hS k (va_runU (x := x) (As := av) (b := b) (rest := st) (own := z_own q.2.2.2.2.1) (index := idx) (C := C) (owner := x.cls) (nL := q.2.2.1) ⟨hx, hb, hml, hown, hts⟩ (hM H.size) (va_cwO av.length hts hG rfl rfl rfl hw0 ⟨hx0.1, hx0.2, hnp⟩ (by rw [hR]; exact ⟨Nat.le_of_ble_eq_true hfr, Nat.le_of_ble_eq_true hlo⟩)) ⟨y_blind, hrec H locs hP hS, hpre⟩ rfl rfl hl.1 rfl (lv_room (Nat.le_of_ble_eq_true hcat)) (y_dcd hC hF) (by rw [hR]; exact ⟨hc, hs⟩))
/-- the superclass's method, on this -/
theorem y_callSU {y idx fr2 lo2 mc2 ms2 b : Nat} {C : String} {cC : ClassId} {qy : z_M} {av : List Value} (hC : y_ok ε κ q fr lo mc ms) (hy : z_mt[y]? = some qy) (hF : z_F q pc = some (.invokespecial idx)) (hno : qy.1.name ≠ "<init>") (hw1 : Cond.methodLink (z_own q.2.2.2.2.1) idx qy.1 ∈ z_AW) (hw2 : Cond.sameMethod qy.1.cls qy.1.cls qy.1.name qy.1.desc ∈ z_AW) (hw3 : Cond.superclass (z_own q.2.2.2.2.1) qy.1.cls ∈ z_AW) (hw4 : Cond.instanceMethod qy.1 ∈ z_AW) (hw5 : Cond.initialized qy.1.cls ∈ z_AW) (hat : ClassAt (k_s κ) C cC) (hrec : ∀ (H : Heap) (locs : List Loc), va_P (y_D ε) z_cl (w ++ wr) H → va_S (k_A κ) (k_s κ).heap H locs → ∃ cell : Cell, H[b]? = some cell ∧ cell.vm.isStatics = false ∧ (k_s κ).vm.findClass C = some cell.cls) (hM : y_C ε qy fr2 lo2 mc2 ms2 (.ref b :: av) w P) (hnp : (parseMethodDescriptor qy.1.desc).map (fun d => d.parameters.length) = some av.length) (hfr : Nat.ble (fr2 + 1) fr = true) (hlo : Nat.ble (8 + (qy.2.2.1 + 11) + lo2) lo = true) (hc : nc + mc2 ≤ mc) (hs : ns + ms2 ≤ ms) (hcat : Nat.ble (st.map fun v => v.category).sum 8 = true) (k : ∀ (r : Option Value) (w2 : va_W), P r w2 → y_G ε κ q (nc + mc2) (ns + ms2) (w2 ++ wr) (pc + 3, lv, r.toList ++ st, [])) : y_G ε κ q nc ns (w ++ wr) (pc, lv, av.reverse ++ .ref b :: st, []) := by
  obtain ⟨hx, hb, hml, hts, hown, hK, hN, hE, hA, hR, hdec⟩ := id hC
  have hyf := z_m_of hy
  refine y_inW (fun H locs ls hl hP hD hS => ?_)
  obtain ⟨hFa, hpre⟩ := y_pre (av := .ref b :: av) hC hP hD hS
  exact y_after (y := qy) hC hl hP hD hS k (va_runSU (As := av) (b := b) (rest := st) (own := z_own q.2.2.2.2.1) (index := idx) (C := C) (nL := q.2.2.1) hat ⟨hx, hb, hml, hown, hts⟩ (hM H.size) (va_cwSU av.length hts (y_GoodSU hw1 hw2 hw3 hw4 hw5 hyf.1) rfl rfl rfl ⟨hno, hnp⟩ (by rw [hR]; exact ⟨Nat.le_of_ble_eq_true hfr, Nat.le_of_ble_eq_true hlo⟩)) ⟨y_blind, hrec H locs hP hS, hpre⟩ rfl rfl hl.1 rfl (lv_room (Nat.le_of_ble_eq_true hcat)) (y_dcd hC hF) (by rw [hR]; exact ⟨hc, hs⟩))
/-- a constructor -/
theorem y_callI {y idx fr2 lo2 mc2 ms2 b : Nat} {qy : z_M} {av : List Value} (hC : y_ok ε κ q fr lo mc ms) (hy : z_mt[y]? = some qy) (hret : qy.2.2.2.1 = none) (hF : z_F q pc = some (.invokespecial idx)) (hni : qy.1.name = "<init>") (hw1 : Cond.methodLink (z_own q.2.2.2.2.1) idx qy.1 ∈ z_AW) (hw4 : Cond.instanceMethod qy.1 ∈ z_AW) (hw5 : Cond.initialized qy.1.cls ∈ z_AW) (hM : y_C ε qy fr2 lo2 mc2 ms2 (.ref b :: av) w P) (hnp : (parseMethodDescriptor qy.1.desc).map (fun d => d.parameters.length) = some av.length) (hfr : Nat.ble (fr2 + 1) fr = true) (hlo : Nat.ble (8 + (qy.2.2.1 + 11) + lo2) lo = true) (hc : nc + mc2 ≤ mc) (hs : ns + ms2 ≤ ms) (hcat : Nat.ble (st.map fun v => v.category).sum 8 = true) (k : ∀ (r : Option Value) (w2 : va_W), P r w2 → y_G ε κ q (nc + mc2) (ns + ms2) (w2 ++ wr) (pc + 3, lv, r.toList ++ st, [])) : y_G ε κ q nc ns (w ++ wr) (pc, lv, av.reverse ++ .ref b :: st, []) := by
  obtain ⟨hx, hb, hml, hts, hown, hK, hN, hE, hA, hR, hdec⟩ := id hC
  have hyf := z_m_of hy
  refine y_inW (fun H locs ls hl hP hD hS => ?_)
  obtain ⟨hFa, hpre⟩ := y_pre (av := .ref b :: av) hC hP hD hS
  have hM2 := hM H.size
  have hG := y_GoodC hyf.1
  rw [hret] at hG hM2
  refine y_after (y := qy) (a := (Value.ref b :: av).toArray) hC hl hP hD hS k ?_
  rw [hret]
  exact va_runI (As := av) (b := b) (rest := st) (own := z_own q.2.2.2.2.1) (index := idx) (nL := q.2.2.1) ⟨hx, hb, hml, hown, hts⟩ hM2 (cwI av.length hts hG rfl rfl rfl (hts _ hw5) (hts _ hw1) (hts _ hw4) hni ⟨hyf.2.2.2.2.1.1, hyf.2.2.2.2.1.2, hnp⟩ (by rw [hR]; exact ⟨Nat.le_of_ble_eq_true hfr, Nat.le_of_ble_eq_true hlo⟩)) ⟨y_blind, hpre⟩ rfl rfl hl.1 rfl (lv_room (Nat.le_of_ble_eq_true hcat)) (y_dcd hC hF) (by rw [hR]; exact ⟨hc, hs⟩)
/-- Object's constructor -/
theorem y_obj {idx b : Nat} (hC : y_ok ε κ q fr lo mc ms) (hF : z_F q pc = some (.invokespecial idx)) (hw1 : Cond.methodLink (z_own q.2.2.2.2.1) idx objectInit ∈ z_AW) (hw2 : Cond.instanceMethod objectInit ∈ z_AW) (hw3 : Cond.code objectInit ⟨#[0xb1]⟩ 1 none ∈ z_AW) (hfr : 1 ≤ fr) (hlo : 20 ≤ lo) (hst : st = []) (kk : y_G ε κ q nc ns ws (pc + 3, lv, st, [])) : y_G ε κ q nc ns ws (pc, lv, .ref b :: st, []) := by
  obtain ⟨hx, hb, hml, hts, hown, hK, hN, hE, hA, hR, hdec⟩ := id hC
  subst hst
  refine y_inW (fun H locs ls hl hP hD hS => W.objInit hx hb hown (hts _ hw1) (hts _ hw2) (hts _ hw3) rfl (by rw [hml]; exact hl.1) rfl (y_dcd hC hF) (by rw [hR]; exact hfr) (by rw [hR]; exact Nat.le_trans (show _ ≤ 20 from Nat.le_of_ble_eq_true rfl) hlo) ?_)
  exact W.eq (g2 := F0 (k_m κ) (pc + 3) ls []) rfl (y_outW kk hl hP hD hS)
/-- the system's method, on its cells at the world's end -/
theorem y_cls {d y idx : Nat} {ad : Nat → Nat} {h : List z_E} {B : va_W} {av : List Value} {fs : List Value} {qy : z_M} {P : z_T} (hC : y_ok ε κ q fr lo mc ms) (hF : z_F q pc = some (.invokevirtual idx)) (hCal : z_CAL d y (.ref 0 :: av) h P) (hy : z_mt[y]? = some qy) (hh : h[0]? = some (.inr (5, fs))) (g1 : qy.1.cls = RX5) (hw1 : Cond.methodLink (z_own q.2.2.2.2.1) idx qy.1 ∈ z_AW) (hw2 : Cond.instanceMethod qy.1 ∈ z_AW) (hw3 : Cond.selects RX5 qy.1 qy.1 ∈ z_AW) (hw4 : Cond.initialized RX5 ∈ z_AW) (hnp : (parseMethodDescriptor qy.1.desc).map (fun d => d.parameters.length) = some av.length) (hfr : Nat.ble (d + 1) fr = true) (hlo : Nat.ble (64 * (d + 1)) lo = true) (hc : nc ≤ mc) (hs : ns ≤ ms) (hcat : Nat.ble (st.map fun v => v.category).sum 8 = true) (k : ∀ (r : Option Value) (h2 : List z_E), P r h2 → y_G ε κ q nc ns (B ++ z_W (y_c ε) ad h2) (pc + 3, lv, r.toList ++ st, [])) : y_G ε κ q nc ns (B ++ z_W (y_c ε) ad h) (pc, lv, (av.map (z_re ad)).reverse ++ .ref (ad 0) :: st, []) := by
  obtain ⟨hx, hb, hml, hts, hown, hK, hN, hE, hA, hR, hdec⟩ := id hC
  refine y_inW (fun H locs ls hl hP hD hS => zl_call (own := z_own q.2.2.2.2.1) (ci := 5) (T := TX5) (N := 8) (nL := q.2.2.1) hx hb hml hown hts hN hK (by rw [hR]; exact Nat.le_of_ble_eq_true hfr) (by rw [hR]; exact Nat.le_of_ble_eq_true hlo) (by rw [hR]; exact ⟨hc, hs⟩) hl.1 hA (y_comm hP) (y_commD hD) hS hCal hy rfl hh g1 hw1 hw2 hw3 hw4 hnp (Nat.le_of_ble_eq_true hcat) (y_dcd hC hF) (fun r h2 H1 locs1 hp hP1 hD1 hS1 => y_outW (k r h2 hp) hl hP1 hD1 hS1))
theorem y_rW {b k ci : Nat} {C : String} {T : u_T} {N : Nat} {fs : List Value} (hC : y_ok ε κ q fr lo mc ms) (hcl : z_cl[ci]? = some (C, T, N)) (hk : ws[k]? = some (b, .inr (ci, fs))) (H : Heap) (locs : List Loc) (hP : va_P (y_D ε) z_cl ws H) (_ : va_S (k_A κ) (k_s κ).heap H locs) : ∃ cell : Cell, H[b]? = some cell ∧ cell.vm.isStatics = false ∧ (k_s κ).vm.findClass C = some cell.cls := va_recv (q := (C, T, N)) hC.2.2.2.2.2.1 hP hcl hk
theorem y_at {ci : Nat} {C : String} {T : u_T} {N : Nat} (hC : y_ok ε κ q fr lo mc ms) (hcl : z_cl[ci]? = some (C, T, N)) : ∃ cC : ClassId, ClassAt (k_s κ) C cC := ⟨_, (hC.2.2.2.2.2.1.1 ci _ hcl).2⟩
/-! ends -/
theorem y_iret {v : Int32} (hC : y_ok ε κ q fr lo mc ms) (hT : y_rt ε κ q mc ms P) (hret : q.2.2.2.1 = some .int) (hF : z_F q pc = some .ireturn) (hc : nc ≤ mc) (hs : ns ≤ ms) (hp : P (some (.int v)) ws) : y_G ε κ q nc ns ws (pc, lv, [.int v], []) := by
  obtain ⟨hx, hb, hml, hts, hown, hK, hN, hE, hA, hR, hdec⟩ := id hC
  obtain ⟨h1, h2, h3⟩ := hT
  refine y_wid mc ms hc hs (y_inW (fun H locs ls hl hP hD hS => ?_))
  rw [h3]
  rw [hret] at h1 ⊢
  exact W.iret hx hb h1 (fun t ht hW => ⟨⟨v, ws, rfl, hp, by rw [ht]; exact hP, va_K.moved hW.alike hK, hD⟩, hS.F ht⟩) hS.2.2 (y_dcd hC hF) h2
theorem y_zret {v : Int32} {ty : FieldType} (hC : y_ok ε κ q fr lo mc ms) (hT : y_rt ε κ q mc ms P) (hret : q.2.2.2.1 = some ty) (hty : ty = .boolean ∨ ty = .byte ∨ ty = .char) (hn : narrow ty (.int v) = .int v) (hF : z_F q pc = some .ireturn) (hc : nc ≤ mc) (hs : ns ≤ ms) (hp : P (some (.int v)) ws) : y_G ε κ q nc ns ws (pc, lv, [.int v], []) := by
  obtain ⟨hx, hb, hml, hts, hown, hK, hN, hE, hA, hR, hdec⟩ := id hC
  obtain ⟨h1, h2, h3⟩ := hT
  refine y_wid mc ms hc hs (y_inW (fun H locs ls hl hP hD hS => ?_))
  rw [h3]
  rw [hret] at h1 ⊢
  have hd := y_dcd hC hF
  rcases hty with rfl | rfl | rfl
  · exact W.zret hx hb h1 hn (fun t ht hW => ⟨⟨v, ws, rfl, hp, by rw [ht]; exact hP, va_K.moved hW.alike hK, hD⟩, hS.F ht⟩) hS.2.2 hd h2
  · exact W.zret hx hb h1 hn (fun t ht hW => ⟨⟨v, ws, rfl, hp, by rw [ht]; exact hP, va_K.moved hW.alike hK, hD⟩, hS.F ht⟩) hS.2.2 hd h2
  · exact W.zret hx hb h1 hn (fun t ht hW => ⟨⟨v, ws, rfl, hp, by rw [ht]; exact hP, va_K.moved hW.alike hK, hD⟩, hS.F ht⟩) hS.2.2 hd h2
theorem y_aret {a : Nat} {ty : FieldType} (hC : y_ok ε κ q fr lo mc ms) (hT : y_rt ε κ q mc ms P) (hret : q.2.2.2.1 = some ty) (hty : (∃ n, ty = .object n) ∨ ∃ t, ty = .array t) (hF : z_F q pc = some .areturn) (hc : nc ≤ mc) (hs : ns ≤ ms) (hp : P (some (.ref a)) ws) : y_G ε κ q nc ns ws (pc, lv, [.ref a], []) := by
  obtain ⟨hx, hb, hml, hts, hown, hK, hN, hE, hA, hR, hdec⟩ := id hC
  obtain ⟨h1, h2, h3⟩ := hT
  refine y_wid mc ms hc hs (y_inW (fun H locs ls hl hP hD hS => ?_))
  rw [h3]
  rw [hret] at h1 ⊢
  have hd := y_dcd hC hF
  rcases hty with ⟨n, rfl⟩ | ⟨t, rfl⟩
  · exact W.aret hx hb h1 (Or.inl ⟨n, rfl⟩) (Or.inr ⟨a, rfl⟩) (fun t ht hW => ⟨⟨(a, ws), a, rfl, hp, rfl, by rw [ht]; exact hP, va_K.moved hW.alike hK, hD⟩, hS.F ht⟩) hS.2.2 hd h2
  · exact W.aret hx hb h1 (Or.inr ⟨t, rfl⟩) (Or.inr ⟨a, rfl⟩) (fun t ht hW => ⟨⟨(a, ws), a, rfl, hp, rfl, by rw [ht]; exact hP, va_K.moved hW.alike hK, hD⟩, hS.F ht⟩) hS.2.2 hd h2
theorem y_vret (hC : y_ok ε κ q fr lo mc ms) (hT : y_rt ε κ q mc ms P) (hret : q.2.2.2.1 = none) (hF : z_F q pc = some .return_) (hc : nc ≤ mc) (hs : ns ≤ ms) (hp : P none ws) : y_G ε κ q nc ns ws (pc, lv, [], []) := by
  obtain ⟨hx, hb, hml, hts, hown, hK, hN, hE, hA, hR, hdec⟩ := id hC
  obtain ⟨h1, h2, h3⟩ := hT
  refine y_wid mc ms hc hs (y_inW (fun H locs ls hl hP hD hS => ?_))
  rw [h3]
  rw [hret] at h1 ⊢
  exact W.vret hx hb h1 (fun t ht hW => ⟨⟨ws, rfl, hp, by rw [ht]; exact hP, va_K.moved hW.alike hK, hD⟩, hS.F ht⟩) hS.2.2 (y_dcd hC hF) h2
end YC
/-- a method's contract out of its run -/
theorem y_start {ε : y_Ev} {q : z_M} {fr lo mc ms y : Nat} {av : List Value} {w : va_W} {P : y_T} (hy : z_mt[y]? = some q) (hl0 : Nat.ble (lg_sl av).length q.2.2.1 = true) (k : ∀ κ : y_K, y_ok ε κ q fr lo mc ms → y_rt ε κ q mc ms P → (k_me κ).name = q.1.name → y_G ε κ q 0 0 w (0, lv_args 0 av, [], [])) : y_C ε q fr lo mc ms av w P := by
  intro sz
  obtain ⟨hcode, hplain, hm45, hcls, hne, hdec⟩ := z_m_of hy
  refine va_MetF (cc := q.2.1) (maxL := q.2.2.1) (ret := q.2.2.2.1) hplain rfl ?_
  intro p e s m args below meth c s₁ B hml hv
  obtain ⟨rfl, hsz, hP, hK, hD0, hN, hE⟩ := hv
  have hts0 := atoms_spec B.pre
  have hts : ∀ w ∈ z_AW, w.before av.toArray s = true := fun w hw => hts0 w (List.mem_cons_of_mem _ hw)
  have hown : s.vm.findClass (z_own q.2.2.2.2.1) = some m.cls := by
    rw [← hcls]
    exact findClass_of_methodNamed B.named
  subst hsz
  have hD := hD0.self (sz := s.heap.size)
  have hl := lv_entry av (n := q.2.2.1) (Nat.le_of_ble_eq_true hl0)
  rw [lg_entry_eq]
  generalize (lg_sl av ++ List.replicate (q.2.2.1 - (lg_sl av).length) Slot.unset).toArray = ls at hl ⊢
  exact y_outW (κ := (p, e, { frames := fr, cells := mc, slots := ms, locals := lo }, s, m, av.toArray, below, meth, c, MQ below (y_Q q.2.2.2.1 P ε (va_A w s.heap.size)) av.toArray s mc ms (va_A w s.heap.size), va_A w s.heap.size)) (k _ ⟨B.exec, B.bytes, hml, hts, hown, hK, hN, hE, fun a h => Or.inr h, rfl, hdec⟩ ⟨B.returns, B.notSynchronized, rfl⟩ (name_of_methodNamed B.named B.method).1) hl hP hD va_S.rf
theorem y_C_mono {ε : y_Ev} {q : z_M} {fr lo mc ms : Nat} {av : List Value} {w : va_W} {P P2 : y_T} (h : ∀ κ : y_K, True) (hP : P = P2) (hM : y_C ε q fr lo mc ms av w P) : y_C ε q fr lo mc ms av w P2 := hP ▸ hM
