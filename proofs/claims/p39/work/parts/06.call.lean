/-! the pure machine is sound: methods -/
section ZT
variable {p : Program} {l : Launch} {e : Env} {R : Room} {s : State} {m : MethodId} {args : Array Value} {below : List Frame} {meth : Method} {c : Code} {Q : State → Prop} {A : Nat → Prop} {H0 : Heap} {D : va_G} {cA : Nat → ClassId} {ad : Nat → Nat} {nL : Nat} {cc : ByteArray} {own pc n : Nat} {lv : z_L} {st : List Value} {h : List z_E} {σ : z_S}
theorem zs_ins (hx : p.tables.exec = Jvm.exec) (hb : c.code = cc) (hml : c.maxLocals = nL) (hts : ∀ w ∈ z_AW, w.before args s = true) (hN : z_N s) (hown : s.vm.findClass (z_own own) = some m.cls) (hK : va_K D z_cl (z_tys cA) s) (hRf : 1 ≤ R.frames) (hRl : 64 ≤ R.locals) {i : Instr} (hd : decode cc pc = .ok (i, n)) (hn : z_lenok i n = true) (hc : z_cok i = true) (hi : z_ins (z_lk own) nL pc lv st h i = some σ) (k : z_G p l e R s m args below meth c Q A H0 D cA ad nL σ) : z_G p l e R s m args below meth c Q A H0 D cA ad nL (pc, lv, st, h) := by
  cases i with
  | iadd => exact zs_iadd hx hb hd hn hi k
  | isub => exact zs_isub hx hb hd hn hi k
  | imul => exact zs_imul hx hb hd hn hi k
  | iand => exact zs_iand hx hb hd hn hi k
  | ior => exact zs_ior hx hb hd hn hi k
  | ixor => exact zs_ixor hx hb hd hn hi k
  | ineg => exact zs_ineg hx hb hd hn hi k
  | ishl => exact zs_ishl hx hb hd hn hi k
  | ishr => exact zs_ishr hx hb hd hn hi k
  | iushr => exact zs_iushr hx hb hd hn hi k
  | ladd => exact zs_ladd hx hb hd hn hi k
  | lsub => exact zs_lsub hx hb hd hn hi k
  | lmul => exact zs_lmul hx hb hd hn hi k
  | land => exact zs_land hx hb hd hn hi k
  | lor => exact zs_lor hx hb hd hn hi k
  | lshl => exact zs_lshl hx hb hd hn hi k
  | i2l => exact zs_i2l hx hb hd hn hi k
  | l2i => exact zs_l2i hx hb hd hn hi k
  | lcmp => exact zs_lcmp hx hb hd hn hi k
  | idiv => exact zs_idiv hx hb hd hn hi k
  | irem => exact zs_irem hx hb hd hn hi k
  | ldiv => exact zs_ldiv hx hb hd hn hi k
  | lrem => exact zs_lrem hx hb hd hn hi k
  | pop => exact zs_pop hx hb hd hn hi k
  | dup => exact zs_dup hx hb hd hn hi k
  | dup2 => exact zs_dup2 hx hb hd hn hi k
  | lconst v => exact zs_lconst hx hb hd hn hi k
  | iload_n v => exact zs_iload_n hx hb hd hn hi k
  | lload_n v => exact zs_lload_n hx hb hd hn hi k
  | aload_n v => exact zs_aload_n hx hb hd hn hi k
  | iload v => exact zs_iload hx hb hd hn hi k
  | lload v => exact zs_lload hx hb hd hn hi k
  | aload v => exact zs_aload hx hb hd hn hi k
  | istore_n v => exact zs_istore_n hx hb hd hn hi k
  | istore v => exact zs_istore hx hb hd hn hi k
  | lstore_n v => exact zs_lstore_n hx hb hd hn hi k
  | lstore v => exact zs_lstore hx hb hd hn hi k
  | goto v => exact zs_goto hx hb hd hn hi k
  | iconst v => exact zs_iconst hx hb hd hn hc hi k
  | bipush v => exact zs_bipush hx hb hd hn hc hi k
  | sipush v => exact zs_sipush hx hb hd hn hc hi k
  | iinc v d => exact zs_iinc hx hb hd hn hc hi k
  | ldc v => exact zs_ldc hx hb hts hown hd hn hi k
  | ldc_w v => exact zs_ldc_w hx hb hts hown hd hn hi k
  | ldc2_w v => exact zs_ldc2_w hx hb hts hown hd hn hi k
  | iaload => exact zs_iaload hx hb hK hd hn hi k
  | laload => exact zs_laload hx hb hK hd hn hi k
  | baload => exact zs_baload hx hb hK hd hn hi k
  | iastore => exact zs_iastore hx hb hK hd hn hi k
  | lastore => exact zs_lastore hx hb hK hd hn hi k
  | bastore => exact zs_bastore hx hb hK hd hn hi k
  | arraylength => exact zs_arraylength hx hb hK hd hn hi k
  | tableswitch d lo hi offs => exact zs_tableswitch hx hb hd hi k
  | getfield v => exact zs_getfield hx hb hts hN hown hK hd hn hi k
  | putfield v => exact zs_putfield hx hb hts hN hown hK hd hn hi k
  | invokestatic v => exact zs_arraycopy hx hb hml hts hown hK hRf hRl hd hn hi k
  | ifCond cd v =>
    cases cd with
    | eq => exact zs_if_eq hx hb hd hn hi k
    | ne => exact zs_if_ne hx hb hd hn hi k
    | lt => exact zs_if_lt hx hb hd hn hi k
    | ge => exact zs_if_ge hx hb hd hn hi k
    | gt => exact zs_if_gt hx hb hd hn hi k
    | le => exact zs_if_le hx hb hd hn hi k
  | if_icmp cd v =>
    cases cd with
    | eq => exact zs_icmp_eq hx hb hd hn hi k
    | ne => exact zs_icmp_ne hx hb hd hn hi k
    | lt => exact zs_icmp_lt hx hb hd hn hi k
    | ge => exact zs_icmp_ge hx hb hd hn hi k
    | gt => exact zs_icmp_gt hx hb hd hn hi k
    | le => exact zs_icmp_le hx hb hd hn hi k
  | _ => exact absurd hi (by simp [z_ins])
theorem z_all {α : Type} (ws : List α) : (List.range ws.length).map (fun i => ws[i]?) = ws.map some := by
  apply List.ext_getElem?
  intro j
  rw [List.getElem?_map, List.getElem?_map]
  by_cases hj : j < ws.length
  · rw [List.getElem?_range hj, List.getElem?_eq_getElem hj]; simp [hj]
  · rw [List.getElem?_eq_none (by simp; omega), List.getElem?_eq_none (by omega)]; rfl
def z_rm (d : Nat) : Room := { frames := d, cells := 0, slots := 0, locals := 64 * d }
def z_P (D : va_G) (cA : Nat → ClassId) (ad : Nat → Nat) (sz : Nat) (h : List z_E) : State → Prop := fun U => U.heap.size = sz ∧ va_P D z_cl (z_W cA ad h) U.heap ∧ va_K D z_cl (z_tys cA) U ∧ va_D (fun _ => True) (z_W cA ad h) ∧ z_N U
def z_B (D : va_G) (cA : Nat → ClassId) (ad : Nat → Nat) (A : Nat → Prop) (h' : List z_E) (t : State) : Prop := va_P D z_cl (z_W cA ad h') t.heap ∧ va_K D z_cl (z_tys cA) t ∧ va_D A (z_W cA ad h')
def z_Q (ret : Option FieldType) (P : z_T) (D : va_G) (cA : Nat → ClassId) (ad : Nat → Nat) (A : Nat → Prop) : Array Value → State → Outcome → State → Prop := match ret with
  | none => va_Qv (fun h' : List z_E => P none h') (z_B D cA ad A) A
  | some .long => va_Ql (fun (r : Int64) (h' : List z_E) => P (some (.long r)) h') (z_B D cA ad A) A
  | some _ => va_Qi (fun (r : Int32) (h' : List z_E) => P (some (.int r)) h') (z_B D cA ad A) A
theorem zs_end {q : z_M} {P : z_T} {r : Option Value} (hx : p.tables.exec = Jvm.exec) (hb : c.code = q.2.1) (hr : meth.sig.returnType = q.2.2.2.1) (hlocks : meth.locks = false) (hdec : ∀ (pc : Nat) (i : Instr), z_F q pc = some i → ∃ n : Nat, decode q.2.1 pc = .ok (i, n) ∧ z_lenok i n = true ∧ z_cok i = true) (hK : va_K D z_cl (z_tys cA) s) (he : z_end q (pc, lv, st, h) = some r) (hok : z_rok q.2.2.2.1 r) (hR : P r h) : z_G p l e R s m args below meth c (MQ below (z_Q q.2.2.2.1 P D cA ad A) args s 0 0 A) A s.heap D cA ad nL (pc, lv, st, h) := by
  generalize q.2.2.2.1 = ret at hr hok ⊢
  unfold z_end at he
  simp only at he
  intro H locs ls hl hP hD hS
  split at he
  · rename_i v hF
    cases he
    obtain ⟨n, hd, hn, -⟩ := hdec _ _ hF
    obtain rfl : n = 1 := Nat.eq_of_beq_eq_true hn
    unfold z_rok at hok
    split at hok
    · exact W.iret hx hb hr (fun t ht hW => ⟨⟨v, h, rfl, hR, by rw [ht]; exact hP, va_K.moved hW.alike hK, hD⟩, hS.F ht⟩) hS.2.2 hd hlocks
    · rename_i hv2
      have hv : v = 0 ∨ v = 1 := by
        cases hv2
        exact hok
      exact W.zret hx hb hr (by rcases hv with rfl | rfl <;> rfl) (fun t ht hW => ⟨⟨v, h, rfl, hR, by rw [ht]; exact hP, va_K.moved hW.alike hK, hD⟩, hS.F ht⟩) hS.2.2 hd hlocks
    · rename_i hv2
      cases hv2
    · rename_i hv2
      cases hv2
    · exact absurd hok id
  · rename_i v hF
    cases he
    obtain ⟨n, hd, hn, -⟩ := hdec _ _ hF
    obtain rfl : n = 1 := Nat.eq_of_beq_eq_true hn
    unfold z_rok at hok
    split at hok
    · rename_i hv2
      cases hv2
    · rename_i hv2
      cases hv2
    · exact W.lret hx hb hr (fun t ht hW => ⟨⟨v, h, rfl, hR, by rw [ht]; exact hP, va_K.moved hW.alike hK, hD⟩, hS.F ht⟩) hS.2.2 hd hlocks
    · rename_i hv2
      cases hv2
    · exact absurd hok id
  · rename_i hF
    cases he
    obtain ⟨n, hd, hn, -⟩ := hdec _ _ hF
    obtain rfl : n = 1 := Nat.eq_of_beq_eq_true hn
    unfold z_rok at hok
    split at hok
    · rename_i hv2
      cases hv2
    · rename_i hv2
      cases hv2
    · rename_i hv2
      cases hv2
    · exact W.vret hx hb hr (fun t ht hW => ⟨⟨h, rfl, hR, by rw [ht]; exact hP, va_K.moved hW.alike hK, hD⟩, hS.F ht⟩) hS.2.2 hd hlocks
    · exact absurd hok id
  · cases he
theorem z_GoodV {own' idx : Nat} {y : z_M} {C : String} (h1 : Cond.methodLink (z_own own') idx y.1 ∈ z_AW) (h2 : Cond.instanceMethod y.1 ∈ z_AW) (h3 : Cond.selects C y.1 y.1 ∈ z_AW) (h4 : Cond.initialized C ∈ z_AW) (h5 : Cond.code y.1 y.2.1 y.2.2.1 y.2.2.2.1 ∈ z_AW) : GoodIn z_AW (wsV (z_own own') idx C y.1 (Cond.code y.1 y.2.1 y.2.2.1 y.2.2.2.1 :: z_AW)) := by
  intro w hw
  refine z_AW_good w ?_
  unfold wsV at hw
  simp only [List.cons_append, List.nil_append, List.mem_cons] at hw
  rcases hw with rfl | rfl | rfl | rfl | rfl | hw
  · exact h1
  · exact h2
  · exact h3
  · exact h4
  · exact h5
  · exact hw
theorem z_GoodS {own' idx : Nat} {y : z_M} (h1 : Cond.methodLink (z_own own') idx y.1 ∈ z_AW) (h2 : Cond.static y.1 ∈ z_AW) (h4 : Cond.initialized y.1.cls ∈ z_AW) (h5 : Cond.code y.1 y.2.1 y.2.2.1 y.2.2.2.1 ∈ z_AW) : GoodIn z_AW (va_wsS (z_own own') idx y.1 (Cond.code y.1 y.2.1 y.2.2.1 y.2.2.2.1 :: z_AW)) := by
  intro w hw
  refine z_AW_good w ?_
  unfold va_wsS at hw
  simp only [List.cons_append, List.nil_append, List.mem_cons] at hw
  rcases hw with rfl | rfl | rfl | rfl | hw
  · exact h1
  · exact h2
  · exact h4
  · exact h5
  · exact hw
theorem z_GoodC {y : z_M} (h5 : Cond.code y.1 y.2.1 y.2.2.1 y.2.2.2.1 ∈ z_AW) : GoodIn z_AW (Cond.code y.1 y.2.1 y.2.2.1 y.2.2.2.1 :: z_AW) := by
  intro w hw
  refine z_AW_good w ?_
  rcases List.mem_cons.mp hw with rfl | hw
  · exact h5
  · exact hw
theorem z_blind {av : List Value} {sz : Nat} : FrameBlind (va_Pc av (z_P D cA ad sz h)) := by
  intro a U g mk q
  obtain ⟨q0, q1, qP, qK, qD, qN⟩ := q
  exact ⟨q0, q1, qP, va_K.moved (u := U) (U := U.calling g mk a) (Vm.Alike.refl U.vm) qK, qD, z_N_same (u := U) (U := U.calling g mk a) rfl qN⟩
theorem z_pre {av : List Value} {H : Heap} (hP : va_P D z_cl (z_W cA ad h) H) (hD : va_D A (z_W cA ad h)) (hK : va_K D z_cl (z_tys cA) s) (hN : z_N s) : ∀ U : State, U.heap = H → s.WarmedH U.vm → va_Pc av (z_P D cA ad H.size h) av.toArray U := fun U hU hW => ⟨rfl, by rw [hU], by rw [hU]; exact hP, va_K.moved hW.alike hK, hD.weaken (fun _ _ _ _ => trivial), z_N_warm hW hN⟩
/-- behind a call: the whole world came back -/
theorem z_back {h' : List z_E} {H H1 : Heap} {t : State} (hP : va_P D z_cl (z_W cA ad h) H) (hD : va_D A (z_W cA ad h)) (hF : ∀ q, va_A (z_W cA ad h) H.size q → A q) (ht : t.heap = H1) (hB : z_B D cA ad (va_A (z_W cA ad h) H.size) h' t) (hk : ∀ q : Nat, q < H.size → ¬ va_A (z_W cA ad h) H.size q → H1[q]? = H[q]?) : va_P D z_cl (z_W cA ad h') H1 ∧ va_D A (z_W cA ad h') := by
  obtain ⟨hP1, -, hD1⟩ := hB
  rw [ht] at hP1
  exact va_join (wr := []) (wc := z_W cA ad h) hP hD (List.range (z_W cA ad h).length) [] (z_all _) rfl rfl (fun i hi => by cases hi) hk hF hP1 hD1
/-- a call, once it runs -/
theorem zs_after {y : z_M} {P : z_T} {rest : List Value} {H : Heap} {locs : List Loc} {ls : Array Slot} {a : Array Value} {g : List Value} (hl : lv_has ls nL (z_lm ad lv)) (hP : va_P D z_cl (z_W cA ad h) H) (hD : va_D A (z_W cA ad h)) (hS : va_S A H0 H locs) (hA : ∀ q, H0.size ≤ q → A q) (k : ∀ (r : Option Value) (h' : List z_E), P r h' → z_G p l e R s m args below meth c Q A H0 D cA ad nL (pc + 3, lv, r.toList ++ rest, h')) (hr : va_Run p l e R s m args below meth c H locs 0 0 0 0 (F0 m pc ls g) (rest.map (z_re ad)) (z_Q y.2.2.2.1 P D cA ad (va_A (z_W cA ad h) H.size) a) (va_A (z_W cA ad h) H.size)) : W p l e R s m args below meth c H locs 0 0 Q (F0 m pc ls g) := by
  have hF : ∀ q, va_A (z_W cA ad h) H.size q → A q := va_free hD hS hA (List.range (z_W cA ad h).length) (z_all _)
  generalize y.2.2.2.1 = ret at hr
  unfold z_Q at hr
  split at hr
  · refine va_callv hr hS (fun q _ h => hF q h) hF (fun u t H1 locs1 ht hvm hw hB hz1 hk1 hS1 => ?_)
    obtain ⟨hP1, hD1⟩ := z_back hP hD hF ht hB hk1
    exact k none u hw H1 locs1 ls hl hP1 hD1 hS1
  · refine va_calll hr hS (fun q _ h => hF q h) hF (fun r u t H1 locs1 ht hvm hw hB hz1 hk1 hS1 => ?_)
    obtain ⟨hP1, hD1⟩ := z_back hP hD hF ht hB hk1
    exact k (some (.long r)) u hw H1 locs1 ls hl hP1 hD1 hS1
  · refine va_calli hr hS (fun q _ h => hF q h) hF (fun r u t H1 locs1 ht hvm hw hB hz1 hk1 hS1 => ?_)
    obtain ⟨hP1, hD1⟩ := z_back hP hD hF ht hB hk1
    exact k (some (.int r)) u hw H1 locs1 ls hl hP1 hD1 hS1
theorem zs_call {q : z_M} {d : Nat} {P : z_T} {y : Nat} {av rest : List Value} (hx : p.tables.exec = Jvm.exec) (hb : c.code = q.2.1) (hml : c.maxLocals = nL) (hts : ∀ w ∈ z_AW, w.before args s = true) (hN : z_N s) (hown : s.vm.findClass (z_own q.2.2.2.2.1) = some m.cls) (hK : va_K D z_cl (z_tys cA) s) (hdec : ∀ (pc : Nat) (i : Instr), z_F q pc = some i → ∃ n : Nat, decode q.2.1 pc = .ok (i, n) ∧ z_lenok i n = true ∧ z_cok i = true) (hA : ∀ q, H0.size ≤ q → A q) (hRf : d + 1 ≤ R.frames) (hRl : 64 * (d + 1) ≤ R.locals)
    (hM : ∀ qy : z_M, z_mt[y]? = some qy → ∀ sz : Nat, Met l qy.1 (Cond.code qy.1 qy.2.1 qy.2.2.1 qy.2.2.2.1 :: z_AW) (z_rm d) (va_Pc (av.map (z_re ad)) (z_P D cA ad sz h)) (z_Q qy.2.2.2.1 P D cA ad (va_A (z_W cA ad h) sz)) 0 0 (va_A (z_W cA ad h) sz))
    (hci : z_cin q (pc, lv, st, h) = some (y, av, rest)) (k : ∀ (r : Option Value) (h' : List z_E), P r h' → z_G p l e R s m args below meth c Q A H0 D cA ad nL (pc + 3, lv, r.toList ++ rest, h')) : z_G p l e R s m args below meth c Q A H0 D cA ad nL (pc, lv, st, h) := by
  intro H locs ls hl hP hD hS
  unfold z_cin at hci
  simp only at hci
  split at hci
  · rename_i idx hF
    obtain ⟨n, hd, hn, -⟩ := hdec _ _ hF
    obtain rfl : n = 3 := Nat.eq_of_beq_eq_true hn
    split at hci
    · rename_i y' na ci x hk
      have hg := z_lk_ok _ _ _ hk
      split at hci
      · rename_i b r hdrop
        split at hci
        · rename_i cj fs hh
          cases hq : (Nat.beq cj ci && z_cat r) with
          | false => rw [hq] at hci; cases hci
          | true =>
            rw [hq] at hci
            cases hci
            rw [Bool.and_eq_true] at hq
            obtain rfl := Nat.eq_of_beq_eq_true hq.1
            have hcat : (rest.map fun v => v.category).sum ≤ 8 := Nat.le_of_ble_eq_true hq.2
            unfold z_lgood at hg
            split at hg
            · cases hg
            · simp only at hg
              split at hg
              · rename_i qy C T N hy hcl
                simp only [Bool.and_eq_true] at hg
                obtain ⟨g1, g2, g3, g4, g5, g6⟩ := hg
                have hyf := z_m_of hy
                have hC : qy.1.cls = C := of_decide_eq_true g1
                have hnp : (parseMethodDescriptor qy.1.desc).map (fun d => d.parameters.length) = some na := of_decide_eq_true g2
                have hlen : na ≤ st.length := by
                  rcases Nat.lt_or_ge st.length na with q | q
                  · rw [List.drop_eq_nil_of_le (by omega)] at hdrop; cases hdrop
                  · exact q
                have hst : st = st.take na ++ .ref b :: rest := by rw [← hdrop, List.take_append_drop]
                refine zs_after (y := qy) hl hP hD hS hA k (va_runV (As := ((st.take na).reverse).map (z_re ad)) (own := z_own q.2.2.2.2.1) (index := idx) (C := C) (nL := nL) ⟨hx, hb, hml, hown, hts⟩ (hM qy hy H.size) (cwV na hts (z_GoodV (z_word_mem g3) (z_word_mem g4) (z_word_mem g5) (z_word_mem g6) hyf.1) rfl rfl rfl ⟨hC, hyf.2.2.2.2.1.1, hyf.2.2.2.2.1.2, hnp⟩ ⟨hRf, by show 8 + (qy.2.2.1 + 11) + 64 * d ≤ R.locals; have := hyf.2.2.1; omega⟩) ⟨z_blind, va_recv hK hP hcl (z_W_get hh), z_pre hP hD hK hN⟩ rfl (by simp [hlen]) hl.1 ?_ (lv_room (by rw [z_re_cats]; exact hcat)) hd ⟨Nat.zero_le _, Nat.zero_le _⟩)
                show st.map (z_re ad) = _
                rw [List.map_reverse, List.reverse_reverse]
                exact (congrArg (List.map (z_re ad)) hst).trans List.map_append
              · cases hg
        · cases hci
      · cases hci
    · cases hci
  · rename_i idx hF
    obtain ⟨n, hd, hn, -⟩ := hdec _ _ hF
    obtain rfl : n = 3 := Nat.eq_of_beq_eq_true hn
    split at hci
    · rename_i y' na x1 x2 hk
      have hg := z_lk_ok _ _ _ hk
      cases hq : (Nat.ble na st.length && z_cat (st.drop na)) with
      | false => rw [hq] at hci; cases hci
      | true =>
        rw [hq] at hci
        cases hci
        rw [Bool.and_eq_true] at hq
        have hlen := Nat.le_of_ble_eq_true hq.1
        have hcat : ((st.drop na).map fun v => v.category).sum ≤ 8 := Nat.le_of_ble_eq_true hq.2
        unfold z_lgood at hg
        split at hg
        · cases hg
        · simp only at hg
          split at hg
          · rename_i qy hy
            simp only [Bool.and_eq_true] at hg
            obtain ⟨g2, g3, g4, g6⟩ := hg
            have hyf := z_m_of hy
            have hnp : (parseMethodDescriptor qy.1.desc).map (fun d => d.parameters.length) = some na := of_decide_eq_true g2
            refine zs_after (y := qy) hl hP hD hS hA k (va_runS (As := ((st.take na).reverse).map (z_re ad)) (own := z_own q.2.2.2.2.1) (index := idx) (nL := nL) ⟨hx, hb, hml, hown, hts⟩ (hM qy hy H.size) (va_cwS na hts (z_GoodS (z_word_mem g3) (z_word_mem g4) (z_word_mem g6) hyf.1) rfl rfl rfl ⟨hyf.2.2.2.2.1.1, hyf.2.2.2.2.1.2, hnp⟩ ⟨hRf, by show 8 + (qy.2.2.1 + 11) + 64 * d ≤ R.locals; have := hyf.2.2.1; omega⟩) ⟨z_blind, z_pre hP hD hK hN⟩ rfl (by simp [hlen]) hl.1 ?_ (lv_room (by rw [z_re_cats]; exact hcat)) hd ⟨Nat.zero_le _, Nat.zero_le _⟩)
            show st.map (z_re ad) = _
            rw [List.map_reverse, List.reverse_reverse, ← List.map_append, List.take_append_drop]
          · cases hg
    · rename_i y' na x1 x2 hk
      have hg := z_lk_ok _ _ _ hk
      cases hq : (Nat.ble na st.length && z_cat (st.drop na)) with
      | false => rw [hq] at hci; cases hci
      | true =>
        rw [hq] at hci
        cases hci
        rw [Bool.and_eq_true] at hq
        have hlen := Nat.le_of_ble_eq_true hq.1
        have hcat : ((st.drop na).map fun v => v.category).sum ≤ 8 := Nat.le_of_ble_eq_true hq.2
        unfold z_lgood at hg
        split at hg
        · cases hg
        · simp only at hg
          split at hg
          · rename_i qy hy
            simp only [Bool.and_eq_true] at hg
            obtain ⟨g2, g3, g4, g6⟩ := hg
            have hyf := z_m_of hy
            have hnp : (parseMethodDescriptor qy.1.desc).map (fun d => d.parameters.length) = some na := of_decide_eq_true g2
            refine zs_after (y := qy) hl hP hD hS hA k (va_runSN (As := ((st.take na).reverse).map (z_re ad)) (own := z_own q.2.2.2.2.1) (index := idx) (nL := nL) (host := RX5) ⟨hx, hb, hml, hown, hts⟩ (hM qy hy H.size) ⟨va_cnB na hts (z_GoodC hyf.1) rfl rfl rfl (hN _ (z_wordN_mem g3)) (hts _ (z_word_mem g6)) ⟨hyf.2.2.2.2.1.1, hyf.2.2.2.2.1.2, hnp⟩ ⟨hRf, by show 8 + (qy.2.2.1 + 11) + 64 * d ≤ R.locals; have := hyf.2.2.1; omega⟩, hts _ (z_word_mem g4), trivial⟩ ⟨z_blind, z_pre hP hD hK hN⟩ rfl (by simp [hlen]) hl.1 ?_ (lv_room (by rw [z_re_cats]; exact hcat)) hd ⟨Nat.zero_le _, Nat.zero_le _⟩)
            show st.map (z_re ad) = _
            rw [List.map_reverse, List.reverse_reverse, ← List.map_append, List.take_append_drop]
          · cases hg
    · cases hci
  · cases hci
end ZT
theorem z_args_map (ad : Nat → Nat) : ∀ (i : Nat) (av : List Value), lv_args i (av.map (z_re ad)) = z_lm ad (lv_args i av)
  | _, [] => rfl
  | i, v :: t => by
    show (i, z_re ad v) :: lv_args _ (t.map (z_re ad)) = (i, z_re ad v) :: z_lm ad (lv_args _ t)
    rw [z_args_map ad _ t, z_re_cat]
theorem z_sl_len (ad : Nat → Nat) (av : List Value) : (lg_sl (av.map (z_re ad))).length = (lg_sl av).length := by
  induction av with
  | nil => rfl
  | cons v t ih =>
    unfold lg_sl at ih ⊢
    rw [List.map_cons, List.flatMap_cons, List.flatMap_cons, List.length_append, List.length_append, ih, z_re_cat]
    split <;> rfl
/-- THE PURE MACHINE IS SOUND -/
theorem z_snd (l : Launch) (D : va_G) (cA : Nat → ClassId) : ∀ (d y : Nat) (av : List Value) (h : List z_E) (P : z_T), z_CAL d y av h P → ∀ q : z_M, z_mt[y]? = some q → ∀ (ad : Nat → Nat) (sz : Nat), Met l q.1 (Cond.code q.1 q.2.1 q.2.2.1 q.2.2.2.1 :: z_AW) (z_rm d) (va_Pc (av.map (z_re ad)) (z_P D cA ad sz h)) (z_Q q.2.2.2.1 P D cA ad (va_A (z_W cA ad h) sz)) 0 0 (va_A (z_W cA ad h) sz) := by
  intro d
  induction d with
  | zero =>
    intro y av h P hC
    exact absurd hC id
  | succ d ih =>
    intro y av h P hC q hq ad sz
    obtain ⟨q', hq', hlen, hrun⟩ := hC
    obtain rfl : q' = q := Option.some.inj (hq'.symm.trans hq)
    obtain ⟨hcode, hplain, hm45, hcls, hne, hdec⟩ := z_m_of hq
    refine va_MetF (cc := q'.2.1) (maxL := q'.2.2.1) (ret := q'.2.2.2.1) hplain rfl ?_
    intro p e s m args below meth c s₁ B hml hv
    obtain ⟨rfl, hsz, hP, hK, hD0, hN⟩ := hv
    have hx := B.exec
    have hb := B.bytes
    have hr := B.returns
    have hts0 := atoms_spec B.pre
    have hts : ∀ w ∈ z_AW, w.before (av.map (z_re ad)).toArray s = true := fun w hw => hts0 w (List.mem_cons_of_mem _ hw)
    have hown : s.vm.findClass (z_own q'.2.2.2.2.1) = some m.cls := by
      rw [← hcls]
      exact findClass_of_methodNamed B.named
    have hlocks := B.notSynchronized
    subst hsz
    have hD := hD0.self (sz := s.heap.size)
    have hl := lv_entry (av.map (z_re ad)) (n := q'.2.2.1) (by rw [z_sl_len]; exact hlen)
    rw [lg_entry_eq]
    rw [z_args_map] at hl
    refine hrun (z_G p l e (z_rm (d + 1)) s m (av.map (z_re ad)).toArray below meth c (MQ below (z_Q q'.2.2.2.1 P D cA ad (va_A (z_W cA ad h) s.heap.size)) (av.map (z_re ad)).toArray s 0 0 (va_A (z_W cA ad h) s.heap.size)) (va_A (z_W cA ad h) s.heap.size) s.heap D cA ad q'.2.2.1) ⟨?_, ?_, ?_, ?_⟩ s.heap [] _ hl hP hD va_S.rf
    · intro σ σ' hst hk
      obtain ⟨pc, lv, st, h2⟩ := σ
      unfold z_stp at hst
      simp only at hst
      split at hst
      · rename_i i hF
        obtain ⟨n1, hd, hn1, hc1⟩ := hdec _ _ hF
        exact zs_ins hx hb hml hts hN hown hK (Nat.le_add_left 1 d) (by show 64 ≤ 64 * (d + 1); omega) hd hn1 hc1 hst hk
      · cases hst
    · exact fun σ ks hk H locs ls hl hP hD hS => hk H locs ls (by rw [← z_lm_pick]; exact lv_sub hl ks rfl) hP hD hS
    · intro σ r he hok hR
      obtain ⟨pc, lv, st, h2⟩ := σ
      exact zs_end hx hb hr hlocks hdec hK he hok hR
    · intro σ y2 av2 rest P2 hci hC2 hk
      obtain ⟨pc, lv, st, h2⟩ := σ
      exact zs_call hx hb hml hts hN hown hK hdec (fun q h => Or.inr h) (Nat.le_refl _) (Nat.le_refl _) (fun qy hqy sz2 => ih y2 av2 h2 P2 hC2 qy hqy ad sz2) hci hk
