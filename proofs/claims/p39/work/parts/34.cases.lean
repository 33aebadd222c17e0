/-! the law's body -/
section ZC
variable {p : Program} {l : Launch} {e : Env} {R : Room} {s : State} {m : MethodId} {args : Array Value} {below : List Frame} {meth : Method} {c : Code} {Q : State → Prop}
theorem zl_callI {cc : ByteArray} {own C : String} {D : va_G} {cA : Nat → ClassId} {ad : Nat → Nat} {A : Nat → Prop} {H0 H : Heap} {locs : List Loc} {cells slots nL pc idx b ci d y N : Nat} {T : u_T} {fs : List Value} {ls : Array Slot} {av rest : List Value} {h : List z_E} {B : va_W} {P : z_T} {qy : z_M}
    (hx : p.tables.exec = Jvm.exec) (hb : c.code = cc) (hml : c.maxLocals = nL) (hown : s.vm.findClass own = some m.cls) (hts : ∀ w ∈ z_AW, w.before args s = true) (hN : z_N s) (hK : va_K D z_cl (z_tys cA) s) (hRf : d + 1 ≤ R.frames) (hRl : 64 * (d + 1) ≤ R.locals) (hcs : cells ≤ R.cells ∧ slots ≤ R.slots) (hls : ls.size = nL)
    (hA : ∀ q, H0.size ≤ q → A q) (hP : va_P D z_cl (z_W cA ad h ++ B) H) (hD : va_D A (z_W cA ad h ++ B)) (hS : va_S A H0 H locs)
    (hC : z_CAL d y (.ref b :: av) h P) (hy : z_mt[y]? = some qy) (hret : qy.2.2.2.1 = some .int) (hcl : z_cl[ci]? = some (C, T, N)) (hrc : h[b]? = some (.inr (ci, fs)))
    (g1 : qy.1.cls = C) (g2 : Cond.methodLink own idx qy.1 ∈ z_AW) (g3 : Cond.instanceMethod qy.1 ∈ z_AW) (g4 : Cond.selects C qy.1 qy.1 ∈ z_AW) (g5 : Cond.initialized C ∈ z_AW) {na : Nat} (hnp : (parseMethodDescriptor qy.1.desc).map (fun d => d.parameters.length) = some na) (hna : av.length = na)
    (hcat : (rest.map fun v => v.category).sum ≤ 8) (hd : decode cc pc = .ok (.invokevirtual idx, 3))
    (kk : ∀ (r : Int32) (h' : List z_E) (H1 : Heap) (locs1 : List Loc), P (some (.int r)) h' → va_P D z_cl (B ++ z_W cA ad h') H1 → va_D A (B ++ z_W cA ad h') → va_S A H0 H1 locs1 → W p l e R s m args below meth c H1 locs1 cells slots Q (F0 m (pc + 3) ls (.int r :: rest))) :
    W p l e R s m args below meth c H locs cells slots Q (F0 m pc ls ((av.map (z_re ad)).reverse ++ .ref (ad b) :: rest)) := by
  have hF : ∀ q, va_A (z_W cA ad h) H.size q → A q := va_free hD hS hA (List.range (z_W cA ad h).length) (zl_L _ _)
  have hPl := zl_Pl hP
  have hDl := zl_Dl hD
  have hyf := z_m_of hy
  have hM := z_snd l D cA d y _ h P hC qy hy ad H.size
  have hr := va_runV (As := av.map (z_re ad)) (b := ad b) (rest := rest) (g := F0 m pc ls ((av.map (z_re ad)).reverse ++ .ref (ad b) :: rest)) (own := own) (index := idx) (C := C) (nL := nL) (cells := cells) (slots := slots) (H := H) (locs := locs) (below := below) (meth := meth) (e := e) (R := R) ⟨hx, hb, hml, hown, hts⟩ hM (cwV na hts (zl_GoodV g2 g3 g4 g5 hyf.1) rfl rfl rfl ⟨g1, hyf.2.2.2.2.1.1, hyf.2.2.2.2.1.2, hnp⟩ ⟨hRf, by show 8 + (qy.2.2.1 + 11) + 64 * d ≤ R.locals; have := hyf.2.2.1; omega⟩) ⟨z_blind, va_recv hK hPl hcl (z_W_get hrc), z_pre hPl hDl hK hN⟩ rfl (by rw [List.length_map]; exact hna) hls rfl (lv_room hcat) hd ⟨hcs.1, hcs.2⟩
  rw [hret] at hr
  unfold z_Q at hr
  dsimp only at hr
  refine va_calli hr hS (fun q _ h => hF q h) hF (fun r u t H1 locs1 ht hvm hw hB hz1 hk1 hS1 => ?_)
  obtain ⟨hP1, -, hD1⟩ := hB
  rw [ht] at hP1
  obtain ⟨hP2, hD2⟩ := zl_join hP hD hk1 hF hP1 hD1
  exact kk r u H1 locs1 hw hP2 hD2 hS1
theorem zl_callL {cc : ByteArray} {own C : String} {D : va_G} {cA : Nat → ClassId} {ad : Nat → Nat} {A : Nat → Prop} {H0 H : Heap} {locs : List Loc} {cells slots nL pc idx b ci d y N : Nat} {T : u_T} {fs : List Value} {ls : Array Slot} {av rest : List Value} {h : List z_E} {B : va_W} {P : z_T} {qy : z_M}
    (hx : p.tables.exec = Jvm.exec) (hb : c.code = cc) (hml : c.maxLocals = nL) (hown : s.vm.findClass own = some m.cls) (hts : ∀ w ∈ z_AW, w.before args s = true) (hN : z_N s) (hK : va_K D z_cl (z_tys cA) s) (hRf : d + 1 ≤ R.frames) (hRl : 64 * (d + 1) ≤ R.locals) (hcs : cells ≤ R.cells ∧ slots ≤ R.slots) (hls : ls.size = nL)
    (hA : ∀ q, H0.size ≤ q → A q) (hP : va_P D z_cl (z_W cA ad h ++ B) H) (hD : va_D A (z_W cA ad h ++ B)) (hS : va_S A H0 H locs)
    (hC : z_CAL d y (.ref b :: av) h P) (hy : z_mt[y]? = some qy) (hret : qy.2.2.2.1 = some .long) (hcl : z_cl[ci]? = some (C, T, N)) (hrc : h[b]? = some (.inr (ci, fs)))
    (g1 : qy.1.cls = C) (g2 : Cond.methodLink own idx qy.1 ∈ z_AW) (g3 : Cond.instanceMethod qy.1 ∈ z_AW) (g4 : Cond.selects C qy.1 qy.1 ∈ z_AW) (g5 : Cond.initialized C ∈ z_AW) {na : Nat} (hnp : (parseMethodDescriptor qy.1.desc).map (fun d => d.parameters.length) = some na) (hna : av.length = na)
    (hcat : (rest.map fun v => v.category).sum ≤ 8) (hd : decode cc pc = .ok (.invokevirtual idx, 3))
    (kk : ∀ (r : Int64) (h' : List z_E) (H1 : Heap) (locs1 : List Loc), P (some (.long r)) h' → va_P D z_cl (B ++ z_W cA ad h') H1 → va_D A (B ++ z_W cA ad h') → va_S A H0 H1 locs1 → W p l e R s m args below meth c H1 locs1 cells slots Q (F0 m (pc + 3) ls (.long r :: rest))) :
    W p l e R s m args below meth c H locs cells slots Q (F0 m pc ls ((av.map (z_re ad)).reverse ++ .ref (ad b) :: rest)) := by
  have hF : ∀ q, va_A (z_W cA ad h) H.size q → A q := va_free hD hS hA (List.range (z_W cA ad h).length) (zl_L _ _)
  have hPl := zl_Pl hP
  have hDl := zl_Dl hD
  have hyf := z_m_of hy
  have hM := z_snd l D cA d y _ h P hC qy hy ad H.size
  have hr := va_runV (As := av.map (z_re ad)) (b := ad b) (rest := rest) (g := F0 m pc ls ((av.map (z_re ad)).reverse ++ .ref (ad b) :: rest)) (own := own) (index := idx) (C := C) (nL := nL) (cells := cells) (slots := slots) (H := H) (locs := locs) (below := below) (meth := meth) (e := e) (R := R) ⟨hx, hb, hml, hown, hts⟩ hM (cwV na hts (zl_GoodV g2 g3 g4 g5 hyf.1) rfl rfl rfl ⟨g1, hyf.2.2.2.2.1.1, hyf.2.2.2.2.1.2, hnp⟩ ⟨hRf, by show 8 + (qy.2.2.1 + 11) + 64 * d ≤ R.locals; have := hyf.2.2.1; omega⟩) ⟨z_blind, va_recv hK hPl hcl (z_W_get hrc), z_pre hPl hDl hK hN⟩ rfl (by rw [List.length_map]; exact hna) hls rfl (lv_room hcat) hd ⟨hcs.1, hcs.2⟩
  rw [hret] at hr
  unfold z_Q at hr
  dsimp only at hr
  refine va_calll hr hS (fun q _ h => hF q h) hF (fun r u t H1 locs1 ht hvm hw hB hz1 hk1 hS1 => ?_)
  obtain ⟨hP1, -, hD1⟩ := hB
  rw [ht] at hP1
  obtain ⟨hP2, hD2⟩ := zl_join hP hD hk1 hF hP1 hD1
  exact kk r u H1 locs1 hw hP2 hD2 hS1
/-- an int of the script -/
theorem zw_arg {cc : ByteArray} {A : Nat → Prop} {H : Heap} {locs : List Loc} {cells slots pc b L i k : Nat} {xs : Nat → Int32} {ls : Array Slot} {rest : List Value} {z : Int} (hx : p.tables.exec = Jvm.exec) (hb : c.code = cc) (hX : va_X b L xs s s.heap) (hbl : b < s.heap.size) (hbA : ¬ A b) (hS : va_S A s.heap H locs) (hL : L ≤ 2560) (h0 : ls[0]? = some (.val (.ref b))) (h3 : ls[3]? = some (.val (.int (nI i)))) (hi : i + 5 ≤ L) (hk : k < 5) (hz : Int32.ofInt z = nI k)
    (d0 : decode cc pc = .ok (.aload_n 0, 1)) (d1 : decode cc (pc + 1) = .ok (.iload_n 3, 1)) (d2 : decode cc (pc + 1 + 1) = .ok (.iconst z, 1)) (d3 : decode cc (pc + 1 + 1 + 1) = .ok (.iadd, 1)) (d4 : decode cc (pc + 1 + 1 + 1 + 1) = .ok (.iaload, 1))
    (kk : W p l e R s m args below meth c H locs cells slots Q (F0 m (pc + 1 + 1 + 1 + 1 + 1) ls (.int (xs (nI (i + k)).toNatClampNeg) :: rest))) : W p l e R s m args below meth c H locs cells slots Q (F0 m pc ls rest) := by
  refine lv_aload_n hx hb d0 rfl h0 ?_
  refine lv_iload_n hx hb d1 rfl h3 ?_
  refine lv_iconst hx hb d2 hz ?_
  refine lv_iadd hx hb d3 ?_
  rw [nI_add]
  exact va_sld hx hb hX hbl hbA hS (vp_in_nI (by omega) (by omega)) d4 kk
end ZC
theorem zw_recv {hX hM : List z_E} (h : z_JI hX hM) : (∃ fs, hX[0]? = some (.inr (5, fs))) ∧ ∃ fs, hM[0]? = some (.inr (6, fs)) := by
  refine z_JI_el (C := fun hX hM => (∃ fs, hX[0]? = some (.inr (5, fs))) ∧ ∃ fs, hM[0]? = some (.inr (6, fs))) h ?_
  intros
  exact ⟨⟨_, rfl⟩, ⟨_, rfl⟩⟩
theorem zw_lt {i L : Nat} (hi : i ≤ 2560) (hL : L ≤ 2560) (h : ¬ (nI L - 5 < nI i)) : i + 5 ≤ L := by
  have h1 : (nI i).toInt = i := Int32.toInt_ofNat_of_lt (by omega)
  have h2 : (nI L).toInt = L := Int32.toInt_ofNat_of_lt (by omega)
  have h5 : (nI L - 5).toInt = (L : Int) - 5 := by
    rw [Int32.toInt_sub, h2, show (5 : Int32).toInt = 5 from by decide]
    rw [Int.bmod_eq_of_le (by omega) (by omega)]
  rw [Int32.lt_iff_toInt_lt, h1, h5] at h
  omega
theorem zw_and (x : Int32) : 0 ≤ (x &&& 63).toInt ∧ (x &&& 63).toInt ≤ 63 := by
  have h : (x &&& 63).toInt = ((x.toBitVec &&& 63#32) : BitVec 32).toInt := rfl
  have h2 : ((x.toBitVec &&& 63#32) : BitVec 32).toNat ≤ 63 := by
    rw [BitVec.toNat_and]
    exact Nat.and_le_right
  rw [h, BitVec.toInt_eq_toNat_cond]
  split <;> omega
/-! THE CLAIM OUT OF ONE WALK OF THE LAW'S BODY. Your part is whole_start (and what it stands on); all else here is the same for every law, but numbers. -/
def R_law : String := "BallotWaysLaw"
def lw_P (b : Addr) (xs : List Int32) (args : Array Value) (s : State) : Prop := args = #[.ref b] ∧ s.IntsAt b xs ∧ xs.length ≤ 2560 ∧ (Jvm.Cond.and given_1 narrow_1).before args s = true
def lw_Q (_ : Array Value) (s : State) (o : Outcome) (t : State) : Prop := o = .returned (some (.int 1)) ∧ Framed s o t [] 600000 7302250
def lw_Z (below : List Frame) (a : Array Value) (s : State) : State → Prop := fun t => ∃ o, t.status = .running ∧ Ended t below o ∧ lw_Q a s o t
/-- the law's own end, with 1 on the stack, nothing written that was there before, its room as the claim has it -/
theorem lw_ret {p : Program} {l : Launch} {e : Env} {s : State} {m : MethodId} {below : List Frame} {meth : Method} {c : Code} {b : Nat} (hx : p.tables.exec = Jvm.exec) (hb : c.code = code) (hr : meth.sig.returnType = ret) (hlocks : meth.locks = false) {pc : Nat} {H : Heap} {ls : Array Slot} (hdg : decode code pc = .ok (.ireturn, 1)) : W p l e room_1 s m #[Value.ref b] below meth c H [] 600000 7302250 (lw_Z below #[Value.ref b] s) (F0 m pc ls [.int 1]) := by
  intro T hT X
  obtain ⟨fs, hret, hrun, hended, hW, hframe⟩ := X.leave (v := some (.int 1)) (hlocks := hlocks) (fun h => by rw [hr] at h; cases h)
  have hmeth' : T.vm.method? m = some meth := X.method'
  refine ⟨T.setFrames fs, ?_, .returned (some (.int 1)), hrun, hended, rfl, ⟨_, rfl⟩, hW, hframe⟩
  jvm_step X.here [X.here.top, hx, hb, hdg, hmeth', hr, ret, narrow_b1]
  (try refine ⟨rfl, ?_⟩); (try refine ⟨rfl, ?_⟩)
  first | (intro acts; rw [hret _ acts rfl rfl rfl]) | rw [hret _ _ rfl rfl rfl]
  exact Steps.refl _
/-- what holds at the law's entry: the machine, the code, the tables' words (any of lw_tbl by 'hts w (by decide +kernel)'), the script of L ints xs at the cell b, what the Statement gives of the start (any of its parts by flat_of_before) -/
def lw_At (p : Program) (s : State) (m : MethodId) (meth : Method) (c : Code) (b L : Nat) (xs : Nat → Int32) : Prop :=
  p.tables.exec = Jvm.exec ∧ c.code = code ∧ meth.sig.returnType = ret ∧ c.maxLocals = 4 ∧ s.vm.findClass R_law = some m.cls ∧ (∀ w ∈ lw_tbl, w.before #[Value.ref b] s = true) ∧ va_X b L xs s s.heap ∧ b < s.heap.size ∧ meth.locks = false ∧ (Jvm.Cond.and given_1 narrow_1).before #[Value.ref b] s = true
abbrev cL_law : ByteArray := code
theorem dL_law_208 : decode cL_law 208 = .ok (.aload_n 1, 1) := z_is_ok (by decide +kernel)
theorem dL_law_209 : decode cL_law 209 = .ok (.aload_n 0, 1) := z_is_ok (by decide +kernel)
theorem dL_law_210 : decode cL_law 210 = .ok (.iload_n 3, 1) := z_is_ok (by decide +kernel)
theorem dL_law_211 : decode cL_law 211 = .ok (.iconst 1, 1) := z_is_ok (by decide +kernel)
theorem dL_law_212 : decode cL_law 212 = .ok (.iadd, 1) := z_is_ok (by decide +kernel)
theorem dL_law_213 : decode cL_law 213 = .ok (.iaload, 1) := z_is_ok (by decide +kernel)
theorem dL_law_214 : decode cL_law 214 = .ok (.invokevirtual 13, 3) := z_is_ok (by decide +kernel)
theorem dL_law_217 : decode cL_law 217 = .ok (.pop, 1) := z_is_ok (by decide +kernel)
theorem dL_law_218 : decode cL_law 218 = .ok (.aload_n 2, 1) := z_is_ok (by decide +kernel)
theorem dL_law_219 : decode cL_law 219 = .ok (.aload_n 0, 1) := z_is_ok (by decide +kernel)
theorem dL_law_220 : decode cL_law 220 = .ok (.iload_n 3, 1) := z_is_ok (by decide +kernel)
theorem dL_law_221 : decode cL_law 221 = .ok (.iconst 1, 1) := z_is_ok (by decide +kernel)
theorem dL_law_222 : decode cL_law 222 = .ok (.iadd, 1) := z_is_ok (by decide +kernel)
theorem dL_law_223 : decode cL_law 223 = .ok (.iaload, 1) := z_is_ok (by decide +kernel)
theorem dL_law_224 : decode cL_law 224 = .ok (.invokevirtual 17, 3) := z_is_ok (by decide +kernel)
theorem dL_law_227 : decode cL_law 227 = .ok (.pop, 1) := z_is_ok (by decide +kernel)
theorem dL_law_228 : decode cL_law 228 = .ok (.goto 1061, 3) := z_is_ok (by decide +kernel)
set_option maxHeartbeats 4000000 in
set_option maxRecDepth 100000 in
theorem zw_case_0 {p : Program} {l : Launch} {e : Env} {s : State} {m : MethodId} {below : List Frame} {meth : Method} {c : Code} {D : va_G} {cA : Nat → ClassId} {b L : Nat} {xs : Nat → Int32} (hL : L ≤ 2560) (hx : p.tables.exec = Jvm.exec) (hb : c.code = code) (hr : meth.sig.returnType = ret) (hml : c.maxLocals = 4) (hown : s.vm.findClass R_law = some m.cls) (hts : ∀ w ∈ z_AW, w.before #[Value.ref b] s = true) (hN : z_N s) (hK : va_K D z_cl (z_tys cA) s) (hX : va_X b L xs s s.heap) (hbl : b < s.heap.size) (hlocks : meth.locks = false) {i : Nat} (hi : i + 5 ≤ L) {adX adM : Nat → Nat} {kX kM : List z_E} (hJ : z_JI kX kM) {H : Heap} {locs : List Loc} (hP : va_P D z_cl (z_W cA adX kX ++ z_W cA adM kM) H) (hD : va_D (fun q : Nat => s.heap.size ≤ q) (z_W cA adX kX ++ z_W cA adM kM)) (hS : va_S (fun q : Nat => s.heap.size ≤ q) s.heap H locs) {ls : Array Slot} (hl : lv_has ls 4 [(0, .ref b), (1, .ref (adX 0)), (2, .ref (adM 0)), (3, .int (nI i))])
    (next : ∀ (kX kM : List z_E) (H : Heap) (locs : List Loc), z_JI kX kM → va_P D z_cl (z_W cA adX kX ++ z_W cA adM kM) H → va_D (fun q : Nat => s.heap.size ≤ q) (z_W cA adX kX ++ z_W cA adM kM) → va_S (fun q : Nat => s.heap.size ≤ q) s.heap H locs → W p l e room_1 s m #[Value.ref b] below meth c H locs 600000 7302250 (lw_Z below #[Value.ref b] s) (F0 m 1289 ls [])) : W p l e room_1 s m #[Value.ref b] below meth c H locs 600000 7302250 (lw_Z below #[Value.ref b] s) (F0 m 208 ls []) := by
  have hA : ∀ q : Nat, s.heap.size ≤ q → (fun q : Nat => s.heap.size ≤ q) q := fun _ h => h
  have hbA : ¬ (fun q : Nat => s.heap.size ≤ q) b := Nat.not_le.mpr hbl
  obtain ⟨⟨fX, eX⟩, fM, eM⟩ := zw_recv hJ
  obtain ⟨PX, PM, cX, cM, hT⟩ := pr_begin hJ ((xs (nI (i + 1)).toNatClampNeg))
  refine lv_aload_n hx hb dL_law_208 rfl (lv_at hl 1 rfl) ?_
  refine zw_arg (k := 1) hx hb hX hbl hbA hS hL (lv_at hl 0 rfl) (lv_at hl 3 rfl) hi (by decide) rfl dL_law_209 dL_law_210 dL_law_211 dL_law_212 dL_law_213 ?_
  refine zl_callI (own := R_law) (av := [.int (xs (nI (i + 1)).toNatClampNeg)]) (rest := []) (ad := adX) (b := 0) (ci := 5) (B := z_W cA adM kM) (h := kX) (d := 60) (y := 77) hx hb hml hown hts hN hK (by decide) (by decide) ⟨Nat.le_refl _, Nat.le_refl _⟩ hl.1 hA hP hD hS cX rfl rfl rfl eX rfl (z_t1 (i := 191) rfl rfl) (z_t1 (i := 192) rfl rfl) (z_t1 (i := 193) rfl rfl) (z_t1 (i := 1) rfl rfl) (na := 1) (by decide +kernel) rfl (Nat.le_of_ble_eq_true rfl) dL_law_214 (fun r1 kX2 H locs hq1 hP hD hS => ?_)
  refine lv_pop hx hb dL_law_217 rfl ?_
  refine lv_aload_n hx hb dL_law_218 rfl (lv_at hl 2 rfl) ?_
  refine zw_arg (k := 1) hx hb hX hbl hbA hS hL (lv_at hl 0 rfl) (lv_at hl 3 rfl) hi (by decide) rfl dL_law_219 dL_law_220 dL_law_221 dL_law_222 dL_law_223 ?_
  refine zl_callI (own := R_law) (av := [.int (xs (nI (i + 1)).toNatClampNeg)]) (rest := []) (ad := adM) (b := 0) (ci := 6) (B := z_W cA adX kX2) (h := kM) (d := 60) (y := 141) hx hb hml hown hts hN hK (by decide) (by decide) ⟨Nat.le_refl _, Nat.le_refl _⟩ hl.1 hA hP hD hS cM rfl rfl rfl eM rfl (z_t4 (i := 122) rfl rfl) (z_t4 (i := 123) rfl rfl) (z_t4 (i := 124) rfl rfl) (z_t1 (i := 8) rfl rfl) (na := 1) (by decide +kernel) rfl (Nat.le_of_ble_eq_true rfl) dL_law_224 (fun r2 kM2 H locs hq2 hP hD hS => ?_)
  refine lv_pop hx hb dL_law_227 rfl ?_
  refine lv_goto (tgt := 1289) hx hb dL_law_228 (by decide) ?_
  exact next _ _ _ _ (hT _ _ _ _ hq1 hq2).1 hP hD hS
theorem dL_law_231 : decode cL_law 231 = .ok (.aload_n 1, 1) := z_is_ok (by decide +kernel)
theorem dL_law_232 : decode cL_law 232 = .ok (.aload_n 0, 1) := z_is_ok (by decide +kernel)
theorem dL_law_233 : decode cL_law 233 = .ok (.iload_n 3, 1) := z_is_ok (by decide +kernel)
theorem dL_law_234 : decode cL_law 234 = .ok (.iconst 1, 1) := z_is_ok (by decide +kernel)
theorem dL_law_235 : decode cL_law 235 = .ok (.iadd, 1) := z_is_ok (by decide +kernel)
theorem dL_law_236 : decode cL_law 236 = .ok (.iaload, 1) := z_is_ok (by decide +kernel)
theorem dL_law_237 : decode cL_law 237 = .ok (.aload_n 0, 1) := z_is_ok (by decide +kernel)
theorem dL_law_238 : decode cL_law 238 = .ok (.iload_n 3, 1) := z_is_ok (by decide +kernel)
theorem dL_law_239 : decode cL_law 239 = .ok (.iconst 2, 1) := z_is_ok (by decide +kernel)
theorem dL_law_240 : decode cL_law 240 = .ok (.iadd, 1) := z_is_ok (by decide +kernel)
theorem dL_law_241 : decode cL_law 241 = .ok (.iaload, 1) := z_is_ok (by decide +kernel)
theorem dL_law_242 : decode cL_law 242 = .ok (.invokevirtual 18, 3) := z_is_ok (by decide +kernel)
theorem dL_law_245 : decode cL_law 245 = .ok (.pop, 1) := z_is_ok (by decide +kernel)
theorem dL_law_246 : decode cL_law 246 = .ok (.aload_n 2, 1) := z_is_ok (by decide +kernel)
theorem dL_law_247 : decode cL_law 247 = .ok (.aload_n 0, 1) := z_is_ok (by decide +kernel)
theorem dL_law_248 : decode cL_law 248 = .ok (.iload_n 3, 1) := z_is_ok (by decide +kernel)
theorem dL_law_249 : decode cL_law 249 = .ok (.iconst 1, 1) := z_is_ok (by decide +kernel)
theorem dL_law_250 : decode cL_law 250 = .ok (.iadd, 1) := z_is_ok (by decide +kernel)
theorem dL_law_251 : decode cL_law 251 = .ok (.iaload, 1) := z_is_ok (by decide +kernel)
theorem dL_law_252 : decode cL_law 252 = .ok (.aload_n 0, 1) := z_is_ok (by decide +kernel)
theorem dL_law_253 : decode cL_law 253 = .ok (.iload_n 3, 1) := z_is_ok (by decide +kernel)
theorem dL_law_254 : decode cL_law 254 = .ok (.iconst 2, 1) := z_is_ok (by decide +kernel)
theorem dL_law_255 : decode cL_law 255 = .ok (.iadd, 1) := z_is_ok (by decide +kernel)
theorem dL_law_256 : decode cL_law 256 = .ok (.iaload, 1) := z_is_ok (by decide +kernel)
theorem dL_law_257 : decode cL_law 257 = .ok (.invokevirtual 22, 3) := z_is_ok (by decide +kernel)
theorem dL_law_260 : decode cL_law 260 = .ok (.pop, 1) := z_is_ok (by decide +kernel)
theorem dL_law_261 : decode cL_law 261 = .ok (.goto 1028, 3) := z_is_ok (by decide +kernel)
set_option maxHeartbeats 4000000 in
set_option maxRecDepth 100000 in
theorem zw_case_1 {p : Program} {l : Launch} {e : Env} {s : State} {m : MethodId} {below : List Frame} {meth : Method} {c : Code} {D : va_G} {cA : Nat → ClassId} {b L : Nat} {xs : Nat → Int32} (hL : L ≤ 2560) (hx : p.tables.exec = Jvm.exec) (hb : c.code = code) (hr : meth.sig.returnType = ret) (hml : c.maxLocals = 4) (hown : s.vm.findClass R_law = some m.cls) (hts : ∀ w ∈ z_AW, w.before #[Value.ref b] s = true) (hN : z_N s) (hK : va_K D z_cl (z_tys cA) s) (hX : va_X b L xs s s.heap) (hbl : b < s.heap.size) (hlocks : meth.locks = false) {i : Nat} (hi : i + 5 ≤ L) {adX adM : Nat → Nat} {kX kM : List z_E} (hJ : z_JI kX kM) {H : Heap} {locs : List Loc} (hP : va_P D z_cl (z_W cA adX kX ++ z_W cA adM kM) H) (hD : va_D (fun q : Nat => s.heap.size ≤ q) (z_W cA adX kX ++ z_W cA adM kM)) (hS : va_S (fun q : Nat => s.heap.size ≤ q) s.heap H locs) {ls : Array Slot} (hl : lv_has ls 4 [(0, .ref b), (1, .ref (adX 0)), (2, .ref (adM 0)), (3, .int (nI i))])
    (next : ∀ (kX kM : List z_E) (H : Heap) (locs : List Loc), z_JI kX kM → va_P D z_cl (z_W cA adX kX ++ z_W cA adM kM) H → va_D (fun q : Nat => s.heap.size ≤ q) (z_W cA adX kX ++ z_W cA adM kM) → va_S (fun q : Nat => s.heap.size ≤ q) s.heap H locs → W p l e room_1 s m #[Value.ref b] below meth c H locs 600000 7302250 (lw_Z below #[Value.ref b] s) (F0 m 1289 ls [])) : W p l e room_1 s m #[Value.ref b] below meth c H locs 600000 7302250 (lw_Z below #[Value.ref b] s) (F0 m 231 ls []) := by
  have hA : ∀ q : Nat, s.heap.size ≤ q → (fun q : Nat => s.heap.size ≤ q) q := fun _ h => h
  have hbA : ¬ (fun q : Nat => s.heap.size ≤ q) b := Nat.not_le.mpr hbl
  obtain ⟨⟨fX, eX⟩, fM, eM⟩ := zw_recv hJ
  obtain ⟨PX, PM, cX, cM, hT⟩ := pr_out hJ ((xs (nI (i + 1)).toNatClampNeg)) ((xs (nI (i + 2)).toNatClampNeg))
  refine lv_aload_n hx hb dL_law_231 rfl (lv_at hl 1 rfl) ?_
  refine zw_arg (k := 1) hx hb hX hbl hbA hS hL (lv_at hl 0 rfl) (lv_at hl 3 rfl) hi (by decide) rfl dL_law_232 dL_law_233 dL_law_234 dL_law_235 dL_law_236 ?_
  refine zw_arg (k := 2) hx hb hX hbl hbA hS hL (lv_at hl 0 rfl) (lv_at hl 3 rfl) hi (by decide) rfl dL_law_237 dL_law_238 dL_law_239 dL_law_240 dL_law_241 ?_
  refine zl_callI (own := R_law) (av := [.int (xs (nI (i + 1)).toNatClampNeg), .int (xs (nI (i + 2)).toNatClampNeg)]) (rest := []) (ad := adX) (b := 0) (ci := 5) (B := z_W cA adM kM) (h := kX) (d := 60) (y := 78) hx hb hml hown hts hN hK (by decide) (by decide) ⟨Nat.le_refl _, Nat.le_refl _⟩ hl.1 hA hP hD hS cX rfl rfl rfl eX rfl (z_t1 (i := 196) rfl rfl) (z_t1 (i := 197) rfl rfl) (z_t1 (i := 198) rfl rfl) (z_t1 (i := 1) rfl rfl) (na := 2) (by decide +kernel) rfl (Nat.le_of_ble_eq_true rfl) dL_law_242 (fun r1 kX2 H locs hq1 hP hD hS => ?_)
  refine lv_pop hx hb dL_law_245 rfl ?_
  refine lv_aload_n hx hb dL_law_246 rfl (lv_at hl 2 rfl) ?_
  refine zw_arg (k := 1) hx hb hX hbl hbA hS hL (lv_at hl 0 rfl) (lv_at hl 3 rfl) hi (by decide) rfl dL_law_247 dL_law_248 dL_law_249 dL_law_250 dL_law_251 ?_
  refine zw_arg (k := 2) hx hb hX hbl hbA hS hL (lv_at hl 0 rfl) (lv_at hl 3 rfl) hi (by decide) rfl dL_law_252 dL_law_253 dL_law_254 dL_law_255 dL_law_256 ?_
  refine zl_callI (own := R_law) (av := [.int (xs (nI (i + 1)).toNatClampNeg), .int (xs (nI (i + 2)).toNatClampNeg)]) (rest := []) (ad := adM) (b := 0) (ci := 6) (B := z_W cA adX kX2) (h := kM) (d := 60) (y := 142) hx hb hml hown hts hN hK (by decide) (by decide) ⟨Nat.le_refl _, Nat.le_refl _⟩ hl.1 hA hP hD hS cM rfl rfl rfl eM rfl (z_t4 (i := 131) rfl rfl) (z_t4 (i := 132) rfl rfl) (z_t4 (i := 133) rfl rfl) (z_t1 (i := 8) rfl rfl) (na := 2) (by decide +kernel) rfl (Nat.le_of_ble_eq_true rfl) dL_law_257 (fun r2 kM2 H locs hq2 hP hD hS => ?_)
  refine lv_pop hx hb dL_law_260 rfl ?_
  refine lv_goto (tgt := 1289) hx hb dL_law_261 (by decide) ?_
  exact next _ _ _ _ (hT _ _ _ _ hq1 hq2).1 hP hD hS
theorem dL_law_264 : decode cL_law 264 = .ok (.aload_n 1, 1) := z_is_ok (by decide +kernel)
theorem dL_law_265 : decode cL_law 265 = .ok (.aload_n 0, 1) := z_is_ok (by decide +kernel)
theorem dL_law_266 : decode cL_law 266 = .ok (.iload_n 3, 1) := z_is_ok (by decide +kernel)
theorem dL_law_267 : decode cL_law 267 = .ok (.iconst 1, 1) := z_is_ok (by decide +kernel)
theorem dL_law_268 : decode cL_law 268 = .ok (.iadd, 1) := z_is_ok (by decide +kernel)
theorem dL_law_269 : decode cL_law 269 = .ok (.iaload, 1) := z_is_ok (by decide +kernel)
theorem dL_law_270 : decode cL_law 270 = .ok (.invokevirtual 23, 3) := z_is_ok (by decide +kernel)
theorem dL_law_273 : decode cL_law 273 = .ok (.pop, 1) := z_is_ok (by decide +kernel)
theorem dL_law_274 : decode cL_law 274 = .ok (.aload_n 2, 1) := z_is_ok (by decide +kernel)
theorem dL_law_275 : decode cL_law 275 = .ok (.aload_n 0, 1) := z_is_ok (by decide +kernel)
theorem dL_law_276 : decode cL_law 276 = .ok (.iload_n 3, 1) := z_is_ok (by decide +kernel)
theorem dL_law_277 : decode cL_law 277 = .ok (.iconst 1, 1) := z_is_ok (by decide +kernel)
theorem dL_law_278 : decode cL_law 278 = .ok (.iadd, 1) := z_is_ok (by decide +kernel)
theorem dL_law_279 : decode cL_law 279 = .ok (.iaload, 1) := z_is_ok (by decide +kernel)
theorem dL_law_280 : decode cL_law 280 = .ok (.invokevirtual 26, 3) := z_is_ok (by decide +kernel)
theorem dL_law_283 : decode cL_law 283 = .ok (.pop, 1) := z_is_ok (by decide +kernel)
theorem dL_law_284 : decode cL_law 284 = .ok (.goto 1005, 3) := z_is_ok (by decide +kernel)
set_option maxHeartbeats 4000000 in
set_option maxRecDepth 100000 in
theorem zw_case_2 {p : Program} {l : Launch} {e : Env} {s : State} {m : MethodId} {below : List Frame} {meth : Method} {c : Code} {D : va_G} {cA : Nat → ClassId} {b L : Nat} {xs : Nat → Int32} (hL : L ≤ 2560) (hx : p.tables.exec = Jvm.exec) (hb : c.code = code) (hr : meth.sig.returnType = ret) (hml : c.maxLocals = 4) (hown : s.vm.findClass R_law = some m.cls) (hts : ∀ w ∈ z_AW, w.before #[Value.ref b] s = true) (hN : z_N s) (hK : va_K D z_cl (z_tys cA) s) (hX : va_X b L xs s s.heap) (hbl : b < s.heap.size) (hlocks : meth.locks = false) {i : Nat} (hi : i + 5 ≤ L) {adX adM : Nat → Nat} {kX kM : List z_E} (hJ : z_JI kX kM) {H : Heap} {locs : List Loc} (hP : va_P D z_cl (z_W cA adX kX ++ z_W cA adM kM) H) (hD : va_D (fun q : Nat => s.heap.size ≤ q) (z_W cA adX kX ++ z_W cA adM kM)) (hS : va_S (fun q : Nat => s.heap.size ≤ q) s.heap H locs) {ls : Array Slot} (hl : lv_has ls 4 [(0, .ref b), (1, .ref (adX 0)), (2, .ref (adM 0)), (3, .int (nI i))])
    (next : ∀ (kX kM : List z_E) (H : Heap) (locs : List Loc), z_JI kX kM → va_P D z_cl (z_W cA adX kX ++ z_W cA adM kM) H → va_D (fun q : Nat => s.heap.size ≤ q) (z_W cA adX kX ++ z_W cA adM kM) → va_S (fun q : Nat => s.heap.size ≤ q) s.heap H locs → W p l e room_1 s m #[Value.ref b] below meth c H locs 600000 7302250 (lw_Z below #[Value.ref b] s) (F0 m 1289 ls [])) : W p l e room_1 s m #[Value.ref b] below meth c H locs 600000 7302250 (lw_Z below #[Value.ref b] s) (F0 m 264 ls []) := by
  have hA : ∀ q : Nat, s.heap.size ≤ q → (fun q : Nat => s.heap.size ≤ q) q := fun _ h => h
  have hbA : ¬ (fun q : Nat => s.heap.size ≤ q) b := Nat.not_le.mpr hbl
  obtain ⟨⟨fX, eX⟩, fM, eM⟩ := zw_recv hJ
  obtain ⟨PX, PM, cX, cM, hT⟩ := pr_measure hJ ((xs (nI (i + 1)).toNatClampNeg))
  refine lv_aload_n hx hb dL_law_264 rfl (lv_at hl 1 rfl) ?_
  refine zw_arg (k := 1) hx hb hX hbl hbA hS hL (lv_at hl 0 rfl) (lv_at hl 3 rfl) hi (by decide) rfl dL_law_265 dL_law_266 dL_law_267 dL_law_268 dL_law_269 ?_
  refine zl_callI (own := R_law) (av := [.int (xs (nI (i + 1)).toNatClampNeg)]) (rest := []) (ad := adX) (b := 0) (ci := 5) (B := z_W cA adM kM) (h := kX) (d := 60) (y := 79) hx hb hml hown hts hN hK (by decide) (by decide) ⟨Nat.le_refl _, Nat.le_refl _⟩ hl.1 hA hP hD hS cX rfl rfl rfl eX rfl (z_t1 (i := 220) rfl rfl) (z_t1 (i := 221) rfl rfl) (z_t1 (i := 222) rfl rfl) (z_t1 (i := 1) rfl rfl) (na := 1) (by decide +kernel) rfl (Nat.le_of_ble_eq_true rfl) dL_law_270 (fun r1 kX2 H locs hq1 hP hD hS => ?_)
  refine lv_pop hx hb dL_law_273 rfl ?_
  refine lv_aload_n hx hb dL_law_274 rfl (lv_at hl 2 rfl) ?_
  refine zw_arg (k := 1) hx hb hX hbl hbA hS hL (lv_at hl 0 rfl) (lv_at hl 3 rfl) hi (by decide) rfl dL_law_275 dL_law_276 dL_law_277 dL_law_278 dL_law_279 ?_
  refine zl_callI (own := R_law) (av := [.int (xs (nI (i + 1)).toNatClampNeg)]) (rest := []) (ad := adM) (b := 0) (ci := 6) (B := z_W cA adX kX2) (h := kM) (d := 60) (y := 143) hx hb hml hown hts hN hK (by decide) (by decide) ⟨Nat.le_refl _, Nat.le_refl _⟩ hl.1 hA hP hD hS cM rfl rfl rfl eM rfl (z_t4 (i := 150) rfl rfl) (z_t4 (i := 151) rfl rfl) (z_t4 (i := 152) rfl rfl) (z_t1 (i := 8) rfl rfl) (na := 1) (by decide +kernel) rfl (Nat.le_of_ble_eq_true rfl) dL_law_280 (fun r2 kM2 H locs hq2 hP hD hS => ?_)
  refine lv_pop hx hb dL_law_283 rfl ?_
  refine lv_goto (tgt := 1289) hx hb dL_law_284 (by decide) ?_
  exact next _ _ _ _ (hT _ _ _ _ hq1 hq2).1 hP hD hS
theorem dL_law_287 : decode cL_law 287 = .ok (.aload_n 1, 1) := z_is_ok (by decide +kernel)
theorem dL_law_288 : decode cL_law 288 = .ok (.aload_n 0, 1) := z_is_ok (by decide +kernel)
theorem dL_law_289 : decode cL_law 289 = .ok (.iload_n 3, 1) := z_is_ok (by decide +kernel)
theorem dL_law_290 : decode cL_law 290 = .ok (.iconst 1, 1) := z_is_ok (by decide +kernel)
theorem dL_law_291 : decode cL_law 291 = .ok (.iadd, 1) := z_is_ok (by decide +kernel)
theorem dL_law_292 : decode cL_law 292 = .ok (.iaload, 1) := z_is_ok (by decide +kernel)
theorem dL_law_293 : decode cL_law 293 = .ok (.invokevirtual 27, 3) := z_is_ok (by decide +kernel)
theorem dL_law_296 : decode cL_law 296 = .ok (.pop, 1) := z_is_ok (by decide +kernel)
theorem dL_law_297 : decode cL_law 297 = .ok (.aload_n 2, 1) := z_is_ok (by decide +kernel)
theorem dL_law_298 : decode cL_law 298 = .ok (.aload_n 0, 1) := z_is_ok (by decide +kernel)
theorem dL_law_299 : decode cL_law 299 = .ok (.iload_n 3, 1) := z_is_ok (by decide +kernel)
theorem dL_law_300 : decode cL_law 300 = .ok (.iconst 1, 1) := z_is_ok (by decide +kernel)
theorem dL_law_301 : decode cL_law 301 = .ok (.iadd, 1) := z_is_ok (by decide +kernel)
theorem dL_law_302 : decode cL_law 302 = .ok (.iaload, 1) := z_is_ok (by decide +kernel)
theorem dL_law_303 : decode cL_law 303 = .ok (.invokevirtual 30, 3) := z_is_ok (by decide +kernel)
theorem dL_law_306 : decode cL_law 306 = .ok (.pop, 1) := z_is_ok (by decide +kernel)
theorem dL_law_307 : decode cL_law 307 = .ok (.goto 982, 3) := z_is_ok (by decide +kernel)
set_option maxHeartbeats 4000000 in
set_option maxRecDepth 100000 in
theorem zw_case_3 {p : Program} {l : Launch} {e : Env} {s : State} {m : MethodId} {below : List Frame} {meth : Method} {c : Code} {D : va_G} {cA : Nat → ClassId} {b L : Nat} {xs : Nat → Int32} (hL : L ≤ 2560) (hx : p.tables.exec = Jvm.exec) (hb : c.code = code) (hr : meth.sig.returnType = ret) (hml : c.maxLocals = 4) (hown : s.vm.findClass R_law = some m.cls) (hts : ∀ w ∈ z_AW, w.before #[Value.ref b] s = true) (hN : z_N s) (hK : va_K D z_cl (z_tys cA) s) (hX : va_X b L xs s s.heap) (hbl : b < s.heap.size) (hlocks : meth.locks = false) {i : Nat} (hi : i + 5 ≤ L) {adX adM : Nat → Nat} {kX kM : List z_E} (hJ : z_JI kX kM) {H : Heap} {locs : List Loc} (hP : va_P D z_cl (z_W cA adX kX ++ z_W cA adM kM) H) (hD : va_D (fun q : Nat => s.heap.size ≤ q) (z_W cA adX kX ++ z_W cA adM kM)) (hS : va_S (fun q : Nat => s.heap.size ≤ q) s.heap H locs) {ls : Array Slot} (hl : lv_has ls 4 [(0, .ref b), (1, .ref (adX 0)), (2, .ref (adM 0)), (3, .int (nI i))])
    (next : ∀ (kX kM : List z_E) (H : Heap) (locs : List Loc), z_JI kX kM → va_P D z_cl (z_W cA adX kX ++ z_W cA adM kM) H → va_D (fun q : Nat => s.heap.size ≤ q) (z_W cA adX kX ++ z_W cA adM kM) → va_S (fun q : Nat => s.heap.size ≤ q) s.heap H locs → W p l e room_1 s m #[Value.ref b] below meth c H locs 600000 7302250 (lw_Z below #[Value.ref b] s) (F0 m 1289 ls [])) : W p l e room_1 s m #[Value.ref b] below meth c H locs 600000 7302250 (lw_Z below #[Value.ref b] s) (F0 m 287 ls []) := by
  have hA : ∀ q : Nat, s.heap.size ≤ q → (fun q : Nat => s.heap.size ≤ q) q := fun _ h => h
  have hbA : ¬ (fun q : Nat => s.heap.size ≤ q) b := Nat.not_le.mpr hbl
  obtain ⟨⟨fX, eX⟩, fM, eM⟩ := zw_recv hJ
  obtain ⟨PX, PM, cX, cM, hT⟩ := pr_ahead hJ ((xs (nI (i + 1)).toNatClampNeg))
  refine lv_aload_n hx hb dL_law_287 rfl (lv_at hl 1 rfl) ?_
  refine zw_arg (k := 1) hx hb hX hbl hbA hS hL (lv_at hl 0 rfl) (lv_at hl 3 rfl) hi (by decide) rfl dL_law_288 dL_law_289 dL_law_290 dL_law_291 dL_law_292 ?_
  refine zl_callI (own := R_law) (av := [.int (xs (nI (i + 1)).toNatClampNeg)]) (rest := []) (ad := adX) (b := 0) (ci := 5) (B := z_W cA adM kM) (h := kX) (d := 60) (y := 80) hx hb hml hown hts hN hK (by decide) (by decide) ⟨Nat.le_refl _, Nat.le_refl _⟩ hl.1 hA hP hD hS cX rfl rfl rfl eX rfl (z_t1 (i := 224) rfl rfl) (z_t1 (i := 225) rfl rfl) (z_t1 (i := 226) rfl rfl) (z_t1 (i := 1) rfl rfl) (na := 1) (by decide +kernel) rfl (Nat.le_of_ble_eq_true rfl) dL_law_293 (fun r1 kX2 H locs hq1 hP hD hS => ?_)
  refine lv_pop hx hb dL_law_296 rfl ?_
  refine lv_aload_n hx hb dL_law_297 rfl (lv_at hl 2 rfl) ?_
  refine zw_arg (k := 1) hx hb hX hbl hbA hS hL (lv_at hl 0 rfl) (lv_at hl 3 rfl) hi (by decide) rfl dL_law_298 dL_law_299 dL_law_300 dL_law_301 dL_law_302 ?_
  refine zl_callI (own := R_law) (av := [.int (xs (nI (i + 1)).toNatClampNeg)]) (rest := []) (ad := adM) (b := 0) (ci := 6) (B := z_W cA adX kX2) (h := kM) (d := 60) (y := 145) hx hb hml hown hts hN hK (by decide) (by decide) ⟨Nat.le_refl _, Nat.le_refl _⟩ hl.1 hA hP hD hS cM rfl rfl rfl eM rfl (z_t4 (i := 155) rfl rfl) (z_t4 (i := 156) rfl rfl) (z_t4 (i := 157) rfl rfl) (z_t1 (i := 8) rfl rfl) (na := 1) (by decide +kernel) rfl (Nat.le_of_ble_eq_true rfl) dL_law_303 (fun r2 kM2 H locs hq2 hP hD hS => ?_)
  refine lv_pop hx hb dL_law_306 rfl ?_
  refine lv_goto (tgt := 1289) hx hb dL_law_307 (by decide) ?_
  exact next _ _ _ _ (hT _ _ _ _ hq1 hq2).1 hP hD hS
theorem dL_law_310 : decode cL_law 310 = .ok (.aload_n 1, 1) := z_is_ok (by decide +kernel)
theorem dL_law_311 : decode cL_law 311 = .ok (.aload_n 0, 1) := z_is_ok (by decide +kernel)
theorem dL_law_312 : decode cL_law 312 = .ok (.iload_n 3, 1) := z_is_ok (by decide +kernel)
theorem dL_law_313 : decode cL_law 313 = .ok (.iconst 1, 1) := z_is_ok (by decide +kernel)
theorem dL_law_314 : decode cL_law 314 = .ok (.iadd, 1) := z_is_ok (by decide +kernel)
theorem dL_law_315 : decode cL_law 315 = .ok (.iaload, 1) := z_is_ok (by decide +kernel)
theorem dL_law_316 : decode cL_law 316 = .ok (.invokevirtual 31, 3) := z_is_ok (by decide +kernel)
theorem dL_law_319 : decode cL_law 319 = .ok (.pop, 1) := z_is_ok (by decide +kernel)
theorem dL_law_320 : decode cL_law 320 = .ok (.aload_n 2, 1) := z_is_ok (by decide +kernel)
theorem dL_law_321 : decode cL_law 321 = .ok (.aload_n 0, 1) := z_is_ok (by decide +kernel)
theorem dL_law_322 : decode cL_law 322 = .ok (.iload_n 3, 1) := z_is_ok (by decide +kernel)
theorem dL_law_323 : decode cL_law 323 = .ok (.iconst 1, 1) := z_is_ok (by decide +kernel)
theorem dL_law_324 : decode cL_law 324 = .ok (.iadd, 1) := z_is_ok (by decide +kernel)
theorem dL_law_325 : decode cL_law 325 = .ok (.iaload, 1) := z_is_ok (by decide +kernel)
theorem dL_law_326 : decode cL_law 326 = .ok (.invokevirtual 34, 3) := z_is_ok (by decide +kernel)
theorem dL_law_329 : decode cL_law 329 = .ok (.pop, 1) := z_is_ok (by decide +kernel)
theorem dL_law_330 : decode cL_law 330 = .ok (.goto 959, 3) := z_is_ok (by decide +kernel)
set_option maxHeartbeats 4000000 in
set_option maxRecDepth 100000 in
theorem zw_case_4 {p : Program} {l : Launch} {e : Env} {s : State} {m : MethodId} {below : List Frame} {meth : Method} {c : Code} {D : va_G} {cA : Nat → ClassId} {b L : Nat} {xs : Nat → Int32} (hL : L ≤ 2560) (hx : p.tables.exec = Jvm.exec) (hb : c.code = code) (hr : meth.sig.returnType = ret) (hml : c.maxLocals = 4) (hown : s.vm.findClass R_law = some m.cls) (hts : ∀ w ∈ z_AW, w.before #[Value.ref b] s = true) (hN : z_N s) (hK : va_K D z_cl (z_tys cA) s) (hX : va_X b L xs s s.heap) (hbl : b < s.heap.size) (hlocks : meth.locks = false) {i : Nat} (hi : i + 5 ≤ L) {adX adM : Nat → Nat} {kX kM : List z_E} (hJ : z_JI kX kM) {H : Heap} {locs : List Loc} (hP : va_P D z_cl (z_W cA adX kX ++ z_W cA adM kM) H) (hD : va_D (fun q : Nat => s.heap.size ≤ q) (z_W cA adX kX ++ z_W cA adM kM)) (hS : va_S (fun q : Nat => s.heap.size ≤ q) s.heap H locs) {ls : Array Slot} (hl : lv_has ls 4 [(0, .ref b), (1, .ref (adX 0)), (2, .ref (adM 0)), (3, .int (nI i))])
    (next : ∀ (kX kM : List z_E) (H : Heap) (locs : List Loc), z_JI kX kM → va_P D z_cl (z_W cA adX kX ++ z_W cA adM kM) H → va_D (fun q : Nat => s.heap.size ≤ q) (z_W cA adX kX ++ z_W cA adM kM) → va_S (fun q : Nat => s.heap.size ≤ q) s.heap H locs → W p l e room_1 s m #[Value.ref b] below meth c H locs 600000 7302250 (lw_Z below #[Value.ref b] s) (F0 m 1289 ls [])) : W p l e room_1 s m #[Value.ref b] below meth c H locs 600000 7302250 (lw_Z below #[Value.ref b] s) (F0 m 310 ls []) := by
  have hA : ∀ q : Nat, s.heap.size ≤ q → (fun q : Nat => s.heap.size ≤ q) q := fun _ h => h
  have hbA : ¬ (fun q : Nat => s.heap.size ≤ q) b := Nat.not_le.mpr hbl
  obtain ⟨⟨fX, eX⟩, fM, eM⟩ := zw_recv hJ
  obtain ⟨PX, PM, cX, cM, hT⟩ := pr_shuffle hJ ((xs (nI (i + 1)).toNatClampNeg))
  refine lv_aload_n hx hb dL_law_310 rfl (lv_at hl 1 rfl) ?_
  refine zw_arg (k := 1) hx hb hX hbl hbA hS hL (lv_at hl 0 rfl) (lv_at hl 3 rfl) hi (by decide) rfl dL_law_311 dL_law_312 dL_law_313 dL_law_314 dL_law_315 ?_
  refine zl_callI (own := R_law) (av := [.int (xs (nI (i + 1)).toNatClampNeg)]) (rest := []) (ad := adX) (b := 0) (ci := 5) (B := z_W cA adM kM) (h := kX) (d := 60) (y := 81) hx hb hml hown hts hN hK (by decide) (by decide) ⟨Nat.le_refl _, Nat.le_refl _⟩ hl.1 hA hP hD hS cX rfl rfl rfl eX rfl (z_t1 (i := 232) rfl rfl) (z_t1 (i := 233) rfl rfl) (z_t1 (i := 234) rfl rfl) (z_t1 (i := 1) rfl rfl) (na := 1) (by decide +kernel) rfl (Nat.le_of_ble_eq_true rfl) dL_law_316 (fun r1 kX2 H locs hq1 hP hD hS => ?_)
  refine lv_pop hx hb dL_law_319 rfl ?_
  refine lv_aload_n hx hb dL_law_320 rfl (lv_at hl 2 rfl) ?_
  refine zw_arg (k := 1) hx hb hX hbl hbA hS hL (lv_at hl 0 rfl) (lv_at hl 3 rfl) hi (by decide) rfl dL_law_321 dL_law_322 dL_law_323 dL_law_324 dL_law_325 ?_
  refine zl_callI (own := R_law) (av := [.int (xs (nI (i + 1)).toNatClampNeg)]) (rest := []) (ad := adM) (b := 0) (ci := 6) (B := z_W cA adX kX2) (h := kM) (d := 60) (y := 146) hx hb hml hown hts hN hK (by decide) (by decide) ⟨Nat.le_refl _, Nat.le_refl _⟩ hl.1 hA hP hD hS cM rfl rfl rfl eM rfl (z_t4 (i := 163) rfl rfl) (z_t4 (i := 164) rfl rfl) (z_t4 (i := 165) rfl rfl) (z_t1 (i := 8) rfl rfl) (na := 1) (by decide +kernel) rfl (Nat.le_of_ble_eq_true rfl) dL_law_326 (fun r2 kM2 H locs hq2 hP hD hS => ?_)
  refine lv_pop hx hb dL_law_329 rfl ?_
  refine lv_goto (tgt := 1289) hx hb dL_law_330 (by decide) ?_
  exact next _ _ _ _ (hT _ _ _ _ hq1 hq2).1 hP hD hS
theorem dL_law_333 : decode cL_law 333 = .ok (.aload_n 1, 1) := z_is_ok (by decide +kernel)
theorem dL_law_334 : decode cL_law 334 = .ok (.aload_n 0, 1) := z_is_ok (by decide +kernel)
theorem dL_law_335 : decode cL_law 335 = .ok (.iload_n 3, 1) := z_is_ok (by decide +kernel)
theorem dL_law_336 : decode cL_law 336 = .ok (.iconst 1, 1) := z_is_ok (by decide +kernel)
theorem dL_law_337 : decode cL_law 337 = .ok (.iadd, 1) := z_is_ok (by decide +kernel)
theorem dL_law_338 : decode cL_law 338 = .ok (.iaload, 1) := z_is_ok (by decide +kernel)
theorem dL_law_339 : decode cL_law 339 = .ok (.invokevirtual 35, 3) := z_is_ok (by decide +kernel)
theorem dL_law_342 : decode cL_law 342 = .ok (.pop, 1) := z_is_ok (by decide +kernel)
theorem dL_law_343 : decode cL_law 343 = .ok (.aload_n 2, 1) := z_is_ok (by decide +kernel)
theorem dL_law_344 : decode cL_law 344 = .ok (.aload_n 0, 1) := z_is_ok (by decide +kernel)
theorem dL_law_345 : decode cL_law 345 = .ok (.iload_n 3, 1) := z_is_ok (by decide +kernel)
theorem dL_law_346 : decode cL_law 346 = .ok (.iconst 1, 1) := z_is_ok (by decide +kernel)
theorem dL_law_347 : decode cL_law 347 = .ok (.iadd, 1) := z_is_ok (by decide +kernel)
theorem dL_law_348 : decode cL_law 348 = .ok (.iaload, 1) := z_is_ok (by decide +kernel)
theorem dL_law_349 : decode cL_law 349 = .ok (.invokevirtual 38, 3) := z_is_ok (by decide +kernel)
theorem dL_law_352 : decode cL_law 352 = .ok (.pop, 1) := z_is_ok (by decide +kernel)
theorem dL_law_353 : decode cL_law 353 = .ok (.goto 936, 3) := z_is_ok (by decide +kernel)
set_option maxHeartbeats 4000000 in
set_option maxRecDepth 100000 in
theorem zw_case_5 {p : Program} {l : Launch} {e : Env} {s : State} {m : MethodId} {below : List Frame} {meth : Method} {c : Code} {D : va_G} {cA : Nat → ClassId} {b L : Nat} {xs : Nat → Int32} (hL : L ≤ 2560) (hx : p.tables.exec = Jvm.exec) (hb : c.code = code) (hr : meth.sig.returnType = ret) (hml : c.maxLocals = 4) (hown : s.vm.findClass R_law = some m.cls) (hts : ∀ w ∈ z_AW, w.before #[Value.ref b] s = true) (hN : z_N s) (hK : va_K D z_cl (z_tys cA) s) (hX : va_X b L xs s s.heap) (hbl : b < s.heap.size) (hlocks : meth.locks = false) {i : Nat} (hi : i + 5 ≤ L) {adX adM : Nat → Nat} {kX kM : List z_E} (hJ : z_JI kX kM) {H : Heap} {locs : List Loc} (hP : va_P D z_cl (z_W cA adX kX ++ z_W cA adM kM) H) (hD : va_D (fun q : Nat => s.heap.size ≤ q) (z_W cA adX kX ++ z_W cA adM kM)) (hS : va_S (fun q : Nat => s.heap.size ≤ q) s.heap H locs) {ls : Array Slot} (hl : lv_has ls 4 [(0, .ref b), (1, .ref (adX 0)), (2, .ref (adM 0)), (3, .int (nI i))])
    (next : ∀ (kX kM : List z_E) (H : Heap) (locs : List Loc), z_JI kX kM → va_P D z_cl (z_W cA adX kX ++ z_W cA adM kM) H → va_D (fun q : Nat => s.heap.size ≤ q) (z_W cA adX kX ++ z_W cA adM kM) → va_S (fun q : Nat => s.heap.size ≤ q) s.heap H locs → W p l e room_1 s m #[Value.ref b] below meth c H locs 600000 7302250 (lw_Z below #[Value.ref b] s) (F0 m 1289 ls [])) : W p l e room_1 s m #[Value.ref b] below meth c H locs 600000 7302250 (lw_Z below #[Value.ref b] s) (F0 m 333 ls []) := by
  have hA : ∀ q : Nat, s.heap.size ≤ q → (fun q : Nat => s.heap.size ≤ q) q := fun _ h => h
  have hbA : ¬ (fun q : Nat => s.heap.size ≤ q) b := Nat.not_le.mpr hbl
  obtain ⟨⟨fX, eX⟩, fM, eM⟩ := zw_recv hJ
  obtain ⟨PX, PM, cX, cM, hT⟩ := pr_drawn hJ ((xs (nI (i + 1)).toNatClampNeg))
  refine lv_aload_n hx hb dL_law_333 rfl (lv_at hl 1 rfl) ?_
  refine zw_arg (k := 1) hx hb hX hbl hbA hS hL (lv_at hl 0 rfl) (lv_at hl 3 rfl) hi (by decide) rfl dL_law_334 dL_law_335 dL_law_336 dL_law_337 dL_law_338 ?_
  refine zl_callI (own := R_law) (av := [.int (xs (nI (i + 1)).toNatClampNeg)]) (rest := []) (ad := adX) (b := 0) (ci := 5) (B := z_W cA adM kM) (h := kX) (d := 60) (y := 82) hx hb hml hown hts hN hK (by decide) (by decide) ⟨Nat.le_refl _, Nat.le_refl _⟩ hl.1 hA hP hD hS cX rfl rfl rfl eX rfl (z_t2 (i := 8) rfl rfl) (z_t2 (i := 9) rfl rfl) (z_t2 (i := 10) rfl rfl) (z_t1 (i := 1) rfl rfl) (na := 1) (by decide +kernel) rfl (Nat.le_of_ble_eq_true rfl) dL_law_339 (fun r1 kX2 H locs hq1 hP hD hS => ?_)
  refine lv_pop hx hb dL_law_342 rfl ?_
  refine lv_aload_n hx hb dL_law_343 rfl (lv_at hl 2 rfl) ?_
  refine zw_arg (k := 1) hx hb hX hbl hbA hS hL (lv_at hl 0 rfl) (lv_at hl 3 rfl) hi (by decide) rfl dL_law_344 dL_law_345 dL_law_346 dL_law_347 dL_law_348 ?_
  refine zl_callI (own := R_law) (av := [.int (xs (nI (i + 1)).toNatClampNeg)]) (rest := []) (ad := adM) (b := 0) (ci := 6) (B := z_W cA adX kX2) (h := kM) (d := 60) (y := 147) hx hb hml hown hts hN hK (by decide) (by decide) ⟨Nat.le_refl _, Nat.le_refl _⟩ hl.1 hA hP hD hS cM rfl rfl rfl eM rfl (z_t4 (i := 168) rfl rfl) (z_t4 (i := 169) rfl rfl) (z_t4 (i := 170) rfl rfl) (z_t1 (i := 8) rfl rfl) (na := 1) (by decide +kernel) rfl (Nat.le_of_ble_eq_true rfl) dL_law_349 (fun r2 kM2 H locs hq2 hP hD hS => ?_)
  refine lv_pop hx hb dL_law_352 rfl ?_
  refine lv_goto (tgt := 1289) hx hb dL_law_353 (by decide) ?_
  exact next _ _ _ _ (hT _ _ _ _ hq1 hq2).1 hP hD hS
theorem dL_law_356 : decode cL_law 356 = .ok (.aload_n 1, 1) := z_is_ok (by decide +kernel)
theorem dL_law_357 : decode cL_law 357 = .ok (.aload_n 0, 1) := z_is_ok (by decide +kernel)
theorem dL_law_358 : decode cL_law 358 = .ok (.iload_n 3, 1) := z_is_ok (by decide +kernel)
theorem dL_law_359 : decode cL_law 359 = .ok (.iconst 1, 1) := z_is_ok (by decide +kernel)
theorem dL_law_360 : decode cL_law 360 = .ok (.iadd, 1) := z_is_ok (by decide +kernel)
theorem dL_law_361 : decode cL_law 361 = .ok (.iaload, 1) := z_is_ok (by decide +kernel)
theorem dL_law_362 : decode cL_law 362 = .ok (.invokevirtual 39, 3) := z_is_ok (by decide +kernel)
theorem dL_law_365 : decode cL_law 365 = .ok (.pop, 1) := z_is_ok (by decide +kernel)
theorem dL_law_366 : decode cL_law 366 = .ok (.aload_n 2, 1) := z_is_ok (by decide +kernel)
theorem dL_law_367 : decode cL_law 367 = .ok (.aload_n 0, 1) := z_is_ok (by decide +kernel)
theorem dL_law_368 : decode cL_law 368 = .ok (.iload_n 3, 1) := z_is_ok (by decide +kernel)
theorem dL_law_369 : decode cL_law 369 = .ok (.iconst 1, 1) := z_is_ok (by decide +kernel)
theorem dL_law_370 : decode cL_law 370 = .ok (.iadd, 1) := z_is_ok (by decide +kernel)
theorem dL_law_371 : decode cL_law 371 = .ok (.iaload, 1) := z_is_ok (by decide +kernel)
theorem dL_law_372 : decode cL_law 372 = .ok (.invokevirtual 42, 3) := z_is_ok (by decide +kernel)
theorem dL_law_375 : decode cL_law 375 = .ok (.pop, 1) := z_is_ok (by decide +kernel)
theorem dL_law_376 : decode cL_law 376 = .ok (.goto 913, 3) := z_is_ok (by decide +kernel)
set_option maxHeartbeats 4000000 in
set_option maxRecDepth 100000 in
theorem zw_case_6 {p : Program} {l : Launch} {e : Env} {s : State} {m : MethodId} {below : List Frame} {meth : Method} {c : Code} {D : va_G} {cA : Nat → ClassId} {b L : Nat} {xs : Nat → Int32} (hL : L ≤ 2560) (hx : p.tables.exec = Jvm.exec) (hb : c.code = code) (hr : meth.sig.returnType = ret) (hml : c.maxLocals = 4) (hown : s.vm.findClass R_law = some m.cls) (hts : ∀ w ∈ z_AW, w.before #[Value.ref b] s = true) (hN : z_N s) (hK : va_K D z_cl (z_tys cA) s) (hX : va_X b L xs s s.heap) (hbl : b < s.heap.size) (hlocks : meth.locks = false) {i : Nat} (hi : i + 5 ≤ L) {adX adM : Nat → Nat} {kX kM : List z_E} (hJ : z_JI kX kM) {H : Heap} {locs : List Loc} (hP : va_P D z_cl (z_W cA adX kX ++ z_W cA adM kM) H) (hD : va_D (fun q : Nat => s.heap.size ≤ q) (z_W cA adX kX ++ z_W cA adM kM)) (hS : va_S (fun q : Nat => s.heap.size ≤ q) s.heap H locs) {ls : Array Slot} (hl : lv_has ls 4 [(0, .ref b), (1, .ref (adX 0)), (2, .ref (adM 0)), (3, .int (nI i))])
    (next : ∀ (kX kM : List z_E) (H : Heap) (locs : List Loc), z_JI kX kM → va_P D z_cl (z_W cA adX kX ++ z_W cA adM kM) H → va_D (fun q : Nat => s.heap.size ≤ q) (z_W cA adX kX ++ z_W cA adM kM) → va_S (fun q : Nat => s.heap.size ≤ q) s.heap H locs → W p l e room_1 s m #[Value.ref b] below meth c H locs 600000 7302250 (lw_Z below #[Value.ref b] s) (F0 m 1289 ls [])) : W p l e room_1 s m #[Value.ref b] below meth c H locs 600000 7302250 (lw_Z below #[Value.ref b] s) (F0 m 356 ls []) := by
  have hA : ∀ q : Nat, s.heap.size ≤ q → (fun q : Nat => s.heap.size ≤ q) q := fun _ h => h
  have hbA : ¬ (fun q : Nat => s.heap.size ≤ q) b := Nat.not_le.mpr hbl
  obtain ⟨⟨fX, eX⟩, fM, eM⟩ := zw_recv hJ
  obtain ⟨PX, PM, cX, cM, hT⟩ := pr_feed hJ ((xs (nI (i + 1)).toNatClampNeg))
  refine lv_aload_n hx hb dL_law_356 rfl (lv_at hl 1 rfl) ?_
  refine zw_arg (k := 1) hx hb hX hbl hbA hS hL (lv_at hl 0 rfl) (lv_at hl 3 rfl) hi (by decide) rfl dL_law_357 dL_law_358 dL_law_359 dL_law_360 dL_law_361 ?_
  refine zl_callI (own := R_law) (av := [.int (xs (nI (i + 1)).toNatClampNeg)]) (rest := []) (ad := adX) (b := 0) (ci := 5) (B := z_W cA adM kM) (h := kX) (d := 60) (y := 83) hx hb hml hown hts hN hK (by decide) (by decide) ⟨Nat.le_refl _, Nat.le_refl _⟩ hl.1 hA hP hD hS cX rfl rfl rfl eX rfl (z_t2 (i := 12) rfl rfl) (z_t2 (i := 13) rfl rfl) (z_t2 (i := 14) rfl rfl) (z_t1 (i := 1) rfl rfl) (na := 1) (by decide +kernel) rfl (Nat.le_of_ble_eq_true rfl) dL_law_362 (fun r1 kX2 H locs hq1 hP hD hS => ?_)
  refine lv_pop hx hb dL_law_365 rfl ?_
  refine lv_aload_n hx hb dL_law_366 rfl (lv_at hl 2 rfl) ?_
  refine zw_arg (k := 1) hx hb hX hbl hbA hS hL (lv_at hl 0 rfl) (lv_at hl 3 rfl) hi (by decide) rfl dL_law_367 dL_law_368 dL_law_369 dL_law_370 dL_law_371 ?_
  refine zl_callI (own := R_law) (av := [.int (xs (nI (i + 1)).toNatClampNeg)]) (rest := []) (ad := adM) (b := 0) (ci := 6) (B := z_W cA adX kX2) (h := kM) (d := 60) (y := 148) hx hb hml hown hts hN hK (by decide) (by decide) ⟨Nat.le_refl _, Nat.le_refl _⟩ hl.1 hA hP hD hS cM rfl rfl rfl eM rfl (z_t4 (i := 172) rfl rfl) (z_t4 (i := 173) rfl rfl) (z_t4 (i := 174) rfl rfl) (z_t1 (i := 8) rfl rfl) (na := 1) (by decide +kernel) rfl (Nat.le_of_ble_eq_true rfl) dL_law_372 (fun r2 kM2 H locs hq2 hP hD hS => ?_)
  refine lv_pop hx hb dL_law_375 rfl ?_
  refine lv_goto (tgt := 1289) hx hb dL_law_376 (by decide) ?_
  exact next _ _ _ _ (hT _ _ _ _ hq1 hq2).1 hP hD hS
theorem dL_law_379 : decode cL_law 379 = .ok (.aload_n 1, 1) := z_is_ok (by decide +kernel)
theorem dL_law_380 : decode cL_law 380 = .ok (.invokevirtual 43, 3) := z_is_ok (by decide +kernel)
theorem dL_law_383 : decode cL_law 383 = .ok (.pop, 1) := z_is_ok (by decide +kernel)
theorem dL_law_384 : decode cL_law 384 = .ok (.aload_n 2, 1) := z_is_ok (by decide +kernel)
theorem dL_law_385 : decode cL_law 385 = .ok (.invokevirtual 47, 3) := z_is_ok (by decide +kernel)
theorem dL_law_388 : decode cL_law 388 = .ok (.pop, 1) := z_is_ok (by decide +kernel)
theorem dL_law_389 : decode cL_law 389 = .ok (.goto 900, 3) := z_is_ok (by decide +kernel)
set_option maxHeartbeats 4000000 in
set_option maxRecDepth 100000 in
theorem zw_case_7 {p : Program} {l : Launch} {e : Env} {s : State} {m : MethodId} {below : List Frame} {meth : Method} {c : Code} {D : va_G} {cA : Nat → ClassId} {b L : Nat} {xs : Nat → Int32} (hL : L ≤ 2560) (hx : p.tables.exec = Jvm.exec) (hb : c.code = code) (hr : meth.sig.returnType = ret) (hml : c.maxLocals = 4) (hown : s.vm.findClass R_law = some m.cls) (hts : ∀ w ∈ z_AW, w.before #[Value.ref b] s = true) (hN : z_N s) (hK : va_K D z_cl (z_tys cA) s) (hX : va_X b L xs s s.heap) (hbl : b < s.heap.size) (hlocks : meth.locks = false) {i : Nat} (hi : i + 5 ≤ L) {adX adM : Nat → Nat} {kX kM : List z_E} (hJ : z_JI kX kM) {H : Heap} {locs : List Loc} (hP : va_P D z_cl (z_W cA adX kX ++ z_W cA adM kM) H) (hD : va_D (fun q : Nat => s.heap.size ≤ q) (z_W cA adX kX ++ z_W cA adM kM)) (hS : va_S (fun q : Nat => s.heap.size ≤ q) s.heap H locs) {ls : Array Slot} (hl : lv_has ls 4 [(0, .ref b), (1, .ref (adX 0)), (2, .ref (adM 0)), (3, .int (nI i))])
    (next : ∀ (kX kM : List z_E) (H : Heap) (locs : List Loc), z_JI kX kM → va_P D z_cl (z_W cA adX kX ++ z_W cA adM kM) H → va_D (fun q : Nat => s.heap.size ≤ q) (z_W cA adX kX ++ z_W cA adM kM) → va_S (fun q : Nat => s.heap.size ≤ q) s.heap H locs → W p l e room_1 s m #[Value.ref b] below meth c H locs 600000 7302250 (lw_Z below #[Value.ref b] s) (F0 m 1289 ls [])) : W p l e room_1 s m #[Value.ref b] below meth c H locs 600000 7302250 (lw_Z below #[Value.ref b] s) (F0 m 379 ls []) := by
  have hA : ∀ q : Nat, s.heap.size ≤ q → (fun q : Nat => s.heap.size ≤ q) q := fun _ h => h
  have hbA : ¬ (fun q : Nat => s.heap.size ≤ q) b := Nat.not_le.mpr hbl
  obtain ⟨⟨fX, eX⟩, fM, eM⟩ := zw_recv hJ
  obtain ⟨PX, PM, cX, cM, hT⟩ := pr_clear hJ 
  refine lv_aload_n hx hb dL_law_379 rfl (lv_at hl 1 rfl) ?_
  refine zl_callI (own := R_law) (av := []) (rest := []) (ad := adX) (b := 0) (ci := 5) (B := z_W cA adM kM) (h := kX) (d := 60) (y := 84) hx hb hml hown hts hN hK (by decide) (by decide) ⟨Nat.le_refl _, Nat.le_refl _⟩ hl.1 hA hP hD hS cX rfl rfl rfl eX rfl (z_t2 (i := 20) rfl rfl) (z_t2 (i := 21) rfl rfl) (z_t2 (i := 22) rfl rfl) (z_t1 (i := 1) rfl rfl) (na := 0) (by decide +kernel) rfl (Nat.le_of_ble_eq_true rfl) dL_law_380 (fun r1 kX2 H locs hq1 hP hD hS => ?_)
  refine lv_pop hx hb dL_law_383 rfl ?_
  refine lv_aload_n hx hb dL_law_384 rfl (lv_at hl 2 rfl) ?_
  refine zl_callI (own := R_law) (av := []) (rest := []) (ad := adM) (b := 0) (ci := 6) (B := z_W cA adX kX2) (h := kM) (d := 60) (y := 149) hx hb hml hown hts hN hK (by decide) (by decide) ⟨Nat.le_refl _, Nat.le_refl _⟩ hl.1 hA hP hD hS cM rfl rfl rfl eM rfl (z_t4 (i := 177) rfl rfl) (z_t4 (i := 178) rfl rfl) (z_t4 (i := 179) rfl rfl) (z_t1 (i := 8) rfl rfl) (na := 0) (by decide +kernel) rfl (Nat.le_of_ble_eq_true rfl) dL_law_385 (fun r2 kM2 H locs hq2 hP hD hS => ?_)
  refine lv_pop hx hb dL_law_388 rfl ?_
  refine lv_goto (tgt := 1289) hx hb dL_law_389 (by decide) ?_
  exact next _ _ _ _ (hT _ _ _ _ hq1 hq2).1 hP hD hS
theorem dL_law_392 : decode cL_law 392 = .ok (.aload_n 1, 1) := z_is_ok (by decide +kernel)
theorem dL_law_393 : decode cL_law 393 = .ok (.invokevirtual 48, 3) := z_is_ok (by decide +kernel)
theorem dL_law_396 : decode cL_law 396 = .ok (.pop, 1) := z_is_ok (by decide +kernel)
theorem dL_law_397 : decode cL_law 397 = .ok (.aload_n 2, 1) := z_is_ok (by decide +kernel)
theorem dL_law_398 : decode cL_law 398 = .ok (.invokevirtual 51, 3) := z_is_ok (by decide +kernel)
theorem dL_law_401 : decode cL_law 401 = .ok (.pop, 1) := z_is_ok (by decide +kernel)
theorem dL_law_402 : decode cL_law 402 = .ok (.goto 887, 3) := z_is_ok (by decide +kernel)
set_option maxHeartbeats 4000000 in
set_option maxRecDepth 100000 in
theorem zw_case_8 {p : Program} {l : Launch} {e : Env} {s : State} {m : MethodId} {below : List Frame} {meth : Method} {c : Code} {D : va_G} {cA : Nat → ClassId} {b L : Nat} {xs : Nat → Int32} (hL : L ≤ 2560) (hx : p.tables.exec = Jvm.exec) (hb : c.code = code) (hr : meth.sig.returnType = ret) (hml : c.maxLocals = 4) (hown : s.vm.findClass R_law = some m.cls) (hts : ∀ w ∈ z_AW, w.before #[Value.ref b] s = true) (hN : z_N s) (hK : va_K D z_cl (z_tys cA) s) (hX : va_X b L xs s s.heap) (hbl : b < s.heap.size) (hlocks : meth.locks = false) {i : Nat} (hi : i + 5 ≤ L) {adX adM : Nat → Nat} {kX kM : List z_E} (hJ : z_JI kX kM) {H : Heap} {locs : List Loc} (hP : va_P D z_cl (z_W cA adX kX ++ z_W cA adM kM) H) (hD : va_D (fun q : Nat => s.heap.size ≤ q) (z_W cA adX kX ++ z_W cA adM kM)) (hS : va_S (fun q : Nat => s.heap.size ≤ q) s.heap H locs) {ls : Array Slot} (hl : lv_has ls 4 [(0, .ref b), (1, .ref (adX 0)), (2, .ref (adM 0)), (3, .int (nI i))])
    (next : ∀ (kX kM : List z_E) (H : Heap) (locs : List Loc), z_JI kX kM → va_P D z_cl (z_W cA adX kX ++ z_W cA adM kM) H → va_D (fun q : Nat => s.heap.size ≤ q) (z_W cA adX kX ++ z_W cA adM kM) → va_S (fun q : Nat => s.heap.size ≤ q) s.heap H locs → W p l e room_1 s m #[Value.ref b] below meth c H locs 600000 7302250 (lw_Z below #[Value.ref b] s) (F0 m 1289 ls [])) : W p l e room_1 s m #[Value.ref b] below meth c H locs 600000 7302250 (lw_Z below #[Value.ref b] s) (F0 m 392 ls []) := by
  have hA : ∀ q : Nat, s.heap.size ≤ q → (fun q : Nat => s.heap.size ≤ q) q := fun _ h => h
  have hbA : ¬ (fun q : Nat => s.heap.size ≤ q) b := Nat.not_le.mpr hbl
  obtain ⟨⟨fX, eX⟩, fM, eM⟩ := zw_recv hJ
  obtain ⟨PX, PM, cX, cM, hT⟩ := pr_ballots hJ 
  refine lv_aload_n hx hb dL_law_392 rfl (lv_at hl 1 rfl) ?_
  refine zl_callI (own := R_law) (av := []) (rest := []) (ad := adX) (b := 0) (ci := 5) (B := z_W cA adM kM) (h := kX) (d := 60) (y := 85) hx hb hml hown hts hN hK (by decide) (by decide) ⟨Nat.le_refl _, Nat.le_refl _⟩ hl.1 hA hP hD hS cX rfl rfl rfl eX rfl (z_t2 (i := 28) rfl rfl) (z_t2 (i := 29) rfl rfl) (z_t2 (i := 30) rfl rfl) (z_t1 (i := 1) rfl rfl) (na := 0) (by decide +kernel) rfl (Nat.le_of_ble_eq_true rfl) dL_law_393 (fun r1 kX2 H locs hq1 hP hD hS => ?_)
  refine lv_pop hx hb dL_law_396 rfl ?_
  refine lv_aload_n hx hb dL_law_397 rfl (lv_at hl 2 rfl) ?_
  refine zl_callI (own := R_law) (av := []) (rest := []) (ad := adM) (b := 0) (ci := 6) (B := z_W cA adX kX2) (h := kM) (d := 60) (y := 161) hx hb hml hown hts hN hK (by decide) (by decide) ⟨Nat.le_refl _, Nat.le_refl _⟩ hl.1 hA hP hD hS cM rfl rfl rfl eM rfl (z_t4 (i := 181) rfl rfl) (z_t4 (i := 182) rfl rfl) (z_t4 (i := 183) rfl rfl) (z_t1 (i := 8) rfl rfl) (na := 0) (by decide +kernel) rfl (Nat.le_of_ble_eq_true rfl) dL_law_398 (fun r2 kM2 H locs hq2 hP hD hS => ?_)
  refine lv_pop hx hb dL_law_401 rfl ?_
  refine lv_goto (tgt := 1289) hx hb dL_law_402 (by decide) ?_
  exact next _ _ _ _ (hT _ _ _ _ hq1 hq2).1 hP hD hS
theorem dL_law_405 : decode cL_law 405 = .ok (.aload_n 1, 1) := z_is_ok (by decide +kernel)
theorem dL_law_406 : decode cL_law 406 = .ok (.aload_n 0, 1) := z_is_ok (by decide +kernel)
theorem dL_law_407 : decode cL_law 407 = .ok (.iload_n 3, 1) := z_is_ok (by decide +kernel)
theorem dL_law_408 : decode cL_law 408 = .ok (.iconst 1, 1) := z_is_ok (by decide +kernel)
theorem dL_law_409 : decode cL_law 409 = .ok (.iadd, 1) := z_is_ok (by decide +kernel)
theorem dL_law_410 : decode cL_law 410 = .ok (.iaload, 1) := z_is_ok (by decide +kernel)
theorem dL_law_411 : decode cL_law 411 = .ok (.aload_n 0, 1) := z_is_ok (by decide +kernel)
theorem dL_law_412 : decode cL_law 412 = .ok (.iload_n 3, 1) := z_is_ok (by decide +kernel)
theorem dL_law_413 : decode cL_law 413 = .ok (.iconst 2, 1) := z_is_ok (by decide +kernel)
theorem dL_law_414 : decode cL_law 414 = .ok (.iadd, 1) := z_is_ok (by decide +kernel)
theorem dL_law_415 : decode cL_law 415 = .ok (.iaload, 1) := z_is_ok (by decide +kernel)
theorem dL_law_416 : decode cL_law 416 = .ok (.invokevirtual 52, 3) := z_is_ok (by decide +kernel)
theorem dL_law_419 : decode cL_law 419 = .ok (.pop, 1) := z_is_ok (by decide +kernel)
theorem dL_law_420 : decode cL_law 420 = .ok (.aload_n 2, 1) := z_is_ok (by decide +kernel)
theorem dL_law_421 : decode cL_law 421 = .ok (.aload_n 0, 1) := z_is_ok (by decide +kernel)
theorem dL_law_422 : decode cL_law 422 = .ok (.iload_n 3, 1) := z_is_ok (by decide +kernel)
theorem dL_law_423 : decode cL_law 423 = .ok (.iconst 1, 1) := z_is_ok (by decide +kernel)
theorem dL_law_424 : decode cL_law 424 = .ok (.iadd, 1) := z_is_ok (by decide +kernel)
theorem dL_law_425 : decode cL_law 425 = .ok (.iaload, 1) := z_is_ok (by decide +kernel)
theorem dL_law_426 : decode cL_law 426 = .ok (.aload_n 0, 1) := z_is_ok (by decide +kernel)
theorem dL_law_427 : decode cL_law 427 = .ok (.iload_n 3, 1) := z_is_ok (by decide +kernel)
theorem dL_law_428 : decode cL_law 428 = .ok (.iconst 2, 1) := z_is_ok (by decide +kernel)
theorem dL_law_429 : decode cL_law 429 = .ok (.iadd, 1) := z_is_ok (by decide +kernel)
theorem dL_law_430 : decode cL_law 430 = .ok (.iaload, 1) := z_is_ok (by decide +kernel)
theorem dL_law_431 : decode cL_law 431 = .ok (.invokevirtual 55, 3) := z_is_ok (by decide +kernel)
theorem dL_law_434 : decode cL_law 434 = .ok (.pop, 1) := z_is_ok (by decide +kernel)
theorem dL_law_435 : decode cL_law 435 = .ok (.goto 854, 3) := z_is_ok (by decide +kernel)
set_option maxHeartbeats 4000000 in
set_option maxRecDepth 100000 in
theorem zw_case_9 {p : Program} {l : Launch} {e : Env} {s : State} {m : MethodId} {below : List Frame} {meth : Method} {c : Code} {D : va_G} {cA : Nat → ClassId} {b L : Nat} {xs : Nat → Int32} (hL : L ≤ 2560) (hx : p.tables.exec = Jvm.exec) (hb : c.code = code) (hr : meth.sig.returnType = ret) (hml : c.maxLocals = 4) (hown : s.vm.findClass R_law = some m.cls) (hts : ∀ w ∈ z_AW, w.before #[Value.ref b] s = true) (hN : z_N s) (hK : va_K D z_cl (z_tys cA) s) (hX : va_X b L xs s s.heap) (hbl : b < s.heap.size) (hlocks : meth.locks = false) {i : Nat} (hi : i + 5 ≤ L) {adX adM : Nat → Nat} {kX kM : List z_E} (hJ : z_JI kX kM) {H : Heap} {locs : List Loc} (hP : va_P D z_cl (z_W cA adX kX ++ z_W cA adM kM) H) (hD : va_D (fun q : Nat => s.heap.size ≤ q) (z_W cA adX kX ++ z_W cA adM kM)) (hS : va_S (fun q : Nat => s.heap.size ≤ q) s.heap H locs) {ls : Array Slot} (hl : lv_has ls 4 [(0, .ref b), (1, .ref (adX 0)), (2, .ref (adM 0)), (3, .int (nI i))])
    (next : ∀ (kX kM : List z_E) (H : Heap) (locs : List Loc), z_JI kX kM → va_P D z_cl (z_W cA adX kX ++ z_W cA adM kM) H → va_D (fun q : Nat => s.heap.size ≤ q) (z_W cA adX kX ++ z_W cA adM kM) → va_S (fun q : Nat => s.heap.size ≤ q) s.heap H locs → W p l e room_1 s m #[Value.ref b] below meth c H locs 600000 7302250 (lw_Z below #[Value.ref b] s) (F0 m 1289 ls [])) : W p l e room_1 s m #[Value.ref b] below meth c H locs 600000 7302250 (lw_Z below #[Value.ref b] s) (F0 m 405 ls []) := by
  have hA : ∀ q : Nat, s.heap.size ≤ q → (fun q : Nat => s.heap.size ≤ q) q := fun _ h => h
  have hbA : ¬ (fun q : Nat => s.heap.size ≤ q) b := Nat.not_le.mpr hbl
  obtain ⟨⟨fX, eX⟩, fM, eM⟩ := zw_recv hJ
  obtain ⟨PX, PM, cX, cM, hT⟩ := pr_remove hJ ((xs (nI (i + 1)).toNatClampNeg)) ((xs (nI (i + 2)).toNatClampNeg))
  refine lv_aload_n hx hb dL_law_405 rfl (lv_at hl 1 rfl) ?_
  refine zw_arg (k := 1) hx hb hX hbl hbA hS hL (lv_at hl 0 rfl) (lv_at hl 3 rfl) hi (by decide) rfl dL_law_406 dL_law_407 dL_law_408 dL_law_409 dL_law_410 ?_
  refine zw_arg (k := 2) hx hb hX hbl hbA hS hL (lv_at hl 0 rfl) (lv_at hl 3 rfl) hi (by decide) rfl dL_law_411 dL_law_412 dL_law_413 dL_law_414 dL_law_415 ?_
  refine zl_callI (own := R_law) (av := [.int (xs (nI (i + 1)).toNatClampNeg), .int (xs (nI (i + 2)).toNatClampNeg)]) (rest := []) (ad := adX) (b := 0) (ci := 5) (B := z_W cA adM kM) (h := kX) (d := 60) (y := 86) hx hb hml hown hts hN hK (by decide) (by decide) ⟨Nat.le_refl _, Nat.le_refl _⟩ hl.1 hA hP hD hS cX rfl rfl rfl eX rfl (z_t2 (i := 102) rfl rfl) (z_t2 (i := 103) rfl rfl) (z_t2 (i := 104) rfl rfl) (z_t1 (i := 1) rfl rfl) (na := 2) (by decide +kernel) rfl (Nat.le_of_ble_eq_true rfl) dL_law_416 (fun r1 kX2 H locs hq1 hP hD hS => ?_)
  refine lv_pop hx hb dL_law_419 rfl ?_
  refine lv_aload_n hx hb dL_law_420 rfl (lv_at hl 2 rfl) ?_
  refine zw_arg (k := 1) hx hb hX hbl hbA hS hL (lv_at hl 0 rfl) (lv_at hl 3 rfl) hi (by decide) rfl dL_law_421 dL_law_422 dL_law_423 dL_law_424 dL_law_425 ?_
  refine zw_arg (k := 2) hx hb hX hbl hbA hS hL (lv_at hl 0 rfl) (lv_at hl 3 rfl) hi (by decide) rfl dL_law_426 dL_law_427 dL_law_428 dL_law_429 dL_law_430 ?_
  refine zl_callI (own := R_law) (av := [.int (xs (nI (i + 1)).toNatClampNeg), .int (xs (nI (i + 2)).toNatClampNeg)]) (rest := []) (ad := adM) (b := 0) (ci := 6) (B := z_W cA adX kX2) (h := kM) (d := 60) (y := 163) hx hb hml hown hts hN hK (by decide) (by decide) ⟨Nat.le_refl _, Nat.le_refl _⟩ hl.1 hA hP hD hS cM rfl rfl rfl eM rfl (z_t4 (i := 236) rfl rfl) (z_t4 (i := 237) rfl rfl) (z_t4 (i := 238) rfl rfl) (z_t1 (i := 8) rfl rfl) (na := 2) (by decide +kernel) rfl (Nat.le_of_ble_eq_true rfl) dL_law_431 (fun r2 kM2 H locs hq2 hP hD hS => ?_)
  refine lv_pop hx hb dL_law_434 rfl ?_
  refine lv_goto (tgt := 1289) hx hb dL_law_435 (by decide) ?_
  exact next _ _ _ _ (hT _ _ _ _ hq1 hq2).1 hP hD hS
theorem dL_law_438 : decode cL_law 438 = .ok (.aload_n 1, 1) := z_is_ok (by decide +kernel)
theorem dL_law_439 : decode cL_law 439 = .ok (.aload_n 0, 1) := z_is_ok (by decide +kernel)
theorem dL_law_440 : decode cL_law 440 = .ok (.iload_n 3, 1) := z_is_ok (by decide +kernel)
theorem dL_law_441 : decode cL_law 441 = .ok (.iconst 1, 1) := z_is_ok (by decide +kernel)
theorem dL_law_442 : decode cL_law 442 = .ok (.iadd, 1) := z_is_ok (by decide +kernel)
theorem dL_law_443 : decode cL_law 443 = .ok (.iaload, 1) := z_is_ok (by decide +kernel)
theorem dL_law_444 : decode cL_law 444 = .ok (.aload_n 0, 1) := z_is_ok (by decide +kernel)
theorem dL_law_445 : decode cL_law 445 = .ok (.iload_n 3, 1) := z_is_ok (by decide +kernel)
theorem dL_law_446 : decode cL_law 446 = .ok (.iconst 2, 1) := z_is_ok (by decide +kernel)
theorem dL_law_447 : decode cL_law 447 = .ok (.iadd, 1) := z_is_ok (by decide +kernel)
theorem dL_law_448 : decode cL_law 448 = .ok (.iaload, 1) := z_is_ok (by decide +kernel)
theorem dL_law_449 : decode cL_law 449 = .ok (.invokevirtual 56, 3) := z_is_ok (by decide +kernel)
theorem dL_law_452 : decode cL_law 452 = .ok (.pop, 1) := z_is_ok (by decide +kernel)
theorem dL_law_453 : decode cL_law 453 = .ok (.aload_n 2, 1) := z_is_ok (by decide +kernel)
theorem dL_law_454 : decode cL_law 454 = .ok (.aload_n 0, 1) := z_is_ok (by decide +kernel)
theorem dL_law_455 : decode cL_law 455 = .ok (.iload_n 3, 1) := z_is_ok (by decide +kernel)
theorem dL_law_456 : decode cL_law 456 = .ok (.iconst 1, 1) := z_is_ok (by decide +kernel)
theorem dL_law_457 : decode cL_law 457 = .ok (.iadd, 1) := z_is_ok (by decide +kernel)
theorem dL_law_458 : decode cL_law 458 = .ok (.iaload, 1) := z_is_ok (by decide +kernel)
theorem dL_law_459 : decode cL_law 459 = .ok (.aload_n 0, 1) := z_is_ok (by decide +kernel)
theorem dL_law_460 : decode cL_law 460 = .ok (.iload_n 3, 1) := z_is_ok (by decide +kernel)
theorem dL_law_461 : decode cL_law 461 = .ok (.iconst 2, 1) := z_is_ok (by decide +kernel)
theorem dL_law_462 : decode cL_law 462 = .ok (.iadd, 1) := z_is_ok (by decide +kernel)
theorem dL_law_463 : decode cL_law 463 = .ok (.iaload, 1) := z_is_ok (by decide +kernel)
theorem dL_law_464 : decode cL_law 464 = .ok (.invokevirtual 59, 3) := z_is_ok (by decide +kernel)
theorem dL_law_467 : decode cL_law 467 = .ok (.pop, 1) := z_is_ok (by decide +kernel)
theorem dL_law_468 : decode cL_law 468 = .ok (.goto 821, 3) := z_is_ok (by decide +kernel)
set_option maxHeartbeats 4000000 in
set_option maxRecDepth 100000 in
theorem zw_case_10 {p : Program} {l : Launch} {e : Env} {s : State} {m : MethodId} {below : List Frame} {meth : Method} {c : Code} {D : va_G} {cA : Nat → ClassId} {b L : Nat} {xs : Nat → Int32} (hL : L ≤ 2560) (hx : p.tables.exec = Jvm.exec) (hb : c.code = code) (hr : meth.sig.returnType = ret) (hml : c.maxLocals = 4) (hown : s.vm.findClass R_law = some m.cls) (hts : ∀ w ∈ z_AW, w.before #[Value.ref b] s = true) (hN : z_N s) (hK : va_K D z_cl (z_tys cA) s) (hX : va_X b L xs s s.heap) (hbl : b < s.heap.size) (hlocks : meth.locks = false) {i : Nat} (hi : i + 5 ≤ L) {adX adM : Nat → Nat} {kX kM : List z_E} (hJ : z_JI kX kM) {H : Heap} {locs : List Loc} (hP : va_P D z_cl (z_W cA adX kX ++ z_W cA adM kM) H) (hD : va_D (fun q : Nat => s.heap.size ≤ q) (z_W cA adX kX ++ z_W cA adM kM)) (hS : va_S (fun q : Nat => s.heap.size ≤ q) s.heap H locs) {ls : Array Slot} (hl : lv_has ls 4 [(0, .ref b), (1, .ref (adX 0)), (2, .ref (adM 0)), (3, .int (nI i))])
    (next : ∀ (kX kM : List z_E) (H : Heap) (locs : List Loc), z_JI kX kM → va_P D z_cl (z_W cA adX kX ++ z_W cA adM kM) H → va_D (fun q : Nat => s.heap.size ≤ q) (z_W cA adX kX ++ z_W cA adM kM) → va_S (fun q : Nat => s.heap.size ≤ q) s.heap H locs → W p l e room_1 s m #[Value.ref b] below meth c H locs 600000 7302250 (lw_Z below #[Value.ref b] s) (F0 m 1289 ls [])) : W p l e room_1 s m #[Value.ref b] below meth c H locs 600000 7302250 (lw_Z below #[Value.ref b] s) (F0 m 438 ls []) := by
  have hA : ∀ q : Nat, s.heap.size ≤ q → (fun q : Nat => s.heap.size ≤ q) q := fun _ h => h
  have hbA : ¬ (fun q : Nat => s.heap.size ≤ q) b := Nat.not_le.mpr hbl
  obtain ⟨⟨fX, eX⟩, fM, eM⟩ := zw_recv hJ
  obtain ⟨PX, PM, cX, cM, hT⟩ := pr_ballot hJ ((xs (nI (i + 1)).toNatClampNeg)) ((xs (nI (i + 2)).toNatClampNeg))
  refine lv_aload_n hx hb dL_law_438 rfl (lv_at hl 1 rfl) ?_
  refine zw_arg (k := 1) hx hb hX hbl hbA hS hL (lv_at hl 0 rfl) (lv_at hl 3 rfl) hi (by decide) rfl dL_law_439 dL_law_440 dL_law_441 dL_law_442 dL_law_443 ?_
  refine zw_arg (k := 2) hx hb hX hbl hbA hS hL (lv_at hl 0 rfl) (lv_at hl 3 rfl) hi (by decide) rfl dL_law_444 dL_law_445 dL_law_446 dL_law_447 dL_law_448 ?_
  refine zl_callI (own := R_law) (av := [.int (xs (nI (i + 1)).toNatClampNeg), .int (xs (nI (i + 2)).toNatClampNeg)]) (rest := []) (ad := adX) (b := 0) (ci := 5) (B := z_W cA adM kM) (h := kX) (d := 60) (y := 87) hx hb hml hown hts hN hK (by decide) (by decide) ⟨Nat.le_refl _, Nat.le_refl _⟩ hl.1 hA hP hD hS cX rfl rfl rfl eX rfl (z_t2 (i := 123) rfl rfl) (z_t2 (i := 124) rfl rfl) (z_t2 (i := 125) rfl rfl) (z_t1 (i := 1) rfl rfl) (na := 2) (by decide +kernel) rfl (Nat.le_of_ble_eq_true rfl) dL_law_449 (fun r1 kX2 H locs hq1 hP hD hS => ?_)
  refine lv_pop hx hb dL_law_452 rfl ?_
  refine lv_aload_n hx hb dL_law_453 rfl (lv_at hl 2 rfl) ?_
  refine zw_arg (k := 1) hx hb hX hbl hbA hS hL (lv_at hl 0 rfl) (lv_at hl 3 rfl) hi (by decide) rfl dL_law_454 dL_law_455 dL_law_456 dL_law_457 dL_law_458 ?_
  refine zw_arg (k := 2) hx hb hX hbl hbA hS hL (lv_at hl 0 rfl) (lv_at hl 3 rfl) hi (by decide) rfl dL_law_459 dL_law_460 dL_law_461 dL_law_462 dL_law_463 ?_
  refine zl_callI (own := R_law) (av := [.int (xs (nI (i + 1)).toNatClampNeg), .int (xs (nI (i + 2)).toNatClampNeg)]) (rest := []) (ad := adM) (b := 0) (ci := 6) (B := z_W cA adX kX2) (h := kM) (d := 60) (y := 165) hx hb hml hown hts hN hK (by decide) (by decide) ⟨Nat.le_refl _, Nat.le_refl _⟩ hl.1 hA hP hD hS cM rfl rfl rfl eM rfl (z_t5 (i := 8) rfl rfl) (z_t5 (i := 9) rfl rfl) (z_t5 (i := 10) rfl rfl) (z_t1 (i := 8) rfl rfl) (na := 2) (by decide +kernel) rfl (Nat.le_of_ble_eq_true rfl) dL_law_464 (fun r2 kM2 H locs hq2 hP hD hS => ?_)
  refine lv_pop hx hb dL_law_467 rfl ?_
  refine lv_goto (tgt := 1289) hx hb dL_law_468 (by decide) ?_
  exact next _ _ _ _ (hT _ _ _ _ hq1 hq2).1 hP hD hS
theorem dL_law_471 : decode cL_law 471 = .ok (.aload_n 1, 1) := z_is_ok (by decide +kernel)
theorem dL_law_472 : decode cL_law 472 = .ok (.invokevirtual 60, 3) := z_is_ok (by decide +kernel)
theorem dL_law_475 : decode cL_law 475 = .ok (.pop, 1) := z_is_ok (by decide +kernel)
theorem dL_law_476 : decode cL_law 476 = .ok (.aload_n 2, 1) := z_is_ok (by decide +kernel)
theorem dL_law_477 : decode cL_law 477 = .ok (.invokevirtual 63, 3) := z_is_ok (by decide +kernel)
theorem dL_law_480 : decode cL_law 480 = .ok (.pop, 1) := z_is_ok (by decide +kernel)
theorem dL_law_481 : decode cL_law 481 = .ok (.goto 808, 3) := z_is_ok (by decide +kernel)
set_option maxHeartbeats 4000000 in
set_option maxRecDepth 100000 in
theorem zw_case_11 {p : Program} {l : Launch} {e : Env} {s : State} {m : MethodId} {below : List Frame} {meth : Method} {c : Code} {D : va_G} {cA : Nat → ClassId} {b L : Nat} {xs : Nat → Int32} (hL : L ≤ 2560) (hx : p.tables.exec = Jvm.exec) (hb : c.code = code) (hr : meth.sig.returnType = ret) (hml : c.maxLocals = 4) (hown : s.vm.findClass R_law = some m.cls) (hts : ∀ w ∈ z_AW, w.before #[Value.ref b] s = true) (hN : z_N s) (hK : va_K D z_cl (z_tys cA) s) (hX : va_X b L xs s s.heap) (hbl : b < s.heap.size) (hlocks : meth.locks = false) {i : Nat} (hi : i + 5 ≤ L) {adX adM : Nat → Nat} {kX kM : List z_E} (hJ : z_JI kX kM) {H : Heap} {locs : List Loc} (hP : va_P D z_cl (z_W cA adX kX ++ z_W cA adM kM) H) (hD : va_D (fun q : Nat => s.heap.size ≤ q) (z_W cA adX kX ++ z_W cA adM kM)) (hS : va_S (fun q : Nat => s.heap.size ≤ q) s.heap H locs) {ls : Array Slot} (hl : lv_has ls 4 [(0, .ref b), (1, .ref (adX 0)), (2, .ref (adM 0)), (3, .int (nI i))])
    (next : ∀ (kX kM : List z_E) (H : Heap) (locs : List Loc), z_JI kX kM → va_P D z_cl (z_W cA adX kX ++ z_W cA adM kM) H → va_D (fun q : Nat => s.heap.size ≤ q) (z_W cA adX kX ++ z_W cA adM kM) → va_S (fun q : Nat => s.heap.size ≤ q) s.heap H locs → W p l e room_1 s m #[Value.ref b] below meth c H locs 600000 7302250 (lw_Z below #[Value.ref b] s) (F0 m 1289 ls [])) : W p l e room_1 s m #[Value.ref b] below meth c H locs 600000 7302250 (lw_Z below #[Value.ref b] s) (F0 m 471 ls []) := by
  have hA : ∀ q : Nat, s.heap.size ≤ q → (fun q : Nat => s.heap.size ≤ q) q := fun _ h => h
  have hbA : ¬ (fun q : Nat => s.heap.size ≤ q) b := Nat.not_le.mpr hbl
  obtain ⟨⟨fX, eX⟩, fM, eM⟩ := zw_recv hJ
  obtain ⟨PX, PM, cX, cM, hT⟩ := pr_find hJ 
  refine lv_aload_n hx hb dL_law_471 rfl (lv_at hl 1 rfl) ?_
  refine zl_callI (own := R_law) (av := []) (rest := []) (ad := adX) (b := 0) (ci := 5) (B := z_W cA adM kM) (h := kX) (d := 60) (y := 88) hx hb hml hown hts hN hK (by decide) (by decide) ⟨Nat.le_refl _, Nat.le_refl _⟩ hl.1 hA hP hD hS cX rfl rfl rfl eX rfl (z_t2 (i := 135) rfl rfl) (z_t2 (i := 136) rfl rfl) (z_t2 (i := 137) rfl rfl) (z_t1 (i := 1) rfl rfl) (na := 0) (by decide +kernel) rfl (Nat.le_of_ble_eq_true rfl) dL_law_472 (fun r1 kX2 H locs hq1 hP hD hS => ?_)
  refine lv_pop hx hb dL_law_475 rfl ?_
  refine lv_aload_n hx hb dL_law_476 rfl (lv_at hl 2 rfl) ?_
  refine zl_callI (own := R_law) (av := []) (rest := []) (ad := adM) (b := 0) (ci := 6) (B := z_W cA adX kX2) (h := kM) (d := 60) (y := 166) hx hb hml hown hts hN hK (by decide) (by decide) ⟨Nat.le_refl _, Nat.le_refl _⟩ hl.1 hA hP hD hS cM rfl rfl rfl eM rfl (z_t5 (i := 18) rfl rfl) (z_t5 (i := 19) rfl rfl) (z_t5 (i := 20) rfl rfl) (z_t1 (i := 8) rfl rfl) (na := 0) (by decide +kernel) rfl (Nat.le_of_ble_eq_true rfl) dL_law_477 (fun r2 kM2 H locs hq2 hP hD hS => ?_)
  refine lv_pop hx hb dL_law_480 rfl ?_
  refine lv_goto (tgt := 1289) hx hb dL_law_481 (by decide) ?_
  exact next _ _ _ _ (hT _ _ _ _ hq1 hq2).1 hP hD hS
theorem dL_law_484 : decode cL_law 484 = .ok (.aload_n 1, 1) := z_is_ok (by decide +kernel)
theorem dL_law_485 : decode cL_law 485 = .ok (.aload_n 0, 1) := z_is_ok (by decide +kernel)
theorem dL_law_486 : decode cL_law 486 = .ok (.iload_n 3, 1) := z_is_ok (by decide +kernel)
theorem dL_law_487 : decode cL_law 487 = .ok (.iconst 1, 1) := z_is_ok (by decide +kernel)
theorem dL_law_488 : decode cL_law 488 = .ok (.iadd, 1) := z_is_ok (by decide +kernel)
theorem dL_law_489 : decode cL_law 489 = .ok (.iaload, 1) := z_is_ok (by decide +kernel)
theorem dL_law_490 : decode cL_law 490 = .ok (.invokevirtual 64, 3) := z_is_ok (by decide +kernel)
theorem dL_law_493 : decode cL_law 493 = .ok (.pop, 1) := z_is_ok (by decide +kernel)
theorem dL_law_494 : decode cL_law 494 = .ok (.aload_n 2, 1) := z_is_ok (by decide +kernel)
theorem dL_law_495 : decode cL_law 495 = .ok (.aload_n 0, 1) := z_is_ok (by decide +kernel)
theorem dL_law_496 : decode cL_law 496 = .ok (.iload_n 3, 1) := z_is_ok (by decide +kernel)
theorem dL_law_497 : decode cL_law 497 = .ok (.iconst 1, 1) := z_is_ok (by decide +kernel)
theorem dL_law_498 : decode cL_law 498 = .ok (.iadd, 1) := z_is_ok (by decide +kernel)
theorem dL_law_499 : decode cL_law 499 = .ok (.iaload, 1) := z_is_ok (by decide +kernel)
theorem dL_law_500 : decode cL_law 500 = .ok (.invokevirtual 67, 3) := z_is_ok (by decide +kernel)
theorem dL_law_503 : decode cL_law 503 = .ok (.pop, 1) := z_is_ok (by decide +kernel)
theorem dL_law_504 : decode cL_law 504 = .ok (.goto 785, 3) := z_is_ok (by decide +kernel)
set_option maxHeartbeats 4000000 in
set_option maxRecDepth 100000 in
theorem zw_case_12 {p : Program} {l : Launch} {e : Env} {s : State} {m : MethodId} {below : List Frame} {meth : Method} {c : Code} {D : va_G} {cA : Nat → ClassId} {b L : Nat} {xs : Nat → Int32} (hL : L ≤ 2560) (hx : p.tables.exec = Jvm.exec) (hb : c.code = code) (hr : meth.sig.returnType = ret) (hml : c.maxLocals = 4) (hown : s.vm.findClass R_law = some m.cls) (hts : ∀ w ∈ z_AW, w.before #[Value.ref b] s = true) (hN : z_N s) (hK : va_K D z_cl (z_tys cA) s) (hX : va_X b L xs s s.heap) (hbl : b < s.heap.size) (hlocks : meth.locks = false) {i : Nat} (hi : i + 5 ≤ L) {adX adM : Nat → Nat} {kX kM : List z_E} (hJ : z_JI kX kM) {H : Heap} {locs : List Loc} (hP : va_P D z_cl (z_W cA adX kX ++ z_W cA adM kM) H) (hD : va_D (fun q : Nat => s.heap.size ≤ q) (z_W cA adX kX ++ z_W cA adM kM)) (hS : va_S (fun q : Nat => s.heap.size ≤ q) s.heap H locs) {ls : Array Slot} (hl : lv_has ls 4 [(0, .ref b), (1, .ref (adX 0)), (2, .ref (adM 0)), (3, .int (nI i))])
    (next : ∀ (kX kM : List z_E) (H : Heap) (locs : List Loc), z_JI kX kM → va_P D z_cl (z_W cA adX kX ++ z_W cA adM kM) H → va_D (fun q : Nat => s.heap.size ≤ q) (z_W cA adX kX ++ z_W cA adM kM) → va_S (fun q : Nat => s.heap.size ≤ q) s.heap H locs → W p l e room_1 s m #[Value.ref b] below meth c H locs 600000 7302250 (lw_Z below #[Value.ref b] s) (F0 m 1289 ls [])) : W p l e room_1 s m #[Value.ref b] below meth c H locs 600000 7302250 (lw_Z below #[Value.ref b] s) (F0 m 484 ls []) := by
  have hA : ∀ q : Nat, s.heap.size ≤ q → (fun q : Nat => s.heap.size ≤ q) q := fun _ h => h
  have hbA : ¬ (fun q : Nat => s.heap.size ≤ q) b := Nat.not_le.mpr hbl
  obtain ⟨⟨fX, eX⟩, fM, eM⟩ := zw_recv hJ
  obtain ⟨PX, PM, cX, cM, hT⟩ := pr_spell hJ ((xs (nI (i + 1)).toNatClampNeg))
  refine lv_aload_n hx hb dL_law_484 rfl (lv_at hl 1 rfl) ?_
  refine zw_arg (k := 1) hx hb hX hbl hbA hS hL (lv_at hl 0 rfl) (lv_at hl 3 rfl) hi (by decide) rfl dL_law_485 dL_law_486 dL_law_487 dL_law_488 dL_law_489 ?_
  refine zl_callI (own := R_law) (av := [.int (xs (nI (i + 1)).toNatClampNeg)]) (rest := []) (ad := adX) (b := 0) (ci := 5) (B := z_W cA adM kM) (h := kX) (d := 60) (y := 89) hx hb hml hown hts hN hK (by decide) (by decide) ⟨Nat.le_refl _, Nat.le_refl _⟩ hl.1 hA hP hD hS cX rfl rfl rfl eX rfl (z_t2 (i := 144) rfl rfl) (z_t2 (i := 145) rfl rfl) (z_t2 (i := 146) rfl rfl) (z_t1 (i := 1) rfl rfl) (na := 1) (by decide +kernel) rfl (Nat.le_of_ble_eq_true rfl) dL_law_490 (fun r1 kX2 H locs hq1 hP hD hS => ?_)
  refine lv_pop hx hb dL_law_493 rfl ?_
  refine lv_aload_n hx hb dL_law_494 rfl (lv_at hl 2 rfl) ?_
  refine zw_arg (k := 1) hx hb hX hbl hbA hS hL (lv_at hl 0 rfl) (lv_at hl 3 rfl) hi (by decide) rfl dL_law_495 dL_law_496 dL_law_497 dL_law_498 dL_law_499 ?_
  refine zl_callI (own := R_law) (av := [.int (xs (nI (i + 1)).toNatClampNeg)]) (rest := []) (ad := adM) (b := 0) (ci := 6) (B := z_W cA adX kX2) (h := kM) (d := 60) (y := 169) hx hb hml hown hts hN hK (by decide) (by decide) ⟨Nat.le_refl _, Nat.le_refl _⟩ hl.1 hA hP hD hS cM rfl rfl rfl eM rfl (z_t5 (i := 26) rfl rfl) (z_t5 (i := 27) rfl rfl) (z_t5 (i := 28) rfl rfl) (z_t1 (i := 8) rfl rfl) (na := 1) (by decide +kernel) rfl (Nat.le_of_ble_eq_true rfl) dL_law_500 (fun r2 kM2 H locs hq2 hP hD hS => ?_)
  refine lv_pop hx hb dL_law_503 rfl ?_
  refine lv_goto (tgt := 1289) hx hb dL_law_504 (by decide) ?_
  exact next _ _ _ _ (hT _ _ _ _ hq1 hq2).1 hP hD hS
theorem dL_law_507 : decode cL_law 507 = .ok (.aload_n 1, 1) := z_is_ok (by decide +kernel)
theorem dL_law_508 : decode cL_law 508 = .ok (.aload_n 0, 1) := z_is_ok (by decide +kernel)
theorem dL_law_509 : decode cL_law 509 = .ok (.iload_n 3, 1) := z_is_ok (by decide +kernel)
theorem dL_law_510 : decode cL_law 510 = .ok (.iconst 1, 1) := z_is_ok (by decide +kernel)
theorem dL_law_511 : decode cL_law 511 = .ok (.iadd, 1) := z_is_ok (by decide +kernel)
theorem dL_law_512 : decode cL_law 512 = .ok (.iaload, 1) := z_is_ok (by decide +kernel)
theorem dL_law_513 : decode cL_law 513 = .ok (.invokevirtual 68, 3) := z_is_ok (by decide +kernel)
theorem dL_law_516 : decode cL_law 516 = .ok (.pop, 1) := z_is_ok (by decide +kernel)
theorem dL_law_517 : decode cL_law 517 = .ok (.aload_n 2, 1) := z_is_ok (by decide +kernel)
theorem dL_law_518 : decode cL_law 518 = .ok (.aload_n 0, 1) := z_is_ok (by decide +kernel)
theorem dL_law_519 : decode cL_law 519 = .ok (.iload_n 3, 1) := z_is_ok (by decide +kernel)
theorem dL_law_520 : decode cL_law 520 = .ok (.iconst 1, 1) := z_is_ok (by decide +kernel)
theorem dL_law_521 : decode cL_law 521 = .ok (.iadd, 1) := z_is_ok (by decide +kernel)
theorem dL_law_522 : decode cL_law 522 = .ok (.iaload, 1) := z_is_ok (by decide +kernel)
theorem dL_law_523 : decode cL_law 523 = .ok (.invokevirtual 71, 3) := z_is_ok (by decide +kernel)
theorem dL_law_526 : decode cL_law 526 = .ok (.pop, 1) := z_is_ok (by decide +kernel)
theorem dL_law_527 : decode cL_law 527 = .ok (.goto 762, 3) := z_is_ok (by decide +kernel)
set_option maxHeartbeats 4000000 in
set_option maxRecDepth 100000 in
theorem zw_case_13 {p : Program} {l : Launch} {e : Env} {s : State} {m : MethodId} {below : List Frame} {meth : Method} {c : Code} {D : va_G} {cA : Nat → ClassId} {b L : Nat} {xs : Nat → Int32} (hL : L ≤ 2560) (hx : p.tables.exec = Jvm.exec) (hb : c.code = code) (hr : meth.sig.returnType = ret) (hml : c.maxLocals = 4) (hown : s.vm.findClass R_law = some m.cls) (hts : ∀ w ∈ z_AW, w.before #[Value.ref b] s = true) (hN : z_N s) (hK : va_K D z_cl (z_tys cA) s) (hX : va_X b L xs s s.heap) (hbl : b < s.heap.size) (hlocks : meth.locks = false) {i : Nat} (hi : i + 5 ≤ L) {adX adM : Nat → Nat} {kX kM : List z_E} (hJ : z_JI kX kM) {H : Heap} {locs : List Loc} (hP : va_P D z_cl (z_W cA adX kX ++ z_W cA adM kM) H) (hD : va_D (fun q : Nat => s.heap.size ≤ q) (z_W cA adX kX ++ z_W cA adM kM)) (hS : va_S (fun q : Nat => s.heap.size ≤ q) s.heap H locs) {ls : Array Slot} (hl : lv_has ls 4 [(0, .ref b), (1, .ref (adX 0)), (2, .ref (adM 0)), (3, .int (nI i))])
    (next : ∀ (kX kM : List z_E) (H : Heap) (locs : List Loc), z_JI kX kM → va_P D z_cl (z_W cA adX kX ++ z_W cA adM kM) H → va_D (fun q : Nat => s.heap.size ≤ q) (z_W cA adX kX ++ z_W cA adM kM) → va_S (fun q : Nat => s.heap.size ≤ q) s.heap H locs → W p l e room_1 s m #[Value.ref b] below meth c H locs 600000 7302250 (lw_Z below #[Value.ref b] s) (F0 m 1289 ls [])) : W p l e room_1 s m #[Value.ref b] below meth c H locs 600000 7302250 (lw_Z below #[Value.ref b] s) (F0 m 507 ls []) := by
  have hA : ∀ q : Nat, s.heap.size ≤ q → (fun q : Nat => s.heap.size ≤ q) q := fun _ h => h
  have hbA : ¬ (fun q : Nat => s.heap.size ≤ q) b := Nat.not_le.mpr hbl
  obtain ⟨⟨fX, eX⟩, fM, eM⟩ := zw_recv hJ
  obtain ⟨PX, PM, cX, cM, hT⟩ := pr_paper hJ ((xs (nI (i + 1)).toNatClampNeg))
  refine lv_aload_n hx hb dL_law_507 rfl (lv_at hl 1 rfl) ?_
  refine zw_arg (k := 1) hx hb hX hbl hbA hS hL (lv_at hl 0 rfl) (lv_at hl 3 rfl) hi (by decide) rfl dL_law_508 dL_law_509 dL_law_510 dL_law_511 dL_law_512 ?_
  refine zl_callI (own := R_law) (av := [.int (xs (nI (i + 1)).toNatClampNeg)]) (rest := []) (ad := adX) (b := 0) (ci := 5) (B := z_W cA adM kM) (h := kX) (d := 60) (y := 90) hx hb hml hown hts hN hK (by decide) (by decide) ⟨Nat.le_refl _, Nat.le_refl _⟩ hl.1 hA hP hD hS cX rfl rfl rfl eX rfl (z_t2 (i := 162) rfl rfl) (z_t2 (i := 163) rfl rfl) (z_t2 (i := 164) rfl rfl) (z_t1 (i := 1) rfl rfl) (na := 1) (by decide +kernel) rfl (Nat.le_of_ble_eq_true rfl) dL_law_513 (fun r1 kX2 H locs hq1 hP hD hS => ?_)
  refine lv_pop hx hb dL_law_516 rfl ?_
  refine lv_aload_n hx hb dL_law_517 rfl (lv_at hl 2 rfl) ?_
  refine zw_arg (k := 1) hx hb hX hbl hbA hS hL (lv_at hl 0 rfl) (lv_at hl 3 rfl) hi (by decide) rfl dL_law_518 dL_law_519 dL_law_520 dL_law_521 dL_law_522 ?_
  refine zl_callI (own := R_law) (av := [.int (xs (nI (i + 1)).toNatClampNeg)]) (rest := []) (ad := adM) (b := 0) (ci := 6) (B := z_W cA adX kX2) (h := kM) (d := 60) (y := 170) hx hb hml hown hts hN hK (by decide) (by decide) ⟨Nat.le_refl _, Nat.le_refl _⟩ hl.1 hA hP hD hS cM rfl rfl rfl eM rfl (z_t5 (i := 38) rfl rfl) (z_t5 (i := 39) rfl rfl) (z_t5 (i := 40) rfl rfl) (z_t1 (i := 8) rfl rfl) (na := 1) (by decide +kernel) rfl (Nat.le_of_ble_eq_true rfl) dL_law_523 (fun r2 kM2 H locs hq2 hP hD hS => ?_)
  refine lv_pop hx hb dL_law_526 rfl ?_
  refine lv_goto (tgt := 1289) hx hb dL_law_527 (by decide) ?_
  exact next _ _ _ _ (hT _ _ _ _ hq1 hq2).1 hP hD hS
theorem dL_law_530 : decode cL_law 530 = .ok (.aload_n 1, 1) := z_is_ok (by decide +kernel)
theorem dL_law_531 : decode cL_law 531 = .ok (.aload_n 0, 1) := z_is_ok (by decide +kernel)
theorem dL_law_532 : decode cL_law 532 = .ok (.iload_n 3, 1) := z_is_ok (by decide +kernel)
theorem dL_law_533 : decode cL_law 533 = .ok (.iconst 1, 1) := z_is_ok (by decide +kernel)
theorem dL_law_534 : decode cL_law 534 = .ok (.iadd, 1) := z_is_ok (by decide +kernel)
theorem dL_law_535 : decode cL_law 535 = .ok (.iaload, 1) := z_is_ok (by decide +kernel)
theorem dL_law_536 : decode cL_law 536 = .ok (.aload_n 0, 1) := z_is_ok (by decide +kernel)
theorem dL_law_537 : decode cL_law 537 = .ok (.iload_n 3, 1) := z_is_ok (by decide +kernel)
theorem dL_law_538 : decode cL_law 538 = .ok (.iconst 2, 1) := z_is_ok (by decide +kernel)
theorem dL_law_539 : decode cL_law 539 = .ok (.iadd, 1) := z_is_ok (by decide +kernel)
theorem dL_law_540 : decode cL_law 540 = .ok (.iaload, 1) := z_is_ok (by decide +kernel)
theorem dL_law_541 : decode cL_law 541 = .ok (.invokevirtual 72, 3) := z_is_ok (by decide +kernel)
theorem dL_law_544 : decode cL_law 544 = .ok (.pop2, 1) := z_is_ok (by decide +kernel)
theorem dL_law_545 : decode cL_law 545 = .ok (.aload_n 2, 1) := z_is_ok (by decide +kernel)
theorem dL_law_546 : decode cL_law 546 = .ok (.aload_n 0, 1) := z_is_ok (by decide +kernel)
theorem dL_law_547 : decode cL_law 547 = .ok (.iload_n 3, 1) := z_is_ok (by decide +kernel)
theorem dL_law_548 : decode cL_law 548 = .ok (.iconst 1, 1) := z_is_ok (by decide +kernel)
theorem dL_law_549 : decode cL_law 549 = .ok (.iadd, 1) := z_is_ok (by decide +kernel)
theorem dL_law_550 : decode cL_law 550 = .ok (.iaload, 1) := z_is_ok (by decide +kernel)
theorem dL_law_551 : decode cL_law 551 = .ok (.aload_n 0, 1) := z_is_ok (by decide +kernel)
theorem dL_law_552 : decode cL_law 552 = .ok (.iload_n 3, 1) := z_is_ok (by decide +kernel)
theorem dL_law_553 : decode cL_law 553 = .ok (.iconst 2, 1) := z_is_ok (by decide +kernel)
theorem dL_law_554 : decode cL_law 554 = .ok (.iadd, 1) := z_is_ok (by decide +kernel)
theorem dL_law_555 : decode cL_law 555 = .ok (.iaload, 1) := z_is_ok (by decide +kernel)
theorem dL_law_556 : decode cL_law 556 = .ok (.invokevirtual 76, 3) := z_is_ok (by decide +kernel)
theorem dL_law_559 : decode cL_law 559 = .ok (.pop2, 1) := z_is_ok (by decide +kernel)
theorem dL_law_560 : decode cL_law 560 = .ok (.goto 729, 3) := z_is_ok (by decide +kernel)
set_option maxHeartbeats 4000000 in
set_option maxRecDepth 100000 in
theorem zw_case_14 {p : Program} {l : Launch} {e : Env} {s : State} {m : MethodId} {below : List Frame} {meth : Method} {c : Code} {D : va_G} {cA : Nat → ClassId} {b L : Nat} {xs : Nat → Int32} (hL : L ≤ 2560) (hx : p.tables.exec = Jvm.exec) (hb : c.code = code) (hr : meth.sig.returnType = ret) (hml : c.maxLocals = 4) (hown : s.vm.findClass R_law = some m.cls) (hts : ∀ w ∈ z_AW, w.before #[Value.ref b] s = true) (hN : z_N s) (hK : va_K D z_cl (z_tys cA) s) (hX : va_X b L xs s s.heap) (hbl : b < s.heap.size) (hlocks : meth.locks = false) {i : Nat} (hi : i + 5 ≤ L) {adX adM : Nat → Nat} {kX kM : List z_E} (hJ : z_JI kX kM) {H : Heap} {locs : List Loc} (hP : va_P D z_cl (z_W cA adX kX ++ z_W cA adM kM) H) (hD : va_D (fun q : Nat => s.heap.size ≤ q) (z_W cA adX kX ++ z_W cA adM kM)) (hS : va_S (fun q : Nat => s.heap.size ≤ q) s.heap H locs) {ls : Array Slot} (hl : lv_has ls 4 [(0, .ref b), (1, .ref (adX 0)), (2, .ref (adM 0)), (3, .int (nI i))])
    (next : ∀ (kX kM : List z_E) (H : Heap) (locs : List Loc), z_JI kX kM → va_P D z_cl (z_W cA adX kX ++ z_W cA adM kM) H → va_D (fun q : Nat => s.heap.size ≤ q) (z_W cA adX kX ++ z_W cA adM kM) → va_S (fun q : Nat => s.heap.size ≤ q) s.heap H locs → W p l e room_1 s m #[Value.ref b] below meth c H locs 600000 7302250 (lw_Z below #[Value.ref b] s) (F0 m 1289 ls [])) : W p l e room_1 s m #[Value.ref b] below meth c H locs 600000 7302250 (lw_Z below #[Value.ref b] s) (F0 m 530 ls []) := by
  have hA : ∀ q : Nat, s.heap.size ≤ q → (fun q : Nat => s.heap.size ≤ q) q := fun _ h => h
  have hbA : ¬ (fun q : Nat => s.heap.size ≤ q) b := Nat.not_le.mpr hbl
  obtain ⟨⟨fX, eX⟩, fM, eM⟩ := zw_recv hJ
  obtain ⟨PX, PM, cX, cM, hT⟩ := pr_pair hJ ((xs (nI (i + 1)).toNatClampNeg)) ((xs (nI (i + 2)).toNatClampNeg))
  refine lv_aload_n hx hb dL_law_530 rfl (lv_at hl 1 rfl) ?_
  refine zw_arg (k := 1) hx hb hX hbl hbA hS hL (lv_at hl 0 rfl) (lv_at hl 3 rfl) hi (by decide) rfl dL_law_531 dL_law_532 dL_law_533 dL_law_534 dL_law_535 ?_
  refine zw_arg (k := 2) hx hb hX hbl hbA hS hL (lv_at hl 0 rfl) (lv_at hl 3 rfl) hi (by decide) rfl dL_law_536 dL_law_537 dL_law_538 dL_law_539 dL_law_540 ?_
  refine zl_callL (own := R_law) (av := [.int (xs (nI (i + 1)).toNatClampNeg), .int (xs (nI (i + 2)).toNatClampNeg)]) (rest := []) (ad := adX) (b := 0) (ci := 5) (B := z_W cA adM kM) (h := kX) (d := 60) (y := 91) hx hb hml hown hts hN hK (by decide) (by decide) ⟨Nat.le_refl _, Nat.le_refl _⟩ hl.1 hA hP hD hS cX rfl rfl rfl eX rfl (z_t2 (i := 170) rfl rfl) (z_t2 (i := 171) rfl rfl) (z_t2 (i := 172) rfl rfl) (z_t1 (i := 1) rfl rfl) (na := 2) (by decide +kernel) rfl (Nat.le_of_ble_eq_true rfl) dL_law_541 (fun r1 kX2 H locs hq1 hP hD hS => ?_)
  refine lv_pop2_2 hx hb dL_law_544 rfl ?_
  refine lv_aload_n hx hb dL_law_545 rfl (lv_at hl 2 rfl) ?_
  refine zw_arg (k := 1) hx hb hX hbl hbA hS hL (lv_at hl 0 rfl) (lv_at hl 3 rfl) hi (by decide) rfl dL_law_546 dL_law_547 dL_law_548 dL_law_549 dL_law_550 ?_
  refine zw_arg (k := 2) hx hb hX hbl hbA hS hL (lv_at hl 0 rfl) (lv_at hl 3 rfl) hi (by decide) rfl dL_law_551 dL_law_552 dL_law_553 dL_law_554 dL_law_555 ?_
  refine zl_callL (own := R_law) (av := [.int (xs (nI (i + 1)).toNatClampNeg), .int (xs (nI (i + 2)).toNatClampNeg)]) (rest := []) (ad := adM) (b := 0) (ci := 6) (B := z_W cA adX kX2) (h := kM) (d := 60) (y := 175) hx hb hml hown hts hN hK (by decide) (by decide) ⟨Nat.le_refl _, Nat.le_refl _⟩ hl.1 hA hP hD hS cM rfl rfl rfl eM rfl (z_t5 (i := 42) rfl rfl) (z_t5 (i := 43) rfl rfl) (z_t5 (i := 44) rfl rfl) (z_t1 (i := 8) rfl rfl) (na := 2) (by decide +kernel) rfl (Nat.le_of_ble_eq_true rfl) dL_law_556 (fun r2 kM2 H locs hq2 hP hD hS => ?_)
  refine lv_pop2_2 hx hb dL_law_559 rfl ?_
  refine lv_goto (tgt := 1289) hx hb dL_law_560 (by decide) ?_
  exact next _ _ _ _ (hT _ _ _ _ hq1 hq2).1 hP hD hS
theorem dL_law_563 : decode cL_law 563 = .ok (.aload_n 1, 1) := z_is_ok (by decide +kernel)
theorem dL_law_564 : decode cL_law 564 = .ok (.aload_n 0, 1) := z_is_ok (by decide +kernel)
theorem dL_law_565 : decode cL_law 565 = .ok (.iload_n 3, 1) := z_is_ok (by decide +kernel)
theorem dL_law_566 : decode cL_law 566 = .ok (.iconst 1, 1) := z_is_ok (by decide +kernel)
theorem dL_law_567 : decode cL_law 567 = .ok (.iadd, 1) := z_is_ok (by decide +kernel)
theorem dL_law_568 : decode cL_law 568 = .ok (.iaload, 1) := z_is_ok (by decide +kernel)
theorem dL_law_569 : decode cL_law 569 = .ok (.aload_n 0, 1) := z_is_ok (by decide +kernel)
theorem dL_law_570 : decode cL_law 570 = .ok (.iload_n 3, 1) := z_is_ok (by decide +kernel)
theorem dL_law_571 : decode cL_law 571 = .ok (.iconst 2, 1) := z_is_ok (by decide +kernel)
theorem dL_law_572 : decode cL_law 572 = .ok (.iadd, 1) := z_is_ok (by decide +kernel)
theorem dL_law_573 : decode cL_law 573 = .ok (.iaload, 1) := z_is_ok (by decide +kernel)
theorem dL_law_574 : decode cL_law 574 = .ok (.invokevirtual 77, 3) := z_is_ok (by decide +kernel)
theorem dL_law_577 : decode cL_law 577 = .ok (.pop, 1) := z_is_ok (by decide +kernel)
theorem dL_law_578 : decode cL_law 578 = .ok (.aload_n 2, 1) := z_is_ok (by decide +kernel)
theorem dL_law_579 : decode cL_law 579 = .ok (.aload_n 0, 1) := z_is_ok (by decide +kernel)
theorem dL_law_580 : decode cL_law 580 = .ok (.iload_n 3, 1) := z_is_ok (by decide +kernel)
theorem dL_law_581 : decode cL_law 581 = .ok (.iconst 1, 1) := z_is_ok (by decide +kernel)
theorem dL_law_582 : decode cL_law 582 = .ok (.iadd, 1) := z_is_ok (by decide +kernel)
theorem dL_law_583 : decode cL_law 583 = .ok (.iaload, 1) := z_is_ok (by decide +kernel)
theorem dL_law_584 : decode cL_law 584 = .ok (.aload_n 0, 1) := z_is_ok (by decide +kernel)
theorem dL_law_585 : decode cL_law 585 = .ok (.iload_n 3, 1) := z_is_ok (by decide +kernel)
theorem dL_law_586 : decode cL_law 586 = .ok (.iconst 2, 1) := z_is_ok (by decide +kernel)
theorem dL_law_587 : decode cL_law 587 = .ok (.iadd, 1) := z_is_ok (by decide +kernel)
theorem dL_law_588 : decode cL_law 588 = .ok (.iaload, 1) := z_is_ok (by decide +kernel)
theorem dL_law_589 : decode cL_law 589 = .ok (.invokevirtual 80, 3) := z_is_ok (by decide +kernel)
theorem dL_law_592 : decode cL_law 592 = .ok (.pop, 1) := z_is_ok (by decide +kernel)
theorem dL_law_593 : decode cL_law 593 = .ok (.goto 696, 3) := z_is_ok (by decide +kernel)
set_option maxHeartbeats 4000000 in
set_option maxRecDepth 100000 in
theorem zw_case_15 {p : Program} {l : Launch} {e : Env} {s : State} {m : MethodId} {below : List Frame} {meth : Method} {c : Code} {D : va_G} {cA : Nat → ClassId} {b L : Nat} {xs : Nat → Int32} (hL : L ≤ 2560) (hx : p.tables.exec = Jvm.exec) (hb : c.code = code) (hr : meth.sig.returnType = ret) (hml : c.maxLocals = 4) (hown : s.vm.findClass R_law = some m.cls) (hts : ∀ w ∈ z_AW, w.before #[Value.ref b] s = true) (hN : z_N s) (hK : va_K D z_cl (z_tys cA) s) (hX : va_X b L xs s s.heap) (hbl : b < s.heap.size) (hlocks : meth.locks = false) {i : Nat} (hi : i + 5 ≤ L) {adX adM : Nat → Nat} {kX kM : List z_E} (hJ : z_JI kX kM) {H : Heap} {locs : List Loc} (hP : va_P D z_cl (z_W cA adX kX ++ z_W cA adM kM) H) (hD : va_D (fun q : Nat => s.heap.size ≤ q) (z_W cA adX kX ++ z_W cA adM kM)) (hS : va_S (fun q : Nat => s.heap.size ≤ q) s.heap H locs) {ls : Array Slot} (hl : lv_has ls 4 [(0, .ref b), (1, .ref (adX 0)), (2, .ref (adM 0)), (3, .int (nI i))])
    (next : ∀ (kX kM : List z_E) (H : Heap) (locs : List Loc), z_JI kX kM → va_P D z_cl (z_W cA adX kX ++ z_W cA adM kM) H → va_D (fun q : Nat => s.heap.size ≤ q) (z_W cA adX kX ++ z_W cA adM kM) → va_S (fun q : Nat => s.heap.size ≤ q) s.heap H locs → W p l e room_1 s m #[Value.ref b] below meth c H locs 600000 7302250 (lw_Z below #[Value.ref b] s) (F0 m 1289 ls [])) : W p l e room_1 s m #[Value.ref b] below meth c H locs 600000 7302250 (lw_Z below #[Value.ref b] s) (F0 m 563 ls []) := by
  have hA : ∀ q : Nat, s.heap.size ≤ q → (fun q : Nat => s.heap.size ≤ q) q := fun _ h => h
  have hbA : ¬ (fun q : Nat => s.heap.size ≤ q) b := Nat.not_le.mpr hbl
  obtain ⟨⟨fX, eX⟩, fM, eM⟩ := zw_recv hJ
  obtain ⟨PX, PM, cX, cM, hT⟩ := pr_link hJ ((xs (nI (i + 1)).toNatClampNeg)) ((xs (nI (i + 2)).toNatClampNeg))
  refine lv_aload_n hx hb dL_law_563 rfl (lv_at hl 1 rfl) ?_
  refine zw_arg (k := 1) hx hb hX hbl hbA hS hL (lv_at hl 0 rfl) (lv_at hl 3 rfl) hi (by decide) rfl dL_law_564 dL_law_565 dL_law_566 dL_law_567 dL_law_568 ?_
  refine zw_arg (k := 2) hx hb hX hbl hbA hS hL (lv_at hl 0 rfl) (lv_at hl 3 rfl) hi (by decide) rfl dL_law_569 dL_law_570 dL_law_571 dL_law_572 dL_law_573 ?_
  refine zl_callI (own := R_law) (av := [.int (xs (nI (i + 1)).toNatClampNeg), .int (xs (nI (i + 2)).toNatClampNeg)]) (rest := []) (ad := adX) (b := 0) (ci := 5) (B := z_W cA adM kM) (h := kX) (d := 60) (y := 92) hx hb hml hown hts hN hK (by decide) (by decide) ⟨Nat.le_refl _, Nat.le_refl _⟩ hl.1 hA hP hD hS cX rfl rfl rfl eX rfl (z_t2 (i := 184) rfl rfl) (z_t2 (i := 185) rfl rfl) (z_t2 (i := 186) rfl rfl) (z_t1 (i := 1) rfl rfl) (na := 2) (by decide +kernel) rfl (Nat.le_of_ble_eq_true rfl) dL_law_574 (fun r1 kX2 H locs hq1 hP hD hS => ?_)
  refine lv_pop hx hb dL_law_577 rfl ?_
  refine lv_aload_n hx hb dL_law_578 rfl (lv_at hl 2 rfl) ?_
  refine zw_arg (k := 1) hx hb hX hbl hbA hS hL (lv_at hl 0 rfl) (lv_at hl 3 rfl) hi (by decide) rfl dL_law_579 dL_law_580 dL_law_581 dL_law_582 dL_law_583 ?_
  refine zw_arg (k := 2) hx hb hX hbl hbA hS hL (lv_at hl 0 rfl) (lv_at hl 3 rfl) hi (by decide) rfl dL_law_584 dL_law_585 dL_law_586 dL_law_587 dL_law_588 ?_
  refine zl_callI (own := R_law) (av := [.int (xs (nI (i + 1)).toNatClampNeg), .int (xs (nI (i + 2)).toNatClampNeg)]) (rest := []) (ad := adM) (b := 0) (ci := 6) (B := z_W cA adX kX2) (h := kM) (d := 60) (y := 177) hx hb hml hown hts hN hK (by decide) (by decide) ⟨Nat.le_refl _, Nat.le_refl _⟩ hl.1 hA hP hD hS cM rfl rfl rfl eM rfl (z_t5 (i := 63) rfl rfl) (z_t5 (i := 64) rfl rfl) (z_t5 (i := 65) rfl rfl) (z_t1 (i := 8) rfl rfl) (na := 2) (by decide +kernel) rfl (Nat.le_of_ble_eq_true rfl) dL_law_589 (fun r2 kM2 H locs hq2 hP hD hS => ?_)
  refine lv_pop hx hb dL_law_592 rfl ?_
  refine lv_goto (tgt := 1289) hx hb dL_law_593 (by decide) ?_
  exact next _ _ _ _ (hT _ _ _ _ hq1 hq2).1 hP hD hS
theorem dL_law_596 : decode cL_law 596 = .ok (.aload_n 1, 1) := z_is_ok (by decide +kernel)
theorem dL_law_597 : decode cL_law 597 = .ok (.aload_n 0, 1) := z_is_ok (by decide +kernel)
theorem dL_law_598 : decode cL_law 598 = .ok (.iload_n 3, 1) := z_is_ok (by decide +kernel)
theorem dL_law_599 : decode cL_law 599 = .ok (.iconst 1, 1) := z_is_ok (by decide +kernel)
theorem dL_law_600 : decode cL_law 600 = .ok (.iadd, 1) := z_is_ok (by decide +kernel)
theorem dL_law_601 : decode cL_law 601 = .ok (.iaload, 1) := z_is_ok (by decide +kernel)
theorem dL_law_602 : decode cL_law 602 = .ok (.aload_n 0, 1) := z_is_ok (by decide +kernel)
theorem dL_law_603 : decode cL_law 603 = .ok (.iload_n 3, 1) := z_is_ok (by decide +kernel)
theorem dL_law_604 : decode cL_law 604 = .ok (.iconst 2, 1) := z_is_ok (by decide +kernel)
theorem dL_law_605 : decode cL_law 605 = .ok (.iadd, 1) := z_is_ok (by decide +kernel)
theorem dL_law_606 : decode cL_law 606 = .ok (.iaload, 1) := z_is_ok (by decide +kernel)
theorem dL_law_607 : decode cL_law 607 = .ok (.aload_n 0, 1) := z_is_ok (by decide +kernel)
theorem dL_law_608 : decode cL_law 608 = .ok (.iload_n 3, 1) := z_is_ok (by decide +kernel)
theorem dL_law_609 : decode cL_law 609 = .ok (.iconst 3, 1) := z_is_ok (by decide +kernel)
theorem dL_law_610 : decode cL_law 610 = .ok (.iadd, 1) := z_is_ok (by decide +kernel)
theorem dL_law_611 : decode cL_law 611 = .ok (.iaload, 1) := z_is_ok (by decide +kernel)
theorem dL_law_612 : decode cL_law 612 = .ok (.invokevirtual 81, 3) := z_is_ok (by decide +kernel)
theorem dL_law_615 : decode cL_law 615 = .ok (.pop2, 1) := z_is_ok (by decide +kernel)
theorem dL_law_616 : decode cL_law 616 = .ok (.aload_n 2, 1) := z_is_ok (by decide +kernel)
theorem dL_law_617 : decode cL_law 617 = .ok (.aload_n 0, 1) := z_is_ok (by decide +kernel)
theorem dL_law_618 : decode cL_law 618 = .ok (.iload_n 3, 1) := z_is_ok (by decide +kernel)
theorem dL_law_619 : decode cL_law 619 = .ok (.iconst 1, 1) := z_is_ok (by decide +kernel)
theorem dL_law_620 : decode cL_law 620 = .ok (.iadd, 1) := z_is_ok (by decide +kernel)
theorem dL_law_621 : decode cL_law 621 = .ok (.iaload, 1) := z_is_ok (by decide +kernel)
theorem dL_law_622 : decode cL_law 622 = .ok (.aload_n 0, 1) := z_is_ok (by decide +kernel)
theorem dL_law_623 : decode cL_law 623 = .ok (.iload_n 3, 1) := z_is_ok (by decide +kernel)
theorem dL_law_624 : decode cL_law 624 = .ok (.iconst 2, 1) := z_is_ok (by decide +kernel)
theorem dL_law_625 : decode cL_law 625 = .ok (.iadd, 1) := z_is_ok (by decide +kernel)
theorem dL_law_626 : decode cL_law 626 = .ok (.iaload, 1) := z_is_ok (by decide +kernel)
theorem dL_law_627 : decode cL_law 627 = .ok (.aload_n 0, 1) := z_is_ok (by decide +kernel)
theorem dL_law_628 : decode cL_law 628 = .ok (.iload_n 3, 1) := z_is_ok (by decide +kernel)
theorem dL_law_629 : decode cL_law 629 = .ok (.iconst 3, 1) := z_is_ok (by decide +kernel)
theorem dL_law_630 : decode cL_law 630 = .ok (.iadd, 1) := z_is_ok (by decide +kernel)
theorem dL_law_631 : decode cL_law 631 = .ok (.iaload, 1) := z_is_ok (by decide +kernel)
theorem dL_law_632 : decode cL_law 632 = .ok (.invokevirtual 85, 3) := z_is_ok (by decide +kernel)
theorem dL_law_635 : decode cL_law 635 = .ok (.pop2, 1) := z_is_ok (by decide +kernel)
theorem dL_law_636 : decode cL_law 636 = .ok (.goto 653, 3) := z_is_ok (by decide +kernel)
set_option maxHeartbeats 4000000 in
set_option maxRecDepth 100000 in
theorem zw_case_16 {p : Program} {l : Launch} {e : Env} {s : State} {m : MethodId} {below : List Frame} {meth : Method} {c : Code} {D : va_G} {cA : Nat → ClassId} {b L : Nat} {xs : Nat → Int32} (hL : L ≤ 2560) (hx : p.tables.exec = Jvm.exec) (hb : c.code = code) (hr : meth.sig.returnType = ret) (hml : c.maxLocals = 4) (hown : s.vm.findClass R_law = some m.cls) (hts : ∀ w ∈ z_AW, w.before #[Value.ref b] s = true) (hN : z_N s) (hK : va_K D z_cl (z_tys cA) s) (hX : va_X b L xs s s.heap) (hbl : b < s.heap.size) (hlocks : meth.locks = false) {i : Nat} (hi : i + 5 ≤ L) {adX adM : Nat → Nat} {kX kM : List z_E} (hJ : z_JI kX kM) {H : Heap} {locs : List Loc} (hP : va_P D z_cl (z_W cA adX kX ++ z_W cA adM kM) H) (hD : va_D (fun q : Nat => s.heap.size ≤ q) (z_W cA adX kX ++ z_W cA adM kM)) (hS : va_S (fun q : Nat => s.heap.size ≤ q) s.heap H locs) {ls : Array Slot} (hl : lv_has ls 4 [(0, .ref b), (1, .ref (adX 0)), (2, .ref (adM 0)), (3, .int (nI i))])
    (next : ∀ (kX kM : List z_E) (H : Heap) (locs : List Loc), z_JI kX kM → va_P D z_cl (z_W cA adX kX ++ z_W cA adM kM) H → va_D (fun q : Nat => s.heap.size ≤ q) (z_W cA adX kX ++ z_W cA adM kM) → va_S (fun q : Nat => s.heap.size ≤ q) s.heap H locs → W p l e room_1 s m #[Value.ref b] below meth c H locs 600000 7302250 (lw_Z below #[Value.ref b] s) (F0 m 1289 ls [])) : W p l e room_1 s m #[Value.ref b] below meth c H locs 600000 7302250 (lw_Z below #[Value.ref b] s) (F0 m 596 ls []) := by
  have hA : ∀ q : Nat, s.heap.size ≤ q → (fun q : Nat => s.heap.size ≤ q) q := fun _ h => h
  have hbA : ¬ (fun q : Nat => s.heap.size ≤ q) b := Nat.not_le.mpr hbl
  obtain ⟨⟨fX, eX⟩, fM, eM⟩ := zw_recv hJ
  obtain ⟨PX, PM, cX, cM, hT⟩ := pr_strength hJ ((xs (nI (i + 1)).toNatClampNeg)) ((xs (nI (i + 2)).toNatClampNeg)) ((xs (nI (i + 3)).toNatClampNeg))
  refine lv_aload_n hx hb dL_law_596 rfl (lv_at hl 1 rfl) ?_
  refine zw_arg (k := 1) hx hb hX hbl hbA hS hL (lv_at hl 0 rfl) (lv_at hl 3 rfl) hi (by decide) rfl dL_law_597 dL_law_598 dL_law_599 dL_law_600 dL_law_601 ?_
  refine zw_arg (k := 2) hx hb hX hbl hbA hS hL (lv_at hl 0 rfl) (lv_at hl 3 rfl) hi (by decide) rfl dL_law_602 dL_law_603 dL_law_604 dL_law_605 dL_law_606 ?_
  refine zw_arg (k := 3) hx hb hX hbl hbA hS hL (lv_at hl 0 rfl) (lv_at hl 3 rfl) hi (by decide) rfl dL_law_607 dL_law_608 dL_law_609 dL_law_610 dL_law_611 ?_
  refine zl_callL (own := R_law) (av := [.int (xs (nI (i + 1)).toNatClampNeg), .int (xs (nI (i + 2)).toNatClampNeg), .int (xs (nI (i + 3)).toNatClampNeg)]) (rest := []) (ad := adX) (b := 0) (ci := 5) (B := z_W cA adM kM) (h := kX) (d := 60) (y := 93) hx hb hml hown hts hN hK (by decide) (by decide) ⟨Nat.le_refl _, Nat.le_refl _⟩ hl.1 hA hP hD hS cX rfl rfl rfl eX rfl (z_t2 (i := 188) rfl rfl) (z_t2 (i := 189) rfl rfl) (z_t2 (i := 190) rfl rfl) (z_t1 (i := 1) rfl rfl) (na := 3) (by decide +kernel) rfl (Nat.le_of_ble_eq_true rfl) dL_law_612 (fun r1 kX2 H locs hq1 hP hD hS => ?_)
  refine lv_pop2_2 hx hb dL_law_615 rfl ?_
  refine lv_aload_n hx hb dL_law_616 rfl (lv_at hl 2 rfl) ?_
  refine zw_arg (k := 1) hx hb hX hbl hbA hS hL (lv_at hl 0 rfl) (lv_at hl 3 rfl) hi (by decide) rfl dL_law_617 dL_law_618 dL_law_619 dL_law_620 dL_law_621 ?_
  refine zw_arg (k := 2) hx hb hX hbl hbA hS hL (lv_at hl 0 rfl) (lv_at hl 3 rfl) hi (by decide) rfl dL_law_622 dL_law_623 dL_law_624 dL_law_625 dL_law_626 ?_
  refine zw_arg (k := 3) hx hb hX hbl hbA hS hL (lv_at hl 0 rfl) (lv_at hl 3 rfl) hi (by decide) rfl dL_law_627 dL_law_628 dL_law_629 dL_law_630 dL_law_631 ?_
  refine zl_callL (own := R_law) (av := [.int (xs (nI (i + 1)).toNatClampNeg), .int (xs (nI (i + 2)).toNatClampNeg), .int (xs (nI (i + 3)).toNatClampNeg)]) (rest := []) (ad := adM) (b := 0) (ci := 6) (B := z_W cA adX kX2) (h := kM) (d := 60) (y := 189) hx hb hml hown hts hN hK (by decide) (by decide) ⟨Nat.le_refl _, Nat.le_refl _⟩ hl.1 hA hP hD hS cM rfl rfl rfl eM rfl (z_t5 (i := 71) rfl rfl) (z_t5 (i := 72) rfl rfl) (z_t5 (i := 73) rfl rfl) (z_t1 (i := 8) rfl rfl) (na := 3) (by decide +kernel) rfl (Nat.le_of_ble_eq_true rfl) dL_law_632 (fun r2 kM2 H locs hq2 hP hD hS => ?_)
  refine lv_pop2_2 hx hb dL_law_635 rfl ?_
  refine lv_goto (tgt := 1289) hx hb dL_law_636 (by decide) ?_
  exact next _ _ _ _ (hT _ _ _ _ hq1 hq2).1 hP hD hS
theorem dL_law_639 : decode cL_law 639 = .ok (.aload_n 1, 1) := z_is_ok (by decide +kernel)
theorem dL_law_640 : decode cL_law 640 = .ok (.aload_n 0, 1) := z_is_ok (by decide +kernel)
theorem dL_law_641 : decode cL_law 641 = .ok (.iload_n 3, 1) := z_is_ok (by decide +kernel)
theorem dL_law_642 : decode cL_law 642 = .ok (.iconst 1, 1) := z_is_ok (by decide +kernel)
theorem dL_law_643 : decode cL_law 643 = .ok (.iadd, 1) := z_is_ok (by decide +kernel)
theorem dL_law_644 : decode cL_law 644 = .ok (.iaload, 1) := z_is_ok (by decide +kernel)
theorem dL_law_645 : decode cL_law 645 = .ok (.aload_n 0, 1) := z_is_ok (by decide +kernel)
theorem dL_law_646 : decode cL_law 646 = .ok (.iload_n 3, 1) := z_is_ok (by decide +kernel)
theorem dL_law_647 : decode cL_law 647 = .ok (.iconst 2, 1) := z_is_ok (by decide +kernel)
theorem dL_law_648 : decode cL_law 648 = .ok (.iadd, 1) := z_is_ok (by decide +kernel)
theorem dL_law_649 : decode cL_law 649 = .ok (.iaload, 1) := z_is_ok (by decide +kernel)
theorem dL_law_650 : decode cL_law 650 = .ok (.aload_n 0, 1) := z_is_ok (by decide +kernel)
theorem dL_law_651 : decode cL_law 651 = .ok (.iload_n 3, 1) := z_is_ok (by decide +kernel)
theorem dL_law_652 : decode cL_law 652 = .ok (.iconst 3, 1) := z_is_ok (by decide +kernel)
theorem dL_law_653 : decode cL_law 653 = .ok (.iadd, 1) := z_is_ok (by decide +kernel)
theorem dL_law_654 : decode cL_law 654 = .ok (.iaload, 1) := z_is_ok (by decide +kernel)
theorem dL_law_655 : decode cL_law 655 = .ok (.invokevirtual 86, 3) := z_is_ok (by decide +kernel)
theorem dL_law_658 : decode cL_law 658 = .ok (.pop, 1) := z_is_ok (by decide +kernel)
theorem dL_law_659 : decode cL_law 659 = .ok (.aload_n 2, 1) := z_is_ok (by decide +kernel)
theorem dL_law_660 : decode cL_law 660 = .ok (.aload_n 0, 1) := z_is_ok (by decide +kernel)
theorem dL_law_661 : decode cL_law 661 = .ok (.iload_n 3, 1) := z_is_ok (by decide +kernel)
theorem dL_law_662 : decode cL_law 662 = .ok (.iconst 1, 1) := z_is_ok (by decide +kernel)
theorem dL_law_663 : decode cL_law 663 = .ok (.iadd, 1) := z_is_ok (by decide +kernel)
theorem dL_law_664 : decode cL_law 664 = .ok (.iaload, 1) := z_is_ok (by decide +kernel)
theorem dL_law_665 : decode cL_law 665 = .ok (.aload_n 0, 1) := z_is_ok (by decide +kernel)
theorem dL_law_666 : decode cL_law 666 = .ok (.iload_n 3, 1) := z_is_ok (by decide +kernel)
theorem dL_law_667 : decode cL_law 667 = .ok (.iconst 2, 1) := z_is_ok (by decide +kernel)
theorem dL_law_668 : decode cL_law 668 = .ok (.iadd, 1) := z_is_ok (by decide +kernel)
theorem dL_law_669 : decode cL_law 669 = .ok (.iaload, 1) := z_is_ok (by decide +kernel)
theorem dL_law_670 : decode cL_law 670 = .ok (.aload_n 0, 1) := z_is_ok (by decide +kernel)
theorem dL_law_671 : decode cL_law 671 = .ok (.iload_n 3, 1) := z_is_ok (by decide +kernel)
theorem dL_law_672 : decode cL_law 672 = .ok (.iconst 3, 1) := z_is_ok (by decide +kernel)
theorem dL_law_673 : decode cL_law 673 = .ok (.iadd, 1) := z_is_ok (by decide +kernel)
theorem dL_law_674 : decode cL_law 674 = .ok (.iaload, 1) := z_is_ok (by decide +kernel)
theorem dL_law_675 : decode cL_law 675 = .ok (.invokevirtual 90, 3) := z_is_ok (by decide +kernel)
theorem dL_law_678 : decode cL_law 678 = .ok (.pop, 1) := z_is_ok (by decide +kernel)
theorem dL_law_679 : decode cL_law 679 = .ok (.goto 610, 3) := z_is_ok (by decide +kernel)
set_option maxHeartbeats 4000000 in
set_option maxRecDepth 100000 in
theorem zw_case_17 {p : Program} {l : Launch} {e : Env} {s : State} {m : MethodId} {below : List Frame} {meth : Method} {c : Code} {D : va_G} {cA : Nat → ClassId} {b L : Nat} {xs : Nat → Int32} (hL : L ≤ 2560) (hx : p.tables.exec = Jvm.exec) (hb : c.code = code) (hr : meth.sig.returnType = ret) (hml : c.maxLocals = 4) (hown : s.vm.findClass R_law = some m.cls) (hts : ∀ w ∈ z_AW, w.before #[Value.ref b] s = true) (hN : z_N s) (hK : va_K D z_cl (z_tys cA) s) (hX : va_X b L xs s s.heap) (hbl : b < s.heap.size) (hlocks : meth.locks = false) {i : Nat} (hi : i + 5 ≤ L) {adX adM : Nat → Nat} {kX kM : List z_E} (hJ : z_JI kX kM) {H : Heap} {locs : List Loc} (hP : va_P D z_cl (z_W cA adX kX ++ z_W cA adM kM) H) (hD : va_D (fun q : Nat => s.heap.size ≤ q) (z_W cA adX kX ++ z_W cA adM kM)) (hS : va_S (fun q : Nat => s.heap.size ≤ q) s.heap H locs) {ls : Array Slot} (hl : lv_has ls 4 [(0, .ref b), (1, .ref (adX 0)), (2, .ref (adM 0)), (3, .int (nI i))])
    (next : ∀ (kX kM : List z_E) (H : Heap) (locs : List Loc), z_JI kX kM → va_P D z_cl (z_W cA adX kX ++ z_W cA adM kM) H → va_D (fun q : Nat => s.heap.size ≤ q) (z_W cA adX kX ++ z_W cA adM kM) → va_S (fun q : Nat => s.heap.size ≤ q) s.heap H locs → W p l e room_1 s m #[Value.ref b] below meth c H locs 600000 7302250 (lw_Z below #[Value.ref b] s) (F0 m 1289 ls [])) : W p l e room_1 s m #[Value.ref b] below meth c H locs 600000 7302250 (lw_Z below #[Value.ref b] s) (F0 m 639 ls []) := by
  have hA : ∀ q : Nat, s.heap.size ≤ q → (fun q : Nat => s.heap.size ≤ q) q := fun _ h => h
  have hbA : ¬ (fun q : Nat => s.heap.size ≤ q) b := Nat.not_le.mpr hbl
  obtain ⟨⟨fX, eX⟩, fM, eM⟩ := zw_recv hJ
  obtain ⟨PX, PM, cX, cM, hT⟩ := pr_way hJ ((xs (nI (i + 1)).toNatClampNeg)) ((xs (nI (i + 2)).toNatClampNeg)) ((xs (nI (i + 3)).toNatClampNeg))
  refine lv_aload_n hx hb dL_law_639 rfl (lv_at hl 1 rfl) ?_
  refine zw_arg (k := 1) hx hb hX hbl hbA hS hL (lv_at hl 0 rfl) (lv_at hl 3 rfl) hi (by decide) rfl dL_law_640 dL_law_641 dL_law_642 dL_law_643 dL_law_644 ?_
  refine zw_arg (k := 2) hx hb hX hbl hbA hS hL (lv_at hl 0 rfl) (lv_at hl 3 rfl) hi (by decide) rfl dL_law_645 dL_law_646 dL_law_647 dL_law_648 dL_law_649 ?_
  refine zw_arg (k := 3) hx hb hX hbl hbA hS hL (lv_at hl 0 rfl) (lv_at hl 3 rfl) hi (by decide) rfl dL_law_650 dL_law_651 dL_law_652 dL_law_653 dL_law_654 ?_
  refine zl_callI (own := R_law) (av := [.int (xs (nI (i + 1)).toNatClampNeg), .int (xs (nI (i + 2)).toNatClampNeg), .int (xs (nI (i + 3)).toNatClampNeg)]) (rest := []) (ad := adX) (b := 0) (ci := 5) (B := z_W cA adM kM) (h := kX) (d := 60) (y := 94) hx hb hml hown hts hN hK (by decide) (by decide) ⟨Nat.le_refl _, Nat.le_refl _⟩ hl.1 hA hP hD hS cX rfl rfl rfl eX rfl (z_t3 (i := 16) rfl rfl) (z_t3 (i := 17) rfl rfl) (z_t3 (i := 18) rfl rfl) (z_t1 (i := 1) rfl rfl) (na := 3) (by decide +kernel) rfl (Nat.le_of_ble_eq_true rfl) dL_law_655 (fun r1 kX2 H locs hq1 hP hD hS => ?_)
  refine lv_pop hx hb dL_law_658 rfl ?_
  refine lv_aload_n hx hb dL_law_659 rfl (lv_at hl 2 rfl) ?_
  refine zw_arg (k := 1) hx hb hX hbl hbA hS hL (lv_at hl 0 rfl) (lv_at hl 3 rfl) hi (by decide) rfl dL_law_660 dL_law_661 dL_law_662 dL_law_663 dL_law_664 ?_
  refine zw_arg (k := 2) hx hb hX hbl hbA hS hL (lv_at hl 0 rfl) (lv_at hl 3 rfl) hi (by decide) rfl dL_law_665 dL_law_666 dL_law_667 dL_law_668 dL_law_669 ?_
  refine zw_arg (k := 3) hx hb hX hbl hbA hS hL (lv_at hl 0 rfl) (lv_at hl 3 rfl) hi (by decide) rfl dL_law_670 dL_law_671 dL_law_672 dL_law_673 dL_law_674 ?_
  refine zl_callI (own := R_law) (av := [.int (xs (nI (i + 1)).toNatClampNeg), .int (xs (nI (i + 2)).toNatClampNeg), .int (xs (nI (i + 3)).toNatClampNeg)]) (rest := []) (ad := adM) (b := 0) (ci := 6) (B := z_W cA adX kX2) (h := kM) (d := 60) (y := 193) hx hb hml hown hts hN hK (by decide) (by decide) ⟨Nat.le_refl _, Nat.le_refl _⟩ hl.1 hA hP hD hS cM rfl rfl rfl eM rfl (z_t5 (i := 122) rfl rfl) (z_t5 (i := 123) rfl rfl) (z_t5 (i := 124) rfl rfl) (z_t1 (i := 8) rfl rfl) (na := 3) (by decide +kernel) rfl (Nat.le_of_ble_eq_true rfl) dL_law_675 (fun r2 kM2 H locs hq2 hP hD hS => ?_)
  refine lv_pop hx hb dL_law_678 rfl ?_
  refine lv_goto (tgt := 1289) hx hb dL_law_679 (by decide) ?_
  exact next _ _ _ _ (hT _ _ _ _ hq1 hq2).1 hP hD hS
theorem dL_law_682 : decode cL_law 682 = .ok (.aload_n 1, 1) := z_is_ok (by decide +kernel)
theorem dL_law_683 : decode cL_law 683 = .ok (.aload_n 0, 1) := z_is_ok (by decide +kernel)
theorem dL_law_684 : decode cL_law 684 = .ok (.iload_n 3, 1) := z_is_ok (by decide +kernel)
theorem dL_law_685 : decode cL_law 685 = .ok (.iconst 1, 1) := z_is_ok (by decide +kernel)
theorem dL_law_686 : decode cL_law 686 = .ok (.iadd, 1) := z_is_ok (by decide +kernel)
theorem dL_law_687 : decode cL_law 687 = .ok (.iaload, 1) := z_is_ok (by decide +kernel)
theorem dL_law_688 : decode cL_law 688 = .ok (.aload_n 0, 1) := z_is_ok (by decide +kernel)
theorem dL_law_689 : decode cL_law 689 = .ok (.iload_n 3, 1) := z_is_ok (by decide +kernel)
theorem dL_law_690 : decode cL_law 690 = .ok (.iconst 2, 1) := z_is_ok (by decide +kernel)
theorem dL_law_691 : decode cL_law 691 = .ok (.iadd, 1) := z_is_ok (by decide +kernel)
theorem dL_law_692 : decode cL_law 692 = .ok (.iaload, 1) := z_is_ok (by decide +kernel)
theorem dL_law_693 : decode cL_law 693 = .ok (.invokevirtual 91, 3) := z_is_ok (by decide +kernel)
theorem dL_law_696 : decode cL_law 696 = .ok (.pop, 1) := z_is_ok (by decide +kernel)
theorem dL_law_697 : decode cL_law 697 = .ok (.aload_n 2, 1) := z_is_ok (by decide +kernel)
theorem dL_law_698 : decode cL_law 698 = .ok (.aload_n 0, 1) := z_is_ok (by decide +kernel)
theorem dL_law_699 : decode cL_law 699 = .ok (.iload_n 3, 1) := z_is_ok (by decide +kernel)
theorem dL_law_700 : decode cL_law 700 = .ok (.iconst 1, 1) := z_is_ok (by decide +kernel)
theorem dL_law_701 : decode cL_law 701 = .ok (.iadd, 1) := z_is_ok (by decide +kernel)
theorem dL_law_702 : decode cL_law 702 = .ok (.iaload, 1) := z_is_ok (by decide +kernel)
theorem dL_law_703 : decode cL_law 703 = .ok (.aload_n 0, 1) := z_is_ok (by decide +kernel)
theorem dL_law_704 : decode cL_law 704 = .ok (.iload_n 3, 1) := z_is_ok (by decide +kernel)
theorem dL_law_705 : decode cL_law 705 = .ok (.iconst 2, 1) := z_is_ok (by decide +kernel)
theorem dL_law_706 : decode cL_law 706 = .ok (.iadd, 1) := z_is_ok (by decide +kernel)
theorem dL_law_707 : decode cL_law 707 = .ok (.iaload, 1) := z_is_ok (by decide +kernel)
theorem dL_law_708 : decode cL_law 708 = .ok (.invokevirtual 94, 3) := z_is_ok (by decide +kernel)
theorem dL_law_711 : decode cL_law 711 = .ok (.pop, 1) := z_is_ok (by decide +kernel)
theorem dL_law_712 : decode cL_law 712 = .ok (.goto 577, 3) := z_is_ok (by decide +kernel)
set_option maxHeartbeats 4000000 in
set_option maxRecDepth 100000 in
theorem zw_case_18 {p : Program} {l : Launch} {e : Env} {s : State} {m : MethodId} {below : List Frame} {meth : Method} {c : Code} {D : va_G} {cA : Nat → ClassId} {b L : Nat} {xs : Nat → Int32} (hL : L ≤ 2560) (hx : p.tables.exec = Jvm.exec) (hb : c.code = code) (hr : meth.sig.returnType = ret) (hml : c.maxLocals = 4) (hown : s.vm.findClass R_law = some m.cls) (hts : ∀ w ∈ z_AW, w.before #[Value.ref b] s = true) (hN : z_N s) (hK : va_K D z_cl (z_tys cA) s) (hX : va_X b L xs s s.heap) (hbl : b < s.heap.size) (hlocks : meth.locks = false) {i : Nat} (hi : i + 5 ≤ L) {adX adM : Nat → Nat} {kX kM : List z_E} (hJ : z_JI kX kM) {H : Heap} {locs : List Loc} (hP : va_P D z_cl (z_W cA adX kX ++ z_W cA adM kM) H) (hD : va_D (fun q : Nat => s.heap.size ≤ q) (z_W cA adX kX ++ z_W cA adM kM)) (hS : va_S (fun q : Nat => s.heap.size ≤ q) s.heap H locs) {ls : Array Slot} (hl : lv_has ls 4 [(0, .ref b), (1, .ref (adX 0)), (2, .ref (adM 0)), (3, .int (nI i))])
    (next : ∀ (kX kM : List z_E) (H : Heap) (locs : List Loc), z_JI kX kM → va_P D z_cl (z_W cA adX kX ++ z_W cA adM kM) H → va_D (fun q : Nat => s.heap.size ≤ q) (z_W cA adX kX ++ z_W cA adM kM) → va_S (fun q : Nat => s.heap.size ≤ q) s.heap H locs → W p l e room_1 s m #[Value.ref b] below meth c H locs 600000 7302250 (lw_Z below #[Value.ref b] s) (F0 m 1289 ls [])) : W p l e room_1 s m #[Value.ref b] below meth c H locs 600000 7302250 (lw_Z below #[Value.ref b] s) (F0 m 682 ls []) := by
  have hA : ∀ q : Nat, s.heap.size ≤ q → (fun q : Nat => s.heap.size ≤ q) q := fun _ h => h
  have hbA : ¬ (fun q : Nat => s.heap.size ≤ q) b := Nat.not_le.mpr hbl
  obtain ⟨⟨fX, eX⟩, fM, eM⟩ := zw_recv hJ
  obtain ⟨PX, PM, cX, cM, hT⟩ := pr_barrier hJ ((xs (nI (i + 1)).toNatClampNeg)) ((xs (nI (i + 2)).toNatClampNeg))
  refine lv_aload_n hx hb dL_law_682 rfl (lv_at hl 1 rfl) ?_
  refine zw_arg (k := 1) hx hb hX hbl hbA hS hL (lv_at hl 0 rfl) (lv_at hl 3 rfl) hi (by decide) rfl dL_law_683 dL_law_684 dL_law_685 dL_law_686 dL_law_687 ?_
  refine zw_arg (k := 2) hx hb hX hbl hbA hS hL (lv_at hl 0 rfl) (lv_at hl 3 rfl) hi (by decide) rfl dL_law_688 dL_law_689 dL_law_690 dL_law_691 dL_law_692 ?_
  refine zl_callI (own := R_law) (av := [.int (xs (nI (i + 1)).toNatClampNeg), .int (xs (nI (i + 2)).toNatClampNeg)]) (rest := []) (ad := adX) (b := 0) (ci := 5) (B := z_W cA adM kM) (h := kX) (d := 60) (y := 95) hx hb hml hown hts hN hK (by decide) (by decide) ⟨Nat.le_refl _, Nat.le_refl _⟩ hl.1 hA hP hD hS cX rfl rfl rfl eX rfl (z_t3 (i := 40) rfl rfl) (z_t3 (i := 41) rfl rfl) (z_t3 (i := 42) rfl rfl) (z_t1 (i := 1) rfl rfl) (na := 2) (by decide +kernel) rfl (Nat.le_of_ble_eq_true rfl) dL_law_693 (fun r1 kX2 H locs hq1 hP hD hS => ?_)
  refine lv_pop hx hb dL_law_696 rfl ?_
  refine lv_aload_n hx hb dL_law_697 rfl (lv_at hl 2 rfl) ?_
  refine zw_arg (k := 1) hx hb hX hbl hbA hS hL (lv_at hl 0 rfl) (lv_at hl 3 rfl) hi (by decide) rfl dL_law_698 dL_law_699 dL_law_700 dL_law_701 dL_law_702 ?_
  refine zw_arg (k := 2) hx hb hX hbl hbA hS hL (lv_at hl 0 rfl) (lv_at hl 3 rfl) hi (by decide) rfl dL_law_703 dL_law_704 dL_law_705 dL_law_706 dL_law_707 ?_
  refine zl_callI (own := R_law) (av := [.int (xs (nI (i + 1)).toNatClampNeg), .int (xs (nI (i + 2)).toNatClampNeg)]) (rest := []) (ad := adM) (b := 0) (ci := 6) (B := z_W cA adX kX2) (h := kM) (d := 60) (y := 195) hx hb hml hown hts hN hK (by decide) (by decide) ⟨Nat.le_refl _, Nat.le_refl _⟩ hl.1 hA hP hD hS cM rfl rfl rfl eM rfl (z_t5 (i := 138) rfl rfl) (z_t5 (i := 139) rfl rfl) (z_t5 (i := 140) rfl rfl) (z_t1 (i := 8) rfl rfl) (na := 2) (by decide +kernel) rfl (Nat.le_of_ble_eq_true rfl) dL_law_708 (fun r2 kM2 H locs hq2 hP hD hS => ?_)
  refine lv_pop hx hb dL_law_711 rfl ?_
  refine lv_goto (tgt := 1289) hx hb dL_law_712 (by decide) ?_
  exact next _ _ _ _ (hT _ _ _ _ hq1 hq2).1 hP hD hS
theorem dL_law_715 : decode cL_law 715 = .ok (.aload_n 1, 1) := z_is_ok (by decide +kernel)
theorem dL_law_716 : decode cL_law 716 = .ok (.aload_n 0, 1) := z_is_ok (by decide +kernel)
theorem dL_law_717 : decode cL_law 717 = .ok (.iload_n 3, 1) := z_is_ok (by decide +kernel)
theorem dL_law_718 : decode cL_law 718 = .ok (.iconst 1, 1) := z_is_ok (by decide +kernel)
theorem dL_law_719 : decode cL_law 719 = .ok (.iadd, 1) := z_is_ok (by decide +kernel)
theorem dL_law_720 : decode cL_law 720 = .ok (.iaload, 1) := z_is_ok (by decide +kernel)
theorem dL_law_721 : decode cL_law 721 = .ok (.aload_n 0, 1) := z_is_ok (by decide +kernel)
theorem dL_law_722 : decode cL_law 722 = .ok (.iload_n 3, 1) := z_is_ok (by decide +kernel)
theorem dL_law_723 : decode cL_law 723 = .ok (.iconst 2, 1) := z_is_ok (by decide +kernel)
theorem dL_law_724 : decode cL_law 724 = .ok (.iadd, 1) := z_is_ok (by decide +kernel)
theorem dL_law_725 : decode cL_law 725 = .ok (.iaload, 1) := z_is_ok (by decide +kernel)
theorem dL_law_726 : decode cL_law 726 = .ok (.invokevirtual 95, 3) := z_is_ok (by decide +kernel)
theorem dL_law_729 : decode cL_law 729 = .ok (.pop, 1) := z_is_ok (by decide +kernel)
theorem dL_law_730 : decode cL_law 730 = .ok (.aload_n 2, 1) := z_is_ok (by decide +kernel)
theorem dL_law_731 : decode cL_law 731 = .ok (.aload_n 0, 1) := z_is_ok (by decide +kernel)
theorem dL_law_732 : decode cL_law 732 = .ok (.iload_n 3, 1) := z_is_ok (by decide +kernel)
theorem dL_law_733 : decode cL_law 733 = .ok (.iconst 1, 1) := z_is_ok (by decide +kernel)
theorem dL_law_734 : decode cL_law 734 = .ok (.iadd, 1) := z_is_ok (by decide +kernel)
theorem dL_law_735 : decode cL_law 735 = .ok (.iaload, 1) := z_is_ok (by decide +kernel)
theorem dL_law_736 : decode cL_law 736 = .ok (.aload_n 0, 1) := z_is_ok (by decide +kernel)
theorem dL_law_737 : decode cL_law 737 = .ok (.iload_n 3, 1) := z_is_ok (by decide +kernel)
theorem dL_law_738 : decode cL_law 738 = .ok (.iconst 2, 1) := z_is_ok (by decide +kernel)
theorem dL_law_739 : decode cL_law 739 = .ok (.iadd, 1) := z_is_ok (by decide +kernel)
theorem dL_law_740 : decode cL_law 740 = .ok (.iaload, 1) := z_is_ok (by decide +kernel)
theorem dL_law_741 : decode cL_law 741 = .ok (.invokevirtual 98, 3) := z_is_ok (by decide +kernel)
theorem dL_law_744 : decode cL_law 744 = .ok (.pop, 1) := z_is_ok (by decide +kernel)
theorem dL_law_745 : decode cL_law 745 = .ok (.goto 544, 3) := z_is_ok (by decide +kernel)
set_option maxHeartbeats 4000000 in
set_option maxRecDepth 100000 in
theorem zw_case_19 {p : Program} {l : Launch} {e : Env} {s : State} {m : MethodId} {below : List Frame} {meth : Method} {c : Code} {D : va_G} {cA : Nat → ClassId} {b L : Nat} {xs : Nat → Int32} (hL : L ≤ 2560) (hx : p.tables.exec = Jvm.exec) (hb : c.code = code) (hr : meth.sig.returnType = ret) (hml : c.maxLocals = 4) (hown : s.vm.findClass R_law = some m.cls) (hts : ∀ w ∈ z_AW, w.before #[Value.ref b] s = true) (hN : z_N s) (hK : va_K D z_cl (z_tys cA) s) (hX : va_X b L xs s s.heap) (hbl : b < s.heap.size) (hlocks : meth.locks = false) {i : Nat} (hi : i + 5 ≤ L) {adX adM : Nat → Nat} {kX kM : List z_E} (hJ : z_JI kX kM) {H : Heap} {locs : List Loc} (hP : va_P D z_cl (z_W cA adX kX ++ z_W cA adM kM) H) (hD : va_D (fun q : Nat => s.heap.size ≤ q) (z_W cA adX kX ++ z_W cA adM kM)) (hS : va_S (fun q : Nat => s.heap.size ≤ q) s.heap H locs) {ls : Array Slot} (hl : lv_has ls 4 [(0, .ref b), (1, .ref (adX 0)), (2, .ref (adM 0)), (3, .int (nI i))])
    (next : ∀ (kX kM : List z_E) (H : Heap) (locs : List Loc), z_JI kX kM → va_P D z_cl (z_W cA adX kX ++ z_W cA adM kM) H → va_D (fun q : Nat => s.heap.size ≤ q) (z_W cA adX kX ++ z_W cA adM kM) → va_S (fun q : Nat => s.heap.size ≤ q) s.heap H locs → W p l e room_1 s m #[Value.ref b] below meth c H locs 600000 7302250 (lw_Z below #[Value.ref b] s) (F0 m 1289 ls [])) : W p l e room_1 s m #[Value.ref b] below meth c H locs 600000 7302250 (lw_Z below #[Value.ref b] s) (F0 m 715 ls []) := by
  have hA : ∀ q : Nat, s.heap.size ≤ q → (fun q : Nat => s.heap.size ≤ q) q := fun _ h => h
  have hbA : ¬ (fun q : Nat => s.heap.size ≤ q) b := Nat.not_le.mpr hbl
  obtain ⟨⟨fX, eX⟩, fM, eM⟩ := zw_recv hJ
  obtain ⟨PX, PM, cX, cM, hT⟩ := pr_beats hJ ((xs (nI (i + 1)).toNatClampNeg)) ((xs (nI (i + 2)).toNatClampNeg))
  refine lv_aload_n hx hb dL_law_715 rfl (lv_at hl 1 rfl) ?_
  refine zw_arg (k := 1) hx hb hX hbl hbA hS hL (lv_at hl 0 rfl) (lv_at hl 3 rfl) hi (by decide) rfl dL_law_716 dL_law_717 dL_law_718 dL_law_719 dL_law_720 ?_
  refine zw_arg (k := 2) hx hb hX hbl hbA hS hL (lv_at hl 0 rfl) (lv_at hl 3 rfl) hi (by decide) rfl dL_law_721 dL_law_722 dL_law_723 dL_law_724 dL_law_725 ?_
  refine zl_callI (own := R_law) (av := [.int (xs (nI (i + 1)).toNatClampNeg), .int (xs (nI (i + 2)).toNatClampNeg)]) (rest := []) (ad := adX) (b := 0) (ci := 5) (B := z_W cA adM kM) (h := kX) (d := 60) (y := 96) hx hb hml hown hts hN hK (by decide) (by decide) ⟨Nat.le_refl _, Nat.le_refl _⟩ hl.1 hA hP hD hS cX rfl rfl rfl eX rfl (z_t3 (i := 48) rfl rfl) (z_t3 (i := 49) rfl rfl) (z_t3 (i := 50) rfl rfl) (z_t1 (i := 1) rfl rfl) (na := 2) (by decide +kernel) rfl (Nat.le_of_ble_eq_true rfl) dL_law_726 (fun r1 kX2 H locs hq1 hP hD hS => ?_)
  refine lv_pop hx hb dL_law_729 rfl ?_
  refine lv_aload_n hx hb dL_law_730 rfl (lv_at hl 2 rfl) ?_
  refine zw_arg (k := 1) hx hb hX hbl hbA hS hL (lv_at hl 0 rfl) (lv_at hl 3 rfl) hi (by decide) rfl dL_law_731 dL_law_732 dL_law_733 dL_law_734 dL_law_735 ?_
  refine zw_arg (k := 2) hx hb hX hbl hbA hS hL (lv_at hl 0 rfl) (lv_at hl 3 rfl) hi (by decide) rfl dL_law_736 dL_law_737 dL_law_738 dL_law_739 dL_law_740 ?_
  refine zl_callI (own := R_law) (av := [.int (xs (nI (i + 1)).toNatClampNeg), .int (xs (nI (i + 2)).toNatClampNeg)]) (rest := []) (ad := adM) (b := 0) (ci := 6) (B := z_W cA adX kX2) (h := kM) (d := 60) (y := 197) hx hb hml hown hts hN hK (by decide) (by decide) ⟨Nat.le_refl _, Nat.le_refl _⟩ hl.1 hA hP hD hS cM rfl rfl rfl eM rfl (z_t5 (i := 146) rfl rfl) (z_t5 (i := 147) rfl rfl) (z_t5 (i := 148) rfl rfl) (z_t1 (i := 8) rfl rfl) (na := 2) (by decide +kernel) rfl (Nat.le_of_ble_eq_true rfl) dL_law_741 (fun r2 kM2 H locs hq2 hP hD hS => ?_)
  refine lv_pop hx hb dL_law_744 rfl ?_
  refine lv_goto (tgt := 1289) hx hb dL_law_745 (by decide) ?_
  exact next _ _ _ _ (hT _ _ _ _ hq1 hq2).1 hP hD hS
theorem dL_law_748 : decode cL_law 748 = .ok (.aload_n 1, 1) := z_is_ok (by decide +kernel)
theorem dL_law_749 : decode cL_law 749 = .ok (.invokevirtual 99, 3) := z_is_ok (by decide +kernel)
theorem dL_law_752 : decode cL_law 752 = .ok (.pop, 1) := z_is_ok (by decide +kernel)
theorem dL_law_753 : decode cL_law 753 = .ok (.aload_n 2, 1) := z_is_ok (by decide +kernel)
theorem dL_law_754 : decode cL_law 754 = .ok (.invokevirtual 102, 3) := z_is_ok (by decide +kernel)
theorem dL_law_757 : decode cL_law 757 = .ok (.pop, 1) := z_is_ok (by decide +kernel)
theorem dL_law_758 : decode cL_law 758 = .ok (.goto 531, 3) := z_is_ok (by decide +kernel)
set_option maxHeartbeats 4000000 in
set_option maxRecDepth 100000 in
theorem zw_case_20 {p : Program} {l : Launch} {e : Env} {s : State} {m : MethodId} {below : List Frame} {meth : Method} {c : Code} {D : va_G} {cA : Nat → ClassId} {b L : Nat} {xs : Nat → Int32} (hL : L ≤ 2560) (hx : p.tables.exec = Jvm.exec) (hb : c.code = code) (hr : meth.sig.returnType = ret) (hml : c.maxLocals = 4) (hown : s.vm.findClass R_law = some m.cls) (hts : ∀ w ∈ z_AW, w.before #[Value.ref b] s = true) (hN : z_N s) (hK : va_K D z_cl (z_tys cA) s) (hX : va_X b L xs s s.heap) (hbl : b < s.heap.size) (hlocks : meth.locks = false) {i : Nat} (hi : i + 5 ≤ L) {adX adM : Nat → Nat} {kX kM : List z_E} (hJ : z_JI kX kM) {H : Heap} {locs : List Loc} (hP : va_P D z_cl (z_W cA adX kX ++ z_W cA adM kM) H) (hD : va_D (fun q : Nat => s.heap.size ≤ q) (z_W cA adX kX ++ z_W cA adM kM)) (hS : va_S (fun q : Nat => s.heap.size ≤ q) s.heap H locs) {ls : Array Slot} (hl : lv_has ls 4 [(0, .ref b), (1, .ref (adX 0)), (2, .ref (adM 0)), (3, .int (nI i))])
    (next : ∀ (kX kM : List z_E) (H : Heap) (locs : List Loc), z_JI kX kM → va_P D z_cl (z_W cA adX kX ++ z_W cA adM kM) H → va_D (fun q : Nat => s.heap.size ≤ q) (z_W cA adX kX ++ z_W cA adM kM) → va_S (fun q : Nat => s.heap.size ≤ q) s.heap H locs → W p l e room_1 s m #[Value.ref b] below meth c H locs 600000 7302250 (lw_Z below #[Value.ref b] s) (F0 m 1289 ls [])) : W p l e room_1 s m #[Value.ref b] below meth c H locs 600000 7302250 (lw_Z below #[Value.ref b] s) (F0 m 748 ls []) := by
  have hA : ∀ q : Nat, s.heap.size ≤ q → (fun q : Nat => s.heap.size ≤ q) q := fun _ h => h
  have hbA : ¬ (fun q : Nat => s.heap.size ≤ q) b := Nat.not_le.mpr hbl
  obtain ⟨⟨fX, eX⟩, fM, eM⟩ := zw_recv hJ
  obtain ⟨PX, PM, cX, cM, hT⟩ := pr_winners hJ 
  refine lv_aload_n hx hb dL_law_748 rfl (lv_at hl 1 rfl) ?_
  refine zl_callI (own := R_law) (av := []) (rest := []) (ad := adX) (b := 0) (ci := 5) (B := z_W cA adM kM) (h := kX) (d := 60) (y := 97) hx hb hml hown hts hN hK (by decide) (by decide) ⟨Nat.le_refl _, Nat.le_refl _⟩ hl.1 hA hP hD hS cX rfl rfl rfl eX rfl (z_t3 (i := 56) rfl rfl) (z_t3 (i := 57) rfl rfl) (z_t3 (i := 58) rfl rfl) (z_t1 (i := 1) rfl rfl) (na := 0) (by decide +kernel) rfl (Nat.le_of_ble_eq_true rfl) dL_law_749 (fun r1 kX2 H locs hq1 hP hD hS => ?_)
  refine lv_pop hx hb dL_law_752 rfl ?_
  refine lv_aload_n hx hb dL_law_753 rfl (lv_at hl 2 rfl) ?_
  refine zl_callI (own := R_law) (av := []) (rest := []) (ad := adM) (b := 0) (ci := 6) (B := z_W cA adX kX2) (h := kM) (d := 60) (y := 199) hx hb hml hown hts hN hK (by decide) (by decide) ⟨Nat.le_refl _, Nat.le_refl _⟩ hl.1 hA hP hD hS cM rfl rfl rfl eM rfl (z_t5 (i := 154) rfl rfl) (z_t5 (i := 155) rfl rfl) (z_t5 (i := 156) rfl rfl) (z_t1 (i := 8) rfl rfl) (na := 0) (by decide +kernel) rfl (Nat.le_of_ble_eq_true rfl) dL_law_754 (fun r2 kM2 H locs hq2 hP hD hS => ?_)
  refine lv_pop hx hb dL_law_757 rfl ?_
  refine lv_goto (tgt := 1289) hx hb dL_law_758 (by decide) ?_
  exact next _ _ _ _ (hT _ _ _ _ hq1 hq2).1 hP hD hS
theorem dL_law_761 : decode cL_law 761 = .ok (.aload_n 1, 1) := z_is_ok (by decide +kernel)
theorem dL_law_762 : decode cL_law 762 = .ok (.aload_n 0, 1) := z_is_ok (by decide +kernel)
theorem dL_law_763 : decode cL_law 763 = .ok (.iload_n 3, 1) := z_is_ok (by decide +kernel)
theorem dL_law_764 : decode cL_law 764 = .ok (.iconst 1, 1) := z_is_ok (by decide +kernel)
theorem dL_law_765 : decode cL_law 765 = .ok (.iadd, 1) := z_is_ok (by decide +kernel)
theorem dL_law_766 : decode cL_law 766 = .ok (.iaload, 1) := z_is_ok (by decide +kernel)
theorem dL_law_767 : decode cL_law 767 = .ok (.invokevirtual 103, 3) := z_is_ok (by decide +kernel)
theorem dL_law_770 : decode cL_law 770 = .ok (.pop, 1) := z_is_ok (by decide +kernel)
theorem dL_law_771 : decode cL_law 771 = .ok (.aload_n 2, 1) := z_is_ok (by decide +kernel)
theorem dL_law_772 : decode cL_law 772 = .ok (.aload_n 0, 1) := z_is_ok (by decide +kernel)
theorem dL_law_773 : decode cL_law 773 = .ok (.iload_n 3, 1) := z_is_ok (by decide +kernel)
theorem dL_law_774 : decode cL_law 774 = .ok (.iconst 1, 1) := z_is_ok (by decide +kernel)
theorem dL_law_775 : decode cL_law 775 = .ok (.iadd, 1) := z_is_ok (by decide +kernel)
theorem dL_law_776 : decode cL_law 776 = .ok (.iaload, 1) := z_is_ok (by decide +kernel)
theorem dL_law_777 : decode cL_law 777 = .ok (.invokevirtual 106, 3) := z_is_ok (by decide +kernel)
theorem dL_law_780 : decode cL_law 780 = .ok (.pop, 1) := z_is_ok (by decide +kernel)
theorem dL_law_781 : decode cL_law 781 = .ok (.goto 508, 3) := z_is_ok (by decide +kernel)
set_option maxHeartbeats 4000000 in
set_option maxRecDepth 100000 in
theorem zw_case_21 {p : Program} {l : Launch} {e : Env} {s : State} {m : MethodId} {below : List Frame} {meth : Method} {c : Code} {D : va_G} {cA : Nat → ClassId} {b L : Nat} {xs : Nat → Int32} (hL : L ≤ 2560) (hx : p.tables.exec = Jvm.exec) (hb : c.code = code) (hr : meth.sig.returnType = ret) (hml : c.maxLocals = 4) (hown : s.vm.findClass R_law = some m.cls) (hts : ∀ w ∈ z_AW, w.before #[Value.ref b] s = true) (hN : z_N s) (hK : va_K D z_cl (z_tys cA) s) (hX : va_X b L xs s s.heap) (hbl : b < s.heap.size) (hlocks : meth.locks = false) {i : Nat} (hi : i + 5 ≤ L) {adX adM : Nat → Nat} {kX kM : List z_E} (hJ : z_JI kX kM) {H : Heap} {locs : List Loc} (hP : va_P D z_cl (z_W cA adX kX ++ z_W cA adM kM) H) (hD : va_D (fun q : Nat => s.heap.size ≤ q) (z_W cA adX kX ++ z_W cA adM kM)) (hS : va_S (fun q : Nat => s.heap.size ≤ q) s.heap H locs) {ls : Array Slot} (hl : lv_has ls 4 [(0, .ref b), (1, .ref (adX 0)), (2, .ref (adM 0)), (3, .int (nI i))])
    (next : ∀ (kX kM : List z_E) (H : Heap) (locs : List Loc), z_JI kX kM → va_P D z_cl (z_W cA adX kX ++ z_W cA adM kM) H → va_D (fun q : Nat => s.heap.size ≤ q) (z_W cA adX kX ++ z_W cA adM kM) → va_S (fun q : Nat => s.heap.size ≤ q) s.heap H locs → W p l e room_1 s m #[Value.ref b] below meth c H locs 600000 7302250 (lw_Z below #[Value.ref b] s) (F0 m 1289 ls [])) : W p l e room_1 s m #[Value.ref b] below meth c H locs 600000 7302250 (lw_Z below #[Value.ref b] s) (F0 m 761 ls []) := by
  have hA : ∀ q : Nat, s.heap.size ≤ q → (fun q : Nat => s.heap.size ≤ q) q := fun _ h => h
  have hbA : ¬ (fun q : Nat => s.heap.size ≤ q) b := Nat.not_le.mpr hbl
  obtain ⟨⟨fX, eX⟩, fM, eM⟩ := zw_recv hJ
  obtain ⟨PX, PM, cX, cM, hT⟩ := pr_ranked hJ ((xs (nI (i + 1)).toNatClampNeg))
  refine lv_aload_n hx hb dL_law_761 rfl (lv_at hl 1 rfl) ?_
  refine zw_arg (k := 1) hx hb hX hbl hbA hS hL (lv_at hl 0 rfl) (lv_at hl 3 rfl) hi (by decide) rfl dL_law_762 dL_law_763 dL_law_764 dL_law_765 dL_law_766 ?_
  refine zl_callI (own := R_law) (av := [.int (xs (nI (i + 1)).toNatClampNeg)]) (rest := []) (ad := adX) (b := 0) (ci := 5) (B := z_W cA adM kM) (h := kX) (d := 60) (y := 98) hx hb hml hown hts hN hK (by decide) (by decide) ⟨Nat.le_refl _, Nat.le_refl _⟩ hl.1 hA hP hD hS cX rfl rfl rfl eX rfl (z_t3 (i := 64) rfl rfl) (z_t3 (i := 65) rfl rfl) (z_t3 (i := 66) rfl rfl) (z_t1 (i := 1) rfl rfl) (na := 1) (by decide +kernel) rfl (Nat.le_of_ble_eq_true rfl) dL_law_767 (fun r1 kX2 H locs hq1 hP hD hS => ?_)
  refine lv_pop hx hb dL_law_770 rfl ?_
  refine lv_aload_n hx hb dL_law_771 rfl (lv_at hl 2 rfl) ?_
  refine zw_arg (k := 1) hx hb hX hbl hbA hS hL (lv_at hl 0 rfl) (lv_at hl 3 rfl) hi (by decide) rfl dL_law_772 dL_law_773 dL_law_774 dL_law_775 dL_law_776 ?_
  refine zl_callI (own := R_law) (av := [.int (xs (nI (i + 1)).toNatClampNeg)]) (rest := []) (ad := adM) (b := 0) (ci := 6) (B := z_W cA adX kX2) (h := kM) (d := 60) (y := 201) hx hb hml hown hts hN hK (by decide) (by decide) ⟨Nat.le_refl _, Nat.le_refl _⟩ hl.1 hA hP hD hS cM rfl rfl rfl eM rfl (z_t5 (i := 162) rfl rfl) (z_t5 (i := 163) rfl rfl) (z_t5 (i := 164) rfl rfl) (z_t1 (i := 8) rfl rfl) (na := 1) (by decide +kernel) rfl (Nat.le_of_ble_eq_true rfl) dL_law_777 (fun r2 kM2 H locs hq2 hP hD hS => ?_)
  refine lv_pop hx hb dL_law_780 rfl ?_
  refine lv_goto (tgt := 1289) hx hb dL_law_781 (by decide) ?_
  exact next _ _ _ _ (hT _ _ _ _ hq1 hq2).1 hP hD hS
theorem dL_law_784 : decode cL_law 784 = .ok (.aload_n 1, 1) := z_is_ok (by decide +kernel)
theorem dL_law_785 : decode cL_law 785 = .ok (.aload_n 0, 1) := z_is_ok (by decide +kernel)
theorem dL_law_786 : decode cL_law 786 = .ok (.iload_n 3, 1) := z_is_ok (by decide +kernel)
theorem dL_law_787 : decode cL_law 787 = .ok (.iconst 1, 1) := z_is_ok (by decide +kernel)
theorem dL_law_788 : decode cL_law 788 = .ok (.iadd, 1) := z_is_ok (by decide +kernel)
theorem dL_law_789 : decode cL_law 789 = .ok (.iaload, 1) := z_is_ok (by decide +kernel)
theorem dL_law_790 : decode cL_law 790 = .ok (.invokevirtual 107, 3) := z_is_ok (by decide +kernel)
theorem dL_law_793 : decode cL_law 793 = .ok (.pop, 1) := z_is_ok (by decide +kernel)
theorem dL_law_794 : decode cL_law 794 = .ok (.aload_n 2, 1) := z_is_ok (by decide +kernel)
theorem dL_law_795 : decode cL_law 795 = .ok (.aload_n 0, 1) := z_is_ok (by decide +kernel)
theorem dL_law_796 : decode cL_law 796 = .ok (.iload_n 3, 1) := z_is_ok (by decide +kernel)
theorem dL_law_797 : decode cL_law 797 = .ok (.iconst 1, 1) := z_is_ok (by decide +kernel)
theorem dL_law_798 : decode cL_law 798 = .ok (.iadd, 1) := z_is_ok (by decide +kernel)
theorem dL_law_799 : decode cL_law 799 = .ok (.iaload, 1) := z_is_ok (by decide +kernel)
theorem dL_law_800 : decode cL_law 800 = .ok (.invokevirtual 110, 3) := z_is_ok (by decide +kernel)
theorem dL_law_803 : decode cL_law 803 = .ok (.pop, 1) := z_is_ok (by decide +kernel)
theorem dL_law_804 : decode cL_law 804 = .ok (.goto 485, 3) := z_is_ok (by decide +kernel)
set_option maxHeartbeats 4000000 in
set_option maxRecDepth 100000 in
theorem zw_case_22 {p : Program} {l : Launch} {e : Env} {s : State} {m : MethodId} {below : List Frame} {meth : Method} {c : Code} {D : va_G} {cA : Nat → ClassId} {b L : Nat} {xs : Nat → Int32} (hL : L ≤ 2560) (hx : p.tables.exec = Jvm.exec) (hb : c.code = code) (hr : meth.sig.returnType = ret) (hml : c.maxLocals = 4) (hown : s.vm.findClass R_law = some m.cls) (hts : ∀ w ∈ z_AW, w.before #[Value.ref b] s = true) (hN : z_N s) (hK : va_K D z_cl (z_tys cA) s) (hX : va_X b L xs s s.heap) (hbl : b < s.heap.size) (hlocks : meth.locks = false) {i : Nat} (hi : i + 5 ≤ L) {adX adM : Nat → Nat} {kX kM : List z_E} (hJ : z_JI kX kM) {H : Heap} {locs : List Loc} (hP : va_P D z_cl (z_W cA adX kX ++ z_W cA adM kM) H) (hD : va_D (fun q : Nat => s.heap.size ≤ q) (z_W cA adX kX ++ z_W cA adM kM)) (hS : va_S (fun q : Nat => s.heap.size ≤ q) s.heap H locs) {ls : Array Slot} (hl : lv_has ls 4 [(0, .ref b), (1, .ref (adX 0)), (2, .ref (adM 0)), (3, .int (nI i))])
    (next : ∀ (kX kM : List z_E) (H : Heap) (locs : List Loc), z_JI kX kM → va_P D z_cl (z_W cA adX kX ++ z_W cA adM kM) H → va_D (fun q : Nat => s.heap.size ≤ q) (z_W cA adX kX ++ z_W cA adM kM) → va_S (fun q : Nat => s.heap.size ≤ q) s.heap H locs → W p l e room_1 s m #[Value.ref b] below meth c H locs 600000 7302250 (lw_Z below #[Value.ref b] s) (F0 m 1289 ls [])) : W p l e room_1 s m #[Value.ref b] below meth c H locs 600000 7302250 (lw_Z below #[Value.ref b] s) (F0 m 784 ls []) := by
  have hA : ∀ q : Nat, s.heap.size ≤ q → (fun q : Nat => s.heap.size ≤ q) q := fun _ h => h
  have hbA : ¬ (fun q : Nat => s.heap.size ≤ q) b := Nat.not_le.mpr hbl
  obtain ⟨⟨fX, eX⟩, fM, eM⟩ := zw_recv hJ
  obtain ⟨PX, PM, cX, cM, hT⟩ := pr_rank hJ ((xs (nI (i + 1)).toNatClampNeg))
  refine lv_aload_n hx hb dL_law_784 rfl (lv_at hl 1 rfl) ?_
  refine zw_arg (k := 1) hx hb hX hbl hbA hS hL (lv_at hl 0 rfl) (lv_at hl 3 rfl) hi (by decide) rfl dL_law_785 dL_law_786 dL_law_787 dL_law_788 dL_law_789 ?_
  refine zl_callI (own := R_law) (av := [.int (xs (nI (i + 1)).toNatClampNeg)]) (rest := []) (ad := adX) (b := 0) (ci := 5) (B := z_W cA adM kM) (h := kX) (d := 60) (y := 99) hx hb hml hown hts hN hK (by decide) (by decide) ⟨Nat.le_refl _, Nat.le_refl _⟩ hl.1 hA hP hD hS cX rfl rfl rfl eX rfl (z_t3 (i := 77) rfl rfl) (z_t3 (i := 78) rfl rfl) (z_t3 (i := 79) rfl rfl) (z_t1 (i := 1) rfl rfl) (na := 1) (by decide +kernel) rfl (Nat.le_of_ble_eq_true rfl) dL_law_790 (fun r1 kX2 H locs hq1 hP hD hS => ?_)
  refine lv_pop hx hb dL_law_793 rfl ?_
  refine lv_aload_n hx hb dL_law_794 rfl (lv_at hl 2 rfl) ?_
  refine zw_arg (k := 1) hx hb hX hbl hbA hS hL (lv_at hl 0 rfl) (lv_at hl 3 rfl) hi (by decide) rfl dL_law_795 dL_law_796 dL_law_797 dL_law_798 dL_law_799 ?_
  refine zl_callI (own := R_law) (av := [.int (xs (nI (i + 1)).toNatClampNeg)]) (rest := []) (ad := adM) (b := 0) (ci := 6) (B := z_W cA adX kX2) (h := kM) (d := 60) (y := 202) hx hb hml hown hts hN hK (by decide) (by decide) ⟨Nat.le_refl _, Nat.le_refl _⟩ hl.1 hA hP hD hS cM rfl rfl rfl eM rfl (z_t5 (i := 173) rfl rfl) (z_t5 (i := 174) rfl rfl) (z_t5 (i := 175) rfl rfl) (z_t1 (i := 8) rfl rfl) (na := 1) (by decide +kernel) rfl (Nat.le_of_ble_eq_true rfl) dL_law_800 (fun r2 kM2 H locs hq2 hP hD hS => ?_)
  refine lv_pop hx hb dL_law_803 rfl ?_
  refine lv_goto (tgt := 1289) hx hb dL_law_804 (by decide) ?_
  exact next _ _ _ _ (hT _ _ _ _ hq1 hq2).1 hP hD hS
theorem dL_law_807 : decode cL_law 807 = .ok (.aload_n 1, 1) := z_is_ok (by decide +kernel)
theorem dL_law_808 : decode cL_law 808 = .ok (.invokevirtual 111, 3) := z_is_ok (by decide +kernel)
theorem dL_law_811 : decode cL_law 811 = .ok (.pop, 1) := z_is_ok (by decide +kernel)
theorem dL_law_812 : decode cL_law 812 = .ok (.aload_n 2, 1) := z_is_ok (by decide +kernel)
theorem dL_law_813 : decode cL_law 813 = .ok (.invokevirtual 114, 3) := z_is_ok (by decide +kernel)
theorem dL_law_816 : decode cL_law 816 = .ok (.pop, 1) := z_is_ok (by decide +kernel)
theorem dL_law_817 : decode cL_law 817 = .ok (.goto 472, 3) := z_is_ok (by decide +kernel)
set_option maxHeartbeats 4000000 in
set_option maxRecDepth 100000 in
theorem zw_case_23 {p : Program} {l : Launch} {e : Env} {s : State} {m : MethodId} {below : List Frame} {meth : Method} {c : Code} {D : va_G} {cA : Nat → ClassId} {b L : Nat} {xs : Nat → Int32} (hL : L ≤ 2560) (hx : p.tables.exec = Jvm.exec) (hb : c.code = code) (hr : meth.sig.returnType = ret) (hml : c.maxLocals = 4) (hown : s.vm.findClass R_law = some m.cls) (hts : ∀ w ∈ z_AW, w.before #[Value.ref b] s = true) (hN : z_N s) (hK : va_K D z_cl (z_tys cA) s) (hX : va_X b L xs s s.heap) (hbl : b < s.heap.size) (hlocks : meth.locks = false) {i : Nat} (hi : i + 5 ≤ L) {adX adM : Nat → Nat} {kX kM : List z_E} (hJ : z_JI kX kM) {H : Heap} {locs : List Loc} (hP : va_P D z_cl (z_W cA adX kX ++ z_W cA adM kM) H) (hD : va_D (fun q : Nat => s.heap.size ≤ q) (z_W cA adX kX ++ z_W cA adM kM)) (hS : va_S (fun q : Nat => s.heap.size ≤ q) s.heap H locs) {ls : Array Slot} (hl : lv_has ls 4 [(0, .ref b), (1, .ref (adX 0)), (2, .ref (adM 0)), (3, .int (nI i))])
    (next : ∀ (kX kM : List z_E) (H : Heap) (locs : List Loc), z_JI kX kM → va_P D z_cl (z_W cA adX kX ++ z_W cA adM kM) H → va_D (fun q : Nat => s.heap.size ≤ q) (z_W cA adX kX ++ z_W cA adM kM) → va_S (fun q : Nat => s.heap.size ≤ q) s.heap H locs → W p l e room_1 s m #[Value.ref b] below meth c H locs 600000 7302250 (lw_Z below #[Value.ref b] s) (F0 m 1289 ls [])) : W p l e room_1 s m #[Value.ref b] below meth c H locs 600000 7302250 (lw_Z below #[Value.ref b] s) (F0 m 807 ls []) := by
  have hA : ∀ q : Nat, s.heap.size ≤ q → (fun q : Nat => s.heap.size ≤ q) q := fun _ h => h
  have hbA : ¬ (fun q : Nat => s.heap.size ≤ q) b := Nat.not_le.mpr hbl
  obtain ⟨⟨fX, eX⟩, fM, eM⟩ := zw_recv hJ
  obtain ⟨PX, PM, cX, cM, hT⟩ := pr_smith hJ 
  refine lv_aload_n hx hb dL_law_807 rfl (lv_at hl 1 rfl) ?_
  refine zl_callI (own := R_law) (av := []) (rest := []) (ad := adX) (b := 0) (ci := 5) (B := z_W cA adM kM) (h := kX) (d := 60) (y := 100) hx hb hml hown hts hN hK (by decide) (by decide) ⟨Nat.le_refl _, Nat.le_refl _⟩ hl.1 hA hP hD hS cX rfl rfl rfl eX rfl (z_t3 (i := 86) rfl rfl) (z_t3 (i := 87) rfl rfl) (z_t3 (i := 88) rfl rfl) (z_t1 (i := 1) rfl rfl) (na := 0) (by decide +kernel) rfl (Nat.le_of_ble_eq_true rfl) dL_law_808 (fun r1 kX2 H locs hq1 hP hD hS => ?_)
  refine lv_pop hx hb dL_law_811 rfl ?_
  refine lv_aload_n hx hb dL_law_812 rfl (lv_at hl 2 rfl) ?_
  refine zl_callI (own := R_law) (av := []) (rest := []) (ad := adM) (b := 0) (ci := 6) (B := z_W cA adX kX2) (h := kM) (d := 60) (y := 204) hx hb hml hown hts hN hK (by decide) (by decide) ⟨Nat.le_refl _, Nat.le_refl _⟩ hl.1 hA hP hD hS cM rfl rfl rfl eM rfl (z_t5 (i := 177) rfl rfl) (z_t5 (i := 178) rfl rfl) (z_t5 (i := 179) rfl rfl) (z_t1 (i := 8) rfl rfl) (na := 0) (by decide +kernel) rfl (Nat.le_of_ble_eq_true rfl) dL_law_813 (fun r2 kM2 H locs hq2 hP hD hS => ?_)
  refine lv_pop hx hb dL_law_816 rfl ?_
  refine lv_goto (tgt := 1289) hx hb dL_law_817 (by decide) ?_
  exact next _ _ _ _ (hT _ _ _ _ hq1 hq2).1 hP hD hS
theorem dL_law_820 : decode cL_law 820 = .ok (.aload_n 1, 1) := z_is_ok (by decide +kernel)
theorem dL_law_821 : decode cL_law 821 = .ok (.aload_n 0, 1) := z_is_ok (by decide +kernel)
theorem dL_law_822 : decode cL_law 822 = .ok (.iload_n 3, 1) := z_is_ok (by decide +kernel)
theorem dL_law_823 : decode cL_law 823 = .ok (.iconst 1, 1) := z_is_ok (by decide +kernel)
theorem dL_law_824 : decode cL_law 824 = .ok (.iadd, 1) := z_is_ok (by decide +kernel)
theorem dL_law_825 : decode cL_law 825 = .ok (.iaload, 1) := z_is_ok (by decide +kernel)
theorem dL_law_826 : decode cL_law 826 = .ok (.invokevirtual 115, 3) := z_is_ok (by decide +kernel)
theorem dL_law_829 : decode cL_law 829 = .ok (.pop, 1) := z_is_ok (by decide +kernel)
theorem dL_law_830 : decode cL_law 830 = .ok (.aload_n 2, 1) := z_is_ok (by decide +kernel)
theorem dL_law_831 : decode cL_law 831 = .ok (.aload_n 0, 1) := z_is_ok (by decide +kernel)
theorem dL_law_832 : decode cL_law 832 = .ok (.iload_n 3, 1) := z_is_ok (by decide +kernel)
theorem dL_law_833 : decode cL_law 833 = .ok (.iconst 1, 1) := z_is_ok (by decide +kernel)
theorem dL_law_834 : decode cL_law 834 = .ok (.iadd, 1) := z_is_ok (by decide +kernel)
theorem dL_law_835 : decode cL_law 835 = .ok (.iaload, 1) := z_is_ok (by decide +kernel)
theorem dL_law_836 : decode cL_law 836 = .ok (.invokevirtual 118, 3) := z_is_ok (by decide +kernel)
theorem dL_law_839 : decode cL_law 839 = .ok (.pop, 1) := z_is_ok (by decide +kernel)
theorem dL_law_840 : decode cL_law 840 = .ok (.goto 449, 3) := z_is_ok (by decide +kernel)
set_option maxHeartbeats 4000000 in
set_option maxRecDepth 100000 in
theorem zw_case_24 {p : Program} {l : Launch} {e : Env} {s : State} {m : MethodId} {below : List Frame} {meth : Method} {c : Code} {D : va_G} {cA : Nat → ClassId} {b L : Nat} {xs : Nat → Int32} (hL : L ≤ 2560) (hx : p.tables.exec = Jvm.exec) (hb : c.code = code) (hr : meth.sig.returnType = ret) (hml : c.maxLocals = 4) (hown : s.vm.findClass R_law = some m.cls) (hts : ∀ w ∈ z_AW, w.before #[Value.ref b] s = true) (hN : z_N s) (hK : va_K D z_cl (z_tys cA) s) (hX : va_X b L xs s s.heap) (hbl : b < s.heap.size) (hlocks : meth.locks = false) {i : Nat} (hi : i + 5 ≤ L) {adX adM : Nat → Nat} {kX kM : List z_E} (hJ : z_JI kX kM) {H : Heap} {locs : List Loc} (hP : va_P D z_cl (z_W cA adX kX ++ z_W cA adM kM) H) (hD : va_D (fun q : Nat => s.heap.size ≤ q) (z_W cA adX kX ++ z_W cA adM kM)) (hS : va_S (fun q : Nat => s.heap.size ≤ q) s.heap H locs) {ls : Array Slot} (hl : lv_has ls 4 [(0, .ref b), (1, .ref (adX 0)), (2, .ref (adM 0)), (3, .int (nI i))])
    (next : ∀ (kX kM : List z_E) (H : Heap) (locs : List Loc), z_JI kX kM → va_P D z_cl (z_W cA adX kX ++ z_W cA adM kM) H → va_D (fun q : Nat => s.heap.size ≤ q) (z_W cA adX kX ++ z_W cA adM kM) → va_S (fun q : Nat => s.heap.size ≤ q) s.heap H locs → W p l e room_1 s m #[Value.ref b] below meth c H locs 600000 7302250 (lw_Z below #[Value.ref b] s) (F0 m 1289 ls [])) : W p l e room_1 s m #[Value.ref b] below meth c H locs 600000 7302250 (lw_Z below #[Value.ref b] s) (F0 m 820 ls []) := by
  have hA : ∀ q : Nat, s.heap.size ≤ q → (fun q : Nat => s.heap.size ≤ q) q := fun _ h => h
  have hbA : ¬ (fun q : Nat => s.heap.size ≤ q) b := Nat.not_le.mpr hbl
  obtain ⟨⟨fX, eX⟩, fM, eM⟩ := zw_recv hJ
  obtain ⟨PX, PM, cX, cM, hT⟩ := pr_clones hJ ((xs (nI (i + 1)).toNatClampNeg))
  refine lv_aload_n hx hb dL_law_820 rfl (lv_at hl 1 rfl) ?_
  refine zw_arg (k := 1) hx hb hX hbl hbA hS hL (lv_at hl 0 rfl) (lv_at hl 3 rfl) hi (by decide) rfl dL_law_821 dL_law_822 dL_law_823 dL_law_824 dL_law_825 ?_
  refine zl_callI (own := R_law) (av := [.int (xs (nI (i + 1)).toNatClampNeg)]) (rest := []) (ad := adX) (b := 0) (ci := 5) (B := z_W cA adM kM) (h := kX) (d := 60) (y := 101) hx hb hml hown hts hN hK (by decide) (by decide) ⟨Nat.le_refl _, Nat.le_refl _⟩ hl.1 hA hP hD hS cX rfl rfl rfl eX rfl (z_t3 (i := 108) rfl rfl) (z_t3 (i := 109) rfl rfl) (z_t3 (i := 110) rfl rfl) (z_t1 (i := 1) rfl rfl) (na := 1) (by decide +kernel) rfl (Nat.le_of_ble_eq_true rfl) dL_law_826 (fun r1 kX2 H locs hq1 hP hD hS => ?_)
  refine lv_pop hx hb dL_law_829 rfl ?_
  refine lv_aload_n hx hb dL_law_830 rfl (lv_at hl 2 rfl) ?_
  refine zw_arg (k := 1) hx hb hX hbl hbA hS hL (lv_at hl 0 rfl) (lv_at hl 3 rfl) hi (by decide) rfl dL_law_831 dL_law_832 dL_law_833 dL_law_834 dL_law_835 ?_
  refine zl_callI (own := R_law) (av := [.int (xs (nI (i + 1)).toNatClampNeg)]) (rest := []) (ad := adM) (b := 0) (ci := 6) (B := z_W cA adX kX2) (h := kM) (d := 60) (y := 207) hx hb hml hown hts hN hK (by decide) (by decide) ⟨Nat.le_refl _, Nat.le_refl _⟩ hl.1 hA hP hD hS cM rfl rfl rfl eM rfl (z_t5 (i := 185) rfl rfl) (z_t5 (i := 186) rfl rfl) (z_t5 (i := 187) rfl rfl) (z_t1 (i := 8) rfl rfl) (na := 1) (by decide +kernel) rfl (Nat.le_of_ble_eq_true rfl) dL_law_836 (fun r2 kM2 H locs hq2 hP hD hS => ?_)
  refine lv_pop hx hb dL_law_839 rfl ?_
  refine lv_goto (tgt := 1289) hx hb dL_law_840 (by decide) ?_
  exact next _ _ _ _ (hT _ _ _ _ hq1 hq2).1 hP hD hS
theorem dL_law_843 : decode cL_law 843 = .ok (.aload_n 1, 1) := z_is_ok (by decide +kernel)
theorem dL_law_844 : decode cL_law 844 = .ok (.aload_n 0, 1) := z_is_ok (by decide +kernel)
theorem dL_law_845 : decode cL_law 845 = .ok (.iload_n 3, 1) := z_is_ok (by decide +kernel)
theorem dL_law_846 : decode cL_law 846 = .ok (.iconst 1, 1) := z_is_ok (by decide +kernel)
theorem dL_law_847 : decode cL_law 847 = .ok (.iadd, 1) := z_is_ok (by decide +kernel)
theorem dL_law_848 : decode cL_law 848 = .ok (.iaload, 1) := z_is_ok (by decide +kernel)
theorem dL_law_849 : decode cL_law 849 = .ok (.aload_n 0, 1) := z_is_ok (by decide +kernel)
theorem dL_law_850 : decode cL_law 850 = .ok (.iload_n 3, 1) := z_is_ok (by decide +kernel)
theorem dL_law_851 : decode cL_law 851 = .ok (.iconst 2, 1) := z_is_ok (by decide +kernel)
theorem dL_law_852 : decode cL_law 852 = .ok (.iadd, 1) := z_is_ok (by decide +kernel)
theorem dL_law_853 : decode cL_law 853 = .ok (.iaload, 1) := z_is_ok (by decide +kernel)
theorem dL_law_854 : decode cL_law 854 = .ok (.invokevirtual 119, 3) := z_is_ok (by decide +kernel)
theorem dL_law_857 : decode cL_law 857 = .ok (.pop2, 1) := z_is_ok (by decide +kernel)
theorem dL_law_858 : decode cL_law 858 = .ok (.aload_n 2, 1) := z_is_ok (by decide +kernel)
theorem dL_law_859 : decode cL_law 859 = .ok (.aload_n 0, 1) := z_is_ok (by decide +kernel)
theorem dL_law_860 : decode cL_law 860 = .ok (.iload_n 3, 1) := z_is_ok (by decide +kernel)
theorem dL_law_861 : decode cL_law 861 = .ok (.iconst 1, 1) := z_is_ok (by decide +kernel)
theorem dL_law_862 : decode cL_law 862 = .ok (.iadd, 1) := z_is_ok (by decide +kernel)
theorem dL_law_863 : decode cL_law 863 = .ok (.iaload, 1) := z_is_ok (by decide +kernel)
theorem dL_law_864 : decode cL_law 864 = .ok (.aload_n 0, 1) := z_is_ok (by decide +kernel)
theorem dL_law_865 : decode cL_law 865 = .ok (.iload_n 3, 1) := z_is_ok (by decide +kernel)
theorem dL_law_866 : decode cL_law 866 = .ok (.iconst 2, 1) := z_is_ok (by decide +kernel)
theorem dL_law_867 : decode cL_law 867 = .ok (.iadd, 1) := z_is_ok (by decide +kernel)
theorem dL_law_868 : decode cL_law 868 = .ok (.iaload, 1) := z_is_ok (by decide +kernel)
theorem dL_law_869 : decode cL_law 869 = .ok (.invokevirtual 122, 3) := z_is_ok (by decide +kernel)
theorem dL_law_872 : decode cL_law 872 = .ok (.pop2, 1) := z_is_ok (by decide +kernel)
theorem dL_law_873 : decode cL_law 873 = .ok (.goto 416, 3) := z_is_ok (by decide +kernel)
set_option maxHeartbeats 4000000 in
set_option maxRecDepth 100000 in
theorem zw_case_25 {p : Program} {l : Launch} {e : Env} {s : State} {m : MethodId} {below : List Frame} {meth : Method} {c : Code} {D : va_G} {cA : Nat → ClassId} {b L : Nat} {xs : Nat → Int32} (hL : L ≤ 2560) (hx : p.tables.exec = Jvm.exec) (hb : c.code = code) (hr : meth.sig.returnType = ret) (hml : c.maxLocals = 4) (hown : s.vm.findClass R_law = some m.cls) (hts : ∀ w ∈ z_AW, w.before #[Value.ref b] s = true) (hN : z_N s) (hK : va_K D z_cl (z_tys cA) s) (hX : va_X b L xs s s.heap) (hbl : b < s.heap.size) (hlocks : meth.locks = false) {i : Nat} (hi : i + 5 ≤ L) {adX adM : Nat → Nat} {kX kM : List z_E} (hJ : z_JI kX kM) {H : Heap} {locs : List Loc} (hP : va_P D z_cl (z_W cA adX kX ++ z_W cA adM kM) H) (hD : va_D (fun q : Nat => s.heap.size ≤ q) (z_W cA adX kX ++ z_W cA adM kM)) (hS : va_S (fun q : Nat => s.heap.size ≤ q) s.heap H locs) {ls : Array Slot} (hl : lv_has ls 4 [(0, .ref b), (1, .ref (adX 0)), (2, .ref (adM 0)), (3, .int (nI i))])
    (next : ∀ (kX kM : List z_E) (H : Heap) (locs : List Loc), z_JI kX kM → va_P D z_cl (z_W cA adX kX ++ z_W cA adM kM) H → va_D (fun q : Nat => s.heap.size ≤ q) (z_W cA adX kX ++ z_W cA adM kM) → va_S (fun q : Nat => s.heap.size ≤ q) s.heap H locs → W p l e room_1 s m #[Value.ref b] below meth c H locs 600000 7302250 (lw_Z below #[Value.ref b] s) (F0 m 1289 ls [])) : W p l e room_1 s m #[Value.ref b] below meth c H locs 600000 7302250 (lw_Z below #[Value.ref b] s) (F0 m 843 ls []) := by
  have hA : ∀ q : Nat, s.heap.size ≤ q → (fun q : Nat => s.heap.size ≤ q) q := fun _ h => h
  have hbA : ¬ (fun q : Nat => s.heap.size ≤ q) b := Nat.not_le.mpr hbl
  obtain ⟨⟨fX, eX⟩, fM, eM⟩ := zw_recv hJ
  obtain ⟨PX, PM, cX, cM, hT⟩ := pr_sum hJ ((xs (nI (i + 1)).toNatClampNeg)) ((xs (nI (i + 2)).toNatClampNeg))
  refine lv_aload_n hx hb dL_law_843 rfl (lv_at hl 1 rfl) ?_
  refine zw_arg (k := 1) hx hb hX hbl hbA hS hL (lv_at hl 0 rfl) (lv_at hl 3 rfl) hi (by decide) rfl dL_law_844 dL_law_845 dL_law_846 dL_law_847 dL_law_848 ?_
  refine zw_arg (k := 2) hx hb hX hbl hbA hS hL (lv_at hl 0 rfl) (lv_at hl 3 rfl) hi (by decide) rfl dL_law_849 dL_law_850 dL_law_851 dL_law_852 dL_law_853 ?_
  refine zl_callL (own := R_law) (av := [.int (xs (nI (i + 1)).toNatClampNeg), .int (xs (nI (i + 2)).toNatClampNeg)]) (rest := []) (ad := adX) (b := 0) (ci := 5) (B := z_W cA adM kM) (h := kX) (d := 60) (y := 102) hx hb hml hown hts hN hK (by decide) (by decide) ⟨Nat.le_refl _, Nat.le_refl _⟩ hl.1 hA hP hD hS cX rfl rfl rfl eX rfl (z_t3 (i := 123) rfl rfl) (z_t3 (i := 124) rfl rfl) (z_t3 (i := 125) rfl rfl) (z_t1 (i := 1) rfl rfl) (na := 2) (by decide +kernel) rfl (Nat.le_of_ble_eq_true rfl) dL_law_854 (fun r1 kX2 H locs hq1 hP hD hS => ?_)
  refine lv_pop2_2 hx hb dL_law_857 rfl ?_
  refine lv_aload_n hx hb dL_law_858 rfl (lv_at hl 2 rfl) ?_
  refine zw_arg (k := 1) hx hb hX hbl hbA hS hL (lv_at hl 0 rfl) (lv_at hl 3 rfl) hi (by decide) rfl dL_law_859 dL_law_860 dL_law_861 dL_law_862 dL_law_863 ?_
  refine zw_arg (k := 2) hx hb hX hbl hbA hS hL (lv_at hl 0 rfl) (lv_at hl 3 rfl) hi (by decide) rfl dL_law_864 dL_law_865 dL_law_866 dL_law_867 dL_law_868 ?_
  refine zl_callL (own := R_law) (av := [.int (xs (nI (i + 1)).toNatClampNeg), .int (xs (nI (i + 2)).toNatClampNeg)]) (rest := []) (ad := adM) (b := 0) (ci := 6) (B := z_W cA adX kX2) (h := kM) (d := 60) (y := 209) hx hb hml hown hts hN hK (by decide) (by decide) ⟨Nat.le_refl _, Nat.le_refl _⟩ hl.1 hA hP hD hS cM rfl rfl rfl eM rfl (z_t5 (i := 197) rfl rfl) (z_t5 (i := 198) rfl rfl) (z_t5 (i := 199) rfl rfl) (z_t1 (i := 8) rfl rfl) (na := 2) (by decide +kernel) rfl (Nat.le_of_ble_eq_true rfl) dL_law_869 (fun r2 kM2 H locs hq2 hP hD hS => ?_)
  refine lv_pop2_2 hx hb dL_law_872 rfl ?_
  refine lv_goto (tgt := 1289) hx hb dL_law_873 (by decide) ?_
  exact next _ _ _ _ (hT _ _ _ _ hq1 hq2).1 hP hD hS
theorem dL_law_876 : decode cL_law 876 = .ok (.aload_n 1, 1) := z_is_ok (by decide +kernel)
theorem dL_law_877 : decode cL_law 877 = .ok (.aload_n 0, 1) := z_is_ok (by decide +kernel)
theorem dL_law_878 : decode cL_law 878 = .ok (.iload_n 3, 1) := z_is_ok (by decide +kernel)
theorem dL_law_879 : decode cL_law 879 = .ok (.iconst 1, 1) := z_is_ok (by decide +kernel)
theorem dL_law_880 : decode cL_law 880 = .ok (.iadd, 1) := z_is_ok (by decide +kernel)
theorem dL_law_881 : decode cL_law 881 = .ok (.iaload, 1) := z_is_ok (by decide +kernel)
theorem dL_law_882 : decode cL_law 882 = .ok (.invokevirtual 123, 3) := z_is_ok (by decide +kernel)
theorem dL_law_885 : decode cL_law 885 = .ok (.pop, 1) := z_is_ok (by decide +kernel)
theorem dL_law_886 : decode cL_law 886 = .ok (.aload_n 2, 1) := z_is_ok (by decide +kernel)
theorem dL_law_887 : decode cL_law 887 = .ok (.aload_n 0, 1) := z_is_ok (by decide +kernel)
theorem dL_law_888 : decode cL_law 888 = .ok (.iload_n 3, 1) := z_is_ok (by decide +kernel)
theorem dL_law_889 : decode cL_law 889 = .ok (.iconst 1, 1) := z_is_ok (by decide +kernel)
theorem dL_law_890 : decode cL_law 890 = .ok (.iadd, 1) := z_is_ok (by decide +kernel)
theorem dL_law_891 : decode cL_law 891 = .ok (.iaload, 1) := z_is_ok (by decide +kernel)
theorem dL_law_892 : decode cL_law 892 = .ok (.invokevirtual 126, 3) := z_is_ok (by decide +kernel)
theorem dL_law_895 : decode cL_law 895 = .ok (.pop, 1) := z_is_ok (by decide +kernel)
theorem dL_law_896 : decode cL_law 896 = .ok (.goto 393, 3) := z_is_ok (by decide +kernel)
set_option maxHeartbeats 4000000 in
set_option maxRecDepth 100000 in
theorem zw_case_26 {p : Program} {l : Launch} {e : Env} {s : State} {m : MethodId} {below : List Frame} {meth : Method} {c : Code} {D : va_G} {cA : Nat → ClassId} {b L : Nat} {xs : Nat → Int32} (hL : L ≤ 2560) (hx : p.tables.exec = Jvm.exec) (hb : c.code = code) (hr : meth.sig.returnType = ret) (hml : c.maxLocals = 4) (hown : s.vm.findClass R_law = some m.cls) (hts : ∀ w ∈ z_AW, w.before #[Value.ref b] s = true) (hN : z_N s) (hK : va_K D z_cl (z_tys cA) s) (hX : va_X b L xs s s.heap) (hbl : b < s.heap.size) (hlocks : meth.locks = false) {i : Nat} (hi : i + 5 ≤ L) {adX adM : Nat → Nat} {kX kM : List z_E} (hJ : z_JI kX kM) {H : Heap} {locs : List Loc} (hP : va_P D z_cl (z_W cA adX kX ++ z_W cA adM kM) H) (hD : va_D (fun q : Nat => s.heap.size ≤ q) (z_W cA adX kX ++ z_W cA adM kM)) (hS : va_S (fun q : Nat => s.heap.size ≤ q) s.heap H locs) {ls : Array Slot} (hl : lv_has ls 4 [(0, .ref b), (1, .ref (adX 0)), (2, .ref (adM 0)), (3, .int (nI i))])
    (next : ∀ (kX kM : List z_E) (H : Heap) (locs : List Loc), z_JI kX kM → va_P D z_cl (z_W cA adX kX ++ z_W cA adM kM) H → va_D (fun q : Nat => s.heap.size ≤ q) (z_W cA adX kX ++ z_W cA adM kM) → va_S (fun q : Nat => s.heap.size ≤ q) s.heap H locs → W p l e room_1 s m #[Value.ref b] below meth c H locs 600000 7302250 (lw_Z below #[Value.ref b] s) (F0 m 1289 ls [])) : W p l e room_1 s m #[Value.ref b] below meth c H locs 600000 7302250 (lw_Z below #[Value.ref b] s) (F0 m 876 ls []) := by
  have hA : ∀ q : Nat, s.heap.size ≤ q → (fun q : Nat => s.heap.size ≤ q) q := fun _ h => h
  have hbA : ¬ (fun q : Nat => s.heap.size ≤ q) b := Nat.not_le.mpr hbl
  obtain ⟨⟨fX, eX⟩, fM, eM⟩ := zw_recv hJ
  obtain ⟨PX, PM, cX, cM, hT⟩ := pr_without hJ ((xs (nI (i + 1)).toNatClampNeg))
  refine lv_aload_n hx hb dL_law_876 rfl (lv_at hl 1 rfl) ?_
  refine zw_arg (k := 1) hx hb hX hbl hbA hS hL (lv_at hl 0 rfl) (lv_at hl 3 rfl) hi (by decide) rfl dL_law_877 dL_law_878 dL_law_879 dL_law_880 dL_law_881 ?_
  refine zl_callI (own := R_law) (av := [.int (xs (nI (i + 1)).toNatClampNeg)]) (rest := []) (ad := adX) (b := 0) (ci := 5) (B := z_W cA adM kM) (h := kX) (d := 60) (y := 103) hx hb hml hown hts hN hK (by decide) (by decide) ⟨Nat.le_refl _, Nat.le_refl _⟩ hl.1 hA hP hD hS cX rfl rfl rfl eX rfl (z_t3 (i := 140) rfl rfl) (z_t3 (i := 141) rfl rfl) (z_t3 (i := 142) rfl rfl) (z_t1 (i := 1) rfl rfl) (na := 1) (by decide +kernel) rfl (Nat.le_of_ble_eq_true rfl) dL_law_882 (fun r1 kX2 H locs hq1 hP hD hS => ?_)
  refine lv_pop hx hb dL_law_885 rfl ?_
  refine lv_aload_n hx hb dL_law_886 rfl (lv_at hl 2 rfl) ?_
  refine zw_arg (k := 1) hx hb hX hbl hbA hS hL (lv_at hl 0 rfl) (lv_at hl 3 rfl) hi (by decide) rfl dL_law_887 dL_law_888 dL_law_889 dL_law_890 dL_law_891 ?_
  refine zl_callI (own := R_law) (av := [.int (xs (nI (i + 1)).toNatClampNeg)]) (rest := []) (ad := adM) (b := 0) (ci := 6) (B := z_W cA adX kX2) (h := kM) (d := 60) (y := 212) hx hb hml hown hts hN hK (by decide) (by decide) ⟨Nat.le_refl _, Nat.le_refl _⟩ hl.1 hA hP hD hS cM rfl rfl rfl eM rfl (z_t5 (i := 205) rfl rfl) (z_t5 (i := 206) rfl rfl) (z_t5 (i := 207) rfl rfl) (z_t1 (i := 8) rfl rfl) (na := 1) (by decide +kernel) rfl (Nat.le_of_ble_eq_true rfl) dL_law_892 (fun r2 kM2 H locs hq2 hP hD hS => ?_)
  refine lv_pop hx hb dL_law_895 rfl ?_
  refine lv_goto (tgt := 1289) hx hb dL_law_896 (by decide) ?_
  exact next _ _ _ _ (hT _ _ _ _ hq1 hq2).1 hP hD hS
theorem dL_law_899 : decode cL_law 899 = .ok (.aload_n 1, 1) := z_is_ok (by decide +kernel)
theorem dL_law_900 : decode cL_law 900 = .ok (.aload_n 0, 1) := z_is_ok (by decide +kernel)
theorem dL_law_901 : decode cL_law 901 = .ok (.iload_n 3, 1) := z_is_ok (by decide +kernel)
theorem dL_law_902 : decode cL_law 902 = .ok (.iconst 1, 1) := z_is_ok (by decide +kernel)
theorem dL_law_903 : decode cL_law 903 = .ok (.iadd, 1) := z_is_ok (by decide +kernel)
theorem dL_law_904 : decode cL_law 904 = .ok (.iaload, 1) := z_is_ok (by decide +kernel)
theorem dL_law_905 : decode cL_law 905 = .ok (.invokevirtual 127, 3) := z_is_ok (by decide +kernel)
theorem dL_law_908 : decode cL_law 908 = .ok (.pop, 1) := z_is_ok (by decide +kernel)
theorem dL_law_909 : decode cL_law 909 = .ok (.aload_n 2, 1) := z_is_ok (by decide +kernel)
theorem dL_law_910 : decode cL_law 910 = .ok (.aload_n 0, 1) := z_is_ok (by decide +kernel)
theorem dL_law_911 : decode cL_law 911 = .ok (.iload_n 3, 1) := z_is_ok (by decide +kernel)
theorem dL_law_912 : decode cL_law 912 = .ok (.iconst 1, 1) := z_is_ok (by decide +kernel)
theorem dL_law_913 : decode cL_law 913 = .ok (.iadd, 1) := z_is_ok (by decide +kernel)
theorem dL_law_914 : decode cL_law 914 = .ok (.iaload, 1) := z_is_ok (by decide +kernel)
theorem dL_law_915 : decode cL_law 915 = .ok (.invokevirtual 130, 3) := z_is_ok (by decide +kernel)
theorem dL_law_918 : decode cL_law 918 = .ok (.pop, 1) := z_is_ok (by decide +kernel)
theorem dL_law_919 : decode cL_law 919 = .ok (.goto 370, 3) := z_is_ok (by decide +kernel)
set_option maxHeartbeats 4000000 in
set_option maxRecDepth 100000 in
theorem zw_case_27 {p : Program} {l : Launch} {e : Env} {s : State} {m : MethodId} {below : List Frame} {meth : Method} {c : Code} {D : va_G} {cA : Nat → ClassId} {b L : Nat} {xs : Nat → Int32} (hL : L ≤ 2560) (hx : p.tables.exec = Jvm.exec) (hb : c.code = code) (hr : meth.sig.returnType = ret) (hml : c.maxLocals = 4) (hown : s.vm.findClass R_law = some m.cls) (hts : ∀ w ∈ z_AW, w.before #[Value.ref b] s = true) (hN : z_N s) (hK : va_K D z_cl (z_tys cA) s) (hX : va_X b L xs s s.heap) (hbl : b < s.heap.size) (hlocks : meth.locks = false) {i : Nat} (hi : i + 5 ≤ L) {adX adM : Nat → Nat} {kX kM : List z_E} (hJ : z_JI kX kM) {H : Heap} {locs : List Loc} (hP : va_P D z_cl (z_W cA adX kX ++ z_W cA adM kM) H) (hD : va_D (fun q : Nat => s.heap.size ≤ q) (z_W cA adX kX ++ z_W cA adM kM)) (hS : va_S (fun q : Nat => s.heap.size ≤ q) s.heap H locs) {ls : Array Slot} (hl : lv_has ls 4 [(0, .ref b), (1, .ref (adX 0)), (2, .ref (adM 0)), (3, .int (nI i))])
    (next : ∀ (kX kM : List z_E) (H : Heap) (locs : List Loc), z_JI kX kM → va_P D z_cl (z_W cA adX kX ++ z_W cA adM kM) H → va_D (fun q : Nat => s.heap.size ≤ q) (z_W cA adX kX ++ z_W cA adM kM) → va_S (fun q : Nat => s.heap.size ≤ q) s.heap H locs → W p l e room_1 s m #[Value.ref b] below meth c H locs 600000 7302250 (lw_Z below #[Value.ref b] s) (F0 m 1289 ls [])) : W p l e room_1 s m #[Value.ref b] below meth c H locs 600000 7302250 (lw_Z below #[Value.ref b] s) (F0 m 899 ls []) := by
  have hA : ∀ q : Nat, s.heap.size ≤ q → (fun q : Nat => s.heap.size ≤ q) q := fun _ h => h
  have hbA : ¬ (fun q : Nat => s.heap.size ≤ q) b := Nat.not_le.mpr hbl
  obtain ⟨⟨fX, eX⟩, fM, eM⟩ := zw_recv hJ
  obtain ⟨PX, PM, cX, cM, hT⟩ := pr_would hJ ((xs (nI (i + 1)).toNatClampNeg))
  refine lv_aload_n hx hb dL_law_899 rfl (lv_at hl 1 rfl) ?_
  refine zw_arg (k := 1) hx hb hX hbl hbA hS hL (lv_at hl 0 rfl) (lv_at hl 3 rfl) hi (by decide) rfl dL_law_900 dL_law_901 dL_law_902 dL_law_903 dL_law_904 ?_
  refine zl_callI (own := R_law) (av := [.int (xs (nI (i + 1)).toNatClampNeg)]) (rest := []) (ad := adX) (b := 0) (ci := 5) (B := z_W cA adM kM) (h := kX) (d := 60) (y := 104) hx hb hml hown hts hN hK (by decide) (by decide) ⟨Nat.le_refl _, Nat.le_refl _⟩ hl.1 hA hP hD hS cX rfl rfl rfl eX rfl (z_t3 (i := 153) rfl rfl) (z_t3 (i := 154) rfl rfl) (z_t3 (i := 155) rfl rfl) (z_t1 (i := 1) rfl rfl) (na := 1) (by decide +kernel) rfl (Nat.le_of_ble_eq_true rfl) dL_law_905 (fun r1 kX2 H locs hq1 hP hD hS => ?_)
  refine lv_pop hx hb dL_law_908 rfl ?_
  refine lv_aload_n hx hb dL_law_909 rfl (lv_at hl 2 rfl) ?_
  refine zw_arg (k := 1) hx hb hX hbl hbA hS hL (lv_at hl 0 rfl) (lv_at hl 3 rfl) hi (by decide) rfl dL_law_910 dL_law_911 dL_law_912 dL_law_913 dL_law_914 ?_
  refine zl_callI (own := R_law) (av := [.int (xs (nI (i + 1)).toNatClampNeg)]) (rest := []) (ad := adM) (b := 0) (ci := 6) (B := z_W cA adX kX2) (h := kM) (d := 60) (y := 213) hx hb hml hown hts hN hK (by decide) (by decide) ⟨Nat.le_refl _, Nat.le_refl _⟩ hl.1 hA hP hD hS cM rfl rfl rfl eM rfl (z_t5 (i := 213) rfl rfl) (z_t5 (i := 214) rfl rfl) (z_t5 (i := 215) rfl rfl) (z_t1 (i := 8) rfl rfl) (na := 1) (by decide +kernel) rfl (Nat.le_of_ble_eq_true rfl) dL_law_915 (fun r2 kM2 H locs hq2 hP hD hS => ?_)
  refine lv_pop hx hb dL_law_918 rfl ?_
  refine lv_goto (tgt := 1289) hx hb dL_law_919 (by decide) ?_
  exact next _ _ _ _ (hT _ _ _ _ hq1 hq2).1 hP hD hS
theorem dL_law_922 : decode cL_law 922 = .ok (.aload_n 1, 1) := z_is_ok (by decide +kernel)
theorem dL_law_923 : decode cL_law 923 = .ok (.aload_n 0, 1) := z_is_ok (by decide +kernel)
theorem dL_law_924 : decode cL_law 924 = .ok (.iload_n 3, 1) := z_is_ok (by decide +kernel)
theorem dL_law_925 : decode cL_law 925 = .ok (.iconst 1, 1) := z_is_ok (by decide +kernel)
theorem dL_law_926 : decode cL_law 926 = .ok (.iadd, 1) := z_is_ok (by decide +kernel)
theorem dL_law_927 : decode cL_law 927 = .ok (.iaload, 1) := z_is_ok (by decide +kernel)
theorem dL_law_928 : decode cL_law 928 = .ok (.invokevirtual 131, 3) := z_is_ok (by decide +kernel)
theorem dL_law_931 : decode cL_law 931 = .ok (.pop, 1) := z_is_ok (by decide +kernel)
theorem dL_law_932 : decode cL_law 932 = .ok (.aload_n 2, 1) := z_is_ok (by decide +kernel)
theorem dL_law_933 : decode cL_law 933 = .ok (.aload_n 0, 1) := z_is_ok (by decide +kernel)
theorem dL_law_934 : decode cL_law 934 = .ok (.iload_n 3, 1) := z_is_ok (by decide +kernel)
theorem dL_law_935 : decode cL_law 935 = .ok (.iconst 1, 1) := z_is_ok (by decide +kernel)
theorem dL_law_936 : decode cL_law 936 = .ok (.iadd, 1) := z_is_ok (by decide +kernel)
theorem dL_law_937 : decode cL_law 937 = .ok (.iaload, 1) := z_is_ok (by decide +kernel)
theorem dL_law_938 : decode cL_law 938 = .ok (.invokevirtual 134, 3) := z_is_ok (by decide +kernel)
theorem dL_law_941 : decode cL_law 941 = .ok (.pop, 1) := z_is_ok (by decide +kernel)
theorem dL_law_942 : decode cL_law 942 = .ok (.goto 347, 3) := z_is_ok (by decide +kernel)
set_option maxHeartbeats 4000000 in
set_option maxRecDepth 100000 in
theorem zw_case_28 {p : Program} {l : Launch} {e : Env} {s : State} {m : MethodId} {below : List Frame} {meth : Method} {c : Code} {D : va_G} {cA : Nat → ClassId} {b L : Nat} {xs : Nat → Int32} (hL : L ≤ 2560) (hx : p.tables.exec = Jvm.exec) (hb : c.code = code) (hr : meth.sig.returnType = ret) (hml : c.maxLocals = 4) (hown : s.vm.findClass R_law = some m.cls) (hts : ∀ w ∈ z_AW, w.before #[Value.ref b] s = true) (hN : z_N s) (hK : va_K D z_cl (z_tys cA) s) (hX : va_X b L xs s s.heap) (hbl : b < s.heap.size) (hlocks : meth.locks = false) {i : Nat} (hi : i + 5 ≤ L) {adX adM : Nat → Nat} {kX kM : List z_E} (hJ : z_JI kX kM) {H : Heap} {locs : List Loc} (hP : va_P D z_cl (z_W cA adX kX ++ z_W cA adM kM) H) (hD : va_D (fun q : Nat => s.heap.size ≤ q) (z_W cA adX kX ++ z_W cA adM kM)) (hS : va_S (fun q : Nat => s.heap.size ≤ q) s.heap H locs) {ls : Array Slot} (hl : lv_has ls 4 [(0, .ref b), (1, .ref (adX 0)), (2, .ref (adM 0)), (3, .int (nI i))])
    (next : ∀ (kX kM : List z_E) (H : Heap) (locs : List Loc), z_JI kX kM → va_P D z_cl (z_W cA adX kX ++ z_W cA adM kM) H → va_D (fun q : Nat => s.heap.size ≤ q) (z_W cA adX kX ++ z_W cA adM kM) → va_S (fun q : Nat => s.heap.size ≤ q) s.heap H locs → W p l e room_1 s m #[Value.ref b] below meth c H locs 600000 7302250 (lw_Z below #[Value.ref b] s) (F0 m 1289 ls [])) : W p l e room_1 s m #[Value.ref b] below meth c H locs 600000 7302250 (lw_Z below #[Value.ref b] s) (F0 m 922 ls []) := by
  have hA : ∀ q : Nat, s.heap.size ≤ q → (fun q : Nat => s.heap.size ≤ q) q := fun _ h => h
  have hbA : ¬ (fun q : Nat => s.heap.size ≤ q) b := Nat.not_le.mpr hbl
  obtain ⟨⟨fX, eX⟩, fM, eM⟩ := zw_recv hJ
  obtain ⟨PX, PM, cX, cM, hT⟩ := pr_needs hJ ((xs (nI (i + 1)).toNatClampNeg))
  refine lv_aload_n hx hb dL_law_922 rfl (lv_at hl 1 rfl) ?_
  refine zw_arg (k := 1) hx hb hX hbl hbA hS hL (lv_at hl 0 rfl) (lv_at hl 3 rfl) hi (by decide) rfl dL_law_923 dL_law_924 dL_law_925 dL_law_926 dL_law_927 ?_
  refine zl_callI (own := R_law) (av := [.int (xs (nI (i + 1)).toNatClampNeg)]) (rest := []) (ad := adX) (b := 0) (ci := 5) (B := z_W cA adM kM) (h := kX) (d := 60) (y := 105) hx hb hml hown hts hN hK (by decide) (by decide) ⟨Nat.le_refl _, Nat.le_refl _⟩ hl.1 hA hP hD hS cX rfl rfl rfl eX rfl (z_t3 (i := 163) rfl rfl) (z_t3 (i := 164) rfl rfl) (z_t3 (i := 165) rfl rfl) (z_t1 (i := 1) rfl rfl) (na := 1) (by decide +kernel) rfl (Nat.le_of_ble_eq_true rfl) dL_law_928 (fun r1 kX2 H locs hq1 hP hD hS => ?_)
  refine lv_pop hx hb dL_law_931 rfl ?_
  refine lv_aload_n hx hb dL_law_932 rfl (lv_at hl 2 rfl) ?_
  refine zw_arg (k := 1) hx hb hX hbl hbA hS hL (lv_at hl 0 rfl) (lv_at hl 3 rfl) hi (by decide) rfl dL_law_933 dL_law_934 dL_law_935 dL_law_936 dL_law_937 ?_
  refine zl_callI (own := R_law) (av := [.int (xs (nI (i + 1)).toNatClampNeg)]) (rest := []) (ad := adM) (b := 0) (ci := 6) (B := z_W cA adX kX2) (h := kM) (d := 60) (y := 214) hx hb hml hown hts hN hK (by decide) (by decide) ⟨Nat.le_refl _, Nat.le_refl _⟩ hl.1 hA hP hD hS cM rfl rfl rfl eM rfl (z_t5 (i := 221) rfl rfl) (z_t5 (i := 222) rfl rfl) (z_t5 (i := 223) rfl rfl) (z_t1 (i := 8) rfl rfl) (na := 1) (by decide +kernel) rfl (Nat.le_of_ble_eq_true rfl) dL_law_938 (fun r2 kM2 H locs hq2 hP hD hS => ?_)
  refine lv_pop hx hb dL_law_941 rfl ?_
  refine lv_goto (tgt := 1289) hx hb dL_law_942 (by decide) ?_
  exact next _ _ _ _ (hT _ _ _ _ hq1 hq2).1 hP hD hS
theorem dL_law_945 : decode cL_law 945 = .ok (.aload_n 1, 1) := z_is_ok (by decide +kernel)
theorem dL_law_946 : decode cL_law 946 = .ok (.invokevirtual 135, 3) := z_is_ok (by decide +kernel)
theorem dL_law_949 : decode cL_law 949 = .ok (.pop2, 1) := z_is_ok (by decide +kernel)
theorem dL_law_950 : decode cL_law 950 = .ok (.aload_n 2, 1) := z_is_ok (by decide +kernel)
theorem dL_law_951 : decode cL_law 951 = .ok (.invokevirtual 139, 3) := z_is_ok (by decide +kernel)
theorem dL_law_954 : decode cL_law 954 = .ok (.pop2, 1) := z_is_ok (by decide +kernel)
theorem dL_law_955 : decode cL_law 955 = .ok (.goto 334, 3) := z_is_ok (by decide +kernel)
set_option maxHeartbeats 4000000 in
set_option maxRecDepth 100000 in
theorem zw_case_29 {p : Program} {l : Launch} {e : Env} {s : State} {m : MethodId} {below : List Frame} {meth : Method} {c : Code} {D : va_G} {cA : Nat → ClassId} {b L : Nat} {xs : Nat → Int32} (hL : L ≤ 2560) (hx : p.tables.exec = Jvm.exec) (hb : c.code = code) (hr : meth.sig.returnType = ret) (hml : c.maxLocals = 4) (hown : s.vm.findClass R_law = some m.cls) (hts : ∀ w ∈ z_AW, w.before #[Value.ref b] s = true) (hN : z_N s) (hK : va_K D z_cl (z_tys cA) s) (hX : va_X b L xs s s.heap) (hbl : b < s.heap.size) (hlocks : meth.locks = false) {i : Nat} (hi : i + 5 ≤ L) {adX adM : Nat → Nat} {kX kM : List z_E} (hJ : z_JI kX kM) {H : Heap} {locs : List Loc} (hP : va_P D z_cl (z_W cA adX kX ++ z_W cA adM kM) H) (hD : va_D (fun q : Nat => s.heap.size ≤ q) (z_W cA adX kX ++ z_W cA adM kM)) (hS : va_S (fun q : Nat => s.heap.size ≤ q) s.heap H locs) {ls : Array Slot} (hl : lv_has ls 4 [(0, .ref b), (1, .ref (adX 0)), (2, .ref (adM 0)), (3, .int (nI i))])
    (next : ∀ (kX kM : List z_E) (H : Heap) (locs : List Loc), z_JI kX kM → va_P D z_cl (z_W cA adX kX ++ z_W cA adM kM) H → va_D (fun q : Nat => s.heap.size ≤ q) (z_W cA adX kX ++ z_W cA adM kM) → va_S (fun q : Nat => s.heap.size ≤ q) s.heap H locs → W p l e room_1 s m #[Value.ref b] below meth c H locs 600000 7302250 (lw_Z below #[Value.ref b] s) (F0 m 1289 ls [])) : W p l e room_1 s m #[Value.ref b] below meth c H locs 600000 7302250 (lw_Z below #[Value.ref b] s) (F0 m 945 ls []) := by
  have hA : ∀ q : Nat, s.heap.size ≤ q → (fun q : Nat => s.heap.size ≤ q) q := fun _ h => h
  have hbA : ¬ (fun q : Nat => s.heap.size ≤ q) b := Nat.not_le.mpr hbl
  obtain ⟨⟨fX, eX⟩, fM, eM⟩ := zw_recv hJ
  obtain ⟨PX, PM, cX, cM, hT⟩ := pr_turners hJ 
  refine lv_aload_n hx hb dL_law_945 rfl (lv_at hl 1 rfl) ?_
  refine zl_callL (own := R_law) (av := []) (rest := []) (ad := adX) (b := 0) (ci := 5) (B := z_W cA adM kM) (h := kX) (d := 60) (y := 106) hx hb hml hown hts hN hK (by decide) (by decide) ⟨Nat.le_refl _, Nat.le_refl _⟩ hl.1 hA hP hD hS cX rfl rfl rfl eX rfl (z_t3 (i := 167) rfl rfl) (z_t3 (i := 168) rfl rfl) (z_t3 (i := 169) rfl rfl) (z_t1 (i := 1) rfl rfl) (na := 0) (by decide +kernel) rfl (Nat.le_of_ble_eq_true rfl) dL_law_946 (fun r1 kX2 H locs hq1 hP hD hS => ?_)
  refine lv_pop2_2 hx hb dL_law_949 rfl ?_
  refine lv_aload_n hx hb dL_law_950 rfl (lv_at hl 2 rfl) ?_
  refine zl_callL (own := R_law) (av := []) (rest := []) (ad := adM) (b := 0) (ci := 6) (B := z_W cA adX kX2) (h := kM) (d := 60) (y := 215) hx hb hml hown hts hN hK (by decide) (by decide) ⟨Nat.le_refl _, Nat.le_refl _⟩ hl.1 hA hP hD hS cM rfl rfl rfl eM rfl (z_t5 (i := 225) rfl rfl) (z_t5 (i := 226) rfl rfl) (z_t5 (i := 227) rfl rfl) (z_t1 (i := 8) rfl rfl) (na := 0) (by decide +kernel) rfl (Nat.le_of_ble_eq_true rfl) dL_law_951 (fun r2 kM2 H locs hq2 hP hD hS => ?_)
  refine lv_pop2_2 hx hb dL_law_954 rfl ?_
  refine lv_goto (tgt := 1289) hx hb dL_law_955 (by decide) ?_
  exact next _ _ _ _ (hT _ _ _ _ hq1 hq2).1 hP hD hS
theorem dL_law_958 : decode cL_law 958 = .ok (.aload_n 1, 1) := z_is_ok (by decide +kernel)
theorem dL_law_959 : decode cL_law 959 = .ok (.invokevirtual 140, 3) := z_is_ok (by decide +kernel)
theorem dL_law_962 : decode cL_law 962 = .ok (.pop, 1) := z_is_ok (by decide +kernel)
theorem dL_law_963 : decode cL_law 963 = .ok (.aload_n 2, 1) := z_is_ok (by decide +kernel)
theorem dL_law_964 : decode cL_law 964 = .ok (.invokevirtual 143, 3) := z_is_ok (by decide +kernel)
theorem dL_law_967 : decode cL_law 967 = .ok (.pop, 1) := z_is_ok (by decide +kernel)
theorem dL_law_968 : decode cL_law 968 = .ok (.goto 321, 3) := z_is_ok (by decide +kernel)
set_option maxHeartbeats 4000000 in
set_option maxRecDepth 100000 in
theorem zw_case_30 {p : Program} {l : Launch} {e : Env} {s : State} {m : MethodId} {below : List Frame} {meth : Method} {c : Code} {D : va_G} {cA : Nat → ClassId} {b L : Nat} {xs : Nat → Int32} (hL : L ≤ 2560) (hx : p.tables.exec = Jvm.exec) (hb : c.code = code) (hr : meth.sig.returnType = ret) (hml : c.maxLocals = 4) (hown : s.vm.findClass R_law = some m.cls) (hts : ∀ w ∈ z_AW, w.before #[Value.ref b] s = true) (hN : z_N s) (hK : va_K D z_cl (z_tys cA) s) (hX : va_X b L xs s s.heap) (hbl : b < s.heap.size) (hlocks : meth.locks = false) {i : Nat} (hi : i + 5 ≤ L) {adX adM : Nat → Nat} {kX kM : List z_E} (hJ : z_JI kX kM) {H : Heap} {locs : List Loc} (hP : va_P D z_cl (z_W cA adX kX ++ z_W cA adM kM) H) (hD : va_D (fun q : Nat => s.heap.size ≤ q) (z_W cA adX kX ++ z_W cA adM kM)) (hS : va_S (fun q : Nat => s.heap.size ≤ q) s.heap H locs) {ls : Array Slot} (hl : lv_has ls 4 [(0, .ref b), (1, .ref (adX 0)), (2, .ref (adM 0)), (3, .int (nI i))])
    (next : ∀ (kX kM : List z_E) (H : Heap) (locs : List Loc), z_JI kX kM → va_P D z_cl (z_W cA adX kX ++ z_W cA adM kM) H → va_D (fun q : Nat => s.heap.size ≤ q) (z_W cA adX kX ++ z_W cA adM kM) → va_S (fun q : Nat => s.heap.size ≤ q) s.heap H locs → W p l e room_1 s m #[Value.ref b] below meth c H locs 600000 7302250 (lw_Z below #[Value.ref b] s) (F0 m 1289 ls [])) : W p l e room_1 s m #[Value.ref b] below meth c H locs 600000 7302250 (lw_Z below #[Value.ref b] s) (F0 m 958 ls []) := by
  have hA : ∀ q : Nat, s.heap.size ≤ q → (fun q : Nat => s.heap.size ≤ q) q := fun _ h => h
  have hbA : ¬ (fun q : Nat => s.heap.size ≤ q) b := Nat.not_le.mpr hbl
  obtain ⟨⟨fX, eX⟩, fM, eM⟩ := zw_recv hJ
  obtain ⟨PX, PM, cX, cM, hT⟩ := pr_agree hJ 
  refine lv_aload_n hx hb dL_law_958 rfl (lv_at hl 1 rfl) ?_
  refine zl_callI (own := R_law) (av := []) (rest := []) (ad := adX) (b := 0) (ci := 5) (B := z_W cA adM kM) (h := kX) (d := 60) (y := 107) hx hb hml hown hts hN hK (by decide) (by decide) ⟨Nat.le_refl _, Nat.le_refl _⟩ hl.1 hA hP hD hS cX rfl rfl rfl eX rfl (z_t3 (i := 176) rfl rfl) (z_t3 (i := 177) rfl rfl) (z_t3 (i := 178) rfl rfl) (z_t1 (i := 1) rfl rfl) (na := 0) (by decide +kernel) rfl (Nat.le_of_ble_eq_true rfl) dL_law_959 (fun r1 kX2 H locs hq1 hP hD hS => ?_)
  refine lv_pop hx hb dL_law_962 rfl ?_
  refine lv_aload_n hx hb dL_law_963 rfl (lv_at hl 2 rfl) ?_
  refine zl_callI (own := R_law) (av := []) (rest := []) (ad := adM) (b := 0) (ci := 6) (B := z_W cA adX kX2) (h := kM) (d := 60) (y := 216) hx hb hml hown hts hN hK (by decide) (by decide) ⟨Nat.le_refl _, Nat.le_refl _⟩ hl.1 hA hP hD hS cM rfl rfl rfl eM rfl (z_t5 (i := 233) rfl rfl) (z_t5 (i := 234) rfl rfl) (z_t5 (i := 235) rfl rfl) (z_t1 (i := 8) rfl rfl) (na := 0) (by decide +kernel) rfl (Nat.le_of_ble_eq_true rfl) dL_law_964 (fun r2 kM2 H locs hq2 hP hD hS => ?_)
  refine lv_pop hx hb dL_law_967 rfl ?_
  refine lv_goto (tgt := 1289) hx hb dL_law_968 (by decide) ?_
  exact next _ _ _ _ (hT _ _ _ _ hq1 hq2).1 hP hD hS
theorem dL_law_971 : decode cL_law 971 = .ok (.aload_n 1, 1) := z_is_ok (by decide +kernel)
theorem dL_law_972 : decode cL_law 972 = .ok (.aload_n 0, 1) := z_is_ok (by decide +kernel)
theorem dL_law_973 : decode cL_law 973 = .ok (.iload_n 3, 1) := z_is_ok (by decide +kernel)
theorem dL_law_974 : decode cL_law 974 = .ok (.iconst 1, 1) := z_is_ok (by decide +kernel)
theorem dL_law_975 : decode cL_law 975 = .ok (.iadd, 1) := z_is_ok (by decide +kernel)
theorem dL_law_976 : decode cL_law 976 = .ok (.iaload, 1) := z_is_ok (by decide +kernel)
theorem dL_law_977 : decode cL_law 977 = .ok (.invokevirtual 144, 3) := z_is_ok (by decide +kernel)
theorem dL_law_980 : decode cL_law 980 = .ok (.pop, 1) := z_is_ok (by decide +kernel)
theorem dL_law_981 : decode cL_law 981 = .ok (.aload_n 2, 1) := z_is_ok (by decide +kernel)
theorem dL_law_982 : decode cL_law 982 = .ok (.aload_n 0, 1) := z_is_ok (by decide +kernel)
theorem dL_law_983 : decode cL_law 983 = .ok (.iload_n 3, 1) := z_is_ok (by decide +kernel)
theorem dL_law_984 : decode cL_law 984 = .ok (.iconst 1, 1) := z_is_ok (by decide +kernel)
theorem dL_law_985 : decode cL_law 985 = .ok (.iadd, 1) := z_is_ok (by decide +kernel)
theorem dL_law_986 : decode cL_law 986 = .ok (.iaload, 1) := z_is_ok (by decide +kernel)
theorem dL_law_987 : decode cL_law 987 = .ok (.invokevirtual 147, 3) := z_is_ok (by decide +kernel)
theorem dL_law_990 : decode cL_law 990 = .ok (.pop, 1) := z_is_ok (by decide +kernel)
theorem dL_law_991 : decode cL_law 991 = .ok (.goto 298, 3) := z_is_ok (by decide +kernel)
set_option maxHeartbeats 4000000 in
set_option maxRecDepth 100000 in
theorem zw_case_31 {p : Program} {l : Launch} {e : Env} {s : State} {m : MethodId} {below : List Frame} {meth : Method} {c : Code} {D : va_G} {cA : Nat → ClassId} {b L : Nat} {xs : Nat → Int32} (hL : L ≤ 2560) (hx : p.tables.exec = Jvm.exec) (hb : c.code = code) (hr : meth.sig.returnType = ret) (hml : c.maxLocals = 4) (hown : s.vm.findClass R_law = some m.cls) (hts : ∀ w ∈ z_AW, w.before #[Value.ref b] s = true) (hN : z_N s) (hK : va_K D z_cl (z_tys cA) s) (hX : va_X b L xs s s.heap) (hbl : b < s.heap.size) (hlocks : meth.locks = false) {i : Nat} (hi : i + 5 ≤ L) {adX adM : Nat → Nat} {kX kM : List z_E} (hJ : z_JI kX kM) {H : Heap} {locs : List Loc} (hP : va_P D z_cl (z_W cA adX kX ++ z_W cA adM kM) H) (hD : va_D (fun q : Nat => s.heap.size ≤ q) (z_W cA adX kX ++ z_W cA adM kM)) (hS : va_S (fun q : Nat => s.heap.size ≤ q) s.heap H locs) {ls : Array Slot} (hl : lv_has ls 4 [(0, .ref b), (1, .ref (adX 0)), (2, .ref (adM 0)), (3, .int (nI i))])
    (next : ∀ (kX kM : List z_E) (H : Heap) (locs : List Loc), z_JI kX kM → va_P D z_cl (z_W cA adX kX ++ z_W cA adM kM) H → va_D (fun q : Nat => s.heap.size ≤ q) (z_W cA adX kX ++ z_W cA adM kM) → va_S (fun q : Nat => s.heap.size ≤ q) s.heap H locs → W p l e room_1 s m #[Value.ref b] below meth c H locs 600000 7302250 (lw_Z below #[Value.ref b] s) (F0 m 1289 ls [])) : W p l e room_1 s m #[Value.ref b] below meth c H locs 600000 7302250 (lw_Z below #[Value.ref b] s) (F0 m 971 ls []) := by
  have hA : ∀ q : Nat, s.heap.size ≤ q → (fun q : Nat => s.heap.size ≤ q) q := fun _ h => h
  have hbA : ¬ (fun q : Nat => s.heap.size ≤ q) b := Nat.not_le.mpr hbl
  obtain ⟨⟨fX, eX⟩, fM, eM⟩ := zw_recv hJ
  obtain ⟨PX, PM, cX, cM, hT⟩ := pr_flips hJ ((xs (nI (i + 1)).toNatClampNeg))
  refine lv_aload_n hx hb dL_law_971 rfl (lv_at hl 1 rfl) ?_
  refine zw_arg (k := 1) hx hb hX hbl hbA hS hL (lv_at hl 0 rfl) (lv_at hl 3 rfl) hi (by decide) rfl dL_law_972 dL_law_973 dL_law_974 dL_law_975 dL_law_976 ?_
  refine zl_callI (own := R_law) (av := [.int (xs (nI (i + 1)).toNatClampNeg)]) (rest := []) (ad := adX) (b := 0) (ci := 5) (B := z_W cA adM kM) (h := kX) (d := 60) (y := 108) hx hb hml hown hts hN hK (by decide) (by decide) ⟨Nat.le_refl _, Nat.le_refl _⟩ hl.1 hA hP hD hS cX rfl rfl rfl eX rfl (z_t3 (i := 184) rfl rfl) (z_t3 (i := 185) rfl rfl) (z_t3 (i := 186) rfl rfl) (z_t1 (i := 1) rfl rfl) (na := 1) (by decide +kernel) rfl (Nat.le_of_ble_eq_true rfl) dL_law_977 (fun r1 kX2 H locs hq1 hP hD hS => ?_)
  refine lv_pop hx hb dL_law_980 rfl ?_
  refine lv_aload_n hx hb dL_law_981 rfl (lv_at hl 2 rfl) ?_
  refine zw_arg (k := 1) hx hb hX hbl hbA hS hL (lv_at hl 0 rfl) (lv_at hl 3 rfl) hi (by decide) rfl dL_law_982 dL_law_983 dL_law_984 dL_law_985 dL_law_986 ?_
  refine zl_callI (own := R_law) (av := [.int (xs (nI (i + 1)).toNatClampNeg)]) (rest := []) (ad := adM) (b := 0) (ci := 6) (B := z_W cA adX kX2) (h := kM) (d := 60) (y := 217) hx hb hml hown hts hN hK (by decide) (by decide) ⟨Nat.le_refl _, Nat.le_refl _⟩ hl.1 hA hP hD hS cM rfl rfl rfl eM rfl (z_t5 (i := 237) rfl rfl) (z_t5 (i := 238) rfl rfl) (z_t5 (i := 239) rfl rfl) (z_t1 (i := 8) rfl rfl) (na := 1) (by decide +kernel) rfl (Nat.le_of_ble_eq_true rfl) dL_law_987 (fun r2 kM2 H locs hq2 hP hD hS => ?_)
  refine lv_pop hx hb dL_law_990 rfl ?_
  refine lv_goto (tgt := 1289) hx hb dL_law_991 (by decide) ?_
  exact next _ _ _ _ (hT _ _ _ _ hq1 hq2).1 hP hD hS
theorem dL_law_994 : decode cL_law 994 = .ok (.aload_n 1, 1) := z_is_ok (by decide +kernel)
theorem dL_law_995 : decode cL_law 995 = .ok (.aload_n 0, 1) := z_is_ok (by decide +kernel)
theorem dL_law_996 : decode cL_law 996 = .ok (.iload_n 3, 1) := z_is_ok (by decide +kernel)
theorem dL_law_997 : decode cL_law 997 = .ok (.iconst 1, 1) := z_is_ok (by decide +kernel)
theorem dL_law_998 : decode cL_law 998 = .ok (.iadd, 1) := z_is_ok (by decide +kernel)
theorem dL_law_999 : decode cL_law 999 = .ok (.iaload, 1) := z_is_ok (by decide +kernel)
theorem dL_law_1000 : decode cL_law 1000 = .ok (.aload_n 0, 1) := z_is_ok (by decide +kernel)
theorem dL_law_1001 : decode cL_law 1001 = .ok (.iload_n 3, 1) := z_is_ok (by decide +kernel)
theorem dL_law_1002 : decode cL_law 1002 = .ok (.iconst 2, 1) := z_is_ok (by decide +kernel)
theorem dL_law_1003 : decode cL_law 1003 = .ok (.iadd, 1) := z_is_ok (by decide +kernel)
theorem dL_law_1004 : decode cL_law 1004 = .ok (.iaload, 1) := z_is_ok (by decide +kernel)
theorem dL_law_1005 : decode cL_law 1005 = .ok (.aload_n 0, 1) := z_is_ok (by decide +kernel)
theorem dL_law_1006 : decode cL_law 1006 = .ok (.iload_n 3, 1) := z_is_ok (by decide +kernel)
theorem dL_law_1007 : decode cL_law 1007 = .ok (.iconst 3, 1) := z_is_ok (by decide +kernel)
theorem dL_law_1008 : decode cL_law 1008 = .ok (.iadd, 1) := z_is_ok (by decide +kernel)
theorem dL_law_1009 : decode cL_law 1009 = .ok (.iaload, 1) := z_is_ok (by decide +kernel)
theorem dL_law_1010 : decode cL_law 1010 = .ok (.aload_n 0, 1) := z_is_ok (by decide +kernel)
theorem dL_law_1011 : decode cL_law 1011 = .ok (.iload_n 3, 1) := z_is_ok (by decide +kernel)
theorem dL_law_1012 : decode cL_law 1012 = .ok (.iconst 4, 1) := z_is_ok (by decide +kernel)
theorem dL_law_1013 : decode cL_law 1013 = .ok (.iadd, 1) := z_is_ok (by decide +kernel)
theorem dL_law_1014 : decode cL_law 1014 = .ok (.iaload, 1) := z_is_ok (by decide +kernel)
theorem dL_law_1015 : decode cL_law 1015 = .ok (.invokevirtual 148, 3) := z_is_ok (by decide +kernel)
theorem dL_law_1018 : decode cL_law 1018 = .ok (.pop, 1) := z_is_ok (by decide +kernel)
theorem dL_law_1019 : decode cL_law 1019 = .ok (.aload_n 2, 1) := z_is_ok (by decide +kernel)
theorem dL_law_1020 : decode cL_law 1020 = .ok (.aload_n 0, 1) := z_is_ok (by decide +kernel)
theorem dL_law_1021 : decode cL_law 1021 = .ok (.iload_n 3, 1) := z_is_ok (by decide +kernel)
theorem dL_law_1022 : decode cL_law 1022 = .ok (.iconst 1, 1) := z_is_ok (by decide +kernel)
theorem dL_law_1023 : decode cL_law 1023 = .ok (.iadd, 1) := z_is_ok (by decide +kernel)
theorem dL_law_1024 : decode cL_law 1024 = .ok (.iaload, 1) := z_is_ok (by decide +kernel)
theorem dL_law_1025 : decode cL_law 1025 = .ok (.aload_n 0, 1) := z_is_ok (by decide +kernel)
theorem dL_law_1026 : decode cL_law 1026 = .ok (.iload_n 3, 1) := z_is_ok (by decide +kernel)
theorem dL_law_1027 : decode cL_law 1027 = .ok (.iconst 2, 1) := z_is_ok (by decide +kernel)
theorem dL_law_1028 : decode cL_law 1028 = .ok (.iadd, 1) := z_is_ok (by decide +kernel)
theorem dL_law_1029 : decode cL_law 1029 = .ok (.iaload, 1) := z_is_ok (by decide +kernel)
theorem dL_law_1030 : decode cL_law 1030 = .ok (.aload_n 0, 1) := z_is_ok (by decide +kernel)
theorem dL_law_1031 : decode cL_law 1031 = .ok (.iload_n 3, 1) := z_is_ok (by decide +kernel)
theorem dL_law_1032 : decode cL_law 1032 = .ok (.iconst 3, 1) := z_is_ok (by decide +kernel)
theorem dL_law_1033 : decode cL_law 1033 = .ok (.iadd, 1) := z_is_ok (by decide +kernel)
theorem dL_law_1034 : decode cL_law 1034 = .ok (.iaload, 1) := z_is_ok (by decide +kernel)
theorem dL_law_1035 : decode cL_law 1035 = .ok (.aload_n 0, 1) := z_is_ok (by decide +kernel)
theorem dL_law_1036 : decode cL_law 1036 = .ok (.iload_n 3, 1) := z_is_ok (by decide +kernel)
theorem dL_law_1037 : decode cL_law 1037 = .ok (.iconst 4, 1) := z_is_ok (by decide +kernel)
theorem dL_law_1038 : decode cL_law 1038 = .ok (.iadd, 1) := z_is_ok (by decide +kernel)
theorem dL_law_1039 : decode cL_law 1039 = .ok (.iaload, 1) := z_is_ok (by decide +kernel)
theorem dL_law_1040 : decode cL_law 1040 = .ok (.invokevirtual 152, 3) := z_is_ok (by decide +kernel)
theorem dL_law_1043 : decode cL_law 1043 = .ok (.pop, 1) := z_is_ok (by decide +kernel)
theorem dL_law_1044 : decode cL_law 1044 = .ok (.goto 245, 3) := z_is_ok (by decide +kernel)
set_option maxHeartbeats 4000000 in
set_option maxRecDepth 100000 in
theorem zw_case_32 {p : Program} {l : Launch} {e : Env} {s : State} {m : MethodId} {below : List Frame} {meth : Method} {c : Code} {D : va_G} {cA : Nat → ClassId} {b L : Nat} {xs : Nat → Int32} (hL : L ≤ 2560) (hx : p.tables.exec = Jvm.exec) (hb : c.code = code) (hr : meth.sig.returnType = ret) (hml : c.maxLocals = 4) (hown : s.vm.findClass R_law = some m.cls) (hts : ∀ w ∈ z_AW, w.before #[Value.ref b] s = true) (hN : z_N s) (hK : va_K D z_cl (z_tys cA) s) (hX : va_X b L xs s s.heap) (hbl : b < s.heap.size) (hlocks : meth.locks = false) {i : Nat} (hi : i + 5 ≤ L) {adX adM : Nat → Nat} {kX kM : List z_E} (hJ : z_JI kX kM) {H : Heap} {locs : List Loc} (hP : va_P D z_cl (z_W cA adX kX ++ z_W cA adM kM) H) (hD : va_D (fun q : Nat => s.heap.size ≤ q) (z_W cA adX kX ++ z_W cA adM kM)) (hS : va_S (fun q : Nat => s.heap.size ≤ q) s.heap H locs) {ls : Array Slot} (hl : lv_has ls 4 [(0, .ref b), (1, .ref (adX 0)), (2, .ref (adM 0)), (3, .int (nI i))])
    (next : ∀ (kX kM : List z_E) (H : Heap) (locs : List Loc), z_JI kX kM → va_P D z_cl (z_W cA adX kX ++ z_W cA adM kM) H → va_D (fun q : Nat => s.heap.size ≤ q) (z_W cA adX kX ++ z_W cA adM kM) → va_S (fun q : Nat => s.heap.size ≤ q) s.heap H locs → W p l e room_1 s m #[Value.ref b] below meth c H locs 600000 7302250 (lw_Z below #[Value.ref b] s) (F0 m 1289 ls [])) : W p l e room_1 s m #[Value.ref b] below meth c H locs 600000 7302250 (lw_Z below #[Value.ref b] s) (F0 m 994 ls []) := by
  have hA : ∀ q : Nat, s.heap.size ≤ q → (fun q : Nat => s.heap.size ≤ q) q := fun _ h => h
  have hbA : ¬ (fun q : Nat => s.heap.size ≤ q) b := Nat.not_le.mpr hbl
  obtain ⟨⟨fX, eX⟩, fM, eM⟩ := zw_recv hJ
  obtain ⟨PX, PM, cX, cM, hT⟩ := pr_prove hJ ((xs (nI (i + 1)).toNatClampNeg)) ((xs (nI (i + 2)).toNatClampNeg)) ((xs (nI (i + 3)).toNatClampNeg)) ((xs (nI (i + 4)).toNatClampNeg))
  refine lv_aload_n hx hb dL_law_994 rfl (lv_at hl 1 rfl) ?_
  refine zw_arg (k := 1) hx hb hX hbl hbA hS hL (lv_at hl 0 rfl) (lv_at hl 3 rfl) hi (by decide) rfl dL_law_995 dL_law_996 dL_law_997 dL_law_998 dL_law_999 ?_
  refine zw_arg (k := 2) hx hb hX hbl hbA hS hL (lv_at hl 0 rfl) (lv_at hl 3 rfl) hi (by decide) rfl dL_law_1000 dL_law_1001 dL_law_1002 dL_law_1003 dL_law_1004 ?_
  refine zw_arg (k := 3) hx hb hX hbl hbA hS hL (lv_at hl 0 rfl) (lv_at hl 3 rfl) hi (by decide) rfl dL_law_1005 dL_law_1006 dL_law_1007 dL_law_1008 dL_law_1009 ?_
  refine zw_arg (k := 4) hx hb hX hbl hbA hS hL (lv_at hl 0 rfl) (lv_at hl 3 rfl) hi (by decide) rfl dL_law_1010 dL_law_1011 dL_law_1012 dL_law_1013 dL_law_1014 ?_
  refine zl_callI (own := R_law) (av := [.int (xs (nI (i + 1)).toNatClampNeg), .int (xs (nI (i + 2)).toNatClampNeg), .int (xs (nI (i + 3)).toNatClampNeg), .int (xs (nI (i + 4)).toNatClampNeg)]) (rest := []) (ad := adX) (b := 0) (ci := 5) (B := z_W cA adM kM) (h := kX) (d := 60) (y := 109) hx hb hml hown hts hN hK (by decide) (by decide) ⟨Nat.le_refl _, Nat.le_refl _⟩ hl.1 hA hP hD hS cX rfl rfl rfl eX rfl (z_t3 (i := 188) rfl rfl) (z_t3 (i := 189) rfl rfl) (z_t3 (i := 190) rfl rfl) (z_t1 (i := 1) rfl rfl) (na := 4) (by decide +kernel) rfl (Nat.le_of_ble_eq_true rfl) dL_law_1015 (fun r1 kX2 H locs hq1 hP hD hS => ?_)
  refine lv_pop hx hb dL_law_1018 rfl ?_
  refine lv_aload_n hx hb dL_law_1019 rfl (lv_at hl 2 rfl) ?_
  refine zw_arg (k := 1) hx hb hX hbl hbA hS hL (lv_at hl 0 rfl) (lv_at hl 3 rfl) hi (by decide) rfl dL_law_1020 dL_law_1021 dL_law_1022 dL_law_1023 dL_law_1024 ?_
  refine zw_arg (k := 2) hx hb hX hbl hbA hS hL (lv_at hl 0 rfl) (lv_at hl 3 rfl) hi (by decide) rfl dL_law_1025 dL_law_1026 dL_law_1027 dL_law_1028 dL_law_1029 ?_
  refine zw_arg (k := 3) hx hb hX hbl hbA hS hL (lv_at hl 0 rfl) (lv_at hl 3 rfl) hi (by decide) rfl dL_law_1030 dL_law_1031 dL_law_1032 dL_law_1033 dL_law_1034 ?_
  refine zw_arg (k := 4) hx hb hX hbl hbA hS hL (lv_at hl 0 rfl) (lv_at hl 3 rfl) hi (by decide) rfl dL_law_1035 dL_law_1036 dL_law_1037 dL_law_1038 dL_law_1039 ?_
  refine zl_callI (own := R_law) (av := [.int (xs (nI (i + 1)).toNatClampNeg), .int (xs (nI (i + 2)).toNatClampNeg), .int (xs (nI (i + 3)).toNatClampNeg), .int (xs (nI (i + 4)).toNatClampNeg)]) (rest := []) (ad := adM) (b := 0) (ci := 6) (B := z_W cA adX kX2) (h := kM) (d := 60) (y := 223) hx hb hml hown hts hN hK (by decide) (by decide) ⟨Nat.le_refl _, Nat.le_refl _⟩ hl.1 hA hP hD hS cM rfl rfl rfl eM rfl (z_t6 (i := 1) rfl rfl) (z_t6 (i := 2) rfl rfl) (z_t6 (i := 3) rfl rfl) (z_t1 (i := 8) rfl rfl) (na := 4) (by decide +kernel) rfl (Nat.le_of_ble_eq_true rfl) dL_law_1040 (fun r2 kM2 H locs hq2 hP hD hS => ?_)
  refine lv_pop hx hb dL_law_1043 rfl ?_
  refine lv_goto (tgt := 1289) hx hb dL_law_1044 (by decide) ?_
  exact next _ _ _ _ (hT _ _ _ _ hq1 hq2).1 hP hD hS
theorem dL_law_1047 : decode cL_law 1047 = .ok (.aload_n 1, 1) := z_is_ok (by decide +kernel)
theorem dL_law_1048 : decode cL_law 1048 = .ok (.aload_n 0, 1) := z_is_ok (by decide +kernel)
theorem dL_law_1049 : decode cL_law 1049 = .ok (.iload_n 3, 1) := z_is_ok (by decide +kernel)
theorem dL_law_1050 : decode cL_law 1050 = .ok (.iconst 1, 1) := z_is_ok (by decide +kernel)
theorem dL_law_1051 : decode cL_law 1051 = .ok (.iadd, 1) := z_is_ok (by decide +kernel)
theorem dL_law_1052 : decode cL_law 1052 = .ok (.iaload, 1) := z_is_ok (by decide +kernel)
theorem dL_law_1053 : decode cL_law 1053 = .ok (.aload_n 0, 1) := z_is_ok (by decide +kernel)
theorem dL_law_1054 : decode cL_law 1054 = .ok (.iload_n 3, 1) := z_is_ok (by decide +kernel)
theorem dL_law_1055 : decode cL_law 1055 = .ok (.iconst 2, 1) := z_is_ok (by decide +kernel)
theorem dL_law_1056 : decode cL_law 1056 = .ok (.iadd, 1) := z_is_ok (by decide +kernel)
theorem dL_law_1057 : decode cL_law 1057 = .ok (.iaload, 1) := z_is_ok (by decide +kernel)
theorem dL_law_1058 : decode cL_law 1058 = .ok (.aload_n 0, 1) := z_is_ok (by decide +kernel)
theorem dL_law_1059 : decode cL_law 1059 = .ok (.iload_n 3, 1) := z_is_ok (by decide +kernel)
theorem dL_law_1060 : decode cL_law 1060 = .ok (.iconst 3, 1) := z_is_ok (by decide +kernel)
theorem dL_law_1061 : decode cL_law 1061 = .ok (.iadd, 1) := z_is_ok (by decide +kernel)
theorem dL_law_1062 : decode cL_law 1062 = .ok (.iaload, 1) := z_is_ok (by decide +kernel)
theorem dL_law_1063 : decode cL_law 1063 = .ok (.aload_n 0, 1) := z_is_ok (by decide +kernel)
theorem dL_law_1064 : decode cL_law 1064 = .ok (.iload_n 3, 1) := z_is_ok (by decide +kernel)
theorem dL_law_1065 : decode cL_law 1065 = .ok (.iconst 4, 1) := z_is_ok (by decide +kernel)
theorem dL_law_1066 : decode cL_law 1066 = .ok (.iadd, 1) := z_is_ok (by decide +kernel)
theorem dL_law_1067 : decode cL_law 1067 = .ok (.iaload, 1) := z_is_ok (by decide +kernel)
theorem dL_law_1068 : decode cL_law 1068 = .ok (.invokevirtual 153, 3) := z_is_ok (by decide +kernel)
theorem dL_law_1071 : decode cL_law 1071 = .ok (.pop, 1) := z_is_ok (by decide +kernel)
theorem dL_law_1072 : decode cL_law 1072 = .ok (.aload_n 2, 1) := z_is_ok (by decide +kernel)
theorem dL_law_1073 : decode cL_law 1073 = .ok (.aload_n 0, 1) := z_is_ok (by decide +kernel)
theorem dL_law_1074 : decode cL_law 1074 = .ok (.iload_n 3, 1) := z_is_ok (by decide +kernel)
theorem dL_law_1075 : decode cL_law 1075 = .ok (.iconst 1, 1) := z_is_ok (by decide +kernel)
theorem dL_law_1076 : decode cL_law 1076 = .ok (.iadd, 1) := z_is_ok (by decide +kernel)
theorem dL_law_1077 : decode cL_law 1077 = .ok (.iaload, 1) := z_is_ok (by decide +kernel)
theorem dL_law_1078 : decode cL_law 1078 = .ok (.aload_n 0, 1) := z_is_ok (by decide +kernel)
theorem dL_law_1079 : decode cL_law 1079 = .ok (.iload_n 3, 1) := z_is_ok (by decide +kernel)
theorem dL_law_1080 : decode cL_law 1080 = .ok (.iconst 2, 1) := z_is_ok (by decide +kernel)
theorem dL_law_1081 : decode cL_law 1081 = .ok (.iadd, 1) := z_is_ok (by decide +kernel)
theorem dL_law_1082 : decode cL_law 1082 = .ok (.iaload, 1) := z_is_ok (by decide +kernel)
theorem dL_law_1083 : decode cL_law 1083 = .ok (.aload_n 0, 1) := z_is_ok (by decide +kernel)
theorem dL_law_1084 : decode cL_law 1084 = .ok (.iload_n 3, 1) := z_is_ok (by decide +kernel)
theorem dL_law_1085 : decode cL_law 1085 = .ok (.iconst 3, 1) := z_is_ok (by decide +kernel)
theorem dL_law_1086 : decode cL_law 1086 = .ok (.iadd, 1) := z_is_ok (by decide +kernel)
theorem dL_law_1087 : decode cL_law 1087 = .ok (.iaload, 1) := z_is_ok (by decide +kernel)
theorem dL_law_1088 : decode cL_law 1088 = .ok (.aload_n 0, 1) := z_is_ok (by decide +kernel)
theorem dL_law_1089 : decode cL_law 1089 = .ok (.iload_n 3, 1) := z_is_ok (by decide +kernel)
theorem dL_law_1090 : decode cL_law 1090 = .ok (.iconst 4, 1) := z_is_ok (by decide +kernel)
theorem dL_law_1091 : decode cL_law 1091 = .ok (.iadd, 1) := z_is_ok (by decide +kernel)
theorem dL_law_1092 : decode cL_law 1092 = .ok (.iaload, 1) := z_is_ok (by decide +kernel)
theorem dL_law_1093 : decode cL_law 1093 = .ok (.invokevirtual 156, 3) := z_is_ok (by decide +kernel)
theorem dL_law_1096 : decode cL_law 1096 = .ok (.pop, 1) := z_is_ok (by decide +kernel)
theorem dL_law_1097 : decode cL_law 1097 = .ok (.goto 192, 3) := z_is_ok (by decide +kernel)
set_option maxHeartbeats 4000000 in
set_option maxRecDepth 100000 in
theorem zw_case_33 {p : Program} {l : Launch} {e : Env} {s : State} {m : MethodId} {below : List Frame} {meth : Method} {c : Code} {D : va_G} {cA : Nat → ClassId} {b L : Nat} {xs : Nat → Int32} (hL : L ≤ 2560) (hx : p.tables.exec = Jvm.exec) (hb : c.code = code) (hr : meth.sig.returnType = ret) (hml : c.maxLocals = 4) (hown : s.vm.findClass R_law = some m.cls) (hts : ∀ w ∈ z_AW, w.before #[Value.ref b] s = true) (hN : z_N s) (hK : va_K D z_cl (z_tys cA) s) (hX : va_X b L xs s s.heap) (hbl : b < s.heap.size) (hlocks : meth.locks = false) {i : Nat} (hi : i + 5 ≤ L) {adX adM : Nat → Nat} {kX kM : List z_E} (hJ : z_JI kX kM) {H : Heap} {locs : List Loc} (hP : va_P D z_cl (z_W cA adX kX ++ z_W cA adM kM) H) (hD : va_D (fun q : Nat => s.heap.size ≤ q) (z_W cA adX kX ++ z_W cA adM kM)) (hS : va_S (fun q : Nat => s.heap.size ≤ q) s.heap H locs) {ls : Array Slot} (hl : lv_has ls 4 [(0, .ref b), (1, .ref (adX 0)), (2, .ref (adM 0)), (3, .int (nI i))])
    (next : ∀ (kX kM : List z_E) (H : Heap) (locs : List Loc), z_JI kX kM → va_P D z_cl (z_W cA adX kX ++ z_W cA adM kM) H → va_D (fun q : Nat => s.heap.size ≤ q) (z_W cA adX kX ++ z_W cA adM kM) → va_S (fun q : Nat => s.heap.size ≤ q) s.heap H locs → W p l e room_1 s m #[Value.ref b] below meth c H locs 600000 7302250 (lw_Z below #[Value.ref b] s) (F0 m 1289 ls [])) : W p l e room_1 s m #[Value.ref b] below meth c H locs 600000 7302250 (lw_Z below #[Value.ref b] s) (F0 m 1047 ls []) := by
  have hA : ∀ q : Nat, s.heap.size ≤ q → (fun q : Nat => s.heap.size ≤ q) q := fun _ h => h
  have hbA : ¬ (fun q : Nat => s.heap.size ≤ q) b := Nat.not_le.mpr hbl
  obtain ⟨⟨fX, eX⟩, fM, eM⟩ := zw_recv hJ
  obtain ⟨PX, PM, cX, cM, hT⟩ := pr_proves hJ ((xs (nI (i + 1)).toNatClampNeg)) ((xs (nI (i + 2)).toNatClampNeg)) ((xs (nI (i + 3)).toNatClampNeg)) ((xs (nI (i + 4)).toNatClampNeg))
  refine lv_aload_n hx hb dL_law_1047 rfl (lv_at hl 1 rfl) ?_
  refine zw_arg (k := 1) hx hb hX hbl hbA hS hL (lv_at hl 0 rfl) (lv_at hl 3 rfl) hi (by decide) rfl dL_law_1048 dL_law_1049 dL_law_1050 dL_law_1051 dL_law_1052 ?_
  refine zw_arg (k := 2) hx hb hX hbl hbA hS hL (lv_at hl 0 rfl) (lv_at hl 3 rfl) hi (by decide) rfl dL_law_1053 dL_law_1054 dL_law_1055 dL_law_1056 dL_law_1057 ?_
  refine zw_arg (k := 3) hx hb hX hbl hbA hS hL (lv_at hl 0 rfl) (lv_at hl 3 rfl) hi (by decide) rfl dL_law_1058 dL_law_1059 dL_law_1060 dL_law_1061 dL_law_1062 ?_
  refine zw_arg (k := 4) hx hb hX hbl hbA hS hL (lv_at hl 0 rfl) (lv_at hl 3 rfl) hi (by decide) rfl dL_law_1063 dL_law_1064 dL_law_1065 dL_law_1066 dL_law_1067 ?_
  refine zl_callI (own := R_law) (av := [.int (xs (nI (i + 1)).toNatClampNeg), .int (xs (nI (i + 2)).toNatClampNeg), .int (xs (nI (i + 3)).toNatClampNeg), .int (xs (nI (i + 4)).toNatClampNeg)]) (rest := []) (ad := adX) (b := 0) (ci := 5) (B := z_W cA adM kM) (h := kX) (d := 60) (y := 110) hx hb hml hown hts hN hK (by decide) (by decide) ⟨Nat.le_refl _, Nat.le_refl _⟩ hl.1 hA hP hD hS cX rfl rfl rfl eX rfl (z_t3 (i := 210) rfl rfl) (z_t3 (i := 211) rfl rfl) (z_t3 (i := 212) rfl rfl) (z_t1 (i := 1) rfl rfl) (na := 4) (by decide +kernel) rfl (Nat.le_of_ble_eq_true rfl) dL_law_1068 (fun r1 kX2 H locs hq1 hP hD hS => ?_)
  refine lv_pop hx hb dL_law_1071 rfl ?_
  refine lv_aload_n hx hb dL_law_1072 rfl (lv_at hl 2 rfl) ?_
  refine zw_arg (k := 1) hx hb hX hbl hbA hS hL (lv_at hl 0 rfl) (lv_at hl 3 rfl) hi (by decide) rfl dL_law_1073 dL_law_1074 dL_law_1075 dL_law_1076 dL_law_1077 ?_
  refine zw_arg (k := 2) hx hb hX hbl hbA hS hL (lv_at hl 0 rfl) (lv_at hl 3 rfl) hi (by decide) rfl dL_law_1078 dL_law_1079 dL_law_1080 dL_law_1081 dL_law_1082 ?_
  refine zw_arg (k := 3) hx hb hX hbl hbA hS hL (lv_at hl 0 rfl) (lv_at hl 3 rfl) hi (by decide) rfl dL_law_1083 dL_law_1084 dL_law_1085 dL_law_1086 dL_law_1087 ?_
  refine zw_arg (k := 4) hx hb hX hbl hbA hS hL (lv_at hl 0 rfl) (lv_at hl 3 rfl) hi (by decide) rfl dL_law_1088 dL_law_1089 dL_law_1090 dL_law_1091 dL_law_1092 ?_
  refine zl_callI (own := R_law) (av := [.int (xs (nI (i + 1)).toNatClampNeg), .int (xs (nI (i + 2)).toNatClampNeg), .int (xs (nI (i + 3)).toNatClampNeg), .int (xs (nI (i + 4)).toNatClampNeg)]) (rest := []) (ad := adM) (b := 0) (ci := 6) (B := z_W cA adX kX2) (h := kM) (d := 60) (y := 227) hx hb hml hown hts hN hK (by decide) (by decide) ⟨Nat.le_refl _, Nat.le_refl _⟩ hl.1 hA hP hD hS cM rfl rfl rfl eM rfl (z_t6 (i := 24) rfl rfl) (z_t6 (i := 25) rfl rfl) (z_t6 (i := 26) rfl rfl) (z_t1 (i := 8) rfl rfl) (na := 4) (by decide +kernel) rfl (Nat.le_of_ble_eq_true rfl) dL_law_1093 (fun r2 kM2 H locs hq2 hP hD hS => ?_)
  refine lv_pop hx hb dL_law_1096 rfl ?_
  refine lv_goto (tgt := 1289) hx hb dL_law_1097 (by decide) ?_
  exact next _ _ _ _ (hT _ _ _ _ hq1 hq2).1 hP hD hS
theorem dL_law_1100 : decode cL_law 1100 = .ok (.aload_n 1, 1) := z_is_ok (by decide +kernel)
theorem dL_law_1101 : decode cL_law 1101 = .ok (.aload_n 0, 1) := z_is_ok (by decide +kernel)
theorem dL_law_1102 : decode cL_law 1102 = .ok (.iload_n 3, 1) := z_is_ok (by decide +kernel)
theorem dL_law_1103 : decode cL_law 1103 = .ok (.iconst 1, 1) := z_is_ok (by decide +kernel)
theorem dL_law_1104 : decode cL_law 1104 = .ok (.iadd, 1) := z_is_ok (by decide +kernel)
theorem dL_law_1105 : decode cL_law 1105 = .ok (.iaload, 1) := z_is_ok (by decide +kernel)
theorem dL_law_1106 : decode cL_law 1106 = .ok (.invokevirtual 157, 3) := z_is_ok (by decide +kernel)
theorem dL_law_1109 : decode cL_law 1109 = .ok (.pop, 1) := z_is_ok (by decide +kernel)
theorem dL_law_1110 : decode cL_law 1110 = .ok (.aload_n 2, 1) := z_is_ok (by decide +kernel)
theorem dL_law_1111 : decode cL_law 1111 = .ok (.aload_n 0, 1) := z_is_ok (by decide +kernel)
theorem dL_law_1112 : decode cL_law 1112 = .ok (.iload_n 3, 1) := z_is_ok (by decide +kernel)
theorem dL_law_1113 : decode cL_law 1113 = .ok (.iconst 1, 1) := z_is_ok (by decide +kernel)
theorem dL_law_1114 : decode cL_law 1114 = .ok (.iadd, 1) := z_is_ok (by decide +kernel)
theorem dL_law_1115 : decode cL_law 1115 = .ok (.iaload, 1) := z_is_ok (by decide +kernel)
theorem dL_law_1116 : decode cL_law 1116 = .ok (.invokevirtual 160, 3) := z_is_ok (by decide +kernel)
theorem dL_law_1119 : decode cL_law 1119 = .ok (.pop, 1) := z_is_ok (by decide +kernel)
theorem dL_law_1120 : decode cL_law 1120 = .ok (.goto 169, 3) := z_is_ok (by decide +kernel)
set_option maxHeartbeats 4000000 in
set_option maxRecDepth 100000 in
theorem zw_case_34 {p : Program} {l : Launch} {e : Env} {s : State} {m : MethodId} {below : List Frame} {meth : Method} {c : Code} {D : va_G} {cA : Nat → ClassId} {b L : Nat} {xs : Nat → Int32} (hL : L ≤ 2560) (hx : p.tables.exec = Jvm.exec) (hb : c.code = code) (hr : meth.sig.returnType = ret) (hml : c.maxLocals = 4) (hown : s.vm.findClass R_law = some m.cls) (hts : ∀ w ∈ z_AW, w.before #[Value.ref b] s = true) (hN : z_N s) (hK : va_K D z_cl (z_tys cA) s) (hX : va_X b L xs s s.heap) (hbl : b < s.heap.size) (hlocks : meth.locks = false) {i : Nat} (hi : i + 5 ≤ L) {adX adM : Nat → Nat} {kX kM : List z_E} (hJ : z_JI kX kM) {H : Heap} {locs : List Loc} (hP : va_P D z_cl (z_W cA adX kX ++ z_W cA adM kM) H) (hD : va_D (fun q : Nat => s.heap.size ≤ q) (z_W cA adX kX ++ z_W cA adM kM)) (hS : va_S (fun q : Nat => s.heap.size ≤ q) s.heap H locs) {ls : Array Slot} (hl : lv_has ls 4 [(0, .ref b), (1, .ref (adX 0)), (2, .ref (adM 0)), (3, .int (nI i))])
    (next : ∀ (kX kM : List z_E) (H : Heap) (locs : List Loc), z_JI kX kM → va_P D z_cl (z_W cA adX kX ++ z_W cA adM kM) H → va_D (fun q : Nat => s.heap.size ≤ q) (z_W cA adX kX ++ z_W cA adM kM) → va_S (fun q : Nat => s.heap.size ≤ q) s.heap H locs → W p l e room_1 s m #[Value.ref b] below meth c H locs 600000 7302250 (lw_Z below #[Value.ref b] s) (F0 m 1289 ls [])) : W p l e room_1 s m #[Value.ref b] below meth c H locs 600000 7302250 (lw_Z below #[Value.ref b] s) (F0 m 1100 ls []) := by
  have hA : ∀ q : Nat, s.heap.size ≤ q → (fun q : Nat => s.heap.size ≤ q) q := fun _ h => h
  have hbA : ¬ (fun q : Nat => s.heap.size ≤ q) b := Nat.not_le.mpr hbl
  obtain ⟨⟨fX, eX⟩, fM, eM⟩ := zw_recv hJ
  obtain ⟨PX, PM, cX, cM, hT⟩ := pr_told hJ ((xs (nI (i + 1)).toNatClampNeg))
  refine lv_aload_n hx hb dL_law_1100 rfl (lv_at hl 1 rfl) ?_
  refine zw_arg (k := 1) hx hb hX hbl hbA hS hL (lv_at hl 0 rfl) (lv_at hl 3 rfl) hi (by decide) rfl dL_law_1101 dL_law_1102 dL_law_1103 dL_law_1104 dL_law_1105 ?_
  refine zl_callI (own := R_law) (av := [.int (xs (nI (i + 1)).toNatClampNeg)]) (rest := []) (ad := adX) (b := 0) (ci := 5) (B := z_W cA adM kM) (h := kX) (d := 60) (y := 111) hx hb hml hown hts hN hK (by decide) (by decide) ⟨Nat.le_refl _, Nat.le_refl _⟩ hl.1 hA hP hD hS cX rfl rfl rfl eX rfl (z_t4 (i := 1) rfl rfl) (z_t4 (i := 2) rfl rfl) (z_t4 (i := 3) rfl rfl) (z_t1 (i := 1) rfl rfl) (na := 1) (by decide +kernel) rfl (Nat.le_of_ble_eq_true rfl) dL_law_1106 (fun r1 kX2 H locs hq1 hP hD hS => ?_)
  refine lv_pop hx hb dL_law_1109 rfl ?_
  refine lv_aload_n hx hb dL_law_1110 rfl (lv_at hl 2 rfl) ?_
  refine zw_arg (k := 1) hx hb hX hbl hbA hS hL (lv_at hl 0 rfl) (lv_at hl 3 rfl) hi (by decide) rfl dL_law_1111 dL_law_1112 dL_law_1113 dL_law_1114 dL_law_1115 ?_
  refine zl_callI (own := R_law) (av := [.int (xs (nI (i + 1)).toNatClampNeg)]) (rest := []) (ad := adM) (b := 0) (ci := 6) (B := z_W cA adX kX2) (h := kM) (d := 60) (y := 231) hx hb hml hown hts hN hK (by decide) (by decide) ⟨Nat.le_refl _, Nat.le_refl _⟩ hl.1 hA hP hD hS cM rfl rfl rfl eM rfl (z_t6 (i := 40) rfl rfl) (z_t6 (i := 41) rfl rfl) (z_t6 (i := 42) rfl rfl) (z_t1 (i := 8) rfl rfl) (na := 1) (by decide +kernel) rfl (Nat.le_of_ble_eq_true rfl) dL_law_1116 (fun r2 kM2 H locs hq2 hP hD hS => ?_)
  refine lv_pop hx hb dL_law_1119 rfl ?_
  refine lv_goto (tgt := 1289) hx hb dL_law_1120 (by decide) ?_
  exact next _ _ _ _ (hT _ _ _ _ hq1 hq2).1 hP hD hS
theorem dL_law_1123 : decode cL_law 1123 = .ok (.aload_n 1, 1) := z_is_ok (by decide +kernel)
theorem dL_law_1124 : decode cL_law 1124 = .ok (.aload_n 0, 1) := z_is_ok (by decide +kernel)
theorem dL_law_1125 : decode cL_law 1125 = .ok (.iload_n 3, 1) := z_is_ok (by decide +kernel)
theorem dL_law_1126 : decode cL_law 1126 = .ok (.iconst 1, 1) := z_is_ok (by decide +kernel)
theorem dL_law_1127 : decode cL_law 1127 = .ok (.iadd, 1) := z_is_ok (by decide +kernel)
theorem dL_law_1128 : decode cL_law 1128 = .ok (.iaload, 1) := z_is_ok (by decide +kernel)
theorem dL_law_1129 : decode cL_law 1129 = .ok (.aload_n 0, 1) := z_is_ok (by decide +kernel)
theorem dL_law_1130 : decode cL_law 1130 = .ok (.iload_n 3, 1) := z_is_ok (by decide +kernel)
theorem dL_law_1131 : decode cL_law 1131 = .ok (.iconst 2, 1) := z_is_ok (by decide +kernel)
theorem dL_law_1132 : decode cL_law 1132 = .ok (.iadd, 1) := z_is_ok (by decide +kernel)
theorem dL_law_1133 : decode cL_law 1133 = .ok (.iaload, 1) := z_is_ok (by decide +kernel)
theorem dL_law_1134 : decode cL_law 1134 = .ok (.invokevirtual 161, 3) := z_is_ok (by decide +kernel)
theorem dL_law_1137 : decode cL_law 1137 = .ok (.pop, 1) := z_is_ok (by decide +kernel)
theorem dL_law_1138 : decode cL_law 1138 = .ok (.aload_n 2, 1) := z_is_ok (by decide +kernel)
theorem dL_law_1139 : decode cL_law 1139 = .ok (.aload_n 0, 1) := z_is_ok (by decide +kernel)
theorem dL_law_1140 : decode cL_law 1140 = .ok (.iload_n 3, 1) := z_is_ok (by decide +kernel)
theorem dL_law_1141 : decode cL_law 1141 = .ok (.iconst 1, 1) := z_is_ok (by decide +kernel)
theorem dL_law_1142 : decode cL_law 1142 = .ok (.iadd, 1) := z_is_ok (by decide +kernel)
theorem dL_law_1143 : decode cL_law 1143 = .ok (.iaload, 1) := z_is_ok (by decide +kernel)
theorem dL_law_1144 : decode cL_law 1144 = .ok (.aload_n 0, 1) := z_is_ok (by decide +kernel)
theorem dL_law_1145 : decode cL_law 1145 = .ok (.iload_n 3, 1) := z_is_ok (by decide +kernel)
theorem dL_law_1146 : decode cL_law 1146 = .ok (.iconst 2, 1) := z_is_ok (by decide +kernel)
theorem dL_law_1147 : decode cL_law 1147 = .ok (.iadd, 1) := z_is_ok (by decide +kernel)
theorem dL_law_1148 : decode cL_law 1148 = .ok (.iaload, 1) := z_is_ok (by decide +kernel)
theorem dL_law_1149 : decode cL_law 1149 = .ok (.invokevirtual 164, 3) := z_is_ok (by decide +kernel)
theorem dL_law_1152 : decode cL_law 1152 = .ok (.pop, 1) := z_is_ok (by decide +kernel)
theorem dL_law_1153 : decode cL_law 1153 = .ok (.goto 136, 3) := z_is_ok (by decide +kernel)
set_option maxHeartbeats 4000000 in
set_option maxRecDepth 100000 in
theorem zw_case_35 {p : Program} {l : Launch} {e : Env} {s : State} {m : MethodId} {below : List Frame} {meth : Method} {c : Code} {D : va_G} {cA : Nat → ClassId} {b L : Nat} {xs : Nat → Int32} (hL : L ≤ 2560) (hx : p.tables.exec = Jvm.exec) (hb : c.code = code) (hr : meth.sig.returnType = ret) (hml : c.maxLocals = 4) (hown : s.vm.findClass R_law = some m.cls) (hts : ∀ w ∈ z_AW, w.before #[Value.ref b] s = true) (hN : z_N s) (hK : va_K D z_cl (z_tys cA) s) (hX : va_X b L xs s s.heap) (hbl : b < s.heap.size) (hlocks : meth.locks = false) {i : Nat} (hi : i + 5 ≤ L) {adX adM : Nat → Nat} {kX kM : List z_E} (hJ : z_JI kX kM) {H : Heap} {locs : List Loc} (hP : va_P D z_cl (z_W cA adX kX ++ z_W cA adM kM) H) (hD : va_D (fun q : Nat => s.heap.size ≤ q) (z_W cA adX kX ++ z_W cA adM kM)) (hS : va_S (fun q : Nat => s.heap.size ≤ q) s.heap H locs) {ls : Array Slot} (hl : lv_has ls 4 [(0, .ref b), (1, .ref (adX 0)), (2, .ref (adM 0)), (3, .int (nI i))])
    (next : ∀ (kX kM : List z_E) (H : Heap) (locs : List Loc), z_JI kX kM → va_P D z_cl (z_W cA adX kX ++ z_W cA adM kM) H → va_D (fun q : Nat => s.heap.size ≤ q) (z_W cA adX kX ++ z_W cA adM kM) → va_S (fun q : Nat => s.heap.size ≤ q) s.heap H locs → W p l e room_1 s m #[Value.ref b] below meth c H locs 600000 7302250 (lw_Z below #[Value.ref b] s) (F0 m 1289 ls [])) : W p l e room_1 s m #[Value.ref b] below meth c H locs 600000 7302250 (lw_Z below #[Value.ref b] s) (F0 m 1123 ls []) := by
  have hA : ∀ q : Nat, s.heap.size ≤ q → (fun q : Nat => s.heap.size ≤ q) q := fun _ h => h
  have hbA : ¬ (fun q : Nat => s.heap.size ≤ q) b := Nat.not_le.mpr hbl
  obtain ⟨⟨fX, eX⟩, fM, eM⟩ := zw_recv hJ
  obtain ⟨PX, PM, cX, cM, hT⟩ := pr_list hJ ((xs (nI (i + 1)).toNatClampNeg)) ((xs (nI (i + 2)).toNatClampNeg))
  refine lv_aload_n hx hb dL_law_1123 rfl (lv_at hl 1 rfl) ?_
  refine zw_arg (k := 1) hx hb hX hbl hbA hS hL (lv_at hl 0 rfl) (lv_at hl 3 rfl) hi (by decide) rfl dL_law_1124 dL_law_1125 dL_law_1126 dL_law_1127 dL_law_1128 ?_
  refine zw_arg (k := 2) hx hb hX hbl hbA hS hL (lv_at hl 0 rfl) (lv_at hl 3 rfl) hi (by decide) rfl dL_law_1129 dL_law_1130 dL_law_1131 dL_law_1132 dL_law_1133 ?_
  refine zl_callI (own := R_law) (av := [.int (xs (nI (i + 1)).toNatClampNeg), .int (xs (nI (i + 2)).toNatClampNeg)]) (rest := []) (ad := adX) (b := 0) (ci := 5) (B := z_W cA adM kM) (h := kX) (d := 60) (y := 112) hx hb hml hown hts hN hK (by decide) (by decide) ⟨Nat.le_refl _, Nat.le_refl _⟩ hl.1 hA hP hD hS cX rfl rfl rfl eX rfl (z_t4 (i := 17) rfl rfl) (z_t4 (i := 18) rfl rfl) (z_t4 (i := 19) rfl rfl) (z_t1 (i := 1) rfl rfl) (na := 2) (by decide +kernel) rfl (Nat.le_of_ble_eq_true rfl) dL_law_1134 (fun r1 kX2 H locs hq1 hP hD hS => ?_)
  refine lv_pop hx hb dL_law_1137 rfl ?_
  refine lv_aload_n hx hb dL_law_1138 rfl (lv_at hl 2 rfl) ?_
  refine zw_arg (k := 1) hx hb hX hbl hbA hS hL (lv_at hl 0 rfl) (lv_at hl 3 rfl) hi (by decide) rfl dL_law_1139 dL_law_1140 dL_law_1141 dL_law_1142 dL_law_1143 ?_
  refine zw_arg (k := 2) hx hb hX hbl hbA hS hL (lv_at hl 0 rfl) (lv_at hl 3 rfl) hi (by decide) rfl dL_law_1144 dL_law_1145 dL_law_1146 dL_law_1147 dL_law_1148 ?_
  refine zl_callI (own := R_law) (av := [.int (xs (nI (i + 1)).toNatClampNeg), .int (xs (nI (i + 2)).toNatClampNeg)]) (rest := []) (ad := adM) (b := 0) (ci := 6) (B := z_W cA adX kX2) (h := kM) (d := 60) (y := 232) hx hb hml hown hts hN hK (by decide) (by decide) ⟨Nat.le_refl _, Nat.le_refl _⟩ hl.1 hA hP hD hS cM rfl rfl rfl eM rfl (z_t6 (i := 56) rfl rfl) (z_t6 (i := 57) rfl rfl) (z_t6 (i := 58) rfl rfl) (z_t1 (i := 8) rfl rfl) (na := 2) (by decide +kernel) rfl (Nat.le_of_ble_eq_true rfl) dL_law_1149 (fun r2 kM2 H locs hq2 hP hD hS => ?_)
  refine lv_pop hx hb dL_law_1152 rfl ?_
  refine lv_goto (tgt := 1289) hx hb dL_law_1153 (by decide) ?_
  exact next _ _ _ _ (hT _ _ _ _ hq1 hq2).1 hP hD hS
theorem dL_law_1156 : decode cL_law 1156 = .ok (.aload_n 1, 1) := z_is_ok (by decide +kernel)
theorem dL_law_1157 : decode cL_law 1157 = .ok (.aload_n 0, 1) := z_is_ok (by decide +kernel)
theorem dL_law_1158 : decode cL_law 1158 = .ok (.iload_n 3, 1) := z_is_ok (by decide +kernel)
theorem dL_law_1159 : decode cL_law 1159 = .ok (.iconst 1, 1) := z_is_ok (by decide +kernel)
theorem dL_law_1160 : decode cL_law 1160 = .ok (.iadd, 1) := z_is_ok (by decide +kernel)
theorem dL_law_1161 : decode cL_law 1161 = .ok (.iaload, 1) := z_is_ok (by decide +kernel)
theorem dL_law_1162 : decode cL_law 1162 = .ok (.aload_n 0, 1) := z_is_ok (by decide +kernel)
theorem dL_law_1163 : decode cL_law 1163 = .ok (.iload_n 3, 1) := z_is_ok (by decide +kernel)
theorem dL_law_1164 : decode cL_law 1164 = .ok (.iconst 2, 1) := z_is_ok (by decide +kernel)
theorem dL_law_1165 : decode cL_law 1165 = .ok (.iadd, 1) := z_is_ok (by decide +kernel)
theorem dL_law_1166 : decode cL_law 1166 = .ok (.iaload, 1) := z_is_ok (by decide +kernel)
theorem dL_law_1167 : decode cL_law 1167 = .ok (.aload_n 0, 1) := z_is_ok (by decide +kernel)
theorem dL_law_1168 : decode cL_law 1168 = .ok (.iload_n 3, 1) := z_is_ok (by decide +kernel)
theorem dL_law_1169 : decode cL_law 1169 = .ok (.iconst 3, 1) := z_is_ok (by decide +kernel)
theorem dL_law_1170 : decode cL_law 1170 = .ok (.iadd, 1) := z_is_ok (by decide +kernel)
theorem dL_law_1171 : decode cL_law 1171 = .ok (.iaload, 1) := z_is_ok (by decide +kernel)
theorem dL_law_1172 : decode cL_law 1172 = .ok (.i2l, 1) := z_is_ok (by decide +kernel)
theorem dL_law_1173 : decode cL_law 1173 = .ok (.bipush 32, 2) := z_is_ok (by decide +kernel)
theorem dL_law_1175 : decode cL_law 1175 = .ok (.lshl, 1) := z_is_ok (by decide +kernel)
theorem dL_law_1176 : decode cL_law 1176 = .ok (.aload_n 0, 1) := z_is_ok (by decide +kernel)
theorem dL_law_1177 : decode cL_law 1177 = .ok (.iload_n 3, 1) := z_is_ok (by decide +kernel)
theorem dL_law_1178 : decode cL_law 1178 = .ok (.iconst 4, 1) := z_is_ok (by decide +kernel)
theorem dL_law_1179 : decode cL_law 1179 = .ok (.iadd, 1) := z_is_ok (by decide +kernel)
theorem dL_law_1180 : decode cL_law 1180 = .ok (.iaload, 1) := z_is_ok (by decide +kernel)
theorem dL_law_1181 : decode cL_law 1181 = .ok (.i2l, 1) := z_is_ok (by decide +kernel)
theorem dL_law_1182 : decode cL_law 1182 = .ok (.ldc2_w 165, 3) := z_is_ok (by decide +kernel)
theorem dL_law_1185 : decode cL_law 1185 = .ok (.land, 1) := z_is_ok (by decide +kernel)
theorem dL_law_1186 : decode cL_law 1186 = .ok (.lor, 1) := z_is_ok (by decide +kernel)
theorem dL_law_1187 : decode cL_law 1187 = .ok (.invokevirtual 167, 3) := z_is_ok (by decide +kernel)
theorem dL_law_1190 : decode cL_law 1190 = .ok (.pop, 1) := z_is_ok (by decide +kernel)
theorem dL_law_1191 : decode cL_law 1191 = .ok (.aload_n 2, 1) := z_is_ok (by decide +kernel)
theorem dL_law_1192 : decode cL_law 1192 = .ok (.aload_n 0, 1) := z_is_ok (by decide +kernel)
theorem dL_law_1193 : decode cL_law 1193 = .ok (.iload_n 3, 1) := z_is_ok (by decide +kernel)
theorem dL_law_1194 : decode cL_law 1194 = .ok (.iconst 1, 1) := z_is_ok (by decide +kernel)
theorem dL_law_1195 : decode cL_law 1195 = .ok (.iadd, 1) := z_is_ok (by decide +kernel)
theorem dL_law_1196 : decode cL_law 1196 = .ok (.iaload, 1) := z_is_ok (by decide +kernel)
theorem dL_law_1197 : decode cL_law 1197 = .ok (.aload_n 0, 1) := z_is_ok (by decide +kernel)
theorem dL_law_1198 : decode cL_law 1198 = .ok (.iload_n 3, 1) := z_is_ok (by decide +kernel)
theorem dL_law_1199 : decode cL_law 1199 = .ok (.iconst 2, 1) := z_is_ok (by decide +kernel)
theorem dL_law_1200 : decode cL_law 1200 = .ok (.iadd, 1) := z_is_ok (by decide +kernel)
theorem dL_law_1201 : decode cL_law 1201 = .ok (.iaload, 1) := z_is_ok (by decide +kernel)
theorem dL_law_1202 : decode cL_law 1202 = .ok (.aload_n 0, 1) := z_is_ok (by decide +kernel)
theorem dL_law_1203 : decode cL_law 1203 = .ok (.iload_n 3, 1) := z_is_ok (by decide +kernel)
theorem dL_law_1204 : decode cL_law 1204 = .ok (.iconst 3, 1) := z_is_ok (by decide +kernel)
theorem dL_law_1205 : decode cL_law 1205 = .ok (.iadd, 1) := z_is_ok (by decide +kernel)
theorem dL_law_1206 : decode cL_law 1206 = .ok (.iaload, 1) := z_is_ok (by decide +kernel)
theorem dL_law_1207 : decode cL_law 1207 = .ok (.i2l, 1) := z_is_ok (by decide +kernel)
theorem dL_law_1208 : decode cL_law 1208 = .ok (.bipush 32, 2) := z_is_ok (by decide +kernel)
theorem dL_law_1210 : decode cL_law 1210 = .ok (.lshl, 1) := z_is_ok (by decide +kernel)
theorem dL_law_1211 : decode cL_law 1211 = .ok (.aload_n 0, 1) := z_is_ok (by decide +kernel)
theorem dL_law_1212 : decode cL_law 1212 = .ok (.iload_n 3, 1) := z_is_ok (by decide +kernel)
theorem dL_law_1213 : decode cL_law 1213 = .ok (.iconst 4, 1) := z_is_ok (by decide +kernel)
theorem dL_law_1214 : decode cL_law 1214 = .ok (.iadd, 1) := z_is_ok (by decide +kernel)
theorem dL_law_1215 : decode cL_law 1215 = .ok (.iaload, 1) := z_is_ok (by decide +kernel)
theorem dL_law_1216 : decode cL_law 1216 = .ok (.i2l, 1) := z_is_ok (by decide +kernel)
theorem dL_law_1217 : decode cL_law 1217 = .ok (.ldc2_w 165, 3) := z_is_ok (by decide +kernel)
theorem dL_law_1220 : decode cL_law 1220 = .ok (.land, 1) := z_is_ok (by decide +kernel)
theorem dL_law_1221 : decode cL_law 1221 = .ok (.lor, 1) := z_is_ok (by decide +kernel)
theorem dL_law_1222 : decode cL_law 1222 = .ok (.invokevirtual 171, 3) := z_is_ok (by decide +kernel)
theorem dL_law_1225 : decode cL_law 1225 = .ok (.pop, 1) := z_is_ok (by decide +kernel)
theorem dL_law_1226 : decode cL_law 1226 = .ok (.goto 63, 3) := z_is_ok (by decide +kernel)
set_option maxHeartbeats 4000000 in
set_option maxRecDepth 100000 in
theorem zw_case_36 {p : Program} {l : Launch} {e : Env} {s : State} {m : MethodId} {below : List Frame} {meth : Method} {c : Code} {D : va_G} {cA : Nat → ClassId} {b L : Nat} {xs : Nat → Int32} (hL : L ≤ 2560) (hx : p.tables.exec = Jvm.exec) (hb : c.code = code) (hr : meth.sig.returnType = ret) (hml : c.maxLocals = 4) (hown : s.vm.findClass R_law = some m.cls) (hts : ∀ w ∈ z_AW, w.before #[Value.ref b] s = true) (hN : z_N s) (hK : va_K D z_cl (z_tys cA) s) (hX : va_X b L xs s s.heap) (hbl : b < s.heap.size) (hlocks : meth.locks = false) {i : Nat} (hi : i + 5 ≤ L) {adX adM : Nat → Nat} {kX kM : List z_E} (hJ : z_JI kX kM) {H : Heap} {locs : List Loc} (hP : va_P D z_cl (z_W cA adX kX ++ z_W cA adM kM) H) (hD : va_D (fun q : Nat => s.heap.size ≤ q) (z_W cA adX kX ++ z_W cA adM kM)) (hS : va_S (fun q : Nat => s.heap.size ≤ q) s.heap H locs) {ls : Array Slot} (hl : lv_has ls 4 [(0, .ref b), (1, .ref (adX 0)), (2, .ref (adM 0)), (3, .int (nI i))])
    (next : ∀ (kX kM : List z_E) (H : Heap) (locs : List Loc), z_JI kX kM → va_P D z_cl (z_W cA adX kX ++ z_W cA adM kM) H → va_D (fun q : Nat => s.heap.size ≤ q) (z_W cA adX kX ++ z_W cA adM kM) → va_S (fun q : Nat => s.heap.size ≤ q) s.heap H locs → W p l e room_1 s m #[Value.ref b] below meth c H locs 600000 7302250 (lw_Z below #[Value.ref b] s) (F0 m 1289 ls [])) : W p l e room_1 s m #[Value.ref b] below meth c H locs 600000 7302250 (lw_Z below #[Value.ref b] s) (F0 m 1156 ls []) := by
  have hA : ∀ q : Nat, s.heap.size ≤ q → (fun q : Nat => s.heap.size ≤ q) q := fun _ h => h
  have hbA : ¬ (fun q : Nat => s.heap.size ≤ q) b := Nat.not_le.mpr hbl
  obtain ⟨⟨fX, eX⟩, fM, eM⟩ := zw_recv hJ
  obtain ⟨PX, PM, cX, cM, hT⟩ := pr_set hJ ((xs (nI (i + 1)).toNatClampNeg)) ((xs (nI (i + 2)).toNatClampNeg)) (((((xs (nI (i + 3)).toNatClampNeg)).toInt64 <<< ((32 : Int32).toInt64 &&& 63)) ||| (((xs (nI (i + 4)).toNatClampNeg)).toInt64 &&& 4294967295)))
  refine lv_aload_n hx hb dL_law_1156 rfl (lv_at hl 1 rfl) ?_
  refine zw_arg (k := 1) hx hb hX hbl hbA hS hL (lv_at hl 0 rfl) (lv_at hl 3 rfl) hi (by decide) rfl dL_law_1157 dL_law_1158 dL_law_1159 dL_law_1160 dL_law_1161 ?_
  refine zw_arg (k := 2) hx hb hX hbl hbA hS hL (lv_at hl 0 rfl) (lv_at hl 3 rfl) hi (by decide) rfl dL_law_1162 dL_law_1163 dL_law_1164 dL_law_1165 dL_law_1166 ?_
  refine zw_arg (k := 3) hx hb hX hbl hbA hS hL (lv_at hl 0 rfl) (lv_at hl 3 rfl) hi (by decide) rfl dL_law_1167 dL_law_1168 dL_law_1169 dL_law_1170 dL_law_1171 ?_
  refine lv_i2l hx hb dL_law_1172 rfl ?_
  refine lv_bipush (v := 32) hx hb dL_law_1173 (by decide) ?_
  refine lv_lshl hx hb dL_law_1175 rfl ?_
  refine zw_arg (k := 4) hx hb hX hbl hbA hS hL (lv_at hl 0 rfl) (lv_at hl 3 rfl) hi (by decide) rfl dL_law_1176 dL_law_1177 dL_law_1178 dL_law_1179 dL_law_1180 ?_
  refine lv_i2l hx hb dL_law_1181 rfl ?_
  refine lv_ldc2 (v := 4294967295) hx hb hown (hts (.constantLong R_law 165 4294967295) (z_t6 (i := 76) rfl rfl)) dL_law_1182 ?_
  refine lv_land hx hb dL_law_1185 ?_
  refine lv_lor hx hb dL_law_1186 ?_
  refine zl_callI (own := R_law) (av := [.int (xs (nI (i + 1)).toNatClampNeg), .int (xs (nI (i + 2)).toNatClampNeg), .long ((((xs (nI (i + 3)).toNatClampNeg)).toInt64 <<< ((32 : Int32).toInt64 &&& 63)) ||| (((xs (nI (i + 4)).toNatClampNeg)).toInt64 &&& 4294967295))]) (rest := []) (ad := adX) (b := 0) (ci := 5) (B := z_W cA adM kM) (h := kX) (d := 60) (y := 113) hx hb hml hown hts hN hK (by decide) (by decide) ⟨Nat.le_refl _, Nat.le_refl _⟩ hl.1 hA hP hD hS cX rfl rfl rfl eX rfl (z_t4 (i := 25) rfl rfl) (z_t4 (i := 26) rfl rfl) (z_t4 (i := 27) rfl rfl) (z_t1 (i := 1) rfl rfl) (na := 3) (by decide +kernel) rfl (Nat.le_of_ble_eq_true rfl) dL_law_1187 (fun r1 kX2 H locs hq1 hP hD hS => ?_)
  refine lv_pop hx hb dL_law_1190 rfl ?_
  refine lv_aload_n hx hb dL_law_1191 rfl (lv_at hl 2 rfl) ?_
  refine zw_arg (k := 1) hx hb hX hbl hbA hS hL (lv_at hl 0 rfl) (lv_at hl 3 rfl) hi (by decide) rfl dL_law_1192 dL_law_1193 dL_law_1194 dL_law_1195 dL_law_1196 ?_
  refine zw_arg (k := 2) hx hb hX hbl hbA hS hL (lv_at hl 0 rfl) (lv_at hl 3 rfl) hi (by decide) rfl dL_law_1197 dL_law_1198 dL_law_1199 dL_law_1200 dL_law_1201 ?_
  refine zw_arg (k := 3) hx hb hX hbl hbA hS hL (lv_at hl 0 rfl) (lv_at hl 3 rfl) hi (by decide) rfl dL_law_1202 dL_law_1203 dL_law_1204 dL_law_1205 dL_law_1206 ?_
  refine lv_i2l hx hb dL_law_1207 rfl ?_
  refine lv_bipush (v := 32) hx hb dL_law_1208 (by decide) ?_
  refine lv_lshl hx hb dL_law_1210 rfl ?_
  refine zw_arg (k := 4) hx hb hX hbl hbA hS hL (lv_at hl 0 rfl) (lv_at hl 3 rfl) hi (by decide) rfl dL_law_1211 dL_law_1212 dL_law_1213 dL_law_1214 dL_law_1215 ?_
  refine lv_i2l hx hb dL_law_1216 rfl ?_
  refine lv_ldc2 (v := 4294967295) hx hb hown (hts (.constantLong R_law 165 4294967295) (z_t6 (i := 76) rfl rfl)) dL_law_1217 ?_
  refine lv_land hx hb dL_law_1220 ?_
  refine lv_lor hx hb dL_law_1221 ?_
  refine zl_callI (own := R_law) (av := [.int (xs (nI (i + 1)).toNatClampNeg), .int (xs (nI (i + 2)).toNatClampNeg), .long ((((xs (nI (i + 3)).toNatClampNeg)).toInt64 <<< ((32 : Int32).toInt64 &&& 63)) ||| (((xs (nI (i + 4)).toNatClampNeg)).toInt64 &&& 4294967295))]) (rest := []) (ad := adM) (b := 0) (ci := 6) (B := z_W cA adX kX2) (h := kM) (d := 60) (y := 233) hx hb hml hown hts hN hK (by decide) (by decide) ⟨Nat.le_refl _, Nat.le_refl _⟩ hl.1 hA hP hD hS cM rfl rfl rfl eM rfl (z_t6 (i := 60) rfl rfl) (z_t6 (i := 61) rfl rfl) (z_t6 (i := 62) rfl rfl) (z_t1 (i := 8) rfl rfl) (na := 3) (by decide +kernel) rfl (Nat.le_of_ble_eq_true rfl) dL_law_1222 (fun r2 kM2 H locs hq2 hP hD hS => ?_)
  refine lv_pop hx hb dL_law_1225 rfl ?_
  refine lv_goto (tgt := 1289) hx hb dL_law_1226 (by decide) ?_
  exact next _ _ _ _ (hT _ _ _ _ hq1 hq2).1 hP hD hS
theorem dL_law_1229 : decode cL_law 1229 = .ok (.aload_n 1, 1) := z_is_ok (by decide +kernel)
theorem dL_law_1230 : decode cL_law 1230 = .ok (.aload_n 0, 1) := z_is_ok (by decide +kernel)
theorem dL_law_1231 : decode cL_law 1231 = .ok (.iload_n 3, 1) := z_is_ok (by decide +kernel)
theorem dL_law_1232 : decode cL_law 1232 = .ok (.iconst 1, 1) := z_is_ok (by decide +kernel)
theorem dL_law_1233 : decode cL_law 1233 = .ok (.iadd, 1) := z_is_ok (by decide +kernel)
theorem dL_law_1234 : decode cL_law 1234 = .ok (.iaload, 1) := z_is_ok (by decide +kernel)
theorem dL_law_1235 : decode cL_law 1235 = .ok (.aload_n 0, 1) := z_is_ok (by decide +kernel)
theorem dL_law_1236 : decode cL_law 1236 = .ok (.iload_n 3, 1) := z_is_ok (by decide +kernel)
theorem dL_law_1237 : decode cL_law 1237 = .ok (.iconst 2, 1) := z_is_ok (by decide +kernel)
theorem dL_law_1238 : decode cL_law 1238 = .ok (.iadd, 1) := z_is_ok (by decide +kernel)
theorem dL_law_1239 : decode cL_law 1239 = .ok (.iaload, 1) := z_is_ok (by decide +kernel)
theorem dL_law_1240 : decode cL_law 1240 = .ok (.invokevirtual 172, 3) := z_is_ok (by decide +kernel)
theorem dL_law_1243 : decode cL_law 1243 = .ok (.aload_n 2, 1) := z_is_ok (by decide +kernel)
theorem dL_law_1244 : decode cL_law 1244 = .ok (.aload_n 0, 1) := z_is_ok (by decide +kernel)
theorem dL_law_1245 : decode cL_law 1245 = .ok (.iload_n 3, 1) := z_is_ok (by decide +kernel)
theorem dL_law_1246 : decode cL_law 1246 = .ok (.iconst 1, 1) := z_is_ok (by decide +kernel)
theorem dL_law_1247 : decode cL_law 1247 = .ok (.iadd, 1) := z_is_ok (by decide +kernel)
theorem dL_law_1248 : decode cL_law 1248 = .ok (.iaload, 1) := z_is_ok (by decide +kernel)
theorem dL_law_1249 : decode cL_law 1249 = .ok (.aload_n 0, 1) := z_is_ok (by decide +kernel)
theorem dL_law_1250 : decode cL_law 1250 = .ok (.iload_n 3, 1) := z_is_ok (by decide +kernel)
theorem dL_law_1251 : decode cL_law 1251 = .ok (.iconst 2, 1) := z_is_ok (by decide +kernel)
theorem dL_law_1252 : decode cL_law 1252 = .ok (.iadd, 1) := z_is_ok (by decide +kernel)
theorem dL_law_1253 : decode cL_law 1253 = .ok (.iaload, 1) := z_is_ok (by decide +kernel)
theorem dL_law_1254 : decode cL_law 1254 = .ok (.invokevirtual 175, 3) := z_is_ok (by decide +kernel)
theorem dL_law_1257 : decode cL_law 1257 = .ok (.lcmp, 1) := z_is_ok (by decide +kernel)
theorem dL_law_1258 : decode cL_law 1258 = .ok (.ifCond .eq 31, 3) := z_is_ok (by decide +kernel)
set_option maxHeartbeats 4000000 in
set_option maxRecDepth 100000 in
theorem zw_case_37 {p : Program} {l : Launch} {e : Env} {s : State} {m : MethodId} {below : List Frame} {meth : Method} {c : Code} {D : va_G} {cA : Nat → ClassId} {b L : Nat} {xs : Nat → Int32} (hL : L ≤ 2560) (hx : p.tables.exec = Jvm.exec) (hb : c.code = code) (hr : meth.sig.returnType = ret) (hml : c.maxLocals = 4) (hown : s.vm.findClass R_law = some m.cls) (hts : ∀ w ∈ z_AW, w.before #[Value.ref b] s = true) (hN : z_N s) (hK : va_K D z_cl (z_tys cA) s) (hX : va_X b L xs s s.heap) (hbl : b < s.heap.size) (hlocks : meth.locks = false) {i : Nat} (hi : i + 5 ≤ L) {adX adM : Nat → Nat} {kX kM : List z_E} (hJ : z_JI kX kM) {H : Heap} {locs : List Loc} (hP : va_P D z_cl (z_W cA adX kX ++ z_W cA adM kM) H) (hD : va_D (fun q : Nat => s.heap.size ≤ q) (z_W cA adX kX ++ z_W cA adM kM)) (hS : va_S (fun q : Nat => s.heap.size ≤ q) s.heap H locs) {ls : Array Slot} (hl : lv_has ls 4 [(0, .ref b), (1, .ref (adX 0)), (2, .ref (adM 0)), (3, .int (nI i))])
    (next : ∀ (kX kM : List z_E) (H : Heap) (locs : List Loc), z_JI kX kM → va_P D z_cl (z_W cA adX kX ++ z_W cA adM kM) H → va_D (fun q : Nat => s.heap.size ≤ q) (z_W cA adX kX ++ z_W cA adM kM) → va_S (fun q : Nat => s.heap.size ≤ q) s.heap H locs → W p l e room_1 s m #[Value.ref b] below meth c H locs 600000 7302250 (lw_Z below #[Value.ref b] s) (F0 m 1289 ls [])) : W p l e room_1 s m #[Value.ref b] below meth c H locs 600000 7302250 (lw_Z below #[Value.ref b] s) (F0 m 1229 ls []) := by
  have hA : ∀ q : Nat, s.heap.size ≤ q → (fun q : Nat => s.heap.size ≤ q) q := fun _ h => h
  have hbA : ¬ (fun q : Nat => s.heap.size ≤ q) b := Nat.not_le.mpr hbl
  obtain ⟨⟨fX, eX⟩, fM, eM⟩ := zw_recv hJ
  obtain ⟨PX, PM, cX, cM, hT⟩ := prE_get hJ ((xs (nI (i + 1)).toNatClampNeg)) ((xs (nI (i + 2)).toNatClampNeg))
  refine lv_aload_n hx hb dL_law_1229 rfl (lv_at hl 1 rfl) ?_
  refine zw_arg (k := 1) hx hb hX hbl hbA hS hL (lv_at hl 0 rfl) (lv_at hl 3 rfl) hi (by decide) rfl dL_law_1230 dL_law_1231 dL_law_1232 dL_law_1233 dL_law_1234 ?_
  refine zw_arg (k := 2) hx hb hX hbl hbA hS hL (lv_at hl 0 rfl) (lv_at hl 3 rfl) hi (by decide) rfl dL_law_1235 dL_law_1236 dL_law_1237 dL_law_1238 dL_law_1239 ?_
  refine zl_callL (own := R_law) (av := [.int (xs (nI (i + 1)).toNatClampNeg), .int (xs (nI (i + 2)).toNatClampNeg)]) (rest := []) (ad := adX) (b := 0) (ci := 5) (B := z_W cA adM kM) (h := kX) (d := 60) (y := 114) hx hb hml hown hts hN hK (by decide) (by decide) ⟨Nat.le_refl _, Nat.le_refl _⟩ hl.1 hA hP hD hS cX rfl rfl rfl eX rfl (z_t4 (i := 29) rfl rfl) (z_t4 (i := 30) rfl rfl) (z_t4 (i := 31) rfl rfl) (z_t1 (i := 1) rfl rfl) (na := 2) (by decide +kernel) rfl (Nat.le_of_ble_eq_true rfl) dL_law_1240 (fun r1 kX2 H locs hq1 hP hD hS => ?_)
  refine lv_aload_n hx hb dL_law_1243 rfl (lv_at hl 2 rfl) ?_
  refine zw_arg (k := 1) hx hb hX hbl hbA hS hL (lv_at hl 0 rfl) (lv_at hl 3 rfl) hi (by decide) rfl dL_law_1244 dL_law_1245 dL_law_1246 dL_law_1247 dL_law_1248 ?_
  refine zw_arg (k := 2) hx hb hX hbl hbA hS hL (lv_at hl 0 rfl) (lv_at hl 3 rfl) hi (by decide) rfl dL_law_1249 dL_law_1250 dL_law_1251 dL_law_1252 dL_law_1253 ?_
  refine zl_callL (own := R_law) (av := [.int (xs (nI (i + 1)).toNatClampNeg), .int (xs (nI (i + 2)).toNatClampNeg)]) (rest := [.long r1]) (ad := adM) (b := 0) (ci := 6) (B := z_W cA adX kX2) (h := kM) (d := 60) (y := 234) hx hb hml hown hts hN hK (by decide) (by decide) ⟨Nat.le_refl _, Nat.le_refl _⟩ hl.1 hA hP hD hS cM rfl rfl rfl eM rfl (z_t6 (i := 64) rfl rfl) (z_t6 (i := 65) rfl rfl) (z_t6 (i := 66) rfl rfl) (z_t1 (i := 8) rfl rfl) (na := 2) (by decide +kernel) rfl (Nat.le_of_ble_eq_true rfl) dL_law_1254 (fun r2 kM2 H locs hq2 hP hD hS => ?_)
  refine W.lcmp hx hb dL_law_1257 ?_
  refine lv_if_eq (tgt := 1289) hx hb dL_law_1258 (by decide) (fun _ => ?_) (fun c2 => ?_)
  · exact next _ _ _ _ (hT _ _ _ _ hq1 hq2).1 hP hD hS
  · have e9 : r1 = r2 := Value.long.inj (Option.some.inj ((hT _ _ _ _ hq1 hq2).2 trivial))
    exact absurd ((lg_cmp_eq _ _).mpr e9) c2
theorem dL_law_1263 : decode cL_law 1263 = .ok (.aload_n 1, 1) := z_is_ok (by decide +kernel)
theorem dL_law_1264 : decode cL_law 1264 = .ok (.invokevirtual 176, 3) := z_is_ok (by decide +kernel)
theorem dL_law_1267 : decode cL_law 1267 = .ok (.pop, 1) := z_is_ok (by decide +kernel)
theorem dL_law_1268 : decode cL_law 1268 = .ok (.aload_n 2, 1) := z_is_ok (by decide +kernel)
theorem dL_law_1269 : decode cL_law 1269 = .ok (.invokevirtual 179, 3) := z_is_ok (by decide +kernel)
theorem dL_law_1272 : decode cL_law 1272 = .ok (.pop, 1) := z_is_ok (by decide +kernel)
theorem dL_law_1273 : decode cL_law 1273 = .ok (.goto 16, 3) := z_is_ok (by decide +kernel)
set_option maxHeartbeats 4000000 in
set_option maxRecDepth 100000 in
theorem zw_case_38 {p : Program} {l : Launch} {e : Env} {s : State} {m : MethodId} {below : List Frame} {meth : Method} {c : Code} {D : va_G} {cA : Nat → ClassId} {b L : Nat} {xs : Nat → Int32} (hL : L ≤ 2560) (hx : p.tables.exec = Jvm.exec) (hb : c.code = code) (hr : meth.sig.returnType = ret) (hml : c.maxLocals = 4) (hown : s.vm.findClass R_law = some m.cls) (hts : ∀ w ∈ z_AW, w.before #[Value.ref b] s = true) (hN : z_N s) (hK : va_K D z_cl (z_tys cA) s) (hX : va_X b L xs s s.heap) (hbl : b < s.heap.size) (hlocks : meth.locks = false) {i : Nat} (hi : i + 5 ≤ L) {adX adM : Nat → Nat} {kX kM : List z_E} (hJ : z_JI kX kM) {H : Heap} {locs : List Loc} (hP : va_P D z_cl (z_W cA adX kX ++ z_W cA adM kM) H) (hD : va_D (fun q : Nat => s.heap.size ≤ q) (z_W cA adX kX ++ z_W cA adM kM)) (hS : va_S (fun q : Nat => s.heap.size ≤ q) s.heap H locs) {ls : Array Slot} (hl : lv_has ls 4 [(0, .ref b), (1, .ref (adX 0)), (2, .ref (adM 0)), (3, .int (nI i))])
    (next : ∀ (kX kM : List z_E) (H : Heap) (locs : List Loc), z_JI kX kM → va_P D z_cl (z_W cA adX kX ++ z_W cA adM kM) H → va_D (fun q : Nat => s.heap.size ≤ q) (z_W cA adX kX ++ z_W cA adM kM) → va_S (fun q : Nat => s.heap.size ≤ q) s.heap H locs → W p l e room_1 s m #[Value.ref b] below meth c H locs 600000 7302250 (lw_Z below #[Value.ref b] s) (F0 m 1289 ls [])) : W p l e room_1 s m #[Value.ref b] below meth c H locs 600000 7302250 (lw_Z below #[Value.ref b] s) (F0 m 1263 ls []) := by
  have hA : ∀ q : Nat, s.heap.size ≤ q → (fun q : Nat => s.heap.size ≤ q) q := fun _ h => h
  have hbA : ¬ (fun q : Nat => s.heap.size ≤ q) b := Nat.not_le.mpr hbl
  obtain ⟨⟨fX, eX⟩, fM, eM⟩ := zw_recv hJ
  obtain ⟨PX, PM, cX, cM, hT⟩ := pr_image hJ 
  refine lv_aload_n hx hb dL_law_1263 rfl (lv_at hl 1 rfl) ?_
  refine zl_callI (own := R_law) (av := []) (rest := []) (ad := adX) (b := 0) (ci := 5) (B := z_W cA adM kM) (h := kX) (d := 60) (y := 115) hx hb hml hown hts hN hK (by decide) (by decide) ⟨Nat.le_refl _, Nat.le_refl _⟩ hl.1 hA hP hD hS cX rfl rfl rfl eX rfl (z_t4 (i := 33) rfl rfl) (z_t4 (i := 34) rfl rfl) (z_t4 (i := 35) rfl rfl) (z_t1 (i := 1) rfl rfl) (na := 0) (by decide +kernel) rfl (Nat.le_of_ble_eq_true rfl) dL_law_1264 (fun r1 kX2 H locs hq1 hP hD hS => ?_)
  refine lv_pop hx hb dL_law_1267 rfl ?_
  refine lv_aload_n hx hb dL_law_1268 rfl (lv_at hl 2 rfl) ?_
  refine zl_callI (own := R_law) (av := []) (rest := []) (ad := adM) (b := 0) (ci := 6) (B := z_W cA adX kX2) (h := kM) (d := 60) (y := 235) hx hb hml hown hts hN hK (by decide) (by decide) ⟨Nat.le_refl _, Nat.le_refl _⟩ hl.1 hA hP hD hS cM rfl rfl rfl eM rfl (z_t6 (i := 68) rfl rfl) (z_t6 (i := 69) rfl rfl) (z_t6 (i := 70) rfl rfl) (z_t1 (i := 8) rfl rfl) (na := 0) (by decide +kernel) rfl (Nat.le_of_ble_eq_true rfl) dL_law_1269 (fun r2 kM2 H locs hq2 hP hD hS => ?_)
  refine lv_pop hx hb dL_law_1272 rfl ?_
  refine lv_goto (tgt := 1289) hx hb dL_law_1273 (by decide) ?_
  exact next _ _ _ _ (hT _ _ _ _ hq1 hq2).1 hP hD hS
theorem dL_law_1276 : decode cL_law 1276 = .ok (.aload_n 1, 1) := z_is_ok (by decide +kernel)
theorem dL_law_1277 : decode cL_law 1277 = .ok (.invokevirtual 180, 3) := z_is_ok (by decide +kernel)
theorem dL_law_1280 : decode cL_law 1280 = .ok (.pop, 1) := z_is_ok (by decide +kernel)
theorem dL_law_1281 : decode cL_law 1281 = .ok (.aload_n 2, 1) := z_is_ok (by decide +kernel)
theorem dL_law_1282 : decode cL_law 1282 = .ok (.invokevirtual 183, 3) := z_is_ok (by decide +kernel)
theorem dL_law_1285 : decode cL_law 1285 = .ok (.pop, 1) := z_is_ok (by decide +kernel)
theorem dL_law_1286 : decode cL_law 1286 = .ok (.goto 3, 3) := z_is_ok (by decide +kernel)
set_option maxHeartbeats 4000000 in
set_option maxRecDepth 100000 in
theorem zw_case_39 {p : Program} {l : Launch} {e : Env} {s : State} {m : MethodId} {below : List Frame} {meth : Method} {c : Code} {D : va_G} {cA : Nat → ClassId} {b L : Nat} {xs : Nat → Int32} (hL : L ≤ 2560) (hx : p.tables.exec = Jvm.exec) (hb : c.code = code) (hr : meth.sig.returnType = ret) (hml : c.maxLocals = 4) (hown : s.vm.findClass R_law = some m.cls) (hts : ∀ w ∈ z_AW, w.before #[Value.ref b] s = true) (hN : z_N s) (hK : va_K D z_cl (z_tys cA) s) (hX : va_X b L xs s s.heap) (hbl : b < s.heap.size) (hlocks : meth.locks = false) {i : Nat} (hi : i + 5 ≤ L) {adX adM : Nat → Nat} {kX kM : List z_E} (hJ : z_JI kX kM) {H : Heap} {locs : List Loc} (hP : va_P D z_cl (z_W cA adX kX ++ z_W cA adM kM) H) (hD : va_D (fun q : Nat => s.heap.size ≤ q) (z_W cA adX kX ++ z_W cA adM kM)) (hS : va_S (fun q : Nat => s.heap.size ≤ q) s.heap H locs) {ls : Array Slot} (hl : lv_has ls 4 [(0, .ref b), (1, .ref (adX 0)), (2, .ref (adM 0)), (3, .int (nI i))])
    (next : ∀ (kX kM : List z_E) (H : Heap) (locs : List Loc), z_JI kX kM → va_P D z_cl (z_W cA adX kX ++ z_W cA adM kM) H → va_D (fun q : Nat => s.heap.size ≤ q) (z_W cA adX kX ++ z_W cA adM kM) → va_S (fun q : Nat => s.heap.size ≤ q) s.heap H locs → W p l e room_1 s m #[Value.ref b] below meth c H locs 600000 7302250 (lw_Z below #[Value.ref b] s) (F0 m 1289 ls [])) : W p l e room_1 s m #[Value.ref b] below meth c H locs 600000 7302250 (lw_Z below #[Value.ref b] s) (F0 m 1276 ls []) := by
  have hA : ∀ q : Nat, s.heap.size ≤ q → (fun q : Nat => s.heap.size ≤ q) q := fun _ h => h
  have hbA : ¬ (fun q : Nat => s.heap.size ≤ q) b := Nat.not_le.mpr hbl
  obtain ⟨⟨fX, eX⟩, fM, eM⟩ := zw_recv hJ
  obtain ⟨PX, PM, cX, cM, hT⟩ := pr_undo hJ 
  refine lv_aload_n hx hb dL_law_1276 rfl (lv_at hl 1 rfl) ?_
  refine zl_callI (own := R_law) (av := []) (rest := []) (ad := adX) (b := 0) (ci := 5) (B := z_W cA adM kM) (h := kX) (d := 60) (y := 116) hx hb hml hown hts hN hK (by decide) (by decide) ⟨Nat.le_refl _, Nat.le_refl _⟩ hl.1 hA hP hD hS cX rfl rfl rfl eX rfl (z_t4 (i := 37) rfl rfl) (z_t4 (i := 38) rfl rfl) (z_t4 (i := 39) rfl rfl) (z_t1 (i := 1) rfl rfl) (na := 0) (by decide +kernel) rfl (Nat.le_of_ble_eq_true rfl) dL_law_1277 (fun r1 kX2 H locs hq1 hP hD hS => ?_)
  refine lv_pop hx hb dL_law_1280 rfl ?_
  refine lv_aload_n hx hb dL_law_1281 rfl (lv_at hl 2 rfl) ?_
  refine zl_callI (own := R_law) (av := []) (rest := []) (ad := adM) (b := 0) (ci := 6) (B := z_W cA adX kX2) (h := kM) (d := 60) (y := 236) hx hb hml hown hts hN hK (by decide) (by decide) ⟨Nat.le_refl _, Nat.le_refl _⟩ hl.1 hA hP hD hS cM rfl rfl rfl eM rfl (z_t6 (i := 72) rfl rfl) (z_t6 (i := 73) rfl rfl) (z_t6 (i := 74) rfl rfl) (z_t1 (i := 8) rfl rfl) (na := 0) (by decide +kernel) rfl (Nat.le_of_ble_eq_true rfl) dL_law_1282 (fun r2 kM2 H locs hq2 hP hD hS => ?_)
  refine lv_pop hx hb dL_law_1285 rfl ?_
  refine lv_goto (tgt := 1289) hx hb dL_law_1286 (by decide) ?_
  exact next _ _ _ _ (hT _ _ _ _ hq1 hq2).1 hP hD hS
