theorem dL_law_0 : decode cL_law 0 = .ok (.new 7, 3) := z_is_ok (by decide +kernel)
theorem dL_law_3 : decode cL_law 3 = .ok (.dup, 1) := z_is_ok (by decide +kernel)
theorem dL_law_4 : decode cL_law 4 = .ok (.invokespecial 9, 3) := z_is_ok (by decide +kernel)
theorem dL_law_7 : decode cL_law 7 = .ok (.astore_n 1, 1) := z_is_ok (by decide +kernel)
theorem dL_law_8 : decode cL_law 8 = .ok (.new 10, 3) := z_is_ok (by decide +kernel)
theorem dL_law_11 : decode cL_law 11 = .ok (.dup, 1) := z_is_ok (by decide +kernel)
theorem dL_law_12 : decode cL_law 12 = .ok (.invokespecial 12, 3) := z_is_ok (by decide +kernel)
theorem dL_law_15 : decode cL_law 15 = .ok (.astore_n 2, 1) := z_is_ok (by decide +kernel)
theorem dL_law_16 : decode cL_law 16 = .ok (.iconst 0, 1) := z_is_ok (by decide +kernel)
theorem dL_law_17 : decode cL_law 17 = .ok (.istore_n 3, 1) := z_is_ok (by decide +kernel)
theorem dL_law_18 : decode cL_law 18 = .ok (.iload_n 3, 1) := z_is_ok (by decide +kernel)
theorem dL_law_19 : decode cL_law 19 = .ok (.aload_n 0, 1) := z_is_ok (by decide +kernel)
theorem dL_law_20 : decode cL_law 20 = .ok (.arraylength, 1) := z_is_ok (by decide +kernel)
theorem dL_law_21 : decode cL_law 21 = .ok (.iconst 5, 1) := z_is_ok (by decide +kernel)
theorem dL_law_22 : decode cL_law 22 = .ok (.isub, 1) := z_is_ok (by decide +kernel)
theorem dL_law_23 : decode cL_law 23 = .ok (.if_icmp .gt 1272, 3) := z_is_ok (by decide +kernel)
theorem dL_law_26 : decode cL_law 26 = .ok (.aload_n 0, 1) := z_is_ok (by decide +kernel)
theorem dL_law_27 : decode cL_law 27 = .ok (.iload_n 3, 1) := z_is_ok (by decide +kernel)
theorem dL_law_28 : decode cL_law 28 = .ok (.iaload, 1) := z_is_ok (by decide +kernel)
theorem dL_law_29 : decode cL_law 29 = .ok (.bipush 63, 2) := z_is_ok (by decide +kernel)
theorem dL_law_31 : decode cL_law 31 = .ok (.iand, 1) := z_is_ok (by decide +kernel)
theorem dL_law_32 : decode cL_law 32 = .ok (.tableswitch 1257 0 39 #[176, 199, 232, 255, 278, 301, 324, 347, 360, 373, 406, 439, 452, 475, 498, 531, 564, 607, 650, 683, 716, 729, 752, 775, 788, 811, 844, 867, 890, 913, 926, 939, 962, 1015, 1068, 1091, 1124, 1197, 1231, 1244], 176) := by decide +kernel
theorem dL_law_1289 : decode cL_law 1289 = .ok (.iinc 3 5, 3) := z_is_ok (by decide +kernel)
theorem dL_law_1292 : decode cL_law 1292 = .ok (.goto (-1274), 3) := z_is_ok (by decide +kernel)
theorem dL_law_1295 : decode cL_law 1295 = .ok (.iconst 1, 1) := z_is_ok (by decide +kernel)
theorem dL_law_1296 : decode cL_law 1296 = .ok (.ireturn, 1) := z_is_ok (by decide +kernel)
set_option maxHeartbeats 4000000 in
set_option maxRecDepth 100000 in
theorem law_loop {p : Program} {l : Launch} {e : Env} {s : State} {m : MethodId} {below : List Frame} {meth : Method} {c : Code} {D : va_G} {cA : Nat → ClassId} {b L : Nat} {xs : Nat → Int32} (hL : L ≤ 2560) (hx : p.tables.exec = Jvm.exec) (hb : c.code = code) (hr : meth.sig.returnType = ret) (hml : c.maxLocals = 4) (hown : s.vm.findClass R_law = some m.cls) (hts : ∀ w ∈ z_AW, w.before #[Value.ref b] s = true) (hN : z_N s) (hK : va_K D z_cl (z_tys cA) s) (hX : va_X b L xs s s.heap) (hbl : b < s.heap.size) (hlocks : meth.locks = false) {adX adM : Nat → Nat} :
    ∀ (n i : Nat), i ≤ L → L + 1 ≤ i + n → ∀ (kX kM : List z_E) (H : Heap) (locs : List Loc), z_JI kX kM → va_P D z_cl (z_W cA adX kX ++ z_W cA adM kM) H → va_D (fun q : Nat => s.heap.size ≤ q) (z_W cA adX kX ++ z_W cA adM kM) → va_S (fun q : Nat => s.heap.size ≤ q) s.heap H locs → ∀ (ls : Array Slot), lv_has ls 4 [(0, .ref b), (1, .ref (adX 0)), (2, .ref (adM 0)), (3, .int (nI i))] → W p l e room_1 s m #[Value.ref b] below meth c H locs 600000 7302250 (lw_Z below #[Value.ref b] s) (F0 m 18 ls []) := by
  have hbA : ¬ (fun q : Nat => s.heap.size ≤ q) b := Nat.not_le.mpr hbl
  intro n
  induction n with
  | zero =>
    intro i h1 h2
    exact absurd h2 (by omega)
  | succ n ih =>
    intro i hiL hin kX kM H locs hJ hP hD hS ls hl
    refine lv_iload_n hx hb dL_law_18 rfl (lv_at hl 3 rfl) ?_
    refine lv_aload_n hx hb dL_law_19 rfl (lv_at hl 0 rfl) ?_
    refine va_slen hx hb hX hbl hbA hS dL_law_20 ?_
    refine lv_iconst (v := 5) hx hb dL_law_21 (by decide) ?_
    refine lv_isub hx hb dL_law_22 ?_
    refine lv_icmp_gt (tgt := 1295) hx hb dL_law_23 (by decide) (fun _ => ?_) (fun c1 => ?_)
    · refine lv_iconst (v := 1) hx hb dL_law_1295 (by decide) ?_
      refine va_forget (fun q hq => hS.2.2 q hq) ?_
      exact lw_ret hx hb hr hlocks dL_law_1296
    · have hi : i + 5 ≤ L := zw_lt (by omega) hL c1
      have next : ∀ (kX kM : List z_E) (H : Heap) (locs : List Loc), z_JI kX kM → va_P D z_cl (z_W cA adX kX ++ z_W cA adM kM) H → va_D (fun q : Nat => s.heap.size ≤ q) (z_W cA adX kX ++ z_W cA adM kM) → va_S (fun q : Nat => s.heap.size ≤ q) s.heap H locs → W p l e room_1 s m #[Value.ref b] below meth c H locs 600000 7302250 (lw_Z below #[Value.ref b] s) (F0 m 1289 ls []) := by
        intro kX kM H locs hJ hP hD hS
        refine lv_iinc (v := nI (i + 5)) (lv' := [(3, .int (nI (i + 5))), (0, .ref b), (1, .ref (adX 0)), (2, .ref (adM 0))]) hx hb dL_law_1289 hl (k := 3) rfl (nI_add i 5) (by decide) rfl (fun ls hl => ?_)
        refine lv_goto (tgt := 18) hx hb dL_law_1292 (by decide) ?_
        exact ih (i + 5) hi (by omega) kX kM H locs hJ hP hD hS ls (lv_sub hl [1, 2, 3, 0] rfl)
      refine lv_aload_n hx hb dL_law_26 rfl (lv_at hl 0 rfl) ?_
      refine lv_iload_n hx hb dL_law_27 rfl (lv_at hl 3 rfl) ?_
      refine va_sld hx hb hX hbl hbA hS (vp_in_nI (by omega) (by omega)) dL_law_28 ?_
      refine lv_bipush (v := 63) hx hb dL_law_29 (by decide) ?_
      refine lv_iand hx hb dL_law_31 ?_
      have hz := zw_and (xs (nI i).toNatClampNeg)
      generalize xs (nI i).toNatClampNeg &&& 63 = z at hz ⊢
      by_cases ho : z.toInt < 0 ∨ 39 < z.toInt
      · refine lv_tableOut (tgt := 1289) hx hb dL_law_32 ho (by decide) ?_
        exact next kX kM H locs hJ hP hD hS
      · have o1 : ¬ z.toInt < 0 := fun q => ho (Or.inl q)
        have o2 : ¬ 39 < z.toInt := fun q => ho (Or.inr q)
        obtain ⟨k, hk⟩ : ∃ k, (z.toInt - 0).toNat = k := ⟨_, rfl⟩
        have hk40 : k < 40 := by omega
        match k, hk, hk40 with
        | 0, hk, _ =>
          refine lv_tableIn (off := 176) (tgt := 208) hx hb dL_law_32 o1 o2 (by rw [hk]; rfl) (by decide) ?_
          exact zw_case_0 hL hx hb hr hml hown hts hN hK hX hbl hlocks hi hJ hP hD hS hl next
        | 1, hk, _ =>
          refine lv_tableIn (off := 199) (tgt := 231) hx hb dL_law_32 o1 o2 (by rw [hk]; rfl) (by decide) ?_
          exact zw_case_1 hL hx hb hr hml hown hts hN hK hX hbl hlocks hi hJ hP hD hS hl next
        | 2, hk, _ =>
          refine lv_tableIn (off := 232) (tgt := 264) hx hb dL_law_32 o1 o2 (by rw [hk]; rfl) (by decide) ?_
          exact zw_case_2 hL hx hb hr hml hown hts hN hK hX hbl hlocks hi hJ hP hD hS hl next
        | 3, hk, _ =>
          refine lv_tableIn (off := 255) (tgt := 287) hx hb dL_law_32 o1 o2 (by rw [hk]; rfl) (by decide) ?_
          exact zw_case_3 hL hx hb hr hml hown hts hN hK hX hbl hlocks hi hJ hP hD hS hl next
        | 4, hk, _ =>
          refine lv_tableIn (off := 278) (tgt := 310) hx hb dL_law_32 o1 o2 (by rw [hk]; rfl) (by decide) ?_
          exact zw_case_4 hL hx hb hr hml hown hts hN hK hX hbl hlocks hi hJ hP hD hS hl next
        | 5, hk, _ =>
          refine lv_tableIn (off := 301) (tgt := 333) hx hb dL_law_32 o1 o2 (by rw [hk]; rfl) (by decide) ?_
          exact zw_case_5 hL hx hb hr hml hown hts hN hK hX hbl hlocks hi hJ hP hD hS hl next
        | 6, hk, _ =>
          refine lv_tableIn (off := 324) (tgt := 356) hx hb dL_law_32 o1 o2 (by rw [hk]; rfl) (by decide) ?_
          exact zw_case_6 hL hx hb hr hml hown hts hN hK hX hbl hlocks hi hJ hP hD hS hl next
        | 7, hk, _ =>
          refine lv_tableIn (off := 347) (tgt := 379) hx hb dL_law_32 o1 o2 (by rw [hk]; rfl) (by decide) ?_
          exact zw_case_7 hL hx hb hr hml hown hts hN hK hX hbl hlocks hi hJ hP hD hS hl next
        | 8, hk, _ =>
          refine lv_tableIn (off := 360) (tgt := 392) hx hb dL_law_32 o1 o2 (by rw [hk]; rfl) (by decide) ?_
          exact zw_case_8 hL hx hb hr hml hown hts hN hK hX hbl hlocks hi hJ hP hD hS hl next
        | 9, hk, _ =>
          refine lv_tableIn (off := 373) (tgt := 405) hx hb dL_law_32 o1 o2 (by rw [hk]; rfl) (by decide) ?_
          exact zw_case_9 hL hx hb hr hml hown hts hN hK hX hbl hlocks hi hJ hP hD hS hl next
        | 10, hk, _ =>
          refine lv_tableIn (off := 406) (tgt := 438) hx hb dL_law_32 o1 o2 (by rw [hk]; rfl) (by decide) ?_
          exact zw_case_10 hL hx hb hr hml hown hts hN hK hX hbl hlocks hi hJ hP hD hS hl next
        | 11, hk, _ =>
          refine lv_tableIn (off := 439) (tgt := 471) hx hb dL_law_32 o1 o2 (by rw [hk]; rfl) (by decide) ?_
          exact zw_case_11 hL hx hb hr hml hown hts hN hK hX hbl hlocks hi hJ hP hD hS hl next
        | 12, hk, _ =>
          refine lv_tableIn (off := 452) (tgt := 484) hx hb dL_law_32 o1 o2 (by rw [hk]; rfl) (by decide) ?_
          exact zw_case_12 hL hx hb hr hml hown hts hN hK hX hbl hlocks hi hJ hP hD hS hl next
        | 13, hk, _ =>
          refine lv_tableIn (off := 475) (tgt := 507) hx hb dL_law_32 o1 o2 (by rw [hk]; rfl) (by decide) ?_
          exact zw_case_13 hL hx hb hr hml hown hts hN hK hX hbl hlocks hi hJ hP hD hS hl next
        | 14, hk, _ =>
          refine lv_tableIn (off := 498) (tgt := 530) hx hb dL_law_32 o1 o2 (by rw [hk]; rfl) (by decide) ?_
          exact zw_case_14 hL hx hb hr hml hown hts hN hK hX hbl hlocks hi hJ hP hD hS hl next
        | 15, hk, _ =>
          refine lv_tableIn (off := 531) (tgt := 563) hx hb dL_law_32 o1 o2 (by rw [hk]; rfl) (by decide) ?_
          exact zw_case_15 hL hx hb hr hml hown hts hN hK hX hbl hlocks hi hJ hP hD hS hl next
        | 16, hk, _ =>
          refine lv_tableIn (off := 564) (tgt := 596) hx hb dL_law_32 o1 o2 (by rw [hk]; rfl) (by decide) ?_
          exact zw_case_16 hL hx hb hr hml hown hts hN hK hX hbl hlocks hi hJ hP hD hS hl next
        | 17, hk, _ =>
          refine lv_tableIn (off := 607) (tgt := 639) hx hb dL_law_32 o1 o2 (by rw [hk]; rfl) (by decide) ?_
          exact zw_case_17 hL hx hb hr hml hown hts hN hK hX hbl hlocks hi hJ hP hD hS hl next
        | 18, hk, _ =>
          refine lv_tableIn (off := 650) (tgt := 682) hx hb dL_law_32 o1 o2 (by rw [hk]; rfl) (by decide) ?_
          exact zw_case_18 hL hx hb hr hml hown hts hN hK hX hbl hlocks hi hJ hP hD hS hl next
        | 19, hk, _ =>
          refine lv_tableIn (off := 683) (tgt := 715) hx hb dL_law_32 o1 o2 (by rw [hk]; rfl) (by decide) ?_
          exact zw_case_19 hL hx hb hr hml hown hts hN hK hX hbl hlocks hi hJ hP hD hS hl next
        | 20, hk, _ =>
          refine lv_tableIn (off := 716) (tgt := 748) hx hb dL_law_32 o1 o2 (by rw [hk]; rfl) (by decide) ?_
          exact zw_case_20 hL hx hb hr hml hown hts hN hK hX hbl hlocks hi hJ hP hD hS hl next
        | 21, hk, _ =>
          refine lv_tableIn (off := 729) (tgt := 761) hx hb dL_law_32 o1 o2 (by rw [hk]; rfl) (by decide) ?_
          exact zw_case_21 hL hx hb hr hml hown hts hN hK hX hbl hlocks hi hJ hP hD hS hl next
        | 22, hk, _ =>
          refine lv_tableIn (off := 752) (tgt := 784) hx hb dL_law_32 o1 o2 (by rw [hk]; rfl) (by decide) ?_
          exact zw_case_22 hL hx hb hr hml hown hts hN hK hX hbl hlocks hi hJ hP hD hS hl next
        | 23, hk, _ =>
          refine lv_tableIn (off := 775) (tgt := 807) hx hb dL_law_32 o1 o2 (by rw [hk]; rfl) (by decide) ?_
          exact zw_case_23 hL hx hb hr hml hown hts hN hK hX hbl hlocks hi hJ hP hD hS hl next
        | 24, hk, _ =>
          refine lv_tableIn (off := 788) (tgt := 820) hx hb dL_law_32 o1 o2 (by rw [hk]; rfl) (by decide) ?_
          exact zw_case_24 hL hx hb hr hml hown hts hN hK hX hbl hlocks hi hJ hP hD hS hl next
        | 25, hk, _ =>
          refine lv_tableIn (off := 811) (tgt := 843) hx hb dL_law_32 o1 o2 (by rw [hk]; rfl) (by decide) ?_
          exact zw_case_25 hL hx hb hr hml hown hts hN hK hX hbl hlocks hi hJ hP hD hS hl next
        | 26, hk, _ =>
          refine lv_tableIn (off := 844) (tgt := 876) hx hb dL_law_32 o1 o2 (by rw [hk]; rfl) (by decide) ?_
          exact zw_case_26 hL hx hb hr hml hown hts hN hK hX hbl hlocks hi hJ hP hD hS hl next
        | 27, hk, _ =>
          refine lv_tableIn (off := 867) (tgt := 899) hx hb dL_law_32 o1 o2 (by rw [hk]; rfl) (by decide) ?_
          exact zw_case_27 hL hx hb hr hml hown hts hN hK hX hbl hlocks hi hJ hP hD hS hl next
        | 28, hk, _ =>
          refine lv_tableIn (off := 890) (tgt := 922) hx hb dL_law_32 o1 o2 (by rw [hk]; rfl) (by decide) ?_
          exact zw_case_28 hL hx hb hr hml hown hts hN hK hX hbl hlocks hi hJ hP hD hS hl next
        | 29, hk, _ =>
          refine lv_tableIn (off := 913) (tgt := 945) hx hb dL_law_32 o1 o2 (by rw [hk]; rfl) (by decide) ?_
          exact zw_case_29 hL hx hb hr hml hown hts hN hK hX hbl hlocks hi hJ hP hD hS hl next
        | 30, hk, _ =>
          refine lv_tableIn (off := 926) (tgt := 958) hx hb dL_law_32 o1 o2 (by rw [hk]; rfl) (by decide) ?_
          exact zw_case_30 hL hx hb hr hml hown hts hN hK hX hbl hlocks hi hJ hP hD hS hl next
        | 31, hk, _ =>
          refine lv_tableIn (off := 939) (tgt := 971) hx hb dL_law_32 o1 o2 (by rw [hk]; rfl) (by decide) ?_
          exact zw_case_31 hL hx hb hr hml hown hts hN hK hX hbl hlocks hi hJ hP hD hS hl next
        | 32, hk, _ =>
          refine lv_tableIn (off := 962) (tgt := 994) hx hb dL_law_32 o1 o2 (by rw [hk]; rfl) (by decide) ?_
          exact zw_case_32 hL hx hb hr hml hown hts hN hK hX hbl hlocks hi hJ hP hD hS hl next
        | 33, hk, _ =>
          refine lv_tableIn (off := 1015) (tgt := 1047) hx hb dL_law_32 o1 o2 (by rw [hk]; rfl) (by decide) ?_
          exact zw_case_33 hL hx hb hr hml hown hts hN hK hX hbl hlocks hi hJ hP hD hS hl next
        | 34, hk, _ =>
          refine lv_tableIn (off := 1068) (tgt := 1100) hx hb dL_law_32 o1 o2 (by rw [hk]; rfl) (by decide) ?_
          exact zw_case_34 hL hx hb hr hml hown hts hN hK hX hbl hlocks hi hJ hP hD hS hl next
        | 35, hk, _ =>
          refine lv_tableIn (off := 1091) (tgt := 1123) hx hb dL_law_32 o1 o2 (by rw [hk]; rfl) (by decide) ?_
          exact zw_case_35 hL hx hb hr hml hown hts hN hK hX hbl hlocks hi hJ hP hD hS hl next
        | 36, hk, _ =>
          refine lv_tableIn (off := 1124) (tgt := 1156) hx hb dL_law_32 o1 o2 (by rw [hk]; rfl) (by decide) ?_
          exact zw_case_36 hL hx hb hr hml hown hts hN hK hX hbl hlocks hi hJ hP hD hS hl next
        | 37, hk, _ =>
          refine lv_tableIn (off := 1197) (tgt := 1229) hx hb dL_law_32 o1 o2 (by rw [hk]; rfl) (by decide) ?_
          exact zw_case_37 hL hx hb hr hml hown hts hN hK hX hbl hlocks hi hJ hP hD hS hl next
        | 38, hk, _ =>
          refine lv_tableIn (off := 1231) (tgt := 1263) hx hb dL_law_32 o1 o2 (by rw [hk]; rfl) (by decide) ?_
          exact zw_case_38 hL hx hb hr hml hown hts hN hK hX hbl hlocks hi hJ hP hD hS hl next
        | 39, hk, _ =>
          refine lv_tableIn (off := 1244) (tgt := 1276) hx hb dL_law_32 o1 o2 (by rw [hk]; rfl) (by decide) ?_
          exact zw_case_39 hL hx hb hr hml hown hts hN hK hX hbl hlocks hi hJ hP hD hS hl next
        | k + 40, _, h40 => exact absurd h40 (by omega)
set_option maxHeartbeats 4000000 in
set_option maxRecDepth 100000 in
theorem whole_start {p : Program} {e : Env} {s : State} {m : MethodId} {below : List Frame} {meth : Method} {c : Code} (l : Launch) (hflags : l.flags = flags0) {b L : Nat} {xs : Nat → Int32} (hL : L ≤ 2560) (C0 : lw_At p s m meth c b L xs) : W p l e room_1 s m #[Value.ref b] below meth c s.heap [] 0 0 (lw_Z below #[Value.ref b] s) (entryFrame m ([Value.ref b] : List Value).toArray 4) := by
  obtain ⟨hx, hb, hr, hml, hown, hts0, hX, hbl, hlocks, hgv⟩ := id C0
  have hts : ∀ w ∈ z_AW, w.before #[Value.ref b] s = true := fun w hw => hts0 w (List.mem_filter.mp hw).1
  have hN : z_N s := z_N_of (Ts := []) hts0
  have hA : ∀ q : Nat, s.heap.size ≤ q → (fun q : Nat => s.heap.size ≤ q) q := fun _ h => h
  obtain ⟨c0, iS0, hKn0⟩ := u_known (C := RX0) (T := TX0) (N := 2) (n := 2) hts (z_fields (ci := 0) rfl) (hts (.instantiable RX0 2) (z_t1 (i := 139) rfl rfl))
  obtain ⟨c1, iS1, hKn1⟩ := u_known (C := RX1) (T := TX1) (N := 2) (n := 2) hts (z_fields (ci := 1) rfl) (hts (.instantiable RX1 2) (z_t1 (i := 153) rfl rfl))
  obtain ⟨c2, iS2, hKn2⟩ := u_known (C := RX2) (T := TX2) (N := 8) (n := 8) hts (z_fields (ci := 2) rfl) (hts (.instantiable RX2 8) (z_t1 (i := 21) rfl rfl))
  obtain ⟨c3, iS3, hKn3⟩ := u_known (C := RX3) (T := TX3) (N := 5) (n := 5) hts (z_fields (ci := 3) rfl) (hts (.instantiable RX3 5) (z_t1 (i := 113) rfl rfl))
  obtain ⟨c4, iS4, hKn4⟩ := u_known (C := RX4) (T := TX4) (N := 11) (n := 11) hts (z_fields (ci := 4) rfl) (hts (.instantiable RX4 11) (z_t1 (i := 72) rfl rfl))
  obtain ⟨c5, iS5, hKn5⟩ := u_known (C := RX5) (T := TX5) (N := 8) (n := 8) hts (z_fields (ci := 5) rfl) (hts (.instantiable RX5 8) (z_t1 (i := 13) rfl rfl))
  obtain ⟨c6, iS6, hKn6⟩ := u_known (C := RX6) (T := TX6) (N := 23) (n := 23) hts (z_fields (ci := 6) rfl) (hts (.instantiable RX6 23) (z_t4 (i := 42) rfl rfl))
  obtain ⟨dC, dI, hKc⟩ : ∃ (dC : Nat → ClassId) (dI : Nat → Nat → Nat), ∀ (k : Nat) (q : vw_C), z_cl[k]? = some q → u_Kn s q.1 q.2.1 q.2.2 (dC k) (dI k) := by
    refine ⟨fun k => if k = 0 then c0 else if k = 1 then c1 else if k = 2 then c2 else if k = 3 then c3 else if k = 4 then c4 else if k = 5 then c5 else c6, fun k => if k = 0 then iS0 else if k = 1 then iS1 else if k = 2 then iS2 else if k = 3 then iS3 else if k = 4 then iS4 else if k = 5 then iS5 else iS6, ?_⟩
    intro k q hq
    match k, hq with
    | 0, hq => cases hq; exact hKn0
    | 1, hq => cases hq; exact hKn1
    | 2, hq => cases hq; exact hKn2
    | 3, hq => cases hq; exact hKn3
    | 4, hq => cases hq; exact hKn4
    | 5, hq => cases hq; exact hKn5
    | 6, hq => cases hq; exact hKn6
    | k + 7, hq => simp [z_cl] at hq
  obtain ⟨cA, hK⟩ := zl_tys (D := (dC, dI)) hts hKc (z_t1 (i := 70) rfl rfl) (z_t1 (i := 111) rfl rfl) (z_t4 (i := 121) rfl rfl)
  have hS : va_S (fun q : Nat => s.heap.size ≤ q) s.heap s.heap [] := va_S.rf
  have hP : va_P (dC, dI) z_cl [] s.heap := fun k q h => by simp at h
  have hD : va_D (fun q : Nat => s.heap.size ≤ q) [] := ⟨fun i j p q h => by simp at h, fun k q h => by simp at h⟩
  have hl := lv_entry ([.ref b]) (n := 4) (Nat.le_of_ble_eq_true rfl)
  rw [lg_entry_eq]
  generalize (lg_sl ([.ref b]) ++ List.replicate (4 - (lg_sl ([.ref b])).length) Slot.unset).toArray = ls at hl ⊢
  have hl : lv_has ls 4 [(0, .ref b)] := hl
  refine va_new (ci := 5) (fs := [.null, .null, .null, .null, .null, .null, .null, .int 0]) (C := RX5) (T := TX5) (N := 8) hx hb hts (z_fields (ci := 5) rfl) tyX5 tyX5_ok hown (hts (.classLink R_law 7 RX5) (z_t1 (i := 12) rfl rfl)) (hts (.instantiable RX5 8) (z_t1 (i := 13) rfl rfl)) (hts (.initialized RX5) (z_t1 (i := 1) rfl rfl)) hK hP hD hS hA rfl (fun j hj => by match j, hj with | 0, _ => rfl | 1, _ => rfl | 2, _ => rfl | 3, _ => rfl | 4, _ => rfl | 5, _ => rfl | 6, _ => rfl | 7, _ => rfl | j + 8, hj => exact absurd hj (by omega)) (Nat.le_of_ble_eq_true rfl) (Nat.le_of_ble_eq_true rfl) dL_law_0 (fun q1 H hP hD hS => ?_)
  refine lv_dup hx hb dL_law_3 rfl ?_
  refine zl_init (own := R_law) (ci := 5) (b := q1) hx hb hml hown hts hN hK hA hP hD hS (k_X5 l) (z_t1 (i := 16) rfl rfl) (z_t1 (i := 1) rfl rfl) (z_t1 (i := 14) rfl rfl) (z_t1 (i := 15) rfl rfl) rfl (by decide +kernel) ⟨Nat.le_of_ble_eq_true rfl, Nat.le_of_ble_eq_true rfl⟩ ⟨Nat.le_of_ble_eq_true rfl, Nat.le_of_ble_eq_true rfl⟩ hl.1 (Nat.le_of_ble_eq_true rfl) dL_law_4 (fun u1 h9 H locs hq hP hD hS => ?_)
  obtain ⟨d1, f1, d2, f2, d3, f3, sz0, rfl, hI1, hI2, hI3, hz0⟩ := hq
  rw [List.nil_append] at hP hD
  refine lv_astore_n (lv' := [(1, .ref q1), (0, .ref b)]) hx hb dL_law_7 rfl hl (by decide) rfl (fun ls hl => ?_)
  refine va_new (ci := 6) (fs := [.null, .null, .null, .int 0, .null, .int 0, .int 0, .int 0, .int 0, .null, .null, .int 0, .null, .null, .null, .null, .null, .null, .int 0, .null, .null, .long 0, .long 0]) (C := RX6) (T := TX6) (N := 23) hx hb hts (z_fields (ci := 6) rfl) tyX6 tyX6_ok hown (hts (.classLink R_law 10 RX6) (z_t4 (i := 41) rfl rfl)) (hts (.instantiable RX6 23) (z_t4 (i := 42) rfl rfl)) (hts (.initialized RX6) (z_t1 (i := 8) rfl rfl)) hK hP hD hS hA rfl (fun j hj => by match j, hj with | 0, _ => rfl | 1, _ => rfl | 2, _ => rfl | 3, _ => rfl | 4, _ => rfl | 5, _ => rfl | 6, _ => rfl | 7, _ => rfl | 8, _ => rfl | 9, _ => rfl | 10, _ => rfl | 11, _ => rfl | 12, _ => rfl | 13, _ => rfl | 14, _ => rfl | 15, _ => rfl | 16, _ => rfl | 17, _ => rfl | 18, _ => rfl | 19, _ => rfl | 20, _ => rfl | 21, _ => rfl | 22, _ => rfl | j + 23, hj => exact absurd hj (by omega)) (Nat.le_of_ble_eq_true rfl) (Nat.le_of_ble_eq_true rfl) dL_law_8 (fun q2 H hP hD hS => ?_)
  refine lv_dup hx hb dL_law_11 rfl ?_
  refine zl_init (own := R_law) (ci := 6) (b := q2) hx hb hml hown hts hN hK hA hP hD hS (k_X6 l) (z_t4 (i := 45) rfl rfl) (z_t1 (i := 8) rfl rfl) (z_t4 (i := 43) rfl rfl) (z_t4 (i := 44) rfl rfl) rfl (by decide +kernel) ⟨Nat.le_of_ble_eq_true rfl, Nat.le_of_ble_eq_true rfl⟩ ⟨Nat.le_of_ble_eq_true rfl, Nat.le_of_ble_eq_true rfl⟩ hl.1 (Nat.le_of_ble_eq_true rfl) dL_law_12 (fun u2 h9 H locs hq hP hD hS => ?_)
  obtain ⟨g2, lz, rfl, hG, hlz⟩ := hq
  refine lv_astore_n (lv' := [(2, .ref q2), (1, .ref q1), (0, .ref b)]) hx hb dL_law_15 rfl hl (by decide) rfl (fun ls hl => ?_)
  refine lv_iconst (v := 0) hx hb dL_law_16 (by decide) ?_
  refine lv_istore_n (lv' := [(3, .int 0), (2, .ref q2), (1, .ref q1), (0, .ref b)]) hx hb dL_law_17 rfl hl (by decide) rfl (fun ls hl => ?_)
  refine W.widen (k := 600000) (n := 7302250) (Nat.le_of_ble_eq_true rfl) (Nat.le_of_ble_eq_true rfl) ?_
  have hJ := z_JI_mk (n := 3) (outs := 0) (bm := 0) (ms := 0) (dr := fun k => k) (cn := fun _ => 0) (pl := fun _ _ => 0) (ik := 0) (kn := 3) (ko := 0) (kb := 0) (km := 0) (kd := fun k => k) (kc := fun _ => 0) (kpl := fun _ _ => 0) (fd := 0) (tp := fun _ => 0) (wr := 0) (pp := fun _ => 0) (sz := fun _ => 0) (ce := fun _ => 0) (d_size := nI 3) (d_outs := nI 0) (d_rule := nI 0) (d_filled := nI 0) (d_rankings := fun _ => 0) (d_counts := fun _ => 0) (d_draw := d3) (d_fors := f3) (w_size := 0) (w_ins := 0) (w_rule := 0) (w_steps := 0) (w_fors := fun _ => 0) (w_draw := fun _ => 0) (w_links := fun _ => 0) (w_best := fun _ => 0) (w_beaters := fun _ => 0) (w_distances := fun _ => 0) (w_route := fun _ => 0) (t_bytes := fun _ => 0) (t_next := 0) (t_ranking := 0) (t_count := 0) (l_cells := fun _ => 0) (s_bytes := fun _ => 0) (kept := fun _ => 0) (k_rankings := fun _ => 0) (k_counts := fun _ => 0) (k_draw := d2) (k_fors := f2) (was := fun _ => 0) (tape := fun _ => 0) (flt := 0) (ranking := fun _ => 0) (paper := fun _ => 0) (pairs := fun _ => 0) (above := fun _ => 0) (below := fun _ => 0) (isDone := fun _ => 0) (dist := fun _ => 0) (rowv := fun _ => 0) (rowMany := 0) (itm := fun _ => 0) (weakAbove := 0) (weakBelow := 0) (ps := 0) (tl := 0) (by decide) (by decide) (by decide) (hI1 (fun _ => 0) (fun _ => 0) (fun _ => 0) (fun _ _ => 0)) (fun h => absurd h (by decide)) (fun k hk => absurd hk (Nat.not_lt_zero k)) (fun k hk => ⟨(hz0 k hk).trans rfl, Nat.zero_le _⟩) (fun k hk => absurd hk (Nat.not_lt_zero k)) (fun _ _ => rfl) (Nat.le_refl 0) (by decide) (hG (fun _ => 0) (fun _ _ => 0)) (fun h => absurd h (by decide)) (fun k hk => absurd hk (Nat.not_lt_zero k)) (fun k hk => ⟨(hlz k hk).trans rfl, Nat.zero_le _⟩) (fun k hk => absurd hk (Nat.not_lt_zero k)) (fun _ _ => rfl)
  exact law_loop (adX := zk_ad q1 u1) (adM := zk_ad q2 u2) hL hx hb hr hml hown hts hN hK hX hbl hlocks (L + 1) 0 (Nat.zero_le L) (by omega) _ _ H locs hJ hP hD hS ls (lv_sub hl [3, 2, 1, 0] rfl)
-- ===== YOUR PART ENDS =====
set_option maxHeartbeats 4000000 in
theorem lw_walk (l : Launch) (hflags : l.flags = flags0) (b : Addr) (xs : List Int32) : MetFree l x (headSpec (Jvm.Cond.code x code maxLocals ret :: tables_1) room_1) (lw_P b xs) (fun _ _ _ _ _ => True) lw_Q := by
  refine MetFree.of_bodyS (code := code) (maxLocals := maxLocals) (ret := ret) (by decide) ?_ ?_
  · intro args s m h hn
    obtain ⟨meth, c, h1, h2, h3, h4, h5, h6, -, -⟩ := Cond.code_spec hn (atoms_spec (ws := Jvm.Cond.code x code maxLocals ret :: tables_1) h _ List.mem_cons_self)
    exact ⟨meth, c, h1, h2, h3, h4, h5, h6⟩
  · intro p e s m args below meth c s₁ B hml0 hP _
    obtain ⟨rfl, hx, hbd, hgv⟩ := hP
    obtain ⟨scr, harrAt, hlist, hof, hsmall⟩ := hx
    obtain ⟨hcb, hkn, -, -⟩ := State.arrayAt?_spec harrAt
    have hown : s.vm.findClass R_law = some m.cls := findClass_of_methodNamed B.named
    have hts0 : ∀ c ∈ (Jvm.Cond.code x code maxLocals ret :: tables_1), c.before #[Value.ref b] s = true := atoms_spec (ws := Jvm.Cond.code x code maxLocals ret :: tables_1) B.pre
    have hts : ∀ w ∈ lw_tbl, w.before #[Value.ref b] s = true := k2_hts_sels lw_privs (fun w hw => hts0 w (List.mem_cons_of_mem _ hw)) lw_privs_ok
    have hml : c.maxLocals = 4 := B.maxLocals_eq (hts0 _ List.mem_cons_self)
    have X₀ : Stand p l e room_1 s m #[Value.ref b] below meth c s₁ [] 0 0 := Stand.of_body B
    have hh0 : s₁.heap = s.heap := by rw [B.state]; rfl
    have hsz : scr.slots.size = xs.length := by rw [← Array.length_toList, hlist, List.length_map]
    have hval : ∀ j : Nat, j < xs.length → scr.slots[j]? = some (.int (xs.getD j 0)) := fun j hj => by
      rw [← Array.getElem?_toList, hlist]
      simp [hj]
    have hbl : b < s.heap.size := (Array.getElem?_eq_some_iff.mp hcb).1
    have hX : va_X b xs.length (fun j => xs.getD j 0) s s.heap := ⟨scr, hcb, hof, hkn, hsz, hval⟩
    have K : W p l e room_1 s m #[Value.ref b] below meth c s₁.heap [] 0 0 (lw_Z below #[Value.ref b] s) (entryFrame m ([Value.ref b] : List Value).toArray 4) := by
      rw [hh0]
      exact whole_start l hflags hbd ⟨B.exec, B.bytes, B.returns, hml, hown, hts, hX, hbl, B.notSynchronized, hgv⟩
    obtain ⟨t, a1, o, b1, b2, b3⟩ := K s₁ rfl X₀
    exact ⟨t, o, a1, b1, b2, b3⟩
theorem lw_pre_spec {args : Array Value} {s : State} (h : (Jvm.Cond.and given_1 narrow_1).before args s = true) (hr : rest_1_c.before args s = true) : ∃ (b : Addr) (xs : List Int32), lw_P b xs args s := by
  have hs := flat_of_before _ h
  have hq := flat_of_before _ hr
  have hc : (Cond.count 1).before args s = true := hs _ (by decide +kernel)
  have harr : (Cond.arrayOf (.arg 0) .int).before args s = true := hs _ (by decide +kernel)
  have hle : (Cond.le (.length (.arg 0)) (.int 2560)).before args s = true := hs _ (by decide +kernel)
  have hlen : (Cond.isInt (.length (.arg 0))).before args s = true := hq _ (by decide +kernel)
  have hall : (Cond.all (.arg 0) (.isInt (.elem (.arg 0) (.index 0)))).before args s = true := hq _ (by decide +kernel)
  obtain ⟨b, xs, hb, hx⟩ := State.ints_of_pre rfl harr hlen hall
  have hsm : xs.length < 2 ^ 31 := hx.choose_spec.2.2.2
  have hev : (Term.length (.arg 0)).eval args s none [] s = some (.int xs.length.toInt32) := hx.length_eval hb
  have hv := Cond.le_ints hev (show (Term.int 2560).eval args s none [] s = some (.int 2560) from rfl)
  have hd : xs.length.toInt32 ≤ 2560 := by
    simpa [Cond.before, Cond.holds, hv] using hle
  have hN : xs.length ≤ 2560 := (Int32.ofNat_le_ofNat hsm (by decide)).mp (show Int32.ofNat xs.length ≤ Int32.ofNat 2560 from hd)
  exact ⟨b, xs, Cond.one_arg hc (show args[0]? = some (.ref b) from hb), hx, hN, h⟩
theorem lw_comes (l : Launch) (hflags : l.flags = flags0) : Comes l x (Jvm.Cond.code x code maxLocals ret :: tables_1) room_1 (fun tb e args s => Calls_1 tb e args s ∧ rest_1 tb e args s ∧ Pre_1 tb e args s)
    (fun _ _ args s o t => lw_Q args s o t) := by
  intro p e ha hc hk s m args below hf hfit hheap happ hpre
  obtain ⟨b, xs, hP⟩ := lw_pre_spec hpre.2.2 hpre.2.1
  obtain ⟨k, o, h1, h2, h3, hQ⟩ := lw_walk l hflags b xs p e ha hc hk s m args below hf ((Spec.applies_iff_loose hf).mp happ).1 hP trivial
  exact ⟨k, o, h1, h2, h3, hQ⟩
theorem lw_frame {s t : State} {o : Outcome} {args : Array Value} (h : Framed s o t [] 600000 7302250) :
    Framed s o t (fieldLocs frame_1_writes args s ++ arrayLocs frame_1_arrays args s ++ staticLocs frame_1_statics s) 600000 7302250 := h
theorem lw_limb (L : Cond) (hL : ∀ (args : Array Value) (s t : State), L.after args s (.returned (some (.int 1))) t = true) :
    ArmFor flags0 classFile x code maxLocals ret World_1 tables_1 room_1 Calls_1 rest_1 Pre_1
      (fun tb e a s o t => postC L tb e a s o t ∧ Framed s o t (fieldLocs frame_1_writes a s ++ arrayLocs frame_1_arrays a s ++ staticLocs frame_1_statics s) 600000 7302250) := by
  intro l hflags _ _ p e ha hc hk s m args below hf hfit hheap happ hpre
  obtain ⟨k, o, h1, h2, h3, rfl, hF⟩ := lw_comes l hflags p e ha hc hk s m args below hf hfit hheap happ hpre
  exact ⟨k, _, h1, h2, h3, hL args s _, lw_frame hF⟩
theorem i_vc : Claimed_1_1 ∧ Claimed_1_2 := ⟨lw_limb limb_1_1 (fun args s t => by simp [limb_1_1, Cond.after, Cond.holds, Cond.value]), lw_limb limb_1_2 (fun args s t => Cond.after_iff.mpr (by
  first | (rw [show limb_1_2 = Cond.eq .result (.int 1) from rfl, Cond.eq_ints (x := 1) (y := 1) rfl rfl]; simp; done) | (simp [limb_1_2, Cond.value, Term.eval]; done)))⟩
