/-! the start -/
def y_nw : List Cond := flatC (Jvm.Cond.and given_1 narrow_1)
abbrev y_tm (i : Nat) : Term := .string "BallotWaysLaw" (y_ix.getD i 0)
abbrev y_tv (i : Nat) : Term := .field (y_tm i) "java/lang/String" "value" "[B"
abbrev y_tD1 : Term := .static "java/lang/Integer" "DigitOnes" "[B"
abbrev y_tD2 : Term := .static "java/lang/Integer" "DigitTens" "[B"
def y_pV : List (List Nat) := [[], [223], [229], [236], [244, 245], [254, 255, 256], [266], [277, 278, 279, 280, 281, 282, 283, 284], [296, 297], [310, 311], [325], [340, 341], [357, 358, 359, 360, 361, 362, 363, 364]]
def y_pN : List (List Nat) := [[0, 224, 230, 237, 246, 257, 267, 285, 298, 312, 326, 342, 365], [224, 0, 231, 238, 247, 258, 268, 286, 299, 313, 327, 343, 366], [230, 231, 0, 239, 248, 259, 269, 287, 300, 314, 328, 344, 367], [237, 238, 239, 0, 249, 260, 270, 288, 301, 315, 329, 345, 368], [246, 247, 248, 249, 0, 261, 271, 289, 302, 316, 330, 346, 369], [257, 258, 259, 260, 261, 0, 272, 290, 303, 317, 331, 347, 370], [267, 268, 269, 270, 271, 272, 0, 291, 304, 318, 332, 348, 371], [285, 286, 287, 288, 289, 290, 291, 0, 305, 319, 333, 349, 372], [298, 299, 300, 301, 302, 303, 304, 305, 0, 320, 334, 350, 373], [312, 313, 314, 315, 316, 317, 318, 319, 320, 0, 335, 351, 374], [326, 327, 328, 329, 330, 331, 332, 333, 334, 335, 0, 352, 375], [342, 343, 344, 345, 346, 347, 348, 349, 350, 351, 352, 0, 376], [365, 366, 367, 368, 369, 370, 371, 372, 373, 374, 375, 376, 0]]
def y_qE : List Nat := [215, 219, 225, 232, 240, 250, 262, 273, 292, 306, 321, 336, 353]
theorem y_nE {i : Nat} (hi : i < 13) : y_nw[y_qE.getD i 0]? = some (.exactly (y_tm i) "java/lang/String") := z_all1 (P := fun i => y_nw[y_qE.getD i 0]? = some (.exactly (y_tm i) "java/lang/String")) (m := 13) (by decide +kernel) hi
def y_qC : List Nat := [216, 220, 226, 233, 241, 251, 263, 274, 293, 307, 322, 337, 354]
theorem y_nC {i : Nat} (hi : i < 13) : y_nw[y_qC.getD i 0]? = some (.eq (.field (y_tm i) "java/lang/String" "coder" "B") (.int 0)) := z_all1 (P := fun i => y_nw[y_qC.getD i 0]? = some (.eq (.field (y_tm i) "java/lang/String" "coder" "B") (.int 0))) (m := 13) (by decide +kernel) hi
def y_qA : List Nat := [217, 221, 227, 234, 242, 252, 264, 275, 294, 308, 323, 338, 355]
theorem y_nA {i : Nat} (hi : i < 13) : y_nw[y_qA.getD i 0]? = some (.arrayOf (y_tv i) .byte) := z_all1 (P := fun i => y_nw[y_qA.getD i 0]? = some (.arrayOf (y_tv i) .byte)) (m := 13) (by decide +kernel) hi
def y_qL : List Nat := [218, 222, 228, 235, 243, 253, 265, 276, 295, 309, 324, 339, 356]
theorem y_nL {i : Nat} (hi : i < 13) : y_nw[y_qL.getD i 0]? = some (.eq (.length (y_tv i)) (.int (Int32.ofNat (y_len.getD i 0)))) := z_all1 (P := fun i => y_nw[y_qL.getD i 0]? = some (.eq (.length (y_tv i)) (.int (Int32.ofNat (y_len.getD i 0))))) (m := 13) (by decide +kernel) hi
def y_qD1 : List Nat := [12, 13, 14, 15, 16, 17, 18, 19, 20, 21, 22, 23, 24, 25, 26, 27, 28, 29, 30, 31, 32, 33, 34, 35, 36, 37, 38, 39, 40, 41, 42, 43, 44, 45, 46, 47, 48, 49, 50, 51, 52, 53, 54, 55, 56, 57, 58, 59, 60, 61, 62, 63, 64, 65, 66, 67, 68, 69, 70, 71, 72, 73, 74, 75, 76, 77, 78, 79, 80, 81, 82, 83, 84, 85, 86, 87, 88, 89, 90, 91, 92, 93, 94, 95, 96, 97, 98, 99, 100, 101, 102, 103, 104, 105, 106, 107, 108, 109, 110, 111]
theorem y_nD1 {i : Nat} (hi : i < 100) : y_nw[y_qD1.getD i 0]? = some (.eq (.elem y_tD1 (.int (Int32.ofNat i))) (.int (nI (48 + i % 10)))) := z_all1 (P := fun i => y_nw[y_qD1.getD i 0]? = some (.eq (.elem y_tD1 (.int (Int32.ofNat i))) (.int (nI (48 + i % 10))))) (m := 100) (by decide +kernel) hi
def y_qD2 : List Nat := [115, 116, 117, 118, 119, 120, 121, 122, 123, 124, 125, 126, 127, 128, 129, 130, 131, 132, 133, 134, 135, 136, 137, 138, 139, 140, 141, 142, 143, 144, 145, 146, 147, 148, 149, 150, 151, 152, 153, 154, 155, 156, 157, 158, 159, 160, 161, 162, 163, 164, 165, 166, 167, 168, 169, 170, 171, 172, 173, 174, 175, 176, 177, 178, 179, 180, 181, 182, 183, 184, 185, 186, 187, 188, 189, 190, 191, 192, 193, 194, 195, 196, 197, 198, 199, 200, 201, 202, 203, 204, 205, 206, 207, 208, 209, 210, 211, 212, 213, 214]
theorem y_nD2 {i : Nat} (hi : i < 100) : y_nw[y_qD2.getD i 0]? = some (.eq (.elem y_tD2 (.int (Int32.ofNat i))) (.int (nI (48 + i / 10)))) := z_all1 (P := fun i => y_nw[y_qD2.getD i 0]? = some (.eq (.elem y_tD2 (.int (Int32.ofNat i))) (.int (nI (48 + i / 10))))) (m := 100) (by decide +kernel) hi
theorem y_nV {i j : Nat} (hi : i < 13) (hj : j < y_len.getD i 0) : y_nw[(y_pV.getD i []).getD j 0]? = some (.eq (.elem (y_tv i) (.int (Int32.ofNat j))) (.int ((y_byt.getD i []).getD j 0))) :=
  of_decide_eq_true (List.all_eq_true.mp (z_all1 (P := fun i => (List.range (y_len.getD i 0)).all (fun j => decide (y_nw[(y_pV.getD i []).getD j 0]? = some (.eq (.elem (y_tv i) (.int (Int32.ofNat j))) (.int ((y_byt.getD i []).getD j 0))))) = true) (m := 13) (by decide +kernel) hi) j (List.mem_range.mpr hj))
theorem y_nN {i j : Nat} (hi : i < 13) (hj : j < 13) : i = j ∨ y_nw[(y_pN.getD i []).getD j 0]? = some (.not (.eq (y_tm i) (y_tm j))) ∨ y_nw[(y_pN.getD i []).getD j 0]? = some (.not (.eq (y_tm j) (y_tm i))) := z_all2 (P := fun i j => i = j ∨ y_nw[(y_pN.getD i []).getD j 0]? = some (.not (.eq (y_tm i) (y_tm j))) ∨ y_nw[(y_pN.getD i []).getD j 0]? = some (.not (.eq (y_tm j) (y_tm i)))) (m := 13) (n := 13) (by decide +kernel) hi hj
def y_adr (adK adV : Nat → Nat) (t1 t2 b : Nat) : Nat → Nat := fun i => if i < 13 then adK i else if i < 33 then adV (i - 20) else if i = 40 then t1 else if i = 41 then t2 else b
theorem y_adr_S {N : Nat} {len : List Nat} {byt : List (List Int32)} {adK adV aK aV : Nat → Nat} {A : Nat → Prop} {U : State} {H : Heap} (h : vk_S N len byt adK adV A U H) (e1 : ∀ i, i < N → aK i = adK i) (e2 : ∀ i, i < N → aV i = adV i) : vk_S N len byt aK aV A U H := by
  refine ⟨fun i hi => ?_, fun i j hi hj e => h.2 i j hi hj ?_⟩
  · have := h.1 i hi
    rw [e1 i hi, e2 i hi]
    exact this
  · rw [← e1 i hi, ← e1 j hj]
    exact e
theorem y_sr0 : Cond.stringRef "BallotWaysLaw" 25 "" ∈ lw_tbl := z_at_mem (pos := 690) (by decide +kernel)
theorem y_sr1 : Cond.stringRef "BallotWaysLaw" 34 ">" ∈ lw_tbl := z_at_mem (pos := 817) (by decide +kernel)
theorem y_sr2 : Cond.stringRef "BallotWaysLaw" 36 "=" ∈ lw_tbl := z_at_mem (pos := 818) (by decide +kernel)
theorem y_sr3 : Cond.stringRef "BallotWaysLaw" 55 ":" ∈ lw_tbl := z_at_mem (pos := 904) (by decide +kernel)
theorem y_sr4 : Cond.stringRef "BallotWaysLaw" 109 "2:" ∈ lw_tbl := z_at_mem (pos := 927) (by decide +kernel)
theorem y_sr5 : Cond.stringRef "BallotWaysLaw" 111 ";0:" ∈ lw_tbl := z_at_mem (pos := 928) (by decide +kernel)
theorem y_sr6 : Cond.stringRef "BallotWaysLaw" 113 ";" ∈ lw_tbl := z_at_mem (pos := 929) (by decide +kernel)
theorem y_sr7 : Cond.stringRef "BallotWaysLaw" 115 "1000001:" ∈ lw_tbl := z_at_mem (pos := 930) (by decide +kernel)
theorem y_sr8 : Cond.stringRef "BallotWaysLaw" 117 "3:" ∈ lw_tbl := z_at_mem (pos := 931) (by decide +kernel)
theorem y_sr9 : Cond.stringRef "BallotWaysLaw" 122 "3;" ∈ lw_tbl := z_at_mem (pos := 932) (by decide +kernel)
theorem y_sr10 : Cond.stringRef "BallotWaysLaw" 124 "x" ∈ lw_tbl := z_at_mem (pos := 933) (by decide +kernel)
theorem y_sr11 : Cond.stringRef "BallotWaysLaw" 126 "1:" ∈ lw_tbl := z_at_mem (pos := 934) (by decide +kernel)
theorem y_sr12 : Cond.stringRef "BallotWaysLaw" 128 "1000000:" ∈ lw_tbl := z_at_mem (pos := 935) (by decide +kernel)
theorem y_sr {i : Nat} (hi : i < 13) : Cond.stringRef "BallotWaysLaw" (y_ix.getD i 0) (y_tx.getD i "") ∈ lw_tbl := by
  match i, hi with
  | 0, _ => exact y_sr0
  | 1, _ => exact y_sr1
  | 2, _ => exact y_sr2
  | 3, _ => exact y_sr3
  | 4, _ => exact y_sr4
  | 5, _ => exact y_sr5
  | 6, _ => exact y_sr6
  | 7, _ => exact y_sr7
  | 8, _ => exact y_sr8
  | 9, _ => exact y_sr9
  | 10, _ => exact y_sr10
  | 11, _ => exact y_sr11
  | 12, _ => exact y_sr12
  | k + 13, h => exact absurd h (by omega)
theorem y_hts {args : Array Value} {s : State} (hts0 : ∀ w ∈ lw_tbl, w.before args s = true) : ∀ w ∈ z_AW, w.before args s = true := by
  intro w hw
  rcases List.mem_append.mp (List.mem_filter.mp hw).1 with h | h
  · obtain ⟨y, hy, rfl⟩ := List.mem_map.mp h
    simp only [y_prv, List.mem_cons, List.not_mem_nil, or_false] at hy
    rcases hy with rfl | rfl | rfl | rfl
    · exact y_selP (z := ⟨"java/lang/AbstractStringBuilder", "isLatin1", "()Z"⟩) (hts0 _ (z_at_mem (pos := 765) (by decide +kernel))) rfl ⟨by decide +kernel, by decide +kernel⟩ (hts0 _ (z_at_mem (pos := 734) (by decide +kernel))) (hts0 _ (z_at_mem (pos := 735) (by decide +kernel)))
    · exact y_selP (z := ⟨"java/lang/AbstractStringBuilder", "isLatin1", "()Z"⟩) (hts0 _ (z_at_mem (pos := 765) (by decide +kernel))) rfl ⟨by decide +kernel, by decide +kernel⟩ (hts0 _ (z_at_mem (pos := 738) (by decide +kernel))) (hts0 _ (z_at_mem (pos := 739) (by decide +kernel)))
    · exact y_selP (z := ⟨"java/lang/AbstractStringBuilder", "isLatin1", "()Z"⟩) (hts0 _ (z_at_mem (pos := 765) (by decide +kernel))) rfl ⟨by decide +kernel, by decide +kernel⟩ (hts0 _ (z_at_mem (pos := 784) (by decide +kernel))) (hts0 _ (z_at_mem (pos := 785) (by decide +kernel)))
    · exact y_selP (z := ⟨"java/lang/AbstractStringBuilder", "isLatin1", "()Z"⟩) (hts0 _ (z_at_mem (pos := 765) (by decide +kernel))) rfl ⟨by decide +kernel, by decide +kernel⟩ (hts0 _ (z_at_mem (pos := 788) (by decide +kernel))) (hts0 _ (z_at_mem (pos := 789) (by decide +kernel)))
  · exact hts0 w h
set_option maxHeartbeats 4000000 in
theorem y_E_start {l : Launch} {D : va_G} {cA : Nat → ClassId} {s : State} {b L : Nat} {xs : Nat → Int32} (hts0 : ∀ w ∈ lw_tbl, w.before #[Value.ref b] s = true) (hgv : (Jvm.Cond.and given_1 narrow_1).before #[Value.ref b] s = true) (hX : va_X b L xs s s.heap) (hbl : b < s.heap.size) (hL : L ≤ 260) : ∃ (ad : Nat → Nat) (fm : Value), ad 42 = b ∧ y_E (l, D, cA, ad, fm, L, xs) (fun q : Nat => s.heap.size ≤ q) s s.heap := by
  have hg : ∀ {k : Nat} {w : Cond}, y_nw[k]? = some w → w.before #[Value.ref b] s = true := fun h => flat_of_before _ hgv _ (List.mem_of_getElem? h)
  have hAb : ∀ a : Nat, a < s.heap.size → ¬ (fun q : Nat => s.heap.size ≤ q) a := fun a h => Nat.not_le.mpr h
  obtain ⟨adK, adV, hS, hK⟩ := vk_Sof (args := #[Value.ref b]) (s := s) (N := 13) (tm := y_tm) (len := y_len) (byt := y_byt) (A := (fun q : Nat => s.heap.size ≤ q)) (fun i hi => z_all1 (P := fun i => y_len.getD i 0 < 2 ^ 31) (m := 13) (by decide +kernel) hi) (fun i hi => hg (y_nE hi)) (fun i hi => hg (y_nC hi)) (fun i hi => hg (y_nA hi)) (fun i hi => hg (y_nL hi)) (fun i hi j hj => hg (y_nV hi hj)) (fun i j hi hj hne => by
    rcases y_nN hi hj with h | h | h
    · exact absurd h hne
    · exact Or.inl (hg h)
    · exact Or.inr (hg h)) hAb
  obtain ⟨t1, ht1, hT1⟩ := va_Tof (args := #[Value.ref b]) (s := s) (tm := y_tD1) (ty := .byte) (N := 100) (f := fun j => .int (nI (48 + j % 10))) (A := (fun q : Nat => s.heap.size ≤ q)) (by decide) (hg (k := 10) (by decide +kernel)) (va_eqt (hg (k := 11) (w := .eq (.length y_tD1) (.int (Int32.ofNat 100))) (by decide +kernel))) (fun j hj => va_eqt (hg (y_nD1 hj))) hAb
  obtain ⟨t2, ht2, hT2⟩ := va_Tof (args := #[Value.ref b]) (s := s) (tm := y_tD2) (ty := .byte) (N := 100) (f := fun j => .int (nI (48 + j / 10))) (A := (fun q : Nat => s.heap.size ≤ q)) (by decide) (hg (k := 113) (by decide +kernel)) (va_eqt (hg (k := 114) (w := .eq (.length y_tD2) (.int (Int32.ofNat 100))) (by decide +kernel))) (fun j hj => va_eqt (hg (y_nD2 hj))) hAb
  have hF : ∃ fm : Value, va_Z "jdk/internal/util/Preconditions" "SIOOBE_FORMATTER" "Ljava/util/function/BiFunction;" fm (fun q : Nat => s.heap.size ≤ q) s s.heap ∧ (fm = .null ∨ ∃ a, fm = .ref a) := by
    rcases va_Zqof (hts0 _ (z_at_mem (pos := 658) (by decide +kernel))) (hts0 _ (z_at_mem (pos := 35) (by decide +kernel))) (hg (k := 5) (w := .isRef (.static "jdk/internal/util/Preconditions" "SIOOBE_FORMATTER" "Ljava/util/function/BiFunction;")) (by decide +kernel)) hAb with h | ⟨t, h⟩
    · exact ⟨_, h, Or.inl rfl⟩
    · exact ⟨_, h, Or.inr ⟨t, rfl⟩⟩
  obtain ⟨fm, hF1, hF2⟩ := hF
  obtain ⟨scr, x1, x2, x3, x4, x5⟩ := hX
  have hOV : (Cond.arrayOver (.array .int)).before #[Value.ref b] s = true := (hts0 _ (z_at_mem (pos := 926) (by decide +kernel)))
  refine ⟨y_adr adK adV t1 t2 b, fm, rfl, (va_Zof (hts0 _ (z_at_mem (pos := 642) (by decide +kernel))) (hts0 _ (z_at_mem (pos := 32) (by decide +kernel))) (va_eqt (hg (k := 4) (w := .eq (.static "java/lang/String" "COMPACT_STRINGS" "Z") (.int 1)) (by decide +kernel))) hAb), hF1, ⟨(va_Zof (hts0 _ (z_at_mem (pos := 833) (by decide +kernel))) (hts0 _ (z_at_mem (pos := 29) (by decide +kernel))) ht1 hAb), hT1⟩, ⟨(va_Zof (hts0 _ (z_at_mem (pos := 835) (by decide +kernel))) (hts0 _ (z_at_mem (pos := 29) (by decide +kernel))) ht2 hAb), hT2⟩, y_adr_S hS (fun i hi => if_pos hi) (fun i hi => ?_), fun i hi => ?_, hF2, ⟨scr, x1, x2, x3, Nat.le_of_eq x4.symm, congrArg Nat.toInt32 x4, x5, hAb _ hbl⟩, hL, fun a => hOV⟩
  · show (if i + 20 < 13 then adK (i + 20) else if i + 20 < 33 then adV (i + 20 - 20) else _) = adV i
    rw [if_neg (by omega), if_pos (by omega), Nat.add_sub_cancel]
  · show vk_R "BallotWaysLaw" (y_ix.getD i 0) (y_tx.getD i "") (if i < 13 then adK i else _) s
    rw [if_pos hi]
    exact vk_R.of (hts0 _ (y_sr hi)) (hK i hi)
/-! THE CLAIM OUT OF ONE WALK OF THE LAW'S BODY. Your part is whole_start (and what it stands on); all else here is the same for every law, but numbers. -/
def R_law : String := "BallotWaysLaw"
def lw_P (b : Addr) (xs : List Int32) (args : Array Value) (s : State) : Prop := args = #[.ref b] ∧ s.IntsAt b xs ∧ xs.length ≤ 260 ∧ (Jvm.Cond.and given_1 narrow_1).before args s = true
def lw_Q (_ : Array Value) (s : State) (o : Outcome) (t : State) : Prop := o = .returned (some (.int 1)) ∧ Framed s o t [] 858236 6527540
def lw_Z (below : List Frame) (a : Array Value) (s : State) : State → Prop := fun t => ∃ o, t.status = .running ∧ Ended t below o ∧ lw_Q a s o t
/-- the law's own end, with 1 on the stack, nothing written that was there before, its room as the claim has it -/
theorem lw_ret {p : Program} {l : Launch} {e : Env} {s : State} {m : MethodId} {below : List Frame} {meth : Method} {c : Code} {b : Nat} (hx : p.tables.exec = Jvm.exec) (hb : c.code = code) (hr : meth.sig.returnType = ret) (hlocks : meth.locks = false) {pc : Nat} {H : Heap} {ls : Array Slot} (hdg : decode code pc = .ok (.ireturn, 1)) : W p l e room_1 s m #[Value.ref b] below meth c H [] 858236 6527540 (lw_Z below #[Value.ref b] s) (F0 m pc ls [.int 1]) := by
  intro T hT X
  obtain ⟨fs, hret, hrun, hended, hW, hframe⟩ := X.leave (v := some (.int 1)) (hlocks := hlocks) (fun h => by rw [hr] at h; cases h)
  have hmeth' : T.vm.method? m = some meth := X.method'
  refine ⟨T.setFrames fs, ?_, .returned (some (.int 1)), hrun, hended, rfl, ⟨_, rfl⟩, hW, hframe⟩
  jvm_step X.here [X.here.top, hx, hb, hdg, hmeth', hr, ret, narrow_b1]
  (try refine ⟨rfl, ?_⟩); (try refine ⟨rfl, ?_⟩)
  first | (intro acts; rw [hret _ acts rfl rfl rfl]) | rw [hret _ _ rfl rfl rfl]
  exact Steps.refl _
/-- what holds at the law's entry: the machine, the code, the tables' words (any of lw_tbl by 'hts w (by decide +kernel)'), the script of L ints xs at the cell b, what the Statement gives of the start (any of its parts by flat_of_before) -/
def lw_At (p : Program) (s : State) (m : MethodId) (meth : Method) (c : Code) (b L : Nat) (xs : Nat → Int32) : Prop :=
  p.tables.exec = Jvm.exec ∧ c.code = code ∧ meth.sig.returnType = ret ∧ c.maxLocals = 21 ∧ s.vm.findClass R_law = some m.cls ∧ (∀ w ∈ lw_tbl, w.before #[Value.ref b] s = true) ∧ va_X b L xs s s.heap ∧ b < s.heap.size ∧ meth.locks = false ∧ (Jvm.Cond.and given_1 narrow_1).before #[Value.ref b] s = true
theorem dL_law_2109 : decode code 2109 = .ok (.ireturn, 1) := by decide +kernel
set_option maxHeartbeats 4000000 in
set_option maxRecDepth 100000 in
theorem whole_start {p : Program} {e : Env} {s : State} {m : MethodId} {below : List Frame} {meth : Method} {c : Code} (l : Launch) (hflags : l.flags = flags0) {b L : Nat} {xs : Nat → Int32} (hL : L ≤ 260) (C0 : lw_At p s m meth c b L xs) : W p l e room_1 s m #[Value.ref b] below meth c s.heap [] 0 0 (lw_Z below #[Value.ref b] s) (entryFrame m ([Value.ref b] : List Value).toArray 21) := by
  obtain ⟨hx, hb, hr, hml, hown, hts0, hX, hbl, hlocks, hgv⟩ := id C0
  have hts : ∀ w ∈ z_AW, w.before #[Value.ref b] s = true := y_hts hts0
  have hN : z_N s := z_N_of (Ts := []) hts0
  obtain ⟨c0, iS0, hKn0⟩ := u_known (C := RX0) (T := TX0) (N := 2) (n := 2) hts (z_fields (ci := 0) rfl) (hts (.instantiable RX0 2) (z_t1 (i := 146) rfl rfl))
  obtain ⟨c1, iS1, hKn1⟩ := u_known (C := RX1) (T := TX1) (N := 2) (n := 2) hts (z_fields (ci := 1) rfl) (hts (.instantiable RX1 2) (z_t1 (i := 160) rfl rfl))
  obtain ⟨c2, iS2, hKn2⟩ := u_known (C := RX2) (T := TX2) (N := 8) (n := 8) hts (z_fields (ci := 2) rfl) (hts (.instantiable RX2 8) (z_t1 (i := 28) rfl rfl))
  obtain ⟨c3, iS3, hKn3⟩ := u_known (C := RX3) (T := TX3) (N := 5) (n := 5) hts (z_fields (ci := 3) rfl) (hts (.instantiable RX3 5) (z_t1 (i := 120) rfl rfl))
  obtain ⟨c4, iS4, hKn4⟩ := u_known (C := RX4) (T := TX4) (N := 11) (n := 11) hts (z_fields (ci := 4) rfl) (hts (.instantiable RX4 11) (z_t1 (i := 79) rfl rfl))
  obtain ⟨c5, iS5, hKn5⟩ := u_known (C := RX5) (T := TX5) (N := 8) (n := 8) hts (z_fields (ci := 5) rfl) (hts (.instantiable RX5 8) (z_t1 (i := 20) rfl rfl))
  obtain ⟨c6, iS6, hKn6⟩ := u_known (C := RJ0) (T := TJ0) (N := 4) (n := 4) hts (z_fields (ci := 6) rfl) (hts (.instantiable RJ0 4) (z_t4 (i := 111) rfl rfl))
  obtain ⟨c7, iS7, hKn7⟩ := u_known (C := RJ4) (T := TJ4) (N := 4) (n := 4) hts (z_fields (ci := 7) rfl) (hts (.instantiable RJ4 4) (z_t3 (i := 194) rfl rfl))
  obtain ⟨dC, dI, hKc⟩ : ∃ (dC : Nat → ClassId) (dI : Nat → Nat → Nat), ∀ (k : Nat) (q : vw_C), z_cl[k]? = some q → u_Kn s q.1 q.2.1 q.2.2 (dC k) (dI k) := by
    refine ⟨fun k => if k = 0 then c0 else if k = 1 then c1 else if k = 2 then c2 else if k = 3 then c3 else if k = 4 then c4 else if k = 5 then c5 else if k = 6 then c6 else c7, fun k => if k = 0 then iS0 else if k = 1 then iS1 else if k = 2 then iS2 else if k = 3 then iS3 else if k = 4 then iS4 else if k = 5 then iS5 else if k = 6 then iS6 else iS7, ?_⟩
    intro k q hq
    match k, hq with
    | 0, hq => cases hq; exact hKn0
    | 1, hq => cases hq; exact hKn1
    | 2, hq => cases hq; exact hKn2
    | 3, hq => cases hq; exact hKn3
    | 4, hq => cases hq; exact hKn4
    | 5, hq => cases hq; exact hKn5
    | 6, hq => cases hq; exact hKn6
    | 7, hq => cases hq; exact hKn7
    | k + 8, hq => simp [z_cl] at hq
  obtain ⟨cA, hK⟩ := zl_tys (D := (dC, dI)) hts hKc (z_t1 (i := 77) rfl rfl) (z_t1 (i := 118) rfl rfl) (z_t3 (i := 223) rfl rfl) (hts0 _ (z_at_mem (pos := 926) (by decide +kernel)))
  obtain ⟨ad, fm, had, hE⟩ := y_E_start (l := l) (D := (dC, dI)) (cA := cA) hts0 hgv hX hbl hL
  obtain ⟨κ, hκ⟩ : ∃ κ : y_K, κ = (p, e, room_1, s, m, #[Value.ref b], below, meth, c, lw_Z below #[Value.ref b] s, (fun q : Nat => s.heap.size ≤ q)) := ⟨_, rfl⟩
  obtain ⟨ε, hε⟩ : ∃ ε : y_Ev, ε = (l, (dC, dI), cA, ad, fm, L, xs) := ⟨_, rfl⟩
  have hC : y_ok ε κ zmL_law 14 562 858236 6527540 := by
    subst hε hκ
    exact ⟨hx, hb, hml, hts, hown, hK, hN, hE, fun _ h => h, rfl, z_dec_of zkL_law⟩
  have kend : law_end ε κ := by
    subst hε hκ
    intro nc ns ws lv h1 h2
    refine y_inW (fun H locs ls hl hP hD hS => ?_)
    refine W.widen (k := 858236) (n := 6527540) h1 h2 ?_
    refine va_forget (fun q hq => hS.2.2 q hq) ?_
    exact lw_ret hx hb hr hlocks dL_law_2109
  have k1967 := law_p1967 hC kend
  have k1850 := law_p1850 hC k1967
  have k1767 := law_p1767 hC k1850
  have k1668 := law_p1668 hC k1767
  have k1598 := law_p1598 hC k1668
  have k1495 := law_p1495 hC k1598
  have k1372 := law_p1372 hC k1495
  have k1278 := law_p1278 hC k1372
  have k1045 := law_p1045 hC k1278
  have k977 := law_p977 hC k1045
  have k897 := law_p897 hC k977
  have k833 := law_p833 hC k897
  have k768 := law_p768 hC k833
  have k691 := law_p691 hC k768
  have k592 := law_p592 hC k691
  have k493 := law_p493 hC k592
  have k440 := law_p440 hC k493
  have k145 := law_p145 hC k440
  have k0 := law_p0 hC k145
  have hS : va_S (fun q : Nat => s.heap.size ≤ q) s.heap s.heap [] := va_S.rf
  have hP : va_P (dC, dI) z_cl [] s.heap := fun k q h => by simp at h
  have hD : va_D (fun q : Nat => s.heap.size ≤ q) [] := ⟨fun i j p q h => by simp at h, fun k q h => by simp at h⟩
  have hl := lv_entry ([.ref b]) (n := 21) (Nat.le_of_ble_eq_true rfl)
  rw [lg_entry_eq]
  generalize (lg_sl ([.ref b]) ++ List.replicate (21 - (lg_sl ([.ref b])).length) Slot.unset).toArray = ls at hl ⊢
  have hl : lv_has ls 21 [(0, .ref b)] := hl
  have k0 : y_G ε κ zmL_law 0 0 ([] : va_W) (0, [(0, .ref (y_a ε 42))], [], []) := k0
  rw [show y_a ε 42 = b by rw [hε]; exact had] at k0
  subst hε hκ
  exact y_outW k0 hl hP hD hS
-- ===== YOUR PART ENDS =====
set_option maxHeartbeats 4000000 in
theorem lw_walk (l : Launch) (hflags : l.flags = flags0) (b : Addr) (xs : List Int32) : MetFree l x (headSpec (Jvm.Cond.code x code maxLocals ret :: tables_1) room_1) (lw_P b xs) (fun _ _ _ _ _ => True) lw_Q := by
  refine MetFree.of_bodyS (code := code) (maxLocals := maxLocals) (ret := ret) (by decide) ?_ ?_
  · intro args s m h hn
    obtain ⟨meth, c, h1, h2, h3, h4, h5, h6, -, -⟩ := Cond.code_spec hn (atoms_spec (ws := Jvm.Cond.code x code maxLocals ret :: tables_1) h _ List.mem_cons_self)
    exact ⟨meth, c, h1, h2, h3, h4, h5, h6⟩
  · intro p e s m args below meth c s₁ B hml0 hP _
    obtain ⟨rfl, hx, hbd, hgv⟩ := hP
    obtain ⟨scr, harrAt, hlist, hof, hsmall⟩ := hx
    obtain ⟨hcb, hkn, -, -⟩ := State.arrayAt?_spec harrAt
    have hown : s.vm.findClass R_law = some m.cls := findClass_of_methodNamed B.named
    have hts0 : ∀ c ∈ (Jvm.Cond.code x code maxLocals ret :: tables_1), c.before #[Value.ref b] s = true := atoms_spec (ws := Jvm.Cond.code x code maxLocals ret :: tables_1) B.pre
    have hts : ∀ w ∈ lw_tbl, w.before #[Value.ref b] s = true := k2_hts_sels lw_privs (fun w hw => hts0 w (List.mem_cons_of_mem _ hw)) lw_privs_ok
    have hml : c.maxLocals = 21 := B.maxLocals_eq (hts0 _ List.mem_cons_self)
    have X₀ : Stand p l e room_1 s m #[Value.ref b] below meth c s₁ [] 0 0 := Stand.of_body B
    have hh0 : s₁.heap = s.heap := by rw [B.state]; rfl
    have hsz : scr.slots.size = xs.length := by rw [← Array.length_toList, hlist, List.length_map]
    have hval : ∀ j : Nat, j < xs.length → scr.slots[j]? = some (.int (xs.getD j 0)) := fun j hj => by
      rw [← Array.getElem?_toList, hlist]
      simp [hj]
    have hbl : b < s.heap.size := (Array.getElem?_eq_some_iff.mp hcb).1
    have hX : va_X b xs.length (fun j => xs.getD j 0) s s.heap := ⟨scr, hcb, hof, hkn, hsz, hval⟩
    have K : W p l e room_1 s m #[Value.ref b] below meth c s₁.heap [] 0 0 (lw_Z below #[Value.ref b] s) (entryFrame m ([Value.ref b] : List Value).toArray 21) := by
      rw [hh0]
      exact whole_start l hflags hbd ⟨B.exec, B.bytes, B.returns, hml, hown, hts, hX, hbl, B.notSynchronized, hgv⟩
    obtain ⟨t, a1, o, b1, b2, b3⟩ := K s₁ rfl X₀
    exact ⟨t, o, a1, b1, b2, b3⟩
theorem lw_pre_spec {args : Array Value} {s : State} (h : (Jvm.Cond.and given_1 narrow_1).before args s = true) (hr : rest_1_c.before args s = true) : ∃ (b : Addr) (xs : List Int32), lw_P b xs args s := by
  have hs := flat_of_before _ h
  have hq := flat_of_before _ hr
  have hc : (Cond.count 1).before args s = true := hs _ (by decide +kernel)
  have harr : (Cond.arrayOf (.arg 0) .int).before args s = true := hs _ (by decide +kernel)
  have hle : (Cond.le (.length (.arg 0)) (.int 260)).before args s = true := hs _ (by decide +kernel)
  have hlen : (Cond.isInt (.length (.arg 0))).before args s = true := hq _ (by decide +kernel)
  have hall : (Cond.all (.arg 0) (.isInt (.elem (.arg 0) (.index 0)))).before args s = true := hq _ (by decide +kernel)
  obtain ⟨b, xs, hb, hx⟩ := State.ints_of_pre rfl harr hlen hall
  have hsm : xs.length < 2 ^ 31 := hx.choose_spec.2.2.2
  have hev : (Term.length (.arg 0)).eval args s none [] s = some (.int xs.length.toInt32) := hx.length_eval hb
  have hv := Cond.le_ints hev (show (Term.int 260).eval args s none [] s = some (.int 260) from rfl)
  have hd : xs.length.toInt32 ≤ 260 := by
    simpa [Cond.before, Cond.holds, hv] using hle
  have hN : xs.length ≤ 260 := (Int32.ofNat_le_ofNat hsm (by decide)).mp (show Int32.ofNat xs.length ≤ Int32.ofNat 260 from hd)
  exact ⟨b, xs, Cond.one_arg hc (show args[0]? = some (.ref b) from hb), hx, hN, h⟩
theorem lw_comes (l : Launch) (hflags : l.flags = flags0) : Comes l x (Jvm.Cond.code x code maxLocals ret :: tables_1) room_1 (fun tb e args s => Calls_1 tb e args s ∧ rest_1 tb e args s ∧ Pre_1 tb e args s)
    (fun _ _ args s o t => lw_Q args s o t) := by
  intro p e ha hc hk s m args below hf hfit hheap happ hpre
  obtain ⟨b, xs, hP⟩ := lw_pre_spec hpre.2.2 hpre.2.1
  obtain ⟨k, o, h1, h2, h3, hQ⟩ := lw_walk l hflags b xs p e ha hc hk s m args below hf ((Spec.applies_iff_loose hf).mp happ).1 hP trivial
  exact ⟨k, o, h1, h2, h3, hQ⟩
theorem lw_frame {s t : State} {o : Outcome} {args : Array Value} (h : Framed s o t [] 858236 6527540) :
    Framed s o t (fieldLocs frame_1_writes args s ++ arrayLocs frame_1_arrays args s ++ staticLocs frame_1_statics s) 858236 6527540 := h
theorem lw_limb (L : Cond) (hL : ∀ (args : Array Value) (s t : State), L.after args s (.returned (some (.int 1))) t = true) :
    ArmFor flags0 classFile x code maxLocals ret World_1 tables_1 room_1 Calls_1 rest_1 Pre_1
      (fun tb e a s o t => postC L tb e a s o t ∧ Framed s o t (fieldLocs frame_1_writes a s ++ arrayLocs frame_1_arrays a s ++ staticLocs frame_1_statics s) 858236 6527540) := by
  intro l hflags _ _ p e ha hc hk s m args below hf hfit hheap happ hpre
  obtain ⟨k, o, h1, h2, h3, rfl, hF⟩ := lw_comes l hflags p e ha hc hk s m args below hf hfit hheap happ hpre
  exact ⟨k, _, h1, h2, h3, hL args s _, lw_frame hF⟩
theorem i_vc : Claimed_1_1 ∧ Claimed_1_2 := ⟨lw_limb limb_1_1 (fun args s t => by simp [limb_1_1, Cond.after, Cond.holds, Cond.value]), lw_limb limb_1_2 (fun args s t => Cond.after_iff.mpr (by
  first | (rw [show limb_1_2 = Cond.eq .result (.int 1) from rfl, Cond.eq_ints (x := 1) (y := 1) rfl rfl]; simp; done) | (simp [limb_1_2, Cond.value, Term.eval]; done)))⟩
