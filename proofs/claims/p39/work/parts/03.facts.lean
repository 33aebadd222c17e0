/-! what the tables say, checked -/
def z_c : Int → Int32
  | .ofNat n => nI n
  | .negSucc n => -nI (n + 1)
def z_cL : Int → Int64
  | .ofNat n => lN n
  | .negSucc n => -lN (n + 1)
def z_len : Instr → Nat
  | .bipush _ | .iload _ | .lload _ | .aload _ | .istore _ | .lstore _ | .astore _ | .ldc _ | .newarray _ => 2
  | .sipush _ | .ldc_w _ | .ldc2_w _ | .iinc _ _ | .goto _ | .ifCond _ _ | .if_icmp _ _ | .getfield _ | .putfield _ | .invokevirtual _ | .invokestatic _ | .invokespecial _ | .new _ => 3
  | _ => 1
def z_cok : Instr → Bool
  | .iconst k => decide (Int32.ofInt k = z_c k)
  | .bipush k => decide ((Int8.ofInt k).toInt32 = z_c k)
  | .sipush k => decide ((Int16.ofInt k).toInt32 = z_c k)
  | .iinc _ k => decide (Int32.ofInt k = z_c k)
  | _ => true
def z_lenok : Instr → Nat → Bool
  | .tableswitch _ _ _ _, _ => true
  | i, n => Nat.beq n (z_len i)
def z_F (q : z_M) (pc : Nat) : Option Instr := bif Nat.ble (pc + 1) q.2.2.2.2.2.1 then q.2.2.2.2.2.2 pc else none
def z_dok (l : List UInt8) (cc : ByteArray) (pc : Nat) (i : Instr) : Bool := match zq_d l with
  | some (j, n) => decide (j = i) && (z_lenok i n && z_cok i)
  | none => match decode cc pc with
    | .ok (j, n) => decide (j = i) && (z_lenok i n && z_cok i)
    | .error _ => false
def z_scan (q : z_M) : List UInt8 → Nat → Bool
  | [], pc => Nat.ble q.2.2.2.2.2.1 pc
  | b :: t, pc => (match z_F q pc with
    | none => true
    | some i => z_dok (b :: t) q.2.1 pc i) && z_scan q t (pc + 1)
theorem z_scan_ok {q : z_M} : ∀ (l : List UInt8) (p : Nat), z_scan q l p = true → l = q.2.1.data.toList.drop p → ∀ (pc : Nat) (i : Instr), p ≤ pc → pc < q.2.2.2.2.2.1 → z_F q pc = some i → z_dok (q.2.1.data.toList.drop pc) q.2.1 pc i = true
  | [], p, h, _, pc, i, h1, h2, _ => by
    have := Nat.le_of_ble_eq_true h
    exact absurd h2 (by omega)
  | b :: t, p, h, e, pc, i, h1, h2, hi => by
    have h' : ((match z_F q p with
      | none => true
      | some i => z_dok (b :: t) q.2.1 p i) && z_scan q t (p + 1)) = true := h
    rw [Bool.and_eq_true] at h'
    rcases (by omega : p = pc ∨ p + 1 ≤ pc) with rfl | h3
    · have h4 := h'.1
      rw [hi] at h4
      rw [← e]
      exact h4
    · refine z_scan_ok t (p + 1) h'.2 ?_ pc i h3 h2 hi
      rw [← List.tail_drop, ← e]
      rfl
theorem z_m1 {i : Nat} {w : Cond} (h : tables_1_1[i]? = some w) : w ∈ tables_1 := show w ∈ tables_1_1 ++ (tables_1_2 ++ (tables_1_3 ++ (tables_1_4 ++ (tables_1_5 ++ tables_1_6)))) from List.mem_append_left _ (List.mem_of_getElem? h)
theorem z_m2 {i : Nat} {w : Cond} (h : tables_1_2[i]? = some w) : w ∈ tables_1 := show w ∈ tables_1_1 ++ (tables_1_2 ++ (tables_1_3 ++ (tables_1_4 ++ (tables_1_5 ++ tables_1_6)))) from List.mem_append_right _ (List.mem_append_left _ (List.mem_of_getElem? h))
theorem z_m3 {i : Nat} {w : Cond} (h : tables_1_3[i]? = some w) : w ∈ tables_1 := show w ∈ tables_1_1 ++ (tables_1_2 ++ (tables_1_3 ++ (tables_1_4 ++ (tables_1_5 ++ tables_1_6)))) from List.mem_append_right _ (List.mem_append_right _ (List.mem_append_left _ (List.mem_of_getElem? h)))
theorem z_m4 {i : Nat} {w : Cond} (h : tables_1_4[i]? = some w) : w ∈ tables_1 := show w ∈ tables_1_1 ++ (tables_1_2 ++ (tables_1_3 ++ (tables_1_4 ++ (tables_1_5 ++ tables_1_6)))) from List.mem_append_right _ (List.mem_append_right _ (List.mem_append_right _ (List.mem_append_left _ (List.mem_of_getElem? h))))
theorem z_m5 {i : Nat} {w : Cond} (h : tables_1_5[i]? = some w) : w ∈ tables_1 := show w ∈ tables_1_1 ++ (tables_1_2 ++ (tables_1_3 ++ (tables_1_4 ++ (tables_1_5 ++ tables_1_6)))) from List.mem_append_right _ (List.mem_append_right _ (List.mem_append_right _ (List.mem_append_right _ (List.mem_append_left _ (List.mem_of_getElem? h)))))
theorem z_m6 {i : Nat} {w : Cond} (h : tables_1_6[i]? = some w) : w ∈ tables_1 := show w ∈ tables_1_1 ++ (tables_1_2 ++ (tables_1_3 ++ (tables_1_4 ++ (tables_1_5 ++ tables_1_6)))) from List.mem_append_right _ (List.mem_append_right _ (List.mem_append_right _ (List.mem_append_right _ (List.mem_append_right _ (List.mem_of_getElem? h)))))
def z_at2 : Nat → Nat → Option Cond
  | 0, i => tables_1_1[i]?
  | 1, i => tables_1_2[i]?
  | 2, i => tables_1_3[i]?
  | 3, i => tables_1_4[i]?
  | 4, i => tables_1_5[i]?
  | 5, i => tables_1_6[i]?
  | _, _ => none
def z_at (pos : Nat) : Option Cond := bif Nat.ble 86 pos then z_at2 ((pos - 86) / 240) ((pos - 86) % 240) else (k2_sels lw_privs)[pos]?
theorem z_at2_mem : ∀ {k i : Nat} {w : Cond}, z_at2 k i = some w → w ∈ tables_1
  | 0, _, _, h => z_m1 h
  | 1, _, _, h => z_m2 h
  | 2, _, _, h => z_m3 h
  | 3, _, _, h => z_m4 h
  | 4, _, _, h => z_m5 h
  | 5, _, _, h => z_m6 h
  | k + 6, i, w, h => by
    have h2 : (none : Option Cond) = some w := h
    cases h2
theorem z_at_mem {pos : Nat} {w : Cond} (h : z_at pos = some w) : w ∈ lw_tbl := by
  unfold z_at at h
  cases hb : Nat.ble 86 pos with
  | true => rw [hb, cond_true] at h; exact List.mem_append_right _ (z_at2_mem h)
  | false => rw [hb, cond_false] at h; exact List.mem_append_left _ (List.mem_of_getElem? h)
def z_word (pos : Nat) (w : Cond) : Bool := decide (z_at pos = some w) && goodWord w
def z_isN : Cond → Bool
  | .fieldLinkNest _ _ _ _ _ _ | .methodLinkNest _ _ _ _ => true
  | _ => false
def z_wordN (pos : Nat) (w : Cond) : Bool := decide (z_at pos = some w) && z_isN w
def z_cw (q : z_M) : Cond := Cond.code q.1 q.2.1 q.2.2.1 q.2.2.2.1
def z_mok (q : z_M) : Bool :=
  goodWord (z_cw q) && (plainFor q.1 && (Nat.ble q.2.2.1 45 && (decide (q.1.cls = z_own q.2.2.2.2.1) && (decide (q.1.cls ≠ "java/lang/invoke/MethodHandle") && (decide (q.1.cls ≠ "java/lang/invoke/VarHandle") &&
  z_scan q q.2.1.data.toList 0)))))
def z_np (q : z_M) (n : Nat) : Bool := decide ((parseMethodDescriptor q.1.desc).map (fun d => d.parameters.length) = some n)
def z_tc : Nat → String → Bool
  | 0, d => decide (d = "I")
  | 1, d => decide (d = "J")
  | 2, d => decide (d = "Z")
  | _, _ => true
def z_lgood (own i : Nat) (e : z_K) (ps : Option (List Nat)) : Bool := match ps with
  | none => false
  | some ps => match e with
    | (0, ci, k, tc, _) => match z_cl[ci]? with
      | some (_, T, N) => Nat.ble (k + 1) N && (z_word (ps.getD 0 0) (.fieldLink (z_own own) i (T k).1 (T k).2.1 (T k).2.2.1) && (z_tc tc (T k).2.2.1 && (Nat.ble 3 tc || !(T k).2.2.2)))
      | none => false
    | (1, ci, k, tc, _) => match z_cl[ci]? with
      | some (_, T, N) => Nat.ble (k + 1) N && (z_wordN (ps.getD 0 0) (.fieldLinkNest (z_own own) i (T k).1 (T k).2.1 (T k).2.2.1 RX5) && (z_tc tc (T k).2.2.1 && (Nat.ble 3 tc || !(T k).2.2.2)))
      | none => false
    | (2, y, n, ci, _) => match z_mt[y]?, z_cl[ci]? with
      | some q, some (C, _, _) => decide (q.1.cls = C) && (z_np q n && (z_word (ps.getD 0 0) (.methodLink (z_own own) i q.1) && (z_word (ps.getD 1 0) (.instanceMethod q.1) && (z_word (ps.getD 2 0) (.selects C q.1 q.1) && z_word (ps.getD 3 0) (.initialized C)))))
      | _, _ => false
    | (3, y, n, _, _) => match z_mt[y]? with
      | some q => z_np q n && (z_word (ps.getD 0 0) (.methodLink (z_own own) i q.1) && (z_word (ps.getD 1 0) (.static q.1) && z_word (ps.getD 2 0) (.initialized q.1.cls)))
      | none => false
    | (4, y, n, _, _) => match z_mt[y]? with
      | some q => z_np q n && (z_wordN (ps.getD 0 0) (.methodLinkNest (z_own own) i q.1 RX5) && (z_word (ps.getD 1 0) (.static q.1) && z_word (ps.getD 2 0) (.initialized q.1.cls)))
      | none => false
    | (5, _, _, _, v) => z_word (ps.getD 0 0) (.constant (z_own own) i (z_c v))
    | (6, _, _, _, v) => z_word (ps.getD 0 0) (.constantLong (z_own own) i (z_cL v))
    | (7, _, _, _, _) => z_word (ps.getD 0 0) (.methodLink (z_own own) i arraycopyName) && (z_word (ps.getD 1 0) (.native arraycopyName) && (z_word (ps.getD 2 0) (.static arraycopyName) && z_word (ps.getD 3 0) (.initialized "java/lang/System")))
    | _ => false
def z_lok (own i : Nat) : Bool := match z_lk own i with
  | none => true
  | some e => z_lgood own i e (z_lp own i)
set_option maxRecDepth 1000000 in
theorem zwX0_has : z_cw zmX0_has ∈ tables_1 := z_m3 (i := 195) rfl
theorem zkX0_has : z_mok zmX0_has = true := by decide +kernel
set_option maxRecDepth 1000000 in
theorem zwX0_holds : z_cw zmX0_holds ∈ tables_1 := z_m3 (i := 199) rfl
theorem zkX0_holds : z_mok zmX0_holds = true := by decide +kernel
set_option maxRecDepth 1000000 in
theorem zwX0_start : z_cw zmX0_start ∈ tables_1 := z_m4 (i := 24) rfl
theorem zkX0_start : z_mok zmX0_start = true := by decide +kernel
set_option maxRecDepth 1000000 in
theorem zwX0_reaches : z_cw zmX0_reaches ∈ tables_1 := z_m3 (i := 208) rfl
theorem zkX0_reaches : z_mok zmX0_reaches = true := by decide +kernel
set_option maxRecDepth 1000000 in
theorem zwX0_read : z_cw zmX0_read ∈ tables_1 := z_m3 (i := 222) rfl
theorem zkX0_read : z_mok zmX0_read = true := by decide +kernel
set_option maxRecDepth 1000000 in
theorem zwX0_lay : z_cw zmX0_lay ∈ tables_1 := z_m3 (i := 204) rfl
theorem zkX0_lay : z_mok zmX0_lay = true := by decide +kernel
set_option maxRecDepth 1000000 in
theorem zwX1_byteAt : z_cw zmX1_byteAt ∈ tables_1 := z_m2 (i := 169) rfl
theorem zkX1_byteAt : z_mok zmX1_byteAt = true := by decide +kernel
set_option maxRecDepth 1000000 in
theorem zwX1_write : z_cw zmX1_write ∈ tables_1 := z_m2 (i := 151) rfl
theorem zkX1_write : z_mok zmX1_write = true := by decide +kernel
set_option maxRecDepth 1000000 in
theorem zwX1_writeBehind : z_cw zmX1_writeBehind ∈ tables_1 := z_m2 (i := 157) rfl
theorem zkX1_writeBehind : z_mok zmX1_writeBehind = true := by decide +kernel
set_option maxRecDepth 1000000 in
theorem zwX1_writeByte : z_cw zmX1_writeByte ∈ tables_1 := z_m2 (i := 161) rfl
theorem zkX1_writeByte : z_mok zmX1_writeByte = true := by decide +kernel
set_option maxRecDepth 1000000 in
theorem zwX2_start : z_cw zmX2_start ∈ tables_1 := z_m1 (i := 29) rfl
theorem zkX2_start : z_mok zmX2_start = true := by decide +kernel
set_option maxRecDepth 1000000 in
theorem zwX2_become : z_cw zmX2_become ∈ tables_1 := z_m2 (i := 35) rfl
theorem zkX2_become : z_mok zmX2_become = true := by decide +kernel
set_option maxRecDepth 1000000 in
theorem zwX2_has : z_cw zmX2_has ∈ tables_1 := z_m1 (i := 203) rfl
theorem zkX2_has : z_mok zmX2_has = true := by decide +kernel
set_option maxRecDepth 1000000 in
theorem zwX2_hasTwo : z_cw zmX2_hasTwo ∈ tables_1 := z_m2 (i := 177) rfl
theorem zkX2_hasTwo : z_mok zmX2_hasTwo = true := by decide +kernel
set_option maxRecDepth 1000000 in
theorem zwX2_hasBallot : z_cw zmX2_hasBallot ∈ tables_1 := z_m2 (i := 109) rfl
theorem zkX2_hasBallot : z_mok zmX2_hasBallot = true := by decide +kernel
set_option maxRecDepth 1000000 in
theorem zwX2_all : z_cw zmX2_all ∈ tables_1 := z_m1 (i := 211) rfl
theorem zkX2_all : z_mok zmX2_all = true := by decide +kernel
set_option maxRecDepth 1000000 in
theorem zwX2_ins : z_cw zmX2_ins ∈ tables_1 := z_m1 (i := 207) rfl
theorem zkX2_ins : z_mok zmX2_ins = true := by decide +kernel
set_option maxRecDepth 1000000 in
theorem zwX2_isIn : z_cw zmX2_isIn ∈ tables_1 := z_m1 (i := 215) rfl
theorem zkX2_isIn : z_mok zmX2_isIn = true := by decide +kernel
set_option maxRecDepth 1000000 in
theorem zwX2_countOf : z_cw zmX2_countOf ∈ tables_1 := z_m2 (i := 113) rfl
theorem zkX2_countOf : z_mok zmX2_countOf = true := by decide +kernel
set_option maxRecDepth 1000000 in
theorem zwX2_rankingOf : z_cw zmX2_rankingOf ∈ tables_1 := z_m2 (i := 130) rfl
theorem zkX2_rankingOf : z_mok zmX2_rankingOf = true := by decide +kernel
set_option maxRecDepth 1000000 in
theorem zwX2_forOver : z_cw zmX2_forOver ∈ tables_1 := z_m2 (i := 181) rfl
theorem zkX2_forOver : z_mok zmX2_forOver = true := by decide +kernel
set_option maxRecDepth 1000000 in
theorem zwX2_ballotOf : z_cw zmX2_ballotOf ∈ tables_1 := z_m2 (i := 83) rfl
theorem zkX2_ballotOf : z_mok zmX2_ballotOf = true := by decide +kernel
set_option maxRecDepth 1000000 in
theorem zwX2_allCounts : z_cw zmX2_allCounts ∈ tables_1 := z_m4 (i := 8) rfl
theorem zkX2_allCounts : z_mok zmX2_allCounts = true := by decide +kernel
set_option maxRecDepth 1000000 in
theorem zwX2_add : z_cw zmX2_add ∈ tables_1 := z_m2 (i := 79) rfl
theorem zkX2_add : z_mok zmX2_add = true := by decide +kernel
set_option maxRecDepth 1000000 in
theorem zwX2_lessen : z_cw zmX2_lessen ∈ tables_1 := z_m2 (i := 118) rfl
theorem zkX2_lessen : z_mok zmX2_lessen = true := by decide +kernel
set_option maxRecDepth 1000000 in
theorem zwX2_closeUp : z_cw zmX2_closeUp ∈ tables_1 := z_m2 (i := 122) rfl
theorem zkX2_closeUp : z_mok zmX2_closeUp = true := by decide +kernel
set_option maxRecDepth 1000000 in
theorem zwX2_drawByNumbers : z_cw zmX2_drawByNumbers ∈ tables_1 := z_m1 (i := 36) rfl
theorem zkX2_drawByNumbers : z_mok zmX2_drawByNumbers = true := by decide +kernel
set_option maxRecDepth 1000000 in
theorem zwX2_drawnAt : z_cw zmX2_drawnAt ∈ tables_1 := z_m2 (i := 7) rfl
theorem zkX2_drawnAt : z_mok zmX2_drawnAt = true := by decide +kernel
set_option maxRecDepth 1000000 in
theorem zwX2_drawBySeed : z_cw zmX2_drawBySeed ∈ tables_1 := z_m1 (i := 239) rfl
theorem zkX2_drawBySeed : z_mok zmX2_drawBySeed = true := by decide +kernel
set_option maxRecDepth 1000000 in
theorem zwX2_drawFirst : z_cw zmX2_drawFirst ∈ tables_1 := z_m1 (i := 231) rfl
theorem zkX2_drawFirst : z_mok zmX2_drawFirst = true := by decide +kernel
set_option maxRecDepth 1000000 in
theorem zwX2_areClones : z_cw zmX2_areClones ∈ tables_1 := z_m3 (i := 115) rfl
theorem zkX2_areClones : z_mok zmX2_areClones = true := by decide +kernel
set_option maxRecDepth 1000000 in
theorem zwX2_standTogether : z_cw zmX2_standTogether ∈ tables_1 := z_m3 (i := 121) rfl
theorem zkX2_standTogether : z_mok zmX2_standTogether = true := by decide +kernel
set_option maxRecDepth 1000000 in
theorem zwX2_sumOfPlaces : z_cw zmX2_sumOfPlaces ∈ tables_1 := z_m3 (i := 130) rfl
theorem zkX2_sumOfPlaces : z_mok zmX2_sumOfPlaces = true := by decide +kernel
set_option maxRecDepth 1000000 in
theorem zwX2_leadsOf : z_cw zmX2_leadsOf ∈ tables_1 := z_m3 (i := 139) rfl
theorem zkX2_leadsOf : z_mok zmX2_leadsOf = true := by decide +kernel
set_option maxRecDepth 1000000 in
theorem zwX2_manyBehind : z_cw zmX2_manyBehind ∈ tables_1 := z_m3 (i := 134) rfl
theorem zkX2_manyBehind : z_mok zmX2_manyBehind = true := by decide +kernel
set_option maxRecDepth 1000000 in
theorem zwX3_takeByte : z_cw zmX3_takeByte ∈ tables_1 := z_m2 (i := 19) rfl
theorem zkX3_takeByte : z_mok zmX3_takeByte = true := by decide +kernel
set_option maxRecDepth 1000000 in
theorem zwX3_wipe : z_cw zmX3_wipe ∈ tables_1 := z_m2 (i := 27) rfl
theorem zkX3_wipe : z_mok zmX3_wipe = true := by decide +kernel
set_option maxRecDepth 1000000 in
theorem zwX3_rewind : z_cw zmX3_rewind ∈ tables_1 := z_m2 (i := 46) rfl
theorem zkX3_rewind : z_mok zmX3_rewind = true := by decide +kernel
set_option maxRecDepth 1000000 in
theorem zwX3_isRead : z_cw zmX3_isRead ∈ tables_1 := z_m2 (i := 100) rfl
theorem zkX3_isRead : z_mok zmX3_isRead = true := by decide +kernel
set_option maxRecDepth 1000000 in
theorem zwX3_sign : z_cw zmX3_sign ∈ tables_1 := z_m2 (i := 58) rfl
theorem zkX3_sign : z_mok zmX3_sign = true := by decide +kernel
set_option maxRecDepth 1000000 in
theorem zwX3_passes : z_cw zmX3_passes ∈ tables_1 := z_m2 (i := 63) rfl
theorem zkX3_passes : z_mok zmX3_passes = true := by decide +kernel
set_option maxRecDepth 1000000 in
theorem zwX3_figure : z_cw zmX3_figure ∈ tables_1 := z_m2 (i := 54) rfl
theorem zkX3_figure : z_mok zmX3_figure = true := by decide +kernel
set_option maxRecDepth 1000000 in
theorem zwX3_readCount : z_cw zmX3_readCount ∈ tables_1 := z_m2 (i := 50) rfl
theorem zkX3_readCount : z_mok zmX3_readCount = true := by decide +kernel
set_option maxRecDepth 1000000 in
theorem zwX3_readRanking : z_cw zmX3_readRanking ∈ tables_1 := z_m2 (i := 67) rfl
theorem zkX3_readRanking : z_mok zmX3_readRanking = true := by decide +kernel
set_option maxRecDepth 1000000 in
theorem zwX3_placeOthers : z_cw zmX3_placeOthers ∈ tables_1 := z_m2 (i := 75) rfl
theorem zkX3_placeOthers : z_mok zmX3_placeOthers = true := by decide +kernel
set_option maxRecDepth 1000000 in
theorem zwX4_load : z_cw zmX4_load ∈ tables_1 := z_m2 (i := 199) rfl
theorem zkX4_load : z_mok zmX4_load = true := by decide +kernel
set_option maxRecDepth 1000000 in
theorem zwX4_leaveOut : z_cw zmX4_leaveOut ∈ tables_1 := z_m3 (i := 147) rfl
theorem zkX4_leaveOut : z_mok zmX4_leaveOut = true := by decide +kernel
set_option maxRecDepth 1000000 in
theorem zwX4_count : z_cw zmX4_count ∈ tables_1 := z_m3 (i := 161) rfl
theorem zkX4_count : z_mok zmX4_count = true := by decide +kernel
set_option maxRecDepth 1000000 in
theorem zwX4_goBy : z_cw zmX4_goBy ∈ tables_1 := z_m3 (i := 183) rfl
theorem zkX4_goBy : z_mok zmX4_goBy = true := by decide +kernel
set_option maxRecDepth 1000000 in
theorem zwX4_reckon : z_cw zmX4_reckon ∈ tables_1 := z_m2 (i := 206) rfl
theorem zkX4_reckon : z_mok zmX4_reckon = true := by decide +kernel
set_option maxRecDepth 1000000 in
theorem zwX4_goThrough : z_cw zmX4_goThrough ∈ tables_1 := z_m2 (i := 221) rfl
theorem zkX4_goThrough : z_mok zmX4_goThrough = true := by decide +kernel
set_option maxRecDepth 1000000 in
theorem zwX4_beatersOf : z_cw zmX4_beatersOf ∈ tables_1 := z_m2 (i := 228) rfl
theorem zkX4_beatersOf : z_mok zmX4_beatersOf = true := by decide +kernel
set_option maxRecDepth 1000000 in
theorem zwX4_linkBetween : z_cw zmX4_linkBetween ∈ tables_1 := z_m2 (i := 210) rfl
theorem zkX4_linkBetween : z_mok zmX4_linkBetween = true := by decide +kernel
set_option maxRecDepth 1000000 in
theorem zwX4_ratioStrength : z_cw zmX4_ratioStrength ∈ tables_1 := z_m2 (i := 215) rfl
theorem zkX4_ratioStrength : z_mok zmX4_ratioStrength = true := by decide +kernel
set_option maxRecDepth 1000000 in
theorem zwX4_knows : z_cw zmX4_knows ∈ tables_1 := z_m3 (i := 0) rfl
theorem zkX4_knows : z_mok zmX4_knows = true := by decide +kernel
set_option maxRecDepth 1000000 in
theorem zwX4_linkStrength : z_cw zmX4_linkStrength ∈ tables_1 := z_m3 (i := 35) rfl
theorem zkX4_linkStrength : z_mok zmX4_linkStrength = true := by decide +kernel
set_option maxRecDepth 1000000 in
theorem zwX4_bestStrength : z_cw zmX4_bestStrength ∈ tables_1 := z_m2 (i := 236) rfl
theorem zkX4_bestStrength : z_mok zmX4_bestStrength = true := by decide +kernel
set_option maxRecDepth 1000000 in
theorem zwX4_isOver : z_cw zmX4_isOver ∈ tables_1 := z_m3 (i := 55) rfl
theorem zkX4_isOver : z_mok zmX4_isOver = true := by decide +kernel
set_option maxRecDepth 1000000 in
theorem zwX4_cellAsStrongAs : z_cw zmX4_cellAsStrongAs ∈ tables_1 := z_m2 (i := 232) rfl
theorem zkX4_cellAsStrongAs : z_mok zmX4_cellAsStrongAs = true := by decide +kernel
set_option maxRecDepth 1000000 in
theorem zwX4_strengthTold : z_cw zmX4_strengthTold ∈ tables_1 := z_m3 (i := 4) rfl
theorem zkX4_strengthTold : z_mok zmX4_strengthTold = true := by decide +kernel
set_option maxRecDepth 1000000 in
theorem zwX4_commonDivisor : z_cw zmX4_commonDivisor ∈ tables_1 := z_m3 (i := 14) rfl
theorem zkX4_commonDivisor : z_mok zmX4_commonDivisor = true := by decide +kernel
set_option maxRecDepth 1000000 in
theorem zwX4_walk : z_cw zmX4_walk ∈ tables_1 := z_m3 (i := 23) rfl
theorem zkX4_walk : z_mok zmX4_walk = true := by decide +kernel
set_option maxRecDepth 1000000 in
theorem zwX4_tellDistances : z_cw zmX4_tellDistances ∈ tables_1 := z_m3 (i := 27) rfl
theorem zkX4_tellDistances : z_mok zmX4_tellDistances = true := by decide +kernel
set_option maxRecDepth 1000000 in
theorem zwX4_nextStep : z_cw zmX4_nextStep ∈ tables_1 := z_m3 (i := 31) rfl
theorem zkX4_nextStep : z_mok zmX4_nextStep = true := by decide +kernel
set_option maxRecDepth 1000000 in
theorem zwX4_stepOf : z_cw zmX4_stepOf ∈ tables_1 := z_m3 (i := 39) rfl
theorem zkX4_stepOf : z_mok zmX4_stepOf = true := by decide +kernel
set_option maxRecDepth 1000000 in
theorem zwX4_reachedBetter : z_cw zmX4_reachedBetter ∈ tables_1 := z_m3 (i := 47) rfl
theorem zkX4_reachedBetter : z_mok zmX4_reachedBetter = true := by decide +kernel
set_option maxRecDepth 1000000 in
theorem zwX4_unbeaten : z_cw zmX4_unbeaten ∈ tables_1 := z_m3 (i := 63) rfl
theorem zkX4_unbeaten : z_mok zmX4_unbeaten = true := by decide +kernel
set_option maxRecDepth 1000000 in
theorem zwX4_firstOf : z_cw zmX4_firstOf ∈ tables_1 := z_m3 (i := 75) rfl
theorem zkX4_firstOf : z_mok zmX4_firstOf = true := by decide +kernel
set_option maxRecDepth 1000000 in
theorem zwX4_first : z_cw zmX4_first ∈ tables_1 := z_m3 (i := 151) rfl
theorem zkX4_first : z_mok zmX4_first = true := by decide +kernel
set_option maxRecDepth 1000000 in
theorem zwX4_rankedAt : z_cw zmX4_rankedAt ∈ tables_1 := z_m3 (i := 71) rfl
theorem zkX4_rankedAt : z_mok zmX4_rankedAt = true := by decide +kernel
set_option maxRecDepth 1000000 in
theorem zwX4_placeByRanks : z_cw zmX4_placeByRanks ∈ tables_1 := z_m3 (i := 84) rfl
theorem zkX4_placeByRanks : z_mok zmX4_placeByRanks = true := by decide +kernel
set_option maxRecDepth 1000000 in
theorem zwX4_leastTopSet : z_cw zmX4_leastTopSet ∈ tables_1 := z_m3 (i := 93) rfl
theorem zkX4_leastTopSet : z_mok zmX4_leastTopSet = true := by decide +kernel
set_option maxRecDepth 1000000 in
theorem zwX4_grow : z_cw zmX4_grow ∈ tables_1 := z_m3 (i := 97) rfl
theorem zkX4_grow : z_mok zmX4_grow = true := by decide +kernel
set_option maxRecDepth 1000000 in
theorem zwX4_unlinkedFrom : z_cw zmX4_unlinkedFrom ∈ tables_1 := z_m3 (i := 101) rfl
theorem zkX4_unlinkedFrom : z_mok zmX4_unlinkedFrom = true := by decide +kernel
set_option maxRecDepth 1000000 in
theorem zwX4_strongestOutOf : z_cw zmX4_strongestOutOf ∈ tables_1 := z_m3 (i := 237) rfl
theorem zkX4_strongestOutOf : z_mok zmX4_strongestOutOf = true := by decide +kernel
set_option maxRecDepth 1000000 in
theorem zwX4_manyLinks : z_cw zmX4_manyLinks ∈ tables_1 := z_m4 (i := 12) rfl
theorem zkX4_manyLinks : z_mok zmX4_manyLinks = true := by decide +kernel
set_option maxRecDepth 1000000 in
theorem zwX4_manyOver : z_cw zmX4_manyOver ∈ tables_1 := z_m4 (i := 16) rfl
theorem zkX4_manyOver : z_mok zmX4_manyOver = true := by decide +kernel
set_option maxRecDepth 1000000 in
theorem zwX5_begin : z_cw zmX5_begin ∈ tables_1 := z_m1 (i := 194) rfl
theorem zkX5_begin : z_mok zmX5_begin = true := by decide +kernel
set_option maxRecDepth 1000000 in
theorem zwX5_out : z_cw zmX5_out ∈ tables_1 := z_m1 (i := 199) rfl
theorem zkX5_out : z_mok zmX5_out = true := by decide +kernel
set_option maxRecDepth 1000000 in
theorem zwX5_measure : z_cw zmX5_measure ∈ tables_1 := z_m1 (i := 223) rfl
theorem zkX5_measure : z_mok zmX5_measure = true := by decide +kernel
set_option maxRecDepth 1000000 in
theorem zwX5_ahead : z_cw zmX5_ahead ∈ tables_1 := z_m1 (i := 227) rfl
theorem zkX5_ahead : z_mok zmX5_ahead = true := by decide +kernel
set_option maxRecDepth 1000000 in
theorem zwX5_shuffle : z_cw zmX5_shuffle ∈ tables_1 := z_m1 (i := 235) rfl
theorem zkX5_shuffle : z_mok zmX5_shuffle = true := by decide +kernel
set_option maxRecDepth 1000000 in
theorem zwX5_drawn : z_cw zmX5_drawn ∈ tables_1 := z_m2 (i := 11) rfl
theorem zkX5_drawn : z_mok zmX5_drawn = true := by decide +kernel
set_option maxRecDepth 1000000 in
theorem zwX5_feed : z_cw zmX5_feed ∈ tables_1 := z_m2 (i := 15) rfl
theorem zkX5_feed : z_mok zmX5_feed = true := by decide +kernel
set_option maxRecDepth 1000000 in
theorem zwX5_clear : z_cw zmX5_clear ∈ tables_1 := z_m2 (i := 23) rfl
theorem zkX5_clear : z_mok zmX5_clear = true := by decide +kernel
set_option maxRecDepth 1000000 in
theorem zwX5_ballots : z_cw zmX5_ballots ∈ tables_1 := z_m2 (i := 31) rfl
theorem zkX5_ballots : z_mok zmX5_ballots = true := by decide +kernel
set_option maxRecDepth 1000000 in
theorem zwX5_remove : z_cw zmX5_remove ∈ tables_1 := z_m2 (i := 105) rfl
theorem zkX5_remove : z_mok zmX5_remove = true := by decide +kernel
set_option maxRecDepth 1000000 in
theorem zwX5_ballot : z_cw zmX5_ballot ∈ tables_1 := z_m2 (i := 126) rfl
theorem zkX5_ballot : z_mok zmX5_ballot = true := by decide +kernel
set_option maxRecDepth 1000000 in
theorem zwX5_find : z_cw zmX5_find ∈ tables_1 := z_m2 (i := 138) rfl
theorem zkX5_find : z_mok zmX5_find = true := by decide +kernel
set_option maxRecDepth 1000000 in
theorem zwX5_spell : z_cw zmX5_spell ∈ tables_1 := z_m2 (i := 147) rfl
theorem zkX5_spell : z_mok zmX5_spell = true := by decide +kernel
set_option maxRecDepth 1000000 in
theorem zwX5_paper : z_cw zmX5_paper ∈ tables_1 := z_m2 (i := 165) rfl
theorem zkX5_paper : z_mok zmX5_paper = true := by decide +kernel
set_option maxRecDepth 1000000 in
theorem zwX5_pair : z_cw zmX5_pair ∈ tables_1 := z_m2 (i := 173) rfl
theorem zkX5_pair : z_mok zmX5_pair = true := by decide +kernel
set_option maxRecDepth 1000000 in
theorem zwX5_link : z_cw zmX5_link ∈ tables_1 := z_m2 (i := 187) rfl
theorem zkX5_link : z_mok zmX5_link = true := by decide +kernel
set_option maxRecDepth 1000000 in
theorem zwX5_strength : z_cw zmX5_strength ∈ tables_1 := z_m2 (i := 191) rfl
theorem zkX5_strength : z_mok zmX5_strength = true := by decide +kernel
set_option maxRecDepth 1000000 in
theorem zwX5_way : z_cw zmX5_way ∈ tables_1 := z_m3 (i := 19) rfl
theorem zkX5_way : z_mok zmX5_way = true := by decide +kernel
set_option maxRecDepth 1000000 in
theorem zwX5_barrier : z_cw zmX5_barrier ∈ tables_1 := z_m3 (i := 43) rfl
theorem zkX5_barrier : z_mok zmX5_barrier = true := by decide +kernel
set_option maxRecDepth 1000000 in
theorem zwX5_beats : z_cw zmX5_beats ∈ tables_1 := z_m3 (i := 51) rfl
theorem zkX5_beats : z_mok zmX5_beats = true := by decide +kernel
set_option maxRecDepth 1000000 in
theorem zwX5_winners : z_cw zmX5_winners ∈ tables_1 := z_m3 (i := 59) rfl
theorem zkX5_winners : z_mok zmX5_winners = true := by decide +kernel
set_option maxRecDepth 1000000 in
theorem zwX5_ranked : z_cw zmX5_ranked ∈ tables_1 := z_m3 (i := 67) rfl
theorem zkX5_ranked : z_mok zmX5_ranked = true := by decide +kernel
set_option maxRecDepth 1000000 in
theorem zwX5_rank : z_cw zmX5_rank ∈ tables_1 := z_m3 (i := 80) rfl
theorem zkX5_rank : z_mok zmX5_rank = true := by decide +kernel
set_option maxRecDepth 1000000 in
theorem zwX5_smith : z_cw zmX5_smith ∈ tables_1 := z_m3 (i := 89) rfl
theorem zkX5_smith : z_mok zmX5_smith = true := by decide +kernel
set_option maxRecDepth 1000000 in
theorem zwX5_clones : z_cw zmX5_clones ∈ tables_1 := z_m3 (i := 111) rfl
theorem zkX5_clones : z_mok zmX5_clones = true := by decide +kernel
set_option maxRecDepth 1000000 in
theorem zwX5_sum : z_cw zmX5_sum ∈ tables_1 := z_m3 (i := 126) rfl
theorem zkX5_sum : z_mok zmX5_sum = true := by decide +kernel
set_option maxRecDepth 1000000 in
theorem zwX5_without : z_cw zmX5_without ∈ tables_1 := z_m3 (i := 143) rfl
theorem zkX5_without : z_mok zmX5_without = true := by decide +kernel
set_option maxRecDepth 1000000 in
theorem zwX5_would : z_cw zmX5_would ∈ tables_1 := z_m3 (i := 156) rfl
theorem zkX5_would : z_mok zmX5_would = true := by decide +kernel
set_option maxRecDepth 1000000 in
theorem zwX5_needs : z_cw zmX5_needs ∈ tables_1 := z_m3 (i := 166) rfl
theorem zkX5_needs : z_mok zmX5_needs = true := by decide +kernel
set_option maxRecDepth 1000000 in
theorem zwX5_turners : z_cw zmX5_turners ∈ tables_1 := z_m3 (i := 170) rfl
theorem zkX5_turners : z_mok zmX5_turners = true := by decide +kernel
set_option maxRecDepth 1000000 in
theorem zwX5_agree : z_cw zmX5_agree ∈ tables_1 := z_m3 (i := 179) rfl
theorem zkX5_agree : z_mok zmX5_agree = true := by decide +kernel
set_option maxRecDepth 1000000 in
theorem zwX5_flips : z_cw zmX5_flips ∈ tables_1 := z_m3 (i := 187) rfl
theorem zkX5_flips : z_mok zmX5_flips = true := by decide +kernel
set_option maxRecDepth 1000000 in
theorem zwX5_prove : z_cw zmX5_prove ∈ tables_1 := z_m3 (i := 191) rfl
theorem zkX5_prove : z_mok zmX5_prove = true := by decide +kernel
set_option maxRecDepth 1000000 in
theorem zwX5_proves : z_cw zmX5_proves ∈ tables_1 := z_m3 (i := 213) rfl
theorem zkX5_proves : z_mok zmX5_proves = true := by decide +kernel
set_option maxRecDepth 1000000 in
theorem zwX5_told : z_cw zmX5_told ∈ tables_1 := z_m4 (i := 4) rfl
theorem zkX5_told : z_mok zmX5_told = true := by decide +kernel
set_option maxRecDepth 1000000 in
theorem zwX5_list : z_cw zmX5_list ∈ tables_1 := z_m4 (i := 20) rfl
theorem zkX5_list : z_mok zmX5_list = true := by decide +kernel
set_option maxRecDepth 1000000 in
theorem zwX5_set : z_cw zmX5_set ∈ tables_1 := z_m4 (i := 28) rfl
theorem zkX5_set : z_mok zmX5_set = true := by decide +kernel
set_option maxRecDepth 1000000 in
theorem zwX5_get : z_cw zmX5_get ∈ tables_1 := z_m4 (i := 32) rfl
theorem zkX5_get : z_mok zmX5_get = true := by decide +kernel
set_option maxRecDepth 1000000 in
theorem zwX5_image : z_cw zmX5_image ∈ tables_1 := z_m4 (i := 36) rfl
theorem zkX5_image : z_mok zmX5_image = true := by decide +kernel
set_option maxRecDepth 1000000 in
theorem zwX5_undo : z_cw zmX5_undo ∈ tables_1 := z_m4 (i := 40) rfl
theorem zkX5_undo : z_mok zmX5_undo = true := by decide +kernel
set_option maxRecDepth 1000000 in
theorem zwX5_lookAtWays : z_cw zmX5_lookAtWays ∈ tables_1 := z_m2 (i := 195) rfl
theorem zkX5_lookAtWays : z_mok zmX5_lookAtWays = true := by decide +kernel
set_option maxRecDepth 1000000 in
theorem zwX5_readRankingAlone : z_cw zmX5_readRankingAlone ∈ tables_1 := z_m2 (i := 142) rfl
theorem zkX5_readRankingAlone : z_mok zmX5_readRankingAlone = true := by decide +kernel
set_option maxRecDepth 1000000 in
theorem zwX5_readParts : z_cw zmX5_readParts ∈ tables_1 := z_m2 (i := 42) rfl
theorem zkX5_readParts : z_mok zmX5_readParts = true := by decide +kernel
set_option maxRecDepth 1000000 in
theorem zwX5_leastTurn : z_cw zmX5_leastTurn ∈ tables_1 := z_m3 (i := 174) rfl
theorem zkX5_leastTurn : z_mok zmX5_leastTurn = true := by decide +kernel
set_option maxRecDepth 1000000 in
theorem zwX5_isProof : z_cw zmX5_isProof ∈ tables_1 := z_m3 (i := 217) rfl
theorem zkX5_isProof : z_mok zmX5_isProof = true := by decide +kernel
set_option maxRecDepth 1000000 in
theorem zwX5_strengthOfRow : z_cw zmX5_strengthOfRow ∈ tables_1 := z_m3 (i := 228) rfl
theorem zkX5_strengthOfRow : z_mok zmX5_strengthOfRow = true := by decide +kernel
set_option maxRecDepth 1000000 in
theorem zwX5_hasBit : z_cw zmX5_hasBit ∈ tables_1 := z_m1 (i := 219) rfl
theorem zkX5_hasBit : z_mok zmX5_hasBit = true := by decide +kernel
set_option maxRecDepth 1000000 in
theorem zwX5_placeOf : z_cw zmX5_placeOf ∈ tables_1 := z_m2 (i := 96) rfl
theorem zkX5_placeOf : z_mok zmX5_placeOf = true := by decide +kernel
set_option maxRecDepth 1000000 in
theorem zwX5_withPlace : z_cw zmX5_withPlace ∈ tables_1 := z_m2 (i := 71) rfl
theorem zkX5_withPlace : z_mok zmX5_withPlace = true := by decide +kernel
set_option maxRecDepth 1000000 in
theorem zwX5_placesIn : z_cw zmX5_placesIn ∈ tables_1 := z_m2 (i := 133) rfl
theorem zkX5_placesIn : z_mok zmX5_placesIn = true := by decide +kernel
set_option maxRecDepth 1000000 in
theorem zwX5_cell : z_cw zmX5_cell ∈ tables_1 := z_m2 (i := 93) rfl
theorem zkX5_cell : z_mok zmX5_cell = true := by decide +kernel
set_option maxRecDepth 1000000 in
theorem zwX5_countPairs : z_cw zmX5_countPairs ∈ tables_1 := z_m2 (i := 90) rfl
theorem zkX5_countPairs : z_mok zmX5_countPairs = true := by decide +kernel
set_option maxRecDepth 1000000 in
theorem zwX6_isIn : z_cw zmX6_isIn ∈ tables_1 := z_m4 (i := 130) rfl
theorem zkX6_isIn : z_mok zmX6_isIn = true := by decide +kernel
set_option maxRecDepth 1000000 in
theorem zwX6_copies : z_cw zmX6_copies ∈ tables_1 := z_m4 (i := 191) rfl
theorem zkX6_copies : z_mok zmX6_copies = true := by decide +kernel
set_option maxRecDepth 1000000 in
theorem zwX6_has : z_cw zmX6_has ∈ tables_1 := z_m4 (i := 149) rfl
theorem zkX6_has : z_mok zmX6_has = true := by decide +kernel
set_option maxRecDepth 1000000 in
theorem zwX6_bits : z_cw zmX6_bits ∈ tables_1 := z_m5 (i := 168) rfl
theorem zkX6_bits : z_mok zmX6_bits = true := by decide +kernel
set_option maxRecDepth 1000000 in
theorem zwX6_everyone : z_cw zmX6_everyone ∈ tables_1 := z_m4 (i := 146) rfl
theorem zkX6_everyone : z_mok zmX6_everyone = true := by decide +kernel
set_option maxRecDepth 1000000 in
theorem zwX6_ins : z_cw zmX6_ins ∈ tables_1 := z_m4 (i := 142) rfl
theorem zkX6_ins : z_mok zmX6_ins = true := by decide +kernel
set_option maxRecDepth 1000000 in
theorem zwX6_isOne : z_cw zmX6_isOne ∈ tables_1 := z_m4 (i := 138) rfl
theorem zkX6_isOne : z_mok zmX6_isOne = true := by decide +kernel
set_option maxRecDepth 1000000 in
theorem zwX6_areTwo : z_cw zmX6_areTwo ∈ tables_1 := z_m5 (i := 49) rfl
theorem zkX6_areTwo : z_mok zmX6_areTwo = true := by decide +kernel
set_option maxRecDepth 1000000 in
theorem zwX6_areIn : z_cw zmX6_areIn ∈ tables_1 := z_m5 (i := 78) rfl
theorem zkX6_areIn : z_mok zmX6_areIn = true := by decide +kernel
set_option maxRecDepth 1000000 in
theorem zwX6_isBallot : z_cw zmX6_isBallot ∈ tables_1 := z_m5 (i := 3) rfl
theorem zkX6_isBallot : z_mok zmX6_isBallot = true := by decide +kernel
set_option maxRecDepth 1000000 in
theorem zwX6_placeOf : z_cw zmX6_placeOf ∈ tables_1 := z_m4 (i := 234) rfl
theorem zkX6_placeOf : z_mok zmX6_placeOf = true := by decide +kernel
set_option maxRecDepth 1000000 in
theorem zwX6_begins : z_cw zmX6_begins ∈ tables_1 := z_m4 (i := 50) rfl
theorem zkX6_begins : z_mok zmX6_begins = true := by decide +kernel
set_option maxRecDepth 1000000 in
theorem zwX6_begin : z_cw zmX6_begin ∈ tables_1 := z_m4 (i := 125) rfl
theorem zkX6_begin : z_mok zmX6_begin = true := by decide +kernel
set_option maxRecDepth 1000000 in
theorem zwX6_out : z_cw zmX6_out ∈ tables_1 := z_m4 (i := 134) rfl
theorem zkX6_out : z_mok zmX6_out = true := by decide +kernel
set_option maxRecDepth 1000000 in
theorem zwX6_measure : z_cw zmX6_measure ∈ tables_1 := z_m4 (i := 153) rfl
theorem zkX6_measure : z_mok zmX6_measure = true := by decide +kernel
set_option maxRecDepth 1000000 in
theorem zwX6_drawOf : z_cw zmX6_drawOf ∈ tables_1 := z_m4 (i := 162) rfl
theorem zkX6_drawOf : z_mok zmX6_drawOf = true := by decide +kernel
set_option maxRecDepth 1000000 in
theorem zwX6_ahead : z_cw zmX6_ahead ∈ tables_1 := z_m4 (i := 158) rfl
theorem zkX6_ahead : z_mok zmX6_ahead = true := by decide +kernel
set_option maxRecDepth 1000000 in
theorem zwX6_shuffle : z_cw zmX6_shuffle ∈ tables_1 := z_m4 (i := 166) rfl
theorem zkX6_shuffle : z_mok zmX6_shuffle = true := by decide +kernel
set_option maxRecDepth 1000000 in
theorem zwX6_drawn : z_cw zmX6_drawn ∈ tables_1 := z_m4 (i := 171) rfl
theorem zkX6_drawn : z_mok zmX6_drawn = true := by decide +kernel
set_option maxRecDepth 1000000 in
theorem zwX6_feed : z_cw zmX6_feed ∈ tables_1 := z_m4 (i := 175) rfl
theorem zkX6_feed : z_mok zmX6_feed = true := by decide +kernel
set_option maxRecDepth 1000000 in
theorem zwX6_clear : z_cw zmX6_clear ∈ tables_1 := z_m4 (i := 180) rfl
theorem zkX6_clear : z_mok zmX6_clear = true := by decide +kernel
set_option maxRecDepth 1000000 in
theorem zwX6_reads : z_cw zmX6_reads ∈ tables_1 := z_m4 (i := 188) rfl
theorem zkX6_reads : z_mok zmX6_reads = true := by decide +kernel
set_option maxRecDepth 1000000 in
theorem zwX6_here : z_cw zmX6_here ∈ tables_1 := z_m4 (i := 203) rfl
theorem zkX6_here : z_mok zmX6_here = true := by decide +kernel
set_option maxRecDepth 1000000 in
theorem zwX6_isDigit : z_cw zmX6_isDigit ∈ tables_1 := z_m4 (i := 199) rfl
theorem zkX6_isDigit : z_mok zmX6_isDigit = true := by decide +kernel
set_option maxRecDepth 1000000 in
theorem zwX6_fails : z_cw zmX6_fails ∈ tables_1 := z_m4 (i := 209) rfl
theorem zkX6_fails : z_mok zmX6_fails = true := by decide +kernel
set_option maxRecDepth 1000000 in
theorem zwX6_isSign : z_cw zmX6_isSign ∈ tables_1 := z_m4 (i := 214) rfl
theorem zkX6_isSign : z_mok zmX6_isSign = true := by decide +kernel
set_option maxRecDepth 1000000 in
theorem zwX6_isTold : z_cw zmX6_isTold ∈ tables_1 := z_m4 (i := 222) rfl
theorem zkX6_isTold : z_mok zmX6_isTold = true := by decide +kernel
set_option maxRecDepth 1000000 in
theorem zwX6_isRanking : z_cw zmX6_isRanking ∈ tables_1 := z_m4 (i := 218) rfl
theorem zkX6_isRanking : z_mok zmX6_isRanking = true := by decide +kernel
set_option maxRecDepth 1000000 in
theorem zwX6_isWholeRanking : z_cw zmX6_isWholeRanking ∈ tables_1 := z_m5 (i := 25) rfl
theorem zkX6_isWholeRanking : z_mok zmX6_isWholeRanking = true := by decide +kernel
set_option maxRecDepth 1000000 in
theorem zwX6_ballotOfRanking : z_cw zmX6_ballotOfRanking ∈ tables_1 := z_m4 (i := 230) rfl
theorem zkX6_ballotOfRanking : z_mok zmX6_ballotOfRanking = true := by decide +kernel
set_option maxRecDepth 1000000 in
theorem zwX6_comes : z_cw zmX6_comes ∈ tables_1 := z_m4 (i := 226) rfl
theorem zkX6_comes : z_mok zmX6_comes = true := by decide +kernel
set_option maxRecDepth 1000000 in
theorem zwX6_isPart : z_cw zmX6_isPart ∈ tables_1 := z_m4 (i := 195) rfl
theorem zkX6_isPart : z_mok zmX6_isPart = true := by decide +kernel
set_option maxRecDepth 1000000 in
theorem zwX6_ballots : z_cw zmX6_ballots ∈ tables_1 := z_m4 (i := 184) rfl
theorem zkX6_ballots : z_mok zmX6_ballots = true := by decide +kernel
set_option maxRecDepth 1000000 in
theorem zwX6_goes : z_cw zmX6_goes ∈ tables_1 := z_m5 (i := 7) rfl
theorem zkX6_goes : z_mok zmX6_goes = true := by decide +kernel
set_option maxRecDepth 1000000 in
theorem zwX6_remove : z_cw zmX6_remove ∈ tables_1 := z_m4 (i := 239) rfl
theorem zkX6_remove : z_mok zmX6_remove = true := by decide +kernel
set_option maxRecDepth 1000000 in
theorem zwX6_places : z_cw zmX6_places ∈ tables_1 := z_m5 (i := 15) rfl
theorem zkX6_places : z_mok zmX6_places = true := by decide +kernel
set_option maxRecDepth 1000000 in
theorem zwX6_ballot : z_cw zmX6_ballot ∈ tables_1 := z_m5 (i := 11) rfl
theorem zkX6_ballot : z_mok zmX6_ballot = true := by decide +kernel
set_option maxRecDepth 1000000 in
theorem zwX6_find : z_cw zmX6_find ∈ tables_1 := z_m5 (i := 21) rfl
theorem zkX6_find : z_mok zmX6_find = true := by decide +kernel
set_option maxRecDepth 1000000 in
theorem zwX6_says : z_cw zmX6_says ∈ tables_1 := z_m5 (i := 33) rfl
theorem zkX6_says : z_mok zmX6_says = true := by decide +kernel
set_option maxRecDepth 1000000 in
theorem zwX6_saysPlace : z_cw zmX6_saysPlace ∈ tables_1 := z_m5 (i := 37) rfl
theorem zkX6_saysPlace : z_mok zmX6_saysPlace = true := by decide +kernel
set_option maxRecDepth 1000000 in
theorem zwX6_spell : z_cw zmX6_spell ∈ tables_1 := z_m5 (i := 29) rfl
theorem zkX6_spell : z_mok zmX6_spell = true := by decide +kernel
set_option maxRecDepth 1000000 in
theorem zwX6_paper : z_cw zmX6_paper ∈ tables_1 := z_m5 (i := 41) rfl
theorem zkX6_paper : z_mok zmX6_paper = true := by decide +kernel
set_option maxRecDepth 1000000 in
theorem zwX6_counts : z_cw zmX6_counts ∈ tables_1 := z_m5 (i := 58) rfl
theorem zkX6_counts : z_mok zmX6_counts = true := by decide +kernel
set_option maxRecDepth 1000000 in
theorem zwX6_countsAll : z_cw zmX6_countsAll ∈ tables_1 := z_m5 (i := 54) rfl
theorem zkX6_countsAll : z_mok zmX6_countsAll = true := by decide +kernel
set_option maxRecDepth 1000000 in
theorem zwX6_countsRanking : z_cw zmX6_countsRanking ∈ tables_1 := z_m5 (i := 220) rfl
theorem zkX6_countsRanking : z_mok zmX6_countsRanking = true := by decide +kernel
set_option maxRecDepth 1000000 in
theorem zwX6_over : z_cw zmX6_over ∈ tables_1 := z_m5 (i := 62) rfl
theorem zkX6_over : z_mok zmX6_over = true := by decide +kernel
set_option maxRecDepth 1000000 in
theorem zwX6_pair : z_cw zmX6_pair ∈ tables_1 := z_m5 (i := 45) rfl
theorem zkX6_pair : z_mok zmX6_pair = true := by decide +kernel
set_option maxRecDepth 1000000 in
theorem zwX6_isLink : z_cw zmX6_isLink ∈ tables_1 := z_m5 (i := 70) rfl
theorem zkX6_isLink : z_mok zmX6_isLink = true := by decide +kernel
set_option maxRecDepth 1000000 in
theorem zwX6_link : z_cw zmX6_link ∈ tables_1 := z_m5 (i := 66) rfl
theorem zkX6_link : z_mok zmX6_link = true := by decide +kernel
set_option maxRecDepth 1000000 in
theorem zwX6_isStronger : z_cw zmX6_isStronger ∈ tables_1 := z_m5 (i := 98) rfl
theorem zkX6_isStronger : z_mok zmX6_isStronger = true := by decide +kernel
set_option maxRecDepth 1000000 in
theorem zwX6_isMore : z_cw zmX6_isMore ∈ tables_1 := z_m5 (i := 106) rfl
theorem zkX6_isMore : z_mok zmX6_isMore = true := by decide +kernel
set_option maxRecDepth 1000000 in
theorem zwX6_takes : z_cw zmX6_takes ∈ tables_1 := z_m5 (i := 95) rfl
theorem zkX6_takes : z_mok zmX6_takes = true := by decide +kernel
set_option maxRecDepth 1000000 in
theorem zwX6_strongestLeft : z_cw zmX6_strongestLeft ∈ tables_1 := z_m5 (i := 102) rfl
theorem zkX6_strongestLeft : z_mok zmX6_strongestLeft = true := by decide +kernel
set_option maxRecDepth 1000000 in
theorem zwX6_goesOn : z_cw zmX6_goesOn ∈ tables_1 := z_m5 (i := 110) rfl
theorem zkX6_goesOn : z_mok zmX6_goesOn = true := by decide +kernel
set_option maxRecDepth 1000000 in
theorem zwX6_grows : z_cw zmX6_grows ∈ tables_1 := z_m5 (i := 90) rfl
theorem zkX6_grows : z_mok zmX6_grows = true := by decide +kernel
set_option maxRecDepth 1000000 in
theorem zwX6_ways : z_cw zmX6_ways ∈ tables_1 := z_m5 (i := 86) rfl
theorem zkX6_ways : z_mok zmX6_ways = true := by decide +kernel
set_option maxRecDepth 1000000 in
theorem zwX6_waysNow : z_cw zmX6_waysNow ∈ tables_1 := z_m5 (i := 82) rfl
theorem zkX6_waysNow : z_mok zmX6_waysNow = true := by decide +kernel
set_option maxRecDepth 1000000 in
theorem zwX6_common : z_cw zmX6_common ∈ tables_1 := z_m5 (i := 121) rfl
theorem zkX6_common : z_mok zmX6_common = true := by decide +kernel
set_option maxRecDepth 1000000 in
theorem zwX6_lowest : z_cw zmX6_lowest ∈ tables_1 := z_m5 (i := 118) rfl
theorem zkX6_lowest : z_mok zmX6_lowest = true := by decide +kernel
set_option maxRecDepth 1000000 in
theorem zwX6_told : z_cw zmX6_told ∈ tables_1 := z_m5 (i := 114) rfl
theorem zkX6_told : z_mok zmX6_told = true := by decide +kernel
set_option maxRecDepth 1000000 in
theorem zwX6_strength : z_cw zmX6_strength ∈ tables_1 := z_m5 (i := 74) rfl
theorem zkX6_strength : z_mok zmX6_strength = true := by decide +kernel
set_option maxRecDepth 1000000 in
theorem zwX6_isOf : z_cw zmX6_isOf ∈ tables_1 := z_m5 (i := 137) rfl
theorem zkX6_isOf : z_mok zmX6_isOf = true := by decide +kernel
set_option maxRecDepth 1000000 in
theorem zwX6_leftTo : z_cw zmX6_leftTo ∈ tables_1 := z_m5 (i := 133) rfl
theorem zkX6_leftTo : z_mok zmX6_leftTo = true := by decide +kernel
set_option maxRecDepth 1000000 in
theorem zwX6_wayOf : z_cw zmX6_wayOf ∈ tables_1 := z_m5 (i := 129) rfl
theorem zkX6_wayOf : z_mok zmX6_wayOf = true := by decide +kernel
set_option maxRecDepth 1000000 in
theorem zwX6_way : z_cw zmX6_way ∈ tables_1 := z_m5 (i := 125) rfl
theorem zkX6_way : z_mok zmX6_way = true := by decide +kernel
set_option maxRecDepth 1000000 in
theorem zwX6_barrierOf : z_cw zmX6_barrierOf ∈ tables_1 := z_m5 (i := 145) rfl
theorem zkX6_barrierOf : z_mok zmX6_barrierOf = true := by decide +kernel
set_option maxRecDepth 1000000 in
theorem zwX6_barrier : z_cw zmX6_barrier ∈ tables_1 := z_m5 (i := 141) rfl
theorem zkX6_barrier : z_mok zmX6_barrier = true := by decide +kernel
set_option maxRecDepth 1000000 in
theorem zwX6_doesBeat : z_cw zmX6_doesBeat ∈ tables_1 := z_m5 (i := 153) rfl
theorem zkX6_doesBeat : z_mok zmX6_doesBeat = true := by decide +kernel
set_option maxRecDepth 1000000 in
theorem zwX6_beats : z_cw zmX6_beats ∈ tables_1 := z_m5 (i := 149) rfl
theorem zkX6_beats : z_mok zmX6_beats = true := by decide +kernel
set_option maxRecDepth 1000000 in
theorem zwX6_unbeaten : z_cw zmX6_unbeaten ∈ tables_1 := z_m5 (i := 161) rfl
theorem zkX6_unbeaten : z_mok zmX6_unbeaten = true := by decide +kernel
set_option maxRecDepth 1000000 in
theorem zwX6_winners : z_cw zmX6_winners ∈ tables_1 := z_m5 (i := 157) rfl
theorem zkX6_winners : z_mok zmX6_winners = true := by decide +kernel
set_option maxRecDepth 1000000 in
theorem zwX6_firstDrawn : z_cw zmX6_firstDrawn ∈ tables_1 := z_m5 (i := 172) rfl
theorem zkX6_firstDrawn : z_mok zmX6_firstDrawn = true := by decide +kernel
set_option maxRecDepth 1000000 in
theorem zwX6_ranked : z_cw zmX6_ranked ∈ tables_1 := z_m5 (i := 165) rfl
theorem zkX6_ranked : z_mok zmX6_ranked = true := by decide +kernel
set_option maxRecDepth 1000000 in
theorem zwX6_rank : z_cw zmX6_rank ∈ tables_1 := z_m5 (i := 176) rfl
theorem zkX6_rank : z_mok zmX6_rank = true := by decide +kernel
set_option maxRecDepth 1000000 in
theorem zwX6_linksToAll : z_cw zmX6_linksToAll ∈ tables_1 := z_m5 (i := 184) rfl
theorem zkX6_linksToAll : z_mok zmX6_linksToAll = true := by decide +kernel
set_option maxRecDepth 1000000 in
theorem zwX6_smith : z_cw zmX6_smith ∈ tables_1 := z_m5 (i := 180) rfl
theorem zkX6_smith : z_mok zmX6_smith = true := by decide +kernel
set_option maxRecDepth 1000000 in
theorem zwX6_isAside : z_cw zmX6_isAside ∈ tables_1 := z_m5 (i := 196) rfl
theorem zkX6_isAside : z_mok zmX6_isAside = true := by decide +kernel
set_option maxRecDepth 1000000 in
theorem zwX6_areClones : z_cw zmX6_areClones ∈ tables_1 := z_m5 (i := 192) rfl
theorem zkX6_areClones : z_mok zmX6_areClones = true := by decide +kernel
set_option maxRecDepth 1000000 in
theorem zwX6_clones : z_cw zmX6_clones ∈ tables_1 := z_m5 (i := 188) rfl
theorem zkX6_clones : z_mok zmX6_clones = true := by decide +kernel
set_option maxRecDepth 1000000 in
theorem zwX6_behindIt : z_cw zmX6_behindIt ∈ tables_1 := z_m5 (i := 204) rfl
theorem zkX6_behindIt : z_mok zmX6_behindIt = true := by decide +kernel
set_option maxRecDepth 1000000 in
theorem zwX6_sum : z_cw zmX6_sum ∈ tables_1 := z_m5 (i := 200) rfl
theorem zkX6_sum : z_mok zmX6_sum = true := by decide +kernel
set_option maxRecDepth 1000000 in
theorem zwX6_first : z_cw zmX6_first ∈ tables_1 := z_m5 (i := 212) rfl
theorem zkX6_first : z_mok zmX6_first = true := by decide +kernel
set_option maxRecDepth 1000000 in
theorem zwX6_firstNow : z_cw zmX6_firstNow ∈ tables_1 := z_m5 (i := 232) rfl
theorem zkX6_firstNow : z_mok zmX6_firstNow = true := by decide +kernel
set_option maxRecDepth 1000000 in
theorem zwX6_without : z_cw zmX6_without ∈ tables_1 := z_m5 (i := 208) rfl
theorem zkX6_without : z_mok zmX6_without = true := by decide +kernel
set_option maxRecDepth 1000000 in
theorem zwX6_would : z_cw zmX6_would ∈ tables_1 := z_m5 (i := 216) rfl
theorem zkX6_would : z_mok zmX6_would = true := by decide +kernel
set_option maxRecDepth 1000000 in
theorem zwX6_needs : z_cw zmX6_needs ∈ tables_1 := z_m5 (i := 224) rfl
theorem zkX6_needs : z_mok zmX6_needs = true := by decide +kernel
set_option maxRecDepth 1000000 in
theorem zwX6_turners : z_cw zmX6_turners ∈ tables_1 := z_m5 (i := 228) rfl
theorem zkX6_turners : z_mok zmX6_turners = true := by decide +kernel
set_option maxRecDepth 1000000 in
theorem zwX6_agree : z_cw zmX6_agree ∈ tables_1 := z_m5 (i := 236) rfl
theorem zkX6_agree : z_mok zmX6_agree = true := by decide +kernel
set_option maxRecDepth 1000000 in
theorem zwX6_flips : z_cw zmX6_flips ∈ tables_1 := z_m6 (i := 0) rfl
theorem zkX6_flips : z_mok zmX6_flips = true := by decide +kernel
set_option maxRecDepth 1000000 in
theorem zwX6_isList : z_cw zmX6_isList ∈ tables_1 := z_m6 (i := 11) rfl
theorem zkX6_isList : z_mok zmX6_isList = true := by decide +kernel
set_option maxRecDepth 1000000 in
theorem zwX6_isItem : z_cw zmX6_isItem ∈ tables_1 := z_m6 (i := 23) rfl
theorem zkX6_isItem : z_mok zmX6_isItem = true := by decide +kernel
set_option maxRecDepth 1000000 in
theorem zwX6_wrong : z_cw zmX6_wrong ∈ tables_1 := z_m6 (i := 8) rfl
theorem zkX6_wrong : z_mok zmX6_wrong = true := by decide +kernel
set_option maxRecDepth 1000000 in
theorem zwX6_lays : z_cw zmX6_lays ∈ tables_1 := z_m6 (i := 19) rfl
theorem zkX6_lays : z_mok zmX6_lays = true := by decide +kernel
set_option maxRecDepth 1000000 in
theorem zwX6_laid : z_cw zmX6_laid ∈ tables_1 := z_m6 (i := 15) rfl
theorem zkX6_laid : z_mok zmX6_laid = true := by decide +kernel
set_option maxRecDepth 1000000 in
theorem zwX6_prove : z_cw zmX6_prove ∈ tables_1 := z_m6 (i := 4) rfl
theorem zkX6_prove : z_mok zmX6_prove = true := by decide +kernel
set_option maxRecDepth 1000000 in
theorem zwX6_isToldWay : z_cw zmX6_isToldWay ∈ tables_1 := z_m6 (i := 31) rfl
theorem zkX6_isToldWay : z_mok zmX6_isToldWay = true := by decide +kernel
set_option maxRecDepth 1000000 in
theorem zwX6_isToldLink : z_cw zmX6_isToldLink ∈ tables_1 := z_m6 (i := 35) rfl
theorem zkX6_isToldLink : z_mok zmX6_isToldLink = true := by decide +kernel
set_option maxRecDepth 1000000 in
theorem zwX6_isBarrier : z_cw zmX6_isBarrier ∈ tables_1 := z_m6 (i := 39) rfl
theorem zkX6_isBarrier : z_mok zmX6_isBarrier = true := by decide +kernel
set_option maxRecDepth 1000000 in
theorem zwX6_proves : z_cw zmX6_proves ∈ tables_1 := z_m6 (i := 27) rfl
theorem zkX6_proves : z_mok zmX6_proves = true := by decide +kernel
set_option maxRecDepth 1000000 in
theorem zwX6_allCounts : z_cw zmX6_allCounts ∈ tables_1 := z_m6 (i := 47) rfl
theorem zkX6_allCounts : z_mok zmX6_allCounts = true := by decide +kernel
set_option maxRecDepth 1000000 in
theorem zwX6_links : z_cw zmX6_links ∈ tables_1 := z_m6 (i := 51) rfl
theorem zkX6_links : z_mok zmX6_links = true := by decide +kernel
set_option maxRecDepth 1000000 in
theorem zwX6_allBeaten : z_cw zmX6_allBeaten ∈ tables_1 := z_m6 (i := 55) rfl
theorem zkX6_allBeaten : z_mok zmX6_allBeaten = true := by decide +kernel
set_option maxRecDepth 1000000 in
theorem zwX6_told_ : z_cw zmX6_told_ ∈ tables_1 := z_m6 (i := 43) rfl
theorem zkX6_told_ : z_mok zmX6_told_ = true := by decide +kernel
set_option maxRecDepth 1000000 in
theorem zwX6_list : z_cw zmX6_list ∈ tables_1 := z_m6 (i := 59) rfl
theorem zkX6_list : z_mok zmX6_list = true := by decide +kernel
set_option maxRecDepth 1000000 in
theorem zwX6_set : z_cw zmX6_set ∈ tables_1 := z_m6 (i := 63) rfl
theorem zkX6_set : z_mok zmX6_set = true := by decide +kernel
set_option maxRecDepth 1000000 in
theorem zwX6_get : z_cw zmX6_get ∈ tables_1 := z_m6 (i := 67) rfl
theorem zkX6_get : z_mok zmX6_get = true := by decide +kernel
set_option maxRecDepth 1000000 in
theorem zwX6_image : z_cw zmX6_image ∈ tables_1 := z_m6 (i := 71) rfl
theorem zkX6_image : z_mok zmX6_image = true := by decide +kernel
set_option maxRecDepth 1000000 in
theorem zwX6_undo : z_cw zmX6_undo ∈ tables_1 := z_m6 (i := 75) rfl
theorem zkX6_undo : z_mok zmX6_undo = true := by decide +kernel
set_option maxRecDepth 1000000 in
theorem zwJ6_bitCount_0f7a4 : z_cw zmJ6_bitCount_0f7a4 ∈ tables_1 := z_m3 (i := 104) rfl
theorem zkJ6_bitCount_0f7a4 : z_mok zmJ6_bitCount_0f7a4 = true := by decide +kernel
set_option maxRecDepth 1000000 in
theorem zwJ9_floorDiv_7cf53 : z_cw zmJ9_floorDiv_7cf53 ∈ tables_1 := z_m3 (i := 7) rfl
theorem zkJ9_floorDiv_7cf53 : z_mok zmJ9_floorDiv_7cf53 = true := by decide +kernel
set_option maxRecDepth 1000000 in
theorem zwJ9_floorMod_7cf53 : z_cw zmJ9_floorMod_7cf53 ∈ tables_1 := z_m3 (i := 10) rfl
theorem zkJ9_floorMod_7cf53 : z_mok zmJ9_floorMod_7cf53 = true := by decide +kernel
set_option maxRecDepth 1000000 in
theorem zwJ9_max_7cf53 : z_cw zmJ9_max_7cf53 ∈ tables_1 := z_m2 (i := 87) rfl
theorem zkJ9_max_7cf53 : z_mok zmJ9_max_7cf53 = true := by decide +kernel
set_option maxRecDepth 1000000 in
theorem zwJ9_max_f86c9 : z_cw zmJ9_max_f86c9 ∈ tables_1 := z_m4 (i := 0) rfl
theorem zkJ9_max_f86c9 : z_mok zmJ9_max_f86c9 = true := by decide +kernel
set_option maxRecDepth 1000000 in
theorem zwJ9_min_7cf53 : z_cw zmJ9_min_7cf53 ∈ tables_1 := z_m2 (i := 2) rfl
theorem zkJ9_min_7cf53 : z_mok zmJ9_min_7cf53 = true := by decide +kernel
set_option maxRecDepth 1000000 in
theorem zwJ9_min_f86c9 : z_cw zmJ9_min_f86c9 ∈ tables_1 := z_m2 (i := 224) rfl
theorem zkJ9_min_f86c9 : z_mok zmJ9_min_f86c9 = true := by decide +kernel
set_option maxRecDepth 1000000 in
theorem zwJ7_fill_53178 : z_cw zmJ7_fill_53178 ∈ tables_1 := z_m1 (i := 32) rfl
theorem zkJ7_fill_53178 : z_mok zmJ7_fill_53178 = true := by decide +kernel
def z_mt_0 : List z_M := [zmX0_has, zmX0_holds, zmX0_start, zmX0_reaches, zmX0_read, zmX0_lay, zmX1_byteAt, zmX1_write, zmX1_writeBehind, zmX1_writeByte, zmX2_start, zmX2_become, zmX2_has, zmX2_hasTwo, zmX2_hasBallot, zmX2_all]
theorem z_mto_0 : ∀ q ∈ z_mt_0, z_cw q ∈ tables_1 ∧ z_mok q = true := List.forall_mem_cons.mpr ⟨⟨zwX0_has, zkX0_has⟩, List.forall_mem_cons.mpr ⟨⟨zwX0_holds, zkX0_holds⟩, List.forall_mem_cons.mpr ⟨⟨zwX0_start, zkX0_start⟩, List.forall_mem_cons.mpr ⟨⟨zwX0_reaches, zkX0_reaches⟩, List.forall_mem_cons.mpr ⟨⟨zwX0_read, zkX0_read⟩, List.forall_mem_cons.mpr ⟨⟨zwX0_lay, zkX0_lay⟩, List.forall_mem_cons.mpr ⟨⟨zwX1_byteAt, zkX1_byteAt⟩, List.forall_mem_cons.mpr ⟨⟨zwX1_write, zkX1_write⟩, List.forall_mem_cons.mpr ⟨⟨zwX1_writeBehind, zkX1_writeBehind⟩, List.forall_mem_cons.mpr ⟨⟨zwX1_writeByte, zkX1_writeByte⟩, List.forall_mem_cons.mpr ⟨⟨zwX2_start, zkX2_start⟩, List.forall_mem_cons.mpr ⟨⟨zwX2_become, zkX2_become⟩, List.forall_mem_cons.mpr ⟨⟨zwX2_has, zkX2_has⟩, List.forall_mem_cons.mpr ⟨⟨zwX2_hasTwo, zkX2_hasTwo⟩, List.forall_mem_cons.mpr ⟨⟨zwX2_hasBallot, zkX2_hasBallot⟩, List.forall_mem_cons.mpr ⟨⟨zwX2_all, zkX2_all⟩, fun _ h => absurd h List.not_mem_nil⟩⟩⟩⟩⟩⟩⟩⟩⟩⟩⟩⟩⟩⟩⟩⟩
def z_mt_1 : List z_M := [zmX2_ins, zmX2_isIn, zmX2_countOf, zmX2_rankingOf, zmX2_forOver, zmX2_ballotOf, zmX2_allCounts, zmX2_add, zmX2_lessen, zmX2_closeUp, zmX2_drawByNumbers, zmX2_drawnAt, zmX2_drawBySeed, zmX2_drawFirst, zmX2_areClones, zmX2_standTogether]
theorem z_mto_1 : ∀ q ∈ z_mt_1, z_cw q ∈ tables_1 ∧ z_mok q = true := List.forall_mem_cons.mpr ⟨⟨zwX2_ins, zkX2_ins⟩, List.forall_mem_cons.mpr ⟨⟨zwX2_isIn, zkX2_isIn⟩, List.forall_mem_cons.mpr ⟨⟨zwX2_countOf, zkX2_countOf⟩, List.forall_mem_cons.mpr ⟨⟨zwX2_rankingOf, zkX2_rankingOf⟩, List.forall_mem_cons.mpr ⟨⟨zwX2_forOver, zkX2_forOver⟩, List.forall_mem_cons.mpr ⟨⟨zwX2_ballotOf, zkX2_ballotOf⟩, List.forall_mem_cons.mpr ⟨⟨zwX2_allCounts, zkX2_allCounts⟩, List.forall_mem_cons.mpr ⟨⟨zwX2_add, zkX2_add⟩, List.forall_mem_cons.mpr ⟨⟨zwX2_lessen, zkX2_lessen⟩, List.forall_mem_cons.mpr ⟨⟨zwX2_closeUp, zkX2_closeUp⟩, List.forall_mem_cons.mpr ⟨⟨zwX2_drawByNumbers, zkX2_drawByNumbers⟩, List.forall_mem_cons.mpr ⟨⟨zwX2_drawnAt, zkX2_drawnAt⟩, List.forall_mem_cons.mpr ⟨⟨zwX2_drawBySeed, zkX2_drawBySeed⟩, List.forall_mem_cons.mpr ⟨⟨zwX2_drawFirst, zkX2_drawFirst⟩, List.forall_mem_cons.mpr ⟨⟨zwX2_areClones, zkX2_areClones⟩, List.forall_mem_cons.mpr ⟨⟨zwX2_standTogether, zkX2_standTogether⟩, fun _ h => absurd h List.not_mem_nil⟩⟩⟩⟩⟩⟩⟩⟩⟩⟩⟩⟩⟩⟩⟩⟩
def z_mt_2 : List z_M := [zmX2_sumOfPlaces, zmX2_leadsOf, zmX2_manyBehind, zmX3_takeByte, zmX3_wipe, zmX3_rewind, zmX3_isRead, zmX3_sign, zmX3_passes, zmX3_figure, zmX3_readCount, zmX3_readRanking, zmX3_placeOthers, zmX4_load, zmX4_leaveOut, zmX4_count]
theorem z_mto_2 : ∀ q ∈ z_mt_2, z_cw q ∈ tables_1 ∧ z_mok q = true := List.forall_mem_cons.mpr ⟨⟨zwX2_sumOfPlaces, zkX2_sumOfPlaces⟩, List.forall_mem_cons.mpr ⟨⟨zwX2_leadsOf, zkX2_leadsOf⟩, List.forall_mem_cons.mpr ⟨⟨zwX2_manyBehind, zkX2_manyBehind⟩, List.forall_mem_cons.mpr ⟨⟨zwX3_takeByte, zkX3_takeByte⟩, List.forall_mem_cons.mpr ⟨⟨zwX3_wipe, zkX3_wipe⟩, List.forall_mem_cons.mpr ⟨⟨zwX3_rewind, zkX3_rewind⟩, List.forall_mem_cons.mpr ⟨⟨zwX3_isRead, zkX3_isRead⟩, List.forall_mem_cons.mpr ⟨⟨zwX3_sign, zkX3_sign⟩, List.forall_mem_cons.mpr ⟨⟨zwX3_passes, zkX3_passes⟩, List.forall_mem_cons.mpr ⟨⟨zwX3_figure, zkX3_figure⟩, List.forall_mem_cons.mpr ⟨⟨zwX3_readCount, zkX3_readCount⟩, List.forall_mem_cons.mpr ⟨⟨zwX3_readRanking, zkX3_readRanking⟩, List.forall_mem_cons.mpr ⟨⟨zwX3_placeOthers, zkX3_placeOthers⟩, List.forall_mem_cons.mpr ⟨⟨zwX4_load, zkX4_load⟩, List.forall_mem_cons.mpr ⟨⟨zwX4_leaveOut, zkX4_leaveOut⟩, List.forall_mem_cons.mpr ⟨⟨zwX4_count, zkX4_count⟩, fun _ h => absurd h List.not_mem_nil⟩⟩⟩⟩⟩⟩⟩⟩⟩⟩⟩⟩⟩⟩⟩⟩
def z_mt_3 : List z_M := [zmX4_goBy, zmX4_reckon, zmX4_goThrough, zmX4_beatersOf, zmX4_linkBetween, zmX4_ratioStrength, zmX4_knows, zmX4_linkStrength, zmX4_bestStrength, zmX4_isOver, zmX4_cellAsStrongAs, zmX4_strengthTold, zmX4_commonDivisor, zmX4_walk, zmX4_tellDistances, zmX4_nextStep]
theorem z_mto_3 : ∀ q ∈ z_mt_3, z_cw q ∈ tables_1 ∧ z_mok q = true := List.forall_mem_cons.mpr ⟨⟨zwX4_goBy, zkX4_goBy⟩, List.forall_mem_cons.mpr ⟨⟨zwX4_reckon, zkX4_reckon⟩, List.forall_mem_cons.mpr ⟨⟨zwX4_goThrough, zkX4_goThrough⟩, List.forall_mem_cons.mpr ⟨⟨zwX4_beatersOf, zkX4_beatersOf⟩, List.forall_mem_cons.mpr ⟨⟨zwX4_linkBetween, zkX4_linkBetween⟩, List.forall_mem_cons.mpr ⟨⟨zwX4_ratioStrength, zkX4_ratioStrength⟩, List.forall_mem_cons.mpr ⟨⟨zwX4_knows, zkX4_knows⟩, List.forall_mem_cons.mpr ⟨⟨zwX4_linkStrength, zkX4_linkStrength⟩, List.forall_mem_cons.mpr ⟨⟨zwX4_bestStrength, zkX4_bestStrength⟩, List.forall_mem_cons.mpr ⟨⟨zwX4_isOver, zkX4_isOver⟩, List.forall_mem_cons.mpr ⟨⟨zwX4_cellAsStrongAs, zkX4_cellAsStrongAs⟩, List.forall_mem_cons.mpr ⟨⟨zwX4_strengthTold, zkX4_strengthTold⟩, List.forall_mem_cons.mpr ⟨⟨zwX4_commonDivisor, zkX4_commonDivisor⟩, List.forall_mem_cons.mpr ⟨⟨zwX4_walk, zkX4_walk⟩, List.forall_mem_cons.mpr ⟨⟨zwX4_tellDistances, zkX4_tellDistances⟩, List.forall_mem_cons.mpr ⟨⟨zwX4_nextStep, zkX4_nextStep⟩, fun _ h => absurd h List.not_mem_nil⟩⟩⟩⟩⟩⟩⟩⟩⟩⟩⟩⟩⟩⟩⟩⟩
def z_mt_4 : List z_M := [zmX4_stepOf, zmX4_reachedBetter, zmX4_unbeaten, zmX4_firstOf, zmX4_first, zmX4_rankedAt, zmX4_placeByRanks, zmX4_leastTopSet, zmX4_grow, zmX4_unlinkedFrom, zmX4_strongestOutOf, zmX4_manyLinks, zmX4_manyOver, zmX5_begin, zmX5_out, zmX5_measure]
theorem z_mto_4 : ∀ q ∈ z_mt_4, z_cw q ∈ tables_1 ∧ z_mok q = true := List.forall_mem_cons.mpr ⟨⟨zwX4_stepOf, zkX4_stepOf⟩, List.forall_mem_cons.mpr ⟨⟨zwX4_reachedBetter, zkX4_reachedBetter⟩, List.forall_mem_cons.mpr ⟨⟨zwX4_unbeaten, zkX4_unbeaten⟩, List.forall_mem_cons.mpr ⟨⟨zwX4_firstOf, zkX4_firstOf⟩, List.forall_mem_cons.mpr ⟨⟨zwX4_first, zkX4_first⟩, List.forall_mem_cons.mpr ⟨⟨zwX4_rankedAt, zkX4_rankedAt⟩, List.forall_mem_cons.mpr ⟨⟨zwX4_placeByRanks, zkX4_placeByRanks⟩, List.forall_mem_cons.mpr ⟨⟨zwX4_leastTopSet, zkX4_leastTopSet⟩, List.forall_mem_cons.mpr ⟨⟨zwX4_grow, zkX4_grow⟩, List.forall_mem_cons.mpr ⟨⟨zwX4_unlinkedFrom, zkX4_unlinkedFrom⟩, List.forall_mem_cons.mpr ⟨⟨zwX4_strongestOutOf, zkX4_strongestOutOf⟩, List.forall_mem_cons.mpr ⟨⟨zwX4_manyLinks, zkX4_manyLinks⟩, List.forall_mem_cons.mpr ⟨⟨zwX4_manyOver, zkX4_manyOver⟩, List.forall_mem_cons.mpr ⟨⟨zwX5_begin, zkX5_begin⟩, List.forall_mem_cons.mpr ⟨⟨zwX5_out, zkX5_out⟩, List.forall_mem_cons.mpr ⟨⟨zwX5_measure, zkX5_measure⟩, fun _ h => absurd h List.not_mem_nil⟩⟩⟩⟩⟩⟩⟩⟩⟩⟩⟩⟩⟩⟩⟩⟩
def z_mt_5 : List z_M := [zmX5_ahead, zmX5_shuffle, zmX5_drawn, zmX5_feed, zmX5_clear, zmX5_ballots, zmX5_remove, zmX5_ballot, zmX5_find, zmX5_spell, zmX5_paper, zmX5_pair, zmX5_link, zmX5_strength, zmX5_way, zmX5_barrier]
theorem z_mto_5 : ∀ q ∈ z_mt_5, z_cw q ∈ tables_1 ∧ z_mok q = true := List.forall_mem_cons.mpr ⟨⟨zwX5_ahead, zkX5_ahead⟩, List.forall_mem_cons.mpr ⟨⟨zwX5_shuffle, zkX5_shuffle⟩, List.forall_mem_cons.mpr ⟨⟨zwX5_drawn, zkX5_drawn⟩, List.forall_mem_cons.mpr ⟨⟨zwX5_feed, zkX5_feed⟩, List.forall_mem_cons.mpr ⟨⟨zwX5_clear, zkX5_clear⟩, List.forall_mem_cons.mpr ⟨⟨zwX5_ballots, zkX5_ballots⟩, List.forall_mem_cons.mpr ⟨⟨zwX5_remove, zkX5_remove⟩, List.forall_mem_cons.mpr ⟨⟨zwX5_ballot, zkX5_ballot⟩, List.forall_mem_cons.mpr ⟨⟨zwX5_find, zkX5_find⟩, List.forall_mem_cons.mpr ⟨⟨zwX5_spell, zkX5_spell⟩, List.forall_mem_cons.mpr ⟨⟨zwX5_paper, zkX5_paper⟩, List.forall_mem_cons.mpr ⟨⟨zwX5_pair, zkX5_pair⟩, List.forall_mem_cons.mpr ⟨⟨zwX5_link, zkX5_link⟩, List.forall_mem_cons.mpr ⟨⟨zwX5_strength, zkX5_strength⟩, List.forall_mem_cons.mpr ⟨⟨zwX5_way, zkX5_way⟩, List.forall_mem_cons.mpr ⟨⟨zwX5_barrier, zkX5_barrier⟩, fun _ h => absurd h List.not_mem_nil⟩⟩⟩⟩⟩⟩⟩⟩⟩⟩⟩⟩⟩⟩⟩⟩
def z_mt_6 : List z_M := [zmX5_beats, zmX5_winners, zmX5_ranked, zmX5_rank, zmX5_smith, zmX5_clones, zmX5_sum, zmX5_without, zmX5_would, zmX5_needs, zmX5_turners, zmX5_agree, zmX5_flips, zmX5_prove, zmX5_proves, zmX5_told]
theorem z_mto_6 : ∀ q ∈ z_mt_6, z_cw q ∈ tables_1 ∧ z_mok q = true := List.forall_mem_cons.mpr ⟨⟨zwX5_beats, zkX5_beats⟩, List.forall_mem_cons.mpr ⟨⟨zwX5_winners, zkX5_winners⟩, List.forall_mem_cons.mpr ⟨⟨zwX5_ranked, zkX5_ranked⟩, List.forall_mem_cons.mpr ⟨⟨zwX5_rank, zkX5_rank⟩, List.forall_mem_cons.mpr ⟨⟨zwX5_smith, zkX5_smith⟩, List.forall_mem_cons.mpr ⟨⟨zwX5_clones, zkX5_clones⟩, List.forall_mem_cons.mpr ⟨⟨zwX5_sum, zkX5_sum⟩, List.forall_mem_cons.mpr ⟨⟨zwX5_without, zkX5_without⟩, List.forall_mem_cons.mpr ⟨⟨zwX5_would, zkX5_would⟩, List.forall_mem_cons.mpr ⟨⟨zwX5_needs, zkX5_needs⟩, List.forall_mem_cons.mpr ⟨⟨zwX5_turners, zkX5_turners⟩, List.forall_mem_cons.mpr ⟨⟨zwX5_agree, zkX5_agree⟩, List.forall_mem_cons.mpr ⟨⟨zwX5_flips, zkX5_flips⟩, List.forall_mem_cons.mpr ⟨⟨zwX5_prove, zkX5_prove⟩, List.forall_mem_cons.mpr ⟨⟨zwX5_proves, zkX5_proves⟩, List.forall_mem_cons.mpr ⟨⟨zwX5_told, zkX5_told⟩, fun _ h => absurd h List.not_mem_nil⟩⟩⟩⟩⟩⟩⟩⟩⟩⟩⟩⟩⟩⟩⟩⟩
def z_mt_7 : List z_M := [zmX5_list, zmX5_set, zmX5_get, zmX5_image, zmX5_undo, zmX5_lookAtWays, zmX5_readRankingAlone, zmX5_readParts, zmX5_leastTurn, zmX5_isProof, zmX5_strengthOfRow, zmX5_hasBit, zmX5_placeOf, zmX5_withPlace, zmX5_placesIn, zmX5_cell]
theorem z_mto_7 : ∀ q ∈ z_mt_7, z_cw q ∈ tables_1 ∧ z_mok q = true := List.forall_mem_cons.mpr ⟨⟨zwX5_list, zkX5_list⟩, List.forall_mem_cons.mpr ⟨⟨zwX5_set, zkX5_set⟩, List.forall_mem_cons.mpr ⟨⟨zwX5_get, zkX5_get⟩, List.forall_mem_cons.mpr ⟨⟨zwX5_image, zkX5_image⟩, List.forall_mem_cons.mpr ⟨⟨zwX5_undo, zkX5_undo⟩, List.forall_mem_cons.mpr ⟨⟨zwX5_lookAtWays, zkX5_lookAtWays⟩, List.forall_mem_cons.mpr ⟨⟨zwX5_readRankingAlone, zkX5_readRankingAlone⟩, List.forall_mem_cons.mpr ⟨⟨zwX5_readParts, zkX5_readParts⟩, List.forall_mem_cons.mpr ⟨⟨zwX5_leastTurn, zkX5_leastTurn⟩, List.forall_mem_cons.mpr ⟨⟨zwX5_isProof, zkX5_isProof⟩, List.forall_mem_cons.mpr ⟨⟨zwX5_strengthOfRow, zkX5_strengthOfRow⟩, List.forall_mem_cons.mpr ⟨⟨zwX5_hasBit, zkX5_hasBit⟩, List.forall_mem_cons.mpr ⟨⟨zwX5_placeOf, zkX5_placeOf⟩, List.forall_mem_cons.mpr ⟨⟨zwX5_withPlace, zkX5_withPlace⟩, List.forall_mem_cons.mpr ⟨⟨zwX5_placesIn, zkX5_placesIn⟩, List.forall_mem_cons.mpr ⟨⟨zwX5_cell, zkX5_cell⟩, fun _ h => absurd h List.not_mem_nil⟩⟩⟩⟩⟩⟩⟩⟩⟩⟩⟩⟩⟩⟩⟩⟩
def z_mt_8 : List z_M := [zmX5_countPairs, zmX6_isIn, zmX6_copies, zmX6_has, zmX6_bits, zmX6_everyone, zmX6_ins, zmX6_isOne, zmX6_areTwo, zmX6_areIn, zmX6_isBallot, zmX6_placeOf, zmX6_begins, zmX6_begin, zmX6_out, zmX6_measure]
theorem z_mto_8 : ∀ q ∈ z_mt_8, z_cw q ∈ tables_1 ∧ z_mok q = true := List.forall_mem_cons.mpr ⟨⟨zwX5_countPairs, zkX5_countPairs⟩, List.forall_mem_cons.mpr ⟨⟨zwX6_isIn, zkX6_isIn⟩, List.forall_mem_cons.mpr ⟨⟨zwX6_copies, zkX6_copies⟩, List.forall_mem_cons.mpr ⟨⟨zwX6_has, zkX6_has⟩, List.forall_mem_cons.mpr ⟨⟨zwX6_bits, zkX6_bits⟩, List.forall_mem_cons.mpr ⟨⟨zwX6_everyone, zkX6_everyone⟩, List.forall_mem_cons.mpr ⟨⟨zwX6_ins, zkX6_ins⟩, List.forall_mem_cons.mpr ⟨⟨zwX6_isOne, zkX6_isOne⟩, List.forall_mem_cons.mpr ⟨⟨zwX6_areTwo, zkX6_areTwo⟩, List.forall_mem_cons.mpr ⟨⟨zwX6_areIn, zkX6_areIn⟩, List.forall_mem_cons.mpr ⟨⟨zwX6_isBallot, zkX6_isBallot⟩, List.forall_mem_cons.mpr ⟨⟨zwX6_placeOf, zkX6_placeOf⟩, List.forall_mem_cons.mpr ⟨⟨zwX6_begins, zkX6_begins⟩, List.forall_mem_cons.mpr ⟨⟨zwX6_begin, zkX6_begin⟩, List.forall_mem_cons.mpr ⟨⟨zwX6_out, zkX6_out⟩, List.forall_mem_cons.mpr ⟨⟨zwX6_measure, zkX6_measure⟩, fun _ h => absurd h List.not_mem_nil⟩⟩⟩⟩⟩⟩⟩⟩⟩⟩⟩⟩⟩⟩⟩⟩
def z_mt_9 : List z_M := [zmX6_drawOf, zmX6_ahead, zmX6_shuffle, zmX6_drawn, zmX6_feed, zmX6_clear, zmX6_reads, zmX6_here, zmX6_isDigit, zmX6_fails, zmX6_isSign, zmX6_isTold, zmX6_isRanking, zmX6_isWholeRanking, zmX6_ballotOfRanking, zmX6_comes]
theorem z_mto_9 : ∀ q ∈ z_mt_9, z_cw q ∈ tables_1 ∧ z_mok q = true := List.forall_mem_cons.mpr ⟨⟨zwX6_drawOf, zkX6_drawOf⟩, List.forall_mem_cons.mpr ⟨⟨zwX6_ahead, zkX6_ahead⟩, List.forall_mem_cons.mpr ⟨⟨zwX6_shuffle, zkX6_shuffle⟩, List.forall_mem_cons.mpr ⟨⟨zwX6_drawn, zkX6_drawn⟩, List.forall_mem_cons.mpr ⟨⟨zwX6_feed, zkX6_feed⟩, List.forall_mem_cons.mpr ⟨⟨zwX6_clear, zkX6_clear⟩, List.forall_mem_cons.mpr ⟨⟨zwX6_reads, zkX6_reads⟩, List.forall_mem_cons.mpr ⟨⟨zwX6_here, zkX6_here⟩, List.forall_mem_cons.mpr ⟨⟨zwX6_isDigit, zkX6_isDigit⟩, List.forall_mem_cons.mpr ⟨⟨zwX6_fails, zkX6_fails⟩, List.forall_mem_cons.mpr ⟨⟨zwX6_isSign, zkX6_isSign⟩, List.forall_mem_cons.mpr ⟨⟨zwX6_isTold, zkX6_isTold⟩, List.forall_mem_cons.mpr ⟨⟨zwX6_isRanking, zkX6_isRanking⟩, List.forall_mem_cons.mpr ⟨⟨zwX6_isWholeRanking, zkX6_isWholeRanking⟩, List.forall_mem_cons.mpr ⟨⟨zwX6_ballotOfRanking, zkX6_ballotOfRanking⟩, List.forall_mem_cons.mpr ⟨⟨zwX6_comes, zkX6_comes⟩, fun _ h => absurd h List.not_mem_nil⟩⟩⟩⟩⟩⟩⟩⟩⟩⟩⟩⟩⟩⟩⟩⟩
def z_mt_10 : List z_M := [zmX6_isPart, zmX6_ballots, zmX6_goes, zmX6_remove, zmX6_places, zmX6_ballot, zmX6_find, zmX6_says, zmX6_saysPlace, zmX6_spell, zmX6_paper, zmX6_counts, zmX6_countsAll, zmX6_countsRanking, zmX6_over, zmX6_pair]
theorem z_mto_10 : ∀ q ∈ z_mt_10, z_cw q ∈ tables_1 ∧ z_mok q = true := List.forall_mem_cons.mpr ⟨⟨zwX6_isPart, zkX6_isPart⟩, List.forall_mem_cons.mpr ⟨⟨zwX6_ballots, zkX6_ballots⟩, List.forall_mem_cons.mpr ⟨⟨zwX6_goes, zkX6_goes⟩, List.forall_mem_cons.mpr ⟨⟨zwX6_remove, zkX6_remove⟩, List.forall_mem_cons.mpr ⟨⟨zwX6_places, zkX6_places⟩, List.forall_mem_cons.mpr ⟨⟨zwX6_ballot, zkX6_ballot⟩, List.forall_mem_cons.mpr ⟨⟨zwX6_find, zkX6_find⟩, List.forall_mem_cons.mpr ⟨⟨zwX6_says, zkX6_says⟩, List.forall_mem_cons.mpr ⟨⟨zwX6_saysPlace, zkX6_saysPlace⟩, List.forall_mem_cons.mpr ⟨⟨zwX6_spell, zkX6_spell⟩, List.forall_mem_cons.mpr ⟨⟨zwX6_paper, zkX6_paper⟩, List.forall_mem_cons.mpr ⟨⟨zwX6_counts, zkX6_counts⟩, List.forall_mem_cons.mpr ⟨⟨zwX6_countsAll, zkX6_countsAll⟩, List.forall_mem_cons.mpr ⟨⟨zwX6_countsRanking, zkX6_countsRanking⟩, List.forall_mem_cons.mpr ⟨⟨zwX6_over, zkX6_over⟩, List.forall_mem_cons.mpr ⟨⟨zwX6_pair, zkX6_pair⟩, fun _ h => absurd h List.not_mem_nil⟩⟩⟩⟩⟩⟩⟩⟩⟩⟩⟩⟩⟩⟩⟩⟩
def z_mt_11 : List z_M := [zmX6_isLink, zmX6_link, zmX6_isStronger, zmX6_isMore, zmX6_takes, zmX6_strongestLeft, zmX6_goesOn, zmX6_grows, zmX6_ways, zmX6_waysNow, zmX6_common, zmX6_lowest, zmX6_told, zmX6_strength, zmX6_isOf, zmX6_leftTo]
theorem z_mto_11 : ∀ q ∈ z_mt_11, z_cw q ∈ tables_1 ∧ z_mok q = true := List.forall_mem_cons.mpr ⟨⟨zwX6_isLink, zkX6_isLink⟩, List.forall_mem_cons.mpr ⟨⟨zwX6_link, zkX6_link⟩, List.forall_mem_cons.mpr ⟨⟨zwX6_isStronger, zkX6_isStronger⟩, List.forall_mem_cons.mpr ⟨⟨zwX6_isMore, zkX6_isMore⟩, List.forall_mem_cons.mpr ⟨⟨zwX6_takes, zkX6_takes⟩, List.forall_mem_cons.mpr ⟨⟨zwX6_strongestLeft, zkX6_strongestLeft⟩, List.forall_mem_cons.mpr ⟨⟨zwX6_goesOn, zkX6_goesOn⟩, List.forall_mem_cons.mpr ⟨⟨zwX6_grows, zkX6_grows⟩, List.forall_mem_cons.mpr ⟨⟨zwX6_ways, zkX6_ways⟩, List.forall_mem_cons.mpr ⟨⟨zwX6_waysNow, zkX6_waysNow⟩, List.forall_mem_cons.mpr ⟨⟨zwX6_common, zkX6_common⟩, List.forall_mem_cons.mpr ⟨⟨zwX6_lowest, zkX6_lowest⟩, List.forall_mem_cons.mpr ⟨⟨zwX6_told, zkX6_told⟩, List.forall_mem_cons.mpr ⟨⟨zwX6_strength, zkX6_strength⟩, List.forall_mem_cons.mpr ⟨⟨zwX6_isOf, zkX6_isOf⟩, List.forall_mem_cons.mpr ⟨⟨zwX6_leftTo, zkX6_leftTo⟩, fun _ h => absurd h List.not_mem_nil⟩⟩⟩⟩⟩⟩⟩⟩⟩⟩⟩⟩⟩⟩⟩⟩
def z_mt_12 : List z_M := [zmX6_wayOf, zmX6_way, zmX6_barrierOf, zmX6_barrier, zmX6_doesBeat, zmX6_beats, zmX6_unbeaten, zmX6_winners, zmX6_firstDrawn, zmX6_ranked, zmX6_rank, zmX6_linksToAll, zmX6_smith, zmX6_isAside, zmX6_areClones, zmX6_clones]
theorem z_mto_12 : ∀ q ∈ z_mt_12, z_cw q ∈ tables_1 ∧ z_mok q = true := List.forall_mem_cons.mpr ⟨⟨zwX6_wayOf, zkX6_wayOf⟩, List.forall_mem_cons.mpr ⟨⟨zwX6_way, zkX6_way⟩, List.forall_mem_cons.mpr ⟨⟨zwX6_barrierOf, zkX6_barrierOf⟩, List.forall_mem_cons.mpr ⟨⟨zwX6_barrier, zkX6_barrier⟩, List.forall_mem_cons.mpr ⟨⟨zwX6_doesBeat, zkX6_doesBeat⟩, List.forall_mem_cons.mpr ⟨⟨zwX6_beats, zkX6_beats⟩, List.forall_mem_cons.mpr ⟨⟨zwX6_unbeaten, zkX6_unbeaten⟩, List.forall_mem_cons.mpr ⟨⟨zwX6_winners, zkX6_winners⟩, List.forall_mem_cons.mpr ⟨⟨zwX6_firstDrawn, zkX6_firstDrawn⟩, List.forall_mem_cons.mpr ⟨⟨zwX6_ranked, zkX6_ranked⟩, List.forall_mem_cons.mpr ⟨⟨zwX6_rank, zkX6_rank⟩, List.forall_mem_cons.mpr ⟨⟨zwX6_linksToAll, zkX6_linksToAll⟩, List.forall_mem_cons.mpr ⟨⟨zwX6_smith, zkX6_smith⟩, List.forall_mem_cons.mpr ⟨⟨zwX6_isAside, zkX6_isAside⟩, List.forall_mem_cons.mpr ⟨⟨zwX6_areClones, zkX6_areClones⟩, List.forall_mem_cons.mpr ⟨⟨zwX6_clones, zkX6_clones⟩, fun _ h => absurd h List.not_mem_nil⟩⟩⟩⟩⟩⟩⟩⟩⟩⟩⟩⟩⟩⟩⟩⟩
def z_mt_13 : List z_M := [zmX6_behindIt, zmX6_sum, zmX6_first, zmX6_firstNow, zmX6_without, zmX6_would, zmX6_needs, zmX6_turners, zmX6_agree, zmX6_flips, zmX6_isList, zmX6_isItem, zmX6_wrong, zmX6_lays, zmX6_laid, zmX6_prove]
theorem z_mto_13 : ∀ q ∈ z_mt_13, z_cw q ∈ tables_1 ∧ z_mok q = true := List.forall_mem_cons.mpr ⟨⟨zwX6_behindIt, zkX6_behindIt⟩, List.forall_mem_cons.mpr ⟨⟨zwX6_sum, zkX6_sum⟩, List.forall_mem_cons.mpr ⟨⟨zwX6_first, zkX6_first⟩, List.forall_mem_cons.mpr ⟨⟨zwX6_firstNow, zkX6_firstNow⟩, List.forall_mem_cons.mpr ⟨⟨zwX6_without, zkX6_without⟩, List.forall_mem_cons.mpr ⟨⟨zwX6_would, zkX6_would⟩, List.forall_mem_cons.mpr ⟨⟨zwX6_needs, zkX6_needs⟩, List.forall_mem_cons.mpr ⟨⟨zwX6_turners, zkX6_turners⟩, List.forall_mem_cons.mpr ⟨⟨zwX6_agree, zkX6_agree⟩, List.forall_mem_cons.mpr ⟨⟨zwX6_flips, zkX6_flips⟩, List.forall_mem_cons.mpr ⟨⟨zwX6_isList, zkX6_isList⟩, List.forall_mem_cons.mpr ⟨⟨zwX6_isItem, zkX6_isItem⟩, List.forall_mem_cons.mpr ⟨⟨zwX6_wrong, zkX6_wrong⟩, List.forall_mem_cons.mpr ⟨⟨zwX6_lays, zkX6_lays⟩, List.forall_mem_cons.mpr ⟨⟨zwX6_laid, zkX6_laid⟩, List.forall_mem_cons.mpr ⟨⟨zwX6_prove, zkX6_prove⟩, fun _ h => absurd h List.not_mem_nil⟩⟩⟩⟩⟩⟩⟩⟩⟩⟩⟩⟩⟩⟩⟩⟩
def z_mt_14 : List z_M := [zmX6_isToldWay, zmX6_isToldLink, zmX6_isBarrier, zmX6_proves, zmX6_allCounts, zmX6_links, zmX6_allBeaten, zmX6_told_, zmX6_list, zmX6_set, zmX6_get, zmX6_image, zmX6_undo, zmJ6_bitCount_0f7a4, zmJ9_floorDiv_7cf53, zmJ9_floorMod_7cf53]
theorem z_mto_14 : ∀ q ∈ z_mt_14, z_cw q ∈ tables_1 ∧ z_mok q = true := List.forall_mem_cons.mpr ⟨⟨zwX6_isToldWay, zkX6_isToldWay⟩, List.forall_mem_cons.mpr ⟨⟨zwX6_isToldLink, zkX6_isToldLink⟩, List.forall_mem_cons.mpr ⟨⟨zwX6_isBarrier, zkX6_isBarrier⟩, List.forall_mem_cons.mpr ⟨⟨zwX6_proves, zkX6_proves⟩, List.forall_mem_cons.mpr ⟨⟨zwX6_allCounts, zkX6_allCounts⟩, List.forall_mem_cons.mpr ⟨⟨zwX6_links, zkX6_links⟩, List.forall_mem_cons.mpr ⟨⟨zwX6_allBeaten, zkX6_allBeaten⟩, List.forall_mem_cons.mpr ⟨⟨zwX6_told_, zkX6_told_⟩, List.forall_mem_cons.mpr ⟨⟨zwX6_list, zkX6_list⟩, List.forall_mem_cons.mpr ⟨⟨zwX6_set, zkX6_set⟩, List.forall_mem_cons.mpr ⟨⟨zwX6_get, zkX6_get⟩, List.forall_mem_cons.mpr ⟨⟨zwX6_image, zkX6_image⟩, List.forall_mem_cons.mpr ⟨⟨zwX6_undo, zkX6_undo⟩, List.forall_mem_cons.mpr ⟨⟨zwJ6_bitCount_0f7a4, zkJ6_bitCount_0f7a4⟩, List.forall_mem_cons.mpr ⟨⟨zwJ9_floorDiv_7cf53, zkJ9_floorDiv_7cf53⟩, List.forall_mem_cons.mpr ⟨⟨zwJ9_floorMod_7cf53, zkJ9_floorMod_7cf53⟩, fun _ h => absurd h List.not_mem_nil⟩⟩⟩⟩⟩⟩⟩⟩⟩⟩⟩⟩⟩⟩⟩⟩
def z_mt_15 : List z_M := [zmJ9_max_7cf53, zmJ9_max_f86c9, zmJ9_min_7cf53, zmJ9_min_f86c9, zmJ7_fill_53178]
theorem z_mto_15 : ∀ q ∈ z_mt_15, z_cw q ∈ tables_1 ∧ z_mok q = true := List.forall_mem_cons.mpr ⟨⟨zwJ9_max_7cf53, zkJ9_max_7cf53⟩, List.forall_mem_cons.mpr ⟨⟨zwJ9_max_f86c9, zkJ9_max_f86c9⟩, List.forall_mem_cons.mpr ⟨⟨zwJ9_min_7cf53, zkJ9_min_7cf53⟩, List.forall_mem_cons.mpr ⟨⟨zwJ9_min_f86c9, zkJ9_min_f86c9⟩, List.forall_mem_cons.mpr ⟨⟨zwJ7_fill_53178, zkJ7_fill_53178⟩, fun _ h => absurd h List.not_mem_nil⟩⟩⟩⟩⟩
set_option maxRecDepth 100000 in
theorem z_mt_eq : z_mt = z_mt_0 ++ (z_mt_1 ++ (z_mt_2 ++ (z_mt_3 ++ (z_mt_4 ++ (z_mt_5 ++ (z_mt_6 ++ (z_mt_7 ++ (z_mt_8 ++ (z_mt_9 ++ (z_mt_10 ++ (z_mt_11 ++ (z_mt_12 ++ (z_mt_13 ++ (z_mt_14 ++ (z_mt_15))))))))))))))) := rfl
theorem z_mt_ok : ∀ q ∈ z_mt, z_cw q ∈ tables_1 ∧ z_mok q = true := by
  rw [z_mt_eq]
  exact List.forall_mem_append.mpr ⟨z_mto_0, List.forall_mem_append.mpr ⟨z_mto_1, List.forall_mem_append.mpr ⟨z_mto_2, List.forall_mem_append.mpr ⟨z_mto_3, List.forall_mem_append.mpr ⟨z_mto_4, List.forall_mem_append.mpr ⟨z_mto_5, List.forall_mem_append.mpr ⟨z_mto_6, List.forall_mem_append.mpr ⟨z_mto_7, List.forall_mem_append.mpr ⟨z_mto_8, List.forall_mem_append.mpr ⟨z_mto_9, List.forall_mem_append.mpr ⟨z_mto_10, List.forall_mem_append.mpr ⟨z_mto_11, List.forall_mem_append.mpr ⟨z_mto_12, List.forall_mem_append.mpr ⟨z_mto_13, List.forall_mem_append.mpr ⟨z_mto_14, z_mto_15⟩⟩⟩⟩⟩⟩⟩⟩⟩⟩⟩⟩⟩⟩⟩
theorem z_lko_0 : (List.range 400).all (z_lok 0) = true := by decide +kernel
theorem z_lko_1 : (List.range 400).all (z_lok 1) = true := by decide +kernel
theorem z_lko_2 : (List.range 400).all (z_lok 2) = true := by decide +kernel
theorem z_lko_3 : (List.range 400).all (z_lok 3) = true := by decide +kernel
theorem z_lko_4 : (List.range 400).all (z_lok 4) = true := by decide +kernel
theorem z_lko_5 : (List.range 400).all (z_lok 5) = true := by decide +kernel
theorem z_lko_6 : (List.range 400).all (z_lok 6) = true := by decide +kernel
theorem z_lko_7 : (List.range 400).all (z_lok 7) = true := by decide +kernel
theorem z_lko_8 : (List.range 400).all (z_lok 8) = true := by decide +kernel
theorem z_lko_9 : (List.range 400).all (z_lok 9) = true := by decide +kernel
theorem z_lk_ok : ∀ (own i : Nat) (e : z_K), z_lk own i = some e → z_lgood own i e (z_lp own i) = true := by
  intro own i e h
  have hi : i < 400 := by
    unfold z_lk at h
    cases hb : Nat.ble i 399 with
    | true => have := Nat.le_of_ble_eq_true hb; omega
    | false => rw [hb] at h; cases h
  have key : ∀ k : Nat, (List.range 400).all (z_lok k) = true → z_lk k i = some e → z_lgood k i e (z_lp k i) = true := by
    intro k hk h
    have h1 := List.all_eq_true.mp hk i (List.mem_range.mpr hi)
    unfold z_lok at h1
    rw [h] at h1
    exact h1
  match own, h with
  | 0, h => exact key 0 z_lko_0 h
  | 1, h => exact key 1 z_lko_1 h
  | 2, h => exact key 2 z_lko_2 h
  | 3, h => exact key 3 z_lko_3 h
  | 4, h => exact key 4 z_lko_4 h
  | 5, h => exact key 5 z_lko_5 h
  | 6, h => exact key 6 z_lko_6 h
  | 7, h => exact key 7 z_lko_7 h
  | 8, h => exact key 8 z_lko_8 h
  | 9, h => exact key 9 z_lko_9 h
  | k + 10, h =>
    unfold z_lk at h
    cases hb : Nat.ble i 399 with
    | true => rw [hb] at h; cases h
    | false => rw [hb] at h; cases h
/-- all the words -/
def z_AW : List Cond := lw_tbl.filter goodWord
theorem z_word_mem {pos : Nat} {w : Cond} (h : z_word pos w = true) : w ∈ z_AW := by
  unfold z_word at h
  rw [Bool.and_eq_true] at h
  exact List.mem_filter.mpr ⟨z_at_mem (of_decide_eq_true h.1), h.2⟩
/-- the words of nest mates -/
def z_NW : List Cond := lw_tbl.filter z_isN
theorem z_wordN_mem {pos : Nat} {w : Cond} (h : z_wordN pos w = true) : w ∈ z_NW := by
  unfold z_wordN at h
  rw [Bool.and_eq_true] at h
  exact List.mem_filter.mpr ⟨z_at_mem (of_decide_eq_true h.1), h.2⟩
def z_N (U : State) : Prop := ∀ w ∈ z_NW, va_Nw w U
theorem z_N_of {Ts : List Cond} {A : Array Value} {U : State} (h : ∀ w ∈ lw_tbl, w.before A U = true) : z_N U := by
  intro w hw
  obtain ⟨h1, h2⟩ := List.mem_filter.mp hw
  have ho : w.onTables = true := by
    cases w <;> first | rfl | (simp [z_isN] at h2)
  exact va_Nw.of ho (h w h1)
theorem z_N_warm {s U : State} (hW : s.WarmedH U.vm) (h : z_N s) : z_N U := by
  intro w hw
  have h1 := h w hw
  obtain ⟨-, h2⟩ := List.mem_filter.mp hw
  cases w <;> first | (exact va_Nw.warmF hW h1) | (exact va_Nw.warmM hW h1) | (simp [z_isN] at h2)
theorem z_N_same {u U : State} (hvm : u.vm = U.vm) (h : z_N u) : z_N U := by
  intro w hw
  have h1 := h w hw
  obtain ⟨-, h2⟩ := List.mem_filter.mp hw
  have ho : w.onTables = true := by
    cases w <;> first | rfl | (simp [z_isN] at h2)
  exact va_Nw.same ho hvm h1
theorem z_AW_good : GoodIn z_AW z_AW := fun w h => ⟨h, good_of_word (List.mem_filter.mp h).2⟩
theorem z_fields_ok : (List.range 7).all (fun ci => match z_cl[ci]? with
  | some (C, T, N) => (u_ws C T N).all (fun w => decide (w ∈ lw_tbl) && goodWord w)
  | none => false) = true := by decide +kernel
theorem z_fields {ci : Nat} {C : String} {T : u_T} {N : Nat} (h : z_cl[ci]? = some (C, T, N)) : ∀ w ∈ u_ws C T N, w ∈ z_AW := by
  intro w hw
  have hci : ci < 7 := (List.getElem?_eq_some_iff.mp h).1
  have h1 := List.all_eq_true.mp z_fields_ok ci (List.mem_range.mpr hci)
  rw [h] at h1
  have h2 := List.all_eq_true.mp h1 w hw
  rw [Bool.and_eq_true] at h2
  exact List.mem_filter.mpr ⟨of_decide_eq_true h2.1, h2.2⟩
theorem z_names {ci : Nat} {C : String} {T : u_T} {N : Nat} (h : z_cl[ci]? = some (C, T, N)) : ∃ ty : Nat → FieldType, (∀ k, k < N → parseFieldDescriptor (T k).2.2.1 = some (ty k)) ∧ ∀ a, a < N → ∀ b, b < N → a ≠ b → (T a).2.1 ≠ (T b).2.1 := by
  match ci, h with
  | 0, h => cases h; exact ⟨_, tyX0_ok, nmX0⟩
  | 1, h => cases h; exact ⟨_, tyX1_ok, nmX1⟩
  | 2, h => cases h; exact ⟨_, tyX2_ok, nmX2⟩
  | 3, h => cases h; exact ⟨_, tyX3_ok, nmX3⟩
  | 4, h => cases h; exact ⟨_, tyX4_ok, nmX4⟩
  | 5, h => cases h; exact ⟨_, tyX5_ok, nmX5⟩
  | 6, h => cases h; exact ⟨_, tyX6_ok, nmX6⟩
  | k + 7, h => simp [z_cl] at h
theorem z_m_of {y : Nat} {q : z_M} (h : z_mt[y]? = some q) : (Cond.code q.1 q.2.1 q.2.2.1 q.2.2.2.1) ∈ z_AW ∧ plainFor q.1 = true ∧ q.2.2.1 ≤ 45 ∧ q.1.cls = z_own q.2.2.2.2.1 ∧ (q.1.cls ≠ "java/lang/invoke/MethodHandle" ∧ q.1.cls ≠ "java/lang/invoke/VarHandle") ∧ ∀ (pc : Nat) (i : Instr), z_F q pc = some i → ∃ n : Nat, decode q.2.1 pc = .ok (i, n) ∧ z_lenok i n = true ∧ z_cok i = true := by
  obtain ⟨hw, hp⟩ := z_mt_ok q (List.mem_of_getElem? h)
  unfold z_mok at hp
  simp only [Bool.and_eq_true] at hp
  obtain ⟨h1, h2, h3, h4, h5, h6, h7⟩ := hp
  refine ⟨List.mem_filter.mpr ⟨List.mem_append_right _ hw, h1⟩, h2, Nat.le_of_ble_eq_true h3, of_decide_eq_true h4, ⟨of_decide_eq_true h5, of_decide_eq_true h6⟩, fun pc i hi => ?_⟩
  have hlt : pc < q.2.2.2.2.2.1 := by
    unfold z_F at hi
    cases hb : Nat.ble (pc + 1) q.2.2.2.2.2.1 with
    | true => have := Nat.le_of_ble_eq_true hb; omega
    | false => rw [hb] at hi; cases hi
  have h8 := z_scan_ok _ 0 h7 rfl pc i (Nat.zero_le pc) hlt hi
  unfold z_dok at h8
  cases hf : zq_d (q.2.1.data.toList.drop pc) with
  | some r =>
    obtain ⟨j, n⟩ := r
    simp only [hf, Bool.and_eq_true] at h8
    have hj : j = i := of_decide_eq_true h8.1
    subst hj
    exact ⟨n, zq_d_ok hf, h8.2.1, h8.2.2⟩
  | none =>
    simp only [hf] at h8
    cases hd : decode q.2.1 pc with
    | error x => simp only [hd] at h8; cases h8
    | ok r =>
      obtain ⟨j, n⟩ := r
      simp only [hd, Bool.and_eq_true] at h8
      have hj : j = i := of_decide_eq_true h8.1
      subst hj
      exact ⟨n, rfl, h8.2.1, h8.2.2⟩
