/-! what the tables say, checked -/
def z_c : Int → Int32
  | .ofNat n => nI n
  | .negSucc n => -nI (n + 1)
def z_cL : Int → Int64
  | .ofNat n => lN n
  | .negSucc n => -lN (n + 1)
def z_len : Instr → Nat
  | .bipush _ | .iload _ | .lload _ | .aload _ | .istore _ | .lstore _ | .astore _ | .ldc _ | .newarray _ => 2
  | .sipush _ | .ldc_w _ | .ldc2_w _ | .iinc _ _ | .goto _ | .ifCond _ _ | .if_icmp _ _ | .getfield _ | .putfield _ | .invokevirtual _ | .invokestatic _ | .invokespecial _ | .new _ | .ifnonnull _ | .ifnull _ | .getstatic _ | .putstatic _ | .anewarray _ | .checkcast _ => 3
  | _ => 1
def z_cok : Instr → Bool
  | .iconst k => decide (Int32.ofInt k = z_c k)
  | .bipush k => decide ((Int8.ofInt k).toInt32 = z_c k)
  | .sipush k => decide ((Int16.ofInt k).toInt32 = z_c k)
  | .iinc _ k => decide (Int32.ofInt k = z_c k)
  | _ => true
def z_lenok : Instr → Nat → Bool
  | .tableswitch _ _ _ _, _ => true
  | i, n => Nat.beq n (z_len i)
def z_F (q : z_M) (pc : Nat) : Option Instr := bif Nat.ble (pc + 1) q.2.2.2.2.2.1 then q.2.2.2.2.2.2 pc else none
def z_dok (l : List UInt8) (cc : ByteArray) (pc : Nat) (i : Instr) : Bool := match zq_d l with
  | some (j, n) => decide (j = i) && (z_lenok i n && z_cok i)
  | none => match decode cc pc with
    | .ok (j, n) => decide (j = i) && (z_lenok i n && z_cok i)
    | .error _ => false
def z_scan (q : z_M) : List UInt8 → Nat → Bool
  | [], pc => Nat.ble q.2.2.2.2.2.1 pc
  | b :: t, pc => (match z_F q pc with
    | none => true
    | some i => z_dok (b :: t) q.2.1 pc i) && z_scan q t (pc + 1)
theorem z_scan_ok {q : z_M} : ∀ (l : List UInt8) (p : Nat), z_scan q l p = true → l = q.2.1.data.toList.drop p → ∀ (pc : Nat) (i : Instr), p ≤ pc → pc < q.2.2.2.2.2.1 → z_F q pc = some i → z_dok (q.2.1.data.toList.drop pc) q.2.1 pc i = true
  | [], p, h, _, pc, i, h1, h2, _ => by
    have := Nat.le_of_ble_eq_true h
    exact absurd h2 (by omega)
  | b :: t, p, h, e, pc, i, h1, h2, hi => by
    have h' : ((match z_F q p with
      | none => true
      | some i => z_dok (b :: t) q.2.1 p i) && z_scan q t (p + 1)) = true := h
    rw [Bool.and_eq_true] at h'
    rcases (by omega : p = pc ∨ p + 1 ≤ pc) with rfl | h3
    · have h4 := h'.1
      rw [hi] at h4
      rw [← e]
      exact h4
    · refine z_scan_ok t (p + 1) h'.2 ?_ pc i h3 h2 hi
      rw [← List.tail_drop, ← e]
      rfl
theorem z_m1 {i : Nat} {w : Cond} (h : tables_1_1[i]? = some w) : w ∈ tables_1 := show w ∈ tables_1_1 ++ (tables_1_2 ++ (tables_1_3 ++ tables_1_4)) from List.mem_append_left _ (List.mem_of_getElem? h)
theorem z_m2 {i : Nat} {w : Cond} (h : tables_1_2[i]? = some w) : w ∈ tables_1 := show w ∈ tables_1_1 ++ (tables_1_2 ++ (tables_1_3 ++ tables_1_4)) from List.mem_append_right _ (List.mem_append_left _ (List.mem_of_getElem? h))
theorem z_m3 {i : Nat} {w : Cond} (h : tables_1_3[i]? = some w) : w ∈ tables_1 := show w ∈ tables_1_1 ++ (tables_1_2 ++ (tables_1_3 ++ tables_1_4)) from List.mem_append_right _ (List.mem_append_right _ (List.mem_append_left _ (List.mem_of_getElem? h)))
theorem z_m4 {i : Nat} {w : Cond} (h : tables_1_4[i]? = some w) : w ∈ tables_1 := show w ∈ tables_1_1 ++ (tables_1_2 ++ (tables_1_3 ++ tables_1_4)) from List.mem_append_right _ (List.mem_append_right _ (List.mem_append_right _ (List.mem_of_getElem? h)))
def z_at2 : Nat → Nat → Option Cond
  | 0, i => tables_1_1[i]?
  | 1, i => tables_1_2[i]?
  | 2, i => tables_1_3[i]?
  | 3, i => tables_1_4[i]?
  | _, _ => none
def z_at (pos : Nat) : Option Cond := bif Nat.ble 18 pos then z_at2 ((pos - 18) / 240) ((pos - 18) % 240) else (k2_sels lw_privs)[pos]?
theorem z_at2_mem : ∀ {k i : Nat} {w : Cond}, z_at2 k i = some w → w ∈ tables_1
  | 0, _, _, h => z_m1 h
  | 1, _, _, h => z_m2 h
  | 2, _, _, h => z_m3 h
  | 3, _, _, h => z_m4 h
  | k + 4, i, w, h => by
    have h2 : (none : Option Cond) = some w := h
    cases h2
theorem z_at_mem {pos : Nat} {w : Cond} (h : z_at pos = some w) : w ∈ lw_tbl := by
  unfold z_at at h
  cases hb : Nat.ble 18 pos with
  | true => rw [hb, cond_true] at h; exact List.mem_append_right _ (z_at2_mem h)
  | false => rw [hb, cond_false] at h; exact List.mem_append_left _ (List.mem_of_getElem? h)
def z_word (pos : Nat) (w : Cond) : Bool := decide (z_at pos = some w) && goodWord w
def z_isN : Cond → Bool
  | .fieldLinkNest _ _ _ _ _ _ | .methodLinkNest _ _ _ _ | .castable _ _ => true
  | _ => false
def z_wordN (pos : Nat) (w : Cond) : Bool := decide (z_at pos = some w) && z_isN w
def z_cw (q : z_M) : Cond := Cond.code q.1 q.2.1 q.2.2.1 q.2.2.2.1
def z_mok (q : z_M) : Bool :=
  goodWord (z_cw q) && (plainFor q.1 && (Nat.ble q.2.2.1 45 && (decide (q.1.cls = z_own q.2.2.2.2.1) && (decide (q.1.cls ≠ "java/lang/invoke/MethodHandle") && (decide (q.1.cls ≠ "java/lang/invoke/VarHandle") &&
  z_scan q q.2.1.data.toList 0)))))
def z_np (q : z_M) (n : Nat) : Bool := decide ((parseMethodDescriptor q.1.desc).map (fun d => d.parameters.length) = some n)
def z_tc : Nat → String → Bool
  | 0, d => decide (d = "I")
  | 1, d => decide (d = "J")
  | 2, d => decide (d = "Z")
  | _, _ => true
def z_lgood (own i : Nat) (e : z_K) (ps : Option (List Nat)) : Bool := match ps with
  | none => false
  | some ps => match e with
    | (0, ci, k, tc, _) => match z_cl[ci]? with
      | some (_, T, N) => Nat.ble (k + 1) N && (z_word (ps.getD 0 0) (.fieldLink (z_own own) i (T k).1 (T k).2.1 (T k).2.2.1) && (z_tc tc (T k).2.2.1 && (Nat.ble 3 tc || !(T k).2.2.2)))
      | none => false
    | (1, ci, k, tc, _) => match z_cl[ci]? with
      | some (_, T, N) => Nat.ble (k + 1) N && (z_wordN (ps.getD 0 0) (.fieldLinkNest (z_own own) i (T k).1 (T k).2.1 (T k).2.2.1 RX5) && (z_tc tc (T k).2.2.1 && (Nat.ble 3 tc || !(T k).2.2.2)))
      | none => false
    | (2, y, n, ci, _) => match z_mt[y]?, z_cl[ci]? with
      | some q, some (C, _, _) => decide (q.1.cls = C) && (z_np q n && (z_word (ps.getD 0 0) (.methodLink (z_own own) i q.1) && (z_word (ps.getD 1 0) (.instanceMethod q.1) && (z_word (ps.getD 2 0) (.selects C q.1 q.1) && z_word (ps.getD 3 0) (.initialized C)))))
      | _, _ => false
    | (3, y, n, _, _) => match z_mt[y]? with
      | some q => z_np q n && (z_word (ps.getD 0 0) (.methodLink (z_own own) i q.1) && (z_word (ps.getD 1 0) (.static q.1) && z_word (ps.getD 2 0) (.initialized q.1.cls)))
      | none => false
    | (4, y, n, _, _) => match z_mt[y]? with
      | some q => z_np q n && (z_wordN (ps.getD 0 0) (.methodLinkNest (z_own own) i q.1 RX5) && (z_word (ps.getD 1 0) (.static q.1) && z_word (ps.getD 2 0) (.initialized q.1.cls)))
      | none => false
    | (5, _, _, _, v) => z_word (ps.getD 0 0) (.constant (z_own own) i (z_c v))
    | (6, _, _, _, v) => z_word (ps.getD 0 0) (.constantLong (z_own own) i (z_cL v))
    | (7, _, _, _, _) => z_word (ps.getD 0 0) (.methodLink (z_own own) i arraycopyName) && (z_word (ps.getD 1 0) (.native arraycopyName) && (z_word (ps.getD 2 0) (.static arraycopyName) && z_word (ps.getD 3 0) (.initialized "java/lang/System")))
    | _ => false
def z_lok (own i : Nat) : Bool := match z_lk own i with
  | none => true
  | some e => z_lgood own i e (z_lp own i)
set_option maxRecDepth 1000000 in
theorem zwX0_init : z_cw zmX0_init ∈ tables_1 := z_m1 (i := 149) rfl
theorem zkX0_init : z_mok zmX0_init = true := by decide +kernel
set_option maxRecDepth 1000000 in
theorem zwX0_has : z_cw zmX0_has ∈ tables_1 := z_m3 (i := 87) rfl
theorem zkX0_has : z_mok zmX0_has = true := by decide +kernel
set_option maxRecDepth 1000000 in
theorem zwX0_holds : z_cw zmX0_holds ∈ tables_1 := z_m3 (i := 100) rfl
theorem zkX0_holds : z_mok zmX0_holds = true := by decide +kernel
set_option maxRecDepth 1000000 in
theorem zwX0_start : z_cw zmX0_start ∈ tables_1 := z_m3 (i := 91) rfl
theorem zkX0_start : z_mok zmX0_start = true := by decide +kernel
set_option maxRecDepth 1000000 in
theorem zwX0_reaches : z_cw zmX0_reaches ∈ tables_1 := z_m3 (i := 108) rfl
theorem zkX0_reaches : z_mok zmX0_reaches = true := by decide +kernel
set_option maxRecDepth 1000000 in
theorem zwX0_read : z_cw zmX0_read ∈ tables_1 := z_m3 (i := 118) rfl
theorem zkX0_read : z_mok zmX0_read = true := by decide +kernel
set_option maxRecDepth 1000000 in
theorem zwX0_lay : z_cw zmX0_lay ∈ tables_1 := z_m3 (i := 104) rfl
theorem zkX0_lay : z_mok zmX0_lay = true := by decide +kernel
set_option maxRecDepth 1000000 in
theorem zwX1_init : z_cw zmX1_init ∈ tables_1 := z_m1 (i := 163) rfl
theorem zkX1_init : z_mok zmX1_init = true := by decide +kernel
set_option maxRecDepth 1000000 in
theorem zwX1_byteAt : z_cw zmX1_byteAt ∈ tables_1 := z_m2 (i := 172) rfl
theorem zkX1_byteAt : z_mok zmX1_byteAt = true := by decide +kernel
set_option maxRecDepth 1000000 in
theorem zwX1_write : z_cw zmX1_write ∈ tables_1 := z_m2 (i := 154) rfl
theorem zkX1_write : z_mok zmX1_write = true := by decide +kernel
set_option maxRecDepth 1000000 in
theorem zwX1_writeBehind : z_cw zmX1_writeBehind ∈ tables_1 := z_m2 (i := 160) rfl
theorem zkX1_writeBehind : z_mok zmX1_writeBehind = true := by decide +kernel
set_option maxRecDepth 1000000 in
theorem zwX1_writeByte : z_cw zmX1_writeByte ∈ tables_1 := z_m2 (i := 164) rfl
theorem zkX1_writeByte : z_mok zmX1_writeByte = true := by decide +kernel
set_option maxRecDepth 1000000 in
theorem zwX2_init : z_cw zmX2_init ∈ tables_1 := z_m1 (i := 31) rfl
theorem zkX2_init : z_mok zmX2_init = true := by decide +kernel
set_option maxRecDepth 1000000 in
theorem zwX2_start : z_cw zmX2_start ∈ tables_1 := z_m1 (i := 36) rfl
theorem zkX2_start : z_mok zmX2_start = true := by decide +kernel
set_option maxRecDepth 1000000 in
theorem zwX2_become : z_cw zmX2_become ∈ tables_1 := z_m2 (i := 34) rfl
theorem zkX2_become : z_mok zmX2_become = true := by decide +kernel
set_option maxRecDepth 1000000 in
theorem zwX2_has : z_cw zmX2_has ∈ tables_1 := z_m1 (i := 210) rfl
theorem zkX2_has : z_mok zmX2_has = true := by decide +kernel
set_option maxRecDepth 1000000 in
theorem zwX2_hasBallot : z_cw zmX2_hasBallot ∈ tables_1 := z_m2 (i := 112) rfl
theorem zkX2_hasBallot : z_mok zmX2_hasBallot = true := by decide +kernel
set_option maxRecDepth 1000000 in
theorem zwX2_all : z_cw zmX2_all ∈ tables_1 := z_m1 (i := 218) rfl
theorem zkX2_all : z_mok zmX2_all = true := by decide +kernel
set_option maxRecDepth 1000000 in
theorem zwX2_ins : z_cw zmX2_ins ∈ tables_1 := z_m1 (i := 214) rfl
theorem zkX2_ins : z_mok zmX2_ins = true := by decide +kernel
set_option maxRecDepth 1000000 in
theorem zwX2_isIn : z_cw zmX2_isIn ∈ tables_1 := z_m1 (i := 222) rfl
theorem zkX2_isIn : z_mok zmX2_isIn = true := by decide +kernel
set_option maxRecDepth 1000000 in
theorem zwX2_countOf : z_cw zmX2_countOf ∈ tables_1 := z_m2 (i := 116) rfl
theorem zkX2_countOf : z_mok zmX2_countOf = true := by decide +kernel
set_option maxRecDepth 1000000 in
theorem zwX2_rankingOf : z_cw zmX2_rankingOf ∈ tables_1 := z_m2 (i := 133) rfl
theorem zkX2_rankingOf : z_mok zmX2_rankingOf = true := by decide +kernel
set_option maxRecDepth 1000000 in
theorem zwX2_ballotOf : z_cw zmX2_ballotOf ∈ tables_1 := z_m2 (i := 82) rfl
theorem zkX2_ballotOf : z_mok zmX2_ballotOf = true := by decide +kernel
set_option maxRecDepth 1000000 in
theorem zwX2_allCounts : z_cw zmX2_allCounts ∈ tables_1 := z_m3 (i := 71) rfl
theorem zkX2_allCounts : z_mok zmX2_allCounts = true := by decide +kernel
set_option maxRecDepth 1000000 in
theorem zwX2_add : z_cw zmX2_add ∈ tables_1 := z_m2 (i := 78) rfl
theorem zkX2_add : z_mok zmX2_add = true := by decide +kernel
set_option maxRecDepth 1000000 in
theorem zwX2_lessen : z_cw zmX2_lessen ∈ tables_1 := z_m2 (i := 121) rfl
theorem zkX2_lessen : z_mok zmX2_lessen = true := by decide +kernel
set_option maxRecDepth 1000000 in
theorem zwX2_closeUp : z_cw zmX2_closeUp ∈ tables_1 := z_m2 (i := 125) rfl
theorem zkX2_closeUp : z_mok zmX2_closeUp = true := by decide +kernel
set_option maxRecDepth 1000000 in
theorem zwX2_drawByNumbers : z_cw zmX2_drawByNumbers ∈ tables_1 := z_m1 (i := 43) rfl
theorem zkX2_drawByNumbers : z_mok zmX2_drawByNumbers = true := by decide +kernel
set_option maxRecDepth 1000000 in
theorem zwX2_drawnAt : z_cw zmX2_drawnAt ∈ tables_1 := z_m2 (i := 14) rfl
theorem zkX2_drawnAt : z_mok zmX2_drawnAt = true := by decide +kernel
set_option maxRecDepth 1000000 in
theorem zwX2_drawBySeed : z_cw zmX2_drawBySeed ∈ tables_1 := z_m2 (i := 6) rfl
theorem zkX2_drawBySeed : z_mok zmX2_drawBySeed = true := by decide +kernel
set_option maxRecDepth 1000000 in
theorem zwX2_drawFirst : z_cw zmX2_drawFirst ∈ tables_1 := z_m1 (i := 238) rfl
theorem zkX2_drawFirst : z_mok zmX2_drawFirst = true := by decide +kernel
set_option maxRecDepth 1000000 in
theorem zwX2_sumOfPlaces : z_cw zmX2_sumOfPlaces ∈ tables_1 := z_m3 (i := 38) rfl
theorem zkX2_sumOfPlaces : z_mok zmX2_sumOfPlaces = true := by decide +kernel
set_option maxRecDepth 1000000 in
theorem zwX2_leadsOf : z_cw zmX2_leadsOf ∈ tables_1 := z_m3 (i := 48) rfl
theorem zkX2_leadsOf : z_mok zmX2_leadsOf = true := by decide +kernel
set_option maxRecDepth 1000000 in
theorem zwX2_manyBehind : z_cw zmX2_manyBehind ∈ tables_1 := z_m3 (i := 42) rfl
theorem zkX2_manyBehind : z_mok zmX2_manyBehind = true := by decide +kernel
set_option maxRecDepth 1000000 in
theorem zwX3_init : z_cw zmX3_init ∈ tables_1 := z_m1 (i := 123) rfl
theorem zkX3_init : z_mok zmX3_init = true := by decide +kernel
set_option maxRecDepth 1000000 in
theorem zwX3_takeByte : z_cw zmX3_takeByte ∈ tables_1 := z_m2 (i := 26) rfl
theorem zkX3_takeByte : z_mok zmX3_takeByte = true := by decide +kernel
set_option maxRecDepth 1000000 in
theorem zwX3_wipe : z_cw zmX3_wipe ∈ tables_1 := z_m2 (i := 104) rfl
theorem zkX3_wipe : z_mok zmX3_wipe = true := by decide +kernel
set_option maxRecDepth 1000000 in
theorem zwX3_rewind : z_cw zmX3_rewind ∈ tables_1 := z_m2 (i := 45) rfl
theorem zkX3_rewind : z_mok zmX3_rewind = true := by decide +kernel
set_option maxRecDepth 1000000 in
theorem zwX3_isRead : z_cw zmX3_isRead ∈ tables_1 := z_m2 (i := 99) rfl
theorem zkX3_isRead : z_mok zmX3_isRead = true := by decide +kernel
set_option maxRecDepth 1000000 in
theorem zwX3_sign : z_cw zmX3_sign ∈ tables_1 := z_m2 (i := 57) rfl
theorem zkX3_sign : z_mok zmX3_sign = true := by decide +kernel
set_option maxRecDepth 1000000 in
theorem zwX3_passes : z_cw zmX3_passes ∈ tables_1 := z_m2 (i := 62) rfl
theorem zkX3_passes : z_mok zmX3_passes = true := by decide +kernel
set_option maxRecDepth 1000000 in
theorem zwX3_figure : z_cw zmX3_figure ∈ tables_1 := z_m2 (i := 53) rfl
theorem zkX3_figure : z_mok zmX3_figure = true := by decide +kernel
set_option maxRecDepth 1000000 in
theorem zwX3_readCount : z_cw zmX3_readCount ∈ tables_1 := z_m2 (i := 49) rfl
theorem zkX3_readCount : z_mok zmX3_readCount = true := by decide +kernel
set_option maxRecDepth 1000000 in
theorem zwX3_readRanking : z_cw zmX3_readRanking ∈ tables_1 := z_m2 (i := 66) rfl
theorem zkX3_readRanking : z_mok zmX3_readRanking = true := by decide +kernel
set_option maxRecDepth 1000000 in
theorem zwX3_placeOthers : z_cw zmX3_placeOthers ∈ tables_1 := z_m2 (i := 74) rfl
theorem zkX3_placeOthers : z_mok zmX3_placeOthers = true := by decide +kernel
set_option maxRecDepth 1000000 in
theorem zwX4_init : z_cw zmX4_init ∈ tables_1 := z_m1 (i := 82) rfl
theorem zkX4_init : z_mok zmX4_init = true := by decide +kernel
set_option maxRecDepth 1000000 in
theorem zwX4_load : z_cw zmX4_load ∈ tables_1 := z_m2 (i := 184) rfl
theorem zkX4_load : z_mok zmX4_load = true := by decide +kernel
set_option maxRecDepth 1000000 in
theorem zwX4_leaveOut : z_cw zmX4_leaveOut ∈ tables_1 := z_m3 (i := 58) rfl
theorem zkX4_leaveOut : z_mok zmX4_leaveOut = true := by decide +kernel
set_option maxRecDepth 1000000 in
theorem zwX4_reckon : z_cw zmX4_reckon ∈ tables_1 := z_m2 (i := 191) rfl
theorem zkX4_reckon : z_mok zmX4_reckon = true := by decide +kernel
set_option maxRecDepth 1000000 in
theorem zwX4_goThrough : z_cw zmX4_goThrough ∈ tables_1 := z_m2 (i := 206) rfl
theorem zkX4_goThrough : z_mok zmX4_goThrough = true := by decide +kernel
set_option maxRecDepth 1000000 in
theorem zwX4_beatersOf : z_cw zmX4_beatersOf ∈ tables_1 := z_m2 (i := 213) rfl
theorem zkX4_beatersOf : z_mok zmX4_beatersOf = true := by decide +kernel
set_option maxRecDepth 1000000 in
theorem zwX4_linkBetween : z_cw zmX4_linkBetween ∈ tables_1 := z_m2 (i := 195) rfl
theorem zkX4_linkBetween : z_mok zmX4_linkBetween = true := by decide +kernel
set_option maxRecDepth 1000000 in
theorem zwX4_ratioStrength : z_cw zmX4_ratioStrength ∈ tables_1 := z_m2 (i := 200) rfl
theorem zkX4_ratioStrength : z_mok zmX4_ratioStrength = true := by decide +kernel
set_option maxRecDepth 1000000 in
theorem zwX4_knows : z_cw zmX4_knows ∈ tables_1 := z_m3 (i := 23) rfl
theorem zkX4_knows : z_mok zmX4_knows = true := by decide +kernel
set_option maxRecDepth 1000000 in
theorem zwX4_linkStrength : z_cw zmX4_linkStrength ∈ tables_1 := z_m3 (i := 19) rfl
theorem zkX4_linkStrength : z_mok zmX4_linkStrength = true := by decide +kernel
set_option maxRecDepth 1000000 in
theorem zwX4_unbeaten : z_cw zmX4_unbeaten ∈ tables_1 := z_m2 (i := 217) rfl
theorem zkX4_unbeaten : z_mok zmX4_unbeaten = true := by decide +kernel
set_option maxRecDepth 1000000 in
theorem zwX4_firstOf : z_cw zmX4_firstOf ∈ tables_1 := z_m2 (i := 229) rfl
theorem zkX4_firstOf : z_mok zmX4_firstOf = true := by decide +kernel
set_option maxRecDepth 1000000 in
theorem zwX4_first : z_cw zmX4_first ∈ tables_1 := z_m3 (i := 62) rfl
theorem zkX4_first : z_mok zmX4_first = true := by decide +kernel
set_option maxRecDepth 1000000 in
theorem zwX4_rankedAt : z_cw zmX4_rankedAt ∈ tables_1 := z_m2 (i := 225) rfl
theorem zkX4_rankedAt : z_mok zmX4_rankedAt = true := by decide +kernel
set_option maxRecDepth 1000000 in
theorem zwX4_placeByRanks : z_cw zmX4_placeByRanks ∈ tables_1 := z_m2 (i := 238) rfl
theorem zkX4_placeByRanks : z_mok zmX4_placeByRanks = true := by decide +kernel
set_option maxRecDepth 1000000 in
theorem zwX4_leastTopSet : z_cw zmX4_leastTopSet ∈ tables_1 := z_m3 (i := 7) rfl
theorem zkX4_leastTopSet : z_mok zmX4_leastTopSet = true := by decide +kernel
set_option maxRecDepth 1000000 in
theorem zwX4_grow : z_cw zmX4_grow ∈ tables_1 := z_m3 (i := 11) rfl
theorem zkX4_grow : z_mok zmX4_grow = true := by decide +kernel
set_option maxRecDepth 1000000 in
theorem zwX4_unlinkedFrom : z_cw zmX4_unlinkedFrom ∈ tables_1 := z_m3 (i := 15) rfl
theorem zkX4_unlinkedFrom : z_mok zmX4_unlinkedFrom = true := by decide +kernel
set_option maxRecDepth 1000000 in
theorem zwX4_manyLinks : z_cw zmX4_manyLinks ∈ tables_1 := z_m3 (i := 75) rfl
theorem zkX4_manyLinks : z_mok zmX4_manyLinks = true := by decide +kernel
set_option maxRecDepth 1000000 in
theorem zwX4_manyOver : z_cw zmX4_manyOver ∈ tables_1 := z_m3 (i := 79) rfl
theorem zkX4_manyOver : z_mok zmX4_manyOver = true := by decide +kernel
set_option maxRecDepth 1000000 in
theorem zwX5_init : z_cw zmX5_init ∈ tables_1 := z_m1 (i := 23) rfl
theorem zkX5_init : z_mok zmX5_init = true := by decide +kernel
set_option maxRecDepth 1000000 in
theorem zwX5_begin : z_cw zmX5_begin ∈ tables_1 := z_m1 (i := 201) rfl
theorem zkX5_begin : z_mok zmX5_begin = true := by decide +kernel
set_option maxRecDepth 1000000 in
theorem zwX5_out : z_cw zmX5_out ∈ tables_1 := z_m1 (i := 206) rfl
theorem zkX5_out : z_mok zmX5_out = true := by decide +kernel
set_option maxRecDepth 1000000 in
theorem zwX5_measure : z_cw zmX5_measure ∈ tables_1 := z_m1 (i := 230) rfl
theorem zkX5_measure : z_mok zmX5_measure = true := by decide +kernel
set_option maxRecDepth 1000000 in
theorem zwX5_ahead : z_cw zmX5_ahead ∈ tables_1 := z_m1 (i := 234) rfl
theorem zkX5_ahead : z_mok zmX5_ahead = true := by decide +kernel
set_option maxRecDepth 1000000 in
theorem zwX5_shuffle : z_cw zmX5_shuffle ∈ tables_1 := z_m2 (i := 2) rfl
theorem zkX5_shuffle : z_mok zmX5_shuffle = true := by decide +kernel
set_option maxRecDepth 1000000 in
theorem zwX5_drawn : z_cw zmX5_drawn ∈ tables_1 := z_m2 (i := 18) rfl
theorem zkX5_drawn : z_mok zmX5_drawn = true := by decide +kernel
set_option maxRecDepth 1000000 in
theorem zwX5_feed : z_cw zmX5_feed ∈ tables_1 := z_m2 (i := 22) rfl
theorem zkX5_feed : z_mok zmX5_feed = true := by decide +kernel
set_option maxRecDepth 1000000 in
theorem zwX5_ballots : z_cw zmX5_ballots ∈ tables_1 := z_m2 (i := 30) rfl
theorem zkX5_ballots : z_mok zmX5_ballots = true := by decide +kernel
set_option maxRecDepth 1000000 in
theorem zwX5_remove : z_cw zmX5_remove ∈ tables_1 := z_m2 (i := 108) rfl
theorem zkX5_remove : z_mok zmX5_remove = true := by decide +kernel
set_option maxRecDepth 1000000 in
theorem zwX5_ballot : z_cw zmX5_ballot ∈ tables_1 := z_m2 (i := 129) rfl
theorem zkX5_ballot : z_mok zmX5_ballot = true := by decide +kernel
set_option maxRecDepth 1000000 in
theorem zwX5_find : z_cw zmX5_find ∈ tables_1 := z_m2 (i := 141) rfl
theorem zkX5_find : z_mok zmX5_find = true := by decide +kernel
set_option maxRecDepth 1000000 in
theorem zwX5_spell : z_cw zmX5_spell ∈ tables_1 := z_m2 (i := 150) rfl
theorem zkX5_spell : z_mok zmX5_spell = true := by decide +kernel
set_option maxRecDepth 1000000 in
theorem zwX5_paper : z_cw zmX5_paper ∈ tables_1 := z_m2 (i := 168) rfl
theorem zkX5_paper : z_mok zmX5_paper = true := by decide +kernel
set_option maxRecDepth 1000000 in
theorem zwX5_winners : z_cw zmX5_winners ∈ tables_1 := z_m2 (i := 176) rfl
theorem zkX5_winners : z_mok zmX5_winners = true := by decide +kernel
set_option maxRecDepth 1000000 in
theorem zwX5_ranked : z_cw zmX5_ranked ∈ tables_1 := z_m2 (i := 221) rfl
theorem zkX5_ranked : z_mok zmX5_ranked = true := by decide +kernel
set_option maxRecDepth 1000000 in
theorem zwX5_rank : z_cw zmX5_rank ∈ tables_1 := z_m2 (i := 234) rfl
theorem zkX5_rank : z_mok zmX5_rank = true := by decide +kernel
set_option maxRecDepth 1000000 in
theorem zwX5_smith : z_cw zmX5_smith ∈ tables_1 := z_m3 (i := 3) rfl
theorem zkX5_smith : z_mok zmX5_smith = true := by decide +kernel
set_option maxRecDepth 1000000 in
theorem zwX5_sum : z_cw zmX5_sum ∈ tables_1 := z_m3 (i := 33) rfl
theorem zkX5_sum : z_mok zmX5_sum = true := by decide +kernel
set_option maxRecDepth 1000000 in
theorem zwX5_without : z_cw zmX5_without ∈ tables_1 := z_m3 (i := 54) rfl
theorem zkX5_without : z_mok zmX5_without = true := by decide +kernel
set_option maxRecDepth 1000000 in
theorem zwX5_told : z_cw zmX5_told ∈ tables_1 := z_m3 (i := 67) rfl
theorem zkX5_told : z_mok zmX5_told = true := by decide +kernel
set_option maxRecDepth 1000000 in
theorem zwX5_list : z_cw zmX5_list ∈ tables_1 := z_m3 (i := 83) rfl
theorem zkX5_list : z_mok zmX5_list = true := by decide +kernel
set_option maxRecDepth 1000000 in
theorem zwX5_set : z_cw zmX5_set ∈ tables_1 := z_m3 (i := 96) rfl
theorem zkX5_set : z_mok zmX5_set = true := by decide +kernel
set_option maxRecDepth 1000000 in
theorem zwX5_get : z_cw zmX5_get ∈ tables_1 := z_m3 (i := 113) rfl
theorem zkX5_get : z_mok zmX5_get = true := by decide +kernel
set_option maxRecDepth 1000000 in
theorem zwX5_image : z_cw zmX5_image ∈ tables_1 := z_m3 (i := 122) rfl
theorem zkX5_image : z_mok zmX5_image = true := by decide +kernel
set_option maxRecDepth 1000000 in
theorem zwX5_undo : z_cw zmX5_undo ∈ tables_1 := z_m3 (i := 126) rfl
theorem zkX5_undo : z_mok zmX5_undo = true := by decide +kernel
set_option maxRecDepth 1000000 in
theorem zwX5_lookAtWays : z_cw zmX5_lookAtWays ∈ tables_1 := z_m2 (i := 180) rfl
theorem zkX5_lookAtWays : z_mok zmX5_lookAtWays = true := by decide +kernel
set_option maxRecDepth 1000000 in
theorem zwX5_readRankingAlone : z_cw zmX5_readRankingAlone ∈ tables_1 := z_m2 (i := 145) rfl
theorem zkX5_readRankingAlone : z_mok zmX5_readRankingAlone = true := by decide +kernel
set_option maxRecDepth 1000000 in
theorem zwX5_readParts : z_cw zmX5_readParts ∈ tables_1 := z_m2 (i := 41) rfl
theorem zkX5_readParts : z_mok zmX5_readParts = true := by decide +kernel
set_option maxRecDepth 1000000 in
theorem zwX5_hasBit : z_cw zmX5_hasBit ∈ tables_1 := z_m1 (i := 226) rfl
theorem zkX5_hasBit : z_mok zmX5_hasBit = true := by decide +kernel
set_option maxRecDepth 1000000 in
theorem zwX5_placeOf : z_cw zmX5_placeOf ∈ tables_1 := z_m2 (i := 95) rfl
theorem zkX5_placeOf : z_mok zmX5_placeOf = true := by decide +kernel
set_option maxRecDepth 1000000 in
theorem zwX5_withPlace : z_cw zmX5_withPlace ∈ tables_1 := z_m2 (i := 70) rfl
theorem zkX5_withPlace : z_mok zmX5_withPlace = true := by decide +kernel
set_option maxRecDepth 1000000 in
theorem zwX5_placesIn : z_cw zmX5_placesIn ∈ tables_1 := z_m2 (i := 136) rfl
theorem zkX5_placesIn : z_mok zmX5_placesIn = true := by decide +kernel
set_option maxRecDepth 1000000 in
theorem zwX5_cell : z_cw zmX5_cell ∈ tables_1 := z_m2 (i := 92) rfl
theorem zkX5_cell : z_mok zmX5_cell = true := by decide +kernel
set_option maxRecDepth 1000000 in
theorem zwX5_countPairs : z_cw zmX5_countPairs ∈ tables_1 := z_m2 (i := 89) rfl
theorem zkX5_countPairs : z_mok zmX5_countPairs = true := by decide +kernel
set_option maxRecDepth 1000000 in
theorem zwJ5_init_d00df : z_cw zmJ5_init_d00df ∈ tables_1 := z_m3 (i := 200) rfl
theorem zkJ5_init_d00df : z_mok zmJ5_init_d00df = true := by decide +kernel
set_option maxRecDepth 1000000 in
theorem zwJ5_length_8abf5 : z_cw zmJ5_length_8abf5 ∈ tables_1 := z_m4 (i := 131) rfl
theorem zkJ5_length_8abf5 : z_mok zmJ5_length_8abf5 = true := by decide +kernel
set_option maxRecDepth 1000000 in
theorem zwJ5_ensureCapacityInternal_d00df : z_cw zmJ5_ensureCapacityInternal_d00df ∈ tables_1 := z_m3 (i := 238) rfl
theorem zkJ5_ensureCapacityInternal_d00df : z_mok zmJ5_ensureCapacityInternal_d00df = true := by decide +kernel
set_option maxRecDepth 1000000 in
theorem zwJ5_newCapacity_0f7a4 : z_cw zmJ5_newCapacity_0f7a4 ∈ tables_1 := z_m4 (i := 2) rfl
theorem zkJ5_newCapacity_0f7a4 : z_mok zmJ5_newCapacity_0f7a4 = true := by decide +kernel
set_option maxRecDepth 1000000 in
theorem zwJ5_append_cf1ce : z_cw zmJ5_append_cf1ce ∈ tables_1 := z_m3 (i := 230) rfl
theorem zkJ5_append_cf1ce : z_mok zmJ5_append_cf1ce = true := by decide +kernel
set_option maxRecDepth 1000000 in
theorem zwJ5_append_3fe6f : z_cw zmJ5_append_3fe6f ∈ tables_1 := z_m4 (i := 180) rfl
theorem zkJ5_append_3fe6f : z_mok zmJ5_append_3fe6f = true := by decide +kernel
set_option maxRecDepth 1000000 in
theorem zwJ5_append_c97b9 : z_cw zmJ5_append_c97b9 ∈ tables_1 := z_m4 (i := 87) rfl
theorem zkJ5_append_c97b9 : z_mok zmJ5_append_c97b9 = true := by decide +kernel
set_option maxRecDepth 1000000 in
theorem zwJ5_getValue_6d5f1 : z_cw zmJ5_getValue_6d5f1 ∈ tables_1 := z_m4 (i := 123) rfl
theorem zkJ5_getValue_6d5f1 : z_mok zmJ5_getValue_6d5f1 = true := by decide +kernel
set_option maxRecDepth 1000000 in
theorem zwJ5_isLatin1_aae02 : z_cw zmJ5_isLatin1_aae02 ∈ tables_1 := z_m4 (i := 28) rfl
theorem zkJ5_isLatin1_aae02 : z_mok zmJ5_isLatin1_aae02 = true := by decide +kernel
set_option maxRecDepth 1000000 in
theorem zwJ5_inflateIfNeededFor_a7421 : z_cw zmJ5_inflateIfNeededFor_a7421 ∈ tables_1 := z_m4 (i := 52) rfl
theorem zkJ5_inflateIfNeededFor_a7421 : z_mok zmJ5_inflateIfNeededFor_a7421 = true := by decide +kernel
set_option maxRecDepth 1000000 in
theorem zwJ5_putStringAt_47b60 : z_cw zmJ5_putStringAt_47b60 ∈ tables_1 := z_m4 (i := 48) rfl
theorem zkJ5_putStringAt_47b60 : z_mok zmJ5_putStringAt_47b60 = true := by decide +kernel
set_option maxRecDepth 1000000 in
theorem zwJ6_getChars_ba4f3 : z_cw zmJ6_getChars_ba4f3 ∈ tables_1 := z_m4 (i := 93) rfl
theorem zkJ6_getChars_ba4f3 : z_mok zmJ6_getChars_ba4f3 = true := by decide +kernel
set_option maxRecDepth 1000000 in
theorem zwJ6_stringSize_0f7a4 : z_cw zmJ6_stringSize_0f7a4 ∈ tables_1 := z_m4 (i := 90) rfl
theorem zkJ6_stringSize_0f7a4 : z_mok zmJ6_stringSize_0f7a4 = true := by decide +kernel
set_option maxRecDepth 1000000 in
theorem zwJ6_bitCount_0f7a4 : z_cw zmJ6_bitCount_0f7a4 ∈ tables_1 := z_m3 (i := 26) rfl
theorem zkJ6_bitCount_0f7a4 : z_mok zmJ6_bitCount_0f7a4 = true := by decide +kernel
set_option maxRecDepth 1000000 in
theorem zwJ9_max_7cf53 : z_cw zmJ9_max_7cf53 ∈ tables_1 := z_m2 (i := 86) rfl
theorem zkJ9_max_7cf53 : z_mok zmJ9_max_7cf53 = true := by decide +kernel
set_option maxRecDepth 1000000 in
theorem zwJ9_min_7cf53 : z_cw zmJ9_min_7cf53 ∈ tables_1 := z_m2 (i := 9) rfl
theorem zkJ9_min_7cf53 : z_mok zmJ9_min_7cf53 = true := by decide +kernel
set_option maxRecDepth 1000000 in
theorem zwJ9_min_f86c9 : z_cw zmJ9_min_f86c9 ∈ tables_1 := z_m2 (i := 209) rfl
theorem zkJ9_min_f86c9 : z_mok zmJ9_min_f86c9 = true := by decide +kernel
set_option maxRecDepth 1000000 in
theorem zwJ0_init_81219 : z_cw zmJ0_init_81219 ∈ tables_1 := z_m4 (i := 114) rfl
theorem zkJ0_init_81219 : z_mok zmJ0_init_81219 = true := by decide +kernel
set_option maxRecDepth 1000000 in
theorem zwJ0_length_8abf5 : z_cw zmJ0_length_8abf5 ∈ tables_1 := z_m3 (i := 138) rfl
theorem zkJ0_length_8abf5 : z_mok zmJ0_length_8abf5 = true := by decide +kernel
set_option maxRecDepth 1000000 in
theorem zwJ0_charAt_5068e : z_cw zmJ0_charAt_5068e ∈ tables_1 := z_m3 (i := 148) rfl
theorem zkJ0_charAt_5068e : z_mok zmJ0_charAt_5068e = true := by decide +kernel
set_option maxRecDepth 1000000 in
theorem zwJ0_getBytes_840e7 : z_cw zmJ0_getBytes_840e7 ∈ tables_1 := z_m4 (i := 76) rfl
theorem zkJ0_getBytes_840e7 : z_mok zmJ0_getBytes_840e7 = true := by decide +kernel
set_option maxRecDepth 1000000 in
theorem zwJ0_init_db425 : z_cw zmJ0_init_db425 ∈ tables_1 := z_m4 (i := 117) rfl
theorem zkJ0_init_db425 : z_mok zmJ0_init_db425 = true := by decide +kernel
set_option maxRecDepth 1000000 in
theorem zwJ0_coder_7d493 : z_cw zmJ0_coder_7d493 ∈ tables_1 := z_m3 (i := 142) rfl
theorem zkJ0_coder_7d493 : z_mok zmJ0_coder_7d493 = true := by decide +kernel
set_option maxRecDepth 1000000 in
theorem zwJ0_isLatin1_aae02 : z_cw zmJ0_isLatin1_aae02 ∈ tables_1 := z_m3 (i := 152) rfl
theorem zkJ0_isLatin1_aae02 : z_mok zmJ0_isLatin1_aae02 = true := by decide +kernel
set_option maxRecDepth 1000000 in
theorem zwJ0_checkIndex_df160 : z_cw zmJ0_checkIndex_df160 ∈ tables_1 := z_m3 (i := 158) rfl
theorem zkJ0_checkIndex_df160 : z_mok zmJ0_checkIndex_df160 = true := by decide +kernel
set_option maxRecDepth 1000000 in
theorem zwJ4_init_da8c8 : z_cw zmJ4_init_da8c8 ∈ tables_1 := z_m3 (i := 197) rfl
theorem zkJ4_init_da8c8 : z_mok zmJ4_init_da8c8 = true := by decide +kernel
set_option maxRecDepth 1000000 in
theorem zwJ4_append_15ec4 : z_cw zmJ4_append_15ec4 ∈ tables_1 := z_m3 (i := 227) rfl
theorem zkJ4_append_15ec4 : z_mok zmJ4_append_15ec4 = true := by decide +kernel
set_option maxRecDepth 1000000 in
theorem zwJ4_append_cf468 : z_cw zmJ4_append_cf468 ∈ tables_1 := z_m4 (i := 177) rfl
theorem zkJ4_append_cf468 : z_mok zmJ4_append_cf468 = true := by decide +kernel
set_option maxRecDepth 1000000 in
theorem zwJ4_append_bf812 : z_cw zmJ4_append_bf812 ∈ tables_1 := z_m4 (i := 84) rfl
theorem zkJ4_append_bf812 : z_mok zmJ4_append_bf812 = true := by decide +kernel
set_option maxRecDepth 1000000 in
theorem zwJ4_toString_0e30d : z_cw zmJ4_toString_0e30d ∈ tables_1 := z_m4 (i := 109) rfl
theorem zkJ4_toString_0e30d : z_mok zmJ4_toString_0e30d = true := by decide +kernel
set_option maxRecDepth 1000000 in
theorem zwJ4_length_8abf5 : z_cw zmJ4_length_8abf5 ∈ tables_1 := z_m4 (i := 129) rfl
theorem zkJ4_length_8abf5 : z_mok zmJ4_length_8abf5 = true := by decide +kernel
set_option maxRecDepth 1000000 in
theorem zwJ1_charAt_3b067 : z_cw zmJ1_charAt_3b067 ∈ tables_1 := z_m3 (i := 155) rfl
theorem zkJ1_charAt_3b067 : z_mok zmJ1_charAt_3b067 = true := by decide +kernel
set_option maxRecDepth 1000000 in
theorem zwJ1_canEncode_fc78d : z_cw zmJ1_canEncode_fc78d ∈ tables_1 := z_m4 (i := 183) rfl
theorem zkJ1_canEncode_fc78d : z_mok zmJ1_canEncode_fc78d = true := by decide +kernel
set_option maxRecDepth 1000000 in
theorem zwJ7_fill_53178 : z_cw zmJ7_fill_53178 ∈ tables_1 := z_m1 (i := 39) rfl
theorem zkJ7_fill_53178 : z_mok zmJ7_fill_53178 = true := by decide +kernel
set_option maxRecDepth 1000000 in
theorem zwJ7_copyOf_9075b : z_cw zmJ7_copyOf_9075b ∈ tables_1 := z_m4 (i := 14) rfl
theorem zkJ7_copyOf_9075b : z_mok zmJ7_copyOf_9075b = true := by decide +kernel
set_option maxRecDepth 1000000 in
theorem zwJ7_checkLength_df160 : z_cw zmJ7_checkLength_df160 ∈ tables_1 := z_m4 (i := 141) rfl
theorem zkJ7_checkLength_df160 : z_mok zmJ7_checkLength_df160 = true := by decide +kernel
set_option maxRecDepth 1000000 in
theorem zwJ7_copyOfRange_39247 : z_cw zmJ7_copyOfRange_39247 ∈ tables_1 := z_m4 (i := 135) rfl
theorem zkJ7_copyOfRange_39247 : z_mok zmJ7_copyOfRange_39247 = true := by decide +kernel
set_option maxRecDepth 1000000 in
theorem zwJ7_copyOfRangeByte_39247 : z_cw zmJ7_copyOfRangeByte_39247 ∈ tables_1 := z_m4 (i := 138) rfl
theorem zkJ7_copyOfRangeByte_39247 : z_mok zmJ7_copyOfRangeByte_39247 = true := by decide +kernel
set_option maxRecDepth 1000000 in
theorem zwJ8_newLength_cabcc : z_cw zmJ8_newLength_cabcc ∈ tables_1 := z_m4 (i := 5) rfl
theorem zkJ8_newLength_cabcc : z_mok zmJ8_newLength_cabcc = true := by decide +kernel
set_option maxRecDepth 1000000 in
theorem zwJ3_checkIndex_8e157 : z_cw zmJ3_checkIndex_8e157 ∈ tables_1 := z_m3 (i := 163) rfl
theorem zkJ3_checkIndex_8e157 : z_mok zmJ3_checkIndex_8e157 = true := by decide +kernel
set_option maxRecDepth 1000000 in
theorem zwL_cell : z_cw zmL_cell ∈ tables_1 := z_m3 (i := 129) rfl
theorem zkL_cell : z_mok zmL_cell = true := by decide +kernel
set_option maxRecDepth 1000000 in
theorem zwL_feeds : z_cw zmL_feeds ∈ tables_1 := z_m3 (i := 134) rfl
theorem zkL_feeds : z_mok zmL_feeds = true := by decide +kernel
set_option maxRecDepth 1000000 in
theorem zwL_ranking : z_cw zmL_ranking ∈ tables_1 := z_m3 (i := 185) rfl
theorem zkL_ranking : z_mok zmL_ranking = true := by decide +kernel
set_option maxRecDepth 1000000 in
theorem zwL_places : z_cw zmL_places ∈ tables_1 := z_m3 (i := 188) rfl
theorem zkL_places : z_mok zmL_places = true := by decide +kernel
set_option maxRecDepth 1000000 in
theorem zwL_told : z_cw zmL_told ∈ tables_1 := z_m3 (i := 191) rfl
theorem zkL_told : z_mok zmL_told = true := by decide +kernel
set_option maxRecDepth 1000000 in
theorem zwL_areAlike : z_cw zmL_areAlike ∈ tables_1 := z_m4 (i := 170) rfl
theorem zkL_areAlike : z_mok zmL_areAlike = true := by decide +kernel
set_option maxRecDepth 1000000 in
theorem zwL_comes : z_cw zmL_comes ∈ tables_1 := z_m4 (i := 165) rfl
theorem zkL_comes : z_mok zmL_comes = true := by decide +kernel
set_option maxRecDepth 1000000 in
theorem zwL_bits : z_cw zmL_bits ∈ tables_1 := z_m4 (i := 173) rfl
theorem zkL_bits : z_mok zmL_bits = true := by decide +kernel
def z_mt_0 : List z_M := [zmX0_init, zmX0_has, zmX0_holds, zmX0_start, zmX0_reaches, zmX0_read, zmX0_lay, zmX1_init, zmX1_byteAt, zmX1_write, zmX1_writeBehind, zmX1_writeByte, zmX2_init, zmX2_start, zmX2_become, zmX2_has]
theorem z_mto_0 : ∀ q ∈ z_mt_0, z_cw q ∈ tables_1 ∧ z_mok q = true := List.forall_mem_cons.mpr ⟨⟨zwX0_init, zkX0_init⟩, List.forall_mem_cons.mpr ⟨⟨zwX0_has, zkX0_has⟩, List.forall_mem_cons.mpr ⟨⟨zwX0_holds, zkX0_holds⟩, List.forall_mem_cons.mpr ⟨⟨zwX0_start, zkX0_start⟩, List.forall_mem_cons.mpr ⟨⟨zwX0_reaches, zkX0_reaches⟩, List.forall_mem_cons.mpr ⟨⟨zwX0_read, zkX0_read⟩, List.forall_mem_cons.mpr ⟨⟨zwX0_lay, zkX0_lay⟩, List.forall_mem_cons.mpr ⟨⟨zwX1_init, zkX1_init⟩, List.forall_mem_cons.mpr ⟨⟨zwX1_byteAt, zkX1_byteAt⟩, List.forall_mem_cons.mpr ⟨⟨zwX1_write, zkX1_write⟩, List.forall_mem_cons.mpr ⟨⟨zwX1_writeBehind, zkX1_writeBehind⟩, List.forall_mem_cons.mpr ⟨⟨zwX1_writeByte, zkX1_writeByte⟩, List.forall_mem_cons.mpr ⟨⟨zwX2_init, zkX2_init⟩, List.forall_mem_cons.mpr ⟨⟨zwX2_start, zkX2_start⟩, List.forall_mem_cons.mpr ⟨⟨zwX2_become, zkX2_become⟩, List.forall_mem_cons.mpr ⟨⟨zwX2_has, zkX2_has⟩, fun _ h => absurd h List.not_mem_nil⟩⟩⟩⟩⟩⟩⟩⟩⟩⟩⟩⟩⟩⟩⟩⟩
def z_mt_1 : List z_M := [zmX2_hasBallot, zmX2_all, zmX2_ins, zmX2_isIn, zmX2_countOf, zmX2_rankingOf, zmX2_ballotOf, zmX2_allCounts, zmX2_add, zmX2_lessen, zmX2_closeUp, zmX2_drawByNumbers, zmX2_drawnAt, zmX2_drawBySeed, zmX2_drawFirst, zmX2_sumOfPlaces]
theorem z_mto_1 : ∀ q ∈ z_mt_1, z_cw q ∈ tables_1 ∧ z_mok q = true := List.forall_mem_cons.mpr ⟨⟨zwX2_hasBallot, zkX2_hasBallot⟩, List.forall_mem_cons.mpr ⟨⟨zwX2_all, zkX2_all⟩, List.forall_mem_cons.mpr ⟨⟨zwX2_ins, zkX2_ins⟩, List.forall_mem_cons.mpr ⟨⟨zwX2_isIn, zkX2_isIn⟩, List.forall_mem_cons.mpr ⟨⟨zwX2_countOf, zkX2_countOf⟩, List.forall_mem_cons.mpr ⟨⟨zwX2_rankingOf, zkX2_rankingOf⟩, List.forall_mem_cons.mpr ⟨⟨zwX2_ballotOf, zkX2_ballotOf⟩, List.forall_mem_cons.mpr ⟨⟨zwX2_allCounts, zkX2_allCounts⟩, List.forall_mem_cons.mpr ⟨⟨zwX2_add, zkX2_add⟩, List.forall_mem_cons.mpr ⟨⟨zwX2_lessen, zkX2_lessen⟩, List.forall_mem_cons.mpr ⟨⟨zwX2_closeUp, zkX2_closeUp⟩, List.forall_mem_cons.mpr ⟨⟨zwX2_drawByNumbers, zkX2_drawByNumbers⟩, List.forall_mem_cons.mpr ⟨⟨zwX2_drawnAt, zkX2_drawnAt⟩, List.forall_mem_cons.mpr ⟨⟨zwX2_drawBySeed, zkX2_drawBySeed⟩, List.forall_mem_cons.mpr ⟨⟨zwX2_drawFirst, zkX2_drawFirst⟩, List.forall_mem_cons.mpr ⟨⟨zwX2_sumOfPlaces, zkX2_sumOfPlaces⟩, fun _ h => absurd h List.not_mem_nil⟩⟩⟩⟩⟩⟩⟩⟩⟩⟩⟩⟩⟩⟩⟩⟩
def z_mt_2 : List z_M := [zmX2_leadsOf, zmX2_manyBehind, zmX3_init, zmX3_takeByte, zmX3_wipe, zmX3_rewind, zmX3_isRead, zmX3_sign, zmX3_passes, zmX3_figure, zmX3_readCount, zmX3_readRanking, zmX3_placeOthers, zmX4_init, zmX4_load, zmX4_leaveOut]
theorem z_mto_2 : ∀ q ∈ z_mt_2, z_cw q ∈ tables_1 ∧ z_mok q = true := List.forall_mem_cons.mpr ⟨⟨zwX2_leadsOf, zkX2_leadsOf⟩, List.forall_mem_cons.mpr ⟨⟨zwX2_manyBehind, zkX2_manyBehind⟩, List.forall_mem_cons.mpr ⟨⟨zwX3_init, zkX3_init⟩, List.forall_mem_cons.mpr ⟨⟨zwX3_takeByte, zkX3_takeByte⟩, List.forall_mem_cons.mpr ⟨⟨zwX3_wipe, zkX3_wipe⟩, List.forall_mem_cons.mpr ⟨⟨zwX3_rewind, zkX3_rewind⟩, List.forall_mem_cons.mpr ⟨⟨zwX3_isRead, zkX3_isRead⟩, List.forall_mem_cons.mpr ⟨⟨zwX3_sign, zkX3_sign⟩, List.forall_mem_cons.mpr ⟨⟨zwX3_passes, zkX3_passes⟩, List.forall_mem_cons.mpr ⟨⟨zwX3_figure, zkX3_figure⟩, List.forall_mem_cons.mpr ⟨⟨zwX3_readCount, zkX3_readCount⟩, List.forall_mem_cons.mpr ⟨⟨zwX3_readRanking, zkX3_readRanking⟩, List.forall_mem_cons.mpr ⟨⟨zwX3_placeOthers, zkX3_placeOthers⟩, List.forall_mem_cons.mpr ⟨⟨zwX4_init, zkX4_init⟩, List.forall_mem_cons.mpr ⟨⟨zwX4_load, zkX4_load⟩, List.forall_mem_cons.mpr ⟨⟨zwX4_leaveOut, zkX4_leaveOut⟩, fun _ h => absurd h List.not_mem_nil⟩⟩⟩⟩⟩⟩⟩⟩⟩⟩⟩⟩⟩⟩⟩⟩
def z_mt_3 : List z_M := [zmX4_reckon, zmX4_goThrough, zmX4_beatersOf, zmX4_linkBetween, zmX4_ratioStrength, zmX4_knows, zmX4_linkStrength, zmX4_unbeaten, zmX4_firstOf, zmX4_first, zmX4_rankedAt, zmX4_placeByRanks, zmX4_leastTopSet, zmX4_grow, zmX4_unlinkedFrom, zmX4_manyLinks]
theorem z_mto_3 : ∀ q ∈ z_mt_3, z_cw q ∈ tables_1 ∧ z_mok q = true := List.forall_mem_cons.mpr ⟨⟨zwX4_reckon, zkX4_reckon⟩, List.forall_mem_cons.mpr ⟨⟨zwX4_goThrough, zkX4_goThrough⟩, List.forall_mem_cons.mpr ⟨⟨zwX4_beatersOf, zkX4_beatersOf⟩, List.forall_mem_cons.mpr ⟨⟨zwX4_linkBetween, zkX4_linkBetween⟩, List.forall_mem_cons.mpr ⟨⟨zwX4_ratioStrength, zkX4_ratioStrength⟩, List.forall_mem_cons.mpr ⟨⟨zwX4_knows, zkX4_knows⟩, List.forall_mem_cons.mpr ⟨⟨zwX4_linkStrength, zkX4_linkStrength⟩, List.forall_mem_cons.mpr ⟨⟨zwX4_unbeaten, zkX4_unbeaten⟩, List.forall_mem_cons.mpr ⟨⟨zwX4_firstOf, zkX4_firstOf⟩, List.forall_mem_cons.mpr ⟨⟨zwX4_first, zkX4_first⟩, List.forall_mem_cons.mpr ⟨⟨zwX4_rankedAt, zkX4_rankedAt⟩, List.forall_mem_cons.mpr ⟨⟨zwX4_placeByRanks, zkX4_placeByRanks⟩, List.forall_mem_cons.mpr ⟨⟨zwX4_leastTopSet, zkX4_leastTopSet⟩, List.forall_mem_cons.mpr ⟨⟨zwX4_grow, zkX4_grow⟩, List.forall_mem_cons.mpr ⟨⟨zwX4_unlinkedFrom, zkX4_unlinkedFrom⟩, List.forall_mem_cons.mpr ⟨⟨zwX4_manyLinks, zkX4_manyLinks⟩, fun _ h => absurd h List.not_mem_nil⟩⟩⟩⟩⟩⟩⟩⟩⟩⟩⟩⟩⟩⟩⟩⟩
def z_mt_4 : List z_M := [zmX4_manyOver, zmX5_init, zmX5_begin, zmX5_out, zmX5_measure, zmX5_ahead, zmX5_shuffle, zmX5_drawn, zmX5_feed, zmX5_ballots, zmX5_remove, zmX5_ballot, zmX5_find, zmX5_spell, zmX5_paper, zmX5_winners]
theorem z_mto_4 : ∀ q ∈ z_mt_4, z_cw q ∈ tables_1 ∧ z_mok q = true := List.forall_mem_cons.mpr ⟨⟨zwX4_manyOver, zkX4_manyOver⟩, List.forall_mem_cons.mpr ⟨⟨zwX5_init, zkX5_init⟩, List.forall_mem_cons.mpr ⟨⟨zwX5_begin, zkX5_begin⟩, List.forall_mem_cons.mpr ⟨⟨zwX5_out, zkX5_out⟩, List.forall_mem_cons.mpr ⟨⟨zwX5_measure, zkX5_measure⟩, List.forall_mem_cons.mpr ⟨⟨zwX5_ahead, zkX5_ahead⟩, List.forall_mem_cons.mpr ⟨⟨zwX5_shuffle, zkX5_shuffle⟩, List.forall_mem_cons.mpr ⟨⟨zwX5_drawn, zkX5_drawn⟩, List.forall_mem_cons.mpr ⟨⟨zwX5_feed, zkX5_feed⟩, List.forall_mem_cons.mpr ⟨⟨zwX5_ballots, zkX5_ballots⟩, List.forall_mem_cons.mpr ⟨⟨zwX5_remove, zkX5_remove⟩, List.forall_mem_cons.mpr ⟨⟨zwX5_ballot, zkX5_ballot⟩, List.forall_mem_cons.mpr ⟨⟨zwX5_find, zkX5_find⟩, List.forall_mem_cons.mpr ⟨⟨zwX5_spell, zkX5_spell⟩, List.forall_mem_cons.mpr ⟨⟨zwX5_paper, zkX5_paper⟩, List.forall_mem_cons.mpr ⟨⟨zwX5_winners, zkX5_winners⟩, fun _ h => absurd h List.not_mem_nil⟩⟩⟩⟩⟩⟩⟩⟩⟩⟩⟩⟩⟩⟩⟩⟩
def z_mt_5 : List z_M := [zmX5_ranked, zmX5_rank, zmX5_smith, zmX5_sum, zmX5_without, zmX5_told, zmX5_list, zmX5_set, zmX5_get, zmX5_image, zmX5_undo, zmX5_lookAtWays, zmX5_readRankingAlone, zmX5_readParts, zmX5_hasBit, zmX5_placeOf]
theorem z_mto_5 : ∀ q ∈ z_mt_5, z_cw q ∈ tables_1 ∧ z_mok q = true := List.forall_mem_cons.mpr ⟨⟨zwX5_ranked, zkX5_ranked⟩, List.forall_mem_cons.mpr ⟨⟨zwX5_rank, zkX5_rank⟩, List.forall_mem_cons.mpr ⟨⟨zwX5_smith, zkX5_smith⟩, List.forall_mem_cons.mpr ⟨⟨zwX5_sum, zkX5_sum⟩, List.forall_mem_cons.mpr ⟨⟨zwX5_without, zkX5_without⟩, List.forall_mem_cons.mpr ⟨⟨zwX5_told, zkX5_told⟩, List.forall_mem_cons.mpr ⟨⟨zwX5_list, zkX5_list⟩, List.forall_mem_cons.mpr ⟨⟨zwX5_set, zkX5_set⟩, List.forall_mem_cons.mpr ⟨⟨zwX5_get, zkX5_get⟩, List.forall_mem_cons.mpr ⟨⟨zwX5_image, zkX5_image⟩, List.forall_mem_cons.mpr ⟨⟨zwX5_undo, zkX5_undo⟩, List.forall_mem_cons.mpr ⟨⟨zwX5_lookAtWays, zkX5_lookAtWays⟩, List.forall_mem_cons.mpr ⟨⟨zwX5_readRankingAlone, zkX5_readRankingAlone⟩, List.forall_mem_cons.mpr ⟨⟨zwX5_readParts, zkX5_readParts⟩, List.forall_mem_cons.mpr ⟨⟨zwX5_hasBit, zkX5_hasBit⟩, List.forall_mem_cons.mpr ⟨⟨zwX5_placeOf, zkX5_placeOf⟩, fun _ h => absurd h List.not_mem_nil⟩⟩⟩⟩⟩⟩⟩⟩⟩⟩⟩⟩⟩⟩⟩⟩
def z_mt_6 : List z_M := [zmX5_withPlace, zmX5_placesIn, zmX5_cell, zmX5_countPairs, zmJ5_init_d00df, zmJ5_length_8abf5, zmJ5_ensureCapacityInternal_d00df, zmJ5_newCapacity_0f7a4, zmJ5_append_cf1ce, zmJ5_append_3fe6f, zmJ5_append_c97b9, zmJ5_getValue_6d5f1, zmJ5_isLatin1_aae02, zmJ5_inflateIfNeededFor_a7421, zmJ5_putStringAt_47b60, zmJ6_getChars_ba4f3]
theorem z_mto_6 : ∀ q ∈ z_mt_6, z_cw q ∈ tables_1 ∧ z_mok q = true := List.forall_mem_cons.mpr ⟨⟨zwX5_withPlace, zkX5_withPlace⟩, List.forall_mem_cons.mpr ⟨⟨zwX5_placesIn, zkX5_placesIn⟩, List.forall_mem_cons.mpr ⟨⟨zwX5_cell, zkX5_cell⟩, List.forall_mem_cons.mpr ⟨⟨zwX5_countPairs, zkX5_countPairs⟩, List.forall_mem_cons.mpr ⟨⟨zwJ5_init_d00df, zkJ5_init_d00df⟩, List.forall_mem_cons.mpr ⟨⟨zwJ5_length_8abf5, zkJ5_length_8abf5⟩, List.forall_mem_cons.mpr ⟨⟨zwJ5_ensureCapacityInternal_d00df, zkJ5_ensureCapacityInternal_d00df⟩, List.forall_mem_cons.mpr ⟨⟨zwJ5_newCapacity_0f7a4, zkJ5_newCapacity_0f7a4⟩, List.forall_mem_cons.mpr ⟨⟨zwJ5_append_cf1ce, zkJ5_append_cf1ce⟩, List.forall_mem_cons.mpr ⟨⟨zwJ5_append_3fe6f, zkJ5_append_3fe6f⟩, List.forall_mem_cons.mpr ⟨⟨zwJ5_append_c97b9, zkJ5_append_c97b9⟩, List.forall_mem_cons.mpr ⟨⟨zwJ5_getValue_6d5f1, zkJ5_getValue_6d5f1⟩, List.forall_mem_cons.mpr ⟨⟨zwJ5_isLatin1_aae02, zkJ5_isLatin1_aae02⟩, List.forall_mem_cons.mpr ⟨⟨zwJ5_inflateIfNeededFor_a7421, zkJ5_inflateIfNeededFor_a7421⟩, List.forall_mem_cons.mpr ⟨⟨zwJ5_putStringAt_47b60, zkJ5_putStringAt_47b60⟩, List.forall_mem_cons.mpr ⟨⟨zwJ6_getChars_ba4f3, zkJ6_getChars_ba4f3⟩, fun _ h => absurd h List.not_mem_nil⟩⟩⟩⟩⟩⟩⟩⟩⟩⟩⟩⟩⟩⟩⟩⟩
def z_mt_7 : List z_M := [zmJ6_stringSize_0f7a4, zmJ6_bitCount_0f7a4, zmJ9_max_7cf53, zmJ9_min_7cf53, zmJ9_min_f86c9, zmJ0_init_81219, zmJ0_length_8abf5, zmJ0_charAt_5068e, zmJ0_getBytes_840e7, zmJ0_init_db425, zmJ0_coder_7d493, zmJ0_isLatin1_aae02, zmJ0_checkIndex_df160, zmJ4_init_da8c8, zmJ4_append_15ec4, zmJ4_append_cf468]
theorem z_mto_7 : ∀ q ∈ z_mt_7, z_cw q ∈ tables_1 ∧ z_mok q = true := List.forall_mem_cons.mpr ⟨⟨zwJ6_stringSize_0f7a4, zkJ6_stringSize_0f7a4⟩, List.forall_mem_cons.mpr ⟨⟨zwJ6_bitCount_0f7a4, zkJ6_bitCount_0f7a4⟩, List.forall_mem_cons.mpr ⟨⟨zwJ9_max_7cf53, zkJ9_max_7cf53⟩, List.forall_mem_cons.mpr ⟨⟨zwJ9_min_7cf53, zkJ9_min_7cf53⟩, List.forall_mem_cons.mpr ⟨⟨zwJ9_min_f86c9, zkJ9_min_f86c9⟩, List.forall_mem_cons.mpr ⟨⟨zwJ0_init_81219, zkJ0_init_81219⟩, List.forall_mem_cons.mpr ⟨⟨zwJ0_length_8abf5, zkJ0_length_8abf5⟩, List.forall_mem_cons.mpr ⟨⟨zwJ0_charAt_5068e, zkJ0_charAt_5068e⟩, List.forall_mem_cons.mpr ⟨⟨zwJ0_getBytes_840e7, zkJ0_getBytes_840e7⟩, List.forall_mem_cons.mpr ⟨⟨zwJ0_init_db425, zkJ0_init_db425⟩, List.forall_mem_cons.mpr ⟨⟨zwJ0_coder_7d493, zkJ0_coder_7d493⟩, List.forall_mem_cons.mpr ⟨⟨zwJ0_isLatin1_aae02, zkJ0_isLatin1_aae02⟩, List.forall_mem_cons.mpr ⟨⟨zwJ0_checkIndex_df160, zkJ0_checkIndex_df160⟩, List.forall_mem_cons.mpr ⟨⟨zwJ4_init_da8c8, zkJ4_init_da8c8⟩, List.forall_mem_cons.mpr ⟨⟨zwJ4_append_15ec4, zkJ4_append_15ec4⟩, List.forall_mem_cons.mpr ⟨⟨zwJ4_append_cf468, zkJ4_append_cf468⟩, fun _ h => absurd h List.not_mem_nil⟩⟩⟩⟩⟩⟩⟩⟩⟩⟩⟩⟩⟩⟩⟩⟩
def z_mt_8 : List z_M := [zmJ4_append_bf812, zmJ4_toString_0e30d, zmJ4_length_8abf5, zmJ1_charAt_3b067, zmJ1_canEncode_fc78d, zmJ7_fill_53178, zmJ7_copyOf_9075b, zmJ7_checkLength_df160, zmJ7_copyOfRange_39247, zmJ7_copyOfRangeByte_39247, zmJ8_newLength_cabcc, zmJ3_checkIndex_8e157, zmL_cell, zmL_feeds, zmL_ranking, zmL_places]
theorem z_mto_8 : ∀ q ∈ z_mt_8, z_cw q ∈ tables_1 ∧ z_mok q = true := List.forall_mem_cons.mpr ⟨⟨zwJ4_append_bf812, zkJ4_append_bf812⟩, List.forall_mem_cons.mpr ⟨⟨zwJ4_toString_0e30d, zkJ4_toString_0e30d⟩, List.forall_mem_cons.mpr ⟨⟨zwJ4_length_8abf5, zkJ4_length_8abf5⟩, List.forall_mem_cons.mpr ⟨⟨zwJ1_charAt_3b067, zkJ1_charAt_3b067⟩, List.forall_mem_cons.mpr ⟨⟨zwJ1_canEncode_fc78d, zkJ1_canEncode_fc78d⟩, List.forall_mem_cons.mpr ⟨⟨zwJ7_fill_53178, zkJ7_fill_53178⟩, List.forall_mem_cons.mpr ⟨⟨zwJ7_copyOf_9075b, zkJ7_copyOf_9075b⟩, List.forall_mem_cons.mpr ⟨⟨zwJ7_checkLength_df160, zkJ7_checkLength_df160⟩, List.forall_mem_cons.mpr ⟨⟨zwJ7_copyOfRange_39247, zkJ7_copyOfRange_39247⟩, List.forall_mem_cons.mpr ⟨⟨zwJ7_copyOfRangeByte_39247, zkJ7_copyOfRangeByte_39247⟩, List.forall_mem_cons.mpr ⟨⟨zwJ8_newLength_cabcc, zkJ8_newLength_cabcc⟩, List.forall_mem_cons.mpr ⟨⟨zwJ3_checkIndex_8e157, zkJ3_checkIndex_8e157⟩, List.forall_mem_cons.mpr ⟨⟨zwL_cell, zkL_cell⟩, List.forall_mem_cons.mpr ⟨⟨zwL_feeds, zkL_feeds⟩, List.forall_mem_cons.mpr ⟨⟨zwL_ranking, zkL_ranking⟩, List.forall_mem_cons.mpr ⟨⟨zwL_places, zkL_places⟩, fun _ h => absurd h List.not_mem_nil⟩⟩⟩⟩⟩⟩⟩⟩⟩⟩⟩⟩⟩⟩⟩⟩
def z_mt_9 : List z_M := [zmL_told, zmL_areAlike, zmL_comes, zmL_bits]
theorem z_mto_9 : ∀ q ∈ z_mt_9, z_cw q ∈ tables_1 ∧ z_mok q = true := List.forall_mem_cons.mpr ⟨⟨zwL_told, zkL_told⟩, List.forall_mem_cons.mpr ⟨⟨zwL_areAlike, zkL_areAlike⟩, List.forall_mem_cons.mpr ⟨⟨zwL_comes, zkL_comes⟩, List.forall_mem_cons.mpr ⟨⟨zwL_bits, zkL_bits⟩, fun _ h => absurd h List.not_mem_nil⟩⟩⟩⟩
set_option maxRecDepth 100000 in
theorem z_mt_eq : z_mt = z_mt_0 ++ (z_mt_1 ++ (z_mt_2 ++ (z_mt_3 ++ (z_mt_4 ++ (z_mt_5 ++ (z_mt_6 ++ (z_mt_7 ++ (z_mt_8 ++ (z_mt_9))))))))) := rfl
theorem z_mt_ok : ∀ q ∈ z_mt, z_cw q ∈ tables_1 ∧ z_mok q = true := by
  rw [z_mt_eq]
  exact List.forall_mem_append.mpr ⟨z_mto_0, List.forall_mem_append.mpr ⟨z_mto_1, List.forall_mem_append.mpr ⟨z_mto_2, List.forall_mem_append.mpr ⟨z_mto_3, List.forall_mem_append.mpr ⟨z_mto_4, List.forall_mem_append.mpr ⟨z_mto_5, List.forall_mem_append.mpr ⟨z_mto_6, List.forall_mem_append.mpr ⟨z_mto_7, List.forall_mem_append.mpr ⟨z_mto_8, z_mto_9⟩⟩⟩⟩⟩⟩⟩⟩⟩
theorem z_lko_0 : (List.range 400).all (z_lok 0) = true := by decide +kernel
theorem z_lko_1 : (List.range 400).all (z_lok 1) = true := by decide +kernel
theorem z_lko_2 : (List.range 400).all (z_lok 2) = true := by decide +kernel
theorem z_lko_3 : (List.range 400).all (z_lok 3) = true := by decide +kernel
theorem z_lko_4 : (List.range 400).all (z_lok 4) = true := by decide +kernel
theorem z_lko_5 : (List.range 400).all (z_lok 5) = true := by decide +kernel
theorem z_lko_6 : (List.range 400).all (z_lok 6) = true := by decide +kernel
theorem z_lko_7 : (List.range 400).all (z_lok 7) = true := by decide +kernel
theorem z_lko_8 : (List.range 400).all (z_lok 8) = true := by decide +kernel
theorem z_lko_9 : (List.range 400).all (z_lok 9) = true := by decide +kernel
theorem z_lko_10 : (List.range 400).all (z_lok 10) = true := by decide +kernel
theorem z_lko_11 : (List.range 400).all (z_lok 11) = true := by decide +kernel
theorem z_lko_12 : (List.range 400).all (z_lok 12) = true := by decide +kernel
theorem z_lko_13 : (List.range 400).all (z_lok 13) = true := by decide +kernel
theorem z_lko_14 : (List.range 400).all (z_lok 14) = true := by decide +kernel
theorem z_lko_15 : (List.range 400).all (z_lok 15) = true := by decide +kernel
theorem z_lko_16 : (List.range 400).all (z_lok 16) = true := by decide +kernel
theorem z_lk_ok : ∀ (own i : Nat) (e : z_K), z_lk own i = some e → z_lgood own i e (z_lp own i) = true := by
  intro own i e h
  have hi : i < 400 := by
    unfold z_lk at h
    cases hb : Nat.ble i 399 with
    | true => have := Nat.le_of_ble_eq_true hb; omega
    | false => rw [hb] at h; cases h
  have key : ∀ k : Nat, (List.range 400).all (z_lok k) = true → z_lk k i = some e → z_lgood k i e (z_lp k i) = true := by
    intro k hk h
    have h1 := List.all_eq_true.mp hk i (List.mem_range.mpr hi)
    unfold z_lok at h1
    rw [h] at h1
    exact h1
  match own, h with
  | 0, h => exact key 0 z_lko_0 h
  | 1, h => exact key 1 z_lko_1 h
  | 2, h => exact key 2 z_lko_2 h
  | 3, h => exact key 3 z_lko_3 h
  | 4, h => exact key 4 z_lko_4 h
  | 5, h => exact key 5 z_lko_5 h
  | 6, h => exact key 6 z_lko_6 h
  | 7, h => exact key 7 z_lko_7 h
  | 8, h => exact key 8 z_lko_8 h
  | 9, h => exact key 9 z_lko_9 h
  | 10, h => exact key 10 z_lko_10 h
  | 11, h => exact key 11 z_lko_11 h
  | 12, h => exact key 12 z_lko_12 h
  | 13, h => exact key 13 z_lko_13 h
  | 14, h => exact key 14 z_lko_14 h
  | 15, h => exact key 15 z_lko_15 h
  | 16, h => exact key 16 z_lko_16 h
  | k + 17, h =>
    unfold z_lk at h
    cases hb : Nat.ble i 399 with
    | true => rw [hb] at h; cases h
    | false => rw [hb] at h; cases h

/-- what the tables say of the private methods of StringBuilder's superclass -/
def y_prv : List MethodName := [yJ5_ensureCapacityInternal_d00df, yJ5_newCapacity_0f7a4, yJ5_putStringAt_47b60, yJ5_inflateIfNeededFor_a7421]
def y_sels : List Cond := y_prv.map (fun y => Cond.selects RJ4 y y)
def z_AW : List Cond := (y_sels ++ lw_tbl).filter goodWord
theorem z_lw {w : Cond} (h : w ∈ lw_tbl) (g : goodWord w = true) : w ∈ z_AW := List.mem_filter.mpr ⟨List.mem_append_right _ h, g⟩
theorem y_selM {y : MethodName} (h : y ∈ y_prv) (g : goodWord (Cond.selects RJ4 y y) = true) : Cond.selects RJ4 y y ∈ z_AW := List.mem_filter.mpr ⟨List.mem_append_left _ (List.mem_map.mpr ⟨y, h, rfl⟩), g⟩
theorem z_word_mem {pos : Nat} {w : Cond} (h : z_word pos w = true) : w ∈ z_AW := by
  unfold z_word at h
  rw [Bool.and_eq_true] at h
  exact z_lw (z_at_mem (of_decide_eq_true h.1)) h.2
/-- the words of nest mates -/
def z_NW : List Cond := lw_tbl.filter z_isN
theorem z_wordN_mem {pos : Nat} {w : Cond} (h : z_wordN pos w = true) : w ∈ z_NW := by
  unfold z_wordN at h
  rw [Bool.and_eq_true] at h
  exact List.mem_filter.mpr ⟨z_at_mem (of_decide_eq_true h.1), h.2⟩
def z_N (U : State) : Prop := ∀ w ∈ z_NW, va_Nw w U
theorem z_N_of {Ts : List Cond} {A : Array Value} {U : State} (h : ∀ w ∈ lw_tbl, w.before A U = true) : z_N U := by
  intro w hw
  obtain ⟨h1, h2⟩ := List.mem_filter.mp hw
  have ho : w.onTables = true := by
    cases w <;> first | rfl | (simp [z_isN] at h2)
  exact va_Nw.of ho (h w h1)
theorem z_N_warm {s U : State} (hW : s.WarmedH U.vm) (h : z_N s) : z_N U := by
  intro w hw
  have h1 := h w hw
  obtain ⟨-, h2⟩ := List.mem_filter.mp hw
  cases w <;> first | (exact va_Nw.warmF hW h1) | (exact va_Nw.warmM hW h1) | (exact va_Nw.warmC hW h1) | (simp [z_isN] at h2)
theorem z_N_same {u U : State} (hvm : u.vm = U.vm) (h : z_N u) : z_N U := by
  intro w hw
  have h1 := h w hw
  obtain ⟨-, h2⟩ := List.mem_filter.mp hw
  have ho : w.onTables = true := by
    cases w <;> first | rfl | (simp [z_isN] at h2)
  exact va_Nw.same ho hvm h1
theorem z_AW_good : GoodIn z_AW z_AW := fun w h => ⟨h, good_of_word (List.mem_filter.mp h).2⟩
theorem z_fields_ok : (List.range 8).all (fun ci => match z_cl[ci]? with
  | some (C, T, N) => (u_ws C T N).all (fun w => decide (w ∈ lw_tbl) && goodWord w)
  | none => false) = true := by decide +kernel
theorem z_fields {ci : Nat} {C : String} {T : u_T} {N : Nat} (h : z_cl[ci]? = some (C, T, N)) : ∀ w ∈ u_ws C T N, w ∈ z_AW := by
  intro w hw
  have hci : ci < 8 := (List.getElem?_eq_some_iff.mp h).1
  have h1 := List.all_eq_true.mp z_fields_ok ci (List.mem_range.mpr hci)
  rw [h] at h1
  have h2 := List.all_eq_true.mp h1 w hw
  rw [Bool.and_eq_true] at h2
  exact z_lw (of_decide_eq_true h2.1) h2.2
theorem z_names {ci : Nat} {C : String} {T : u_T} {N : Nat} (h : z_cl[ci]? = some (C, T, N)) : ∃ ty : Nat → FieldType, (∀ k, k < N → parseFieldDescriptor (T k).2.2.1 = some (ty k)) ∧ ∀ a, a < N → ∀ b, b < N → a ≠ b → (T a).2.1 ≠ (T b).2.1 := by
  match ci, h with
  | 0, h => cases h; exact ⟨_, tyX0_ok, nmX0⟩
  | 1, h => cases h; exact ⟨_, tyX1_ok, nmX1⟩
  | 2, h => cases h; exact ⟨_, tyX2_ok, nmX2⟩
  | 3, h => cases h; exact ⟨_, tyX3_ok, nmX3⟩
  | 4, h => cases h; exact ⟨_, tyX4_ok, nmX4⟩
  | 5, h => cases h; exact ⟨_, tyX5_ok, nmX5⟩
  | 6, h => cases h; exact ⟨_, tyJ0_ok, nmJ0⟩
  | 7, h => cases h; exact ⟨_, tyJ4_ok, nmJ4⟩
  | k + 8, h => simp [z_cl] at h
theorem z_m_of {y : Nat} {q : z_M} (h : z_mt[y]? = some q) : (Cond.code q.1 q.2.1 q.2.2.1 q.2.2.2.1) ∈ z_AW ∧ plainFor q.1 = true ∧ q.2.2.1 ≤ 45 ∧ q.1.cls = z_own q.2.2.2.2.1 ∧ (q.1.cls ≠ "java/lang/invoke/MethodHandle" ∧ q.1.cls ≠ "java/lang/invoke/VarHandle") ∧ ∀ (pc : Nat) (i : Instr), z_F q pc = some i → ∃ n : Nat, decode q.2.1 pc = .ok (i, n) ∧ z_lenok i n = true ∧ z_cok i = true := by
  obtain ⟨hw, hp⟩ := z_mt_ok q (List.mem_of_getElem? h)
  unfold z_mok at hp
  simp only [Bool.and_eq_true] at hp
  obtain ⟨h1, h2, h3, h4, h5, h6, h7⟩ := hp
  refine ⟨z_lw (List.mem_append_right _ hw) h1, h2, Nat.le_of_ble_eq_true h3, of_decide_eq_true h4, ⟨of_decide_eq_true h5, of_decide_eq_true h6⟩, fun pc i hi => ?_⟩
  have hlt : pc < q.2.2.2.2.2.1 := by
    unfold z_F at hi
    cases hb : Nat.ble (pc + 1) q.2.2.2.2.2.1 with
    | true => have := Nat.le_of_ble_eq_true hb; omega
    | false => rw [hb] at hi; cases hi
  have h8 := z_scan_ok _ 0 h7 rfl pc i (Nat.zero_le pc) hlt hi
  unfold z_dok at h8
  cases hf : zq_d (q.2.1.data.toList.drop pc) with
  | some r =>
    obtain ⟨j, n⟩ := r
    simp only [hf, Bool.and_eq_true] at h8
    have hj : j = i := of_decide_eq_true h8.1
    subst hj
    exact ⟨n, zq_d_ok hf, h8.2.1, h8.2.2⟩
  | none =>
    simp only [hf] at h8
    cases hd : decode q.2.1 pc with
    | error x => simp only [hd] at h8; cases h8
    | ok r =>
      obtain ⟨j, n⟩ := r
      simp only [hd, Bool.and_eq_true] at h8
      have hj : j = i := of_decide_eq_true h8.1
      subst hj
      exact ⟨n, rfl, h8.2.1, h8.2.2⟩
