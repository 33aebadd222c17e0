/-! what the tables say, checked -/
def z_c : Int → Int32
  | .ofNat n => nI n
  | .negSucc n => -nI (n + 1)
def z_cL : Int → Int64
  | .ofNat n => lN n
  | .negSucc n => -lN (n + 1)
def z_len : Instr → Nat
  | .bipush _ | .iload _ | .lload _ | .aload _ | .istore _ | .lstore _ | .astore _ | .ldc _ | .newarray _ => 2
  | .sipush _ | .ldc_w _ | .ldc2_w _ | .iinc _ _ | .goto _ | .ifCond _ _ | .if_icmp _ _ | .getfield _ | .putfield _ | .invokevirtual _ | .invokestatic _ | .invokespecial _ | .new _ => 3
  | _ => 1
def z_cok : Instr → Bool
  | .iconst k => decide (Int32.ofInt k = z_c k)
  | .bipush k => decide ((Int8.ofInt k).toInt32 = z_c k)
  | .sipush k => decide ((Int16.ofInt k).toInt32 = z_c k)
  | .iinc _ k => decide (Int32.ofInt k = z_c k)
  | _ => true
def z_lenok : Instr → Nat → Bool
  | .tableswitch _ _ _ _, _ => true
  | i, n => Nat.beq n (z_len i)
def z_F (q : z_M) (pc : Nat) : Option Instr := bif Nat.ble (pc + 1) q.2.2.2.2.2.1 then q.2.2.2.2.2.2 pc else none
def z_dok (cc : ByteArray) (pc : Nat) (i : Instr) : Bool := match decode cc pc with
  | .ok (j, n) => decide (j = i) && (z_lenok i n && z_cok i)
  | .error _ => false
def z_word (pos : Nat) (w : Cond) : Bool := decide (lw_tbl[pos]? = some w) && goodWord w
def z_isN : Cond → Bool
  | .fieldLinkNest _ _ _ _ _ _ | .methodLinkNest _ _ _ _ => true
  | _ => false
def z_wordN (pos : Nat) (w : Cond) : Bool := decide (lw_tbl[pos]? = some w) && z_isN w
def z_cw (q : z_M) : Cond := Cond.code q.1 q.2.1 q.2.2.1 q.2.2.2.1
def z_mok (q : z_M) : Bool :=
  goodWord (z_cw q) && (plainFor q.1 && (Nat.ble q.2.2.1 45 && (decide (q.1.cls = z_own q.2.2.2.2.1) && (decide (q.1.cls ≠ "java/lang/invoke/MethodHandle") && (decide (q.1.cls ≠ "java/lang/invoke/VarHandle") &&
  (List.range q.2.2.2.2.2.1).all (fun pc => match z_F q pc with
    | none => true
    | some i => z_dok q.2.1 pc i))))))
def z_np (q : z_M) (n : Nat) : Bool := decide ((parseMethodDescriptor q.1.desc).map (fun d => d.parameters.length) = some n)
def z_tc : Nat → String → Bool
  | 0, d => decide (d = "I")
  | 1, d => decide (d = "J")
  | 2, d => decide (d = "Z")
  | _, _ => true
def z_lgood (own i : Nat) (e : z_K) (ps : Option (List Nat)) : Bool := match ps with
  | none => false
  | some ps => match e with
    | (0, ci, k, tc, _) => match z_cl[ci]? with
      | some (_, T, N) => Nat.ble (k + 1) N && (z_word (ps.getD 0 0) (.fieldLink (z_own own) i (T k).1 (T k).2.1 (T k).2.2.1) && (z_tc tc (T k).2.2.1 && (Nat.ble 3 tc || !(T k).2.2.2)))
      | none => false
    | (1, ci, k, tc, _) => match z_cl[ci]? with
      | some (_, T, N) => Nat.ble (k + 1) N && (z_wordN (ps.getD 0 0) (.fieldLinkNest (z_own own) i (T k).1 (T k).2.1 (T k).2.2.1 RX5) && (z_tc tc (T k).2.2.1 && (Nat.ble 3 tc || !(T k).2.2.2)))
      | none => false
    | (2, y, n, ci, _) => match z_mt[y]?, z_cl[ci]? with
      | some q, some (C, _, _) => decide (q.1.cls = C) && (z_np q n && (z_word (ps.getD 0 0) (.methodLink (z_own own) i q.1) && (z_word (ps.getD 1 0) (.instanceMethod q.1) && (z_word (ps.getD 2 0) (.selects C q.1 q.1) && z_word (ps.getD 3 0) (.initialized C)))))
      | _, _ => false
    | (3, y, n, _, _) => match z_mt[y]? with
      | some q => z_np q n && (z_word (ps.getD 0 0) (.methodLink (z_own own) i q.1) && (z_word (ps.getD 1 0) (.static q.1) && z_word (ps.getD 2 0) (.initialized q.1.cls)))
      | none => false
    | (4, y, n, _, _) => match z_mt[y]? with
      | some q => z_np q n && (z_wordN (ps.getD 0 0) (.methodLinkNest (z_own own) i q.1 RX5) && (z_word (ps.getD 1 0) (.static q.1) && z_word (ps.getD 2 0) (.initialized q.1.cls)))
      | none => false
    | (5, _, _, _, v) => z_word (ps.getD 0 0) (.constant (z_own own) i (z_c v))
    | (6, _, _, _, v) => z_word (ps.getD 0 0) (.constantLong (z_own own) i (z_cL v))
    | (7, _, _, _, _) => z_word (ps.getD 0 0) (.methodLink (z_own own) i arraycopyName) && (z_word (ps.getD 1 0) (.native arraycopyName) && (z_word (ps.getD 2 0) (.static arraycopyName) && z_word (ps.getD 3 0) (.initialized "java/lang/System")))
    | _ => false
def z_lok (own i : Nat) : Bool := match z_lk own i with
  | none => true
  | some e => z_lgood own i e (z_lp own i)
set_option maxRecDepth 1000000 in
theorem zwX0_has : lw_tbl[761]? = some (z_cw zmX0_has) := rfl
theorem zkX0_has : z_mok zmX0_has = true := by decide +kernel
set_option maxRecDepth 1000000 in
theorem zwX0_holds : lw_tbl[765]? = some (z_cw zmX0_holds) := rfl
theorem zkX0_holds : z_mok zmX0_holds = true := by decide +kernel
set_option maxRecDepth 1000000 in
theorem zwX0_start : lw_tbl[830]? = some (z_cw zmX0_start) := rfl
theorem zkX0_start : z_mok zmX0_start = true := by decide +kernel
set_option maxRecDepth 1000000 in
theorem zwX0_reaches : lw_tbl[774]? = some (z_cw zmX0_reaches) := rfl
theorem zkX0_reaches : z_mok zmX0_reaches = true := by decide +kernel
set_option maxRecDepth 1000000 in
theorem zwX0_read : lw_tbl[788]? = some (z_cw zmX0_read) := rfl
theorem zkX0_read : z_mok zmX0_read = true := by decide +kernel
set_option maxRecDepth 1000000 in
theorem zwX0_lay : lw_tbl[770]? = some (z_cw zmX0_lay) := rfl
theorem zkX0_lay : z_mok zmX0_lay = true := by decide +kernel
set_option maxRecDepth 1000000 in
theorem zwX1_byteAt : lw_tbl[495]? = some (z_cw zmX1_byteAt) := rfl
theorem zkX1_byteAt : z_mok zmX1_byteAt = true := by decide +kernel
set_option maxRecDepth 1000000 in
theorem zwX1_write : lw_tbl[477]? = some (z_cw zmX1_write) := rfl
theorem zkX1_write : z_mok zmX1_write = true := by decide +kernel
set_option maxRecDepth 1000000 in
theorem zwX1_writeBehind : lw_tbl[483]? = some (z_cw zmX1_writeBehind) := rfl
theorem zkX1_writeBehind : z_mok zmX1_writeBehind = true := by decide +kernel
set_option maxRecDepth 1000000 in
theorem zwX1_writeByte : lw_tbl[487]? = some (z_cw zmX1_writeByte) := rfl
theorem zkX1_writeByte : z_mok zmX1_writeByte = true := by decide +kernel
set_option maxRecDepth 1000000 in
theorem zwX2_start : lw_tbl[115]? = some (z_cw zmX2_start) := rfl
theorem zkX2_start : z_mok zmX2_start = true := by decide +kernel
set_option maxRecDepth 1000000 in
theorem zwX2_become : lw_tbl[361]? = some (z_cw zmX2_become) := rfl
theorem zkX2_become : z_mok zmX2_become = true := by decide +kernel
set_option maxRecDepth 1000000 in
theorem zwX2_has : lw_tbl[289]? = some (z_cw zmX2_has) := rfl
theorem zkX2_has : z_mok zmX2_has = true := by decide +kernel
set_option maxRecDepth 1000000 in
theorem zwX2_hasTwo : lw_tbl[503]? = some (z_cw zmX2_hasTwo) := rfl
theorem zkX2_hasTwo : z_mok zmX2_hasTwo = true := by decide +kernel
set_option maxRecDepth 1000000 in
theorem zwX2_hasBallot : lw_tbl[435]? = some (z_cw zmX2_hasBallot) := rfl
theorem zkX2_hasBallot : z_mok zmX2_hasBallot = true := by decide +kernel
set_option maxRecDepth 1000000 in
theorem zwX2_all : lw_tbl[297]? = some (z_cw zmX2_all) := rfl
theorem zkX2_all : z_mok zmX2_all = true := by decide +kernel
set_option maxRecDepth 1000000 in
theorem zwX2_ins : lw_tbl[293]? = some (z_cw zmX2_ins) := rfl
theorem zkX2_ins : z_mok zmX2_ins = true := by decide +kernel
set_option maxRecDepth 1000000 in
theorem zwX2_isIn : lw_tbl[301]? = some (z_cw zmX2_isIn) := rfl
theorem zkX2_isIn : z_mok zmX2_isIn = true := by decide +kernel
set_option maxRecDepth 1000000 in
theorem zwX2_countOf : lw_tbl[439]? = some (z_cw zmX2_countOf) := rfl
theorem zkX2_countOf : z_mok zmX2_countOf = true := by decide +kernel
set_option maxRecDepth 1000000 in
theorem zwX2_rankingOf : lw_tbl[456]? = some (z_cw zmX2_rankingOf) := rfl
theorem zkX2_rankingOf : z_mok zmX2_rankingOf = true := by decide +kernel
set_option maxRecDepth 1000000 in
theorem zwX2_forOver : lw_tbl[507]? = some (z_cw zmX2_forOver) := rfl
theorem zkX2_forOver : z_mok zmX2_forOver = true := by decide +kernel
set_option maxRecDepth 1000000 in
theorem zwX2_ballotOf : lw_tbl[409]? = some (z_cw zmX2_ballotOf) := rfl
theorem zkX2_ballotOf : z_mok zmX2_ballotOf = true := by decide +kernel
set_option maxRecDepth 1000000 in
theorem zwX2_allCounts : lw_tbl[814]? = some (z_cw zmX2_allCounts) := rfl
theorem zkX2_allCounts : z_mok zmX2_allCounts = true := by decide +kernel
set_option maxRecDepth 1000000 in
theorem zwX2_add : lw_tbl[405]? = some (z_cw zmX2_add) := rfl
theorem zkX2_add : z_mok zmX2_add = true := by decide +kernel
set_option maxRecDepth 1000000 in
theorem zwX2_lessen : lw_tbl[444]? = some (z_cw zmX2_lessen) := rfl
theorem zkX2_lessen : z_mok zmX2_lessen = true := by decide +kernel
set_option maxRecDepth 1000000 in
theorem zwX2_closeUp : lw_tbl[448]? = some (z_cw zmX2_closeUp) := rfl
theorem zkX2_closeUp : z_mok zmX2_closeUp = true := by decide +kernel
set_option maxRecDepth 1000000 in
theorem zwX2_drawByNumbers : lw_tbl[122]? = some (z_cw zmX2_drawByNumbers) := rfl
theorem zkX2_drawByNumbers : z_mok zmX2_drawByNumbers = true := by decide +kernel
set_option maxRecDepth 1000000 in
theorem zwX2_drawnAt : lw_tbl[333]? = some (z_cw zmX2_drawnAt) := rfl
theorem zkX2_drawnAt : z_mok zmX2_drawnAt = true := by decide +kernel
set_option maxRecDepth 1000000 in
theorem zwX2_drawBySeed : lw_tbl[325]? = some (z_cw zmX2_drawBySeed) := rfl
theorem zkX2_drawBySeed : z_mok zmX2_drawBySeed = true := by decide +kernel
set_option maxRecDepth 1000000 in
theorem zwX2_drawFirst : lw_tbl[317]? = some (z_cw zmX2_drawFirst) := rfl
theorem zkX2_drawFirst : z_mok zmX2_drawFirst = true := by decide +kernel
set_option maxRecDepth 1000000 in
theorem zwX2_areClones : lw_tbl[681]? = some (z_cw zmX2_areClones) := rfl
theorem zkX2_areClones : z_mok zmX2_areClones = true := by decide +kernel
set_option maxRecDepth 1000000 in
theorem zwX2_standTogether : lw_tbl[687]? = some (z_cw zmX2_standTogether) := rfl
theorem zkX2_standTogether : z_mok zmX2_standTogether = true := by decide +kernel
set_option maxRecDepth 1000000 in
theorem zwX2_sumOfPlaces : lw_tbl[696]? = some (z_cw zmX2_sumOfPlaces) := rfl
theorem zkX2_sumOfPlaces : z_mok zmX2_sumOfPlaces = true := by decide +kernel
set_option maxRecDepth 1000000 in
theorem zwX2_leadsOf : lw_tbl[705]? = some (z_cw zmX2_leadsOf) := rfl
theorem zkX2_leadsOf : z_mok zmX2_leadsOf = true := by decide +kernel
set_option maxRecDepth 1000000 in
theorem zwX2_manyBehind : lw_tbl[700]? = some (z_cw zmX2_manyBehind) := rfl
theorem zkX2_manyBehind : z_mok zmX2_manyBehind = true := by decide +kernel
set_option maxRecDepth 1000000 in
theorem zwX3_takeByte : lw_tbl[345]? = some (z_cw zmX3_takeByte) := rfl
theorem zkX3_takeByte : z_mok zmX3_takeByte = true := by decide +kernel
set_option maxRecDepth 1000000 in
theorem zwX3_wipe : lw_tbl[353]? = some (z_cw zmX3_wipe) := rfl
theorem zkX3_wipe : z_mok zmX3_wipe = true := by decide +kernel
set_option maxRecDepth 1000000 in
theorem zwX3_rewind : lw_tbl[372]? = some (z_cw zmX3_rewind) := rfl
theorem zkX3_rewind : z_mok zmX3_rewind = true := by decide +kernel
set_option maxRecDepth 1000000 in
theorem zwX3_isRead : lw_tbl[426]? = some (z_cw zmX3_isRead) := rfl
theorem zkX3_isRead : z_mok zmX3_isRead = true := by decide +kernel
set_option maxRecDepth 1000000 in
theorem zwX3_sign : lw_tbl[384]? = some (z_cw zmX3_sign) := rfl
theorem zkX3_sign : z_mok zmX3_sign = true := by decide +kernel
set_option maxRecDepth 1000000 in
theorem zwX3_passes : lw_tbl[389]? = some (z_cw zmX3_passes) := rfl
theorem zkX3_passes : z_mok zmX3_passes = true := by decide +kernel
set_option maxRecDepth 1000000 in
theorem zwX3_figure : lw_tbl[380]? = some (z_cw zmX3_figure) := rfl
theorem zkX3_figure : z_mok zmX3_figure = true := by decide +kernel
set_option maxRecDepth 1000000 in
theorem zwX3_readCount : lw_tbl[376]? = some (z_cw zmX3_readCount) := rfl
theorem zkX3_readCount : z_mok zmX3_readCount = true := by decide +kernel
set_option maxRecDepth 1000000 in
theorem zwX3_readRanking : lw_tbl[393]? = some (z_cw zmX3_readRanking) := rfl
theorem zkX3_readRanking : z_mok zmX3_readRanking = true := by decide +kernel
set_option maxRecDepth 1000000 in
theorem zwX3_placeOthers : lw_tbl[401]? = some (z_cw zmX3_placeOthers) := rfl
theorem zkX3_placeOthers : z_mok zmX3_placeOthers = true := by decide +kernel
set_option maxRecDepth 1000000 in
theorem zwX4_load : lw_tbl[525]? = some (z_cw zmX4_load) := rfl
theorem zkX4_load : z_mok zmX4_load = true := by decide +kernel
set_option maxRecDepth 1000000 in
theorem zwX4_leaveOut : lw_tbl[713]? = some (z_cw zmX4_leaveOut) := rfl
theorem zkX4_leaveOut : z_mok zmX4_leaveOut = true := by decide +kernel
set_option maxRecDepth 1000000 in
theorem zwX4_count : lw_tbl[727]? = some (z_cw zmX4_count) := rfl
theorem zkX4_count : z_mok zmX4_count = true := by decide +kernel
set_option maxRecDepth 1000000 in
theorem zwX4_goBy : lw_tbl[749]? = some (z_cw zmX4_goBy) := rfl
theorem zkX4_goBy : z_mok zmX4_goBy = true := by decide +kernel
set_option maxRecDepth 1000000 in
theorem zwX4_reckon : lw_tbl[532]? = some (z_cw zmX4_reckon) := rfl
theorem zkX4_reckon : z_mok zmX4_reckon = true := by decide +kernel
set_option maxRecDepth 1000000 in
theorem zwX4_goThrough : lw_tbl[547]? = some (z_cw zmX4_goThrough) := rfl
theorem zkX4_goThrough : z_mok zmX4_goThrough = true := by decide +kernel
set_option maxRecDepth 1000000 in
theorem zwX4_beatersOf : lw_tbl[554]? = some (z_cw zmX4_beatersOf) := rfl
theorem zkX4_beatersOf : z_mok zmX4_beatersOf = true := by decide +kernel
set_option maxRecDepth 1000000 in
theorem zwX4_linkBetween : lw_tbl[536]? = some (z_cw zmX4_linkBetween) := rfl
theorem zkX4_linkBetween : z_mok zmX4_linkBetween = true := by decide +kernel
set_option maxRecDepth 1000000 in
theorem zwX4_ratioStrength : lw_tbl[541]? = some (z_cw zmX4_ratioStrength) := rfl
theorem zkX4_ratioStrength : z_mok zmX4_ratioStrength = true := by decide +kernel
set_option maxRecDepth 1000000 in
theorem zwX4_knows : lw_tbl[566]? = some (z_cw zmX4_knows) := rfl
theorem zkX4_knows : z_mok zmX4_knows = true := by decide +kernel
set_option maxRecDepth 1000000 in
theorem zwX4_linkStrength : lw_tbl[601]? = some (z_cw zmX4_linkStrength) := rfl
theorem zkX4_linkStrength : z_mok zmX4_linkStrength = true := by decide +kernel
set_option maxRecDepth 1000000 in
theorem zwX4_bestStrength : lw_tbl[562]? = some (z_cw zmX4_bestStrength) := rfl
theorem zkX4_bestStrength : z_mok zmX4_bestStrength = true := by decide +kernel
set_option maxRecDepth 1000000 in
theorem zwX4_isOver : lw_tbl[621]? = some (z_cw zmX4_isOver) := rfl
theorem zkX4_isOver : z_mok zmX4_isOver = true := by decide +kernel
set_option maxRecDepth 1000000 in
theorem zwX4_cellAsStrongAs : lw_tbl[558]? = some (z_cw zmX4_cellAsStrongAs) := rfl
theorem zkX4_cellAsStrongAs : z_mok zmX4_cellAsStrongAs = true := by decide +kernel
set_option maxRecDepth 1000000 in
theorem zwX4_strengthTold : lw_tbl[570]? = some (z_cw zmX4_strengthTold) := rfl
theorem zkX4_strengthTold : z_mok zmX4_strengthTold = true := by decide +kernel
set_option maxRecDepth 1000000 in
theorem zwX4_commonDivisor : lw_tbl[580]? = some (z_cw zmX4_commonDivisor) := rfl
theorem zkX4_commonDivisor : z_mok zmX4_commonDivisor = true := by decide +kernel
set_option maxRecDepth 1000000 in
theorem zwX4_walk : lw_tbl[589]? = some (z_cw zmX4_walk) := rfl
theorem zkX4_walk : z_mok zmX4_walk = true := by decide +kernel
set_option maxRecDepth 1000000 in
theorem zwX4_tellDistances : lw_tbl[593]? = some (z_cw zmX4_tellDistances) := rfl
theorem zkX4_tellDistances : z_mok zmX4_tellDistances = true := by decide +kernel
set_option maxRecDepth 1000000 in
theorem zwX4_nextStep : lw_tbl[597]? = some (z_cw zmX4_nextStep) := rfl
theorem zkX4_nextStep : z_mok zmX4_nextStep = true := by decide +kernel
set_option maxRecDepth 1000000 in
theorem zwX4_stepOf : lw_tbl[605]? = some (z_cw zmX4_stepOf) := rfl
theorem zkX4_stepOf : z_mok zmX4_stepOf = true := by decide +kernel
set_option maxRecDepth 1000000 in
theorem zwX4_reachedBetter : lw_tbl[613]? = some (z_cw zmX4_reachedBetter) := rfl
theorem zkX4_reachedBetter : z_mok zmX4_reachedBetter = true := by decide +kernel
set_option maxRecDepth 1000000 in
theorem zwX4_unbeaten : lw_tbl[629]? = some (z_cw zmX4_unbeaten) := rfl
theorem zkX4_unbeaten : z_mok zmX4_unbeaten = true := by decide +kernel
set_option maxRecDepth 1000000 in
theorem zwX4_firstOf : lw_tbl[641]? = some (z_cw zmX4_firstOf) := rfl
theorem zkX4_firstOf : z_mok zmX4_firstOf = true := by decide +kernel
set_option maxRecDepth 1000000 in
theorem zwX4_first : lw_tbl[717]? = some (z_cw zmX4_first) := rfl
theorem zkX4_first : z_mok zmX4_first = true := by decide +kernel
set_option maxRecDepth 1000000 in
theorem zwX4_rankedAt : lw_tbl[637]? = some (z_cw zmX4_rankedAt) := rfl
theorem zkX4_rankedAt : z_mok zmX4_rankedAt = true := by decide +kernel
set_option maxRecDepth 1000000 in
theorem zwX4_placeByRanks : lw_tbl[650]? = some (z_cw zmX4_placeByRanks) := rfl
theorem zkX4_placeByRanks : z_mok zmX4_placeByRanks = true := by decide +kernel
set_option maxRecDepth 1000000 in
theorem zwX4_leastTopSet : lw_tbl[659]? = some (z_cw zmX4_leastTopSet) := rfl
theorem zkX4_leastTopSet : z_mok zmX4_leastTopSet = true := by decide +kernel
set_option maxRecDepth 1000000 in
theorem zwX4_grow : lw_tbl[663]? = some (z_cw zmX4_grow) := rfl
theorem zkX4_grow : z_mok zmX4_grow = true := by decide +kernel
set_option maxRecDepth 1000000 in
theorem zwX4_unlinkedFrom : lw_tbl[667]? = some (z_cw zmX4_unlinkedFrom) := rfl
theorem zkX4_unlinkedFrom : z_mok zmX4_unlinkedFrom = true := by decide +kernel
set_option maxRecDepth 1000000 in
theorem zwX4_strongestOutOf : lw_tbl[803]? = some (z_cw zmX4_strongestOutOf) := rfl
theorem zkX4_strongestOutOf : z_mok zmX4_strongestOutOf = true := by decide +kernel
set_option maxRecDepth 1000000 in
theorem zwX4_manyLinks : lw_tbl[818]? = some (z_cw zmX4_manyLinks) := rfl
theorem zkX4_manyLinks : z_mok zmX4_manyLinks = true := by decide +kernel
set_option maxRecDepth 1000000 in
theorem zwX4_manyOver : lw_tbl[822]? = some (z_cw zmX4_manyOver) := rfl
theorem zkX4_manyOver : z_mok zmX4_manyOver = true := by decide +kernel
set_option maxRecDepth 1000000 in
theorem zwX5_begin : lw_tbl[280]? = some (z_cw zmX5_begin) := rfl
theorem zkX5_begin : z_mok zmX5_begin = true := by decide +kernel
set_option maxRecDepth 1000000 in
theorem zwX5_out : lw_tbl[285]? = some (z_cw zmX5_out) := rfl
theorem zkX5_out : z_mok zmX5_out = true := by decide +kernel
set_option maxRecDepth 1000000 in
theorem zwX5_measure : lw_tbl[309]? = some (z_cw zmX5_measure) := rfl
theorem zkX5_measure : z_mok zmX5_measure = true := by decide +kernel
set_option maxRecDepth 1000000 in
theorem zwX5_ahead : lw_tbl[313]? = some (z_cw zmX5_ahead) := rfl
theorem zkX5_ahead : z_mok zmX5_ahead = true := by decide +kernel
set_option maxRecDepth 1000000 in
theorem zwX5_shuffle : lw_tbl[321]? = some (z_cw zmX5_shuffle) := rfl
theorem zkX5_shuffle : z_mok zmX5_shuffle = true := by decide +kernel
set_option maxRecDepth 1000000 in
theorem zwX5_drawn : lw_tbl[337]? = some (z_cw zmX5_drawn) := rfl
theorem zkX5_drawn : z_mok zmX5_drawn = true := by decide +kernel
set_option maxRecDepth 1000000 in
theorem zwX5_feed : lw_tbl[341]? = some (z_cw zmX5_feed) := rfl
theorem zkX5_feed : z_mok zmX5_feed = true := by decide +kernel
set_option maxRecDepth 1000000 in
theorem zwX5_clear : lw_tbl[349]? = some (z_cw zmX5_clear) := rfl
theorem zkX5_clear : z_mok zmX5_clear = true := by decide +kernel
set_option maxRecDepth 1000000 in
theorem zwX5_ballots : lw_tbl[357]? = some (z_cw zmX5_ballots) := rfl
theorem zkX5_ballots : z_mok zmX5_ballots = true := by decide +kernel
set_option maxRecDepth 1000000 in
theorem zwX5_remove : lw_tbl[431]? = some (z_cw zmX5_remove) := rfl
theorem zkX5_remove : z_mok zmX5_remove = true := by decide +kernel
set_option maxRecDepth 1000000 in
theorem zwX5_ballot : lw_tbl[452]? = some (z_cw zmX5_ballot) := rfl
theorem zkX5_ballot : z_mok zmX5_ballot = true := by decide +kernel
set_option maxRecDepth 1000000 in
theorem zwX5_find : lw_tbl[464]? = some (z_cw zmX5_find) := rfl
theorem zkX5_find : z_mok zmX5_find = true := by decide +kernel
set_option maxRecDepth 1000000 in
theorem zwX5_spell : lw_tbl[473]? = some (z_cw zmX5_spell) := rfl
theorem zkX5_spell : z_mok zmX5_spell = true := by decide +kernel
set_option maxRecDepth 1000000 in
theorem zwX5_paper : lw_tbl[491]? = some (z_cw zmX5_paper) := rfl
theorem zkX5_paper : z_mok zmX5_paper = true := by decide +kernel
set_option maxRecDepth 1000000 in
theorem zwX5_pair : lw_tbl[499]? = some (z_cw zmX5_pair) := rfl
theorem zkX5_pair : z_mok zmX5_pair = true := by decide +kernel
set_option maxRecDepth 1000000 in
theorem zwX5_link : lw_tbl[513]? = some (z_cw zmX5_link) := rfl
theorem zkX5_link : z_mok zmX5_link = true := by decide +kernel
set_option maxRecDepth 1000000 in
theorem zwX5_strength : lw_tbl[517]? = some (z_cw zmX5_strength) := rfl
theorem zkX5_strength : z_mok zmX5_strength = true := by decide +kernel
set_option maxRecDepth 1000000 in
theorem zwX5_way : lw_tbl[585]? = some (z_cw zmX5_way) := rfl
theorem zkX5_way : z_mok zmX5_way = true := by decide +kernel
set_option maxRecDepth 1000000 in
theorem zwX5_barrier : lw_tbl[609]? = some (z_cw zmX5_barrier) := rfl
theorem zkX5_barrier : z_mok zmX5_barrier = true := by decide +kernel
set_option maxRecDepth 1000000 in
theorem zwX5_beats : lw_tbl[617]? = some (z_cw zmX5_beats) := rfl
theorem zkX5_beats : z_mok zmX5_beats = true := by decide +kernel
set_option maxRecDepth 1000000 in
theorem zwX5_winners : lw_tbl[625]? = some (z_cw zmX5_winners) := rfl
theorem zkX5_winners : z_mok zmX5_winners = true := by decide +kernel
set_option maxRecDepth 1000000 in
theorem zwX5_ranked : lw_tbl[633]? = some (z_cw zmX5_ranked) := rfl
theorem zkX5_ranked : z_mok zmX5_ranked = true := by decide +kernel
set_option maxRecDepth 1000000 in
theorem zwX5_rank : lw_tbl[646]? = some (z_cw zmX5_rank) := rfl
theorem zkX5_rank : z_mok zmX5_rank = true := by decide +kernel
set_option maxRecDepth 1000000 in
theorem zwX5_smith : lw_tbl[655]? = some (z_cw zmX5_smith) := rfl
theorem zkX5_smith : z_mok zmX5_smith = true := by decide +kernel
set_option maxRecDepth 1000000 in
theorem zwX5_clones : lw_tbl[677]? = some (z_cw zmX5_clones) := rfl
theorem zkX5_clones : z_mok zmX5_clones = true := by decide +kernel
set_option maxRecDepth 1000000 in
theorem zwX5_sum : lw_tbl[692]? = some (z_cw zmX5_sum) := rfl
theorem zkX5_sum : z_mok zmX5_sum = true := by decide +kernel
set_option maxRecDepth 1000000 in
theorem zwX5_without : lw_tbl[709]? = some (z_cw zmX5_without) := rfl
theorem zkX5_without : z_mok zmX5_without = true := by decide +kernel
set_option maxRecDepth 1000000 in
theorem zwX5_would : lw_tbl[722]? = some (z_cw zmX5_would) := rfl
theorem zkX5_would : z_mok zmX5_would = true := by decide +kernel
set_option maxRecDepth 1000000 in
theorem zwX5_needs : lw_tbl[732]? = some (z_cw zmX5_needs) := rfl
theorem zkX5_needs : z_mok zmX5_needs = true := by decide +kernel
set_option maxRecDepth 1000000 in
theorem zwX5_turners : lw_tbl[736]? = some (z_cw zmX5_turners) := rfl
theorem zkX5_turners : z_mok zmX5_turners = true := by decide +kernel
set_option maxRecDepth 1000000 in
theorem zwX5_agree : lw_tbl[745]? = some (z_cw zmX5_agree) := rfl
theorem zkX5_agree : z_mok zmX5_agree = true := by decide +kernel
set_option maxRecDepth 1000000 in
theorem zwX5_flips : lw_tbl[753]? = some (z_cw zmX5_flips) := rfl
theorem zkX5_flips : z_mok zmX5_flips = true := by decide +kernel
set_option maxRecDepth 1000000 in
theorem zwX5_prove : lw_tbl[757]? = some (z_cw zmX5_prove) := rfl
theorem zkX5_prove : z_mok zmX5_prove = true := by decide +kernel
set_option maxRecDepth 1000000 in
theorem zwX5_proves : lw_tbl[779]? = some (z_cw zmX5_proves) := rfl
theorem zkX5_proves : z_mok zmX5_proves = true := by decide +kernel
set_option maxRecDepth 1000000 in
theorem zwX5_told : lw_tbl[810]? = some (z_cw zmX5_told) := rfl
theorem zkX5_told : z_mok zmX5_told = true := by decide +kernel
set_option maxRecDepth 1000000 in
theorem zwX5_list : lw_tbl[826]? = some (z_cw zmX5_list) := rfl
theorem zkX5_list : z_mok zmX5_list = true := by decide +kernel
set_option maxRecDepth 1000000 in
theorem zwX5_set : lw_tbl[834]? = some (z_cw zmX5_set) := rfl
theorem zkX5_set : z_mok zmX5_set = true := by decide +kernel
set_option maxRecDepth 1000000 in
theorem zwX5_get : lw_tbl[838]? = some (z_cw zmX5_get) := rfl
theorem zkX5_get : z_mok zmX5_get = true := by decide +kernel
set_option maxRecDepth 1000000 in
theorem zwX5_image : lw_tbl[842]? = some (z_cw zmX5_image) := rfl
theorem zkX5_image : z_mok zmX5_image = true := by decide +kernel
set_option maxRecDepth 1000000 in
theorem zwX5_undo : lw_tbl[846]? = some (z_cw zmX5_undo) := rfl
theorem zkX5_undo : z_mok zmX5_undo = true := by decide +kernel
set_option maxRecDepth 1000000 in
theorem zwX5_lookAtWays : lw_tbl[521]? = some (z_cw zmX5_lookAtWays) := rfl
theorem zkX5_lookAtWays : z_mok zmX5_lookAtWays = true := by decide +kernel
set_option maxRecDepth 1000000 in
theorem zwX5_readRankingAlone : lw_tbl[468]? = some (z_cw zmX5_readRankingAlone) := rfl
theorem zkX5_readRankingAlone : z_mok zmX5_readRankingAlone = true := by decide +kernel
set_option maxRecDepth 1000000 in
theorem zwX5_readParts : lw_tbl[368]? = some (z_cw zmX5_readParts) := rfl
theorem zkX5_readParts : z_mok zmX5_readParts = true := by decide +kernel
set_option maxRecDepth 1000000 in
theorem zwX5_leastTurn : lw_tbl[740]? = some (z_cw zmX5_leastTurn) := rfl
theorem zkX5_leastTurn : z_mok zmX5_leastTurn = true := by decide +kernel
set_option maxRecDepth 1000000 in
theorem zwX5_isProof : lw_tbl[783]? = some (z_cw zmX5_isProof) := rfl
theorem zkX5_isProof : z_mok zmX5_isProof = true := by decide +kernel
set_option maxRecDepth 1000000 in
theorem zwX5_strengthOfRow : lw_tbl[794]? = some (z_cw zmX5_strengthOfRow) := rfl
theorem zkX5_strengthOfRow : z_mok zmX5_strengthOfRow = true := by decide +kernel
set_option maxRecDepth 1000000 in
theorem zwX5_hasBit : lw_tbl[305]? = some (z_cw zmX5_hasBit) := rfl
theorem zkX5_hasBit : z_mok zmX5_hasBit = true := by decide +kernel
set_option maxRecDepth 1000000 in
theorem zwX5_placeOf : lw_tbl[422]? = some (z_cw zmX5_placeOf) := rfl
theorem zkX5_placeOf : z_mok zmX5_placeOf = true := by decide +kernel
set_option maxRecDepth 1000000 in
theorem zwX5_withPlace : lw_tbl[397]? = some (z_cw zmX5_withPlace) := rfl
theorem zkX5_withPlace : z_mok zmX5_withPlace = true := by decide +kernel
set_option maxRecDepth 1000000 in
theorem zwX5_placesIn : lw_tbl[459]? = some (z_cw zmX5_placesIn) := rfl
theorem zkX5_placesIn : z_mok zmX5_placesIn = true := by decide +kernel
set_option maxRecDepth 1000000 in
theorem zwX5_cell : lw_tbl[419]? = some (z_cw zmX5_cell) := rfl
theorem zkX5_cell : z_mok zmX5_cell = true := by decide +kernel
set_option maxRecDepth 1000000 in
theorem zwX5_countPairs : lw_tbl[416]? = some (z_cw zmX5_countPairs) := rfl
theorem zkX5_countPairs : z_mok zmX5_countPairs = true := by decide +kernel
set_option maxRecDepth 1000000 in
theorem zwX6_isIn : lw_tbl[936]? = some (z_cw zmX6_isIn) := rfl
theorem zkX6_isIn : z_mok zmX6_isIn = true := by decide +kernel
set_option maxRecDepth 1000000 in
theorem zwX6_copies : lw_tbl[997]? = some (z_cw zmX6_copies) := rfl
theorem zkX6_copies : z_mok zmX6_copies = true := by decide +kernel
set_option maxRecDepth 1000000 in
theorem zwX6_has : lw_tbl[955]? = some (z_cw zmX6_has) := rfl
theorem zkX6_has : z_mok zmX6_has = true := by decide +kernel
set_option maxRecDepth 1000000 in
theorem zwX6_bits : lw_tbl[1214]? = some (z_cw zmX6_bits) := rfl
theorem zkX6_bits : z_mok zmX6_bits = true := by decide +kernel
set_option maxRecDepth 1000000 in
theorem zwX6_everyone : lw_tbl[952]? = some (z_cw zmX6_everyone) := rfl
theorem zkX6_everyone : z_mok zmX6_everyone = true := by decide +kernel
set_option maxRecDepth 1000000 in
theorem zwX6_ins : lw_tbl[948]? = some (z_cw zmX6_ins) := rfl
theorem zkX6_ins : z_mok zmX6_ins = true := by decide +kernel
set_option maxRecDepth 1000000 in
theorem zwX6_isOne : lw_tbl[944]? = some (z_cw zmX6_isOne) := rfl
theorem zkX6_isOne : z_mok zmX6_isOne = true := by decide +kernel
set_option maxRecDepth 1000000 in
theorem zwX6_areTwo : lw_tbl[1095]? = some (z_cw zmX6_areTwo) := rfl
theorem zkX6_areTwo : z_mok zmX6_areTwo = true := by decide +kernel
set_option maxRecDepth 1000000 in
theorem zwX6_areIn : lw_tbl[1124]? = some (z_cw zmX6_areIn) := rfl
theorem zkX6_areIn : z_mok zmX6_areIn = true := by decide +kernel
set_option maxRecDepth 1000000 in
theorem zwX6_isBallot : lw_tbl[1049]? = some (z_cw zmX6_isBallot) := rfl
theorem zkX6_isBallot : z_mok zmX6_isBallot = true := by decide +kernel
set_option maxRecDepth 1000000 in
theorem zwX6_placeOf : lw_tbl[1040]? = some (z_cw zmX6_placeOf) := rfl
theorem zkX6_placeOf : z_mok zmX6_placeOf = true := by decide +kernel
set_option maxRecDepth 1000000 in
theorem zwX6_begins : lw_tbl[856]? = some (z_cw zmX6_begins) := rfl
theorem zkX6_begins : z_mok zmX6_begins = true := by decide +kernel
set_option maxRecDepth 1000000 in
theorem zwX6_begin : lw_tbl[931]? = some (z_cw zmX6_begin) := rfl
theorem zkX6_begin : z_mok zmX6_begin = true := by decide +kernel
set_option maxRecDepth 1000000 in
theorem zwX6_out : lw_tbl[940]? = some (z_cw zmX6_out) := rfl
theorem zkX6_out : z_mok zmX6_out = true := by decide +kernel
set_option maxRecDepth 1000000 in
theorem zwX6_measure : lw_tbl[959]? = some (z_cw zmX6_measure) := rfl
theorem zkX6_measure : z_mok zmX6_measure = true := by decide +kernel
set_option maxRecDepth 1000000 in
theorem zwX6_drawOf : lw_tbl[968]? = some (z_cw zmX6_drawOf) := rfl
theorem zkX6_drawOf : z_mok zmX6_drawOf = true := by decide +kernel
set_option maxRecDepth 1000000 in
theorem zwX6_ahead : lw_tbl[964]? = some (z_cw zmX6_ahead) := rfl
theorem zkX6_ahead : z_mok zmX6_ahead = true := by decide +kernel
set_option maxRecDepth 1000000 in
theorem zwX6_shuffle : lw_tbl[972]? = some (z_cw zmX6_shuffle) := rfl
theorem zkX6_shuffle : z_mok zmX6_shuffle = true := by decide +kernel
set_option maxRecDepth 1000000 in
theorem zwX6_drawn : lw_tbl[977]? = some (z_cw zmX6_drawn) := rfl
theorem zkX6_drawn : z_mok zmX6_drawn = true := by decide +kernel
set_option maxRecDepth 1000000 in
theorem zwX6_feed : lw_tbl[981]? = some (z_cw zmX6_feed) := rfl
theorem zkX6_feed : z_mok zmX6_feed = true := by decide +kernel
set_option maxRecDepth 1000000 in
theorem zwX6_clear : lw_tbl[986]? = some (z_cw zmX6_clear) := rfl
theorem zkX6_clear : z_mok zmX6_clear = true := by decide +kernel
set_option maxRecDepth 1000000 in
theorem zwX6_reads : lw_tbl[994]? = some (z_cw zmX6_reads) := rfl
theorem zkX6_reads : z_mok zmX6_reads = true := by decide +kernel
set_option maxRecDepth 1000000 in
theorem zwX6_here : lw_tbl[1009]? = some (z_cw zmX6_here) := rfl
theorem zkX6_here : z_mok zmX6_here = true := by decide +kernel
set_option maxRecDepth 1000000 in
theorem zwX6_isDigit : lw_tbl[1005]? = some (z_cw zmX6_isDigit) := rfl
theorem zkX6_isDigit : z_mok zmX6_isDigit = true := by decide +kernel
set_option maxRecDepth 1000000 in
theorem zwX6_fails : lw_tbl[1015]? = some (z_cw zmX6_fails) := rfl
theorem zkX6_fails : z_mok zmX6_fails = true := by decide +kernel
set_option maxRecDepth 1000000 in
theorem zwX6_isSign : lw_tbl[1020]? = some (z_cw zmX6_isSign) := rfl
theorem zkX6_isSign : z_mok zmX6_isSign = true := by decide +kernel
set_option maxRecDepth 1000000 in
theorem zwX6_isTold : lw_tbl[1028]? = some (z_cw zmX6_isTold) := rfl
theorem zkX6_isTold : z_mok zmX6_isTold = true := by decide +kernel
set_option maxRecDepth 1000000 in
theorem zwX6_isRanking : lw_tbl[1024]? = some (z_cw zmX6_isRanking) := rfl
theorem zkX6_isRanking : z_mok zmX6_isRanking = true := by decide +kernel
set_option maxRecDepth 1000000 in
theorem zwX6_isWholeRanking : lw_tbl[1071]? = some (z_cw zmX6_isWholeRanking) := rfl
theorem zkX6_isWholeRanking : z_mok zmX6_isWholeRanking = true := by decide +kernel
set_option maxRecDepth 1000000 in
theorem zwX6_ballotOfRanking : lw_tbl[1036]? = some (z_cw zmX6_ballotOfRanking) := rfl
theorem zkX6_ballotOfRanking : z_mok zmX6_ballotOfRanking = true := by decide +kernel
set_option maxRecDepth 1000000 in
theorem zwX6_comes : lw_tbl[1032]? = some (z_cw zmX6_comes) := rfl
theorem zkX6_comes : z_mok zmX6_comes = true := by decide +kernel
set_option maxRecDepth 1000000 in
theorem zwX6_isPart : lw_tbl[1001]? = some (z_cw zmX6_isPart) := rfl
theorem zkX6_isPart : z_mok zmX6_isPart = true := by decide +kernel
set_option maxRecDepth 1000000 in
theorem zwX6_ballots : lw_tbl[990]? = some (z_cw zmX6_ballots) := rfl
theorem zkX6_ballots : z_mok zmX6_ballots = true := by decide +kernel
set_option maxRecDepth 1000000 in
theorem zwX6_goes : lw_tbl[1053]? = some (z_cw zmX6_goes) := rfl
theorem zkX6_goes : z_mok zmX6_goes = true := by decide +kernel
set_option maxRecDepth 1000000 in
theorem zwX6_remove : lw_tbl[1045]? = some (z_cw zmX6_remove) := rfl
theorem zkX6_remove : z_mok zmX6_remove = true := by decide +kernel
set_option maxRecDepth 1000000 in
theorem zwX6_places : lw_tbl[1061]? = some (z_cw zmX6_places) := rfl
theorem zkX6_places : z_mok zmX6_places = true := by decide +kernel
set_option maxRecDepth 1000000 in
theorem zwX6_ballot : lw_tbl[1057]? = some (z_cw zmX6_ballot) := rfl
theorem zkX6_ballot : z_mok zmX6_ballot = true := by decide +kernel
set_option maxRecDepth 1000000 in
theorem zwX6_find : lw_tbl[1067]? = some (z_cw zmX6_find) := rfl
theorem zkX6_find : z_mok zmX6_find = true := by decide +kernel
set_option maxRecDepth 1000000 in
theorem zwX6_says : lw_tbl[1079]? = some (z_cw zmX6_says) := rfl
theorem zkX6_says : z_mok zmX6_says = true := by decide +kernel
set_option maxRecDepth 1000000 in
theorem zwX6_saysPlace : lw_tbl[1083]? = some (z_cw zmX6_saysPlace) := rfl
theorem zkX6_saysPlace : z_mok zmX6_saysPlace = true := by decide +kernel
set_option maxRecDepth 1000000 in
theorem zwX6_spell : lw_tbl[1075]? = some (z_cw zmX6_spell) := rfl
theorem zkX6_spell : z_mok zmX6_spell = true := by decide +kernel
set_option maxRecDepth 1000000 in
theorem zwX6_paper : lw_tbl[1087]? = some (z_cw zmX6_paper) := rfl
theorem zkX6_paper : z_mok zmX6_paper = true := by decide +kernel
set_option maxRecDepth 1000000 in
theorem zwX6_counts : lw_tbl[1104]? = some (z_cw zmX6_counts) := rfl
theorem zkX6_counts : z_mok zmX6_counts = true := by decide +kernel
set_option maxRecDepth 1000000 in
theorem zwX6_countsAll : lw_tbl[1100]? = some (z_cw zmX6_countsAll) := rfl
theorem zkX6_countsAll : z_mok zmX6_countsAll = true := by decide +kernel
set_option maxRecDepth 1000000 in
theorem zwX6_countsRanking : lw_tbl[1266]? = some (z_cw zmX6_countsRanking) := rfl
theorem zkX6_countsRanking : z_mok zmX6_countsRanking = true := by decide +kernel
set_option maxRecDepth 1000000 in
theorem zwX6_over : lw_tbl[1108]? = some (z_cw zmX6_over) := rfl
theorem zkX6_over : z_mok zmX6_over = true := by decide +kernel
set_option maxRecDepth 1000000 in
theorem zwX6_pair : lw_tbl[1091]? = some (z_cw zmX6_pair) := rfl
theorem zkX6_pair : z_mok zmX6_pair = true := by decide +kernel
set_option maxRecDepth 1000000 in
theorem zwX6_isLink : lw_tbl[1116]? = some (z_cw zmX6_isLink) := rfl
theorem zkX6_isLink : z_mok zmX6_isLink = true := by decide +kernel
set_option maxRecDepth 1000000 in
theorem zwX6_link : lw_tbl[1112]? = some (z_cw zmX6_link) := rfl
theorem zkX6_link : z_mok zmX6_link = true := by decide +kernel
set_option maxRecDepth 1000000 in
theorem zwX6_isStronger : lw_tbl[1144]? = some (z_cw zmX6_isStronger) := rfl
theorem zkX6_isStronger : z_mok zmX6_isStronger = true := by decide +kernel
set_option maxRecDepth 1000000 in
theorem zwX6_isMore : lw_tbl[1152]? = some (z_cw zmX6_isMore) := rfl
theorem zkX6_isMore : z_mok zmX6_isMore = true := by decide +kernel
set_option maxRecDepth 1000000 in
theorem zwX6_takes : lw_tbl[1141]? = some (z_cw zmX6_takes) := rfl
theorem zkX6_takes : z_mok zmX6_takes = true := by decide +kernel
set_option maxRecDepth 1000000 in
theorem zwX6_strongestLeft : lw_tbl[1148]? = some (z_cw zmX6_strongestLeft) := rfl
theorem zkX6_strongestLeft : z_mok zmX6_strongestLeft = true := by decide +kernel
set_option maxRecDepth 1000000 in
theorem zwX6_goesOn : lw_tbl[1156]? = some (z_cw zmX6_goesOn) := rfl
theorem zkX6_goesOn : z_mok zmX6_goesOn = true := by decide +kernel
set_option maxRecDepth 1000000 in
theorem zwX6_grows : lw_tbl[1136]? = some (z_cw zmX6_grows) := rfl
theorem zkX6_grows : z_mok zmX6_grows = true := by decide +kernel
set_option maxRecDepth 1000000 in
theorem zwX6_ways : lw_tbl[1132]? = some (z_cw zmX6_ways) := rfl
theorem zkX6_ways : z_mok zmX6_ways = true := by decide +kernel
set_option maxRecDepth 1000000 in
theorem zwX6_waysNow : lw_tbl[1128]? = some (z_cw zmX6_waysNow) := rfl
theorem zkX6_waysNow : z_mok zmX6_waysNow = true := by decide +kernel
set_option maxRecDepth 1000000 in
theorem zwX6_common : lw_tbl[1167]? = some (z_cw zmX6_common) := rfl
theorem zkX6_common : z_mok zmX6_common = true := by decide +kernel
set_option maxRecDepth 1000000 in
theorem zwX6_lowest : lw_tbl[1164]? = some (z_cw zmX6_lowest) := rfl
theorem zkX6_lowest : z_mok zmX6_lowest = true := by decide +kernel
set_option maxRecDepth 1000000 in
theorem zwX6_told : lw_tbl[1160]? = some (z_cw zmX6_told) := rfl
theorem zkX6_told : z_mok zmX6_told = true := by decide +kernel
set_option maxRecDepth 1000000 in
theorem zwX6_strength : lw_tbl[1120]? = some (z_cw zmX6_strength) := rfl
theorem zkX6_strength : z_mok zmX6_strength = true := by decide +kernel
set_option maxRecDepth 1000000 in
theorem zwX6_isOf : lw_tbl[1183]? = some (z_cw zmX6_isOf) := rfl
theorem zkX6_isOf : z_mok zmX6_isOf = true := by decide +kernel
set_option maxRecDepth 1000000 in
theorem zwX6_leftTo : lw_tbl[1179]? = some (z_cw zmX6_leftTo) := rfl
theorem zkX6_leftTo : z_mok zmX6_leftTo = true := by decide +kernel
set_option maxRecDepth 1000000 in
theorem zwX6_wayOf : lw_tbl[1175]? = some (z_cw zmX6_wayOf) := rfl
theorem zkX6_wayOf : z_mok zmX6_wayOf = true := by decide +kernel
set_option maxRecDepth 1000000 in
theorem zwX6_way : lw_tbl[1171]? = some (z_cw zmX6_way) := rfl
theorem zkX6_way : z_mok zmX6_way = true := by decide +kernel
set_option maxRecDepth 1000000 in
theorem zwX6_barrierOf : lw_tbl[1191]? = some (z_cw zmX6_barrierOf) := rfl
theorem zkX6_barrierOf : z_mok zmX6_barrierOf = true := by decide +kernel
set_option maxRecDepth 1000000 in
theorem zwX6_barrier : lw_tbl[1187]? = some (z_cw zmX6_barrier) := rfl
theorem zkX6_barrier : z_mok zmX6_barrier = true := by decide +kernel
set_option maxRecDepth 1000000 in
theorem zwX6_doesBeat : lw_tbl[1199]? = some (z_cw zmX6_doesBeat) := rfl
theorem zkX6_doesBeat : z_mok zmX6_doesBeat = true := by decide +kernel
set_option maxRecDepth 1000000 in
theorem zwX6_beats : lw_tbl[1195]? = some (z_cw zmX6_beats) := rfl
theorem zkX6_beats : z_mok zmX6_beats = true := by decide +kernel
set_option maxRecDepth 1000000 in
theorem zwX6_unbeaten : lw_tbl[1207]? = some (z_cw zmX6_unbeaten) := rfl
theorem zkX6_unbeaten : z_mok zmX6_unbeaten = true := by decide +kernel
set_option maxRecDepth 1000000 in
theorem zwX6_winners : lw_tbl[1203]? = some (z_cw zmX6_winners) := rfl
theorem zkX6_winners : z_mok zmX6_winners = true := by decide +kernel
set_option maxRecDepth 1000000 in
theorem zwX6_firstDrawn : lw_tbl[1218]? = some (z_cw zmX6_firstDrawn) := rfl
theorem zkX6_firstDrawn : z_mok zmX6_firstDrawn = true := by decide +kernel
set_option maxRecDepth 1000000 in
theorem zwX6_ranked : lw_tbl[1211]? = some (z_cw zmX6_ranked) := rfl
theorem zkX6_ranked : z_mok zmX6_ranked = true := by decide +kernel
set_option maxRecDepth 1000000 in
theorem zwX6_rank : lw_tbl[1222]? = some (z_cw zmX6_rank) := rfl
theorem zkX6_rank : z_mok zmX6_rank = true := by decide +kernel
set_option maxRecDepth 1000000 in
theorem zwX6_linksToAll : lw_tbl[1230]? = some (z_cw zmX6_linksToAll) := rfl
theorem zkX6_linksToAll : z_mok zmX6_linksToAll = true := by decide +kernel
set_option maxRecDepth 1000000 in
theorem zwX6_smith : lw_tbl[1226]? = some (z_cw zmX6_smith) := rfl
theorem zkX6_smith : z_mok zmX6_smith = true := by decide +kernel
set_option maxRecDepth 1000000 in
theorem zwX6_isAside : lw_tbl[1242]? = some (z_cw zmX6_isAside) := rfl
theorem zkX6_isAside : z_mok zmX6_isAside = true := by decide +kernel
set_option maxRecDepth 1000000 in
theorem zwX6_areClones : lw_tbl[1238]? = some (z_cw zmX6_areClones) := rfl
theorem zkX6_areClones : z_mok zmX6_areClones = true := by decide +kernel
set_option maxRecDepth 1000000 in
theorem zwX6_clones : lw_tbl[1234]? = some (z_cw zmX6_clones) := rfl
theorem zkX6_clones : z_mok zmX6_clones = true := by decide +kernel
set_option maxRecDepth 1000000 in
theorem zwX6_behindIt : lw_tbl[1250]? = some (z_cw zmX6_behindIt) := rfl
theorem zkX6_behindIt : z_mok zmX6_behindIt = true := by decide +kernel
set_option maxRecDepth 1000000 in
theorem zwX6_sum : lw_tbl[1246]? = some (z_cw zmX6_sum) := rfl
theorem zkX6_sum : z_mok zmX6_sum = true := by decide +kernel
set_option maxRecDepth 1000000 in
theorem zwX6_first : lw_tbl[1258]? = some (z_cw zmX6_first) := rfl
theorem zkX6_first : z_mok zmX6_first = true := by decide +kernel
set_option maxRecDepth 1000000 in
theorem zwX6_firstNow : lw_tbl[1278]? = some (z_cw zmX6_firstNow) := rfl
theorem zkX6_firstNow : z_mok zmX6_firstNow = true := by decide +kernel
set_option maxRecDepth 1000000 in
theorem zwX6_without : lw_tbl[1254]? = some (z_cw zmX6_without) := rfl
theorem zkX6_without : z_mok zmX6_without = true := by decide +kernel
set_option maxRecDepth 1000000 in
theorem zwX6_would : lw_tbl[1262]? = some (z_cw zmX6_would) := rfl
theorem zkX6_would : z_mok zmX6_would = true := by decide +kernel
set_option maxRecDepth 1000000 in
theorem zwX6_needs : lw_tbl[1270]? = some (z_cw zmX6_needs) := rfl
theorem zkX6_needs : z_mok zmX6_needs = true := by decide +kernel
set_option maxRecDepth 1000000 in
theorem zwX6_turners : lw_tbl[1274]? = some (z_cw zmX6_turners) := rfl
theorem zkX6_turners : z_mok zmX6_turners = true := by decide +kernel
set_option maxRecDepth 1000000 in
theorem zwX6_agree : lw_tbl[1282]? = some (z_cw zmX6_agree) := rfl
theorem zkX6_agree : z_mok zmX6_agree = true := by decide +kernel
set_option maxRecDepth 1000000 in
theorem zwX6_flips : lw_tbl[1286]? = some (z_cw zmX6_flips) := rfl
theorem zkX6_flips : z_mok zmX6_flips = true := by decide +kernel
set_option maxRecDepth 1000000 in
theorem zwX6_isList : lw_tbl[1297]? = some (z_cw zmX6_isList) := rfl
theorem zkX6_isList : z_mok zmX6_isList = true := by decide +kernel
set_option maxRecDepth 1000000 in
theorem zwX6_isItem : lw_tbl[1309]? = some (z_cw zmX6_isItem) := rfl
theorem zkX6_isItem : z_mok zmX6_isItem = true := by decide +kernel
set_option maxRecDepth 1000000 in
theorem zwX6_wrong : lw_tbl[1294]? = some (z_cw zmX6_wrong) := rfl
theorem zkX6_wrong : z_mok zmX6_wrong = true := by decide +kernel
set_option maxRecDepth 1000000 in
theorem zwX6_lays : lw_tbl[1305]? = some (z_cw zmX6_lays) := rfl
theorem zkX6_lays : z_mok zmX6_lays = true := by decide +kernel
set_option maxRecDepth 1000000 in
theorem zwX6_laid : lw_tbl[1301]? = some (z_cw zmX6_laid) := rfl
theorem zkX6_laid : z_mok zmX6_laid = true := by decide +kernel
set_option maxRecDepth 1000000 in
theorem zwX6_prove : lw_tbl[1290]? = some (z_cw zmX6_prove) := rfl
theorem zkX6_prove : z_mok zmX6_prove = true := by decide +kernel
set_option maxRecDepth 1000000 in
theorem zwX6_isToldWay : lw_tbl[1317]? = some (z_cw zmX6_isToldWay) := rfl
theorem zkX6_isToldWay : z_mok zmX6_isToldWay = true := by decide +kernel
set_option maxRecDepth 1000000 in
theorem zwX6_isToldLink : lw_tbl[1321]? = some (z_cw zmX6_isToldLink) := rfl
theorem zkX6_isToldLink : z_mok zmX6_isToldLink = true := by decide +kernel
set_option maxRecDepth 1000000 in
theorem zwX6_isBarrier : lw_tbl[1325]? = some (z_cw zmX6_isBarrier) := rfl
theorem zkX6_isBarrier : z_mok zmX6_isBarrier = true := by decide +kernel
set_option maxRecDepth 1000000 in
theorem zwX6_proves : lw_tbl[1313]? = some (z_cw zmX6_proves) := rfl
theorem zkX6_proves : z_mok zmX6_proves = true := by decide +kernel
set_option maxRecDepth 1000000 in
theorem zwX6_allCounts : lw_tbl[1333]? = some (z_cw zmX6_allCounts) := rfl
theorem zkX6_allCounts : z_mok zmX6_allCounts = true := by decide +kernel
set_option maxRecDepth 1000000 in
theorem zwX6_links : lw_tbl[1337]? = some (z_cw zmX6_links) := rfl
theorem zkX6_links : z_mok zmX6_links = true := by decide +kernel
set_option maxRecDepth 1000000 in
theorem zwX6_allBeaten : lw_tbl[1341]? = some (z_cw zmX6_allBeaten) := rfl
theorem zkX6_allBeaten : z_mok zmX6_allBeaten = true := by decide +kernel
set_option maxRecDepth 1000000 in
theorem zwX6_told_ : lw_tbl[1329]? = some (z_cw zmX6_told_) := rfl
theorem zkX6_told_ : z_mok zmX6_told_ = true := by decide +kernel
set_option maxRecDepth 1000000 in
theorem zwX6_list : lw_tbl[1345]? = some (z_cw zmX6_list) := rfl
theorem zkX6_list : z_mok zmX6_list = true := by decide +kernel
set_option maxRecDepth 1000000 in
theorem zwX6_set : lw_tbl[1349]? = some (z_cw zmX6_set) := rfl
theorem zkX6_set : z_mok zmX6_set = true := by decide +kernel
set_option maxRecDepth 1000000 in
theorem zwX6_get : lw_tbl[1353]? = some (z_cw zmX6_get) := rfl
theorem zkX6_get : z_mok zmX6_get = true := by decide +kernel
set_option maxRecDepth 1000000 in
theorem zwX6_image : lw_tbl[1357]? = some (z_cw zmX6_image) := rfl
theorem zkX6_image : z_mok zmX6_image = true := by decide +kernel
set_option maxRecDepth 1000000 in
theorem zwX6_undo : lw_tbl[1361]? = some (z_cw zmX6_undo) := rfl
theorem zkX6_undo : z_mok zmX6_undo = true := by decide +kernel
set_option maxRecDepth 1000000 in
theorem zwJ6_bitCount_0f7a4 : lw_tbl[670]? = some (z_cw zmJ6_bitCount_0f7a4) := rfl
theorem zkJ6_bitCount_0f7a4 : z_mok zmJ6_bitCount_0f7a4 = true := by decide +kernel
set_option maxRecDepth 1000000 in
theorem zwJ9_floorDiv_7cf53 : lw_tbl[573]? = some (z_cw zmJ9_floorDiv_7cf53) := rfl
theorem zkJ9_floorDiv_7cf53 : z_mok zmJ9_floorDiv_7cf53 = true := by decide +kernel
set_option maxRecDepth 1000000 in
theorem zwJ9_floorMod_7cf53 : lw_tbl[576]? = some (z_cw zmJ9_floorMod_7cf53) := rfl
theorem zkJ9_floorMod_7cf53 : z_mok zmJ9_floorMod_7cf53 = true := by decide +kernel
set_option maxRecDepth 1000000 in
theorem zwJ9_max_7cf53 : lw_tbl[413]? = some (z_cw zmJ9_max_7cf53) := rfl
theorem zkJ9_max_7cf53 : z_mok zmJ9_max_7cf53 = true := by decide +kernel
set_option maxRecDepth 1000000 in
theorem zwJ9_max_f86c9 : lw_tbl[806]? = some (z_cw zmJ9_max_f86c9) := rfl
theorem zkJ9_max_f86c9 : z_mok zmJ9_max_f86c9 = true := by decide +kernel
set_option maxRecDepth 1000000 in
theorem zwJ9_min_7cf53 : lw_tbl[328]? = some (z_cw zmJ9_min_7cf53) := rfl
theorem zkJ9_min_7cf53 : z_mok zmJ9_min_7cf53 = true := by decide +kernel
set_option maxRecDepth 1000000 in
theorem zwJ9_min_f86c9 : lw_tbl[550]? = some (z_cw zmJ9_min_f86c9) := rfl
theorem zkJ9_min_f86c9 : z_mok zmJ9_min_f86c9 = true := by decide +kernel
set_option maxRecDepth 1000000 in
theorem zwJ7_fill_53178 : lw_tbl[118]? = some (z_cw zmJ7_fill_53178) := rfl
theorem zkJ7_fill_53178 : z_mok zmJ7_fill_53178 = true := by decide +kernel
def z_mt_0 : List z_M := [zmX0_has, zmX0_holds, zmX0_start, zmX0_reaches, zmX0_read, zmX0_lay, zmX1_byteAt, zmX1_write, zmX1_writeBehind, zmX1_writeByte, zmX2_start, zmX2_become, zmX2_has, zmX2_hasTwo, zmX2_hasBallot, zmX2_all]
theorem z_mto_0 : ∀ q ∈ z_mt_0, ∃ p : Nat, lw_tbl[p]? = some (z_cw q) ∧ z_mok q = true := List.forall_mem_cons.mpr ⟨⟨761, zwX0_has, zkX0_has⟩, List.forall_mem_cons.mpr ⟨⟨765, zwX0_holds, zkX0_holds⟩, List.forall_mem_cons.mpr ⟨⟨830, zwX0_start, zkX0_start⟩, List.forall_mem_cons.mpr ⟨⟨774, zwX0_reaches, zkX0_reaches⟩, List.forall_mem_cons.mpr ⟨⟨788, zwX0_read, zkX0_read⟩, List.forall_mem_cons.mpr ⟨⟨770, zwX0_lay, zkX0_lay⟩, List.forall_mem_cons.mpr ⟨⟨495, zwX1_byteAt, zkX1_byteAt⟩, List.forall_mem_cons.mpr ⟨⟨477, zwX1_write, zkX1_write⟩, List.forall_mem_cons.mpr ⟨⟨483, zwX1_writeBehind, zkX1_writeBehind⟩, List.forall_mem_cons.mpr ⟨⟨487, zwX1_writeByte, zkX1_writeByte⟩, List.forall_mem_cons.mpr ⟨⟨115, zwX2_start, zkX2_start⟩, List.forall_mem_cons.mpr ⟨⟨361, zwX2_become, zkX2_become⟩, List.forall_mem_cons.mpr ⟨⟨289, zwX2_has, zkX2_has⟩, List.forall_mem_cons.mpr ⟨⟨503, zwX2_hasTwo, zkX2_hasTwo⟩, List.forall_mem_cons.mpr ⟨⟨435, zwX2_hasBallot, zkX2_hasBallot⟩, List.forall_mem_cons.mpr ⟨⟨297, zwX2_all, zkX2_all⟩, fun _ h => absurd h List.not_mem_nil⟩⟩⟩⟩⟩⟩⟩⟩⟩⟩⟩⟩⟩⟩⟩⟩
def z_mt_1 : List z_M := [zmX2_ins, zmX2_isIn, zmX2_countOf, zmX2_rankingOf, zmX2_forOver, zmX2_ballotOf, zmX2_allCounts, zmX2_add, zmX2_lessen, zmX2_closeUp, zmX2_drawByNumbers, zmX2_drawnAt, zmX2_drawBySeed, zmX2_drawFirst, zmX2_areClones, zmX2_standTogether]
theorem z_mto_1 : ∀ q ∈ z_mt_1, ∃ p : Nat, lw_tbl[p]? = some (z_cw q) ∧ z_mok q = true := List.forall_mem_cons.mpr ⟨⟨293, zwX2_ins, zkX2_ins⟩, List.forall_mem_cons.mpr ⟨⟨301, zwX2_isIn, zkX2_isIn⟩, List.forall_mem_cons.mpr ⟨⟨439, zwX2_countOf, zkX2_countOf⟩, List.forall_mem_cons.mpr ⟨⟨456, zwX2_rankingOf, zkX2_rankingOf⟩, List.forall_mem_cons.mpr ⟨⟨507, zwX2_forOver, zkX2_forOver⟩, List.forall_mem_cons.mpr ⟨⟨409, zwX2_ballotOf, zkX2_ballotOf⟩, List.forall_mem_cons.mpr ⟨⟨814, zwX2_allCounts, zkX2_allCounts⟩, List.forall_mem_cons.mpr ⟨⟨405, zwX2_add, zkX2_add⟩, List.forall_mem_cons.mpr ⟨⟨444, zwX2_lessen, zkX2_lessen⟩, List.forall_mem_cons.mpr ⟨⟨448, zwX2_closeUp, zkX2_closeUp⟩, List.forall_mem_cons.mpr ⟨⟨122, zwX2_drawByNumbers, zkX2_drawByNumbers⟩, List.forall_mem_cons.mpr ⟨⟨333, zwX2_drawnAt, zkX2_drawnAt⟩, List.forall_mem_cons.mpr ⟨⟨325, zwX2_drawBySeed, zkX2_drawBySeed⟩, List.forall_mem_cons.mpr ⟨⟨317, zwX2_drawFirst, zkX2_drawFirst⟩, List.forall_mem_cons.mpr ⟨⟨681, zwX2_areClones, zkX2_areClones⟩, List.forall_mem_cons.mpr ⟨⟨687, zwX2_standTogether, zkX2_standTogether⟩, fun _ h => absurd h List.not_mem_nil⟩⟩⟩⟩⟩⟩⟩⟩⟩⟩⟩⟩⟩⟩⟩⟩
def z_mt_2 : List z_M := [zmX2_sumOfPlaces, zmX2_leadsOf, zmX2_manyBehind, zmX3_takeByte, zmX3_wipe, zmX3_rewind, zmX3_isRead, zmX3_sign, zmX3_passes, zmX3_figure, zmX3_readCount, zmX3_readRanking, zmX3_placeOthers, zmX4_load, zmX4_leaveOut, zmX4_count]
theorem z_mto_2 : ∀ q ∈ z_mt_2, ∃ p : Nat, lw_tbl[p]? = some (z_cw q) ∧ z_mok q = true := List.forall_mem_cons.mpr ⟨⟨696, zwX2_sumOfPlaces, zkX2_sumOfPlaces⟩, List.forall_mem_cons.mpr ⟨⟨705, zwX2_leadsOf, zkX2_leadsOf⟩, List.forall_mem_cons.mpr ⟨⟨700, zwX2_manyBehind, zkX2_manyBehind⟩, List.forall_mem_cons.mpr ⟨⟨345, zwX3_takeByte, zkX3_takeByte⟩, List.forall_mem_cons.mpr ⟨⟨353, zwX3_wipe, zkX3_wipe⟩, List.forall_mem_cons.mpr ⟨⟨372, zwX3_rewind, zkX3_rewind⟩, List.forall_mem_cons.mpr ⟨⟨426, zwX3_isRead, zkX3_isRead⟩, List.forall_mem_cons.mpr ⟨⟨384, zwX3_sign, zkX3_sign⟩, List.forall_mem_cons.mpr ⟨⟨389, zwX3_passes, zkX3_passes⟩, List.forall_mem_cons.mpr ⟨⟨380, zwX3_figure, zkX3_figure⟩, List.forall_mem_cons.mpr ⟨⟨376, zwX3_readCount, zkX3_readCount⟩, List.forall_mem_cons.mpr ⟨⟨393, zwX3_readRanking, zkX3_readRanking⟩, List.forall_mem_cons.mpr ⟨⟨401, zwX3_placeOthers, zkX3_placeOthers⟩, List.forall_mem_cons.mpr ⟨⟨525, zwX4_load, zkX4_load⟩, List.forall_mem_cons.mpr ⟨⟨713, zwX4_leaveOut, zkX4_leaveOut⟩, List.forall_mem_cons.mpr ⟨⟨727, zwX4_count, zkX4_count⟩, fun _ h => absurd h List.not_mem_nil⟩⟩⟩⟩⟩⟩⟩⟩⟩⟩⟩⟩⟩⟩⟩⟩
def z_mt_3 : List z_M := [zmX4_goBy, zmX4_reckon, zmX4_goThrough, zmX4_beatersOf, zmX4_linkBetween, zmX4_ratioStrength, zmX4_knows, zmX4_linkStrength, zmX4_bestStrength, zmX4_isOver, zmX4_cellAsStrongAs, zmX4_strengthTold, zmX4_commonDivisor, zmX4_walk, zmX4_tellDistances, zmX4_nextStep]
theorem z_mto_3 : ∀ q ∈ z_mt_3, ∃ p : Nat, lw_tbl[p]? = some (z_cw q) ∧ z_mok q = true := List.forall_mem_cons.mpr ⟨⟨749, zwX4_goBy, zkX4_goBy⟩, List.forall_mem_cons.mpr ⟨⟨532, zwX4_reckon, zkX4_reckon⟩, List.forall_mem_cons.mpr ⟨⟨547, zwX4_goThrough, zkX4_goThrough⟩, List.forall_mem_cons.mpr ⟨⟨554, zwX4_beatersOf, zkX4_beatersOf⟩, List.forall_mem_cons.mpr ⟨⟨536, zwX4_linkBetween, zkX4_linkBetween⟩, List.forall_mem_cons.mpr ⟨⟨541, zwX4_ratioStrength, zkX4_ratioStrength⟩, List.forall_mem_cons.mpr ⟨⟨566, zwX4_knows, zkX4_knows⟩, List.forall_mem_cons.mpr ⟨⟨601, zwX4_linkStrength, zkX4_linkStrength⟩, List.forall_mem_cons.mpr ⟨⟨562, zwX4_bestStrength, zkX4_bestStrength⟩, List.forall_mem_cons.mpr ⟨⟨621, zwX4_isOver, zkX4_isOver⟩, List.forall_mem_cons.mpr ⟨⟨558, zwX4_cellAsStrongAs, zkX4_cellAsStrongAs⟩, List.forall_mem_cons.mpr ⟨⟨570, zwX4_strengthTold, zkX4_strengthTold⟩, List.forall_mem_cons.mpr ⟨⟨580, zwX4_commonDivisor, zkX4_commonDivisor⟩, List.forall_mem_cons.mpr ⟨⟨589, zwX4_walk, zkX4_walk⟩, List.forall_mem_cons.mpr ⟨⟨593, zwX4_tellDistances, zkX4_tellDistances⟩, List.forall_mem_cons.mpr ⟨⟨597, zwX4_nextStep, zkX4_nextStep⟩, fun _ h => absurd h List.not_mem_nil⟩⟩⟩⟩⟩⟩⟩⟩⟩⟩⟩⟩⟩⟩⟩⟩
def z_mt_4 : List z_M := [zmX4_stepOf, zmX4_reachedBetter, zmX4_unbeaten, zmX4_firstOf, zmX4_first, zmX4_rankedAt, zmX4_placeByRanks, zmX4_leastTopSet, zmX4_grow, zmX4_unlinkedFrom, zmX4_strongestOutOf, zmX4_manyLinks, zmX4_manyOver, zmX5_begin, zmX5_out, zmX5_measure]
theorem z_mto_4 : ∀ q ∈ z_mt_4, ∃ p : Nat, lw_tbl[p]? = some (z_cw q) ∧ z_mok q = true := List.forall_mem_cons.mpr ⟨⟨605, zwX4_stepOf, zkX4_stepOf⟩, List.forall_mem_cons.mpr ⟨⟨613, zwX4_reachedBetter, zkX4_reachedBetter⟩, List.forall_mem_cons.mpr ⟨⟨629, zwX4_unbeaten, zkX4_unbeaten⟩, List.forall_mem_cons.mpr ⟨⟨641, zwX4_firstOf, zkX4_firstOf⟩, List.forall_mem_cons.mpr ⟨⟨717, zwX4_first, zkX4_first⟩, List.forall_mem_cons.mpr ⟨⟨637, zwX4_rankedAt, zkX4_rankedAt⟩, List.forall_mem_cons.mpr ⟨⟨650, zwX4_placeByRanks, zkX4_placeByRanks⟩, List.forall_mem_cons.mpr ⟨⟨659, zwX4_leastTopSet, zkX4_leastTopSet⟩, List.forall_mem_cons.mpr ⟨⟨663, zwX4_grow, zkX4_grow⟩, List.forall_mem_cons.mpr ⟨⟨667, zwX4_unlinkedFrom, zkX4_unlinkedFrom⟩, List.forall_mem_cons.mpr ⟨⟨803, zwX4_strongestOutOf, zkX4_strongestOutOf⟩, List.forall_mem_cons.mpr ⟨⟨818, zwX4_manyLinks, zkX4_manyLinks⟩, List.forall_mem_cons.mpr ⟨⟨822, zwX4_manyOver, zkX4_manyOver⟩, List.forall_mem_cons.mpr ⟨⟨280, zwX5_begin, zkX5_begin⟩, List.forall_mem_cons.mpr ⟨⟨285, zwX5_out, zkX5_out⟩, List.forall_mem_cons.mpr ⟨⟨309, zwX5_measure, zkX5_measure⟩, fun _ h => absurd h List.not_mem_nil⟩⟩⟩⟩⟩⟩⟩⟩⟩⟩⟩⟩⟩⟩⟩⟩
def z_mt_5 : List z_M := [zmX5_ahead, zmX5_shuffle, zmX5_drawn, zmX5_feed, zmX5_clear, zmX5_ballots, zmX5_remove, zmX5_ballot, zmX5_find, zmX5_spell, zmX5_paper, zmX5_pair, zmX5_link, zmX5_strength, zmX5_way, zmX5_barrier]
theorem z_mto_5 : ∀ q ∈ z_mt_5, ∃ p : Nat, lw_tbl[p]? = some (z_cw q) ∧ z_mok q = true := List.forall_mem_cons.mpr ⟨⟨313, zwX5_ahead, zkX5_ahead⟩, List.forall_mem_cons.mpr ⟨⟨321, zwX5_shuffle, zkX5_shuffle⟩, List.forall_mem_cons.mpr ⟨⟨337, zwX5_drawn, zkX5_drawn⟩, List.forall_mem_cons.mpr ⟨⟨341, zwX5_feed, zkX5_feed⟩, List.forall_mem_cons.mpr ⟨⟨349, zwX5_clear, zkX5_clear⟩, List.forall_mem_cons.mpr ⟨⟨357, zwX5_ballots, zkX5_ballots⟩, List.forall_mem_cons.mpr ⟨⟨431, zwX5_remove, zkX5_remove⟩, List.forall_mem_cons.mpr ⟨⟨452, zwX5_ballot, zkX5_ballot⟩, List.forall_mem_cons.mpr ⟨⟨464, zwX5_find, zkX5_find⟩, List.forall_mem_cons.mpr ⟨⟨473, zwX5_spell, zkX5_spell⟩, List.forall_mem_cons.mpr ⟨⟨491, zwX5_paper, zkX5_paper⟩, List.forall_mem_cons.mpr ⟨⟨499, zwX5_pair, zkX5_pair⟩, List.forall_mem_cons.mpr ⟨⟨513, zwX5_link, zkX5_link⟩, List.forall_mem_cons.mpr ⟨⟨517, zwX5_strength, zkX5_strength⟩, List.forall_mem_cons.mpr ⟨⟨585, zwX5_way, zkX5_way⟩, List.forall_mem_cons.mpr ⟨⟨609, zwX5_barrier, zkX5_barrier⟩, fun _ h => absurd h List.not_mem_nil⟩⟩⟩⟩⟩⟩⟩⟩⟩⟩⟩⟩⟩⟩⟩⟩
def z_mt_6 : List z_M := [zmX5_beats, zmX5_winners, zmX5_ranked, zmX5_rank, zmX5_smith, zmX5_clones, zmX5_sum, zmX5_without, zmX5_would, zmX5_needs, zmX5_turners, zmX5_agree, zmX5_flips, zmX5_prove, zmX5_proves, zmX5_told]
theorem z_mto_6 : ∀ q ∈ z_mt_6, ∃ p : Nat, lw_tbl[p]? = some (z_cw q) ∧ z_mok q = true := List.forall_mem_cons.mpr ⟨⟨617, zwX5_beats, zkX5_beats⟩, List.forall_mem_cons.mpr ⟨⟨625, zwX5_winners, zkX5_winners⟩, List.forall_mem_cons.mpr ⟨⟨633, zwX5_ranked, zkX5_ranked⟩, List.forall_mem_cons.mpr ⟨⟨646, zwX5_rank, zkX5_rank⟩, List.forall_mem_cons.mpr ⟨⟨655, zwX5_smith, zkX5_smith⟩, List.forall_mem_cons.mpr ⟨⟨677, zwX5_clones, zkX5_clones⟩, List.forall_mem_cons.mpr ⟨⟨692, zwX5_sum, zkX5_sum⟩, List.forall_mem_cons.mpr ⟨⟨709, zwX5_without, zkX5_without⟩, List.forall_mem_cons.mpr ⟨⟨722, zwX5_would, zkX5_would⟩, List.forall_mem_cons.mpr ⟨⟨732, zwX5_needs, zkX5_needs⟩, List.forall_mem_cons.mpr ⟨⟨736, zwX5_turners, zkX5_turners⟩, List.forall_mem_cons.mpr ⟨⟨745, zwX5_agree, zkX5_agree⟩, List.forall_mem_cons.mpr ⟨⟨753, zwX5_flips, zkX5_flips⟩, List.forall_mem_cons.mpr ⟨⟨757, zwX5_prove, zkX5_prove⟩, List.forall_mem_cons.mpr ⟨⟨779, zwX5_proves, zkX5_proves⟩, List.forall_mem_cons.mpr ⟨⟨810, zwX5_told, zkX5_told⟩, fun _ h => absurd h List.not_mem_nil⟩⟩⟩⟩⟩⟩⟩⟩⟩⟩⟩⟩⟩⟩⟩⟩
def z_mt_7 : List z_M := [zmX5_list, zmX5_set, zmX5_get, zmX5_image, zmX5_undo, zmX5_lookAtWays, zmX5_readRankingAlone, zmX5_readParts, zmX5_leastTurn, zmX5_isProof, zmX5_strengthOfRow, zmX5_hasBit, zmX5_placeOf, zmX5_withPlace, zmX5_placesIn, zmX5_cell]
theorem z_mto_7 : ∀ q ∈ z_mt_7, ∃ p : Nat, lw_tbl[p]? = some (z_cw q) ∧ z_mok q = true := List.forall_mem_cons.mpr ⟨⟨826, zwX5_list, zkX5_list⟩, List.forall_mem_cons.mpr ⟨⟨834, zwX5_set, zkX5_set⟩, List.forall_mem_cons.mpr ⟨⟨838, zwX5_get, zkX5_get⟩, List.forall_mem_cons.mpr ⟨⟨842, zwX5_image, zkX5_image⟩, List.forall_mem_cons.mpr ⟨⟨846, zwX5_undo, zkX5_undo⟩, List.forall_mem_cons.mpr ⟨⟨521, zwX5_lookAtWays, zkX5_lookAtWays⟩, List.forall_mem_cons.mpr ⟨⟨468, zwX5_readRankingAlone, zkX5_readRankingAlone⟩, List.forall_mem_cons.mpr ⟨⟨368, zwX5_readParts, zkX5_readParts⟩, List.forall_mem_cons.mpr ⟨⟨740, zwX5_leastTurn, zkX5_leastTurn⟩, List.forall_mem_cons.mpr ⟨⟨783, zwX5_isProof, zkX5_isProof⟩, List.forall_mem_cons.mpr ⟨⟨794, zwX5_strengthOfRow, zkX5_strengthOfRow⟩, List.forall_mem_cons.mpr ⟨⟨305, zwX5_hasBit, zkX5_hasBit⟩, List.forall_mem_cons.mpr ⟨⟨422, zwX5_placeOf, zkX5_placeOf⟩, List.forall_mem_cons.mpr ⟨⟨397, zwX5_withPlace, zkX5_withPlace⟩, List.forall_mem_cons.mpr ⟨⟨459, zwX5_placesIn, zkX5_placesIn⟩, List.forall_mem_cons.mpr ⟨⟨419, zwX5_cell, zkX5_cell⟩, fun _ h => absurd h List.not_mem_nil⟩⟩⟩⟩⟩⟩⟩⟩⟩⟩⟩⟩⟩⟩⟩⟩
def z_mt_8 : List z_M := [zmX5_countPairs, zmX6_isIn, zmX6_copies, zmX6_has, zmX6_bits, zmX6_everyone, zmX6_ins, zmX6_isOne, zmX6_areTwo, zmX6_areIn, zmX6_isBallot, zmX6_placeOf, zmX6_begins, zmX6_begin, zmX6_out, zmX6_measure]
theorem z_mto_8 : ∀ q ∈ z_mt_8, ∃ p : Nat, lw_tbl[p]? = some (z_cw q) ∧ z_mok q = true := List.forall_mem_cons.mpr ⟨⟨416, zwX5_countPairs, zkX5_countPairs⟩, List.forall_mem_cons.mpr ⟨⟨936, zwX6_isIn, zkX6_isIn⟩, List.forall_mem_cons.mpr ⟨⟨997, zwX6_copies, zkX6_copies⟩, List.forall_mem_cons.mpr ⟨⟨955, zwX6_has, zkX6_has⟩, List.forall_mem_cons.mpr ⟨⟨1214, zwX6_bits, zkX6_bits⟩, List.forall_mem_cons.mpr ⟨⟨952, zwX6_everyone, zkX6_everyone⟩, List.forall_mem_cons.mpr ⟨⟨948, zwX6_ins, zkX6_ins⟩, List.forall_mem_cons.mpr ⟨⟨944, zwX6_isOne, zkX6_isOne⟩, List.forall_mem_cons.mpr ⟨⟨1095, zwX6_areTwo, zkX6_areTwo⟩, List.forall_mem_cons.mpr ⟨⟨1124, zwX6_areIn, zkX6_areIn⟩, List.forall_mem_cons.mpr ⟨⟨1049, zwX6_isBallot, zkX6_isBallot⟩, List.forall_mem_cons.mpr ⟨⟨1040, zwX6_placeOf, zkX6_placeOf⟩, List.forall_mem_cons.mpr ⟨⟨856, zwX6_begins, zkX6_begins⟩, List.forall_mem_cons.mpr ⟨⟨931, zwX6_begin, zkX6_begin⟩, List.forall_mem_cons.mpr ⟨⟨940, zwX6_out, zkX6_out⟩, List.forall_mem_cons.mpr ⟨⟨959, zwX6_measure, zkX6_measure⟩, fun _ h => absurd h List.not_mem_nil⟩⟩⟩⟩⟩⟩⟩⟩⟩⟩⟩⟩⟩⟩⟩⟩
def z_mt_9 : List z_M := [zmX6_drawOf, zmX6_ahead, zmX6_shuffle, zmX6_drawn, zmX6_feed, zmX6_clear, zmX6_reads, zmX6_here, zmX6_isDigit, zmX6_fails, zmX6_isSign, zmX6_isTold, zmX6_isRanking, zmX6_isWholeRanking, zmX6_ballotOfRanking, zmX6_comes]
theorem z_mto_9 : ∀ q ∈ z_mt_9, ∃ p : Nat, lw_tbl[p]? = some (z_cw q) ∧ z_mok q = true := List.forall_mem_cons.mpr ⟨⟨968, zwX6_drawOf, zkX6_drawOf⟩, List.forall_mem_cons.mpr ⟨⟨964, zwX6_ahead, zkX6_ahead⟩, List.forall_mem_cons.mpr ⟨⟨972, zwX6_shuffle, zkX6_shuffle⟩, List.forall_mem_cons.mpr ⟨⟨977, zwX6_drawn, zkX6_drawn⟩, List.forall_mem_cons.mpr ⟨⟨981, zwX6_feed, zkX6_feed⟩, List.forall_mem_cons.mpr ⟨⟨986, zwX6_clear, zkX6_clear⟩, List.forall_mem_cons.mpr ⟨⟨994, zwX6_reads, zkX6_reads⟩, List.forall_mem_cons.mpr ⟨⟨1009, zwX6_here, zkX6_here⟩, List.forall_mem_cons.mpr ⟨⟨1005, zwX6_isDigit, zkX6_isDigit⟩, List.forall_mem_cons.mpr ⟨⟨1015, zwX6_fails, zkX6_fails⟩, List.forall_mem_cons.mpr ⟨⟨1020, zwX6_isSign, zkX6_isSign⟩, List.forall_mem_cons.mpr ⟨⟨1028, zwX6_isTold, zkX6_isTold⟩, List.forall_mem_cons.mpr ⟨⟨1024, zwX6_isRanking, zkX6_isRanking⟩, List.forall_mem_cons.mpr ⟨⟨1071, zwX6_isWholeRanking, zkX6_isWholeRanking⟩, List.forall_mem_cons.mpr ⟨⟨1036, zwX6_ballotOfRanking, zkX6_ballotOfRanking⟩, List.forall_mem_cons.mpr ⟨⟨1032, zwX6_comes, zkX6_comes⟩, fun _ h => absurd h List.not_mem_nil⟩⟩⟩⟩⟩⟩⟩⟩⟩⟩⟩⟩⟩⟩⟩⟩
def z_mt_10 : List z_M := [zmX6_isPart, zmX6_ballots, zmX6_goes, zmX6_remove, zmX6_places, zmX6_ballot, zmX6_find, zmX6_says, zmX6_saysPlace, zmX6_spell, zmX6_paper, zmX6_counts, zmX6_countsAll, zmX6_countsRanking, zmX6_over, zmX6_pair]
theorem z_mto_10 : ∀ q ∈ z_mt_10, ∃ p : Nat, lw_tbl[p]? = some (z_cw q) ∧ z_mok q = true := List.forall_mem_cons.mpr ⟨⟨1001, zwX6_isPart, zkX6_isPart⟩, List.forall_mem_cons.mpr ⟨⟨990, zwX6_ballots, zkX6_ballots⟩, List.forall_mem_cons.mpr ⟨⟨1053, zwX6_goes, zkX6_goes⟩, List.forall_mem_cons.mpr ⟨⟨1045, zwX6_remove, zkX6_remove⟩, List.forall_mem_cons.mpr ⟨⟨1061, zwX6_places, zkX6_places⟩, List.forall_mem_cons.mpr ⟨⟨1057, zwX6_ballot, zkX6_ballot⟩, List.forall_mem_cons.mpr ⟨⟨1067, zwX6_find, zkX6_find⟩, List.forall_mem_cons.mpr ⟨⟨1079, zwX6_says, zkX6_says⟩, List.forall_mem_cons.mpr ⟨⟨1083, zwX6_saysPlace, zkX6_saysPlace⟩, List.forall_mem_cons.mpr ⟨⟨1075, zwX6_spell, zkX6_spell⟩, List.forall_mem_cons.mpr ⟨⟨1087, zwX6_paper, zkX6_paper⟩, List.forall_mem_cons.mpr ⟨⟨1104, zwX6_counts, zkX6_counts⟩, List.forall_mem_cons.mpr ⟨⟨1100, zwX6_countsAll, zkX6_countsAll⟩, List.forall_mem_cons.mpr ⟨⟨1266, zwX6_countsRanking, zkX6_countsRanking⟩, List.forall_mem_cons.mpr ⟨⟨1108, zwX6_over, zkX6_over⟩, List.forall_mem_cons.mpr ⟨⟨1091, zwX6_pair, zkX6_pair⟩, fun _ h => absurd h List.not_mem_nil⟩⟩⟩⟩⟩⟩⟩⟩⟩⟩⟩⟩⟩⟩⟩⟩
def z_mt_11 : List z_M := [zmX6_isLink, zmX6_link, zmX6_isStronger, zmX6_isMore, zmX6_takes, zmX6_strongestLeft, zmX6_goesOn, zmX6_grows, zmX6_ways, zmX6_waysNow, zmX6_common, zmX6_lowest, zmX6_told, zmX6_strength, zmX6_isOf, zmX6_leftTo]
theorem z_mto_11 : ∀ q ∈ z_mt_11, ∃ p : Nat, lw_tbl[p]? = some (z_cw q) ∧ z_mok q = true := List.forall_mem_cons.mpr ⟨⟨1116, zwX6_isLink, zkX6_isLink⟩, List.forall_mem_cons.mpr ⟨⟨1112, zwX6_link, zkX6_link⟩, List.forall_mem_cons.mpr ⟨⟨1144, zwX6_isStronger, zkX6_isStronger⟩, List.forall_mem_cons.mpr ⟨⟨1152, zwX6_isMore, zkX6_isMore⟩, List.forall_mem_cons.mpr ⟨⟨1141, zwX6_takes, zkX6_takes⟩, List.forall_mem_cons.mpr ⟨⟨1148, zwX6_strongestLeft, zkX6_strongestLeft⟩, List.forall_mem_cons.mpr ⟨⟨1156, zwX6_goesOn, zkX6_goesOn⟩, List.forall_mem_cons.mpr ⟨⟨1136, zwX6_grows, zkX6_grows⟩, List.forall_mem_cons.mpr ⟨⟨1132, zwX6_ways, zkX6_ways⟩, List.forall_mem_cons.mpr ⟨⟨1128, zwX6_waysNow, zkX6_waysNow⟩, List.forall_mem_cons.mpr ⟨⟨1167, zwX6_common, zkX6_common⟩, List.forall_mem_cons.mpr ⟨⟨1164, zwX6_lowest, zkX6_lowest⟩, List.forall_mem_cons.mpr ⟨⟨1160, zwX6_told, zkX6_told⟩, List.forall_mem_cons.mpr ⟨⟨1120, zwX6_strength, zkX6_strength⟩, List.forall_mem_cons.mpr ⟨⟨1183, zwX6_isOf, zkX6_isOf⟩, List.forall_mem_cons.mpr ⟨⟨1179, zwX6_leftTo, zkX6_leftTo⟩, fun _ h => absurd h List.not_mem_nil⟩⟩⟩⟩⟩⟩⟩⟩⟩⟩⟩⟩⟩⟩⟩⟩
def z_mt_12 : List z_M := [zmX6_wayOf, zmX6_way, zmX6_barrierOf, zmX6_barrier, zmX6_doesBeat, zmX6_beats, zmX6_unbeaten, zmX6_winners, zmX6_firstDrawn, zmX6_ranked, zmX6_rank, zmX6_linksToAll, zmX6_smith, zmX6_isAside, zmX6_areClones, zmX6_clones]
theorem z_mto_12 : ∀ q ∈ z_mt_12, ∃ p : Nat, lw_tbl[p]? = some (z_cw q) ∧ z_mok q = true := List.forall_mem_cons.mpr ⟨⟨1175, zwX6_wayOf, zkX6_wayOf⟩, List.forall_mem_cons.mpr ⟨⟨1171, zwX6_way, zkX6_way⟩, List.forall_mem_cons.mpr ⟨⟨1191, zwX6_barrierOf, zkX6_barrierOf⟩, List.forall_mem_cons.mpr ⟨⟨1187, zwX6_barrier, zkX6_barrier⟩, List.forall_mem_cons.mpr ⟨⟨1199, zwX6_doesBeat, zkX6_doesBeat⟩, List.forall_mem_cons.mpr ⟨⟨1195, zwX6_beats, zkX6_beats⟩, List.forall_mem_cons.mpr ⟨⟨1207, zwX6_unbeaten, zkX6_unbeaten⟩, List.forall_mem_cons.mpr ⟨⟨1203, zwX6_winners, zkX6_winners⟩, List.forall_mem_cons.mpr ⟨⟨1218, zwX6_firstDrawn, zkX6_firstDrawn⟩, List.forall_mem_cons.mpr ⟨⟨1211, zwX6_ranked, zkX6_ranked⟩, List.forall_mem_cons.mpr ⟨⟨1222, zwX6_rank, zkX6_rank⟩, List.forall_mem_cons.mpr ⟨⟨1230, zwX6_linksToAll, zkX6_linksToAll⟩, List.forall_mem_cons.mpr ⟨⟨1226, zwX6_smith, zkX6_smith⟩, List.forall_mem_cons.mpr ⟨⟨1242, zwX6_isAside, zkX6_isAside⟩, List.forall_mem_cons.mpr ⟨⟨1238, zwX6_areClones, zkX6_areClones⟩, List.forall_mem_cons.mpr ⟨⟨1234, zwX6_clones, zkX6_clones⟩, fun _ h => absurd h List.not_mem_nil⟩⟩⟩⟩⟩⟩⟩⟩⟩⟩⟩⟩⟩⟩⟩⟩
def z_mt_13 : List z_M := [zmX6_behindIt, zmX6_sum, zmX6_first, zmX6_firstNow, zmX6_without, zmX6_would, zmX6_needs, zmX6_turners, zmX6_agree, zmX6_flips, zmX6_isList, zmX6_isItem, zmX6_wrong, zmX6_lays, zmX6_laid, zmX6_prove]
theorem z_mto_13 : ∀ q ∈ z_mt_13, ∃ p : Nat, lw_tbl[p]? = some (z_cw q) ∧ z_mok q = true := List.forall_mem_cons.mpr ⟨⟨1250, zwX6_behindIt, zkX6_behindIt⟩, List.forall_mem_cons.mpr ⟨⟨1246, zwX6_sum, zkX6_sum⟩, List.forall_mem_cons.mpr ⟨⟨1258, zwX6_first, zkX6_first⟩, List.forall_mem_cons.mpr ⟨⟨1278, zwX6_firstNow, zkX6_firstNow⟩, List.forall_mem_cons.mpr ⟨⟨1254, zwX6_without, zkX6_without⟩, List.forall_mem_cons.mpr ⟨⟨1262, zwX6_would, zkX6_would⟩, List.forall_mem_cons.mpr ⟨⟨1270, zwX6_needs, zkX6_needs⟩, List.forall_mem_cons.mpr ⟨⟨1274, zwX6_turners, zkX6_turners⟩, List.forall_mem_cons.mpr ⟨⟨1282, zwX6_agree, zkX6_agree⟩, List.forall_mem_cons.mpr ⟨⟨1286, zwX6_flips, zkX6_flips⟩, List.forall_mem_cons.mpr ⟨⟨1297, zwX6_isList, zkX6_isList⟩, List.forall_mem_cons.mpr ⟨⟨1309, zwX6_isItem, zkX6_isItem⟩, List.forall_mem_cons.mpr ⟨⟨1294, zwX6_wrong, zkX6_wrong⟩, List.forall_mem_cons.mpr ⟨⟨1305, zwX6_lays, zkX6_lays⟩, List.forall_mem_cons.mpr ⟨⟨1301, zwX6_laid, zkX6_laid⟩, List.forall_mem_cons.mpr ⟨⟨1290, zwX6_prove, zkX6_prove⟩, fun _ h => absurd h List.not_mem_nil⟩⟩⟩⟩⟩⟩⟩⟩⟩⟩⟩⟩⟩⟩⟩⟩
def z_mt_14 : List z_M := [zmX6_isToldWay, zmX6_isToldLink, zmX6_isBarrier, zmX6_proves, zmX6_allCounts, zmX6_links, zmX6_allBeaten, zmX6_told_, zmX6_list, zmX6_set, zmX6_get, zmX6_image, zmX6_undo, zmJ6_bitCount_0f7a4, zmJ9_floorDiv_7cf53, zmJ9_floorMod_7cf53]
theorem z_mto_14 : ∀ q ∈ z_mt_14, ∃ p : Nat, lw_tbl[p]? = some (z_cw q) ∧ z_mok q = true := List.forall_mem_cons.mpr ⟨⟨1317, zwX6_isToldWay, zkX6_isToldWay⟩, List.forall_mem_cons.mpr ⟨⟨1321, zwX6_isToldLink, zkX6_isToldLink⟩, List.forall_mem_cons.mpr ⟨⟨1325, zwX6_isBarrier, zkX6_isBarrier⟩, List.forall_mem_cons.mpr ⟨⟨1313, zwX6_proves, zkX6_proves⟩, List.forall_mem_cons.mpr ⟨⟨1333, zwX6_allCounts, zkX6_allCounts⟩, List.forall_mem_cons.mpr ⟨⟨1337, zwX6_links, zkX6_links⟩, List.forall_mem_cons.mpr ⟨⟨1341, zwX6_allBeaten, zkX6_allBeaten⟩, List.forall_mem_cons.mpr ⟨⟨1329, zwX6_told_, zkX6_told_⟩, List.forall_mem_cons.mpr ⟨⟨1345, zwX6_list, zkX6_list⟩, List.forall_mem_cons.mpr ⟨⟨1349, zwX6_set, zkX6_set⟩, List.forall_mem_cons.mpr ⟨⟨1353, zwX6_get, zkX6_get⟩, List.forall_mem_cons.mpr ⟨⟨1357, zwX6_image, zkX6_image⟩, List.forall_mem_cons.mpr ⟨⟨1361, zwX6_undo, zkX6_undo⟩, List.forall_mem_cons.mpr ⟨⟨670, zwJ6_bitCount_0f7a4, zkJ6_bitCount_0f7a4⟩, List.forall_mem_cons.mpr ⟨⟨573, zwJ9_floorDiv_7cf53, zkJ9_floorDiv_7cf53⟩, List.forall_mem_cons.mpr ⟨⟨576, zwJ9_floorMod_7cf53, zkJ9_floorMod_7cf53⟩, fun _ h => absurd h List.not_mem_nil⟩⟩⟩⟩⟩⟩⟩⟩⟩⟩⟩⟩⟩⟩⟩⟩
def z_mt_15 : List z_M := [zmJ9_max_7cf53, zmJ9_max_f86c9, zmJ9_min_7cf53, zmJ9_min_f86c9, zmJ7_fill_53178]
theorem z_mto_15 : ∀ q ∈ z_mt_15, ∃ p : Nat, lw_tbl[p]? = some (z_cw q) ∧ z_mok q = true := List.forall_mem_cons.mpr ⟨⟨413, zwJ9_max_7cf53, zkJ9_max_7cf53⟩, List.forall_mem_cons.mpr ⟨⟨806, zwJ9_max_f86c9, zkJ9_max_f86c9⟩, List.forall_mem_cons.mpr ⟨⟨328, zwJ9_min_7cf53, zkJ9_min_7cf53⟩, List.forall_mem_cons.mpr ⟨⟨550, zwJ9_min_f86c9, zkJ9_min_f86c9⟩, List.forall_mem_cons.mpr ⟨⟨118, zwJ7_fill_53178, zkJ7_fill_53178⟩, fun _ h => absurd h List.not_mem_nil⟩⟩⟩⟩⟩
set_option maxRecDepth 100000 in
theorem z_mt_eq : z_mt = z_mt_0 ++ (z_mt_1 ++ (z_mt_2 ++ (z_mt_3 ++ (z_mt_4 ++ (z_mt_5 ++ (z_mt_6 ++ (z_mt_7 ++ (z_mt_8 ++ (z_mt_9 ++ (z_mt_10 ++ (z_mt_11 ++ (z_mt_12 ++ (z_mt_13 ++ (z_mt_14 ++ (z_mt_15))))))))))))))) := rfl
theorem z_mt_ok : ∀ q ∈ z_mt, ∃ p : Nat, lw_tbl[p]? = some (z_cw q) ∧ z_mok q = true := by
  rw [z_mt_eq]
  exact List.forall_mem_append.mpr ⟨z_mto_0, List.forall_mem_append.mpr ⟨z_mto_1, List.forall_mem_append.mpr ⟨z_mto_2, List.forall_mem_append.mpr ⟨z_mto_3, List.forall_mem_append.mpr ⟨z_mto_4, List.forall_mem_append.mpr ⟨z_mto_5, List.forall_mem_append.mpr ⟨z_mto_6, List.forall_mem_append.mpr ⟨z_mto_7, List.forall_mem_append.mpr ⟨z_mto_8, List.forall_mem_append.mpr ⟨z_mto_9, List.forall_mem_append.mpr ⟨z_mto_10, List.forall_mem_append.mpr ⟨z_mto_11, List.forall_mem_append.mpr ⟨z_mto_12, List.forall_mem_append.mpr ⟨z_mto_13, List.forall_mem_append.mpr ⟨z_mto_14, z_mto_15⟩⟩⟩⟩⟩⟩⟩⟩⟩⟩⟩⟩⟩⟩⟩
theorem z_lko_0 : (List.range 400).all (z_lok 0) = true := by decide +kernel
theorem z_lko_1 : (List.range 400).all (z_lok 1) = true := by decide +kernel
theorem z_lko_2 : (List.range 400).all (z_lok 2) = true := by decide +kernel
theorem z_lko_3 : (List.range 400).all (z_lok 3) = true := by decide +kernel
theorem z_lko_4 : (List.range 400).all (z_lok 4) = true := by decide +kernel
theorem z_lko_5 : (List.range 400).all (z_lok 5) = true := by decide +kernel
theorem z_lko_6 : (List.range 400).all (z_lok 6) = true := by decide +kernel
theorem z_lko_7 : (List.range 400).all (z_lok 7) = true := by decide +kernel
theorem z_lko_8 : (List.range 400).all (z_lok 8) = true := by decide +kernel
theorem z_lko_9 : (List.range 400).all (z_lok 9) = true := by decide +kernel
theorem z_lk_ok : ∀ (own i : Nat) (e : z_K), z_lk own i = some e → z_lgood own i e (z_lp own i) = true := by
  intro own i e h
  have hi : i < 400 := by
    unfold z_lk at h
    cases hb : Nat.ble i 399 with
    | true => have := Nat.le_of_ble_eq_true hb; omega
    | false => rw [hb] at h; cases h
  have key : ∀ k : Nat, (List.range 400).all (z_lok k) = true → z_lk k i = some e → z_lgood k i e (z_lp k i) = true := by
    intro k hk h
    have h1 := List.all_eq_true.mp hk i (List.mem_range.mpr hi)
    unfold z_lok at h1
    rw [h] at h1
    exact h1
  match own, h with
  | 0, h => exact key 0 z_lko_0 h
  | 1, h => exact key 1 z_lko_1 h
  | 2, h => exact key 2 z_lko_2 h
  | 3, h => exact key 3 z_lko_3 h
  | 4, h => exact key 4 z_lko_4 h
  | 5, h => exact key 5 z_lko_5 h
  | 6, h => exact key 6 z_lko_6 h
  | 7, h => exact key 7 z_lko_7 h
  | 8, h => exact key 8 z_lko_8 h
  | 9, h => exact key 9 z_lko_9 h
  | k + 10, h =>
    unfold z_lk at h
    cases hb : Nat.ble i 399 with
    | true => rw [hb] at h; cases h
    | false => rw [hb] at h; cases h
/-- all the words -/
def z_AW : List Cond := lw_tbl.filter goodWord
theorem z_word_mem {pos : Nat} {w : Cond} (h : z_word pos w = true) : w ∈ z_AW := by
  unfold z_word at h
  rw [Bool.and_eq_true] at h
  exact List.mem_filter.mpr ⟨List.mem_of_getElem? (of_decide_eq_true h.1), h.2⟩
/-- the words of nest mates -/
def z_NW : List Cond := lw_tbl.filter z_isN
theorem z_wordN_mem {pos : Nat} {w : Cond} (h : z_wordN pos w = true) : w ∈ z_NW := by
  unfold z_wordN at h
  rw [Bool.and_eq_true] at h
  exact List.mem_filter.mpr ⟨List.mem_of_getElem? (of_decide_eq_true h.1), h.2⟩
def z_N (U : State) : Prop := ∀ w ∈ z_NW, va_Nw w U
theorem z_N_of {Ts : List Cond} {A : Array Value} {U : State} (h : ∀ w ∈ lw_tbl, w.before A U = true) : z_N U := by
  intro w hw
  obtain ⟨h1, h2⟩ := List.mem_filter.mp hw
  have ho : w.onTables = true := by
    cases w <;> first | rfl | (simp [z_isN] at h2)
  exact va_Nw.of ho (h w h1)
theorem z_N_warm {s U : State} (hW : s.WarmedH U.vm) (h : z_N s) : z_N U := by
  intro w hw
  have h1 := h w hw
  obtain ⟨-, h2⟩ := List.mem_filter.mp hw
  cases w <;> first | (exact va_Nw.warmF hW h1) | (exact va_Nw.warmM hW h1) | (simp [z_isN] at h2)
theorem z_N_same {u U : State} (hvm : u.vm = U.vm) (h : z_N u) : z_N U := by
  intro w hw
  have h1 := h w hw
  obtain ⟨-, h2⟩ := List.mem_filter.mp hw
  have ho : w.onTables = true := by
    cases w <;> first | rfl | (simp [z_isN] at h2)
  exact va_Nw.same ho hvm h1
theorem z_AW_good : GoodIn z_AW z_AW := fun w h => ⟨h, good_of_word (List.mem_filter.mp h).2⟩
theorem z_fields_ok : (List.range 7).all (fun ci => match z_cl[ci]? with
  | some (C, T, N) => (u_ws C T N).all (fun w => decide (w ∈ lw_tbl) && goodWord w)
  | none => false) = true := by decide +kernel
theorem z_fields {ci : Nat} {C : String} {T : u_T} {N : Nat} (h : z_cl[ci]? = some (C, T, N)) : ∀ w ∈ u_ws C T N, w ∈ z_AW := by
  intro w hw
  have hci : ci < 7 := (List.getElem?_eq_some_iff.mp h).1
  have h1 := List.all_eq_true.mp z_fields_ok ci (List.mem_range.mpr hci)
  rw [h] at h1
  have h2 := List.all_eq_true.mp h1 w hw
  rw [Bool.and_eq_true] at h2
  exact List.mem_filter.mpr ⟨of_decide_eq_true h2.1, h2.2⟩
theorem z_names {ci : Nat} {C : String} {T : u_T} {N : Nat} (h : z_cl[ci]? = some (C, T, N)) : ∃ ty : Nat → FieldType, (∀ k, k < N → parseFieldDescriptor (T k).2.2.1 = some (ty k)) ∧ ∀ a, a < N → ∀ b, b < N → a ≠ b → (T a).2.1 ≠ (T b).2.1 := by
  match ci, h with
  | 0, h => cases h; exact ⟨_, tyX0_ok, nmX0⟩
  | 1, h => cases h; exact ⟨_, tyX1_ok, nmX1⟩
  | 2, h => cases h; exact ⟨_, tyX2_ok, nmX2⟩
  | 3, h => cases h; exact ⟨_, tyX3_ok, nmX3⟩
  | 4, h => cases h; exact ⟨_, tyX4_ok, nmX4⟩
  | 5, h => cases h; exact ⟨_, tyX5_ok, nmX5⟩
  | 6, h => cases h; exact ⟨_, tyX6_ok, nmX6⟩
  | k + 7, h => simp [z_cl] at h
theorem z_m_of {y : Nat} {q : z_M} (h : z_mt[y]? = some q) : (Cond.code q.1 q.2.1 q.2.2.1 q.2.2.2.1) ∈ z_AW ∧ plainFor q.1 = true ∧ q.2.2.1 ≤ 45 ∧ q.1.cls = z_own q.2.2.2.2.1 ∧ (q.1.cls ≠ "java/lang/invoke/MethodHandle" ∧ q.1.cls ≠ "java/lang/invoke/VarHandle") ∧ ∀ (pc : Nat) (i : Instr), z_F q pc = some i → ∃ n : Nat, decode q.2.1 pc = .ok (i, n) ∧ z_lenok i n = true ∧ z_cok i = true := by
  obtain ⟨p, hw, hp⟩ := z_mt_ok q (List.mem_of_getElem? h)
  unfold z_mok at hp
  simp only [Bool.and_eq_true] at hp
  obtain ⟨h1, h2, h3, h4, h5, h6, h7⟩ := hp
  refine ⟨List.mem_filter.mpr ⟨List.mem_of_getElem? hw, h1⟩, h2, Nat.le_of_ble_eq_true h3, of_decide_eq_true h4, ⟨of_decide_eq_true h5, of_decide_eq_true h6⟩, fun pc i hi => ?_⟩
  have hlt : pc < q.2.2.2.2.2.1 := by
    unfold z_F at hi
    cases hb : Nat.ble (pc + 1) q.2.2.2.2.2.1 with
    | true => have := Nat.le_of_ble_eq_true hb; omega
    | false => rw [hb] at hi; cases hi
  have h8 := List.all_eq_true.mp h7 pc (List.mem_range.mpr hlt)
  rw [hi] at h8
  unfold z_dok at h8
  cases hd : decode q.2.1 pc with
  | error x => simp only [hd] at h8; cases h8
  | ok r =>
    obtain ⟨j, n⟩ := r
    simp only [hd, Bool.and_eq_true] at h8
    have hj : j = i := of_decide_eq_true h8.1
    subst hj
    exact ⟨n, rfl, h8.2.1, h8.2.2⟩
