/-! what the tables say, checked -/
def z_c : Int → Int32
  | .ofNat n => nI n
  | .negSucc n => -nI (n + 1)
def z_cL : Int → Int64
  | .ofNat n => lN n
  | .negSucc n => -lN (n + 1)
def z_len : Instr → Nat
  | .bipush _ | .iload _ | .lload _ | .aload _ | .istore _ | .lstore _ | .astore _ | .ldc _ | .newarray _ => 2
  | .sipush _ | .ldc_w _ | .ldc2_w _ | .iinc _ _ | .goto _ | .ifCond _ _ | .if_icmp _ _ | .getfield _ | .putfield _ | .invokevirtual _ | .invokestatic _ | .invokespecial _ | .new _ => 3
  | _ => 1
def z_cok : Instr → Bool
  | .iconst k => decide (Int32.ofInt k = z_c k)
  | .bipush k => decide ((Int8.ofInt k).toInt32 = z_c k)
  | .sipush k => decide ((Int16.ofInt k).toInt32 = z_c k)
  | .iinc _ k => decide (Int32.ofInt k = z_c k)
  | _ => true
def z_lenok : Instr → Nat → Bool
  | .tableswitch _ _ _ _, _ => true
  | i, n => Nat.beq n (z_len i)
def z_F (q : z_M) (pc : Nat) : Option Instr := bif Nat.ble (pc + 1) q.2.2.2.2.2.1 then q.2.2.2.2.2.2 pc else none
def z_dok (cc : ByteArray) (pc : Nat) (i : Instr) : Bool := match decode cc pc with
  | .ok (j, n) => decide (j = i) && (z_lenok i n && z_cok i)
  | .error _ => false
def z_word (pos : Nat) (w : Cond) : Bool := decide (lw_tbl[pos]? = some w) && goodWord w
def z_isN : Cond → Bool
  | .fieldLinkNest _ _ _ _ _ _ | .methodLinkNest _ _ _ _ => true
  | _ => false
def z_wordN (pos : Nat) (w : Cond) : Bool := decide (lw_tbl[pos]? = some w) && z_isN w
def z_mok (q : z_M) (pos : Nat) : Bool :=
  z_word pos (Cond.code q.1 q.2.1 q.2.2.1 q.2.2.2.1) && (plainFor q.1 && (Nat.ble q.2.2.1 45 && (decide (q.1.cls = z_own q.2.2.2.2.1) && (decide (q.1.cls ≠ "java/lang/invoke/MethodHandle") && (decide (q.1.cls ≠ "java/lang/invoke/VarHandle") &&
  (List.range q.2.2.2.2.2.1).all (fun pc => match z_F q pc with
    | none => true
    | some i => z_dok q.2.1 pc i))))))
def z_np (q : z_M) (n : Nat) : Bool := decide ((parseMethodDescriptor q.1.desc).map (fun d => d.parameters.length) = some n)
def z_tc : Nat → String → Bool
  | 0, d => decide (d = "I")
  | 1, d => decide (d = "J")
  | 2, d => decide (d = "Z")
  | _, _ => true
def z_lgood (own i : Nat) (e : z_K) (ps : Option (List Nat)) : Bool := match ps with
  | none => false
  | some ps => match e with
    | (0, ci, k, tc, _) => match z_cl[ci]? with
      | some (_, T, N) => Nat.ble (k + 1) N && (z_word (ps.getD 0 0) (.fieldLink (z_own own) i (T k).1 (T k).2.1 (T k).2.2.1) && (z_tc tc (T k).2.2.1 && (Nat.ble 3 tc || !(T k).2.2.2)))
      | none => false
    | (1, ci, k, tc, _) => match z_cl[ci]? with
      | some (_, T, N) => Nat.ble (k + 1) N && (z_wordN (ps.getD 0 0) (.fieldLinkNest (z_own own) i (T k).1 (T k).2.1 (T k).2.2.1 RX5) && (z_tc tc (T k).2.2.1 && (Nat.ble 3 tc || !(T k).2.2.2)))
      | none => false
    | (2, y, n, ci, _) => match z_mt[y]?, z_cl[ci]? with
      | some q, some (C, _, _) => decide (q.1.cls = C) && (z_np q n && (z_word (ps.getD 0 0) (.methodLink (z_own own) i q.1) && (z_word (ps.getD 1 0) (.instanceMethod q.1) && (z_word (ps.getD 2 0) (.selects C q.1 q.1) && z_word (ps.getD 3 0) (.initialized C)))))
      | _, _ => false
    | (3, y, n, _, _) => match z_mt[y]? with
      | some q => z_np q n && (z_word (ps.getD 0 0) (.methodLink (z_own own) i q.1) && (z_word (ps.getD 1 0) (.static q.1) && z_word (ps.getD 2 0) (.initialized q.1.cls)))
      | none => false
    | (4, y, n, _, _) => match z_mt[y]? with
      | some q => z_np q n && (z_wordN (ps.getD 0 0) (.methodLinkNest (z_own own) i q.1 RX5) && (z_word (ps.getD 1 0) (.static q.1) && z_word (ps.getD 2 0) (.initialized q.1.cls)))
      | none => false
    | (5, _, _, _, v) => z_word (ps.getD 0 0) (.constant (z_own own) i (z_c v))
    | (6, _, _, _, v) => z_word (ps.getD 0 0) (.constantLong (z_own own) i (z_cL v))
    | (7, _, _, _, _) => z_word (ps.getD 0 0) (.methodLink (z_own own) i arraycopyName) && (z_word (ps.getD 1 0) (.native arraycopyName) && (z_word (ps.getD 2 0) (.static arraycopyName) && z_word (ps.getD 3 0) (.initialized "java/lang/System")))
    | _ => false
def z_lok (own i : Nat) : Bool := match z_lk own i with
  | none => true
  | some e => z_lgood own i e (z_lp own i)
theorem zkX0_has : z_mok zmX0_has 761 = true := by decide +kernel
theorem zkX0_holds : z_mok zmX0_holds 765 = true := by decide +kernel
theorem zkX0_start : z_mok zmX0_start 830 = true := by decide +kernel
theorem zkX0_reaches : z_mok zmX0_reaches 774 = true := by decide +kernel
theorem zkX0_read : z_mok zmX0_read 788 = true := by decide +kernel
theorem zkX0_lay : z_mok zmX0_lay 770 = true := by decide +kernel
theorem zkX1_byteAt : z_mok zmX1_byteAt 495 = true := by decide +kernel
theorem zkX1_write : z_mok zmX1_write 477 = true := by decide +kernel
theorem zkX1_writeBehind : z_mok zmX1_writeBehind 483 = true := by decide +kernel
theorem zkX1_writeByte : z_mok zmX1_writeByte 487 = true := by decide +kernel
theorem zkX2_start : z_mok zmX2_start 115 = true := by decide +kernel
theorem zkX2_become : z_mok zmX2_become 361 = true := by decide +kernel
theorem zkX2_has : z_mok zmX2_has 289 = true := by decide +kernel
theorem zkX2_hasTwo : z_mok zmX2_hasTwo 503 = true := by decide +kernel
theorem zkX2_hasBallot : z_mok zmX2_hasBallot 435 = true := by decide +kernel
theorem zkX2_all : z_mok zmX2_all 297 = true := by decide +kernel
theorem zkX2_ins : z_mok zmX2_ins 293 = true := by decide +kernel
theorem zkX2_isIn : z_mok zmX2_isIn 301 = true := by decide +kernel
theorem zkX2_countOf : z_mok zmX2_countOf 439 = true := by decide +kernel
theorem zkX2_rankingOf : z_mok zmX2_rankingOf 456 = true := by decide +kernel
theorem zkX2_forOver : z_mok zmX2_forOver 507 = true := by decide +kernel
theorem zkX2_ballotOf : z_mok zmX2_ballotOf 409 = true := by decide +kernel
theorem zkX2_allCounts : z_mok zmX2_allCounts 814 = true := by decide +kernel
theorem zkX2_add : z_mok zmX2_add 405 = true := by decide +kernel
theorem zkX2_lessen : z_mok zmX2_lessen 444 = true := by decide +kernel
theorem zkX2_closeUp : z_mok zmX2_closeUp 448 = true := by decide +kernel
theorem zkX2_drawByNumbers : z_mok zmX2_drawByNumbers 122 = true := by decide +kernel
theorem zkX2_drawnAt : z_mok zmX2_drawnAt 333 = true := by decide +kernel
theorem zkX2_drawBySeed : z_mok zmX2_drawBySeed 325 = true := by decide +kernel
theorem zkX2_drawFirst : z_mok zmX2_drawFirst 317 = true := by decide +kernel
theorem zkX2_areClones : z_mok zmX2_areClones 681 = true := by decide +kernel
theorem zkX2_standTogether : z_mok zmX2_standTogether 687 = true := by decide +kernel
theorem zkX2_sumOfPlaces : z_mok zmX2_sumOfPlaces 696 = true := by decide +kernel
theorem zkX2_leadsOf : z_mok zmX2_leadsOf 705 = true := by decide +kernel
theorem zkX2_manyBehind : z_mok zmX2_manyBehind 700 = true := by decide +kernel
theorem zkX3_takeByte : z_mok zmX3_takeByte 345 = true := by decide +kernel
theorem zkX3_wipe : z_mok zmX3_wipe 353 = true := by decide +kernel
theorem zkX3_rewind : z_mok zmX3_rewind 372 = true := by decide +kernel
theorem zkX3_isRead : z_mok zmX3_isRead 426 = true := by decide +kernel
theorem zkX3_sign : z_mok zmX3_sign 384 = true := by decide +kernel
theorem zkX3_passes : z_mok zmX3_passes 389 = true := by decide +kernel
theorem zkX3_figure : z_mok zmX3_figure 380 = true := by decide +kernel
theorem zkX3_readCount : z_mok zmX3_readCount 376 = true := by decide +kernel
theorem zkX3_readRanking : z_mok zmX3_readRanking 393 = true := by decide +kernel
theorem zkX3_placeOthers : z_mok zmX3_placeOthers 401 = true := by decide +kernel
theorem zkX4_load : z_mok zmX4_load 525 = true := by decide +kernel
theorem zkX4_leaveOut : z_mok zmX4_leaveOut 713 = true := by decide +kernel
theorem zkX4_count : z_mok zmX4_count 727 = true := by decide +kernel
theorem zkX4_goBy : z_mok zmX4_goBy 749 = true := by decide +kernel
theorem zkX4_reckon : z_mok zmX4_reckon 532 = true := by decide +kernel
theorem zkX4_goThrough : z_mok zmX4_goThrough 547 = true := by decide +kernel
theorem zkX4_beatersOf : z_mok zmX4_beatersOf 554 = true := by decide +kernel
theorem zkX4_linkBetween : z_mok zmX4_linkBetween 536 = true := by decide +kernel
theorem zkX4_ratioStrength : z_mok zmX4_ratioStrength 541 = true := by decide +kernel
theorem zkX4_knows : z_mok zmX4_knows 566 = true := by decide +kernel
theorem zkX4_linkStrength : z_mok zmX4_linkStrength 601 = true := by decide +kernel
theorem zkX4_bestStrength : z_mok zmX4_bestStrength 562 = true := by decide +kernel
theorem zkX4_isOver : z_mok zmX4_isOver 621 = true := by decide +kernel
theorem zkX4_cellAsStrongAs : z_mok zmX4_cellAsStrongAs 558 = true := by decide +kernel
theorem zkX4_strengthTold : z_mok zmX4_strengthTold 570 = true := by decide +kernel
theorem zkX4_commonDivisor : z_mok zmX4_commonDivisor 580 = true := by decide +kernel
theorem zkX4_walk : z_mok zmX4_walk 589 = true := by decide +kernel
theorem zkX4_tellDistances : z_mok zmX4_tellDistances 593 = true := by decide +kernel
theorem zkX4_nextStep : z_mok zmX4_nextStep 597 = true := by decide +kernel
theorem zkX4_stepOf : z_mok zmX4_stepOf 605 = true := by decide +kernel
theorem zkX4_reachedBetter : z_mok zmX4_reachedBetter 613 = true := by decide +kernel
theorem zkX4_unbeaten : z_mok zmX4_unbeaten 629 = true := by decide +kernel
theorem zkX4_firstOf : z_mok zmX4_firstOf 641 = true := by decide +kernel
theorem zkX4_first : z_mok zmX4_first 717 = true := by decide +kernel
theorem zkX4_rankedAt : z_mok zmX4_rankedAt 637 = true := by decide +kernel
theorem zkX4_placeByRanks : z_mok zmX4_placeByRanks 650 = true := by decide +kernel
theorem zkX4_leastTopSet : z_mok zmX4_leastTopSet 659 = true := by decide +kernel
theorem zkX4_grow : z_mok zmX4_grow 663 = true := by decide +kernel
theorem zkX4_unlinkedFrom : z_mok zmX4_unlinkedFrom 667 = true := by decide +kernel
theorem zkX4_strongestOutOf : z_mok zmX4_strongestOutOf 803 = true := by decide +kernel
theorem zkX4_manyLinks : z_mok zmX4_manyLinks 818 = true := by decide +kernel
theorem zkX4_manyOver : z_mok zmX4_manyOver 822 = true := by decide +kernel
theorem zkX5_begin : z_mok zmX5_begin 280 = true := by decide +kernel
theorem zkX5_out : z_mok zmX5_out 285 = true := by decide +kernel
theorem zkX5_measure : z_mok zmX5_measure 309 = true := by decide +kernel
theorem zkX5_ahead : z_mok zmX5_ahead 313 = true := by decide +kernel
theorem zkX5_shuffle : z_mok zmX5_shuffle 321 = true := by decide +kernel
theorem zkX5_drawn : z_mok zmX5_drawn 337 = true := by decide +kernel
theorem zkX5_feed : z_mok zmX5_feed 341 = true := by decide +kernel
theorem zkX5_clear : z_mok zmX5_clear 349 = true := by decide +kernel
theorem zkX5_ballots : z_mok zmX5_ballots 357 = true := by decide +kernel
theorem zkX5_remove : z_mok zmX5_remove 431 = true := by decide +kernel
theorem zkX5_ballot : z_mok zmX5_ballot 452 = true := by decide +kernel
theorem zkX5_find : z_mok zmX5_find 464 = true := by decide +kernel
theorem zkX5_spell : z_mok zmX5_spell 473 = true := by decide +kernel
theorem zkX5_paper : z_mok zmX5_paper 491 = true := by decide +kernel
theorem zkX5_pair : z_mok zmX5_pair 499 = true := by decide +kernel
theorem zkX5_link : z_mok zmX5_link 513 = true := by decide +kernel
theorem zkX5_strength : z_mok zmX5_strength 517 = true := by decide +kernel
theorem zkX5_way : z_mok zmX5_way 585 = true := by decide +kernel
theorem zkX5_barrier : z_mok zmX5_barrier 609 = true := by decide +kernel
theorem zkX5_beats : z_mok zmX5_beats 617 = true := by decide +kernel
theorem zkX5_winners : z_mok zmX5_winners 625 = true := by decide +kernel
theorem zkX5_ranked : z_mok zmX5_ranked 633 = true := by decide +kernel
theorem zkX5_rank : z_mok zmX5_rank 646 = true := by decide +kernel
theorem zkX5_smith : z_mok zmX5_smith 655 = true := by decide +kernel
theorem zkX5_clones : z_mok zmX5_clones 677 = true := by decide +kernel
theorem zkX5_sum : z_mok zmX5_sum 692 = true := by decide +kernel
theorem zkX5_without : z_mok zmX5_without 709 = true := by decide +kernel
theorem zkX5_would : z_mok zmX5_would 722 = true := by decide +kernel
theorem zkX5_needs : z_mok zmX5_needs 732 = true := by decide +kernel
theorem zkX5_turners : z_mok zmX5_turners 736 = true := by decide +kernel
theorem zkX5_agree : z_mok zmX5_agree 745 = true := by decide +kernel
theorem zkX5_flips : z_mok zmX5_flips 753 = true := by decide +kernel
theorem zkX5_prove : z_mok zmX5_prove 757 = true := by decide +kernel
theorem zkX5_proves : z_mok zmX5_proves 779 = true := by decide +kernel
theorem zkX5_told : z_mok zmX5_told 810 = true := by decide +kernel
theorem zkX5_list : z_mok zmX5_list 826 = true := by decide +kernel
theorem zkX5_set : z_mok zmX5_set 834 = true := by decide +kernel
theorem zkX5_get : z_mok zmX5_get 838 = true := by decide +kernel
theorem zkX5_image : z_mok zmX5_image 842 = true := by decide +kernel
theorem zkX5_undo : z_mok zmX5_undo 846 = true := by decide +kernel
theorem zkX5_lookAtWays : z_mok zmX5_lookAtWays 521 = true := by decide +kernel
theorem zkX5_readRankingAlone : z_mok zmX5_readRankingAlone 468 = true := by decide +kernel
theorem zkX5_readParts : z_mok zmX5_readParts 368 = true := by decide +kernel
theorem zkX5_leastTurn : z_mok zmX5_leastTurn 740 = true := by decide +kernel
theorem zkX5_isProof : z_mok zmX5_isProof 783 = true := by decide +kernel
theorem zkX5_strengthOfRow : z_mok zmX5_strengthOfRow 794 = true := by decide +kernel
theorem zkX5_hasBit : z_mok zmX5_hasBit 305 = true := by decide +kernel
theorem zkX5_placeOf : z_mok zmX5_placeOf 422 = true := by decide +kernel
theorem zkX5_withPlace : z_mok zmX5_withPlace 397 = true := by decide +kernel
theorem zkX5_placesIn : z_mok zmX5_placesIn 459 = true := by decide +kernel
theorem zkX5_cell : z_mok zmX5_cell 419 = true := by decide +kernel
theorem zkX5_countPairs : z_mok zmX5_countPairs 416 = true := by decide +kernel
theorem zkX6_isIn : z_mok zmX6_isIn 936 = true := by decide +kernel
theorem zkX6_copies : z_mok zmX6_copies 997 = true := by decide +kernel
theorem zkX6_has : z_mok zmX6_has 955 = true := by decide +kernel
theorem zkX6_bits : z_mok zmX6_bits 1214 = true := by decide +kernel
theorem zkX6_everyone : z_mok zmX6_everyone 952 = true := by decide +kernel
theorem zkX6_ins : z_mok zmX6_ins 948 = true := by decide +kernel
theorem zkX6_isOne : z_mok zmX6_isOne 944 = true := by decide +kernel
theorem zkX6_areTwo : z_mok zmX6_areTwo 1095 = true := by decide +kernel
theorem zkX6_areIn : z_mok zmX6_areIn 1124 = true := by decide +kernel
theorem zkX6_isBallot : z_mok zmX6_isBallot 1049 = true := by decide +kernel
theorem zkX6_placeOf : z_mok zmX6_placeOf 1040 = true := by decide +kernel
theorem zkX6_begins : z_mok zmX6_begins 856 = true := by decide +kernel
theorem zkX6_begin : z_mok zmX6_begin 931 = true := by decide +kernel
theorem zkX6_out : z_mok zmX6_out 940 = true := by decide +kernel
theorem zkX6_measure : z_mok zmX6_measure 959 = true := by decide +kernel
theorem zkX6_drawOf : z_mok zmX6_drawOf 968 = true := by decide +kernel
theorem zkX6_ahead : z_mok zmX6_ahead 964 = true := by decide +kernel
theorem zkX6_shuffle : z_mok zmX6_shuffle 972 = true := by decide +kernel
theorem zkX6_drawn : z_mok zmX6_drawn 977 = true := by decide +kernel
theorem zkX6_feed : z_mok zmX6_feed 981 = true := by decide +kernel
theorem zkX6_clear : z_mok zmX6_clear 986 = true := by decide +kernel
theorem zkX6_reads : z_mok zmX6_reads 994 = true := by decide +kernel
theorem zkX6_here : z_mok zmX6_here 1009 = true := by decide +kernel
theorem zkX6_isDigit : z_mok zmX6_isDigit 1005 = true := by decide +kernel
theorem zkX6_fails : z_mok zmX6_fails 1015 = true := by decide +kernel
theorem zkX6_isSign : z_mok zmX6_isSign 1020 = true := by decide +kernel
theorem zkX6_isTold : z_mok zmX6_isTold 1028 = true := by decide +kernel
theorem zkX6_isRanking : z_mok zmX6_isRanking 1024 = true := by decide +kernel
theorem zkX6_isWholeRanking : z_mok zmX6_isWholeRanking 1071 = true := by decide +kernel
theorem zkX6_ballotOfRanking : z_mok zmX6_ballotOfRanking 1036 = true := by decide +kernel
theorem zkX6_comes : z_mok zmX6_comes 1032 = true := by decide +kernel
theorem zkX6_isPart : z_mok zmX6_isPart 1001 = true := by decide +kernel
theorem zkX6_ballots : z_mok zmX6_ballots 990 = true := by decide +kernel
theorem zkX6_goes : z_mok zmX6_goes 1053 = true := by decide +kernel
theorem zkX6_remove : z_mok zmX6_remove 1045 = true := by decide +kernel
theorem zkX6_places : z_mok zmX6_places 1061 = true := by decide +kernel
theorem zkX6_ballot : z_mok zmX6_ballot 1057 = true := by decide +kernel
theorem zkX6_find : z_mok zmX6_find 1067 = true := by decide +kernel
theorem zkX6_says : z_mok zmX6_says 1079 = true := by decide +kernel
theorem zkX6_saysPlace : z_mok zmX6_saysPlace 1083 = true := by decide +kernel
theorem zkX6_spell : z_mok zmX6_spell 1075 = true := by decide +kernel
theorem zkX6_paper : z_mok zmX6_paper 1087 = true := by decide +kernel
theorem zkX6_counts : z_mok zmX6_counts 1104 = true := by decide +kernel
theorem zkX6_countsAll : z_mok zmX6_countsAll 1100 = true := by decide +kernel
theorem zkX6_countsRanking : z_mok zmX6_countsRanking 1266 = true := by decide +kernel
theorem zkX6_over : z_mok zmX6_over 1108 = true := by decide +kernel
theorem zkX6_pair : z_mok zmX6_pair 1091 = true := by decide +kernel
theorem zkX6_isLink : z_mok zmX6_isLink 1116 = true := by decide +kernel
theorem zkX6_link : z_mok zmX6_link 1112 = true := by decide +kernel
theorem zkX6_isStronger : z_mok zmX6_isStronger 1144 = true := by decide +kernel
theorem zkX6_isMore : z_mok zmX6_isMore 1152 = true := by decide +kernel
theorem zkX6_takes : z_mok zmX6_takes 1141 = true := by decide +kernel
theorem zkX6_strongestLeft : z_mok zmX6_strongestLeft 1148 = true := by decide +kernel
theorem zkX6_goesOn : z_mok zmX6_goesOn 1156 = true := by decide +kernel
theorem zkX6_grows : z_mok zmX6_grows 1136 = true := by decide +kernel
theorem zkX6_ways : z_mok zmX6_ways 1132 = true := by decide +kernel
theorem zkX6_waysNow : z_mok zmX6_waysNow 1128 = true := by decide +kernel
theorem zkX6_common : z_mok zmX6_common 1167 = true := by decide +kernel
theorem zkX6_lowest : z_mok zmX6_lowest 1164 = true := by decide +kernel
theorem zkX6_told : z_mok zmX6_told 1160 = true := by decide +kernel
theorem zkX6_strength : z_mok zmX6_strength 1120 = true := by decide +kernel
theorem zkX6_isOf : z_mok zmX6_isOf 1183 = true := by decide +kernel
theorem zkX6_leftTo : z_mok zmX6_leftTo 1179 = true := by decide +kernel
theorem zkX6_wayOf : z_mok zmX6_wayOf 1175 = true := by decide +kernel
theorem zkX6_way : z_mok zmX6_way 1171 = true := by decide +kernel
theorem zkX6_barrierOf : z_mok zmX6_barrierOf 1191 = true := by decide +kernel
theorem zkX6_barrier : z_mok zmX6_barrier 1187 = true := by decide +kernel
theorem zkX6_doesBeat : z_mok zmX6_doesBeat 1199 = true := by decide +kernel
theorem zkX6_beats : z_mok zmX6_beats 1195 = true := by decide +kernel
theorem zkX6_unbeaten : z_mok zmX6_unbeaten 1207 = true := by decide +kernel
theorem zkX6_winners : z_mok zmX6_winners 1203 = true := by decide +kernel
theorem zkX6_firstDrawn : z_mok zmX6_firstDrawn 1218 = true := by decide +kernel
theorem zkX6_ranked : z_mok zmX6_ranked 1211 = true := by decide +kernel
theorem zkX6_rank : z_mok zmX6_rank 1222 = true := by decide +kernel
theorem zkX6_linksToAll : z_mok zmX6_linksToAll 1230 = true := by decide +kernel
theorem zkX6_smith : z_mok zmX6_smith 1226 = true := by decide +kernel
theorem zkX6_isAside : z_mok zmX6_isAside 1242 = true := by decide +kernel
theorem zkX6_areClones : z_mok zmX6_areClones 1238 = true := by decide +kernel
theorem zkX6_clones : z_mok zmX6_clones 1234 = true := by decide +kernel
theorem zkX6_behindIt : z_mok zmX6_behindIt 1250 = true := by decide +kernel
theorem zkX6_sum : z_mok zmX6_sum 1246 = true := by decide +kernel
theorem zkX6_first : z_mok zmX6_first 1258 = true := by decide +kernel
theorem zkX6_firstNow : z_mok zmX6_firstNow 1278 = true := by decide +kernel
theorem zkX6_without : z_mok zmX6_without 1254 = true := by decide +kernel
theorem zkX6_would : z_mok zmX6_would 1262 = true := by decide +kernel
theorem zkX6_needs : z_mok zmX6_needs 1270 = true := by decide +kernel
theorem zkX6_turners : z_mok zmX6_turners 1274 = true := by decide +kernel
theorem zkX6_agree : z_mok zmX6_agree 1282 = true := by decide +kernel
theorem zkX6_flips : z_mok zmX6_flips 1286 = true := by decide +kernel
theorem zkX6_isList : z_mok zmX6_isList 1297 = true := by decide +kernel
theorem zkX6_isItem : z_mok zmX6_isItem 1309 = true := by decide +kernel
theorem zkX6_wrong : z_mok zmX6_wrong 1294 = true := by decide +kernel
theorem zkX6_lays : z_mok zmX6_lays 1305 = true := by decide +kernel
theorem zkX6_laid : z_mok zmX6_laid 1301 = true := by decide +kernel
theorem zkX6_prove : z_mok zmX6_prove 1290 = true := by decide +kernel
theorem zkX6_isToldWay : z_mok zmX6_isToldWay 1317 = true := by decide +kernel
theorem zkX6_isToldLink : z_mok zmX6_isToldLink 1321 = true := by decide +kernel
theorem zkX6_isBarrier : z_mok zmX6_isBarrier 1325 = true := by decide +kernel
theorem zkX6_proves : z_mok zmX6_proves 1313 = true := by decide +kernel
theorem zkX6_allCounts : z_mok zmX6_allCounts 1333 = true := by decide +kernel
theorem zkX6_links : z_mok zmX6_links 1337 = true := by decide +kernel
theorem zkX6_allBeaten : z_mok zmX6_allBeaten 1341 = true := by decide +kernel
theorem zkX6_told_ : z_mok zmX6_told_ 1329 = true := by decide +kernel
theorem zkX6_list : z_mok zmX6_list 1345 = true := by decide +kernel
theorem zkX6_set : z_mok zmX6_set 1349 = true := by decide +kernel
theorem zkX6_get : z_mok zmX6_get 1353 = true := by decide +kernel
theorem zkX6_image : z_mok zmX6_image 1357 = true := by decide +kernel
theorem zkX6_undo : z_mok zmX6_undo 1361 = true := by decide +kernel
theorem zkJ6_bitCount_0f7a4 : z_mok zmJ6_bitCount_0f7a4 670 = true := by decide +kernel
theorem zkJ9_floorDiv_7cf53 : z_mok zmJ9_floorDiv_7cf53 573 = true := by decide +kernel
theorem zkJ9_floorMod_7cf53 : z_mok zmJ9_floorMod_7cf53 576 = true := by decide +kernel
theorem zkJ9_max_7cf53 : z_mok zmJ9_max_7cf53 413 = true := by decide +kernel
theorem zkJ9_max_f86c9 : z_mok zmJ9_max_f86c9 806 = true := by decide +kernel
theorem zkJ9_min_7cf53 : z_mok zmJ9_min_7cf53 328 = true := by decide +kernel
theorem zkJ9_min_f86c9 : z_mok zmJ9_min_f86c9 550 = true := by decide +kernel
theorem zkJ7_fill_53178 : z_mok zmJ7_fill_53178 118 = true := by decide +kernel
def z_mt_0 : List z_M := [zmX0_has, zmX0_holds, zmX0_start, zmX0_reaches, zmX0_read, zmX0_lay, zmX1_byteAt, zmX1_write, zmX1_writeBehind, zmX1_writeByte, zmX2_start, zmX2_become, zmX2_has, zmX2_hasTwo, zmX2_hasBallot, zmX2_all]
theorem z_mto_0 : ∀ q ∈ z_mt_0, ∃ p : Nat, z_mok q p = true := List.forall_mem_cons.mpr ⟨⟨761, zkX0_has⟩, List.forall_mem_cons.mpr ⟨⟨765, zkX0_holds⟩, List.forall_mem_cons.mpr ⟨⟨830, zkX0_start⟩, List.forall_mem_cons.mpr ⟨⟨774, zkX0_reaches⟩, List.forall_mem_cons.mpr ⟨⟨788, zkX0_read⟩, List.forall_mem_cons.mpr ⟨⟨770, zkX0_lay⟩, List.forall_mem_cons.mpr ⟨⟨495, zkX1_byteAt⟩, List.forall_mem_cons.mpr ⟨⟨477, zkX1_write⟩, List.forall_mem_cons.mpr ⟨⟨483, zkX1_writeBehind⟩, List.forall_mem_cons.mpr ⟨⟨487, zkX1_writeByte⟩, List.forall_mem_cons.mpr ⟨⟨115, zkX2_start⟩, List.forall_mem_cons.mpr ⟨⟨361, zkX2_become⟩, List.forall_mem_cons.mpr ⟨⟨289, zkX2_has⟩, List.forall_mem_cons.mpr ⟨⟨503, zkX2_hasTwo⟩, List.forall_mem_cons.mpr ⟨⟨435, zkX2_hasBallot⟩, List.forall_mem_cons.mpr ⟨⟨297, zkX2_all⟩, fun _ h => absurd h List.not_mem_nil⟩⟩⟩⟩⟩⟩⟩⟩⟩⟩⟩⟩⟩⟩⟩⟩
def z_mt_1 : List z_M := [zmX2_ins, zmX2_isIn, zmX2_countOf, zmX2_rankingOf, zmX2_forOver, zmX2_ballotOf, zmX2_allCounts, zmX2_add, zmX2_lessen, zmX2_closeUp, zmX2_drawByNumbers, zmX2_drawnAt, zmX2_drawBySeed, zmX2_drawFirst, zmX2_areClones, zmX2_standTogether]
theorem z_mto_1 : ∀ q ∈ z_mt_1, ∃ p : Nat, z_mok q p = true := List.forall_mem_cons.mpr ⟨⟨293, zkX2_ins⟩, List.forall_mem_cons.mpr ⟨⟨301, zkX2_isIn⟩, List.forall_mem_cons.mpr ⟨⟨439, zkX2_countOf⟩, List.forall_mem_cons.mpr ⟨⟨456, zkX2_rankingOf⟩, List.forall_mem_cons.mpr ⟨⟨507, zkX2_forOver⟩, List.forall_mem_cons.mpr ⟨⟨409, zkX2_ballotOf⟩, List.forall_mem_cons.mpr ⟨⟨814, zkX2_allCounts⟩, List.forall_mem_cons.mpr ⟨⟨405, zkX2_add⟩, List.forall_mem_cons.mpr ⟨⟨444, zkX2_lessen⟩, List.forall_mem_cons.mpr ⟨⟨448, zkX2_closeUp⟩, List.forall_mem_cons.mpr ⟨⟨122, zkX2_drawByNumbers⟩, List.forall_mem_cons.mpr ⟨⟨333, zkX2_drawnAt⟩, List.forall_mem_cons.mpr ⟨⟨325, zkX2_drawBySeed⟩, List.forall_mem_cons.mpr ⟨⟨317, zkX2_drawFirst⟩, List.forall_mem_cons.mpr ⟨⟨681, zkX2_areClones⟩, List.forall_mem_cons.mpr ⟨⟨687, zkX2_standTogether⟩, fun _ h => absurd h List.not_mem_nil⟩⟩⟩⟩⟩⟩⟩⟩⟩⟩⟩⟩⟩⟩⟩⟩
def z_mt_2 : List z_M := [zmX2_sumOfPlaces, zmX2_leadsOf, zmX2_manyBehind, zmX3_takeByte, zmX3_wipe, zmX3_rewind, zmX3_isRead, zmX3_sign, zmX3_passes, zmX3_figure, zmX3_readCount, zmX3_readRanking, zmX3_placeOthers, zmX4_load, zmX4_leaveOut, zmX4_count]
theorem z_mto_2 : ∀ q ∈ z_mt_2, ∃ p : Nat, z_mok q p = true := List.forall_mem_cons.mpr ⟨⟨696, zkX2_sumOfPlaces⟩, List.forall_mem_cons.mpr ⟨⟨705, zkX2_leadsOf⟩, List.forall_mem_cons.mpr ⟨⟨700, zkX2_manyBehind⟩, List.forall_mem_cons.mpr ⟨⟨345, zkX3_takeByte⟩, List.forall_mem_cons.mpr ⟨⟨353, zkX3_wipe⟩, List.forall_mem_cons.mpr ⟨⟨372, zkX3_rewind⟩, List.forall_mem_cons.mpr ⟨⟨426, zkX3_isRead⟩, List.forall_mem_cons.mpr ⟨⟨384, zkX3_sign⟩, List.forall_mem_cons.mpr ⟨⟨389, zkX3_passes⟩, List.forall_mem_cons.mpr ⟨⟨380, zkX3_figure⟩, List.forall_mem_cons.mpr ⟨⟨376, zkX3_readCount⟩, List.forall_mem_cons.mpr ⟨⟨393, zkX3_readRanking⟩, List.forall_mem_cons.mpr ⟨⟨401, zkX3_placeOthers⟩, List.forall_mem_cons.mpr ⟨⟨525, zkX4_load⟩, List.forall_mem_cons.mpr ⟨⟨713, zkX4_leaveOut⟩, List.forall_mem_cons.mpr ⟨⟨727, zkX4_count⟩, fun _ h => absurd h List.not_mem_nil⟩⟩⟩⟩⟩⟩⟩⟩⟩⟩⟩⟩⟩⟩⟩⟩
def z_mt_3 : List z_M := [zmX4_goBy, zmX4_reckon, zmX4_goThrough, zmX4_beatersOf, zmX4_linkBetween, zmX4_ratioStrength, zmX4_knows, zmX4_linkStrength, zmX4_bestStrength, zmX4_isOver, zmX4_cellAsStrongAs, zmX4_strengthTold, zmX4_commonDivisor, zmX4_walk, zmX4_tellDistances, zmX4_nextStep]
theorem z_mto_3 : ∀ q ∈ z_mt_3, ∃ p : Nat, z_mok q p = true := List.forall_mem_cons.mpr ⟨⟨749, zkX4_goBy⟩, List.forall_mem_cons.mpr ⟨⟨532, zkX4_reckon⟩, List.forall_mem_cons.mpr ⟨⟨547, zkX4_goThrough⟩, List.forall_mem_cons.mpr ⟨⟨554, zkX4_beatersOf⟩, List.forall_mem_cons.mpr ⟨⟨536, zkX4_linkBetween⟩, List.forall_mem_cons.mpr ⟨⟨541, zkX4_ratioStrength⟩, List.forall_mem_cons.mpr ⟨⟨566, zkX4_knows⟩, List.forall_mem_cons.mpr ⟨⟨601, zkX4_linkStrength⟩, List.forall_mem_cons.mpr ⟨⟨562, zkX4_bestStrength⟩, List.forall_mem_cons.mpr ⟨⟨621, zkX4_isOver⟩, List.forall_mem_cons.mpr ⟨⟨558, zkX4_cellAsStrongAs⟩, List.forall_mem_cons.mpr ⟨⟨570, zkX4_strengthTold⟩, List.forall_mem_cons.mpr ⟨⟨580, zkX4_commonDivisor⟩, List.forall_mem_cons.mpr ⟨⟨589, zkX4_walk⟩, List.forall_mem_cons.mpr ⟨⟨593, zkX4_tellDistances⟩, List.forall_mem_cons.mpr ⟨⟨597, zkX4_nextStep⟩, fun _ h => absurd h List.not_mem_nil⟩⟩⟩⟩⟩⟩⟩⟩⟩⟩⟩⟩⟩⟩⟩⟩
def z_mt_4 : List z_M := [zmX4_stepOf, zmX4_reachedBetter, zmX4_unbeaten, zmX4_firstOf, zmX4_first, zmX4_rankedAt, zmX4_placeByRanks, zmX4_leastTopSet, zmX4_grow, zmX4_unlinkedFrom, zmX4_strongestOutOf, zmX4_manyLinks, zmX4_manyOver, zmX5_begin, zmX5_out, zmX5_measure]
theorem z_mto_4 : ∀ q ∈ z_mt_4, ∃ p : Nat, z_mok q p = true := List.forall_mem_cons.mpr ⟨⟨605, zkX4_stepOf⟩, List.forall_mem_cons.mpr ⟨⟨613, zkX4_reachedBetter⟩, List.forall_mem_cons.mpr ⟨⟨629, zkX4_unbeaten⟩, List.forall_mem_cons.mpr ⟨⟨641, zkX4_firstOf⟩, List.forall_mem_cons.mpr ⟨⟨717, zkX4_first⟩, List.forall_mem_cons.mpr ⟨⟨637, zkX4_rankedAt⟩, List.forall_mem_cons.mpr ⟨⟨650, zkX4_placeByRanks⟩, List.forall_mem_cons.mpr ⟨⟨659, zkX4_leastTopSet⟩, List.forall_mem_cons.mpr ⟨⟨663, zkX4_grow⟩, List.forall_mem_cons.mpr ⟨⟨667, zkX4_unlinkedFrom⟩, List.forall_mem_cons.mpr ⟨⟨803, zkX4_strongestOutOf⟩, List.forall_mem_cons.mpr ⟨⟨818, zkX4_manyLinks⟩, List.forall_mem_cons.mpr ⟨⟨822, zkX4_manyOver⟩, List.forall_mem_cons.mpr ⟨⟨280, zkX5_begin⟩, List.forall_mem_cons.mpr ⟨⟨285, zkX5_out⟩, List.forall_mem_cons.mpr ⟨⟨309, zkX5_measure⟩, fun _ h => absurd h List.not_mem_nil⟩⟩⟩⟩⟩⟩⟩⟩⟩⟩⟩⟩⟩⟩⟩⟩
def z_mt_5 : List z_M := [zmX5_ahead, zmX5_shuffle, zmX5_drawn, zmX5_feed, zmX5_clear, zmX5_ballots, zmX5_remove, zmX5_ballot, zmX5_find, zmX5_spell, zmX5_paper, zmX5_pair, zmX5_link, zmX5_strength, zmX5_way, zmX5_barrier]
theorem z_mto_5 : ∀ q ∈ z_mt_5, ∃ p : Nat, z_mok q p = true := List.forall_mem_cons.mpr ⟨⟨313, zkX5_ahead⟩, List.forall_mem_cons.mpr ⟨⟨321, zkX5_shuffle⟩, List.forall_mem_cons.mpr ⟨⟨337, zkX5_drawn⟩, List.forall_mem_cons.mpr ⟨⟨341, zkX5_feed⟩, List.forall_mem_cons.mpr ⟨⟨349, zkX5_clear⟩, List.forall_mem_cons.mpr ⟨⟨357, zkX5_ballots⟩, List.forall_mem_cons.mpr ⟨⟨431, zkX5_remove⟩, List.forall_mem_cons.mpr ⟨⟨452, zkX5_ballot⟩, List.forall_mem_cons.mpr ⟨⟨464, zkX5_find⟩, List.forall_mem_cons.mpr ⟨⟨473, zkX5_spell⟩, List.forall_mem_cons.mpr ⟨⟨491, zkX5_paper⟩, List.forall_mem_cons.mpr ⟨⟨499, zkX5_pair⟩, List.forall_mem_cons.mpr ⟨⟨513, zkX5_link⟩, List.forall_mem_cons.mpr ⟨⟨517, zkX5_strength⟩, List.forall_mem_cons.mpr ⟨⟨585, zkX5_way⟩, List.forall_mem_cons.mpr ⟨⟨609, zkX5_barrier⟩, fun _ h => absurd h List.not_mem_nil⟩⟩⟩⟩⟩⟩⟩⟩⟩⟩⟩⟩⟩⟩⟩⟩
def z_mt_6 : List z_M := [zmX5_beats, zmX5_winners, zmX5_ranked, zmX5_rank, zmX5_smith, zmX5_clones, zmX5_sum, zmX5_without, zmX5_would, zmX5_needs, zmX5_turners, zmX5_agree, zmX5_flips, zmX5_prove, zmX5_proves, zmX5_told]
theorem z_mto_6 : ∀ q ∈ z_mt_6, ∃ p : Nat, z_mok q p = true := List.forall_mem_cons.mpr ⟨⟨617, zkX5_beats⟩, List.forall_mem_cons.mpr ⟨⟨625, zkX5_winners⟩, List.forall_mem_cons.mpr ⟨⟨633, zkX5_ranked⟩, List.forall_mem_cons.mpr ⟨⟨646, zkX5_rank⟩, List.forall_mem_cons.mpr ⟨⟨655, zkX5_smith⟩, List.forall_mem_cons.mpr ⟨⟨677, zkX5_clones⟩, List.forall_mem_cons.mpr ⟨⟨692, zkX5_sum⟩, List.forall_mem_cons.mpr ⟨⟨709, zkX5_without⟩, List.forall_mem_cons.mpr ⟨⟨722, zkX5_would⟩, List.forall_mem_cons.mpr ⟨⟨732, zkX5_needs⟩, List.forall_mem_cons.mpr ⟨⟨736, zkX5_turners⟩, List.forall_mem_cons.mpr ⟨⟨745, zkX5_agree⟩, List.forall_mem_cons.mpr ⟨⟨753, zkX5_flips⟩, List.forall_mem_cons.mpr ⟨⟨757, zkX5_prove⟩, List.forall_mem_cons.mpr ⟨⟨779, zkX5_proves⟩, List.forall_mem_cons.mpr ⟨⟨810, zkX5_told⟩, fun _ h => absurd h List.not_mem_nil⟩⟩⟩⟩⟩⟩⟩⟩⟩⟩⟩⟩⟩⟩⟩⟩
def z_mt_7 : List z_M := [zmX5_list, zmX5_set, zmX5_get, zmX5_image, zmX5_undo, zmX5_lookAtWays, zmX5_readRankingAlone, zmX5_readParts, zmX5_leastTurn, zmX5_isProof, zmX5_strengthOfRow, zmX5_hasBit, zmX5_placeOf, zmX5_withPlace, zmX5_placesIn, zmX5_cell]
theorem z_mto_7 : ∀ q ∈ z_mt_7, ∃ p : Nat, z_mok q p = true := List.forall_mem_cons.mpr ⟨⟨826, zkX5_list⟩, List.forall_mem_cons.mpr ⟨⟨834, zkX5_set⟩, List.forall_mem_cons.mpr ⟨⟨838, zkX5_get⟩, List.forall_mem_cons.mpr ⟨⟨842, zkX5_image⟩, List.forall_mem_cons.mpr ⟨⟨846, zkX5_undo⟩, List.forall_mem_cons.mpr ⟨⟨521, zkX5_lookAtWays⟩, List.forall_mem_cons.mpr ⟨⟨468, zkX5_readRankingAlone⟩, List.forall_mem_cons.mpr ⟨⟨368, zkX5_readParts⟩, List.forall_mem_cons.mpr ⟨⟨740, zkX5_leastTurn⟩, List.forall_mem_cons.mpr ⟨⟨783, zkX5_isProof⟩, List.forall_mem_cons.mpr ⟨⟨794, zkX5_strengthOfRow⟩, List.forall_mem_cons.mpr ⟨⟨305, zkX5_hasBit⟩, List.forall_mem_cons.mpr ⟨⟨422, zkX5_placeOf⟩, List.forall_mem_cons.mpr ⟨⟨397, zkX5_withPlace⟩, List.forall_mem_cons.mpr ⟨⟨459, zkX5_placesIn⟩, List.forall_mem_cons.mpr ⟨⟨419, zkX5_cell⟩, fun _ h => absurd h List.not_mem_nil⟩⟩⟩⟩⟩⟩⟩⟩⟩⟩⟩⟩⟩⟩⟩⟩
def z_mt_8 : List z_M := [zmX5_countPairs, zmX6_isIn, zmX6_copies, zmX6_has, zmX6_bits, zmX6_everyone, zmX6_ins, zmX6_isOne, zmX6_areTwo, zmX6_areIn, zmX6_isBallot, zmX6_placeOf, zmX6_begins, zmX6_begin, zmX6_out, zmX6_measure]
theorem z_mto_8 : ∀ q ∈ z_mt_8, ∃ p : Nat, z_mok q p = true := List.forall_mem_cons.mpr ⟨⟨416, zkX5_countPairs⟩, List.forall_mem_cons.mpr ⟨⟨936, zkX6_isIn⟩, List.forall_mem_cons.mpr ⟨⟨997, zkX6_copies⟩, List.forall_mem_cons.mpr ⟨⟨955, zkX6_has⟩, List.forall_mem_cons.mpr ⟨⟨1214, zkX6_bits⟩, List.forall_mem_cons.mpr ⟨⟨952, zkX6_everyone⟩, List.forall_mem_cons.mpr ⟨⟨948, zkX6_ins⟩, List.forall_mem_cons.mpr ⟨⟨944, zkX6_isOne⟩, List.forall_mem_cons.mpr ⟨⟨1095, zkX6_areTwo⟩, List.forall_mem_cons.mpr ⟨⟨1124, zkX6_areIn⟩, List.forall_mem_cons.mpr ⟨⟨1049, zkX6_isBallot⟩, List.forall_mem_cons.mpr ⟨⟨1040, zkX6_placeOf⟩, List.forall_mem_cons.mpr ⟨⟨856, zkX6_begins⟩, List.forall_mem_cons.mpr ⟨⟨931, zkX6_begin⟩, List.forall_mem_cons.mpr ⟨⟨940, zkX6_out⟩, List.forall_mem_cons.mpr ⟨⟨959, zkX6_measure⟩, fun _ h => absurd h List.not_mem_nil⟩⟩⟩⟩⟩⟩⟩⟩⟩⟩⟩⟩⟩⟩⟩⟩
def z_mt_9 : List z_M := [zmX6_drawOf, zmX6_ahead, zmX6_shuffle, zmX6_drawn, zmX6_feed, zmX6_clear, zmX6_reads, zmX6_here, zmX6_isDigit, zmX6_fails, zmX6_isSign, zmX6_isTold, zmX6_isRanking, zmX6_isWholeRanking, zmX6_ballotOfRanking, zmX6_comes]
theorem z_mto_9 : ∀ q ∈ z_mt_9, ∃ p : Nat, z_mok q p = true := List.forall_mem_cons.mpr ⟨⟨968, zkX6_drawOf⟩, List.forall_mem_cons.mpr ⟨⟨964, zkX6_ahead⟩, List.forall_mem_cons.mpr ⟨⟨972, zkX6_shuffle⟩, List.forall_mem_cons.mpr ⟨⟨977, zkX6_drawn⟩, List.forall_mem_cons.mpr ⟨⟨981, zkX6_feed⟩, List.forall_mem_cons.mpr ⟨⟨986, zkX6_clear⟩, List.forall_mem_cons.mpr ⟨⟨994, zkX6_reads⟩, List.forall_mem_cons.mpr ⟨⟨1009, zkX6_here⟩, List.forall_mem_cons.mpr ⟨⟨1005, zkX6_isDigit⟩, List.forall_mem_cons.mpr ⟨⟨1015, zkX6_fails⟩, List.forall_mem_cons.mpr ⟨⟨1020, zkX6_isSign⟩, List.forall_mem_cons.mpr ⟨⟨1028, zkX6_isTold⟩, List.forall_mem_cons.mpr ⟨⟨1024, zkX6_isRanking⟩, List.forall_mem_cons.mpr ⟨⟨1071, zkX6_isWholeRanking⟩, List.forall_mem_cons.mpr ⟨⟨1036, zkX6_ballotOfRanking⟩, List.forall_mem_cons.mpr ⟨⟨1032, zkX6_comes⟩, fun _ h => absurd h List.not_mem_nil⟩⟩⟩⟩⟩⟩⟩⟩⟩⟩⟩⟩⟩⟩⟩⟩
def z_mt_10 : List z_M := [zmX6_isPart, zmX6_ballots, zmX6_goes, zmX6_remove, zmX6_places, zmX6_ballot, zmX6_find, zmX6_says, zmX6_saysPlace, zmX6_spell, zmX6_paper, zmX6_counts, zmX6_countsAll, zmX6_countsRanking, zmX6_over, zmX6_pair]
theorem z_mto_10 : ∀ q ∈ z_mt_10, ∃ p : Nat, z_mok q p = true := List.forall_mem_cons.mpr ⟨⟨1001, zkX6_isPart⟩, List.forall_mem_cons.mpr ⟨⟨990, zkX6_ballots⟩, List.forall_mem_cons.mpr ⟨⟨1053, zkX6_goes⟩, List.forall_mem_cons.mpr ⟨⟨1045, zkX6_remove⟩, List.forall_mem_cons.mpr ⟨⟨1061, zkX6_places⟩, List.forall_mem_cons.mpr ⟨⟨1057, zkX6_ballot⟩, List.forall_mem_cons.mpr ⟨⟨1067, zkX6_find⟩, List.forall_mem_cons.mpr ⟨⟨1079, zkX6_says⟩, List.forall_mem_cons.mpr ⟨⟨1083, zkX6_saysPlace⟩, List.forall_mem_cons.mpr ⟨⟨1075, zkX6_spell⟩, List.forall_mem_cons.mpr ⟨⟨1087, zkX6_paper⟩, List.forall_mem_cons.mpr ⟨⟨1104, zkX6_counts⟩, List.forall_mem_cons.mpr ⟨⟨1100, zkX6_countsAll⟩, List.forall_mem_cons.mpr ⟨⟨1266, zkX6_countsRanking⟩, List.forall_mem_cons.mpr ⟨⟨1108, zkX6_over⟩, List.forall_mem_cons.mpr ⟨⟨1091, zkX6_pair⟩, fun _ h => absurd h List.not_mem_nil⟩⟩⟩⟩⟩⟩⟩⟩⟩⟩⟩⟩⟩⟩⟩⟩
def z_mt_11 : List z_M := [zmX6_isLink, zmX6_link, zmX6_isStronger, zmX6_isMore, zmX6_takes, zmX6_strongestLeft, zmX6_goesOn, zmX6_grows, zmX6_ways, zmX6_waysNow, zmX6_common, zmX6_lowest, zmX6_told, zmX6_strength, zmX6_isOf, zmX6_leftTo]
theorem z_mto_11 : ∀ q ∈ z_mt_11, ∃ p : Nat, z_mok q p = true := List.forall_mem_cons.mpr ⟨⟨1116, zkX6_isLink⟩, List.forall_mem_cons.mpr ⟨⟨1112, zkX6_link⟩, List.forall_mem_cons.mpr ⟨⟨1144, zkX6_isStronger⟩, List.forall_mem_cons.mpr ⟨⟨1152, zkX6_isMore⟩, List.forall_mem_cons.mpr ⟨⟨1141, zkX6_takes⟩, List.forall_mem_cons.mpr ⟨⟨1148, zkX6_strongestLeft⟩, List.forall_mem_cons.mpr ⟨⟨1156, zkX6_goesOn⟩, List.forall_mem_cons.mpr ⟨⟨1136, zkX6_grows⟩, List.forall_mem_cons.mpr ⟨⟨1132, zkX6_ways⟩, List.forall_mem_cons.mpr ⟨⟨1128, zkX6_waysNow⟩, List.forall_mem_cons.mpr ⟨⟨1167, zkX6_common⟩, List.forall_mem_cons.mpr ⟨⟨1164, zkX6_lowest⟩, List.forall_mem_cons.mpr ⟨⟨1160, zkX6_told⟩, List.forall_mem_cons.mpr ⟨⟨1120, zkX6_strength⟩, List.forall_mem_cons.mpr ⟨⟨1183, zkX6_isOf⟩, List.forall_mem_cons.mpr ⟨⟨1179, zkX6_leftTo⟩, fun _ h => absurd h List.not_mem_nil⟩⟩⟩⟩⟩⟩⟩⟩⟩⟩⟩⟩⟩⟩⟩⟩
def z_mt_12 : List z_M := [zmX6_wayOf, zmX6_way, zmX6_barrierOf, zmX6_barrier, zmX6_doesBeat, zmX6_beats, zmX6_unbeaten, zmX6_winners, zmX6_firstDrawn, zmX6_ranked, zmX6_rank, zmX6_linksToAll, zmX6_smith, zmX6_isAside, zmX6_areClones, zmX6_clones]
theorem z_mto_12 : ∀ q ∈ z_mt_12, ∃ p : Nat, z_mok q p = true := List.forall_mem_cons.mpr ⟨⟨1175, zkX6_wayOf⟩, List.forall_mem_cons.mpr ⟨⟨1171, zkX6_way⟩, List.forall_mem_cons.mpr ⟨⟨1191, zkX6_barrierOf⟩, List.forall_mem_cons.mpr ⟨⟨1187, zkX6_barrier⟩, List.forall_mem_cons.mpr ⟨⟨1199, zkX6_doesBeat⟩, List.forall_mem_cons.mpr ⟨⟨1195, zkX6_beats⟩, List.forall_mem_cons.mpr ⟨⟨1207, zkX6_unbeaten⟩, List.forall_mem_cons.mpr ⟨⟨1203, zkX6_winners⟩, List.forall_mem_cons.mpr ⟨⟨1218, zkX6_firstDrawn⟩, List.forall_mem_cons.mpr ⟨⟨1211, zkX6_ranked⟩, List.forall_mem_cons.mpr ⟨⟨1222, zkX6_rank⟩, List.forall_mem_cons.mpr ⟨⟨1230, zkX6_linksToAll⟩, List.forall_mem_cons.mpr ⟨⟨1226, zkX6_smith⟩, List.forall_mem_cons.mpr ⟨⟨1242, zkX6_isAside⟩, List.forall_mem_cons.mpr ⟨⟨1238, zkX6_areClones⟩, List.forall_mem_cons.mpr ⟨⟨1234, zkX6_clones⟩, fun _ h => absurd h List.not_mem_nil⟩⟩⟩⟩⟩⟩⟩⟩⟩⟩⟩⟩⟩⟩⟩⟩
def z_mt_13 : List z_M := [zmX6_behindIt, zmX6_sum, zmX6_first, zmX6_firstNow, zmX6_without, zmX6_would, zmX6_needs, zmX6_turners, zmX6_agree, zmX6_flips, zmX6_isList, zmX6_isItem, zmX6_wrong, zmX6_lays, zmX6_laid, zmX6_prove]
theorem z_mto_13 : ∀ q ∈ z_mt_13, ∃ p : Nat, z_mok q p = true := List.forall_mem_cons.mpr ⟨⟨1250, zkX6_behindIt⟩, List.forall_mem_cons.mpr ⟨⟨1246, zkX6_sum⟩, List.forall_mem_cons.mpr ⟨⟨1258, zkX6_first⟩, List.forall_mem_cons.mpr ⟨⟨1278, zkX6_firstNow⟩, List.forall_mem_cons.mpr ⟨⟨1254, zkX6_without⟩, List.forall_mem_cons.mpr ⟨⟨1262, zkX6_would⟩, List.forall_mem_cons.mpr ⟨⟨1270, zkX6_needs⟩, List.forall_mem_cons.mpr ⟨⟨1274, zkX6_turners⟩, List.forall_mem_cons.mpr ⟨⟨1282, zkX6_agree⟩, List.forall_mem_cons.mpr ⟨⟨1286, zkX6_flips⟩, List.forall_mem_cons.mpr ⟨⟨1297, zkX6_isList⟩, List.forall_mem_cons.mpr ⟨⟨1309, zkX6_isItem⟩, List.forall_mem_cons.mpr ⟨⟨1294, zkX6_wrong⟩, List.forall_mem_cons.mpr ⟨⟨1305, zkX6_lays⟩, List.forall_mem_cons.mpr ⟨⟨1301, zkX6_laid⟩, List.forall_mem_cons.mpr ⟨⟨1290, zkX6_prove⟩, fun _ h => absurd h List.not_mem_nil⟩⟩⟩⟩⟩⟩⟩⟩⟩⟩⟩⟩⟩⟩⟩⟩
def z_mt_14 : List z_M := [zmX6_isToldWay, zmX6_isToldLink, zmX6_isBarrier, zmX6_proves, zmX6_allCounts, zmX6_links, zmX6_allBeaten, zmX6_told_, zmX6_list, zmX6_set, zmX6_get, zmX6_image, zmX6_undo, zmJ6_bitCount_0f7a4, zmJ9_floorDiv_7cf53, zmJ9_floorMod_7cf53]
theorem z_mto_14 : ∀ q ∈ z_mt_14, ∃ p : Nat, z_mok q p = true := List.forall_mem_cons.mpr ⟨⟨1317, zkX6_isToldWay⟩, List.forall_mem_cons.mpr ⟨⟨1321, zkX6_isToldLink⟩, List.forall_mem_cons.mpr ⟨⟨1325, zkX6_isBarrier⟩, List.forall_mem_cons.mpr ⟨⟨1313, zkX6_proves⟩, List.forall_mem_cons.mpr ⟨⟨1333, zkX6_allCounts⟩, List.forall_mem_cons.mpr ⟨⟨1337, zkX6_links⟩, List.forall_mem_cons.mpr ⟨⟨1341, zkX6_allBeaten⟩, List.forall_mem_cons.mpr ⟨⟨1329, zkX6_told_⟩, List.forall_mem_cons.mpr ⟨⟨1345, zkX6_list⟩, List.forall_mem_cons.mpr ⟨⟨1349, zkX6_set⟩, List.forall_mem_cons.mpr ⟨⟨1353, zkX6_get⟩, List.forall_mem_cons.mpr ⟨⟨1357, zkX6_image⟩, List.forall_mem_cons.mpr ⟨⟨1361, zkX6_undo⟩, List.forall_mem_cons.mpr ⟨⟨670, zkJ6_bitCount_0f7a4⟩, List.forall_mem_cons.mpr ⟨⟨573, zkJ9_floorDiv_7cf53⟩, List.forall_mem_cons.mpr ⟨⟨576, zkJ9_floorMod_7cf53⟩, fun _ h => absurd h List.not_mem_nil⟩⟩⟩⟩⟩⟩⟩⟩⟩⟩⟩⟩⟩⟩⟩⟩
def z_mt_15 : List z_M := [zmJ9_max_7cf53, zmJ9_max_f86c9, zmJ9_min_7cf53, zmJ9_min_f86c9, zmJ7_fill_53178]
theorem z_mto_15 : ∀ q ∈ z_mt_15, ∃ p : Nat, z_mok q p = true := List.forall_mem_cons.mpr ⟨⟨413, zkJ9_max_7cf53⟩, List.forall_mem_cons.mpr ⟨⟨806, zkJ9_max_f86c9⟩, List.forall_mem_cons.mpr ⟨⟨328, zkJ9_min_7cf53⟩, List.forall_mem_cons.mpr ⟨⟨550, zkJ9_min_f86c9⟩, List.forall_mem_cons.mpr ⟨⟨118, zkJ7_fill_53178⟩, fun _ h => absurd h List.not_mem_nil⟩⟩⟩⟩⟩
set_option maxRecDepth 100000 in
theorem z_mt_eq : z_mt = z_mt_0 ++ (z_mt_1 ++ (z_mt_2 ++ (z_mt_3 ++ (z_mt_4 ++ (z_mt_5 ++ (z_mt_6 ++ (z_mt_7 ++ (z_mt_8 ++ (z_mt_9 ++ (z_mt_10 ++ (z_mt_11 ++ (z_mt_12 ++ (z_mt_13 ++ (z_mt_14 ++ (z_mt_15))))))))))))))) := rfl
theorem z_mt_ok : ∀ q ∈ z_mt, ∃ p : Nat, z_mok q p = true := by
  rw [z_mt_eq]
  exact List.forall_mem_append.mpr ⟨z_mto_0, List.forall_mem_append.mpr ⟨z_mto_1, List.forall_mem_append.mpr ⟨z_mto_2, List.forall_mem_append.mpr ⟨z_mto_3, List.forall_mem_append.mpr ⟨z_mto_4, List.forall_mem_append.mpr ⟨z_mto_5, List.forall_mem_append.mpr ⟨z_mto_6, List.forall_mem_append.mpr ⟨z_mto_7, List.forall_mem_append.mpr ⟨z_mto_8, List.forall_mem_append.mpr ⟨z_mto_9, List.forall_mem_append.mpr ⟨z_mto_10, List.forall_mem_append.mpr ⟨z_mto_11, List.forall_mem_append.mpr ⟨z_mto_12, List.forall_mem_append.mpr ⟨z_mto_13, List.forall_mem_append.mpr ⟨z_mto_14, z_mto_15⟩⟩⟩⟩⟩⟩⟩⟩⟩⟩⟩⟩⟩⟩⟩
theorem z_lko_0 : (List.range 400).all (z_lok 0) = true := by decide +kernel
theorem z_lko_1 : (List.range 400).all (z_lok 1) = true := by decide +kernel
theorem z_lko_2 : (List.range 400).all (z_lok 2) = true := by decide +kernel
theorem z_lko_3 : (List.range 400).all (z_lok 3) = true := by decide +kernel
theorem z_lko_4 : (List.range 400).all (z_lok 4) = true := by decide +kernel
theorem z_lko_5 : (List.range 400).all (z_lok 5) = true := by decide +kernel
theorem z_lko_6 : (List.range 400).all (z_lok 6) = true := by decide +kernel
theorem z_lko_7 : (List.range 400).all (z_lok 7) = true := by decide +kernel
theorem z_lko_8 : (List.range 400).all (z_lok 8) = true := by decide +kernel
theorem z_lko_9 : (List.range 400).all (z_lok 9) = true := by decide +kernel
theorem z_lk_ok : ∀ (own i : Nat) (e : z_K), z_lk own i = some e → z_lgood own i e (z_lp own i) = true := by
  intro own i e h
  have hi : i < 400 := by
    unfold z_lk at h
    cases hb : Nat.ble i 399 with
    | true => have := Nat.le_of_ble_eq_true hb; omega
    | false => rw [hb] at h; cases h
  have key : ∀ k : Nat, (List.range 400).all (z_lok k) = true → z_lk k i = some e → z_lgood k i e (z_lp k i) = true := by
    intro k hk h
    have h1 := List.all_eq_true.mp hk i (List.mem_range.mpr hi)
    unfold z_lok at h1
    rw [h] at h1
    exact h1
  match own, h with
  | 0, h => exact key 0 z_lko_0 h
  | 1, h => exact key 1 z_lko_1 h
  | 2, h => exact key 2 z_lko_2 h
  | 3, h => exact key 3 z_lko_3 h
  | 4, h => exact key 4 z_lko_4 h
  | 5, h => exact key 5 z_lko_5 h
  | 6, h => exact key 6 z_lko_6 h
  | 7, h => exact key 7 z_lko_7 h
  | 8, h => exact key 8 z_lko_8 h
  | 9, h => exact key 9 z_lko_9 h
  | k + 10, h =>
    unfold z_lk at h
    cases hb : Nat.ble i 399 with
    | true => rw [hb] at h; cases h
    | false => rw [hb] at h; cases h
/-- all the words -/
def z_AW : List Cond := lw_tbl.filter goodWord
theorem z_word_mem {pos : Nat} {w : Cond} (h : z_word pos w = true) : w ∈ z_AW := by
  unfold z_word at h
  rw [Bool.and_eq_true] at h
  exact List.mem_filter.mpr ⟨List.mem_of_getElem? (of_decide_eq_true h.1), h.2⟩
/-- the words of nest mates -/
def z_NW : List Cond := lw_tbl.filter z_isN
theorem z_wordN_mem {pos : Nat} {w : Cond} (h : z_wordN pos w = true) : w ∈ z_NW := by
  unfold z_wordN at h
  rw [Bool.and_eq_true] at h
  exact List.mem_filter.mpr ⟨List.mem_of_getElem? (of_decide_eq_true h.1), h.2⟩
def z_N (U : State) : Prop := ∀ w ∈ z_NW, va_Nw w U
theorem z_N_of {Ts : List Cond} {A : Array Value} {U : State} (h : ∀ w ∈ lw_tbl, w.before A U = true) : z_N U := by
  intro w hw
  obtain ⟨h1, h2⟩ := List.mem_filter.mp hw
  have ho : w.onTables = true := by
    cases w <;> first | rfl | (simp [z_isN] at h2)
  exact va_Nw.of ho (h w h1)
theorem z_N_warm {s U : State} (hW : s.WarmedH U.vm) (h : z_N s) : z_N U := by
  intro w hw
  have h1 := h w hw
  obtain ⟨-, h2⟩ := List.mem_filter.mp hw
  cases w <;> first | (exact va_Nw.warmF hW h1) | (exact va_Nw.warmM hW h1) | (simp [z_isN] at h2)
theorem z_N_same {u U : State} (hvm : u.vm = U.vm) (h : z_N u) : z_N U := by
  intro w hw
  have h1 := h w hw
  obtain ⟨-, h2⟩ := List.mem_filter.mp hw
  have ho : w.onTables = true := by
    cases w <;> first | rfl | (simp [z_isN] at h2)
  exact va_Nw.same ho hvm h1
theorem z_AW_good : GoodIn z_AW z_AW := fun w h => ⟨h, good_of_word (List.mem_filter.mp h).2⟩
theorem z_fields_ok : (List.range 7).all (fun ci => match z_cl[ci]? with
  | some (C, T, N) => (u_ws C T N).all (fun w => decide (w ∈ lw_tbl) && goodWord w)
  | none => false) = true := by decide +kernel
theorem z_fields {ci : Nat} {C : String} {T : u_T} {N : Nat} (h : z_cl[ci]? = some (C, T, N)) : ∀ w ∈ u_ws C T N, w ∈ z_AW := by
  intro w hw
  have hci : ci < 7 := (List.getElem?_eq_some_iff.mp h).1
  have h1 := List.all_eq_true.mp z_fields_ok ci (List.mem_range.mpr hci)
  rw [h] at h1
  have h2 := List.all_eq_true.mp h1 w hw
  rw [Bool.and_eq_true] at h2
  exact List.mem_filter.mpr ⟨of_decide_eq_true h2.1, h2.2⟩
theorem z_names {ci : Nat} {C : String} {T : u_T} {N : Nat} (h : z_cl[ci]? = some (C, T, N)) : ∃ ty : Nat → FieldType, (∀ k, k < N → parseFieldDescriptor (T k).2.2.1 = some (ty k)) ∧ ∀ a, a < N → ∀ b, b < N → a ≠ b → (T a).2.1 ≠ (T b).2.1 := by
  match ci, h with
  | 0, h => cases h; exact ⟨_, tyX0_ok, nmX0⟩
  | 1, h => cases h; exact ⟨_, tyX1_ok, nmX1⟩
  | 2, h => cases h; exact ⟨_, tyX2_ok, nmX2⟩
  | 3, h => cases h; exact ⟨_, tyX3_ok, nmX3⟩
  | 4, h => cases h; exact ⟨_, tyX4_ok, nmX4⟩
  | 5, h => cases h; exact ⟨_, tyX5_ok, nmX5⟩
  | 6, h => cases h; exact ⟨_, tyX6_ok, nmX6⟩
  | k + 7, h => simp [z_cl] at h
theorem z_m_of {y : Nat} {q : z_M} (h : z_mt[y]? = some q) : (Cond.code q.1 q.2.1 q.2.2.1 q.2.2.2.1) ∈ z_AW ∧ plainFor q.1 = true ∧ q.2.2.1 ≤ 45 ∧ q.1.cls = z_own q.2.2.2.2.1 ∧ (q.1.cls ≠ "java/lang/invoke/MethodHandle" ∧ q.1.cls ≠ "java/lang/invoke/VarHandle") ∧ ∀ (pc : Nat) (i : Instr), z_F q pc = some i → ∃ n : Nat, decode q.2.1 pc = .ok (i, n) ∧ z_lenok i n = true ∧ z_cok i = true := by
  obtain ⟨p, hp⟩ := z_mt_ok q (List.mem_of_getElem? h)
  unfold z_mok at hp
  simp only [Bool.and_eq_true] at hp
  obtain ⟨h1, h2, h3, h4, h5, h6, h7⟩ := hp
  refine ⟨z_word_mem h1, h2, Nat.le_of_ble_eq_true h3, of_decide_eq_true h4, ⟨of_decide_eq_true h5, of_decide_eq_true h6⟩, fun pc i hi => ?_⟩
  have hlt : pc < q.2.2.2.2.2.1 := by
    unfold z_F at hi
    cases hb : Nat.ble (pc + 1) q.2.2.2.2.2.1 with
    | true => have := Nat.le_of_ble_eq_true hb; omega
    | false => rw [hb] at hi; cases hi
  have h8 := List.all_eq_true.mp h7 pc (List.mem_range.mpr hlt)
  rw [hi] at h8
  unfold z_dok at h8
  cases hd : decode q.2.1 pc with
  | error x => simp only [hd] at h8; cases h8
  | ok r =>
    obtain ⟨j, n⟩ := r
    simp only [hd, Bool.and_eq_true] at h8
    have hj : j = i := of_decide_eq_true h8.1
    subst hj
    exact ⟨n, rfl, h8.2.1, h8.2.2⟩
