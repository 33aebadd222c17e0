/-! the reference: proofs, what is told, the image -/
theorem z_ba_lt {n i j : Nat} {K : Nat → Nat → Nat} (hi : i < n) : z_ba n K i j < 2 ^ n := Nat.or_lt_two_pow (Nat.pow_lt_pow_right (by decide) hi) (z_set_lt _ n)
def z_WB (a b : Int64) : Prop := ∃ x y, a = lN x ∧ b = lN y ∧ y < x ∧ x ≤ 41000000
theorem z_negL {p : Int32} (h : p < 0) : p.toInt64 < lN 0 := by
  rw [Int64.lt_iff_toInt_lt, Int32.toInt_toInt64, pk_lT (by decide)]
  have := Int32.lt_iff_toInt_lt.mp h
  have e : (0 : Int32).toInt = 0 := by decide
  omega
theorem z_natL {p : Int32} {x : Nat} (hx : x < 2 ^ 31) (h : p.toInt64 = lN x) : p = nI x := by
  have e : p.toInt64.toInt = (lN x).toInt := congrArg _ h
  rw [Int32.toInt_toInt64, pk_lT (by omega)] at e
  exact Int32.toInt_inj.mp (by rw [nI_toInt hx]; exact e)
theorem z_divI {a b : Nat} (ha : a < 2 ^ 31) (hb : 0 < b) (hb2 : b < 2 ^ 31) : nI a / nI b = nI (a / b) := by
  apply Int32.toInt_inj.mp
  have h1 : a / b ≤ a := Nat.div_le_self a b
  rw [nI_toInt (by omega), Int32.toInt_div_of_ne_right _ _ (by
    intro e
    rw [show (-1 : Int32) = -nI 1 from rfl] at e
    exact z_m1_ne hb2 e.symm), nI_toInt ha, nI_toInt hb2]
  exact Int.ofNat_tdiv a b
theorem z_m8 (k : Nat) : k % 8 < 8 := Nat.mod_lt k (by decide)
theorem z_lzn {s : Nat} {x : Int32} (h : x = z_lz s ∧ s ≤ 41) (hx : ¬ 0 ≤ x) : s = 0 := by
  rw [h.1, z_lz_neg h.2] at hx
  omega
theorem z_lzp {s : Nat} {x : Int32} (h : x = z_lz s ∧ s ≤ 41) (hx : 0 ≤ x) : s ≠ 0 := by
  rw [h.1, z_lz_neg h.2] at hx
  exact hx
theorem c_X6_isItem_neg (d : Nat) {g : Nat → Int32} {kept : Nat → Int32} {was : Nat → Int32} {isKept : Int32} {tape : Nat → Int32} {fed : Int32} {pos : Int32} {tlen : Int32} {flt : Int32} {ranking : Nat → Int32} {paper : Nat → Int32} {written : Int32} {pairs : Nat → Int64} {above : Nat → Int64} {below : Nat → Int64} {isDone : Nat → Int32} {dist : Nat → Int32} {rowv : Nat → Int32} {rowMany : Int32} {lsz : Nat → Int32} {itm : Nat → Int64} {weakAbove : Int64} {weakBelow : Int64} {l : Nat} {p : Int64} {sz : Nat → Nat} (hz : z_LZ lsz sz) (hl : l < 4) (hp : p < lN 0) : z_CAL (d + 2) 219 [.ref 0, .int (nI l), .long p] (MH g kept was isKept tape fed pos tlen flt ranking paper written pairs above below isDone dist rowv rowMany lsz itm weakAbove weakBelow) (fun r h2 => r = some (.int (nI 0)) ∧ h2 = (MH g kept was isKept tape fed pos tlen flt ranking paper written pairs above below isDone dist rowv rowMany lsz itm weakAbove weakBelow)) := by
  refine e_of2 (q := zmX6_isItem) rfl rfl (fun R hR => ?_)
  refine e_steps 5 (σ' := (7, [(0, .ref 0), (1, .int (nI l)), (2, .long p)], [.int (nI l), .ref 13, .long (lN 0), .long p], (MH g kept was isKept tape fed pos tlen flt ranking paper written pairs above below isDone dist rowv rowMany lsz itm weakAbove weakBelow))) rfl ?_
  refine e_ial (lsz l) rfl rfl (by first | assumption | omega | rfl | trivial) (by decide) (rfl) ?_
  refine e_steps 3 (σ' := (11, [(0, .ref 0), (1, .int (nI l)), (2, .long p)], [.long (((((lsz l)) - (nI 1))).toInt64), .long (lN 0), .long p], (MH g kept was isKept tape fed pos tlen flt ranking paper written pairs above below isDone dist rowv rowMany lsz itm weakAbove weakBelow))) rfl ?_
  refine e_call (y := 129) (av := [.long p, .long (lN 0), .long (((((lsz l)) - (nI 1))).toInt64)]) (rest := []) rfl (c_X6_isIn (d + 0) ) (fun r_11 h_11 p_11 => ?_)
  obtain ⟨rfl, o_11⟩ := p_11
  rcases o_11 with ⟨rfl, o_11⟩ | ⟨rfl, o_11⟩
  · skip
    refine e_steps 0 (σ' := (14, [(0, .ref 0), (1, .int (nI l)), (2, .long p)], [.int (nI 1)], (MH g kept was isKept tape fed pos tlen flt ranking paper written pairs above below isDone dist rowv rowMany lsz itm weakAbove weakBelow))) rfl ?_
    exact e_ret rfl (Or.inr rfl) (hR _ _ ⟨(by first | rfl | exact absurd o_11.1 (Int64.not_le.mpr hp)), rfl⟩)
  · skip
    refine e_steps 0 (σ' := (14, [(0, .ref 0), (1, .int (nI l)), (2, .long p)], [.int (nI 0)], (MH g kept was isKept tape fed pos tlen flt ranking paper written pairs above below isDone dist rowv rowMany lsz itm weakAbove weakBelow))) rfl ?_
    exact e_ret rfl (Or.inl rfl) (hR _ _ ⟨(by first | rfl | exact absurd o_11.1 (Int64.not_le.mpr hp)), rfl⟩)
theorem c_X6_prove (d : Nat) {g : Nat → Int32} {kept : Nat → Int32} {was : Nat → Int32} {isKept : Int32} {tape : Nat → Int32} {fed : Int32} {pos : Int32} {tlen : Int32} {flt : Int32} {ranking : Nat → Int32} {paper : Nat → Int32} {written : Int32} {pairs : Nat → Int64} {above : Nat → Int64} {below : Nat → Int64} {isDone : Nat → Int32} {dist : Nat → Int32} {rowv : Nat → Int32} {rowMany : Int32} {lsz : Nat → Int32} {itm : Nat → Int64} {weakAbove : Int64} {weakBelow : Int64} {l : Int32} {p : Int32} {i : Int32} {j : Int32} {n : Nat} {outs : Nat} {bm : Nat} {ms : Nat} {dr : Nat → Nat} {cn : Nat → Nat} {pl : Nat → Nat → Nat} {sz : Nat → Nat} (hG : z_GI g n outs bm ms dr cn pl) (hz : z_LZ lsz sz) : z_CAL (d + 7) 223 [.ref 0, .int l, .int p, .int i, .int j] (MH g kept was isKept tape fed pos tlen flt ranking paper written pairs above below isDone dist rowv rowMany lsz itm weakAbove weakBelow) (fun r h2 => ∃ (pairs2 : Nat → Int64) (ab2 : Nat → Int64) (be2 : Nat → Int64) (dn2 : Nat → Int32) (dist2 : Nat → Int32) (row2 : Nat → Int32) (rm2 : Int32) (itm2 : Nat → Int64) (v : Int32), r = some (.int v) ∧ h2 = (MH g kept was isKept tape fed pos tlen flt ranking paper written pairs2 ab2 be2 dn2 dist2 row2 rm2 lsz itm2 weakAbove weakBelow) ∧ ((v = -nI 1 ∧ itm2 = itm ∧ ¬ ((∃ a b, a < n ∧ b < n ∧ a ≠ b ∧ i = nI a ∧ j = nI b) ∧ ∃ q, q < 4 ∧ l = nI q)) ∨ ∃ a b q, a < n ∧ b < n ∧ a ≠ b ∧ i = nI a ∧ j = nI b ∧ q < 4 ∧ l = nI q ∧ ((¬ ((z_dif (2 ^ n - 1) outs).testBit a = true ∧ (z_dif (2 ^ n - 1) outs).testBit b = true) ∧ v = -nI 3 ∧ itm2 = itm) ∨ (((z_dif (2 ^ n - 1) outs).testBit a = true ∧ (z_dif (2 ^ n - 1) outs).testBit b = true) ∧ ∃ K, z_rows (z_LS ms (z_dif (2 ^ n - 1) outs) (z_for bm cn pl)) n K ∧ ((z_btb K a b = false ∧ v = -nI 3 ∧ itm2 = itm) ∨ (z_btb K a b = true ∧ ((sz q = 0 ∧ v = -nI 11 ∧ itm2 = itm) ∨ (sz q ≠ 0 ∧ ∃ D rw, z_WAY (z_LS ms (z_dif (2 ^ n - 1) outs) (z_for bm cn pl)) n K a b D rw ∧ ((p < 0 ∧ v = -nI 13 ∧ itm2 = itm) ∨ ∃ x, x < 2147483648 ∧ p = nI x ∧ z_lay itm itm2 q x (sz q) (D a + 1 + 2) (D a + 1) rw (z_ba n K b a) ∧ v = if x + (D a + 1) + 2 < sz q then nI (D a + 1 + 2) else -nI 13))))))))) := by
  refine e_of2 (q := zmX6_prove) rfl rfl (fun R hR => ?_)
  obtain ⟨⟨hn0, hn2, hn8⟩, ⟨ho0, ho8, hin⟩, ⟨hb0, hb40⟩, ⟨hm0, hm4⟩, ⟨hdr, hdl, hdc⟩, hcn, hpl⟩ := id hG; have hp8 := z_p2 hn8; have ho256 : outs < 256 := (by omega); have hi256 : z_dif (2 ^ n - 1) outs < 256 := (by have := z_dif_le (s := 2 ^ n - 1) (t := outs); omega)
  refine e_steps 4 (σ' := (5, [(0, .ref 0), (1, .int l), (2, .int p), (3, .int i), (4, .int j)], [.int j, .int i, .int l, .ref 0], (MH g kept was isKept tape fed pos tlen flt ranking paper written pairs above below isDone dist rowv rowMany lsz itm weakAbove weakBelow))) rfl ?_
  refine e_call (y := 220) (av := [.ref 0, .int l, .int i, .int j]) (rest := []) rfl (c_X6_wrong (d + 2) (n := n) (outs := outs) (bm := bm) (ms := ms) (dr := dr) (cn := cn) (pl := pl) (by first | assumption | omega | rfl | trivial)) (fun r_5 h_5 p_5 => ?_)
  obtain ⟨rfl, o_5⟩ := p_5
  rcases o_5 with ⟨a_5, b_5, q_5, rfl, o_5⟩ | ⟨a_5, b_5, q_5, rfl, o_5⟩ | ⟨rfl, o_5⟩
  · skip
    obtain ⟨g1, g2, g3, rfl, rfl, g4, rfl, g5⟩ := o_5; have g6 := (hz q_5 g4).2
    refine e_steps 4 (σ' := (19, [(5, .int (nI 0)), (0, .ref 0), (1, .int (nI q_5)), (2, .int p), (3, .int (nI a_5)), (4, .int (nI b_5))], [.ref 0], (MH g kept was isKept tape fed pos tlen flt ranking paper written pairs above below isDone dist rowv rowMany lsz itm weakAbove weakBelow))) rfl ?_
    refine e_call (y := 185) (av := [.ref 0]) (rest := []) rfl (c_X6_waysNow (d + 0) (n := n) (outs := outs) (bm := bm) (ms := ms) (dr := dr) (cn := cn) (pl := pl) (by first | assumption | omega | rfl | trivial)) (fun r_19 h_19 p_19 => ?_)
    obtain ⟨pairs_19, above_19, below_19, isDone_19, rfl, rfl, q_19⟩ := p_19
    obtain ⟨hP2, K, hW⟩ := q_19
    refine e_steps 4 (σ' := (28, [(5, .int (nI 0)), (0, .ref 0), (1, .int (nI q_5)), (2, .int p), (3, .int (nI a_5)), (4, .int (nI b_5))], [.int (nI 3), .ref 1, .ref 0], (MH g kept was isKept tape fed pos tlen flt ranking paper written pairs_19 above_19 below_19 isDone_19 dist rowv rowMany lsz itm weakAbove weakBelow))) rfl ?_
    refine e_ial (nI ms) rfl rfl (by first | assumption | omega | rfl | trivial) (by decide) (hm0) ?_
    refine e_steps 2 (σ' := (32, [(5, .int (nI 0)), (0, .ref 0), (1, .int (nI q_5)), (2, .int p), (3, .int (nI a_5)), (4, .int (nI b_5))], [.int (nI b_5), .int (nI a_5), .int (nI ms), .ref 0], (MH g kept was isKept tape fed pos tlen flt ranking paper written pairs_19 above_19 below_19 isDone_19 dist rowv rowMany lsz itm weakAbove weakBelow))) rfl ?_
    refine e_call (y := 196) (av := [.ref 0, .int (nI ms), .int (nI a_5), .int (nI b_5)]) (rest := []) rfl (c_X6_doesBeat (d + 3) (n := n) (outs := outs) (bm := bm) (ms := ms) (dr := dr) (cn := cn) (pl := pl) (s := (z_dif (2 ^ n - 1) outs)) (F := (z_for bm cn pl)) (K := K) (by first | assumption | omega | rfl | trivial) (by exact hW) (by first | assumption | omega | rfl | trivial) (by first | assumption | omega | rfl | trivial) (by first | assumption | omega | rfl | trivial)) (fun r_32 h_32 p_32 => ?_)
    obtain ⟨rfl, o_32⟩ := p_32
    rcases o_32 with ⟨rfl, o_32⟩ | ⟨rfl, o_32⟩
    · skip
      refine e_steps 4 (σ' := (46, [(5, .int (nI 0)), (0, .ref 0), (1, .int (nI q_5)), (2, .int p), (3, .int (nI a_5)), (4, .int (nI b_5))], [.int (nI q_5), .ref 13], (MH g kept was isKept tape fed pos tlen flt ranking paper written pairs_19 above_19 below_19 isDone_19 dist rowv rowMany lsz itm weakAbove weakBelow))) rfl ?_
      refine e_ial (lsz q_5) rfl rfl (by first | assumption | omega | rfl | trivial) (by decide) (rfl) ?_
      refine e_steps 0 (σ' := (47, [(5, .int (nI 0)), (0, .ref 0), (1, .int (nI q_5)), (2, .int p), (3, .int (nI a_5)), (4, .int (nI b_5))], [.int ((lsz q_5))], (MH g kept was isKept tape fed pos tlen flt ranking paper written pairs_19 above_19 below_19 isDone_19 dist rowv rowMany lsz itm weakAbove weakBelow))) rfl ?_
      refine e_if (c := 0 ≤ (lsz q_5)) rfl (fun c_47 => ?_) (fun c_47 => ?_)
      · skip
        refine e_steps 3 (σ' := (57, [(5, .int (nI 0)), (0, .ref 0), (1, .int (nI q_5)), (2, .int p), (3, .int (nI a_5)), (4, .int (nI b_5))], [.int (nI b_5), .int (nI a_5), .ref 0], (MH g kept was isKept tape fed pos tlen flt ranking paper written pairs_19 above_19 below_19 isDone_19 dist rowv rowMany lsz itm weakAbove weakBelow))) rfl ?_
        refine e_call (y := 192) (av := [.ref 0, .int (nI a_5), .int (nI b_5)]) (rest := []) rfl (c_X6_wayOf (d + 1) (n := n) (outs := outs) (bm := bm) (ms := ms) (dr := dr) (cn := cn) (pl := pl) (F := (z_for bm cn pl)) (K := K) (by first | assumption | omega | rfl | trivial) (by exact hP2) (by exact hW) (by first | assumption | omega | rfl | trivial) (by first | assumption | omega | rfl | trivial) (by first | assumption | omega | rfl | trivial)) (fun r_57 h_57 p_57 => ?_)
        obtain ⟨dist_57, rowv_57, rowMany_57, rfl, rfl, q_57⟩ := p_57
        have hbt := z_btb_iff.mp o_32; obtain ⟨D, rw, w1, w2, w3⟩ := q_57.resolve_left (fun q => by have := hbt.2; omega); have w4 := w1.2.2.1; have hba := z_ba_lt (K := K) (j := a_5) g2
        refine e_steps 0 (σ' := (60, [(5, .int (nI 0)), (0, .ref 0), (1, .int (nI q_5)), (2, .int p), (3, .int (nI a_5)), (4, .int (nI b_5))], [], (MH g kept was isKept tape fed pos tlen flt ranking paper written pairs_19 above_19 below_19 isDone_19 dist_57 rowv_57 (nI rowMany_57) lsz itm weakAbove weakBelow))) rfl ?_
        rcases z_neg p with hp | ⟨x0, hx0, rfl⟩
        · skip
          refine e_steps 6 (σ' := (67, [(5, .int (nI 0)), (0, .ref 0), (1, .int (nI q_5)), (2, .int p), (3, .int (nI a_5)), (4, .int (nI b_5))], [.int (nI a_5), .int (nI b_5), .ref 0, .int p, .int (nI q_5), .ref 0], (MH g kept was isKept tape fed pos tlen flt ranking paper written pairs_19 above_19 below_19 isDone_19 dist_57 rowv_57 (nI rowMany_57) lsz itm weakAbove weakBelow))) rfl ?_
          refine e_call (y := 194) (av := [.ref 0, .int (nI b_5), .int (nI a_5)]) (rest := [.int p, .int (nI q_5), .ref 0]) rfl (c_X6_barrierOf (d + 3) (n := n) (outs := outs) (bm := bm) (ms := ms) (dr := dr) (cn := cn) (pl := pl) (F := (z_for bm cn pl)) (K := K) (by first | assumption | omega | rfl | trivial) (by exact hP2) (by exact hW) (by first | assumption | omega | rfl | trivial) (by first | assumption | omega | rfl | trivial)) (fun r_67 h_67 p_67 => ?_)
          obtain ⟨rfl, rfl⟩ := p_67
          refine e_steps 0 (σ' := (70, [(5, .int (nI 0)), (0, .ref 0), (1, .int (nI q_5)), (2, .int p), (3, .int (nI a_5)), (4, .int (nI b_5))], [.int (nI (z_ba n K b_5 a_5)), .int p, .int (nI q_5), .ref 0], (MH g kept was isKept tape fed pos tlen flt ranking paper written pairs_19 above_19 below_19 isDone_19 dist_57 rowv_57 (nI rowMany_57) lsz itm weakAbove weakBelow))) rfl ?_
          refine e_call (y := 222) (av := [.ref 0, .int (nI q_5), .int p, .int (nI (z_ba n K b_5 a_5))]) (rest := []) rfl (c_X6_laid_neg (d + 2) (sz := sz) (by first | assumption | omega | rfl | trivial) (by first | assumption | omega | rfl | trivial) (by first | assumption | omega | rfl | trivial) (by first | assumption | omega | rfl | trivial)) (fun r_70 h_70 p_70 => ?_)
          obtain ⟨rfl, rfl⟩ := p_70
          refine e_steps 0 (σ' := (73, [(5, .int (nI 0)), (0, .ref 0), (1, .int (nI q_5)), (2, .int p), (3, .int (nI a_5)), (4, .int (nI b_5))], [.int ((-nI 13))], (MH g kept was isKept tape fed pos tlen flt ranking paper written pairs_19 above_19 below_19 isDone_19 dist_57 rowv_57 (nI rowMany_57) lsz itm weakAbove weakBelow))) rfl ?_
          exact e_ret rfl (trivial) (hR _ _ ⟨pairs_19, above_19, below_19, isDone_19, dist_57, rowv_57, nI rowMany_57, itm, ((-nI 13)), rfl, rfl, (by first | exact Or.inl ⟨rfl, rfl, o_5⟩ | exact Or.inr ⟨_, _, _, g1, g2, g3, rfl, rfl, g4, rfl,  Or.inl ⟨g5, rfl, rfl⟩⟩ | exact Or.inr ⟨_, _, _, g1, g2, g3, rfl, rfl, g4, rfl,  Or.inr ⟨g5, K, hW.2, Or.inl ⟨o_32, rfl, rfl⟩⟩⟩ | exact Or.inr ⟨_, _, _, g1, g2, g3, rfl, rfl, g4, rfl,  Or.inr ⟨g5, K, hW.2, Or.inr ⟨o_32, Or.inl ⟨z_lzn (hz q_5 g4) c_47, rfl, rfl⟩⟩⟩⟩ | exact Or.inr ⟨_, _, _, g1, g2, g3, rfl, rfl, g4, rfl,  Or.inr ⟨g5, K, hW.2, Or.inr ⟨o_32, Or.inr ⟨z_lzp (hz q_5 g4) c_47, D, rw, w1, Or.inl ⟨hp, rfl, rfl⟩⟩⟩⟩⟩)⟩)
        · skip
          refine e_steps 6 (σ' := (67, [(5, .int (nI 0)), (0, .ref 0), (1, .int (nI q_5)), (2, .int (nI x0)), (3, .int (nI a_5)), (4, .int (nI b_5))], [.int (nI a_5), .int (nI b_5), .ref 0, .int (nI x0), .int (nI q_5), .ref 0], (MH g kept was isKept tape fed pos tlen flt ranking paper written pairs_19 above_19 below_19 isDone_19 dist_57 rowv_57 (nI rowMany_57) lsz itm weakAbove weakBelow))) rfl ?_
          refine e_call (y := 194) (av := [.ref 0, .int (nI b_5), .int (nI a_5)]) (rest := [.int (nI x0), .int (nI q_5), .ref 0]) rfl (c_X6_barrierOf (d + 3) (n := n) (outs := outs) (bm := bm) (ms := ms) (dr := dr) (cn := cn) (pl := pl) (F := (z_for bm cn pl)) (K := K) (by first | assumption | omega | rfl | trivial) (by exact hP2) (by exact hW) (by first | assumption | omega | rfl | trivial) (by first | assumption | omega | rfl | trivial)) (fun r_67 h_67 p_67 => ?_)
          obtain ⟨rfl, rfl⟩ := p_67
          refine e_steps 0 (σ' := (70, [(5, .int (nI 0)), (0, .ref 0), (1, .int (nI q_5)), (2, .int (nI x0)), (3, .int (nI a_5)), (4, .int (nI b_5))], [.int (nI (z_ba n K b_5 a_5)), .int (nI x0), .int (nI q_5), .ref 0], (MH g kept was isKept tape fed pos tlen flt ranking paper written pairs_19 above_19 below_19 isDone_19 dist_57 rowv_57 (nI rowMany_57) lsz itm weakAbove weakBelow))) rfl ?_
          refine e_call (y := 222) (av := [.ref 0, .int (nI q_5), .int (nI x0), .int (nI (z_ba n K b_5 a_5))]) (rest := []) rfl (c_X6_laid_N (d + 2) (sz := sz) (rw := rw) (by first | assumption | omega | rfl | trivial) (by first | assumption | omega | rfl | trivial) (by exact fun k hk => ⟨w3 k hk, by have := w1.2.2.2.2 k (by omega); omega⟩) (by first | assumption | omega | rfl | trivial) (by first | assumption | omega | rfl | trivial) (by first | assumption | omega | rfl | trivial)) (fun r_70 h_70 p_70 => ?_)
          obtain ⟨itm_70, v_70, rfl, rfl, q_70⟩ := p_70
          refine e_steps 0 (σ' := (73, [(5, .int (nI 0)), (0, .ref 0), (1, .int (nI q_5)), (2, .int (nI x0)), (3, .int (nI a_5)), (4, .int (nI b_5))], [.int v_70], (MH g kept was isKept tape fed pos tlen flt ranking paper written pairs_19 above_19 below_19 isDone_19 dist_57 rowv_57 (nI rowMany_57) lsz itm_70 weakAbove weakBelow))) rfl ?_
          exact e_ret rfl (trivial) (hR _ _ ⟨pairs_19, above_19, below_19, isDone_19, dist_57, rowv_57, nI rowMany_57, itm_70, v_70, rfl, rfl, (by first | exact Or.inl ⟨rfl, rfl, o_5⟩ | exact Or.inr ⟨_, _, _, g1, g2, g3, rfl, rfl, g4, rfl,  Or.inl ⟨g5, rfl, rfl⟩⟩ | exact Or.inr ⟨_, _, _, g1, g2, g3, rfl, rfl, g4, rfl,  Or.inr ⟨g5, K, hW.2, Or.inl ⟨o_32, rfl, rfl⟩⟩⟩ | exact Or.inr ⟨_, _, _, g1, g2, g3, rfl, rfl, g4, rfl,  Or.inr ⟨g5, K, hW.2, Or.inr ⟨o_32, Or.inl ⟨z_lzn (hz q_5 g4) c_47, rfl, rfl⟩⟩⟩⟩ | exact Or.inr ⟨_, _, _, g1, g2, g3, rfl, rfl, g4, rfl,  Or.inr ⟨g5, K, hW.2, Or.inr ⟨o_32, Or.inr ⟨z_lzp (hz q_5 g4) c_47, D, rw, w1, Or.inl ⟨hp, rfl, rfl⟩⟩⟩⟩⟩ | (rw [w2] at q_70; exact Or.inr ⟨_, _, _, g1, g2, g3, rfl, rfl, g4, rfl,  Or.inr ⟨g5, K, hW.2, Or.inr ⟨o_32, Or.inr ⟨z_lzp (hz q_5 g4) c_47, D, rw, w1, Or.inr ⟨x0, by omega, rfl, q_70.1, q_70.2⟩⟩⟩⟩⟩))⟩)
      · skip
        refine e_steps 1 (σ' := (52, [(5, .int (nI 0)), (0, .ref 0), (1, .int (nI q_5)), (2, .int p), (3, .int (nI a_5)), (4, .int (nI b_5))], [.int ((-nI 11))], (MH g kept was isKept tape fed pos tlen flt ranking paper written pairs_19 above_19 below_19 isDone_19 dist rowv rowMany lsz itm weakAbove weakBelow))) rfl ?_
        exact e_ret rfl (trivial) (hR _ _ ⟨pairs_19, above_19, below_19, isDone_19, dist, rowv, rowMany, itm, ((-nI 11)), rfl, rfl, (by first | exact Or.inl ⟨rfl, rfl, o_5⟩ | exact Or.inr ⟨_, _, _, g1, g2, g3, rfl, rfl, g4, rfl,  Or.inl ⟨g5, rfl, rfl⟩⟩ | exact Or.inr ⟨_, _, _, g1, g2, g3, rfl, rfl, g4, rfl,  Or.inr ⟨g5, K, hW.2, Or.inl ⟨o_32, rfl, rfl⟩⟩⟩ | exact Or.inr ⟨_, _, _, g1, g2, g3, rfl, rfl, g4, rfl,  Or.inr ⟨g5, K, hW.2, Or.inr ⟨o_32, Or.inl ⟨z_lzn (hz q_5 g4) c_47, rfl, rfl⟩⟩⟩⟩ | exact Or.inr ⟨_, _, _, g1, g2, g3, rfl, rfl, g4, rfl,  Or.inr ⟨g5, K, hW.2, Or.inr ⟨o_32, Or.inr ⟨z_lzp (hz q_5 g4) c_47, D, rw, w1, Or.inl ⟨hp, rfl, rfl⟩⟩⟩⟩⟩)⟩)
    · skip
      refine e_steps 2 (σ' := (40, [(5, .int (nI 0)), (0, .ref 0), (1, .int (nI q_5)), (2, .int p), (3, .int (nI a_5)), (4, .int (nI b_5))], [.int ((-nI 3))], (MH g kept was isKept tape fed pos tlen flt ranking paper written pairs_19 above_19 below_19 isDone_19 dist rowv rowMany lsz itm weakAbove weakBelow))) rfl ?_
      exact e_ret rfl (trivial) (hR _ _ ⟨pairs_19, above_19, below_19, isDone_19, dist, rowv, rowMany, itm, ((-nI 3)), rfl, rfl, (by first | exact Or.inl ⟨rfl, rfl, o_5⟩ | exact Or.inr ⟨_, _, _, g1, g2, g3, rfl, rfl, g4, rfl,  Or.inl ⟨g5, rfl, rfl⟩⟩ | exact Or.inr ⟨_, _, _, g1, g2, g3, rfl, rfl, g4, rfl,  Or.inr ⟨g5, K, hW.2, Or.inl ⟨o_32, rfl, rfl⟩⟩⟩)⟩)
  · skip
    obtain ⟨g1, g2, g3, rfl, rfl, g4, rfl, g5⟩ := o_5
    refine e_steps 4 (σ' := (17, [(5, .int ((-nI 3))), (0, .ref 0), (1, .int (nI q_5)), (2, .int p), (3, .int (nI a_5)), (4, .int (nI b_5))], [.int ((-nI 3))], (MH g kept was isKept tape fed pos tlen flt ranking paper written pairs above below isDone dist rowv rowMany lsz itm weakAbove weakBelow))) rfl ?_
    exact e_ret rfl (trivial) (hR _ _ ⟨pairs, above, below, isDone, dist, rowv, rowMany, itm, ((-nI 3)), rfl, rfl, (by first | exact Or.inl ⟨rfl, rfl, o_5⟩ | exact Or.inr ⟨_, _, _, g1, g2, g3, rfl, rfl, g4, rfl,  Or.inl ⟨g5, rfl, rfl⟩⟩)⟩)
  · skip
    refine e_steps 4 (σ' := (17, [(5, .int ((-nI 1))), (0, .ref 0), (1, .int l), (2, .int p), (3, .int i), (4, .int j)], [.int ((-nI 1))], (MH g kept was isKept tape fed pos tlen flt ranking paper written pairs above below isDone dist rowv rowMany lsz itm weakAbove weakBelow))) rfl ?_
    exact e_ret rfl (trivial) (hR _ _ ⟨pairs, above, below, isDone, dist, rowv, rowMany, itm, ((-nI 1)), rfl, rfl, (by first | exact Or.inl ⟨rfl, rfl, o_5⟩ | exact Or.inr ⟨_, _, _, g1, g2, g3, rfl, rfl, g4, rfl,  Or.inl ⟨g5, rfl, rfl⟩⟩)⟩)
theorem c_X6_isToldLink (d : Nat) {g : Nat → Int32} {kept : Nat → Int32} {was : Nat → Int32} {isKept : Int32} {tape : Nat → Int32} {fed : Int32} {pos : Int32} {tlen : Int32} {flt : Int32} {ranking : Nat → Int32} {paper : Nat → Int32} {written : Int32} {pairs : Nat → Int64} {above : Nat → Int64} {below : Nat → Int64} {isDone : Nat → Int32} {dist : Nat → Int32} {rowv : Nat → Int32} {rowMany : Int32} {lsz : Nat → Int32} {itm : Nat → Int64} {weakAbove : Int64} {weakBelow : Int64} {i : Nat} {j : Nat} {fst : Nat} {n : Nat} {outs : Nat} {bm : Nat} {ms : Nat} {dr : Nat → Nat} {cn : Nat → Nat} {pl : Nat → Nat → Nat} {F : Nat → Nat → Nat} (hG : z_GI g n outs bm ms dr cn pl) (hP : z_PR pairs n F) (hi : i < n) (hj : j < n) (hf : fst < 2) (hw : fst = 0 → z_WB weakAbove weakBelow) : z_CAL (d + 3) 225 [.ref 0, .int (nI i), .int (nI j), .int (nI fst)] (MH g kept was isKept tape fed pos tlen flt ranking paper written pairs above below isDone dist rowv rowMany lsz itm weakAbove weakBelow) (fun r h2 => ∃ (wa2 : Int64) (wb2 : Int64), h2 = (MH g kept was isKept tape fed pos tlen flt ranking paper written pairs above below isDone dist rowv rowMany lsz itm wa2 wb2) ∧ ((r = some (.int (nI 1)) ∧ (z_WB wa2 wb2)) ∨ (r = some (.int (nI 0)) ∧ (True)))) := by
  refine e_of2 (q := zmX6_isToldLink) rfl rfl (fun R hR => ?_)
  obtain ⟨⟨hn0, hn2, hn8⟩, ⟨ho0, ho8, hin⟩, ⟨hb0, hb40⟩, ⟨hm0, hm4⟩, ⟨hdr, hdl, hdc⟩, hcn, hpl⟩ := id hG; have hp8 := z_p2 hn8; have ho256 : outs < 256 := (by omega); have hi256 : z_dif (2 ^ n - 1) outs < 256 := (by have := z_dif_le (s := 2 ^ n - 1) (t := outs); omega)
  refine e_steps 2 (σ' := (2, [(0, .ref 0), (1, .int (nI i)), (2, .int (nI j)), (3, .int (nI fst))], [.ref 0, .ref 0], (MH g kept was isKept tape fed pos tlen flt ranking paper written pairs above below isDone dist rowv rowMany lsz itm weakAbove weakBelow))) rfl ?_
  refine e_call (y := 134) (av := [.ref 0]) (rest := [.ref 0]) rfl (c_X6_ins (d + 0) (n := n) (outs := outs) (bm := bm) (ms := ms) (dr := dr) (cn := cn) (pl := pl) (by first | assumption | omega | rfl | trivial)) (fun r_2 h_2 p_2 => ?_)
  obtain ⟨rfl, rfl⟩ := p_2
  refine e_steps 2 (σ' := (7, [(0, .ref 0), (1, .int (nI i)), (2, .int (nI j)), (3, .int (nI fst))], [.int (nI j), .int (nI i), .int (nI (z_dif (2 ^ n - 1) outs)), .ref 0], (MH g kept was isKept tape fed pos tlen flt ranking paper written pairs above below isDone dist rowv rowMany lsz itm weakAbove weakBelow))) rfl ?_
  refine e_call (y := 176) (av := [.ref 0, .int (nI (z_dif (2 ^ n - 1) outs)), .int (nI i), .int (nI j)]) (rest := []) rfl (c_X6_isLink (d + 0) (n := n) (outs := outs) (bm := bm) (ms := ms) (dr := dr) (cn := cn) (pl := pl) (F := F) (by first | assumption | omega | rfl | trivial) (by first | assumption | omega | rfl | trivial) (by first | assumption | omega | rfl | trivial) (by first | assumption | omega | rfl | trivial) (by first | assumption | omega | rfl | trivial)) (fun r_7 h_7 p_7 => ?_)
  obtain ⟨rfl, o_7⟩ := p_7
  rcases o_7 with ⟨rfl, o_7⟩ | ⟨rfl, o_7⟩
  · skip
    have hb1 := (hP i hi j hj).2; have hlt := o_7.2.2.2
    refine e_steps 2 (σ' := (16, [(0, .ref 0), (1, .int (nI i)), (2, .int (nI j)), (3, .int (nI fst))], [.int (nI fst)], (MH g kept was isKept tape fed pos tlen flt ranking paper written pairs above below isDone dist rowv rowMany lsz itm weakAbove weakBelow))) rfl ?_
    refine e_if (c := ¬ nI fst = 0) rfl (fun c_16 => ?_) (fun c_16 => ?_)
    · skip
      rw [z0_ne (by omega)] at c_16
      skip
      refine e_steps 4 (σ' := (55, [(0, .ref 0), (1, .int (nI i)), (2, .int (nI j)), (3, .int (nI fst))], [.int (nI j), .int (nI i), .ref 0, .ref 0], (MH g kept was isKept tape fed pos tlen flt ranking paper written pairs above below isDone dist rowv rowMany lsz itm weakAbove weakBelow))) rfl ?_
      refine e_call (y := 174) (av := [.ref 0, .int (nI i), .int (nI j)]) (rest := [.ref 0]) rfl (c_X6_over (d + 1) (n := n) (outs := outs) (bm := bm) (ms := ms) (dr := dr) (cn := cn) (pl := pl) (F := F) (by first | assumption | omega | rfl | trivial) (by first | assumption | omega | rfl | trivial) (by first | assumption | omega | rfl | trivial) (by first | assumption | omega | rfl | trivial)) (fun r_55 h_55 p_55 => ?_)
      obtain ⟨rfl, rfl⟩ := p_55
      refine e_steps 5 (σ' := (65, [(0, .ref 0), (1, .int (nI i)), (2, .int (nI j)), (3, .int (nI fst))], [.int (nI i), .int (nI j), .ref 0, .ref 0], (MH g kept was isKept tape fed pos tlen flt ranking paper written pairs above below isDone dist rowv rowMany lsz itm (lN (F i j)) weakBelow))) rfl ?_
      refine e_call (y := 174) (av := [.ref 0, .int (nI j), .int (nI i)]) (rest := [.ref 0]) rfl (c_X6_over (d + 1) (n := n) (outs := outs) (bm := bm) (ms := ms) (dr := dr) (cn := cn) (pl := pl) (F := F) (by first | assumption | omega | rfl | trivial) (by first | assumption | omega | rfl | trivial) (by first | assumption | omega | rfl | trivial) (by first | assumption | omega | rfl | trivial)) (fun r_65 h_65 p_65 => ?_)
      obtain ⟨rfl, rfl⟩ := p_65
      refine e_steps 2 (σ' := (72, [(0, .ref 0), (1, .int (nI i)), (2, .int (nI j)), (3, .int (nI fst))], [.int (nI 1)], (MH g kept was isKept tape fed pos tlen flt ranking paper written pairs above below isDone dist rowv rowMany lsz itm (lN (F i j)) (lN (F j i))))) rfl ?_
      exact e_ret rfl (Or.inr rfl) (hR _ _ ⟨lN (F i j), lN (F j i), rfl, Or.inl ⟨rfl, (by first | exact ⟨_, _, rfl, rfl, hlt, hb1⟩ | exact ⟨wx, wy, rfl, rfl, hwyx, hwx⟩)⟩⟩)
    · skip
      rw [z0_ne (by omega)] at c_16
      replace c_16 := Decidable.not_not.mp c_16
      refine e_steps 0 (σ' := (19, [(0, .ref 0), (1, .int (nI i)), (2, .int (nI j)), (3, .int (nI fst))], [], (MH g kept was isKept tape fed pos tlen flt ranking paper written pairs above below isDone dist rowv rowMany lsz itm weakAbove weakBelow))) rfl ?_
      obtain ⟨wx, wy, rfl, rfl, hwyx, hwx⟩ := hw (by omega)
      · skip
        refine e_steps 3 (σ' := (24, [(0, .ref 0), (1, .int (nI i)), (2, .int (nI j)), (3, .int (nI fst))], [.int (nI 3), .ref 1], (MH g kept was isKept tape fed pos tlen flt ranking paper written pairs above below isDone dist rowv rowMany lsz itm (lN wx) (lN wy)))) rfl ?_
        refine e_ial (nI ms) rfl rfl (by first | assumption | omega | rfl | trivial) (by decide) (hm0) ?_
        refine e_steps 7 (σ' := (36, [(0, .ref 0), (1, .int (nI i)), (2, .int (nI j)), (3, .int (nI fst))], [.int (nI j), .int (nI i), .ref 0, .long (lN wy), .long (lN wx), .int (nI ms)], (MH g kept was isKept tape fed pos tlen flt ranking paper written pairs above below isDone dist rowv rowMany lsz itm (lN wx) (lN wy)))) rfl ?_
        refine e_call (y := 174) (av := [.ref 0, .int (nI i), .int (nI j)]) (rest := [.long (lN wy), .long (lN wx), .int (nI ms)]) rfl (c_X6_over (d + 1) (n := n) (outs := outs) (bm := bm) (ms := ms) (dr := dr) (cn := cn) (pl := pl) (F := F) (by first | assumption | omega | rfl | trivial) (by first | assumption | omega | rfl | trivial) (by first | assumption | omega | rfl | trivial) (by first | assumption | omega | rfl | trivial)) (fun r_36 h_36 p_36 => ?_)
        obtain ⟨rfl, rfl⟩ := p_36
        refine e_steps 3 (σ' := (42, [(0, .ref 0), (1, .int (nI i)), (2, .int (nI j)), (3, .int (nI fst))], [.int (nI i), .int (nI j), .ref 0, .long (lN (F i j)), .long (lN wy), .long (lN wx), .int (nI ms)], (MH g kept was isKept tape fed pos tlen flt ranking paper written pairs above below isDone dist rowv rowMany lsz itm (lN wx) (lN wy)))) rfl ?_
        refine e_call (y := 174) (av := [.ref 0, .int (nI j), .int (nI i)]) (rest := [.long (lN (F i j)), .long (lN wy), .long (lN wx), .int (nI ms)]) rfl (c_X6_over (d + 1) (n := n) (outs := outs) (bm := bm) (ms := ms) (dr := dr) (cn := cn) (pl := pl) (F := F) (by first | assumption | omega | rfl | trivial) (by first | assumption | omega | rfl | trivial) (by first | assumption | omega | rfl | trivial) (by first | assumption | omega | rfl | trivial)) (fun r_42 h_42 p_42 => ?_)
        obtain ⟨rfl, rfl⟩ := p_42
        refine e_steps 0 (σ' := (45, [(0, .ref 0), (1, .int (nI i)), (2, .int (nI j)), (3, .int (nI fst))], [.long (lN (F j i)), .long (lN (F i j)), .long (lN wy), .long (lN wx), .int (nI ms)], (MH g kept was isKept tape fed pos tlen flt ranking paper written pairs above below isDone dist rowv rowMany lsz itm (lN wx) (lN wy)))) rfl ?_
        refine e_call (y := 178) (av := [.int (nI ms), .long (lN wx), .long (lN wy), .long (lN (F i j)), .long (lN (F j i))]) (rest := []) rfl (c_X6_isStronger (d + 1) (by first | assumption | omega | rfl | trivial) (by first | assumption | omega | rfl | trivial) (by first | assumption | omega | rfl | trivial) (by first | assumption | omega | rfl | trivial) (by first | assumption | omega | rfl | trivial)) (fun r_45 h_45 p_45 => ?_)
        obtain ⟨rfl, o_45⟩ := p_45
        rcases o_45 with ⟨rfl, o_45⟩ | ⟨rfl, o_45⟩
        · skip
          refine e_steps 5 (σ' := (55, [(0, .ref 0), (1, .int (nI i)), (2, .int (nI j)), (3, .int (nI fst))], [.int (nI j), .int (nI i), .ref 0, .ref 0], (MH g kept was isKept tape fed pos tlen flt ranking paper written pairs above below isDone dist rowv rowMany lsz itm (lN wx) (lN wy)))) rfl ?_
          refine e_call (y := 174) (av := [.ref 0, .int (nI i), .int (nI j)]) (rest := [.ref 0]) rfl (c_X6_over (d + 1) (n := n) (outs := outs) (bm := bm) (ms := ms) (dr := dr) (cn := cn) (pl := pl) (F := F) (by first | assumption | omega | rfl | trivial) (by first | assumption | omega | rfl | trivial) (by first | assumption | omega | rfl | trivial) (by first | assumption | omega | rfl | trivial)) (fun r_55 h_55 p_55 => ?_)
          obtain ⟨rfl, rfl⟩ := p_55
          refine e_steps 5 (σ' := (65, [(0, .ref 0), (1, .int (nI i)), (2, .int (nI j)), (3, .int (nI fst))], [.int (nI i), .int (nI j), .ref 0, .ref 0], (MH g kept was isKept tape fed pos tlen flt ranking paper written pairs above below isDone dist rowv rowMany lsz itm (lN (F i j)) (lN wy)))) rfl ?_
          refine e_call (y := 174) (av := [.ref 0, .int (nI j), .int (nI i)]) (rest := [.ref 0]) rfl (c_X6_over (d + 1) (n := n) (outs := outs) (bm := bm) (ms := ms) (dr := dr) (cn := cn) (pl := pl) (F := F) (by first | assumption | omega | rfl | trivial) (by first | assumption | omega | rfl | trivial) (by first | assumption | omega | rfl | trivial) (by first | assumption | omega | rfl | trivial)) (fun r_65 h_65 p_65 => ?_)
          obtain ⟨rfl, rfl⟩ := p_65
          refine e_steps 2 (σ' := (72, [(0, .ref 0), (1, .int (nI i)), (2, .int (nI j)), (3, .int (nI fst))], [.int (nI 1)], (MH g kept was isKept tape fed pos tlen flt ranking paper written pairs above below isDone dist rowv rowMany lsz itm (lN (F i j)) (lN (F j i))))) rfl ?_
          exact e_ret rfl (Or.inr rfl) (hR _ _ ⟨lN (F i j), lN (F j i), rfl, Or.inl ⟨rfl, (by first | exact ⟨_, _, rfl, rfl, hlt, hb1⟩ | exact ⟨wx, wy, rfl, rfl, hwyx, hwx⟩)⟩⟩)
        · skip
          refine e_steps 2 (σ' := (72, [(0, .ref 0), (1, .int (nI i)), (2, .int (nI j)), (3, .int (nI fst))], [.int (nI 1)], (MH g kept was isKept tape fed pos tlen flt ranking paper written pairs above below isDone dist rowv rowMany lsz itm (lN wx) (lN wy)))) rfl ?_
          exact e_ret rfl (Or.inr rfl) (hR _ _ ⟨lN wx, lN wy, rfl, Or.inl ⟨rfl, (by first | exact ⟨_, _, rfl, rfl, hlt, hb1⟩ | exact ⟨wx, wy, rfl, rfl, hwyx, hwx⟩)⟩⟩)
  · skip
    refine e_steps 2 (σ' := (14, [(0, .ref 0), (1, .int (nI i)), (2, .int (nI j)), (3, .int (nI fst))], [.int (nI 0)], (MH g kept was isKept tape fed pos tlen flt ranking paper written pairs above below isDone dist rowv rowMany lsz itm weakAbove weakBelow))) rfl ?_
    exact e_ret rfl (Or.inl rfl) (hR _ _ ⟨weakAbove, weakBelow, rfl, Or.inr ⟨rfl, (by first | assumption | omega | rfl | trivial)⟩⟩)
theorem c_X6_isToldWay (d : Nat) {g : Nat → Int32} {kept : Nat → Int32} {was : Nat → Int32} {isKept : Int32} {tape : Nat → Int32} {fed : Int32} {pos : Int32} {tlen : Int32} {flt : Int32} {ranking : Nat → Int32} {paper : Nat → Int32} {written : Int32} {pairs : Nat → Int64} {above : Nat → Int64} {below : Nat → Int64} {isDone : Nat → Int32} {dist : Nat → Int32} {rowv : Nat → Int32} {rowMany : Int32} {lsz : Nat → Int32} {itm : Nat → Int64} {weakAbove : Int64} {weakBelow : Int64} {l : Nat} {fr : Nat} {m : Nat} {i : Nat} {j : Nat} {n : Nat} {outs : Nat} {bm : Nat} {ms : Nat} {dr : Nat → Nat} {cn : Nat → Nat} {pl : Nat → Nat → Nat} {F : Nat → Nat → Nat} (hG : z_GI g n outs bm ms dr cn pl) (hP : z_PR pairs n F) (hi : i < n) (hj : j < n) (hl : l < 4) (hfm : fr + m ≤ 40) (hm2 : 2 ≤ m) (hm8 : m ≤ 8) : z_CAL (d + 4) 224 [.ref 0, .int (nI l), .int (nI fr), .int (nI m), .int (nI i), .int (nI j)] (MH g kept was isKept tape fed pos tlen flt ranking paper written pairs above below isDone dist rowv rowMany lsz itm weakAbove weakBelow) (fun r h2 => ∃ (wa2 : Int64) (wb2 : Int64), h2 = (MH g kept was isKept tape fed pos tlen flt ranking paper written pairs above below isDone dist rowv rowMany lsz itm wa2 wb2) ∧ ((r = some (.int (nI 1)) ∧ (z_WB wa2 wb2)) ∨ (r = some (.int (nI 0)) ∧ (True)))) := by
  refine e_of2 (q := zmX6_isToldWay) rfl rfl (fun R hR => ?_)
  obtain ⟨⟨hn0, hn2, hn8⟩, ⟨ho0, ho8, hin⟩, ⟨hb0, hb40⟩, ⟨hm0, hm4⟩, ⟨hdr, hdl, hdc⟩, hcn, hpl⟩ := id hG; have hp8 := z_p2 hn8; have ho256 : outs < 256 := (by omega); have hi256 : z_dif (2 ^ n - 1) outs < 256 := (by have := z_dif_le (s := 2 ^ n - 1) (t := outs); omega)
  refine e_steps 4 (σ' := (6, [(7, .int (nI 0)), (6, .int (nI 0)), (0, .ref 0), (1, .int (nI l)), (2, .int (nI fr)), (3, .int (nI m)), (4, .int (nI i)), (5, .int (nI j))], [], (MH g kept was isKept tape fed pos tlen flt ranking paper written pairs above below isDone dist rowv rowMany lsz itm weakAbove weakBelow))) rfl ?_
  have loop_6 : ∀ (z_6 : Nat) (td : Nat) (k : Nat) (wa : Int64) (wb : Int64), m - k < z_6 → (k ≤ m ∧ td < 2 ^ n ∧ (∀ y, y < k → ∃ w, w < n ∧ itm (40 * l + fr + y) = lN w) ∧ (2 ≤ k → z_WB wa wb)) → z_EV (d + 3) zmX6_isToldWay R (6, [(0, .ref 0), (1, .int (nI l)), (2, .int (nI fr)), (3, .int (nI m)), (4, .int (nI i)), (5, .int (nI j)), (6, .int (nI td)), (7, .int (nI k))], [], (MH g kept was isKept tape fed pos tlen flt ranking paper written pairs above below isDone dist rowv rowMany lsz itm wa wb)) := by
    intro z_6
    induction z_6 with
    | zero => intro td k wa wb hm_6 _; exact absurd hm_6 (Nat.not_lt_zero _)
    | succ z_6 ih_6 =>
      intro td k wa wb hm_6 hi_6
      obtain ⟨l1, l2, l3, l4⟩ := hi_6
      refine e_steps 2 (σ' := (9, [(0, .ref 0), (1, .int (nI l)), (2, .int (nI fr)), (3, .int (nI m)), (4, .int (nI i)), (5, .int (nI j)), (6, .int (nI td)), (7, .int (nI k))], [.int (nI m), .int (nI k)], (MH g kept was isKept tape fed pos tlen flt ranking paper written pairs above below isDone dist rowv rowMany lsz itm wa wb))) rfl ?_
      refine e_if (c := nI m ≤ nI k) rfl (fun c_9 => ?_) (fun c_9 => ?_)
      · skip
        rw [nI_leI (by omega) (by omega)] at c_9
        refine e_steps 4 (σ' := (127, [(0, .ref 0), (1, .int (nI l)), (2, .int (nI fr)), (3, .int (nI m)), (4, .int (nI i)), (5, .int (nI j)), (6, .int (nI td)), (7, .int (nI k))], [.int (nI l), .int (nI 40), .ref 14], (MH g kept was isKept tape fed pos tlen flt ranking paper written pairs above below isDone dist rowv rowMany lsz itm wa wb))) rfl ?_
        refine e_mul (40 * l) rfl (by first | rfl | omega | simp) ?_
        refine e_steps 1 (σ' := (129, [(0, .ref 0), (1, .int (nI l)), (2, .int (nI fr)), (3, .int (nI m)), (4, .int (nI i)), (5, .int (nI j)), (6, .int (nI td)), (7, .int (nI k))], [.int (nI fr), .int (nI (40 * l)), .ref 14], (MH g kept was isKept tape fed pos tlen flt ranking paper written pairs above below isDone dist rowv rowMany lsz itm wa wb))) rfl ?_
        refine e_add (40 * l + fr) rfl (by first | rfl | omega) ?_
        refine e_steps 0 (σ' := (130, [(0, .ref 0), (1, .int (nI l)), (2, .int (nI fr)), (3, .int (nI m)), (4, .int (nI i)), (5, .int (nI j)), (6, .int (nI td)), (7, .int (nI k))], [.int (nI (40 * l + fr)), .ref 14], (MH g kept was isKept tape fed pos tlen flt ranking paper written pairs above below isDone dist rowv rowMany lsz itm wa wb))) rfl ?_
        refine e_lal (itm (40 * l + fr)) rfl rfl (by first | assumption | omega | rfl | trivial) (by decide) (rfl) ?_
        refine e_steps 1 (σ' := (133, [(0, .ref 0), (1, .int (nI l)), (2, .int (nI fr)), (3, .int (nI m)), (4, .int (nI i)), (5, .int (nI j)), (6, .int (nI td)), (7, .int (nI k))], [.int (nI i), .long ((itm (40 * l + fr)))], (MH g kept was isKept tape fed pos tlen flt ranking paper written pairs above below isDone dist rowv rowMany lsz itm wa wb))) rfl ?_
        refine e_i2l rfl (by omega) ?_
        refine e_steps 1 (σ' := (135, [(0, .ref 0), (1, .int (nI l)), (2, .int (nI fr)), (3, .int (nI m)), (4, .int (nI i)), (5, .int (nI j)), (6, .int (nI td)), (7, .int (nI k))], [.int ((lg_cmp ((itm (40 * l + fr))) (lN i)))], (MH g kept was isKept tape fed pos tlen flt ranking paper written pairs above below isDone dist rowv rowMany lsz itm wa wb))) rfl ?_
        refine e_if (c := ¬ lg_cmp ((itm (40 * l + fr))) (lN i) = 0) rfl (fun c_134 => ?_) (fun c_134 => ?_)
        · rw [lg_cmp_eq] at c_134
          refine e_steps 1 (σ' := (165, [(0, .ref 0), (1, .int (nI l)), (2, .int (nI fr)), (3, .int (nI m)), (4, .int (nI i)), (5, .int (nI j)), (6, .int (nI td)), (7, .int (nI k))], [.int (nI 0)], (MH g kept was isKept tape fed pos tlen flt ranking paper written pairs above below isDone dist rowv rowMany lsz itm wa wb))) rfl ?_
          exact e_ret rfl (Or.inl rfl) (hR _ _ ⟨wa, wb, rfl, Or.inr ⟨rfl, (by first | assumption | omega | rfl | trivial)⟩⟩)
        · rw [lg_cmp_eq] at c_134
          replace c_134 := Decidable.not_not.mp c_134
          refine e_steps 4 (σ' := (145, [(0, .ref 0), (1, .int (nI l)), (2, .int (nI fr)), (3, .int (nI m)), (4, .int (nI i)), (5, .int (nI j)), (6, .int (nI td)), (7, .int (nI k))], [.int (nI l), .int (nI 40), .ref 14], (MH g kept was isKept tape fed pos tlen flt ranking paper written pairs above below isDone dist rowv rowMany lsz itm wa wb))) rfl ?_
          refine e_mul (40 * l) rfl (by first | rfl | omega | simp) ?_
          refine e_steps 1 (σ' := (147, [(0, .ref 0), (1, .int (nI l)), (2, .int (nI fr)), (3, .int (nI m)), (4, .int (nI i)), (5, .int (nI j)), (6, .int (nI td)), (7, .int (nI k))], [.int (nI fr), .int (nI (40 * l)), .ref 14], (MH g kept was isKept tape fed pos tlen flt ranking paper written pairs above below isDone dist rowv rowMany lsz itm wa wb))) rfl ?_
          refine e_add (40 * l + fr) rfl (by first | rfl | omega) ?_
          refine e_steps 1 (σ' := (149, [(0, .ref 0), (1, .int (nI l)), (2, .int (nI fr)), (3, .int (nI m)), (4, .int (nI i)), (5, .int (nI j)), (6, .int (nI td)), (7, .int (nI k))], [.int (nI m), .int (nI (40 * l + fr)), .ref 14], (MH g kept was isKept tape fed pos tlen flt ranking paper written pairs above below isDone dist rowv rowMany lsz itm wa wb))) rfl ?_
          refine e_add (40 * l + fr + m) rfl (by first | rfl | omega) ?_
          refine e_steps 1 (σ' := (151, [(0, .ref 0), (1, .int (nI l)), (2, .int (nI fr)), (3, .int (nI m)), (4, .int (nI i)), (5, .int (nI j)), (6, .int (nI td)), (7, .int (nI k))], [.int (nI 1), .int (nI (40 * l + fr + m)), .ref 14], (MH g kept was isKept tape fed pos tlen flt ranking paper written pairs above below isDone dist rowv rowMany lsz itm wa wb))) rfl ?_
          refine e_sbt ((40 * l + fr + m) - 1) rfl (by first | assumption | omega | rfl | trivial) (by first | rfl | omega) ?_
          refine e_steps 0 (σ' := (152, [(0, .ref 0), (1, .int (nI l)), (2, .int (nI fr)), (3, .int (nI m)), (4, .int (nI i)), (5, .int (nI j)), (6, .int (nI td)), (7, .int (nI k))], [.int (nI ((40 * l + fr + m) - 1)), .ref 14], (MH g kept was isKept tape fed pos tlen flt ranking paper written pairs above below isDone dist rowv rowMany lsz itm wa wb))) rfl ?_
          refine e_lal (itm ((40 * l + fr + m) - 1)) rfl rfl (by first | assumption | omega | rfl | trivial) (by decide) (rfl) ?_
          refine e_steps 1 (σ' := (155, [(0, .ref 0), (1, .int (nI l)), (2, .int (nI fr)), (3, .int (nI m)), (4, .int (nI i)), (5, .int (nI j)), (6, .int (nI td)), (7, .int (nI k))], [.int (nI j), .long ((itm ((40 * l + fr + m) - 1)))], (MH g kept was isKept tape fed pos tlen flt ranking paper written pairs above below isDone dist rowv rowMany lsz itm wa wb))) rfl ?_
          refine e_i2l rfl (by omega) ?_
          refine e_steps 1 (σ' := (157, [(0, .ref 0), (1, .int (nI l)), (2, .int (nI fr)), (3, .int (nI m)), (4, .int (nI i)), (5, .int (nI j)), (6, .int (nI td)), (7, .int (nI k))], [.int ((lg_cmp ((itm ((40 * l + fr + m) - 1))) (lN j)))], (MH g kept was isKept tape fed pos tlen flt ranking paper written pairs above below isDone dist rowv rowMany lsz itm wa wb))) rfl ?_
          refine e_if (c := ¬ lg_cmp ((itm ((40 * l + fr + m) - 1))) (lN j) = 0) rfl (fun c_156 => ?_) (fun c_156 => ?_)
          · rw [lg_cmp_eq] at c_156
            refine e_steps 1 (σ' := (165, [(0, .ref 0), (1, .int (nI l)), (2, .int (nI fr)), (3, .int (nI m)), (4, .int (nI i)), (5, .int (nI j)), (6, .int (nI td)), (7, .int (nI k))], [.int (nI 0)], (MH g kept was isKept tape fed pos tlen flt ranking paper written pairs above below isDone dist rowv rowMany lsz itm wa wb))) rfl ?_
            exact e_ret rfl (Or.inl rfl) (hR _ _ ⟨wa, wb, rfl, Or.inr ⟨rfl, (by first | assumption | omega | rfl | trivial)⟩⟩)
          · rw [lg_cmp_eq] at c_156
            replace c_156 := Decidable.not_not.mp c_156
            refine e_steps 2 (σ' := (165, [(0, .ref 0), (1, .int (nI l)), (2, .int (nI fr)), (3, .int (nI m)), (4, .int (nI i)), (5, .int (nI j)), (6, .int (nI td)), (7, .int (nI k))], [.int (nI 1)], (MH g kept was isKept tape fed pos tlen flt ranking paper written pairs above below isDone dist rowv rowMany lsz itm wa wb))) rfl ?_
            exact e_ret rfl (Or.inr rfl) (hR _ _ ⟨wa, wb, rfl, Or.inl ⟨rfl, (by exact l4 (by omega))⟩⟩)
      · skip
        rw [nI_leI (by omega) (by omega)] at c_9
        refine e_steps 4 (σ' := (19, [(0, .ref 0), (1, .int (nI l)), (2, .int (nI fr)), (3, .int (nI m)), (4, .int (nI i)), (5, .int (nI j)), (6, .int (nI td)), (7, .int (nI k))], [.int (nI l), .int (nI 40), .ref 14], (MH g kept was isKept tape fed pos tlen flt ranking paper written pairs above below isDone dist rowv rowMany lsz itm wa wb))) rfl ?_
        refine e_mul (40 * l) rfl (by first | rfl | omega | simp) ?_
        refine e_steps 1 (σ' := (21, [(0, .ref 0), (1, .int (nI l)), (2, .int (nI fr)), (3, .int (nI m)), (4, .int (nI i)), (5, .int (nI j)), (6, .int (nI td)), (7, .int (nI k))], [.int (nI fr), .int (nI (40 * l)), .ref 14], (MH g kept was isKept tape fed pos tlen flt ranking paper written pairs above below isDone dist rowv rowMany lsz itm wa wb))) rfl ?_
        refine e_add (40 * l + fr) rfl (by first | rfl | omega) ?_
        refine e_steps 1 (σ' := (24, [(0, .ref 0), (1, .int (nI l)), (2, .int (nI fr)), (3, .int (nI m)), (4, .int (nI i)), (5, .int (nI j)), (6, .int (nI td)), (7, .int (nI k))], [.int (nI k), .int (nI (40 * l + fr)), .ref 14], (MH g kept was isKept tape fed pos tlen flt ranking paper written pairs above below isDone dist rowv rowMany lsz itm wa wb))) rfl ?_
        refine e_add (40 * l + fr + k) rfl (by first | rfl | omega) ?_
        refine e_steps 0 (σ' := (25, [(0, .ref 0), (1, .int (nI l)), (2, .int (nI fr)), (3, .int (nI m)), (4, .int (nI i)), (5, .int (nI j)), (6, .int (nI td)), (7, .int (nI k))], [.int (nI (40 * l + fr + k)), .ref 14], (MH g kept was isKept tape fed pos tlen flt ranking paper written pairs above below isDone dist rowv rowMany lsz itm wa wb))) rfl ?_
        refine e_lal (itm (40 * l + fr + k)) rfl rfl (by first | assumption | omega | rfl | trivial) (by decide) (rfl) ?_
        obtain ⟨vv, evv⟩ : ∃ y, y = itm (40 * l + fr + k) := ⟨_, rfl⟩
        rw [← evv]
        refine e_steps 6 (σ' := (36, [(8, .long vv), (0, .ref 0), (1, .int (nI l)), (2, .int (nI fr)), (3, .int (nI m)), (4, .int (nI i)), (5, .int (nI j)), (6, .int (nI td)), (7, .int (nI k))], [.int (nI 0), .ref 1, .long (lN 0), .long vv], (MH g kept was isKept tape fed pos tlen flt ranking paper written pairs above below isDone dist rowv rowMany lsz itm wa wb))) rfl ?_
        refine e_ial (nI n) rfl rfl (by first | assumption | omega | rfl | trivial) (by decide) (hn0) ?_
        refine e_steps 1 (σ' := (38, [(8, .long vv), (0, .ref 0), (1, .int (nI l)), (2, .int (nI fr)), (3, .int (nI m)), (4, .int (nI i)), (5, .int (nI j)), (6, .int (nI td)), (7, .int (nI k))], [.int (nI 1), .int (nI n), .long (lN 0), .long vv], (MH g kept was isKept tape fed pos tlen flt ranking paper written pairs above below isDone dist rowv rowMany lsz itm wa wb))) rfl ?_
        refine e_sbt (n - 1) rfl (by first | assumption | omega | rfl | trivial) (by first | rfl | omega) ?_
        refine e_steps 0 (σ' := (39, [(8, .long vv), (0, .ref 0), (1, .int (nI l)), (2, .int (nI fr)), (3, .int (nI m)), (4, .int (nI i)), (5, .int (nI j)), (6, .int (nI td)), (7, .int (nI k))], [.int (nI (n - 1)), .long (lN 0), .long vv], (MH g kept was isKept tape fed pos tlen flt ranking paper written pairs above below isDone dist rowv rowMany lsz itm wa wb))) rfl ?_
        refine e_i2l rfl (by omega) ?_
        refine e_steps 0 (σ' := (40, [(8, .long vv), (0, .ref 0), (1, .int (nI l)), (2, .int (nI fr)), (3, .int (nI m)), (4, .int (nI i)), (5, .int (nI j)), (6, .int (nI td)), (7, .int (nI k))], [.long (lN (n - 1)), .long (lN 0), .long vv], (MH g kept was isKept tape fed pos tlen flt ranking paper written pairs above below isDone dist rowv rowMany lsz itm wa wb))) rfl ?_
        refine e_call (y := 129) (av := [.long vv, .long (lN 0), .long (lN (n - 1))]) (rest := []) rfl (c_X6_isIn (d + 2) ) (fun r_40 h_40 p_40 => ?_)
        obtain ⟨rfl, o_40⟩ := p_40
        rcases o_40 with ⟨rfl, o_40⟩ | ⟨rfl, o_40⟩
        · skip
          obtain ⟨kv, _, hkv, ekv⟩ := z_in_L (by decide) (by omega) o_40; subst ekv
          refine e_steps 3 (σ' := (50, [(8, .long (lN kv)), (0, .ref 0), (1, .int (nI l)), (2, .int (nI fr)), (3, .int (nI m)), (4, .int (nI i)), (5, .int (nI j)), (6, .int (nI td)), (7, .int (nI k))], [.long (lN kv), .int (nI td)], (MH g kept was isKept tape fed pos tlen flt ranking paper written pairs above below isDone dist rowv rowMany lsz itm wa wb))) rfl ?_
          refine e_l2i rfl ?_
          refine e_steps 0 (σ' := (51, [(8, .long (lN kv)), (0, .ref 0), (1, .int (nI l)), (2, .int (nI fr)), (3, .int (nI m)), (4, .int (nI i)), (5, .int (nI j)), (6, .int (nI td)), (7, .int (nI k))], [.int (nI kv), .int (nI td)], (MH g kept was isKept tape fed pos tlen flt ranking paper written pairs above below isDone dist rowv rowMany lsz itm wa wb))) rfl ?_
          refine e_call (y := 131) (av := [.int (nI td), .int (nI kv)]) (rest := []) rfl (c_X6_has (d + 2) (by first | assumption | omega | rfl | trivial) (by first | assumption | omega | rfl | trivial)) (fun r_51 h_51 p_51 => ?_)
          obtain ⟨rfl, o_51⟩ := p_51
          rcases o_51 with ⟨rfl, o_51⟩ | ⟨rfl, o_51⟩
          · skip
            refine e_steps 2 (σ' := (58, [(8, .long (lN kv)), (0, .ref 0), (1, .int (nI l)), (2, .int (nI fr)), (3, .int (nI m)), (4, .int (nI i)), (5, .int (nI j)), (6, .int (nI td)), (7, .int (nI k))], [.int (nI 0)], (MH g kept was isKept tape fed pos tlen flt ranking paper written pairs above below isDone dist rowv rowMany lsz itm wa wb))) rfl ?_
            exact e_ret rfl (Or.inl rfl) (hR _ _ ⟨wa, wb, rfl, Or.inr ⟨rfl, (by first | assumption | omega | rfl | trivial)⟩⟩)
          · skip
            refine e_steps 4 (σ' := (64, [(8, .long (lN kv)), (0, .ref 0), (1, .int (nI l)), (2, .int (nI fr)), (3, .int (nI m)), (4, .int (nI i)), (5, .int (nI j)), (6, .int (nI td)), (7, .int (nI k))], [.long (lN kv), .int (nI 1), .int (nI td)], (MH g kept was isKept tape fed pos tlen flt ranking paper written pairs above below isDone dist rowv rowMany lsz itm wa wb))) rfl ?_
            refine e_l2i rfl ?_
            refine e_steps 0 (σ' := (65, [(8, .long (lN kv)), (0, .ref 0), (1, .int (nI l)), (2, .int (nI fr)), (3, .int (nI m)), (4, .int (nI i)), (5, .int (nI j)), (6, .int (nI td)), (7, .int (nI k))], [.int (nI kv), .int (nI 1), .int (nI td)], (MH g kept was isKept tape fed pos tlen flt ranking paper written pairs above below isDone dist rowv rowMany lsz itm wa wb))) rfl ?_
            refine e_shl rfl (by first | assumption | omega | rfl | trivial) ?_
            refine e_steps 0 (σ' := (66, [(8, .long (lN kv)), (0, .ref 0), (1, .int (nI l)), (2, .int (nI fr)), (3, .int (nI m)), (4, .int (nI i)), (5, .int (nI j)), (6, .int (nI td)), (7, .int (nI k))], [.int (nI (2 ^ kv)), .int (nI td)], (MH g kept was isKept tape fed pos tlen flt ranking paper written pairs above below isDone dist rowv rowMany lsz itm wa wb))) rfl ?_
            refine e_or (td ||| (2 ^ kv)) rfl (by first | rfl | decide) ?_
            refine e_steps 2 (σ' := (71, [(6, .int (nI (td ||| (2 ^ kv)))), (8, .long (lN kv)), (0, .ref 0), (1, .int (nI l)), (2, .int (nI fr)), (3, .int (nI m)), (4, .int (nI i)), (5, .int (nI j)), (7, .int (nI k))], [.int (nI k)], (MH g kept was isKept tape fed pos tlen flt ranking paper written pairs above below isDone dist rowv rowMany lsz itm wa wb))) rfl ?_
            refine e_if (c := nI k ≤ 0) rfl (fun c_71 => ?_) (fun c_71 => ?_)
            · skip
              rw [z0_le (by omega)] at c_71
              refine e_steps 0 (σ' := (114, [(6, .int (nI (td ||| (2 ^ kv)))), (8, .long (lN kv)), (0, .ref 0), (1, .int (nI l)), (2, .int (nI fr)), (3, .int (nI m)), (4, .int (nI i)), (5, .int (nI j)), (7, .int (nI k))], [], (MH g kept was isKept tape fed pos tlen flt ranking paper written pairs above below isDone dist rowv rowMany lsz itm wa wb))) rfl ?_
              refine e_inc (n := 1) rfl rfl rfl (k + 1) (by rfl) [(7, .int (nI (k + 1))), (6, .int (nI (td ||| (2 ^ kv)))), (8, .long (lN kv)), (0, .ref 0), (1, .int (nI l)), (2, .int (nI fr)), (3, .int (nI m)), (4, .int (nI i)), (5, .int (nI j))] rfl ?_
              refine e_steps 1 (σ' := (6, [(7, .int (nI (k + 1))), (6, .int (nI (td ||| (2 ^ kv)))), (8, .long (lN kv)), (0, .ref 0), (1, .int (nI l)), (2, .int (nI fr)), (3, .int (nI m)), (4, .int (nI i)), (5, .int (nI j))], [], (MH g kept was isKept tape fed pos tlen flt ranking paper written pairs above below isDone dist rowv rowMany lsz itm wa wb))) rfl ?_
              refine e_sub [3, 4, 5, 6, 7, 8, 1, 0] rfl ?_
              exact ih_6 (td ||| (2 ^ kv)) (k + 1) wa wb (by omega) (by refine ⟨by omega, Nat.or_lt_two_pow l2 (Nat.pow_lt_pow_right (by decide) (by omega)), fun y hy => ?_, fun h => by first | exact o_106 | omega⟩; rcases (by omega : y < k ∨ y = k) with e | e; exact l3 y e; exact ⟨kv, by omega, by rw [e]; exact evv.symm⟩)
            · skip
              rw [z0_le (by omega)] at c_71
              refine e_steps 0 (σ' := (74, [(6, .int (nI (td ||| (2 ^ kv)))), (8, .long (lN kv)), (0, .ref 0), (1, .int (nI l)), (2, .int (nI fr)), (3, .int (nI m)), (4, .int (nI i)), (5, .int (nI j)), (7, .int (nI k))], [], (MH g kept was isKept tape fed pos tlen flt ranking paper written pairs above below isDone dist rowv rowMany lsz itm wa wb))) rfl ?_
              obtain ⟨pw, hpw, epw⟩ := l3 (k - 1) (by omega); rw [show 40 * l + fr + (k - 1) = 40 * l + fr + k - 1 by omega] at epw
              refine e_steps 5 (σ' := (82, [(6, .int (nI (td ||| (2 ^ kv)))), (8, .long (lN kv)), (0, .ref 0), (1, .int (nI l)), (2, .int (nI fr)), (3, .int (nI m)), (4, .int (nI i)), (5, .int (nI j)), (7, .int (nI k))], [.int (nI l), .int (nI 40), .ref 14, .ref 0], (MH g kept was isKept tape fed pos tlen flt ranking paper written pairs above below isDone dist rowv rowMany lsz itm wa wb))) rfl ?_
              refine e_mul (40 * l) rfl (by first | rfl | omega | simp) ?_
              refine e_steps 1 (σ' := (84, [(6, .int (nI (td ||| (2 ^ kv)))), (8, .long (lN kv)), (0, .ref 0), (1, .int (nI l)), (2, .int (nI fr)), (3, .int (nI m)), (4, .int (nI i)), (5, .int (nI j)), (7, .int (nI k))], [.int (nI fr), .int (nI (40 * l)), .ref 14, .ref 0], (MH g kept was isKept tape fed pos tlen flt ranking paper written pairs above below isDone dist rowv rowMany lsz itm wa wb))) rfl ?_
              refine e_add (40 * l + fr) rfl (by first | rfl | omega) ?_
              refine e_steps 1 (σ' := (87, [(6, .int (nI (td ||| (2 ^ kv)))), (8, .long (lN kv)), (0, .ref 0), (1, .int (nI l)), (2, .int (nI fr)), (3, .int (nI m)), (4, .int (nI i)), (5, .int (nI j)), (7, .int (nI k))], [.int (nI k), .int (nI (40 * l + fr)), .ref 14, .ref 0], (MH g kept was isKept tape fed pos tlen flt ranking paper written pairs above below isDone dist rowv rowMany lsz itm wa wb))) rfl ?_
              refine e_add (40 * l + fr + k) rfl (by first | rfl | omega) ?_
              refine e_steps 1 (σ' := (89, [(6, .int (nI (td ||| (2 ^ kv)))), (8, .long (lN kv)), (0, .ref 0), (1, .int (nI l)), (2, .int (nI fr)), (3, .int (nI m)), (4, .int (nI i)), (5, .int (nI j)), (7, .int (nI k))], [.int (nI 1), .int (nI (40 * l + fr + k)), .ref 14, .ref 0], (MH g kept was isKept tape fed pos tlen flt ranking paper written pairs above below isDone dist rowv rowMany lsz itm wa wb))) rfl ?_
              refine e_sbt ((40 * l + fr + k) - 1) rfl (by first | assumption | omega | rfl | trivial) (by first | rfl | omega) ?_
              refine e_steps 0 (σ' := (90, [(6, .int (nI (td ||| (2 ^ kv)))), (8, .long (lN kv)), (0, .ref 0), (1, .int (nI l)), (2, .int (nI fr)), (3, .int (nI m)), (4, .int (nI i)), (5, .int (nI j)), (7, .int (nI k))], [.int (nI ((40 * l + fr + k) - 1)), .ref 14, .ref 0], (MH g kept was isKept tape fed pos tlen flt ranking paper written pairs above below isDone dist rowv rowMany lsz itm wa wb))) rfl ?_
              refine e_lal (lN pw) rfl rfl (by first | assumption | omega | rfl | trivial) (by decide) (epw) ?_
              refine e_steps 0 (σ' := (91, [(6, .int (nI (td ||| (2 ^ kv)))), (8, .long (lN kv)), (0, .ref 0), (1, .int (nI l)), (2, .int (nI fr)), (3, .int (nI m)), (4, .int (nI i)), (5, .int (nI j)), (7, .int (nI k))], [.long (lN pw), .ref 0], (MH g kept was isKept tape fed pos tlen flt ranking paper written pairs above below isDone dist rowv rowMany lsz itm wa wb))) rfl ?_
              refine e_l2i rfl ?_
              refine e_steps 1 (σ' := (94, [(6, .int (nI (td ||| (2 ^ kv)))), (8, .long (lN kv)), (0, .ref 0), (1, .int (nI l)), (2, .int (nI fr)), (3, .int (nI m)), (4, .int (nI i)), (5, .int (nI j)), (7, .int (nI k))], [.long (lN kv), .int (nI pw), .ref 0], (MH g kept was isKept tape fed pos tlen flt ranking paper written pairs above below isDone dist rowv rowMany lsz itm wa wb))) rfl ?_
              refine e_l2i rfl ?_
              refine e_steps 2 (σ' := (98, [(6, .int (nI (td ||| (2 ^ kv)))), (8, .long (lN kv)), (0, .ref 0), (1, .int (nI l)), (2, .int (nI fr)), (3, .int (nI m)), (4, .int (nI i)), (5, .int (nI j)), (7, .int (nI k))], [.int (nI 1), .int (nI k), .int (nI kv), .int (nI pw), .ref 0], (MH g kept was isKept tape fed pos tlen flt ranking paper written pairs above below isDone dist rowv rowMany lsz itm wa wb))) rfl ?_
              refine e_if (c := ¬ nI k = nI 1) rfl (fun c_98 => ?_) (fun c_98 => ?_)
              · skip
                rw [nI_eq (by omega) (by omega)] at c_98
                skip
                refine e_steps 1 (σ' := (106, [(6, .int (nI (td ||| (2 ^ kv)))), (8, .long (lN kv)), (0, .ref 0), (1, .int (nI l)), (2, .int (nI fr)), (3, .int (nI m)), (4, .int (nI i)), (5, .int (nI j)), (7, .int (nI k))], [.int (nI 0), .int (nI kv), .int (nI pw), .ref 0], (MH g kept was isKept tape fed pos tlen flt ranking paper written pairs above below isDone dist rowv rowMany lsz itm wa wb))) rfl ?_
                refine e_call (y := 225) (av := [.ref 0, .int (nI pw), .int (nI kv), .int (nI 0)]) (rest := []) rfl (c_X6_isToldLink (d + 0) (n := n) (outs := outs) (bm := bm) (ms := ms) (dr := dr) (cn := cn) (pl := pl) (F := F) (by first | assumption | omega | rfl | trivial) (by first | assumption | omega | rfl | trivial) (by first | assumption | omega | rfl | trivial) (by first | assumption | omega | rfl | trivial) (by first | assumption | omega | rfl | trivial) (by first | exact fun h => absurd h (by decide) | exact fun _ => l4 (by omega))) (fun r_106 h_106 p_106 => ?_)
                obtain ⟨weakAbove_106, weakBelow_106, rfl, o_106⟩ := p_106
                rcases o_106 with ⟨rfl, o_106⟩ | ⟨rfl, o_106⟩
                · skip
                  refine e_steps 1 (σ' := (114, [(6, .int (nI (td ||| (2 ^ kv)))), (8, .long (lN kv)), (0, .ref 0), (1, .int (nI l)), (2, .int (nI fr)), (3, .int (nI m)), (4, .int (nI i)), (5, .int (nI j)), (7, .int (nI k))], [], (MH g kept was isKept tape fed pos tlen flt ranking paper written pairs above below isDone dist rowv rowMany lsz itm weakAbove_106 weakBelow_106))) rfl ?_
                  refine e_inc (n := 1) rfl rfl rfl (k + 1) (by rfl) [(7, .int (nI (k + 1))), (6, .int (nI (td ||| (2 ^ kv)))), (8, .long (lN kv)), (0, .ref 0), (1, .int (nI l)), (2, .int (nI fr)), (3, .int (nI m)), (4, .int (nI i)), (5, .int (nI j))] rfl ?_
                  refine e_steps 1 (σ' := (6, [(7, .int (nI (k + 1))), (6, .int (nI (td ||| (2 ^ kv)))), (8, .long (lN kv)), (0, .ref 0), (1, .int (nI l)), (2, .int (nI fr)), (3, .int (nI m)), (4, .int (nI i)), (5, .int (nI j))], [], (MH g kept was isKept tape fed pos tlen flt ranking paper written pairs above below isDone dist rowv rowMany lsz itm weakAbove_106 weakBelow_106))) rfl ?_
                  refine e_sub [3, 4, 5, 6, 7, 8, 1, 0] rfl ?_
                  exact ih_6 (td ||| (2 ^ kv)) (k + 1) weakAbove_106 weakBelow_106 (by omega) (by refine ⟨by omega, Nat.or_lt_two_pow l2 (Nat.pow_lt_pow_right (by decide) (by omega)), fun y hy => ?_, fun h => by first | exact o_106 | omega⟩; rcases (by omega : y < k ∨ y = k) with e | e; exact l3 y e; exact ⟨kv, by omega, by rw [e]; exact evv.symm⟩)
                · skip
                  refine e_steps 2 (σ' := (113, [(6, .int (nI (td ||| (2 ^ kv)))), (8, .long (lN kv)), (0, .ref 0), (1, .int (nI l)), (2, .int (nI fr)), (3, .int (nI m)), (4, .int (nI i)), (5, .int (nI j)), (7, .int (nI k))], [.int (nI 0)], (MH g kept was isKept tape fed pos tlen flt ranking paper written pairs above below isDone dist rowv rowMany lsz itm weakAbove_106 weakBelow_106))) rfl ?_
                  exact e_ret rfl (Or.inl rfl) (hR _ _ ⟨weakAbove_106, weakBelow_106, rfl, Or.inr ⟨rfl, (by first | assumption | omega | rfl | trivial)⟩⟩)
              · skip
                rw [nI_eq (by omega) (by omega)] at c_98
                replace c_98 := Decidable.not_not.mp c_98
                refine e_steps 2 (σ' := (106, [(6, .int (nI (td ||| (2 ^ kv)))), (8, .long (lN kv)), (0, .ref 0), (1, .int (nI l)), (2, .int (nI fr)), (3, .int (nI m)), (4, .int (nI i)), (5, .int (nI j)), (7, .int (nI k))], [.int (nI 1), .int (nI kv), .int (nI pw), .ref 0], (MH g kept was isKept tape fed pos tlen flt ranking paper written pairs above below isDone dist rowv rowMany lsz itm wa wb))) rfl ?_
                refine e_call (y := 225) (av := [.ref 0, .int (nI pw), .int (nI kv), .int (nI 1)]) (rest := []) rfl (c_X6_isToldLink (d + 0) (n := n) (outs := outs) (bm := bm) (ms := ms) (dr := dr) (cn := cn) (pl := pl) (F := F) (by first | assumption | omega | rfl | trivial) (by first | assumption | omega | rfl | trivial) (by first | assumption | omega | rfl | trivial) (by first | assumption | omega | rfl | trivial) (by first | assumption | omega | rfl | trivial) (by first | exact fun h => absurd h (by decide) | exact fun _ => l4 (by omega))) (fun r_106 h_106 p_106 => ?_)
                obtain ⟨weakAbove_106, weakBelow_106, rfl, o_106⟩ := p_106
                rcases o_106 with ⟨rfl, o_106⟩ | ⟨rfl, o_106⟩
                · skip
                  refine e_steps 1 (σ' := (114, [(6, .int (nI (td ||| (2 ^ kv)))), (8, .long (lN kv)), (0, .ref 0), (1, .int (nI l)), (2, .int (nI fr)), (3, .int (nI m)), (4, .int (nI i)), (5, .int (nI j)), (7, .int (nI k))], [], (MH g kept was isKept tape fed pos tlen flt ranking paper written pairs above below isDone dist rowv rowMany lsz itm weakAbove_106 weakBelow_106))) rfl ?_
                  refine e_inc (n := 1) rfl rfl rfl (k + 1) (by rfl) [(7, .int (nI (k + 1))), (6, .int (nI (td ||| (2 ^ kv)))), (8, .long (lN kv)), (0, .ref 0), (1, .int (nI l)), (2, .int (nI fr)), (3, .int (nI m)), (4, .int (nI i)), (5, .int (nI j))] rfl ?_
                  refine e_steps 1 (σ' := (6, [(7, .int (nI (k + 1))), (6, .int (nI (td ||| (2 ^ kv)))), (8, .long (lN kv)), (0, .ref 0), (1, .int (nI l)), (2, .int (nI fr)), (3, .int (nI m)), (4, .int (nI i)), (5, .int (nI j))], [], (MH g kept was isKept tape fed pos tlen flt ranking paper written pairs above below isDone dist rowv rowMany lsz itm weakAbove_106 weakBelow_106))) rfl ?_
                  refine e_sub [3, 4, 5, 6, 7, 8, 1, 0] rfl ?_
                  exact ih_6 (td ||| (2 ^ kv)) (k + 1) weakAbove_106 weakBelow_106 (by omega) (by refine ⟨by omega, Nat.or_lt_two_pow l2 (Nat.pow_lt_pow_right (by decide) (by omega)), fun y hy => ?_, fun h => by first | exact o_106 | omega⟩; rcases (by omega : y < k ∨ y = k) with e | e; exact l3 y e; exact ⟨kv, by omega, by rw [e]; exact evv.symm⟩)
                · skip
                  refine e_steps 2 (σ' := (113, [(6, .int (nI (td ||| (2 ^ kv)))), (8, .long (lN kv)), (0, .ref 0), (1, .int (nI l)), (2, .int (nI fr)), (3, .int (nI m)), (4, .int (nI i)), (5, .int (nI j)), (7, .int (nI k))], [.int (nI 0)], (MH g kept was isKept tape fed pos tlen flt ranking paper written pairs above below isDone dist rowv rowMany lsz itm weakAbove_106 weakBelow_106))) rfl ?_
                  exact e_ret rfl (Or.inl rfl) (hR _ _ ⟨weakAbove_106, weakBelow_106, rfl, Or.inr ⟨rfl, (by first | assumption | omega | rfl | trivial)⟩⟩)
        · skip
          refine e_steps 2 (σ' := (58, [(8, .long vv), (0, .ref 0), (1, .int (nI l)), (2, .int (nI fr)), (3, .int (nI m)), (4, .int (nI i)), (5, .int (nI j)), (6, .int (nI td)), (7, .int (nI k))], [.int (nI 0)], (MH g kept was isKept tape fed pos tlen flt ranking paper written pairs above below isDone dist rowv rowMany lsz itm wa wb))) rfl ?_
          exact e_ret rfl (Or.inl rfl) (hR _ _ ⟨wa, wb, rfl, Or.inr ⟨rfl, (by first | assumption | omega | rfl | trivial)⟩⟩)
  refine e_sub [2, 3, 4, 5, 6, 7, 1, 0] rfl ?_
  exact loop_6 _ 0 0 weakAbove weakBelow (Nat.lt_succ_self _) (by exact ⟨by omega, by omega, fun y hy => absurd hy (Nat.not_lt_zero y), fun h => absurd h (by omega)⟩)
set_option maxRecDepth 20000 in
theorem c_X6_isBarrier (d : Nat) {g : Nat → Int32} {kept : Nat → Int32} {was : Nat → Int32} {isKept : Int32} {tape : Nat → Int32} {fed : Int32} {pos : Int32} {tlen : Int32} {flt : Int32} {ranking : Nat → Int32} {paper : Nat → Int32} {written : Int32} {pairs : Nat → Int64} {above : Nat → Int64} {below : Nat → Int64} {isDone : Nat → Int32} {dist : Nat → Int32} {rowv : Nat → Int32} {rowMany : Int32} {lsz : Nat → Int32} {itm : Nat → Int64} {wx : Nat} {wy : Nat} {st : Int64} {i : Nat} {j : Nat} {n : Nat} {outs : Nat} {bm : Nat} {ms : Nat} {dr : Nat → Nat} {cn : Nat → Nat} {pl : Nat → Nat → Nat} {F : Nat → Nat → Nat} (hG : z_GI g n outs bm ms dr cn pl) (hP : z_PR pairs n F) (hi : i < n) (hj : j < n) (hwyx : wy < wx) (hwx : wx ≤ 41000000) : z_CAL (d + 3) 226 [.ref 0, .long st, .int (nI i), .int (nI j)] (MH g kept was isKept tape fed pos tlen flt ranking paper written pairs above below isDone dist rowv rowMany lsz itm (lN wx) (lN wy)) (fun r h2 => h2 = (MH g kept was isKept tape fed pos tlen flt ranking paper written pairs above below isDone dist rowv rowMany lsz itm (lN wx) (lN wy)) ∧ ((r = some (.int (nI 1)) ∧ (True)) ∨ (r = some (.int (nI 0)) ∧ (True)))) := by
  refine e_of2 (q := zmX6_isBarrier) rfl rfl (fun R hR => ?_)
  obtain ⟨⟨hn0, hn2, hn8⟩, ⟨ho0, ho8, hin⟩, ⟨hb0, hb40⟩, ⟨hm0, hm4⟩, ⟨hdr, hdl, hdc⟩, hcn, hpl⟩ := id hG; have hp8 := z_p2 hn8; have ho256 : outs < 256 := (by omega); have hi256 : z_dif (2 ^ n - 1) outs < 256 := (by have := z_dif_le (s := 2 ^ n - 1) (t := outs); omega)
  refine e_steps 3 (σ' := (3, [(0, .ref 0), (1, .long st), (3, .int (nI i)), (4, .int (nI j))], [.ref 0, .long (lN 0), .long st], (MH g kept was isKept tape fed pos tlen flt ranking paper written pairs above below isDone dist rowv rowMany lsz itm (lN wx) (lN wy)))) rfl ?_
  refine e_call (y := 133) (av := [.ref 0]) (rest := [.long (lN 0), .long st]) rfl (c_X6_everyone (d + 1) (n := n) (outs := outs) (bm := bm) (ms := ms) (dr := dr) (cn := cn) (pl := pl) (by first | assumption | omega | rfl | trivial)) (fun r_3 h_3 p_3 => ?_)
  obtain ⟨rfl, rfl⟩ := p_3
  refine e_steps 0 (σ' := (6, [(0, .ref 0), (1, .long st), (3, .int (nI i)), (4, .int (nI j))], [.int (nI (2 ^ n - 1)), .long (lN 0), .long st], (MH g kept was isKept tape fed pos tlen flt ranking paper written pairs above below isDone dist rowv rowMany lsz itm (lN wx) (lN wy)))) rfl ?_
  refine e_i2l rfl (by omega) ?_
  refine e_steps 0 (σ' := (7, [(0, .ref 0), (1, .long st), (3, .int (nI i)), (4, .int (nI j))], [.long (lN (2 ^ n - 1)), .long (lN 0), .long st], (MH g kept was isKept tape fed pos tlen flt ranking paper written pairs above below isDone dist rowv rowMany lsz itm (lN wx) (lN wy)))) rfl ?_
  refine e_call (y := 129) (av := [.long st, .long (lN 0), .long (lN (2 ^ n - 1))]) (rest := []) rfl (c_X6_isIn (d + 1) ) (fun r_7 h_7 p_7 => ?_)
  obtain ⟨rfl, o_7⟩ := p_7
  rcases o_7 with ⟨rfl, o_7⟩ | ⟨rfl, o_7⟩
  · skip
    obtain ⟨ks, _, hks, eks⟩ := z_in_L (by decide) (by omega) o_7; subst eks
    refine e_steps 2 (σ' := (14, [(0, .ref 0), (1, .long (lN ks)), (3, .int (nI i)), (4, .int (nI j))], [.long (lN ks)], (MH g kept was isKept tape fed pos tlen flt ranking paper written pairs above below isDone dist rowv rowMany lsz itm (lN wx) (lN wy)))) rfl ?_
    refine e_l2i rfl ?_
    refine e_steps 1 (σ' := (17, [(0, .ref 0), (1, .long (lN ks)), (3, .int (nI i)), (4, .int (nI j))], [.int (nI j), .int (nI ks)], (MH g kept was isKept tape fed pos tlen flt ranking paper written pairs above below isDone dist rowv rowMany lsz itm (lN wx) (lN wy)))) rfl ?_
    refine e_call (y := 131) (av := [.int (nI ks), .int (nI j)]) (rest := []) rfl (c_X6_has (d + 1) (by first | assumption | omega | rfl | trivial) (by first | assumption | omega | rfl | trivial)) (fun r_17 h_17 p_17 => ?_)
    obtain ⟨rfl, o_17⟩ := p_17
    rcases o_17 with ⟨rfl, o_17⟩ | ⟨rfl, o_17⟩
    · skip
      refine e_steps 2 (σ' := (24, [(0, .ref 0), (1, .long (lN ks)), (3, .int (nI i)), (4, .int (nI j))], [.long (lN ks)], (MH g kept was isKept tape fed pos tlen flt ranking paper written pairs above below isDone dist rowv rowMany lsz itm (lN wx) (lN wy)))) rfl ?_
      refine e_l2i rfl ?_
      refine e_steps 1 (σ' := (26, [(0, .ref 0), (1, .long (lN ks)), (3, .int (nI i)), (4, .int (nI j))], [.int (nI i), .int (nI ks)], (MH g kept was isKept tape fed pos tlen flt ranking paper written pairs above below isDone dist rowv rowMany lsz itm (lN wx) (lN wy)))) rfl ?_
      refine e_call (y := 131) (av := [.int (nI ks), .int (nI i)]) (rest := []) rfl (c_X6_has (d + 1) (by first | assumption | omega | rfl | trivial) (by first | assumption | omega | rfl | trivial)) (fun r_26 h_26 p_26 => ?_)
      obtain ⟨rfl, o_26⟩ := p_26
      rcases o_26 with ⟨rfl, o_26⟩ | ⟨rfl, o_26⟩
      · skip
        refine e_steps 2 (σ' := (33, [(0, .ref 0), (1, .long (lN ks)), (3, .int (nI i)), (4, .int (nI j))], [.int (nI 0)], (MH g kept was isKept tape fed pos tlen flt ranking paper written pairs above below isDone dist rowv rowMany lsz itm (lN wx) (lN wy)))) rfl ?_
        exact e_ret rfl (Or.inl rfl) (hR _ _ ⟨rfl, Or.inr ⟨rfl, (by first | assumption | omega | rfl | trivial)⟩⟩)
      · skip
        refine e_steps 3 (σ' := (37, [(5, .int (nI 0)), (0, .ref 0), (1, .long (lN ks)), (3, .int (nI i)), (4, .int (nI j))], [], (MH g kept was isKept tape fed pos tlen flt ranking paper written pairs above below isDone dist rowv rowMany lsz itm (lN wx) (lN wy)))) rfl ?_
        have loop_37 : ∀ (z_37 : Nat) (a : Nat), n - a < z_37 → (a ≤ n) → z_EV (d + 2) zmX6_isBarrier R (37, [(0, .ref 0), (1, .long (lN ks)), (3, .int (nI i)), (4, .int (nI j)), (5, .int (nI a))], [], (MH g kept was isKept tape fed pos tlen flt ranking paper written pairs above below isDone dist rowv rowMany lsz itm (lN wx) (lN wy))) := by
          intro z_37
          induction z_37 with
          | zero => intro a hm_37 _; exact absurd hm_37 (Nat.not_lt_zero _)
          | succ z_37 ih_37 =>
            intro a hm_37 hi_37
            refine e_steps 4 (σ' := (44, [(0, .ref 0), (1, .long (lN ks)), (3, .int (nI i)), (4, .int (nI j)), (5, .int (nI a))], [.int (nI 0), .ref 1, .int (nI a)], (MH g kept was isKept tape fed pos tlen flt ranking paper written pairs above below isDone dist rowv rowMany lsz itm (lN wx) (lN wy)))) rfl ?_
            refine e_ial (nI n) rfl rfl (by first | assumption | omega | rfl | trivial) (by decide) (hn0) ?_
            refine e_steps 0 (σ' := (45, [(0, .ref 0), (1, .long (lN ks)), (3, .int (nI i)), (4, .int (nI j)), (5, .int (nI a))], [.int (nI n), .int (nI a)], (MH g kept was isKept tape fed pos tlen flt ranking paper written pairs above below isDone dist rowv rowMany lsz itm (lN wx) (lN wy)))) rfl ?_
            refine e_if (c := nI n ≤ nI a) rfl (fun c_45 => ?_) (fun c_45 => ?_)
            · skip
              rw [nI_leI (by omega) (by omega)] at c_45
              refine e_steps 1 (σ' := (160, [(0, .ref 0), (1, .long (lN ks)), (3, .int (nI i)), (4, .int (nI j)), (5, .int (nI a))], [.int (nI 1)], (MH g kept was isKept tape fed pos tlen flt ranking paper written pairs above below isDone dist rowv rowMany lsz itm (lN wx) (lN wy)))) rfl ?_
              exact e_ret rfl (Or.inr rfl) (hR _ _ ⟨rfl, Or.inl ⟨rfl, (by first | assumption | omega | rfl | trivial)⟩⟩)
            · skip
              rw [nI_leI (by omega) (by omega)] at c_45
              refine e_steps 2 (σ' := (51, [(6, .int (nI 0)), (0, .ref 0), (1, .long (lN ks)), (3, .int (nI i)), (4, .int (nI j)), (5, .int (nI a))], [], (MH g kept was isKept tape fed pos tlen flt ranking paper written pairs above below isDone dist rowv rowMany lsz itm (lN wx) (lN wy)))) rfl ?_
              have loop_51 : ∀ (z_51 : Nat) (b : Nat), n - b < z_51 → (b ≤ n) → z_EV (d + 2) zmX6_isBarrier R (51, [(0, .ref 0), (1, .long (lN ks)), (3, .int (nI i)), (4, .int (nI j)), (5, .int (nI a)), (6, .int (nI b))], [], (MH g kept was isKept tape fed pos tlen flt ranking paper written pairs above below isDone dist rowv rowMany lsz itm (lN wx) (lN wy))) := by
                intro z_51
                induction z_51 with
                | zero => intro b hm_51 _; exact absurd hm_51 (Nat.not_lt_zero _)
                | succ z_51 ih_51 =>
                  intro b hm_51 hi_51
                  refine e_steps 4 (σ' := (58, [(0, .ref 0), (1, .long (lN ks)), (3, .int (nI i)), (4, .int (nI j)), (5, .int (nI a)), (6, .int (nI b))], [.int (nI 0), .ref 1, .int (nI b)], (MH g kept was isKept tape fed pos tlen flt ranking paper written pairs above below isDone dist rowv rowMany lsz itm (lN wx) (lN wy)))) rfl ?_
                  refine e_ial (nI n) rfl rfl (by first | assumption | omega | rfl | trivial) (by decide) (hn0) ?_
                  refine e_steps 0 (σ' := (59, [(0, .ref 0), (1, .long (lN ks)), (3, .int (nI i)), (4, .int (nI j)), (5, .int (nI a)), (6, .int (nI b))], [.int (nI n), .int (nI b)], (MH g kept was isKept tape fed pos tlen flt ranking paper written pairs above below isDone dist rowv rowMany lsz itm (lN wx) (lN wy)))) rfl ?_
                  refine e_if (c := nI n ≤ nI b) rfl (fun c_59 => ?_) (fun c_59 => ?_)
                  · skip
                    rw [nI_leI (by omega) (by omega)] at c_59
                    refine e_steps 0 (σ' := (153, [(0, .ref 0), (1, .long (lN ks)), (3, .int (nI i)), (4, .int (nI j)), (5, .int (nI a)), (6, .int (nI b))], [], (MH g kept was isKept tape fed pos tlen flt ranking paper written pairs above below isDone dist rowv rowMany lsz itm (lN wx) (lN wy)))) rfl ?_
                    refine e_inc (n := 1) rfl rfl rfl (a + 1) (by rfl) [(5, .int (nI (a + 1))), (0, .ref 0), (1, .long (lN ks)), (3, .int (nI i)), (4, .int (nI j)), (6, .int (nI b))] rfl ?_
                    refine e_steps 1 (σ' := (37, [(5, .int (nI (a + 1))), (0, .ref 0), (1, .long (lN ks)), (3, .int (nI i)), (4, .int (nI j)), (6, .int (nI b))], [], (MH g kept was isKept tape fed pos tlen flt ranking paper written pairs above below isDone dist rowv rowMany lsz itm (lN wx) (lN wy)))) rfl ?_
                    refine e_sub [1, 2, 3, 4, 0] rfl ?_
                    exact ih_37 (a + 1) (by omega) (by first | assumption | omega | rfl | trivial)
                  · skip
                    rw [nI_leI (by omega) (by omega)] at c_59
                    refine e_steps 1 (σ' := (63, [(0, .ref 0), (1, .long (lN ks)), (3, .int (nI i)), (4, .int (nI j)), (5, .int (nI a)), (6, .int (nI b))], [.long (lN ks)], (MH g kept was isKept tape fed pos tlen flt ranking paper written pairs above below isDone dist rowv rowMany lsz itm (lN wx) (lN wy)))) rfl ?_
                    refine e_l2i rfl ?_
                    refine e_steps 1 (σ' := (66, [(0, .ref 0), (1, .long (lN ks)), (3, .int (nI i)), (4, .int (nI j)), (5, .int (nI a)), (6, .int (nI b))], [.int (nI a), .int (nI ks)], (MH g kept was isKept tape fed pos tlen flt ranking paper written pairs above below isDone dist rowv rowMany lsz itm (lN wx) (lN wy)))) rfl ?_
                    refine e_call (y := 131) (av := [.int (nI ks), .int (nI a)]) (rest := []) rfl (c_X6_has (d + 1) (by first | assumption | omega | rfl | trivial) (by first | assumption | omega | rfl | trivial)) (fun r_66 h_66 p_66 => ?_)
                    obtain ⟨rfl, o_66⟩ := p_66
                    rcases o_66 with ⟨rfl, o_66⟩ | ⟨rfl, o_66⟩
                    · skip
                      refine e_steps 2 (σ' := (73, [(0, .ref 0), (1, .long (lN ks)), (3, .int (nI i)), (4, .int (nI j)), (5, .int (nI a)), (6, .int (nI b))], [.long (lN ks)], (MH g kept was isKept tape fed pos tlen flt ranking paper written pairs above below isDone dist rowv rowMany lsz itm (lN wx) (lN wy)))) rfl ?_
                      refine e_l2i rfl ?_
                      refine e_steps 1 (σ' := (76, [(0, .ref 0), (1, .long (lN ks)), (3, .int (nI i)), (4, .int (nI j)), (5, .int (nI a)), (6, .int (nI b))], [.int (nI b), .int (nI ks)], (MH g kept was isKept tape fed pos tlen flt ranking paper written pairs above below isDone dist rowv rowMany lsz itm (lN wx) (lN wy)))) rfl ?_
                      refine e_call (y := 131) (av := [.int (nI ks), .int (nI b)]) (rest := []) rfl (c_X6_has (d + 1) (by first | assumption | omega | rfl | trivial) (by first | assumption | omega | rfl | trivial)) (fun r_76 h_76 p_76 => ?_)
                      obtain ⟨rfl, o_76⟩ := p_76
                      rcases o_76 with ⟨rfl, o_76⟩ | ⟨rfl, o_76⟩
                      · skip
                        refine e_steps 5 (σ' := (147, [(7, .int (nI 0)), (0, .ref 0), (1, .long (lN ks)), (3, .int (nI i)), (4, .int (nI j)), (5, .int (nI a)), (6, .int (nI b))], [], (MH g kept was isKept tape fed pos tlen flt ranking paper written pairs above below isDone dist rowv rowMany lsz itm (lN wx) (lN wy)))) rfl ?_
                        refine e_inc (n := 1) rfl rfl rfl (b + 1) (by rfl) [(6, .int (nI (b + 1))), (7, .int (nI 0)), (0, .ref 0), (1, .long (lN ks)), (3, .int (nI i)), (4, .int (nI j)), (5, .int (nI a))] rfl ?_
                        refine e_steps 1 (σ' := (51, [(6, .int (nI (b + 1))), (7, .int (nI 0)), (0, .ref 0), (1, .long (lN ks)), (3, .int (nI i)), (4, .int (nI j)), (5, .int (nI a))], [], (MH g kept was isKept tape fed pos tlen flt ranking paper written pairs above below isDone dist rowv rowMany lsz itm (lN wx) (lN wy)))) rfl ?_
                        refine e_sub [2, 3, 4, 5, 6, 0] rfl ?_
                        exact ih_51 (b + 1) (by omega) (by first | assumption | omega | rfl | trivial)
                      · skip
                        refine e_steps 3 (σ' := (84, [(0, .ref 0), (1, .long (lN ks)), (3, .int (nI i)), (4, .int (nI j)), (5, .int (nI a)), (6, .int (nI b))], [.ref 0, .ref 0], (MH g kept was isKept tape fed pos tlen flt ranking paper written pairs above below isDone dist rowv rowMany lsz itm (lN wx) (lN wy)))) rfl ?_
                        refine e_call (y := 134) (av := [.ref 0]) (rest := [.ref 0]) rfl (c_X6_ins (d + 0) (n := n) (outs := outs) (bm := bm) (ms := ms) (dr := dr) (cn := cn) (pl := pl) (by first | assumption | omega | rfl | trivial)) (fun r_84 h_84 p_84 => ?_)
                        obtain ⟨rfl, rfl⟩ := p_84
                        refine e_steps 2 (σ' := (91, [(0, .ref 0), (1, .long (lN ks)), (3, .int (nI i)), (4, .int (nI j)), (5, .int (nI a)), (6, .int (nI b))], [.int (nI b), .int (nI a), .int (nI (z_dif (2 ^ n - 1) outs)), .ref 0], (MH g kept was isKept tape fed pos tlen flt ranking paper written pairs above below isDone dist rowv rowMany lsz itm (lN wx) (lN wy)))) rfl ?_
                        refine e_call (y := 176) (av := [.ref 0, .int (nI (z_dif (2 ^ n - 1) outs)), .int (nI a), .int (nI b)]) (rest := []) rfl (c_X6_isLink (d + 0) (n := n) (outs := outs) (bm := bm) (ms := ms) (dr := dr) (cn := cn) (pl := pl) (F := F) (by first | assumption | omega | rfl | trivial) (by first | assumption | omega | rfl | trivial) (by first | assumption | omega | rfl | trivial) (by first | assumption | omega | rfl | trivial) (by first | assumption | omega | rfl | trivial)) (fun r_91 h_91 p_91 => ?_)
                        obtain ⟨rfl, o_91⟩ := p_91
                        rcases o_91 with ⟨rfl, o_91⟩ | ⟨rfl, o_91⟩
                        · skip
                          have hb1 := (hP a (by omega) b (by omega)).2; have hlt := o_91.2.2.2
                          refine e_steps 9 (σ' := (114, [(7, .int (nI 1)), (0, .ref 0), (1, .long (lN ks)), (3, .int (nI i)), (4, .int (nI j)), (5, .int (nI a)), (6, .int (nI b))], [.int (nI 3), .ref 1], (MH g kept was isKept tape fed pos tlen flt ranking paper written pairs above below isDone dist rowv rowMany lsz itm (lN wx) (lN wy)))) rfl ?_
                          refine e_ial (nI ms) rfl rfl (by first | assumption | omega | rfl | trivial) (by decide) (hm0) ?_
                          refine e_steps 7 (σ' := (128, [(7, .int (nI 1)), (0, .ref 0), (1, .long (lN ks)), (3, .int (nI i)), (4, .int (nI j)), (5, .int (nI a)), (6, .int (nI b))], [.int (nI b), .int (nI a), .ref 0, .long (lN wy), .long (lN wx), .int (nI ms)], (MH g kept was isKept tape fed pos tlen flt ranking paper written pairs above below isDone dist rowv rowMany lsz itm (lN wx) (lN wy)))) rfl ?_
                          refine e_call (y := 174) (av := [.ref 0, .int (nI a), .int (nI b)]) (rest := [.long (lN wy), .long (lN wx), .int (nI ms)]) rfl (c_X6_over (d + 1) (n := n) (outs := outs) (bm := bm) (ms := ms) (dr := dr) (cn := cn) (pl := pl) (F := F) (by first | assumption | omega | rfl | trivial) (by first | assumption | omega | rfl | trivial) (by first | assumption | omega | rfl | trivial) (by first | assumption | omega | rfl | trivial)) (fun r_128 h_128 p_128 => ?_)
                          obtain ⟨rfl, rfl⟩ := p_128
                          refine e_steps 3 (σ' := (136, [(7, .int (nI 1)), (0, .ref 0), (1, .long (lN ks)), (3, .int (nI i)), (4, .int (nI j)), (5, .int (nI a)), (6, .int (nI b))], [.int (nI a), .int (nI b), .ref 0, .long (lN (F a b)), .long (lN wy), .long (lN wx), .int (nI ms)], (MH g kept was isKept tape fed pos tlen flt ranking paper written pairs above below isDone dist rowv rowMany lsz itm (lN wx) (lN wy)))) rfl ?_
                          refine e_call (y := 174) (av := [.ref 0, .int (nI b), .int (nI a)]) (rest := [.long (lN (F a b)), .long (lN wy), .long (lN wx), .int (nI ms)]) rfl (c_X6_over (d + 1) (n := n) (outs := outs) (bm := bm) (ms := ms) (dr := dr) (cn := cn) (pl := pl) (F := F) (by first | assumption | omega | rfl | trivial) (by first | assumption | omega | rfl | trivial) (by first | assumption | omega | rfl | trivial) (by first | assumption | omega | rfl | trivial)) (fun r_136 h_136 p_136 => ?_)
                          obtain ⟨rfl, rfl⟩ := p_136
                          refine e_steps 0 (σ' := (139, [(7, .int (nI 1)), (0, .ref 0), (1, .long (lN ks)), (3, .int (nI i)), (4, .int (nI j)), (5, .int (nI a)), (6, .int (nI b))], [.long (lN (F b a)), .long (lN (F a b)), .long (lN wy), .long (lN wx), .int (nI ms)], (MH g kept was isKept tape fed pos tlen flt ranking paper written pairs above below isDone dist rowv rowMany lsz itm (lN wx) (lN wy)))) rfl ?_
                          refine e_call (y := 178) (av := [.int (nI ms), .long (lN wx), .long (lN wy), .long (lN (F a b)), .long (lN (F b a))]) (rest := []) rfl (c_X6_isStronger (d + 1) (by first | assumption | omega | rfl | trivial) (by first | assumption | omega | rfl | trivial) (by first | assumption | omega | rfl | trivial) (by first | assumption | omega | rfl | trivial) (by first | assumption | omega | rfl | trivial)) (fun r_139 h_139 p_139 => ?_)
                          obtain ⟨rfl, o_139⟩ := p_139
                          rcases o_139 with ⟨rfl, o_139⟩ | ⟨rfl, o_139⟩
                          · skip
                            refine e_steps 1 (σ' := (147, [(7, .int (nI 1)), (0, .ref 0), (1, .long (lN ks)), (3, .int (nI i)), (4, .int (nI j)), (5, .int (nI a)), (6, .int (nI b))], [], (MH g kept was isKept tape fed pos tlen flt ranking paper written pairs above below isDone dist rowv rowMany lsz itm (lN wx) (lN wy)))) rfl ?_
                            refine e_inc (n := 1) rfl rfl rfl (b + 1) (by rfl) [(6, .int (nI (b + 1))), (7, .int (nI 1)), (0, .ref 0), (1, .long (lN ks)), (3, .int (nI i)), (4, .int (nI j)), (5, .int (nI a))] rfl ?_
                            refine e_steps 1 (σ' := (51, [(6, .int (nI (b + 1))), (7, .int (nI 1)), (0, .ref 0), (1, .long (lN ks)), (3, .int (nI i)), (4, .int (nI j)), (5, .int (nI a))], [], (MH g kept was isKept tape fed pos tlen flt ranking paper written pairs above below isDone dist rowv rowMany lsz itm (lN wx) (lN wy)))) rfl ?_
                            refine e_sub [2, 3, 4, 5, 6, 0] rfl ?_
                            exact ih_51 (b + 1) (by omega) (by first | assumption | omega | rfl | trivial)
                          · skip
                            refine e_steps 2 (σ' := (146, [(7, .int (nI 1)), (0, .ref 0), (1, .long (lN ks)), (3, .int (nI i)), (4, .int (nI j)), (5, .int (nI a)), (6, .int (nI b))], [.int (nI 0)], (MH g kept was isKept tape fed pos tlen flt ranking paper written pairs above below isDone dist rowv rowMany lsz itm (lN wx) (lN wy)))) rfl ?_
                            exact e_ret rfl (Or.inl rfl) (hR _ _ ⟨rfl, Or.inr ⟨rfl, (by first | assumption | omega | rfl | trivial)⟩⟩)
                        · skip
                          refine e_steps 5 (σ' := (147, [(7, .int (nI 0)), (0, .ref 0), (1, .long (lN ks)), (3, .int (nI i)), (4, .int (nI j)), (5, .int (nI a)), (6, .int (nI b))], [], (MH g kept was isKept tape fed pos tlen flt ranking paper written pairs above below isDone dist rowv rowMany lsz itm (lN wx) (lN wy)))) rfl ?_
                          refine e_inc (n := 1) rfl rfl rfl (b + 1) (by rfl) [(6, .int (nI (b + 1))), (7, .int (nI 0)), (0, .ref 0), (1, .long (lN ks)), (3, .int (nI i)), (4, .int (nI j)), (5, .int (nI a))] rfl ?_
                          refine e_steps 1 (σ' := (51, [(6, .int (nI (b + 1))), (7, .int (nI 0)), (0, .ref 0), (1, .long (lN ks)), (3, .int (nI i)), (4, .int (nI j)), (5, .int (nI a))], [], (MH g kept was isKept tape fed pos tlen flt ranking paper written pairs above below isDone dist rowv rowMany lsz itm (lN wx) (lN wy)))) rfl ?_
                          refine e_sub [2, 3, 4, 5, 6, 0] rfl ?_
                          exact ih_51 (b + 1) (by omega) (by first | assumption | omega | rfl | trivial)
                    · skip
                      refine e_steps 5 (σ' := (147, [(7, .int (nI 0)), (0, .ref 0), (1, .long (lN ks)), (3, .int (nI i)), (4, .int (nI j)), (5, .int (nI a)), (6, .int (nI b))], [], (MH g kept was isKept tape fed pos tlen flt ranking paper written pairs above below isDone dist rowv rowMany lsz itm (lN wx) (lN wy)))) rfl ?_
                      refine e_inc (n := 1) rfl rfl rfl (b + 1) (by rfl) [(6, .int (nI (b + 1))), (7, .int (nI 0)), (0, .ref 0), (1, .long (lN ks)), (3, .int (nI i)), (4, .int (nI j)), (5, .int (nI a))] rfl ?_
                      refine e_steps 1 (σ' := (51, [(6, .int (nI (b + 1))), (7, .int (nI 0)), (0, .ref 0), (1, .long (lN ks)), (3, .int (nI i)), (4, .int (nI j)), (5, .int (nI a))], [], (MH g kept was isKept tape fed pos tlen flt ranking paper written pairs above below isDone dist rowv rowMany lsz itm (lN wx) (lN wy)))) rfl ?_
                      refine e_sub [2, 3, 4, 5, 6, 0] rfl ?_
                      exact ih_51 (b + 1) (by omega) (by first | assumption | omega | rfl | trivial)
              refine e_sub [1, 2, 3, 4, 5, 0] rfl ?_
              exact loop_51 _ 0 (Nat.lt_succ_self _) (by first | assumption | omega | rfl | trivial)
        refine e_sub [1, 2, 3, 4, 0] rfl ?_
        exact loop_37 _ 0 (Nat.lt_succ_self _) (by first | assumption | omega | rfl | trivial)
    · skip
      refine e_steps 2 (σ' := (33, [(0, .ref 0), (1, .long (lN ks)), (3, .int (nI i)), (4, .int (nI j))], [.int (nI 0)], (MH g kept was isKept tape fed pos tlen flt ranking paper written pairs above below isDone dist rowv rowMany lsz itm (lN wx) (lN wy)))) rfl ?_
      exact e_ret rfl (Or.inl rfl) (hR _ _ ⟨rfl, Or.inr ⟨rfl, (by first | assumption | omega | rfl | trivial)⟩⟩)
  · skip
    refine e_steps 2 (σ' := (33, [(0, .ref 0), (1, .long st), (3, .int (nI i)), (4, .int (nI j))], [.int (nI 0)], (MH g kept was isKept tape fed pos tlen flt ranking paper written pairs above below isDone dist rowv rowMany lsz itm (lN wx) (lN wy)))) rfl ?_
    exact e_ret rfl (Or.inl rfl) (hR _ _ ⟨rfl, Or.inr ⟨rfl, (by first | assumption | omega | rfl | trivial)⟩⟩)
theorem c_X6_proves (d : Nat) {g : Nat → Int32} {kept : Nat → Int32} {was : Nat → Int32} {isKept : Int32} {tape : Nat → Int32} {fed : Int32} {pos : Int32} {tlen : Int32} {flt : Int32} {ranking : Nat → Int32} {paper : Nat → Int32} {written : Int32} {pairs : Nat → Int64} {above : Nat → Int64} {below : Nat → Int64} {isDone : Nat → Int32} {dist : Nat → Int32} {rowv : Nat → Int32} {rowMany : Int32} {lsz : Nat → Int32} {itm : Nat → Int64} {weakAbove : Int64} {weakBelow : Int64} {l : Int32} {p : Int32} {i : Int32} {j : Int32} {n : Nat} {outs : Nat} {bm : Nat} {ms : Nat} {dr : Nat → Nat} {cn : Nat → Nat} {pl : Nat → Nat → Nat} {sz : Nat → Nat} (hG : z_GI g n outs bm ms dr cn pl) (hz : z_LZ lsz sz) : z_CAL (d + 5) 227 [.ref 0, .int l, .int p, .int i, .int j] (MH g kept was isKept tape fed pos tlen flt ranking paper written pairs above below isDone dist rowv rowMany lsz itm weakAbove weakBelow) (fun r h2 => ∃ (pairs2 : Nat → Int64) (wa2 : Int64) (wb2 : Int64) (v : Int32), r = some (.int v) ∧ h2 = (MH g kept was isKept tape fed pos tlen flt ranking paper written pairs2 above below isDone dist rowv rowMany lsz itm wa2 wb2)) := by
  refine e_of2 (q := zmX6_proves) rfl rfl (fun R hR => ?_)
  obtain ⟨⟨hn0, hn2, hn8⟩, ⟨ho0, ho8, hin⟩, ⟨hb0, hb40⟩, ⟨hm0, hm4⟩, ⟨hdr, hdl, hdc⟩, hcn, hpl⟩ := id hG; have hp8 := z_p2 hn8; have ho256 : outs < 256 := (by omega); have hi256 : z_dif (2 ^ n - 1) outs < 256 := (by have := z_dif_le (s := 2 ^ n - 1) (t := outs); omega)
  refine e_steps 4 (σ' := (5, [(0, .ref 0), (1, .int l), (2, .int p), (3, .int i), (4, .int j)], [.int j, .int i, .int l, .ref 0], (MH g kept was isKept tape fed pos tlen flt ranking paper written pairs above below isDone dist rowv rowMany lsz itm weakAbove weakBelow))) rfl ?_
  refine e_call (y := 220) (av := [.ref 0, .int l, .int i, .int j]) (rest := []) rfl (c_X6_wrong (d + 0) (n := n) (outs := outs) (bm := bm) (ms := ms) (dr := dr) (cn := cn) (pl := pl) (by first | assumption | omega | rfl | trivial)) (fun r_5 h_5 p_5 => ?_)
  obtain ⟨rfl, o_5⟩ := p_5
  rcases o_5 with ⟨a_5, b_5, q_5, rfl, o_5⟩ | ⟨a_5, b_5, q_5, rfl, o_5⟩ | ⟨rfl, o_5⟩
  · skip
    obtain ⟨g1, g2, g3, rfl, rfl, g4, rfl, g5⟩ := o_5; have g6 := (hz q_5 g4).2
    refine e_steps 6 (σ' := (23, [(5, .int (nI 0)), (0, .ref 0), (1, .int (nI q_5)), (2, .int p), (3, .int (nI a_5)), (4, .int (nI b_5))], [.int (nI q_5), .ref 13], (MH g kept was isKept tape fed pos tlen flt ranking paper written pairs above below isDone dist rowv rowMany lsz itm weakAbove weakBelow))) rfl ?_
    refine e_ial (lsz q_5) rfl rfl (by first | assumption | omega | rfl | trivial) (by decide) (rfl) ?_
    refine e_steps 0 (σ' := (24, [(5, .int (nI 0)), (0, .ref 0), (1, .int (nI q_5)), (2, .int p), (3, .int (nI a_5)), (4, .int (nI b_5))], [.int ((lsz q_5))], (MH g kept was isKept tape fed pos tlen flt ranking paper written pairs above below isDone dist rowv rowMany lsz itm weakAbove weakBelow))) rfl ?_
    refine e_if (c := 0 ≤ (lsz q_5)) rfl (fun c_24 => ?_) (fun c_24 => ?_)
    · skip
      refine e_steps 0 (σ' := (30, [(5, .int (nI 0)), (0, .ref 0), (1, .int (nI q_5)), (2, .int p), (3, .int (nI a_5)), (4, .int (nI b_5))], [], (MH g kept was isKept tape fed pos tlen flt ranking paper written pairs above below isDone dist rowv rowMany lsz itm weakAbove weakBelow))) rfl ?_
      rcases z_neg p with hp | ⟨x0, hx0, rfl⟩
      · skip
        refine e_steps 4 (σ' := (34, [(5, .int (nI 0)), (0, .ref 0), (1, .int (nI q_5)), (2, .int p), (3, .int (nI a_5)), (4, .int (nI b_5))], [.long p.toInt64, .int (nI q_5), .ref 0], (MH g kept was isKept tape fed pos tlen flt ranking paper written pairs above below isDone dist rowv rowMany lsz itm weakAbove weakBelow))) rfl ?_
        refine e_call (y := 219) (av := [.ref 0, .int (nI q_5), .long p.toInt64]) (rest := []) rfl (c_X6_isItem_neg (d + 2) (sz := sz) (by first | assumption | omega | rfl | trivial) (by first | assumption | omega | rfl | trivial) (by first | exact z_negL hp | omega)) (fun r_34 h_34 p_34 => ?_)
        obtain ⟨rfl, rfl⟩ := p_34
        refine e_steps 2 (σ' := (64, [(5, .int (nI 0)), (0, .ref 0), (1, .int (nI q_5)), (2, .int p), (3, .int (nI a_5)), (4, .int (nI b_5))], [.int (nI 0)], (MH g kept was isKept tape fed pos tlen flt ranking paper written pairs above below isDone dist rowv rowMany lsz itm weakAbove weakBelow))) rfl ?_
        exact e_ret rfl (trivial) (hR _ _ ⟨pairs, weakAbove, weakBelow, (nI 0), rfl, rfl⟩)
      · skip
        refine e_steps 3 (σ' := (33, [(5, .int (nI 0)), (0, .ref 0), (1, .int (nI q_5)), (2, .int (nI x0)), (3, .int (nI a_5)), (4, .int (nI b_5))], [.int (nI x0), .int (nI q_5), .ref 0], (MH g kept was isKept tape fed pos tlen flt ranking paper written pairs above below isDone dist rowv rowMany lsz itm weakAbove weakBelow))) rfl ?_
        refine e_i2l rfl (by omega) ?_
        refine e_steps 0 (σ' := (34, [(5, .int (nI 0)), (0, .ref 0), (1, .int (nI q_5)), (2, .int (nI x0)), (3, .int (nI a_5)), (4, .int (nI b_5))], [.long (lN x0), .int (nI q_5), .ref 0], (MH g kept was isKept tape fed pos tlen flt ranking paper written pairs above below isDone dist rowv rowMany lsz itm weakAbove weakBelow))) rfl ?_
        refine e_call (y := 219) (av := [.ref 0, .int (nI q_5), .long (lN x0)]) (rest := []) rfl (c_X6_isItem_N (d + 2) (sz := sz) (by first | assumption | omega | rfl | trivial) (by first | assumption | omega | rfl | trivial) (by first | exact z_negL hp | omega)) (fun r_34 h_34 p_34 => ?_)
        obtain ⟨rfl, o_34⟩ := p_34
        rcases o_34 with ⟨rfl, o_34⟩ | ⟨rfl, o_34⟩
        · skip
          refine e_steps 5 (σ' := (47, [(5, .int (nI 0)), (0, .ref 0), (1, .int (nI q_5)), (2, .int (nI x0)), (3, .int (nI a_5)), (4, .int (nI b_5))], [.int (nI q_5), .int (nI 40), .ref 14], (MH g kept was isKept tape fed pos tlen flt ranking paper written pairs above below isDone dist rowv rowMany lsz itm weakAbove weakBelow))) rfl ?_
          refine e_mul (40 * q_5) rfl (by first | rfl | omega | simp) ?_
          refine e_steps 1 (σ' := (49, [(5, .int (nI 0)), (0, .ref 0), (1, .int (nI q_5)), (2, .int (nI x0)), (3, .int (nI a_5)), (4, .int (nI b_5))], [.int (nI x0), .int (nI (40 * q_5)), .ref 14], (MH g kept was isKept tape fed pos tlen flt ranking paper written pairs above below isDone dist rowv rowMany lsz itm weakAbove weakBelow))) rfl ?_
          refine e_add (40 * q_5 + x0) rfl (by first | rfl | omega) ?_
          refine e_steps 0 (σ' := (50, [(5, .int (nI 0)), (0, .ref 0), (1, .int (nI q_5)), (2, .int (nI x0)), (3, .int (nI a_5)), (4, .int (nI b_5))], [.int (nI (40 * q_5 + x0)), .ref 14], (MH g kept was isKept tape fed pos tlen flt ranking paper written pairs above below isDone dist rowv rowMany lsz itm weakAbove weakBelow))) rfl ?_
          refine e_lal (itm (40 * q_5 + x0)) rfl rfl (by first | assumption | omega | rfl | trivial) (by decide) (rfl) ?_
          obtain ⟨mv, emv⟩ : ∃ y, y = itm (40 * q_5 + x0) := ⟨_, rfl⟩
          rw [← emv]
          refine e_steps 2 (σ' := (57, [(5, .int (nI 0)), (0, .ref 0), (1, .int (nI q_5)), (2, .int (nI x0)), (3, .int (nI a_5)), (4, .int (nI b_5))], [.long (lN 8), .long (lN 2), .long mv], (MH g kept was isKept tape fed pos tlen flt ranking paper written pairs above below isDone dist rowv rowMany lsz itm weakAbove weakBelow))) rfl ?_
          refine e_call (y := 129) (av := [.long mv, .long (lN 2), .long (lN 8)]) (rest := []) rfl (c_X6_isIn (d + 3) ) (fun r_57 h_57 p_57 => ?_)
          obtain ⟨rfl, o_57⟩ := p_57
          rcases o_57 with ⟨rfl, o_57⟩ | ⟨rfl, o_57⟩
          · skip
            obtain ⟨km, hm2, hm8, ekm⟩ := z_in_L (by decide) (by decide) o_57; subst ekm
            refine e_steps 5 (σ' := (72, [(5, .int (nI 0)), (0, .ref 0), (1, .int (nI q_5)), (2, .int (nI x0)), (3, .int (nI a_5)), (4, .int (nI b_5))], [.int (nI q_5), .int (nI 40), .ref 14], (MH g kept was isKept tape fed pos tlen flt ranking paper written pairs above below isDone dist rowv rowMany lsz itm weakAbove weakBelow))) rfl ?_
            refine e_mul (40 * q_5) rfl (by first | rfl | omega | simp) ?_
            refine e_steps 1 (σ' := (74, [(5, .int (nI 0)), (0, .ref 0), (1, .int (nI q_5)), (2, .int (nI x0)), (3, .int (nI a_5)), (4, .int (nI b_5))], [.int (nI x0), .int (nI (40 * q_5)), .ref 14], (MH g kept was isKept tape fed pos tlen flt ranking paper written pairs above below isDone dist rowv rowMany lsz itm weakAbove weakBelow))) rfl ?_
            refine e_add (40 * q_5 + x0) rfl (by first | rfl | omega) ?_
            refine e_steps 0 (σ' := (75, [(5, .int (nI 0)), (0, .ref 0), (1, .int (nI q_5)), (2, .int (nI x0)), (3, .int (nI a_5)), (4, .int (nI b_5))], [.int (nI (40 * q_5 + x0)), .ref 14], (MH g kept was isKept tape fed pos tlen flt ranking paper written pairs above below isDone dist rowv rowMany lsz itm weakAbove weakBelow))) rfl ?_
            refine e_lal (lN km) rfl rfl (by first | assumption | omega | rfl | trivial) (by decide) (emv.symm) ?_
            refine e_steps 0 (σ' := (76, [(5, .int (nI 0)), (0, .ref 0), (1, .int (nI q_5)), (2, .int (nI x0)), (3, .int (nI a_5)), (4, .int (nI b_5))], [.long (lN km)], (MH g kept was isKept tape fed pos tlen flt ranking paper written pairs above below isDone dist rowv rowMany lsz itm weakAbove weakBelow))) rfl ?_
            refine e_l2i rfl ?_
            refine e_steps 4 (σ' := (82, [(6, .int (nI km)), (5, .int (nI 0)), (0, .ref 0), (1, .int (nI q_5)), (2, .int (nI x0)), (3, .int (nI a_5)), (4, .int (nI b_5))], [.int (nI x0), .int (nI q_5), .ref 0], (MH g kept was isKept tape fed pos tlen flt ranking paper written pairs above below isDone dist rowv rowMany lsz itm weakAbove weakBelow))) rfl ?_
            refine e_i2l rfl (by omega) ?_
            refine e_steps 1 (σ' := (85, [(6, .int (nI km)), (5, .int (nI 0)), (0, .ref 0), (1, .int (nI q_5)), (2, .int (nI x0)), (3, .int (nI a_5)), (4, .int (nI b_5))], [.int (nI km), .long (lN x0), .int (nI q_5), .ref 0], (MH g kept was isKept tape fed pos tlen flt ranking paper written pairs above below isDone dist rowv rowMany lsz itm weakAbove weakBelow))) rfl ?_
            refine e_i2l rfl (by omega) ?_
            refine e_steps 1 (σ' := (87, [(6, .int (nI km)), (5, .int (nI 0)), (0, .ref 0), (1, .int (nI q_5)), (2, .int (nI x0)), (3, .int (nI a_5)), (4, .int (nI b_5))], [.long (((lN x0) + (lN km))), .int (nI q_5), .ref 0], (MH g kept was isKept tape fed pos tlen flt ranking paper written pairs above below isDone dist rowv rowMany lsz itm weakAbove weakBelow))) rfl ?_
            have er_86 : ((lN x0) + (lN km)) = lN (x0 + km) := lN_add _ _
            rw [er_86]
            refine e_steps 2 (σ' := (89, [(6, .int (nI km)), (5, .int (nI 0)), (0, .ref 0), (1, .int (nI q_5)), (2, .int (nI x0)), (3, .int (nI a_5)), (4, .int (nI b_5))], [.long (((lN (x0 + km)) + (lN 1))), .int (nI q_5), .ref 0], (MH g kept was isKept tape fed pos tlen flt ranking paper written pairs above below isDone dist rowv rowMany lsz itm weakAbove weakBelow))) rfl ?_
            have er_88 : ((lN (x0 + km)) + (lN 1)) = lN (x0 + km + 1) := lN_add _ _
            rw [er_88]
            refine e_call (y := 219) (av := [.ref 0, .int (nI q_5), .long (lN (x0 + km + 1))]) (rest := []) rfl (c_X6_isItem_N (d + 2) (sz := sz) (by first | assumption | omega | rfl | trivial) (by first | assumption | omega | rfl | trivial) (by first | assumption | omega | rfl | trivial)) (fun r_89 h_89 p_89 => ?_)
            obtain ⟨rfl, o_89⟩ := p_89
            rcases o_89 with ⟨rfl, o_89⟩ | ⟨rfl, o_89⟩
            · skip
              refine e_steps 2 (σ' := (98, [(6, .int (nI km)), (5, .int (nI 0)), (0, .ref 0), (1, .int (nI q_5)), (2, .int (nI x0)), (3, .int (nI a_5)), (4, .int (nI b_5))], [.ref 0], (MH g kept was isKept tape fed pos tlen flt ranking paper written pairs above below isDone dist rowv rowMany lsz itm weakAbove weakBelow))) rfl ?_
              refine e_call (y := 172) (av := [.ref 0]) (rest := []) rfl (c_X6_countsAll (d + 2) (n := n) (outs := outs) (bm := bm) (ms := ms) (dr := dr) (cn := cn) (pl := pl) (by first | assumption | omega | rfl | trivial)) (fun r_98 h_98 p_98 => ?_)
              obtain ⟨pairs_98, rfl, rfl, q_98⟩ := p_98
              refine e_steps 4 (σ' := (105, [(6, .int (nI km)), (5, .int (nI 0)), (0, .ref 0), (1, .int (nI q_5)), (2, .int (nI x0)), (3, .int (nI a_5)), (4, .int (nI b_5))], [.int (nI 1), .int (nI x0), .int (nI q_5), .ref 0], (MH g kept was isKept tape fed pos tlen flt ranking paper written pairs_98 above below isDone dist rowv rowMany lsz itm weakAbove weakBelow))) rfl ?_
              refine e_add (x0 + 1) rfl (by first | rfl | omega) ?_
              refine e_steps 3 (σ' := (111, [(6, .int (nI km)), (5, .int (nI 0)), (0, .ref 0), (1, .int (nI q_5)), (2, .int (nI x0)), (3, .int (nI a_5)), (4, .int (nI b_5))], [.int (nI b_5), .int (nI a_5), .int (nI km), .int (nI (x0 + 1)), .int (nI q_5), .ref 0], (MH g kept was isKept tape fed pos tlen flt ranking paper written pairs_98 above below isDone dist rowv rowMany lsz itm weakAbove weakBelow))) rfl ?_
              refine e_call (y := 224) (av := [.ref 0, .int (nI q_5), .int (nI (x0 + 1)), .int (nI km), .int (nI a_5), .int (nI b_5)]) (rest := []) rfl (c_X6_isToldWay (d + 0) (n := n) (outs := outs) (bm := bm) (ms := ms) (dr := dr) (cn := cn) (pl := pl) (F := (z_for bm cn pl)) (by first | assumption | omega | rfl | trivial) (by first | assumption | omega | rfl | trivial) (by first | assumption | omega | rfl | trivial) (by first | assumption | omega | rfl | trivial) (by first | assumption | omega | rfl | trivial) (by first | assumption | omega | rfl | trivial) (by first | assumption | omega | rfl | trivial) (by first | assumption | omega | rfl | trivial)) (fun r_111 h_111 p_111 => ?_)
              obtain ⟨weakAbove_111, weakBelow_111, rfl, o_111⟩ := p_111
              rcases o_111 with ⟨rfl, o_111⟩ | ⟨rfl, o_111⟩
              · skip
                refine e_steps 1 (σ' := (117, [(6, .int (nI km)), (5, .int (nI 0)), (0, .ref 0), (1, .int (nI q_5)), (2, .int (nI x0)), (3, .int (nI a_5)), (4, .int (nI b_5))], [], (MH g kept was isKept tape fed pos tlen flt ranking paper written pairs_98 above below isDone dist rowv rowMany lsz itm weakAbove_111 weakBelow_111))) rfl ?_
                obtain ⟨wx, wy, rfl, rfl, hwyx, hwx⟩ := o_111
                · skip
                  refine e_steps 5 (σ' := (125, [(6, .int (nI km)), (5, .int (nI 0)), (0, .ref 0), (1, .int (nI q_5)), (2, .int (nI x0)), (3, .int (nI a_5)), (4, .int (nI b_5))], [.int (nI q_5), .int (nI 40), .ref 14, .ref 0], (MH g kept was isKept tape fed pos tlen flt ranking paper written pairs_98 above below isDone dist rowv rowMany lsz itm (lN wx) (lN wy)))) rfl ?_
                  refine e_mul (40 * q_5) rfl (by first | rfl | omega | simp) ?_
                  refine e_steps 1 (σ' := (127, [(6, .int (nI km)), (5, .int (nI 0)), (0, .ref 0), (1, .int (nI q_5)), (2, .int (nI x0)), (3, .int (nI a_5)), (4, .int (nI b_5))], [.int (nI x0), .int (nI (40 * q_5)), .ref 14, .ref 0], (MH g kept was isKept tape fed pos tlen flt ranking paper written pairs_98 above below isDone dist rowv rowMany lsz itm (lN wx) (lN wy)))) rfl ?_
                  refine e_add (40 * q_5 + x0) rfl (by first | rfl | omega) ?_
                  refine e_steps 1 (σ' := (129, [(6, .int (nI km)), (5, .int (nI 0)), (0, .ref 0), (1, .int (nI q_5)), (2, .int (nI x0)), (3, .int (nI a_5)), (4, .int (nI b_5))], [.int (nI 1), .int (nI (40 * q_5 + x0)), .ref 14, .ref 0], (MH g kept was isKept tape fed pos tlen flt ranking paper written pairs_98 above below isDone dist rowv rowMany lsz itm (lN wx) (lN wy)))) rfl ?_
                  refine e_add (40 * q_5 + x0 + 1) rfl (by first | rfl | omega) ?_
                  refine e_steps 1 (σ' := (132, [(6, .int (nI km)), (5, .int (nI 0)), (0, .ref 0), (1, .int (nI q_5)), (2, .int (nI x0)), (3, .int (nI a_5)), (4, .int (nI b_5))], [.int (nI km), .int (nI (40 * q_5 + x0 + 1)), .ref 14, .ref 0], (MH g kept was isKept tape fed pos tlen flt ranking paper written pairs_98 above below isDone dist rowv rowMany lsz itm (lN wx) (lN wy)))) rfl ?_
                  refine e_add (40 * q_5 + x0 + 1 + km) rfl (by first | rfl | omega) ?_
                  refine e_steps 0 (σ' := (133, [(6, .int (nI km)), (5, .int (nI 0)), (0, .ref 0), (1, .int (nI q_5)), (2, .int (nI x0)), (3, .int (nI a_5)), (4, .int (nI b_5))], [.int (nI (40 * q_5 + x0 + 1 + km)), .ref 14, .ref 0], (MH g kept was isKept tape fed pos tlen flt ranking paper written pairs_98 above below isDone dist rowv rowMany lsz itm (lN wx) (lN wy)))) rfl ?_
                  refine e_lal (itm (40 * q_5 + x0 + 1 + km)) rfl rfl (by first | assumption | omega | rfl | trivial) (by decide) (rfl) ?_
                  refine e_steps 2 (σ' := (137, [(6, .int (nI km)), (5, .int (nI 0)), (0, .ref 0), (1, .int (nI q_5)), (2, .int (nI x0)), (3, .int (nI a_5)), (4, .int (nI b_5))], [.int (nI b_5), .int (nI a_5), .long ((itm (40 * q_5 + x0 + 1 + km))), .ref 0], (MH g kept was isKept tape fed pos tlen flt ranking paper written pairs_98 above below isDone dist rowv rowMany lsz itm (lN wx) (lN wy)))) rfl ?_
                  refine e_call (y := 226) (av := [.ref 0, .long ((itm (40 * q_5 + x0 + 1 + km))), .int (nI a_5), .int (nI b_5)]) (rest := []) rfl (c_X6_isBarrier (d + 1) (n := n) (outs := outs) (bm := bm) (ms := ms) (dr := dr) (cn := cn) (pl := pl) (F := (z_for bm cn pl)) (by first | assumption | omega | rfl | trivial) (by first | assumption | omega | rfl | trivial) (by first | assumption | omega | rfl | trivial) (by first | assumption | omega | rfl | trivial) (by first | assumption | omega | rfl | trivial) (by first | assumption | omega | rfl | trivial)) (fun r_137 h_137 p_137 => ?_)
                  obtain ⟨rfl, o_137⟩ := p_137
                  rcases o_137 with ⟨rfl, o_137⟩ | ⟨rfl, o_137⟩
                  · skip
                    refine e_steps 3 (σ' := (148, [(6, .int (nI km)), (5, .int (nI 0)), (0, .ref 0), (1, .int (nI q_5)), (2, .int (nI x0)), (3, .int (nI a_5)), (4, .int (nI b_5))], [.int (nI 1)], (MH g kept was isKept tape fed pos tlen flt ranking paper written pairs_98 above below isDone dist rowv rowMany lsz itm (lN wx) (lN wy)))) rfl ?_
                    exact e_ret rfl (trivial) (hR _ _ ⟨pairs_98, lN wx, lN wy, (nI 1), rfl, rfl⟩)
                  · skip
                    refine e_steps 2 (σ' := (148, [(6, .int (nI km)), (5, .int (nI 0)), (0, .ref 0), (1, .int (nI q_5)), (2, .int (nI x0)), (3, .int (nI a_5)), (4, .int (nI b_5))], [.int (nI 0)], (MH g kept was isKept tape fed pos tlen flt ranking paper written pairs_98 above below isDone dist rowv rowMany lsz itm (lN wx) (lN wy)))) rfl ?_
                    exact e_ret rfl (trivial) (hR _ _ ⟨pairs_98, lN wx, lN wy, (nI 0), rfl, rfl⟩)
              · skip
                refine e_steps 2 (σ' := (148, [(6, .int (nI km)), (5, .int (nI 0)), (0, .ref 0), (1, .int (nI q_5)), (2, .int (nI x0)), (3, .int (nI a_5)), (4, .int (nI b_5))], [.int (nI 0)], (MH g kept was isKept tape fed pos tlen flt ranking paper written pairs_98 above below isDone dist rowv rowMany lsz itm weakAbove_111 weakBelow_111))) rfl ?_
                exact e_ret rfl (trivial) (hR _ _ ⟨pairs_98, weakAbove_111, weakBelow_111, (nI 0), rfl, rfl⟩)
            · skip
              refine e_steps 2 (σ' := (96, [(6, .int (nI km)), (5, .int (nI 0)), (0, .ref 0), (1, .int (nI q_5)), (2, .int (nI x0)), (3, .int (nI a_5)), (4, .int (nI b_5))], [.int (nI 0)], (MH g kept was isKept tape fed pos tlen flt ranking paper written pairs above below isDone dist rowv rowMany lsz itm weakAbove weakBelow))) rfl ?_
              exact e_ret rfl (trivial) (hR _ _ ⟨pairs, weakAbove, weakBelow, (nI 0), rfl, rfl⟩)
          · skip
            refine e_steps 2 (σ' := (64, [(5, .int (nI 0)), (0, .ref 0), (1, .int (nI q_5)), (2, .int (nI x0)), (3, .int (nI a_5)), (4, .int (nI b_5))], [.int (nI 0)], (MH g kept was isKept tape fed pos tlen flt ranking paper written pairs above below isDone dist rowv rowMany lsz itm weakAbove weakBelow))) rfl ?_
            exact e_ret rfl (trivial) (hR _ _ ⟨pairs, weakAbove, weakBelow, (nI 0), rfl, rfl⟩)
        · skip
          refine e_steps 2 (σ' := (64, [(5, .int (nI 0)), (0, .ref 0), (1, .int (nI q_5)), (2, .int (nI x0)), (3, .int (nI a_5)), (4, .int (nI b_5))], [.int (nI 0)], (MH g kept was isKept tape fed pos tlen flt ranking paper written pairs above below isDone dist rowv rowMany lsz itm weakAbove weakBelow))) rfl ?_
          exact e_ret rfl (trivial) (hR _ _ ⟨pairs, weakAbove, weakBelow, (nI 0), rfl, rfl⟩)
    · skip
      refine e_steps 1 (σ' := (29, [(5, .int (nI 0)), (0, .ref 0), (1, .int (nI q_5)), (2, .int p), (3, .int (nI a_5)), (4, .int (nI b_5))], [.int ((-nI 11))], (MH g kept was isKept tape fed pos tlen flt ranking paper written pairs above below isDone dist rowv rowMany lsz itm weakAbove weakBelow))) rfl ?_
      exact e_ret rfl (trivial) (hR _ _ ⟨pairs, weakAbove, weakBelow, ((-nI 11)), rfl, rfl⟩)
  · skip
    obtain ⟨g1, g2, g3, rfl, rfl, g4, rfl, g5⟩ := o_5
    refine e_steps 4 (σ' := (17, [(5, .int ((-nI 3))), (0, .ref 0), (1, .int (nI q_5)), (2, .int p), (3, .int (nI a_5)), (4, .int (nI b_5))], [.int ((-nI 3))], (MH g kept was isKept tape fed pos tlen flt ranking paper written pairs above below isDone dist rowv rowMany lsz itm weakAbove weakBelow))) rfl ?_
    exact e_ret rfl (trivial) (hR _ _ ⟨pairs, weakAbove, weakBelow, ((-nI 3)), rfl, rfl⟩)
  · skip
    refine e_steps 4 (σ' := (17, [(5, .int ((-nI 1))), (0, .ref 0), (1, .int l), (2, .int p), (3, .int i), (4, .int j)], [.int ((-nI 1))], (MH g kept was isKept tape fed pos tlen flt ranking paper written pairs above below isDone dist rowv rowMany lsz itm weakAbove weakBelow))) rfl ?_
    exact e_ret rfl (trivial) (hR _ _ ⟨pairs, weakAbove, weakBelow, ((-nI 1)), rfl, rfl⟩)
theorem c_X6_allCounts (d : Nat) {g : Nat → Int32} {kept : Nat → Int32} {was : Nat → Int32} {isKept : Int32} {tape : Nat → Int32} {fed : Int32} {pos : Int32} {tlen : Int32} {flt : Int32} {ranking : Nat → Int32} {paper : Nat → Int32} {written : Int32} {pairs : Nat → Int64} {above : Nat → Int64} {below : Nat → Int64} {isDone : Nat → Int32} {dist : Nat → Int32} {rowv : Nat → Int32} {rowMany : Int32} {lsz : Nat → Int32} {itm : Nat → Int64} {weakAbove : Int64} {weakBelow : Int64} {n : Nat} {outs : Nat} {bm : Nat} {ms : Nat} {dr : Nat → Nat} {cn : Nat → Nat} {pl : Nat → Nat → Nat} (hG : z_GI g n outs bm ms dr cn pl) : z_CAL (d + 1) 228 [.ref 0] (MH g kept was isKept tape fed pos tlen flt ranking paper written pairs above below isDone dist rowv rowMany lsz itm weakAbove weakBelow) (fun r h2 => r = some (.int (nI (z_sum bm cn))) ∧ h2 = (MH g kept was isKept tape fed pos tlen flt ranking paper written pairs above below isDone dist rowv rowMany lsz itm weakAbove weakBelow)) := by
  refine e_of2 (q := zmX6_allCounts) rfl rfl (fun R hR => ?_)
  obtain ⟨⟨hn0, hn2, hn8⟩, ⟨ho0, ho8, hin⟩, ⟨hb0, hb40⟩, ⟨hm0, hm4⟩, ⟨hdr, hdl, hdc⟩, hcn, hpl⟩ := id hG; have hp8 := z_p2 hn8; have ho256 : outs < 256 := (by omega); have hi256 : z_dif (2 ^ n - 1) outs < 256 := (by have := z_dif_le (s := 2 ^ n - 1) (t := outs); omega)
  refine e_steps 4 (σ' := (4, [(2, .int (nI 0)), (1, .int (nI 0)), (0, .ref 0)], [], (MH g kept was isKept tape fed pos tlen flt ranking paper written pairs above below isDone dist rowv rowMany lsz itm weakAbove weakBelow))) rfl ?_
  have loop_4 : ∀ (z_4 : Nat) (sm : Nat) (b : Nat), bm - b < z_4 → (b ≤ bm ∧ sm = z_sum b cn) → z_EV (d + 0) zmX6_allCounts R (4, [(0, .ref 0), (1, .int (nI sm)), (2, .int (nI b))], [], (MH g kept was isKept tape fed pos tlen flt ranking paper written pairs above below isDone dist rowv rowMany lsz itm weakAbove weakBelow)) := by
    intro z_4
    induction z_4 with
    | zero => intro sm b hm_4 _; exact absurd hm_4 (Nat.not_lt_zero _)
    | succ z_4 ih_4 =>
      intro sm b hm_4 hi_4
      obtain ⟨l1, l2⟩ := hi_4
      refine e_steps 4 (σ' := (10, [(0, .ref 0), (1, .int (nI sm)), (2, .int (nI b))], [.int (nI 2), .ref 1, .int (nI b)], (MH g kept was isKept tape fed pos tlen flt ranking paper written pairs above below isDone dist rowv rowMany lsz itm weakAbove weakBelow))) rfl ?_
      refine e_ial (nI bm) rfl rfl (by first | assumption | omega | rfl | trivial) (by decide) (hb0) ?_
      refine e_steps 0 (σ' := (11, [(0, .ref 0), (1, .int (nI sm)), (2, .int (nI b))], [.int (nI bm), .int (nI b)], (MH g kept was isKept tape fed pos tlen flt ranking paper written pairs above below isDone dist rowv rowMany lsz itm weakAbove weakBelow))) rfl ?_
      refine e_if (c := nI bm ≤ nI b) rfl (fun c_11 => ?_) (fun c_11 => ?_)
      · skip
        rw [nI_leI (by omega) (by omega)] at c_11
        refine e_steps 1 (σ' := (33, [(0, .ref 0), (1, .int (nI sm)), (2, .int (nI b))], [.int (nI sm)], (MH g kept was isKept tape fed pos tlen flt ranking paper written pairs above below isDone dist rowv rowMany lsz itm weakAbove weakBelow))) rfl ?_
        exact e_ret rfl (trivial) (hR _ _ ⟨(by rw [l2, show b = bm by omega]), rfl⟩)
      · skip
        rw [nI_leI (by omega) (by omega)] at c_11
        refine e_steps 5 (σ' := (22, [(0, .ref 0), (1, .int (nI sm)), (2, .int (nI b))], [.int (nI b), .int (nI 12), .ref 1, .int (nI sm)], (MH g kept was isKept tape fed pos tlen flt ranking paper written pairs above below isDone dist rowv rowMany lsz itm weakAbove weakBelow))) rfl ?_
        refine e_add (12 + b) rfl (by first | rfl | omega) ?_
        refine e_steps 0 (σ' := (23, [(0, .ref 0), (1, .int (nI sm)), (2, .int (nI b))], [.int (nI (12 + b)), .ref 1, .int (nI sm)], (MH g kept was isKept tape fed pos tlen flt ranking paper written pairs above below isDone dist rowv rowMany lsz itm weakAbove weakBelow))) rfl ?_
        refine e_ial (nI (cn b)) rfl rfl (by first | assumption | omega | rfl | trivial) (by decide) ((hcn _ (by omega)).1) ?_
        have hv_23 := (hcn b (by omega)).2
        refine e_steps 0 (σ' := (24, [(0, .ref 0), (1, .int (nI sm)), (2, .int (nI b))], [.int (nI (cn b)), .int (nI sm)], (MH g kept was isKept tape fed pos tlen flt ranking paper written pairs above below isDone dist rowv rowMany lsz itm weakAbove weakBelow))) rfl ?_
        refine e_add (sm + cn b) rfl (by first | rfl | omega) ?_
        refine e_steps 1 (σ' := (26, [(1, .int (nI (sm + cn b))), (0, .ref 0), (2, .int (nI b))], [], (MH g kept was isKept tape fed pos tlen flt ranking paper written pairs above below isDone dist rowv rowMany lsz itm weakAbove weakBelow))) rfl ?_
        refine e_inc (n := 1) rfl rfl rfl (b + 1) (by rfl) [(2, .int (nI (b + 1))), (1, .int (nI (sm + cn b))), (0, .ref 0)] rfl ?_
        refine e_steps 1 (σ' := (4, [(2, .int (nI (b + 1))), (1, .int (nI (sm + cn b))), (0, .ref 0)], [], (MH g kept was isKept tape fed pos tlen flt ranking paper written pairs above below isDone dist rowv rowMany lsz itm weakAbove weakBelow))) rfl ?_
        refine e_sub [2, 1, 0] rfl ?_
        exact ih_4 (sm + cn b) (b + 1) (by omega) (by exact ⟨by omega, by rw [l2]; rfl⟩)
  refine e_sub [2, 1, 0] rfl ?_
  exact loop_4 _ 0 0 (Nat.lt_succ_self _) (by exact ⟨by omega, rfl⟩)
theorem c_X6_isLink_8 (d : Nat) {g : Nat → Int32} {kept : Nat → Int32} {was : Nat → Int32} {isKept : Int32} {tape : Nat → Int32} {fed : Int32} {pos : Int32} {tlen : Int32} {flt : Int32} {ranking : Nat → Int32} {paper : Nat → Int32} {written : Int32} {pairs : Nat → Int64} {above : Nat → Int64} {below : Nat → Int64} {isDone : Nat → Int32} {dist : Nat → Int32} {rowv : Nat → Int32} {rowMany : Int32} {lsz : Nat → Int32} {itm : Nat → Int64} {weakAbove : Int64} {weakBelow : Int64} {s : Nat} {i : Nat} {j : Nat} {n : Nat} {outs : Nat} {bm : Nat} {ms : Nat} {dr : Nat → Nat} {cn : Nat → Nat} {pl : Nat → Nat → Nat} {F : Nat → Nat → Nat} (hG : z_GI g n outs bm ms dr cn pl) (hP : z_PR pairs n F) (hs : s < 2 ^ n) (hi : i < 8) (hj : j < 8) : z_CAL (d + 2) 176 [.ref 0, .int (nI s), .int (nI i), .int (nI j)] (MH g kept was isKept tape fed pos tlen flt ranking paper written pairs above below isDone dist rowv rowMany lsz itm weakAbove weakBelow) (fun r h2 => h2 = (MH g kept was isKept tape fed pos tlen flt ranking paper written pairs above below isDone dist rowv rowMany lsz itm weakAbove weakBelow) ∧ ((r = some (.int (nI 1)) ∧ (z_lnk s F i j)) ∨ (r = some (.int (nI 0)) ∧ (¬ z_lnk s F i j)))) := by
  refine e_of2 (q := zmX6_isLink) rfl rfl (fun R hR => ?_)
  obtain ⟨⟨hn0, hn2, hn8⟩, ⟨ho0, ho8, hin⟩, ⟨hb0, hb40⟩, ⟨hm0, hm4⟩, ⟨hdr, hdl, hdc⟩, hcn, hpl⟩ := id hG; have hp8 := z_p2 hn8; have ho256 : outs < 256 := (by omega); have hi256 : z_dif (2 ^ n - 1) outs < 256 := (by have := z_dif_le (s := 2 ^ n - 1) (t := outs); omega)
  refine e_steps 2 (σ' := (2, [(0, .ref 0), (1, .int (nI s)), (2, .int (nI i)), (3, .int (nI j))], [.int (nI j), .int (nI i)], (MH g kept was isKept tape fed pos tlen flt ranking paper written pairs above below isDone dist rowv rowMany lsz itm weakAbove weakBelow))) rfl ?_
  refine e_if (c := nI i = nI j) rfl (fun c_2 => ?_) (fun c_2 => ?_)
  · skip
    rw [nI_eq (by omega) (by omega)] at c_2
    refine e_steps 1 (σ' := (42, [(0, .ref 0), (1, .int (nI s)), (2, .int (nI i)), (3, .int (nI j))], [.int (nI 0)], (MH g kept was isKept tape fed pos tlen flt ranking paper written pairs above below isDone dist rowv rowMany lsz itm weakAbove weakBelow))) rfl ?_
    exact e_ret rfl (Or.inl rfl) (hR _ _ ⟨rfl, Or.inr ⟨rfl, (by first | assumption | omega | rfl | trivial | exact ⟨by assumption, by assumption, by assumption, by omega⟩ | exact (fun q => absurd q.1 (by omega)) | exact (fun q => by have := q.2.2.2; omega) | exact (fun q => by have h1 := q.2.1; have h2 := q.2.2.1; simp_all))⟩⟩)
  · skip
    rw [nI_eq (by omega) (by omega)] at c_2
    refine e_steps 2 (σ' := (7, [(0, .ref 0), (1, .int (nI s)), (2, .int (nI i)), (3, .int (nI j))], [.int (nI i), .int (nI s)], (MH g kept was isKept tape fed pos tlen flt ranking paper written pairs above below isDone dist rowv rowMany lsz itm weakAbove weakBelow))) rfl ?_
    refine e_call (y := 131) (av := [.int (nI s), .int (nI i)]) (rest := []) rfl (c_X6_has (d + 0) (by first | assumption | omega | rfl | trivial | exact ⟨by assumption, by assumption, by assumption, by omega⟩ | exact (fun q => absurd q.1 (by omega)) | exact (fun q => by have := q.2.2.2; omega) | exact (fun q => by have h1 := q.2.1; have h2 := q.2.2.1; simp_all)) (by first | assumption | omega | rfl | trivial | exact ⟨by assumption, by assumption, by assumption, by omega⟩ | exact (fun q => absurd q.1 (by omega)) | exact (fun q => by have := q.2.2.2; omega) | exact (fun q => by have h1 := q.2.1; have h2 := q.2.2.1; simp_all))) (fun r_7 h_7 p_7 => ?_)
    obtain ⟨rfl, o_7⟩ := p_7
    rcases o_7 with ⟨rfl, o_7⟩ | ⟨rfl, o_7⟩
    · skip
      refine e_steps 3 (σ' := (15, [(0, .ref 0), (1, .int (nI s)), (2, .int (nI i)), (3, .int (nI j))], [.int (nI j), .int (nI s)], (MH g kept was isKept tape fed pos tlen flt ranking paper written pairs above below isDone dist rowv rowMany lsz itm weakAbove weakBelow))) rfl ?_
      refine e_call (y := 131) (av := [.int (nI s), .int (nI j)]) (rest := []) rfl (c_X6_has (d + 0) (by first | assumption | omega | rfl | trivial | exact ⟨by assumption, by assumption, by assumption, by omega⟩ | exact (fun q => absurd q.1 (by omega)) | exact (fun q => by have := q.2.2.2; omega) | exact (fun q => by have h1 := q.2.1; have h2 := q.2.2.1; simp_all)) (by first | assumption | omega | rfl | trivial | exact ⟨by assumption, by assumption, by assumption, by omega⟩ | exact (fun q => absurd q.1 (by omega)) | exact (fun q => by have := q.2.2.2; omega) | exact (fun q => by have h1 := q.2.1; have h2 := q.2.2.1; simp_all))) (fun r_15 h_15 p_15 => ?_)
      obtain ⟨rfl, o_15⟩ := p_15
      rcases o_15 with ⟨rfl, o_15⟩ | ⟨rfl, o_15⟩
      · skip
        have hi2 := z_bit_n hs o_7; have hj2 := z_bit_n hs o_15; have hb1 := (hP i hi2 j hj2).2; have hb2 := (hP j hj2 i hi2).2
        refine e_steps 4 (σ' := (24, [(0, .ref 0), (1, .int (nI s)), (2, .int (nI i)), (3, .int (nI j))], [.int (nI j), .int (nI i), .ref 0], (MH g kept was isKept tape fed pos tlen flt ranking paper written pairs above below isDone dist rowv rowMany lsz itm weakAbove weakBelow))) rfl ?_
        refine e_call (y := 174) (av := [.ref 0, .int (nI i), .int (nI j)]) (rest := []) rfl (c_X6_over (d + 0) (n := n) (outs := outs) (bm := bm) (ms := ms) (dr := dr) (cn := cn) (pl := pl) (F := F) (by first | assumption | omega | rfl | trivial | exact ⟨by assumption, by assumption, by assumption, by omega⟩ | exact (fun q => absurd q.1 (by omega)) | exact (fun q => by have := q.2.2.2; omega) | exact (fun q => by have h1 := q.2.1; have h2 := q.2.2.1; simp_all)) (by first | assumption | omega | rfl | trivial | exact ⟨by assumption, by assumption, by assumption, by omega⟩ | exact (fun q => absurd q.1 (by omega)) | exact (fun q => by have := q.2.2.2; omega) | exact (fun q => by have h1 := q.2.1; have h2 := q.2.2.1; simp_all)) (by first | assumption | omega | rfl | trivial | exact ⟨by assumption, by assumption, by assumption, by omega⟩ | exact (fun q => absurd q.1 (by omega)) | exact (fun q => by have := q.2.2.2; omega) | exact (fun q => by have h1 := q.2.1; have h2 := q.2.2.1; simp_all)) (by first | assumption | omega | rfl | trivial | exact ⟨by assumption, by assumption, by assumption, by omega⟩ | exact (fun q => absurd q.1 (by omega)) | exact (fun q => by have := q.2.2.2; omega) | exact (fun q => by have h1 := q.2.1; have h2 := q.2.2.1; simp_all))) (fun r_24 h_24 p_24 => ?_)
        obtain ⟨rfl, rfl⟩ := p_24
        refine e_steps 3 (σ' := (30, [(0, .ref 0), (1, .int (nI s)), (2, .int (nI i)), (3, .int (nI j))], [.int (nI i), .int (nI j), .ref 0, .long (lN (F i j))], (MH g kept was isKept tape fed pos tlen flt ranking paper written pairs above below isDone dist rowv rowMany lsz itm weakAbove weakBelow))) rfl ?_
        refine e_call (y := 174) (av := [.ref 0, .int (nI j), .int (nI i)]) (rest := [.long (lN (F i j))]) rfl (c_X6_over (d + 0) (n := n) (outs := outs) (bm := bm) (ms := ms) (dr := dr) (cn := cn) (pl := pl) (F := F) (by first | assumption | omega | rfl | trivial | exact ⟨by assumption, by assumption, by assumption, by omega⟩ | exact (fun q => absurd q.1 (by omega)) | exact (fun q => by have := q.2.2.2; omega) | exact (fun q => by have h1 := q.2.1; have h2 := q.2.2.1; simp_all)) (by first | assumption | omega | rfl | trivial | exact ⟨by assumption, by assumption, by assumption, by omega⟩ | exact (fun q => absurd q.1 (by omega)) | exact (fun q => by have := q.2.2.2; omega) | exact (fun q => by have h1 := q.2.1; have h2 := q.2.2.1; simp_all)) (by first | assumption | omega | rfl | trivial | exact ⟨by assumption, by assumption, by assumption, by omega⟩ | exact (fun q => absurd q.1 (by omega)) | exact (fun q => by have := q.2.2.2; omega) | exact (fun q => by have h1 := q.2.1; have h2 := q.2.2.1; simp_all)) (by first | assumption | omega | rfl | trivial | exact ⟨by assumption, by assumption, by assumption, by omega⟩ | exact (fun q => absurd q.1 (by omega)) | exact (fun q => by have := q.2.2.2; omega) | exact (fun q => by have h1 := q.2.1; have h2 := q.2.2.1; simp_all))) (fun r_30 h_30 p_30 => ?_)
        obtain ⟨rfl, rfl⟩ := p_30
        refine e_steps 1 (σ' := (34, [(0, .ref 0), (1, .int (nI s)), (2, .int (nI i)), (3, .int (nI j))], [.int ((lg_cmp (lN (F i j)) (lN (F j i))))], (MH g kept was isKept tape fed pos tlen flt ranking paper written pairs above below isDone dist rowv rowMany lsz itm weakAbove weakBelow))) rfl ?_
        refine e_if (c := lg_cmp (lN (F i j)) (lN (F j i)) ≤ 0) rfl (fun c_33 => ?_) (fun c_33 => ?_)
        · rw [lg_cmp_le] at c_33
          rw [pk_lLE (by omega) (by omega)] at c_33
          refine e_steps 1 (σ' := (42, [(0, .ref 0), (1, .int (nI s)), (2, .int (nI i)), (3, .int (nI j))], [.int (nI 0)], (MH g kept was isKept tape fed pos tlen flt ranking paper written pairs above below isDone dist rowv rowMany lsz itm weakAbove weakBelow))) rfl ?_
          exact e_ret rfl (Or.inl rfl) (hR _ _ ⟨rfl, Or.inr ⟨rfl, (by first | assumption | omega | rfl | trivial | exact ⟨by assumption, by assumption, by assumption, by omega⟩ | exact (fun q => absurd q.1 (by omega)) | exact (fun q => by have := q.2.2.2; omega) | exact (fun q => by have h1 := q.2.1; have h2 := q.2.2.1; simp_all))⟩⟩)
        · rw [lg_cmp_le] at c_33
          rw [pk_lLE (by omega) (by omega)] at c_33
          refine e_steps 2 (σ' := (42, [(0, .ref 0), (1, .int (nI s)), (2, .int (nI i)), (3, .int (nI j))], [.int (nI 1)], (MH g kept was isKept tape fed pos tlen flt ranking paper written pairs above below isDone dist rowv rowMany lsz itm weakAbove weakBelow))) rfl ?_
          exact e_ret rfl (Or.inr rfl) (hR _ _ ⟨rfl, Or.inl ⟨rfl, (by first | assumption | omega | rfl | trivial | exact ⟨by assumption, by assumption, by assumption, by omega⟩ | exact (fun q => absurd q.1 (by omega)) | exact (fun q => by have := q.2.2.2; omega) | exact (fun q => by have h1 := q.2.1; have h2 := q.2.2.1; simp_all))⟩⟩)
      · skip
        refine e_steps 2 (σ' := (42, [(0, .ref 0), (1, .int (nI s)), (2, .int (nI i)), (3, .int (nI j))], [.int (nI 0)], (MH g kept was isKept tape fed pos tlen flt ranking paper written pairs above below isDone dist rowv rowMany lsz itm weakAbove weakBelow))) rfl ?_
        exact e_ret rfl (Or.inl rfl) (hR _ _ ⟨rfl, Or.inr ⟨rfl, (by first | assumption | omega | rfl | trivial | exact ⟨by assumption, by assumption, by assumption, by omega⟩ | exact (fun q => absurd q.1 (by omega)) | exact (fun q => by have := q.2.2.2; omega) | exact (fun q => by have h1 := q.2.1; have h2 := q.2.2.1; simp_all))⟩⟩)
    · skip
      refine e_steps 2 (σ' := (42, [(0, .ref 0), (1, .int (nI s)), (2, .int (nI i)), (3, .int (nI j))], [.int (nI 0)], (MH g kept was isKept tape fed pos tlen flt ranking paper written pairs above below isDone dist rowv rowMany lsz itm weakAbove weakBelow))) rfl ?_
      exact e_ret rfl (Or.inl rfl) (hR _ _ ⟨rfl, Or.inr ⟨rfl, (by first | assumption | omega | rfl | trivial | exact ⟨by assumption, by assumption, by assumption, by omega⟩ | exact (fun q => absurd q.1 (by omega)) | exact (fun q => by have := q.2.2.2; omega) | exact (fun q => by have h1 := q.2.1; have h2 := q.2.2.1; simp_all))⟩⟩)
theorem c_X6_links (d : Nat) {g : Nat → Int32} {kept : Nat → Int32} {was : Nat → Int32} {isKept : Int32} {tape : Nat → Int32} {fed : Int32} {pos : Int32} {tlen : Int32} {flt : Int32} {ranking : Nat → Int32} {paper : Nat → Int32} {written : Int32} {pairs : Nat → Int64} {above : Nat → Int64} {below : Nat → Int64} {isDone : Nat → Int32} {dist : Nat → Int32} {rowv : Nat → Int32} {rowMany : Int32} {lsz : Nat → Int32} {itm : Nat → Int64} {weakAbove : Int64} {weakBelow : Int64} {n : Nat} {outs : Nat} {bm : Nat} {ms : Nat} {dr : Nat → Nat} {cn : Nat → Nat} {pl : Nat → Nat → Nat} (hG : z_GI g n outs bm ms dr cn pl) : z_CAL (d + 3) 229 [.ref 0] (MH g kept was isKept tape fed pos tlen flt ranking paper written pairs above below isDone dist rowv rowMany lsz itm weakAbove weakBelow) (fun r h2 => ∃ (pairs2 : Nat → Int64) (v : Nat), r = some (.int (nI v)) ∧ h2 = (MH g kept was isKept tape fed pos tlen flt ranking paper written pairs2 above below isDone dist rowv rowMany lsz itm weakAbove weakBelow) ∧ (v = z_ct 64 (fun k => z_lnkb (z_dif (2 ^ n - 1) outs) (z_for bm cn pl) (k / 8) (k % 8)))) := by
  refine e_of2 (q := zmX6_links) rfl rfl (fun R hR => ?_)
  obtain ⟨⟨hn0, hn2, hn8⟩, ⟨ho0, ho8, hin⟩, ⟨hb0, hb40⟩, ⟨hm0, hm4⟩, ⟨hdr, hdl, hdc⟩, hcn, hpl⟩ := id hG; have hp8 := z_p2 hn8; have ho256 : outs < 256 := (by omega); have hi256 : z_dif (2 ^ n - 1) outs < 256 := (by have := z_dif_le (s := 2 ^ n - 1) (t := outs); omega)
  refine e_steps 1 (σ' := (1, [(0, .ref 0)], [.ref 0], (MH g kept was isKept tape fed pos tlen flt ranking paper written pairs above below isDone dist rowv rowMany lsz itm weakAbove weakBelow))) rfl ?_
  refine e_call (y := 172) (av := [.ref 0]) (rest := []) rfl (c_X6_countsAll (d + 0) (n := n) (outs := outs) (bm := bm) (ms := ms) (dr := dr) (cn := cn) (pl := pl) (by first | assumption | omega | rfl | trivial)) (fun r_1 h_1 p_1 => ?_)
  obtain ⟨pairs_1, rfl, rfl, q_1⟩ := p_1
  refine e_steps 4 (σ' := (8, [(2, .int (nI 0)), (1, .int (nI 0)), (0, .ref 0)], [], (MH g kept was isKept tape fed pos tlen flt ranking paper written pairs_1 above below isDone dist rowv rowMany lsz itm weakAbove weakBelow))) rfl ?_
  have loop_8 : ∀ (z_8 : Nat) (cnt : Nat) (k : Nat), 64 - k < z_8 → (k ≤ 64 ∧ cnt = z_ct k (fun k => z_lnkb (z_dif (2 ^ n - 1) outs) (z_for bm cn pl) (k / 8) (k % 8))) → z_EV (d + 2) zmX6_links R (8, [(0, .ref 0), (1, .int (nI cnt)), (2, .int (nI k))], [], (MH g kept was isKept tape fed pos tlen flt ranking paper written pairs_1 above below isDone dist rowv rowMany lsz itm weakAbove weakBelow)) := by
    intro z_8
    induction z_8 with
    | zero => intro cnt k hm_8 _; exact absurd hm_8 (Nat.not_lt_zero _)
    | succ z_8 ih_8 =>
      intro cnt k hm_8 hi_8
      obtain ⟨l1, l2⟩ := hi_8; have hm8 := z_m8 k; have hct := z_ct_le (fun k => z_lnkb (z_dif (2 ^ n - 1) outs) (z_for bm cn pl) (k / 8) (k % 8)) k
      refine e_steps 2 (σ' := (11, [(0, .ref 0), (1, .int (nI cnt)), (2, .int (nI k))], [.int (nI 64), .int (nI k)], (MH g kept was isKept tape fed pos tlen flt ranking paper written pairs_1 above below isDone dist rowv rowMany lsz itm weakAbove weakBelow))) rfl ?_
      refine e_if (c := nI 64 ≤ nI k) rfl (fun c_11 => ?_) (fun c_11 => ?_)
      · skip
        rw [nI_leI (by omega) (by omega)] at c_11
        refine e_steps 1 (σ' := (48, [(0, .ref 0), (1, .int (nI cnt)), (2, .int (nI k))], [.int (nI cnt)], (MH g kept was isKept tape fed pos tlen flt ranking paper written pairs_1 above below isDone dist rowv rowMany lsz itm weakAbove weakBelow))) rfl ?_
        exact e_ret rfl (trivial) (hR _ _ ⟨pairs_1, cnt, rfl, rfl, (by rw [l2, show k = 64 by omega])⟩)
      · skip
        rw [nI_leI (by omega) (by omega)] at c_11
        refine e_steps 3 (σ' := (17, [(0, .ref 0), (1, .int (nI cnt)), (2, .int (nI k))], [.ref 0, .ref 0, .int (nI cnt)], (MH g kept was isKept tape fed pos tlen flt ranking paper written pairs_1 above below isDone dist rowv rowMany lsz itm weakAbove weakBelow))) rfl ?_
        refine e_call (y := 134) (av := [.ref 0]) (rest := [.ref 0, .int (nI cnt)]) rfl (c_X6_ins (d + 0) (n := n) (outs := outs) (bm := bm) (ms := ms) (dr := dr) (cn := cn) (pl := pl) (by first | assumption | omega | rfl | trivial)) (fun r_17 h_17 p_17 => ?_)
        obtain ⟨rfl, rfl⟩ := p_17
        refine e_steps 2 (σ' := (23, [(0, .ref 0), (1, .int (nI cnt)), (2, .int (nI k))], [.int (nI 8), .int (nI k), .int (nI (z_dif (2 ^ n - 1) outs)), .ref 0, .int (nI cnt)], (MH g kept was isKept tape fed pos tlen flt ranking paper written pairs_1 above below isDone dist rowv rowMany lsz itm weakAbove weakBelow))) rfl ?_
        refine e_gd (c := ¬ (nI 8) = 0) rfl (by decide) ?_
        refine e_steps 0 (σ' := (24, [(0, .ref 0), (1, .int (nI cnt)), (2, .int (nI k))], [.int (((nI k) / (nI 8))), .int (nI (z_dif (2 ^ n - 1) outs)), .ref 0, .int (nI cnt)], (MH g kept was isKept tape fed pos tlen flt ranking paper written pairs_1 above below isDone dist rowv rowMany lsz itm weakAbove weakBelow))) rfl ?_
        have er_23 : ((nI k) / (nI 8)) = nI (k / 8) := z_divI (by omega) (by decide) (by decide)
        rw [er_23]
        refine e_steps 2 (σ' := (27, [(0, .ref 0), (1, .int (nI cnt)), (2, .int (nI k))], [.int (nI 8), .int (nI k), .int (nI (k / 8)), .int (nI (z_dif (2 ^ n - 1) outs)), .ref 0, .int (nI cnt)], (MH g kept was isKept tape fed pos tlen flt ranking paper written pairs_1 above below isDone dist rowv rowMany lsz itm weakAbove weakBelow))) rfl ?_
        refine e_gd (c := ¬ (nI 8) = 0) rfl (by decide) ?_
        refine e_steps 0 (σ' := (28, [(0, .ref 0), (1, .int (nI cnt)), (2, .int (nI k))], [.int (((nI k) - (nI k) / (nI 8) * (nI 8))), .int (nI (k / 8)), .int (nI (z_dif (2 ^ n - 1) outs)), .ref 0, .int (nI cnt)], (MH g kept was isKept tape fed pos tlen flt ranking paper written pairs_1 above below isDone dist rowv rowMany lsz itm weakAbove weakBelow))) rfl ?_
        have er_27 : ((nI k) - (nI k) / (nI 8) * (nI 8)) = nI (k % 8) := pk_rem (by omega) (by decide) (by decide)
        rw [er_27]
        refine e_call (y := 176) (av := [.ref 0, .int (nI (z_dif (2 ^ n - 1) outs)), .int (nI (k / 8)), .int (nI (k % 8))]) (rest := [.int (nI cnt)]) rfl (c_X6_isLink_8 (d + 0) (n := n) (outs := outs) (bm := bm) (ms := ms) (dr := dr) (cn := cn) (pl := pl) (F := (z_for bm cn pl)) (by first | assumption | omega | rfl | trivial) (by exact q_1) (by exact z_ins_lt) (by first | assumption | omega | rfl | trivial) (by first | assumption | omega | rfl | trivial)) (fun r_28 h_28 p_28 => ?_)
        obtain ⟨rfl, o_28⟩ := p_28
        rcases o_28 with ⟨rfl, o_28⟩ | ⟨rfl, o_28⟩
        · skip
          refine e_steps 3 (σ' := (39, [(0, .ref 0), (1, .int (nI cnt)), (2, .int (nI k))], [.int (nI 1), .int (nI cnt)], (MH g kept was isKept tape fed pos tlen flt ranking paper written pairs_1 above below isDone dist rowv rowMany lsz itm weakAbove weakBelow))) rfl ?_
          refine e_add (cnt + 1) rfl (by first | rfl | omega) ?_
          refine e_steps 1 (σ' := (41, [(1, .int (nI (cnt + 1))), (0, .ref 0), (2, .int (nI k))], [], (MH g kept was isKept tape fed pos tlen flt ranking paper written pairs_1 above below isDone dist rowv rowMany lsz itm weakAbove weakBelow))) rfl ?_
          refine e_inc (n := 1) rfl rfl rfl (k + 1) (by rfl) [(2, .int (nI (k + 1))), (1, .int (nI (cnt + 1))), (0, .ref 0)] rfl ?_
          refine e_steps 1 (σ' := (8, [(2, .int (nI (k + 1))), (1, .int (nI (cnt + 1))), (0, .ref 0)], [], (MH g kept was isKept tape fed pos tlen flt ranking paper written pairs_1 above below isDone dist rowv rowMany lsz itm weakAbove weakBelow))) rfl ?_
          refine e_sub [2, 1, 0] rfl ?_
          exact ih_8 (cnt + 1) (k + 1) (by omega) (by first | exact ⟨by omega, by rw [z_ct_T (p := (fun k => z_lnkb (z_dif (2 ^ n - 1) outs) (z_for bm cn pl) (k / 8) (k % 8))) (z_lnkb_T o_28), l2]⟩ | exact ⟨by omega, by rw [z_ct_F (p := (fun k => z_lnkb (z_dif (2 ^ n - 1) outs) (z_for bm cn pl) (k / 8) (k % 8))) (z_lnkb_F o_28), l2]⟩)
        · skip
          refine e_steps 2 (σ' := (39, [(0, .ref 0), (1, .int (nI cnt)), (2, .int (nI k))], [.int (nI 0), .int (nI cnt)], (MH g kept was isKept tape fed pos tlen flt ranking paper written pairs_1 above below isDone dist rowv rowMany lsz itm weakAbove weakBelow))) rfl ?_
          refine e_add (cnt) rfl (by first | rfl | omega) ?_
          refine e_steps 1 (σ' := (41, [(1, .int (nI cnt)), (0, .ref 0), (2, .int (nI k))], [], (MH g kept was isKept tape fed pos tlen flt ranking paper written pairs_1 above below isDone dist rowv rowMany lsz itm weakAbove weakBelow))) rfl ?_
          refine e_inc (n := 1) rfl rfl rfl (k + 1) (by rfl) [(2, .int (nI (k + 1))), (1, .int (nI cnt)), (0, .ref 0)] rfl ?_
          refine e_steps 1 (σ' := (8, [(2, .int (nI (k + 1))), (1, .int (nI cnt)), (0, .ref 0)], [], (MH g kept was isKept tape fed pos tlen flt ranking paper written pairs_1 above below isDone dist rowv rowMany lsz itm weakAbove weakBelow))) rfl ?_
          refine e_sub [2, 1, 0] rfl ?_
          exact ih_8 cnt (k + 1) (by omega) (by first | exact ⟨by omega, by rw [z_ct_T (p := (fun k => z_lnkb (z_dif (2 ^ n - 1) outs) (z_for bm cn pl) (k / 8) (k % 8))) (z_lnkb_T o_28), l2]⟩ | exact ⟨by omega, by rw [z_ct_F (p := (fun k => z_lnkb (z_dif (2 ^ n - 1) outs) (z_for bm cn pl) (k / 8) (k % 8))) (z_lnkb_F o_28), l2]⟩)
  refine e_sub [2, 1, 0] rfl ?_
  exact loop_8 _ 0 0 (Nat.lt_succ_self _) (by exact ⟨by omega, rfl⟩)
theorem c_X6_allBeaten (d : Nat) {g : Nat → Int32} {kept : Nat → Int32} {was : Nat → Int32} {isKept : Int32} {tape : Nat → Int32} {fed : Int32} {pos : Int32} {tlen : Int32} {flt : Int32} {ranking : Nat → Int32} {paper : Nat → Int32} {written : Int32} {pairs : Nat → Int64} {above : Nat → Int64} {below : Nat → Int64} {isDone : Nat → Int32} {dist : Nat → Int32} {rowv : Nat → Int32} {rowMany : Int32} {lsz : Nat → Int32} {itm : Nat → Int64} {weakAbove : Int64} {weakBelow : Int64} {n : Nat} {outs : Nat} {bm : Nat} {ms : Nat} {dr : Nat → Nat} {cn : Nat → Nat} {pl : Nat → Nat → Nat} (hG : z_GI g n outs bm ms dr cn pl) : z_CAL (d + 7) 230 [.ref 0] (MH g kept was isKept tape fed pos tlen flt ranking paper written pairs above below isDone dist rowv rowMany lsz itm weakAbove weakBelow) (fun r h2 => ∃ (pairs2 : Nat → Int64) (ab2 : Nat → Int64) (be2 : Nat → Int64) (dn2 : Nat → Int32) (v : Nat), r = some (.int (nI v)) ∧ h2 = (MH g kept was isKept tape fed pos tlen flt ranking paper written pairs2 ab2 be2 dn2 dist rowv rowMany lsz itm weakAbove weakBelow) ∧ (∃ K, z_rows (z_LS ms (z_dif (2 ^ n - 1) outs) (z_for bm cn pl)) n K ∧ v = z_sum n (fun i => z_ct n (fun j => z_btb K i j)))) := by
  refine e_of2 (q := zmX6_allBeaten) rfl rfl (fun R hR => ?_)
  obtain ⟨⟨hn0, hn2, hn8⟩, ⟨ho0, ho8, hin⟩, ⟨hb0, hb40⟩, ⟨hm0, hm4⟩, ⟨hdr, hdl, hdc⟩, hcn, hpl⟩ := id hG; have hp8 := z_p2 hn8; have ho256 : outs < 256 := (by omega); have hi256 : z_dif (2 ^ n - 1) outs < 256 := (by have := z_dif_le (s := 2 ^ n - 1) (t := outs); omega)
  refine e_steps 1 (σ' := (1, [(0, .ref 0)], [.ref 0], (MH g kept was isKept tape fed pos tlen flt ranking paper written pairs above below isDone dist rowv rowMany lsz itm weakAbove weakBelow))) rfl ?_
  refine e_call (y := 185) (av := [.ref 0]) (rest := []) rfl (c_X6_waysNow (d + 0) (n := n) (outs := outs) (bm := bm) (ms := ms) (dr := dr) (cn := cn) (pl := pl) (by first | assumption | omega | rfl | trivial)) (fun r_1 h_1 p_1 => ?_)
  obtain ⟨pairs_1, above_1, below_1, isDone_1, rfl, rfl, q_1⟩ := p_1
  obtain ⟨hP2, K, hW⟩ := q_1
  refine e_steps 4 (σ' := (8, [(2, .int (nI 0)), (1, .int (nI 0)), (0, .ref 0)], [], (MH g kept was isKept tape fed pos tlen flt ranking paper written pairs_1 above_1 below_1 isDone_1 dist rowv rowMany lsz itm weakAbove weakBelow))) rfl ?_
  have loop_8 : ∀ (z_8 : Nat) (cnt : Nat) (i : Nat), n - i < z_8 → (i ≤ n ∧ cnt = z_sum i (fun i => z_ct n (fun j => z_btb K i j))) → z_EV (d + 6) zmX6_allBeaten R (8, [(0, .ref 0), (1, .int (nI cnt)), (2, .int (nI i))], [], (MH g kept was isKept tape fed pos tlen flt ranking paper written pairs_1 above_1 below_1 isDone_1 dist rowv rowMany lsz itm weakAbove weakBelow)) := by
    intro z_8
    induction z_8 with
    | zero => intro cnt i hm_8 _; exact absurd hm_8 (Nat.not_lt_zero _)
    | succ z_8 ih_8 =>
      intro cnt i hm_8 hi_8
      obtain ⟨l1, l2⟩ := hi_8
      refine e_steps 4 (σ' := (14, [(0, .ref 0), (1, .int (nI cnt)), (2, .int (nI i))], [.int (nI 0), .ref 1, .int (nI i)], (MH g kept was isKept tape fed pos tlen flt ranking paper written pairs_1 above_1 below_1 isDone_1 dist rowv rowMany lsz itm weakAbove weakBelow))) rfl ?_
      refine e_ial (nI n) rfl rfl (by first | assumption | omega | rfl | trivial) (by decide) (hn0) ?_
      refine e_steps 0 (σ' := (15, [(0, .ref 0), (1, .int (nI cnt)), (2, .int (nI i))], [.int (nI n), .int (nI i)], (MH g kept was isKept tape fed pos tlen flt ranking paper written pairs_1 above_1 below_1 isDone_1 dist rowv rowMany lsz itm weakAbove weakBelow))) rfl ?_
      refine e_if (c := nI n ≤ nI i) rfl (fun c_15 => ?_) (fun c_15 => ?_)
      · skip
        rw [nI_leI (by omega) (by omega)] at c_15
        refine e_steps 1 (σ' := (66, [(0, .ref 0), (1, .int (nI cnt)), (2, .int (nI i))], [.int (nI cnt)], (MH g kept was isKept tape fed pos tlen flt ranking paper written pairs_1 above_1 below_1 isDone_1 dist rowv rowMany lsz itm weakAbove weakBelow))) rfl ?_
        exact e_ret rfl (trivial) (hR _ _ ⟨pairs_1, above_1, below_1, isDone_1, cnt, rfl, rfl, (by exact ⟨K, hW.2, by rw [l2, show i = n by omega]⟩)⟩)
      · skip
        rw [nI_leI (by omega) (by omega)] at c_15
        refine e_steps 2 (σ' := (20, [(3, .int (nI 0)), (0, .ref 0), (1, .int (nI cnt)), (2, .int (nI i))], [], (MH g kept was isKept tape fed pos tlen flt ranking paper written pairs_1 above_1 below_1 isDone_1 dist rowv rowMany lsz itm weakAbove weakBelow))) rfl ?_
        have loop_20 : ∀ (z_20 : Nat) (cn2 : Nat) (j : Nat), n - j < z_20 → (j ≤ n ∧ cn2 = z_sum i (fun i => z_ct n (fun j => z_btb K i j)) + z_ct j (fun j => z_btb K i j)) → z_EV (d + 6) zmX6_allBeaten R (20, [(0, .ref 0), (1, .int (nI cn2)), (2, .int (nI i)), (3, .int (nI j))], [], (MH g kept was isKept tape fed pos tlen flt ranking paper written pairs_1 above_1 below_1 isDone_1 dist rowv rowMany lsz itm weakAbove weakBelow)) := by
          intro z_20
          induction z_20 with
          | zero => intro cn2 j hm_20 _; exact absurd hm_20 (Nat.not_lt_zero _)
          | succ z_20 ih_20 =>
            intro cn2 j hm_20 hi_20
            obtain ⟨m1, m2⟩ := hi_20
            refine e_steps 4 (σ' := (26, [(0, .ref 0), (1, .int (nI cn2)), (2, .int (nI i)), (3, .int (nI j))], [.int (nI 0), .ref 1, .int (nI j)], (MH g kept was isKept tape fed pos tlen flt ranking paper written pairs_1 above_1 below_1 isDone_1 dist rowv rowMany lsz itm weakAbove weakBelow))) rfl ?_
            refine e_ial (nI n) rfl rfl (by first | assumption | omega | rfl | trivial) (by decide) (hn0) ?_
            refine e_steps 0 (σ' := (27, [(0, .ref 0), (1, .int (nI cn2)), (2, .int (nI i)), (3, .int (nI j))], [.int (nI n), .int (nI j)], (MH g kept was isKept tape fed pos tlen flt ranking paper written pairs_1 above_1 below_1 isDone_1 dist rowv rowMany lsz itm weakAbove weakBelow))) rfl ?_
            refine e_if (c := nI n ≤ nI j) rfl (fun c_27 => ?_) (fun c_27 => ?_)
            · skip
              rw [nI_leI (by omega) (by omega)] at c_27
              refine e_steps 0 (σ' := (59, [(0, .ref 0), (1, .int (nI cn2)), (2, .int (nI i)), (3, .int (nI j))], [], (MH g kept was isKept tape fed pos tlen flt ranking paper written pairs_1 above_1 below_1 isDone_1 dist rowv rowMany lsz itm weakAbove weakBelow))) rfl ?_
              refine e_inc (n := 1) rfl rfl rfl (i + 1) (by rfl) [(2, .int (nI (i + 1))), (0, .ref 0), (1, .int (nI cn2)), (3, .int (nI j))] rfl ?_
              refine e_steps 1 (σ' := (8, [(2, .int (nI (i + 1))), (0, .ref 0), (1, .int (nI cn2)), (3, .int (nI j))], [], (MH g kept was isKept tape fed pos tlen flt ranking paper written pairs_1 above_1 below_1 isDone_1 dist rowv rowMany lsz itm weakAbove weakBelow))) rfl ?_
              refine e_sub [1, 2, 0] rfl ?_
              exact ih_8 cn2 (i + 1) (by omega) (by exact ⟨by omega, by rw [m2, show j = n by omega]; rfl⟩)
            · skip
              rw [nI_leI (by omega) (by omega)] at c_27
              refine e_steps 5 (σ' := (37, [(0, .ref 0), (1, .int (nI cn2)), (2, .int (nI i)), (3, .int (nI j))], [.int (nI 3), .ref 1, .ref 0, .int (nI cn2)], (MH g kept was isKept tape fed pos tlen flt ranking paper written pairs_1 above_1 below_1 isDone_1 dist rowv rowMany lsz itm weakAbove weakBelow))) rfl ?_
              refine e_ial (nI ms) rfl rfl (by first | assumption | omega | rfl | trivial) (by decide) (hm0) ?_
              refine e_steps 2 (σ' := (40, [(0, .ref 0), (1, .int (nI cn2)), (2, .int (nI i)), (3, .int (nI j))], [.int (nI j), .int (nI i), .int (nI ms), .ref 0, .int (nI cn2)], (MH g kept was isKept tape fed pos tlen flt ranking paper written pairs_1 above_1 below_1 isDone_1 dist rowv rowMany lsz itm weakAbove weakBelow))) rfl ?_
              refine e_call (y := 196) (av := [.ref 0, .int (nI ms), .int (nI i), .int (nI j)]) (rest := [.int (nI cn2)]) rfl (c_X6_doesBeat (d + 3) (n := n) (outs := outs) (bm := bm) (ms := ms) (dr := dr) (cn := cn) (pl := pl) (s := (z_dif (2 ^ n - 1) outs)) (F := (z_for bm cn pl)) (K := K) (by first | assumption | omega | rfl | trivial) (by exact hW) (by first | assumption | omega | rfl | trivial) (by first | assumption | omega | rfl | trivial) (by first | assumption | omega | rfl | trivial)) (fun r_40 h_40 p_40 => ?_)
              obtain ⟨rfl, o_40⟩ := p_40
              rcases o_40 with ⟨rfl, o_40⟩ | ⟨rfl, o_40⟩
              · skip
                refine e_steps 3 (σ' := (51, [(0, .ref 0), (1, .int (nI cn2)), (2, .int (nI i)), (3, .int (nI j))], [.int (nI 1), .int (nI cn2)], (MH g kept was isKept tape fed pos tlen flt ranking paper written pairs_1 above_1 below_1 isDone_1 dist rowv rowMany lsz itm weakAbove weakBelow))) rfl ?_
                refine e_add (cn2 + 1) rfl (by first | rfl | omega) ?_
                refine e_steps 1 (σ' := (53, [(1, .int (nI (cn2 + 1))), (0, .ref 0), (2, .int (nI i)), (3, .int (nI j))], [], (MH g kept was isKept tape fed pos tlen flt ranking paper written pairs_1 above_1 below_1 isDone_1 dist rowv rowMany lsz itm weakAbove weakBelow))) rfl ?_
                refine e_inc (n := 1) rfl rfl rfl (j + 1) (by rfl) [(3, .int (nI (j + 1))), (1, .int (nI (cn2 + 1))), (0, .ref 0), (2, .int (nI i))] rfl ?_
                refine e_steps 1 (σ' := (20, [(3, .int (nI (j + 1))), (1, .int (nI (cn2 + 1))), (0, .ref 0), (2, .int (nI i))], [], (MH g kept was isKept tape fed pos tlen flt ranking paper written pairs_1 above_1 below_1 isDone_1 dist rowv rowMany lsz itm weakAbove weakBelow))) rfl ?_
                refine e_sub [2, 1, 3, 0] rfl ?_
                exact ih_20 (cn2 + 1) (j + 1) (by omega) (by first | exact ⟨by omega, by rw [z_ct_T (p := fun j => z_btb K i j) (i := j) o_40, m2]; omega⟩ | exact ⟨by omega, by rw [z_ct_F (p := fun j => z_btb K i j) (i := j) o_40, m2]⟩)
              · skip
                refine e_steps 2 (σ' := (51, [(0, .ref 0), (1, .int (nI cn2)), (2, .int (nI i)), (3, .int (nI j))], [.int (nI 0), .int (nI cn2)], (MH g kept was isKept tape fed pos tlen flt ranking paper written pairs_1 above_1 below_1 isDone_1 dist rowv rowMany lsz itm weakAbove weakBelow))) rfl ?_
                refine e_add (cn2) rfl (by first | rfl | omega) ?_
                refine e_steps 1 (σ' := (53, [(1, .int (nI cn2)), (0, .ref 0), (2, .int (nI i)), (3, .int (nI j))], [], (MH g kept was isKept tape fed pos tlen flt ranking paper written pairs_1 above_1 below_1 isDone_1 dist rowv rowMany lsz itm weakAbove weakBelow))) rfl ?_
                refine e_inc (n := 1) rfl rfl rfl (j + 1) (by rfl) [(3, .int (nI (j + 1))), (1, .int (nI cn2)), (0, .ref 0), (2, .int (nI i))] rfl ?_
                refine e_steps 1 (σ' := (20, [(3, .int (nI (j + 1))), (1, .int (nI cn2)), (0, .ref 0), (2, .int (nI i))], [], (MH g kept was isKept tape fed pos tlen flt ranking paper written pairs_1 above_1 below_1 isDone_1 dist rowv rowMany lsz itm weakAbove weakBelow))) rfl ?_
                refine e_sub [2, 1, 3, 0] rfl ?_
                exact ih_20 cn2 (j + 1) (by omega) (by first | exact ⟨by omega, by rw [z_ct_T (p := fun j => z_btb K i j) (i := j) o_40, m2]; omega⟩ | exact ⟨by omega, by rw [z_ct_F (p := fun j => z_btb K i j) (i := j) o_40, m2]⟩)
        refine e_sub [1, 2, 3, 0] rfl ?_
        exact loop_20 _ cnt 0 (Nat.lt_succ_self _) (by exact ⟨by omega, by rw [l2]; rfl⟩)
  refine e_sub [2, 1, 0] rfl ?_
  exact loop_8 _ 0 0 (Nat.lt_succ_self _) (by exact ⟨by omega, rfl⟩)
theorem c_X6_told_ (d : Nat) {g : Nat → Int32} {kept : Nat → Int32} {was : Nat → Int32} {isKept : Int32} {tape : Nat → Int32} {fed : Int32} {pos : Int32} {tlen : Int32} {flt : Int32} {ranking : Nat → Int32} {paper : Nat → Int32} {written : Int32} {pairs : Nat → Int64} {above : Nat → Int64} {below : Nat → Int64} {isDone : Nat → Int32} {dist : Nat → Int32} {rowv : Nat → Int32} {rowMany : Int32} {lsz : Nat → Int32} {itm : Nat → Int64} {weakAbove : Int64} {weakBelow : Int64} {what : Int32} {n : Nat} {outs : Nat} {bm : Nat} {ms : Nat} {dr : Nat → Nat} {cn : Nat → Nat} {pl : Nat → Nat → Nat} (hG : z_GI g n outs bm ms dr cn pl) : z_CAL (d + 8) 231 [.ref 0, .int what] (MH g kept was isKept tape fed pos tlen flt ranking paper written pairs above below isDone dist rowv rowMany lsz itm weakAbove weakBelow) (fun r h2 => ∃ (pairs2 : Nat → Int64) (ab2 : Nat → Int64) (be2 : Nat → Int64) (dn2 : Nat → Int32) (v : Int32), r = some (.int v) ∧ h2 = (MH g kept was isKept tape fed pos tlen flt ranking paper written pairs2 ab2 be2 dn2 dist rowv rowMany lsz itm weakAbove weakBelow) ∧ ((what = nI 0 ∧ v = nI n) ∨ (what = nI 1 ∧ v = nI bm) ∨ (what = nI 2 ∧ v = nI (z_sum bm cn)) ∨ (what = nI 3 ∧ v = nI outs) ∨ (what = nI 4 ∧ v = nI ms) ∨ (what = nI 5 ∧ v = fed) ∨ (what = nI 6 ∧ v = written) ∨ (what = nI 7 ∧ v = nI (z_ct 64 (fun k => z_lnkb (z_dif (2 ^ n - 1) outs) (z_for bm cn pl) (k / 8) (k % 8)))) ∨ (what = nI 8 ∧ ∃ K, z_rows (z_LS ms (z_dif (2 ^ n - 1) outs) (z_for bm cn pl)) n K ∧ v = nI (z_sum n (fun i => z_ct n (fun j => z_btb K i j)))) ∨ ((what.toInt < 0 ∨ 8 < what.toInt) ∧ v = -nI 1))) := by
  refine e_of2 (q := zmX6_told_) rfl rfl (fun R hR => ?_)
  obtain ⟨⟨hn0, hn2, hn8⟩, ⟨ho0, ho8, hin⟩, ⟨hb0, hb40⟩, ⟨hm0, hm4⟩, ⟨hdr, hdl, hdc⟩, hcn, hpl⟩ := id hG; have hp8 := z_p2 hn8; have ho256 : outs < 256 := (by omega); have hi256 : z_dif (2 ^ n - 1) outs < 256 := (by have := z_dif_le (s := 2 ^ n - 1) (t := outs); omega)
  refine e_steps 1 (σ' := (1, [(0, .ref 0), (1, .int what)], [.int what], (MH g kept was isKept tape fed pos tlen flt ranking paper written pairs above below isDone dist rowv rowMany lsz itm weakAbove weakBelow))) rfl ?_
  rcases z_sw8 (what) with c_1 | c_1 | c_1 | c_1 | c_1 | c_1 | c_1 | c_1 | c_1 | c_1
  · refine e_one (σ' := (52, [(0, .ref 0), (1, .int what)], [], (MH g kept was isKept tape fed pos tlen flt ranking paper written pairs above below isDone dist rowv rowMany lsz itm weakAbove weakBelow))) (z_swi (k := 0) (off := (.ofNat 51)) rfl c_1 (by decide +kernel) (by decide +kernel) rfl) ?_
    skip
    refine e_steps 3 (σ' := (57, [(0, .ref 0), (1, .int what)], [.int (nI 0), .ref 1], (MH g kept was isKept tape fed pos tlen flt ranking paper written pairs above below isDone dist rowv rowMany lsz itm weakAbove weakBelow))) rfl ?_
    refine e_ial (nI n) rfl rfl (by first | assumption | omega | rfl | trivial) (by decide) (hn0) ?_
    refine e_steps 0 (σ' := (58, [(0, .ref 0), (1, .int what)], [.int (nI n)], (MH g kept was isKept tape fed pos tlen flt ranking paper written pairs above below isDone dist rowv rowMany lsz itm weakAbove weakBelow))) rfl ?_
    exact e_ret rfl (trivial) (hR _ _ ⟨pairs, above, below, isDone, (nI n), rfl, rfl, (by first | exact Or.inl ⟨c_1, rfl⟩ | exact Or.inr (Or.inl ⟨c_1, rfl⟩) | exact Or.inr (Or.inr (Or.inl ⟨c_1, rfl⟩)) | exact Or.inr (Or.inr (Or.inr (Or.inl ⟨c_1, rfl⟩))) | exact Or.inr (Or.inr (Or.inr (Or.inr (Or.inl ⟨c_1, rfl⟩)))) | exact Or.inr (Or.inr (Or.inr (Or.inr (Or.inr (Or.inl ⟨c_1, rfl⟩))))) | exact Or.inr (Or.inr (Or.inr (Or.inr (Or.inr (Or.inr (Or.inl ⟨c_1, rfl⟩)))))) | exact Or.inr (Or.inr (Or.inr (Or.inr (Or.inr (Or.inr (Or.inr (Or.inr (Or.inr ⟨c_1, rfl⟩)))))))))⟩)
  · refine e_one (σ' := (59, [(0, .ref 0), (1, .int what)], [], (MH g kept was isKept tape fed pos tlen flt ranking paper written pairs above below isDone dist rowv rowMany lsz itm weakAbove weakBelow))) (z_swi (k := 1) (off := (.ofNat 58)) rfl c_1 (by decide +kernel) (by decide +kernel) rfl) ?_
    skip
    refine e_steps 3 (σ' := (64, [(0, .ref 0), (1, .int what)], [.int (nI 2), .ref 1], (MH g kept was isKept tape fed pos tlen flt ranking paper written pairs above below isDone dist rowv rowMany lsz itm weakAbove weakBelow))) rfl ?_
    refine e_ial (nI bm) rfl rfl (by first | assumption | omega | rfl | trivial) (by decide) (hb0) ?_
    refine e_steps 0 (σ' := (65, [(0, .ref 0), (1, .int what)], [.int (nI bm)], (MH g kept was isKept tape fed pos tlen flt ranking paper written pairs above below isDone dist rowv rowMany lsz itm weakAbove weakBelow))) rfl ?_
    exact e_ret rfl (trivial) (hR _ _ ⟨pairs, above, below, isDone, (nI bm), rfl, rfl, (by first | exact Or.inl ⟨c_1, rfl⟩ | exact Or.inr (Or.inl ⟨c_1, rfl⟩) | exact Or.inr (Or.inr (Or.inl ⟨c_1, rfl⟩)) | exact Or.inr (Or.inr (Or.inr (Or.inl ⟨c_1, rfl⟩))) | exact Or.inr (Or.inr (Or.inr (Or.inr (Or.inl ⟨c_1, rfl⟩)))) | exact Or.inr (Or.inr (Or.inr (Or.inr (Or.inr (Or.inl ⟨c_1, rfl⟩))))) | exact Or.inr (Or.inr (Or.inr (Or.inr (Or.inr (Or.inr (Or.inl ⟨c_1, rfl⟩)))))) | exact Or.inr (Or.inr (Or.inr (Or.inr (Or.inr (Or.inr (Or.inr (Or.inr (Or.inr ⟨c_1, rfl⟩)))))))))⟩)
  · refine e_one (σ' := (66, [(0, .ref 0), (1, .int what)], [], (MH g kept was isKept tape fed pos tlen flt ranking paper written pairs above below isDone dist rowv rowMany lsz itm weakAbove weakBelow))) (z_swi (k := 2) (off := (.ofNat 65)) rfl c_1 (by decide +kernel) (by decide +kernel) rfl) ?_
    skip
    refine e_steps 1 (σ' := (67, [(0, .ref 0), (1, .int what)], [.ref 0], (MH g kept was isKept tape fed pos tlen flt ranking paper written pairs above below isDone dist rowv rowMany lsz itm weakAbove weakBelow))) rfl ?_
    refine e_call (y := 228) (av := [.ref 0]) (rest := []) rfl (c_X6_allCounts (d + 6) (n := n) (outs := outs) (bm := bm) (ms := ms) (dr := dr) (cn := cn) (pl := pl) (by first | assumption | omega | rfl | trivial)) (fun r_67 h_67 p_67 => ?_)
    obtain ⟨rfl, rfl⟩ := p_67
    refine e_steps 0 (σ' := (70, [(0, .ref 0), (1, .int what)], [.int (nI (z_sum bm cn))], (MH g kept was isKept tape fed pos tlen flt ranking paper written pairs above below isDone dist rowv rowMany lsz itm weakAbove weakBelow))) rfl ?_
    exact e_ret rfl (trivial) (hR _ _ ⟨pairs, above, below, isDone, (nI (z_sum bm cn)), rfl, rfl, (by first | exact Or.inl ⟨c_1, rfl⟩ | exact Or.inr (Or.inl ⟨c_1, rfl⟩) | exact Or.inr (Or.inr (Or.inl ⟨c_1, rfl⟩)) | exact Or.inr (Or.inr (Or.inr (Or.inl ⟨c_1, rfl⟩))) | exact Or.inr (Or.inr (Or.inr (Or.inr (Or.inl ⟨c_1, rfl⟩)))) | exact Or.inr (Or.inr (Or.inr (Or.inr (Or.inr (Or.inl ⟨c_1, rfl⟩))))) | exact Or.inr (Or.inr (Or.inr (Or.inr (Or.inr (Or.inr (Or.inl ⟨c_1, rfl⟩)))))) | exact Or.inr (Or.inr (Or.inr (Or.inr (Or.inr (Or.inr (Or.inr (Or.inr (Or.inr ⟨c_1, rfl⟩)))))))))⟩)
  · refine e_one (σ' := (71, [(0, .ref 0), (1, .int what)], [], (MH g kept was isKept tape fed pos tlen flt ranking paper written pairs above below isDone dist rowv rowMany lsz itm weakAbove weakBelow))) (z_swi (k := 3) (off := (.ofNat 70)) rfl c_1 (by decide +kernel) (by decide +kernel) rfl) ?_
    skip
    refine e_steps 3 (σ' := (76, [(0, .ref 0), (1, .int what)], [.int (nI 1), .ref 1], (MH g kept was isKept tape fed pos tlen flt ranking paper written pairs above below isDone dist rowv rowMany lsz itm weakAbove weakBelow))) rfl ?_
    refine e_ial (nI outs) rfl rfl (by first | assumption | omega | rfl | trivial) (by decide) (ho0) ?_
    refine e_steps 0 (σ' := (77, [(0, .ref 0), (1, .int what)], [.int (nI outs)], (MH g kept was isKept tape fed pos tlen flt ranking paper written pairs above below isDone dist rowv rowMany lsz itm weakAbove weakBelow))) rfl ?_
    exact e_ret rfl (trivial) (hR _ _ ⟨pairs, above, below, isDone, (nI outs), rfl, rfl, (by first | exact Or.inl ⟨c_1, rfl⟩ | exact Or.inr (Or.inl ⟨c_1, rfl⟩) | exact Or.inr (Or.inr (Or.inl ⟨c_1, rfl⟩)) | exact Or.inr (Or.inr (Or.inr (Or.inl ⟨c_1, rfl⟩))) | exact Or.inr (Or.inr (Or.inr (Or.inr (Or.inl ⟨c_1, rfl⟩)))) | exact Or.inr (Or.inr (Or.inr (Or.inr (Or.inr (Or.inl ⟨c_1, rfl⟩))))) | exact Or.inr (Or.inr (Or.inr (Or.inr (Or.inr (Or.inr (Or.inl ⟨c_1, rfl⟩)))))) | exact Or.inr (Or.inr (Or.inr (Or.inr (Or.inr (Or.inr (Or.inr (Or.inr (Or.inr ⟨c_1, rfl⟩)))))))))⟩)
  · refine e_one (σ' := (78, [(0, .ref 0), (1, .int what)], [], (MH g kept was isKept tape fed pos tlen flt ranking paper written pairs above below isDone dist rowv rowMany lsz itm weakAbove weakBelow))) (z_swi (k := 4) (off := (.ofNat 77)) rfl c_1 (by decide +kernel) (by decide +kernel) rfl) ?_
    skip
    refine e_steps 3 (σ' := (83, [(0, .ref 0), (1, .int what)], [.int (nI 3), .ref 1], (MH g kept was isKept tape fed pos tlen flt ranking paper written pairs above below isDone dist rowv rowMany lsz itm weakAbove weakBelow))) rfl ?_
    refine e_ial (nI ms) rfl rfl (by first | assumption | omega | rfl | trivial) (by decide) (hm0) ?_
    refine e_steps 0 (σ' := (84, [(0, .ref 0), (1, .int what)], [.int (nI ms)], (MH g kept was isKept tape fed pos tlen flt ranking paper written pairs above below isDone dist rowv rowMany lsz itm weakAbove weakBelow))) rfl ?_
    exact e_ret rfl (trivial) (hR _ _ ⟨pairs, above, below, isDone, (nI ms), rfl, rfl, (by first | exact Or.inl ⟨c_1, rfl⟩ | exact Or.inr (Or.inl ⟨c_1, rfl⟩) | exact Or.inr (Or.inr (Or.inl ⟨c_1, rfl⟩)) | exact Or.inr (Or.inr (Or.inr (Or.inl ⟨c_1, rfl⟩))) | exact Or.inr (Or.inr (Or.inr (Or.inr (Or.inl ⟨c_1, rfl⟩)))) | exact Or.inr (Or.inr (Or.inr (Or.inr (Or.inr (Or.inl ⟨c_1, rfl⟩))))) | exact Or.inr (Or.inr (Or.inr (Or.inr (Or.inr (Or.inr (Or.inl ⟨c_1, rfl⟩)))))) | exact Or.inr (Or.inr (Or.inr (Or.inr (Or.inr (Or.inr (Or.inr (Or.inr (Or.inr ⟨c_1, rfl⟩)))))))))⟩)
  · refine e_one (σ' := (85, [(0, .ref 0), (1, .int what)], [], (MH g kept was isKept tape fed pos tlen flt ranking paper written pairs above below isDone dist rowv rowMany lsz itm weakAbove weakBelow))) (z_swi (k := 5) (off := (.ofNat 84)) rfl c_1 (by decide +kernel) (by decide +kernel) rfl) ?_
    skip
    refine e_steps 2 (σ' := (89, [(0, .ref 0), (1, .int what)], [.int fed], (MH g kept was isKept tape fed pos tlen flt ranking paper written pairs above below isDone dist rowv rowMany lsz itm weakAbove weakBelow))) rfl ?_
    exact e_ret rfl (trivial) (hR _ _ ⟨pairs, above, below, isDone, fed, rfl, rfl, (by first | exact Or.inl ⟨c_1, rfl⟩ | exact Or.inr (Or.inl ⟨c_1, rfl⟩) | exact Or.inr (Or.inr (Or.inl ⟨c_1, rfl⟩)) | exact Or.inr (Or.inr (Or.inr (Or.inl ⟨c_1, rfl⟩))) | exact Or.inr (Or.inr (Or.inr (Or.inr (Or.inl ⟨c_1, rfl⟩)))) | exact Or.inr (Or.inr (Or.inr (Or.inr (Or.inr (Or.inl ⟨c_1, rfl⟩))))) | exact Or.inr (Or.inr (Or.inr (Or.inr (Or.inr (Or.inr (Or.inl ⟨c_1, rfl⟩)))))) | exact Or.inr (Or.inr (Or.inr (Or.inr (Or.inr (Or.inr (Or.inr (Or.inr (Or.inr ⟨c_1, rfl⟩)))))))))⟩)
  · refine e_one (σ' := (90, [(0, .ref 0), (1, .int what)], [], (MH g kept was isKept tape fed pos tlen flt ranking paper written pairs above below isDone dist rowv rowMany lsz itm weakAbove weakBelow))) (z_swi (k := 6) (off := (.ofNat 89)) rfl c_1 (by decide +kernel) (by decide +kernel) rfl) ?_
    skip
    refine e_steps 2 (σ' := (94, [(0, .ref 0), (1, .int what)], [.int written], (MH g kept was isKept tape fed pos tlen flt ranking paper written pairs above below isDone dist rowv rowMany lsz itm weakAbove weakBelow))) rfl ?_
    exact e_ret rfl (trivial) (hR _ _ ⟨pairs, above, below, isDone, written, rfl, rfl, (by first | exact Or.inl ⟨c_1, rfl⟩ | exact Or.inr (Or.inl ⟨c_1, rfl⟩) | exact Or.inr (Or.inr (Or.inl ⟨c_1, rfl⟩)) | exact Or.inr (Or.inr (Or.inr (Or.inl ⟨c_1, rfl⟩))) | exact Or.inr (Or.inr (Or.inr (Or.inr (Or.inl ⟨c_1, rfl⟩)))) | exact Or.inr (Or.inr (Or.inr (Or.inr (Or.inr (Or.inl ⟨c_1, rfl⟩))))) | exact Or.inr (Or.inr (Or.inr (Or.inr (Or.inr (Or.inr (Or.inl ⟨c_1, rfl⟩)))))) | exact Or.inr (Or.inr (Or.inr (Or.inr (Or.inr (Or.inr (Or.inr (Or.inr (Or.inr ⟨c_1, rfl⟩)))))))))⟩)
  · refine e_one (σ' := (95, [(0, .ref 0), (1, .int what)], [], (MH g kept was isKept tape fed pos tlen flt ranking paper written pairs above below isDone dist rowv rowMany lsz itm weakAbove weakBelow))) (z_swi (k := 7) (off := (.ofNat 94)) rfl c_1 (by decide +kernel) (by decide +kernel) rfl) ?_
    skip
    refine e_steps 1 (σ' := (96, [(0, .ref 0), (1, .int what)], [.ref 0], (MH g kept was isKept tape fed pos tlen flt ranking paper written pairs above below isDone dist rowv rowMany lsz itm weakAbove weakBelow))) rfl ?_
    refine e_call (y := 229) (av := [.ref 0]) (rest := []) rfl (c_X6_links (d + 4) (n := n) (outs := outs) (bm := bm) (ms := ms) (dr := dr) (cn := cn) (pl := pl) (by first | assumption | omega | rfl | trivial)) (fun r_96 h_96 p_96 => ?_)
    obtain ⟨pairs_96, v_96, rfl, rfl, q_96⟩ := p_96
    refine e_steps 0 (σ' := (99, [(0, .ref 0), (1, .int what)], [.int (nI v_96)], (MH g kept was isKept tape fed pos tlen flt ranking paper written pairs_96 above below isDone dist rowv rowMany lsz itm weakAbove weakBelow))) rfl ?_
    exact e_ret rfl (trivial) (hR _ _ ⟨pairs_96, above, below, isDone, (nI v_96), rfl, rfl, (by first | exact Or.inl ⟨c_1, rfl⟩ | exact Or.inr (Or.inl ⟨c_1, rfl⟩) | exact Or.inr (Or.inr (Or.inl ⟨c_1, rfl⟩)) | exact Or.inr (Or.inr (Or.inr (Or.inl ⟨c_1, rfl⟩))) | exact Or.inr (Or.inr (Or.inr (Or.inr (Or.inl ⟨c_1, rfl⟩)))) | exact Or.inr (Or.inr (Or.inr (Or.inr (Or.inr (Or.inl ⟨c_1, rfl⟩))))) | exact Or.inr (Or.inr (Or.inr (Or.inr (Or.inr (Or.inr (Or.inl ⟨c_1, rfl⟩)))))) | (obtain rfl := q_96; exact Or.inr (Or.inr (Or.inr (Or.inr (Or.inr (Or.inr (Or.inr (Or.inl ⟨c_1, rfl⟩)))))))) | exact Or.inr (Or.inr (Or.inr (Or.inr (Or.inr (Or.inr (Or.inr (Or.inr (Or.inr ⟨c_1, rfl⟩)))))))))⟩)
  · refine e_one (σ' := (100, [(0, .ref 0), (1, .int what)], [], (MH g kept was isKept tape fed pos tlen flt ranking paper written pairs above below isDone dist rowv rowMany lsz itm weakAbove weakBelow))) (z_swi (k := 8) (off := (.ofNat 99)) rfl c_1 (by decide +kernel) (by decide +kernel) rfl) ?_
    skip
    refine e_steps 1 (σ' := (101, [(0, .ref 0), (1, .int what)], [.ref 0], (MH g kept was isKept tape fed pos tlen flt ranking paper written pairs above below isDone dist rowv rowMany lsz itm weakAbove weakBelow))) rfl ?_
    refine e_call (y := 230) (av := [.ref 0]) (rest := []) rfl (c_X6_allBeaten (d + 0) (n := n) (outs := outs) (bm := bm) (ms := ms) (dr := dr) (cn := cn) (pl := pl) (by first | assumption | omega | rfl | trivial)) (fun r_101 h_101 p_101 => ?_)
    obtain ⟨pairs_101, above_101, below_101, isDone_101, v_101, rfl, rfl, q_101⟩ := p_101
    refine e_steps 0 (σ' := (104, [(0, .ref 0), (1, .int what)], [.int (nI v_101)], (MH g kept was isKept tape fed pos tlen flt ranking paper written pairs_101 above_101 below_101 isDone_101 dist rowv rowMany lsz itm weakAbove weakBelow))) rfl ?_
    exact e_ret rfl (trivial) (hR _ _ ⟨pairs_101, above_101, below_101, isDone_101, (nI v_101), rfl, rfl, (by first | exact Or.inl ⟨c_1, rfl⟩ | exact Or.inr (Or.inl ⟨c_1, rfl⟩) | exact Or.inr (Or.inr (Or.inl ⟨c_1, rfl⟩)) | exact Or.inr (Or.inr (Or.inr (Or.inl ⟨c_1, rfl⟩))) | exact Or.inr (Or.inr (Or.inr (Or.inr (Or.inl ⟨c_1, rfl⟩)))) | exact Or.inr (Or.inr (Or.inr (Or.inr (Or.inr (Or.inl ⟨c_1, rfl⟩))))) | exact Or.inr (Or.inr (Or.inr (Or.inr (Or.inr (Or.inr (Or.inl ⟨c_1, rfl⟩)))))) | (obtain ⟨K, hK, rfl⟩ := q_101; exact Or.inr (Or.inr (Or.inr (Or.inr (Or.inr (Or.inr (Or.inr (Or.inr (Or.inl ⟨c_1, K, hK, rfl⟩))))))))) | exact Or.inr (Or.inr (Or.inr (Or.inr (Or.inr (Or.inr (Or.inr (Or.inr (Or.inr ⟨c_1, rfl⟩)))))))))⟩)
  · refine e_one (σ' := (105, [(0, .ref 0), (1, .int what)], [], (MH g kept was isKept tape fed pos tlen flt ranking paper written pairs above below isDone dist rowv rowMany lsz itm weakAbove weakBelow))) (z_swd rfl c_1 rfl) ?_
    skip
    refine e_steps 1 (σ' := (106, [(0, .ref 0), (1, .int what)], [.int ((-nI 1))], (MH g kept was isKept tape fed pos tlen flt ranking paper written pairs above below isDone dist rowv rowMany lsz itm weakAbove weakBelow))) rfl ?_
    exact e_ret rfl (trivial) (hR _ _ ⟨pairs, above, below, isDone, ((-nI 1)), rfl, rfl, (by first | exact Or.inl ⟨c_1, rfl⟩ | exact Or.inr (Or.inl ⟨c_1, rfl⟩) | exact Or.inr (Or.inr (Or.inl ⟨c_1, rfl⟩)) | exact Or.inr (Or.inr (Or.inr (Or.inl ⟨c_1, rfl⟩))) | exact Or.inr (Or.inr (Or.inr (Or.inr (Or.inl ⟨c_1, rfl⟩)))) | exact Or.inr (Or.inr (Or.inr (Or.inr (Or.inr (Or.inl ⟨c_1, rfl⟩))))) | exact Or.inr (Or.inr (Or.inr (Or.inr (Or.inr (Or.inr (Or.inl ⟨c_1, rfl⟩)))))) | exact Or.inr (Or.inr (Or.inr (Or.inr (Or.inr (Or.inr (Or.inr (Or.inr (Or.inr ⟨c_1, rfl⟩)))))))))⟩)
theorem c_X6_list (d : Nat) {g : Nat → Int32} {kept : Nat → Int32} {was : Nat → Int32} {isKept : Int32} {tape : Nat → Int32} {fed : Int32} {pos : Int32} {tlen : Int32} {flt : Int32} {ranking : Nat → Int32} {paper : Nat → Int32} {written : Int32} {pairs : Nat → Int64} {above : Nat → Int64} {below : Nat → Int64} {isDone : Nat → Int32} {dist : Nat → Int32} {rowv : Nat → Int32} {rowMany : Int32} {lsz : Nat → Int32} {itm : Nat → Int64} {weakAbove : Int64} {weakBelow : Int64} {l : Int32} {nn : Int32}  : z_CAL (d + 3) 232 [.ref 0, .int l, .int nn] (MH g kept was isKept tape fed pos tlen flt ranking paper written pairs above below isDone dist rowv rowMany lsz itm weakAbove weakBelow) (fun r h2 => ∃ (lsz2 : Nat → Int32) (itm2 : Nat → Int64) (v : Int32), r = some (.int v) ∧ h2 = (MH g kept was isKept tape fed pos tlen flt ranking paper written pairs above below isDone dist rowv rowMany lsz2 itm2 weakAbove weakBelow) ∧ ((v = -nI 1 ∧ lsz2 = lsz ∧ itm2 = itm ∧ ¬ ∃ q, q < 4 ∧ l = nI q) ∨ ∃ q, q < 4 ∧ l = nI q ∧ ((nI 40 < nn ∧ v = -nI 2 ∧ lsz2 = lsz ∧ itm2 = itm) ∨ (nn < 0 ∧ v = -nI 14 ∧ lsz2 = lsz ∧ itm2 = itm) ∨ ∃ k, k ≤ 40 ∧ nn = nI k ∧ v = nI 1 ∧ lsz2 = upd lsz q (nI k) ∧ ∀ x, itm2 x = if 40 * q ≤ x ∧ x < 40 * q + 40 then lN 0 else itm x))) := by
  refine e_of2 (q := zmX6_list) rfl rfl (fun R hR => ?_)
  refine e_steps 1 (σ' := (1, [(0, .ref 0), (1, .int l), (2, .int nn)], [.int l], (MH g kept was isKept tape fed pos tlen flt ranking paper written pairs above below isDone dist rowv rowMany lsz itm weakAbove weakBelow))) rfl ?_
  refine e_call (y := 218) (av := [.int l]) (rest := []) rfl (c_X6_isList (d + 0) ) (fun r_1 h_1 p_1 => ?_)
  obtain ⟨rfl, o_1⟩ := p_1
  rcases o_1 with ⟨rfl, o_1⟩ | ⟨rfl, o_1⟩
  · skip
    obtain ⟨q_1, hq_1, eq_1⟩ := o_1
    subst eq_1
    refine e_steps 3 (σ' := (12, [(0, .ref 0), (1, .int (nI q_1)), (2, .int nn)], [.int (nI 40), .int nn], (MH g kept was isKept tape fed pos tlen flt ranking paper written pairs above below isDone dist rowv rowMany lsz itm weakAbove weakBelow))) rfl ?_
    refine e_if (c := nn ≤ nI 40) rfl (fun c_12 => ?_) (fun c_12 => ?_)
    · skip
      refine e_steps 1 (σ' := (19, [(0, .ref 0), (1, .int (nI q_1)), (2, .int nn)], [.int nn], (MH g kept was isKept tape fed pos tlen flt ranking paper written pairs above below isDone dist rowv rowMany lsz itm weakAbove weakBelow))) rfl ?_
      refine e_if (c := 0 ≤ nn) rfl (fun c_19 => ?_) (fun c_19 => ?_)
      · skip
        obtain ⟨nn_19, hnn_19, enn_19⟩ := nI_of (by rw [Int32.not_lt]; exact c_19)
        subst enn_19
        have h40 := (nI_leI (b := 40) (by omega) (by decide)).mp c_12
        refine e_steps 4 (σ' := (31, [(0, .ref 0), (1, .int (nI q_1)), (2, .int (nI nn_19))], [.int (nI nn_19), .int (nI q_1), .ref 13], (MH g kept was isKept tape fed pos tlen flt ranking paper written pairs above below isDone dist rowv rowMany lsz itm weakAbove weakBelow))) rfl ?_
        refine e_ias (MH g kept was isKept tape fed pos tlen flt ranking paper written pairs above below isDone dist rowv rowMany (upd lsz q_1 (nI nn_19)) itm weakAbove weakBelow) rfl rfl (by first | assumption | omega | rfl | trivial) (by decide) rfl ?_
        refine e_steps 2 (σ' := (34, [(3, .int (nI 0)), (0, .ref 0), (1, .int (nI q_1)), (2, .int (nI nn_19))], [], (MH g kept was isKept tape fed pos tlen flt ranking paper written pairs above below isDone dist rowv rowMany (upd lsz q_1 (nI nn_19)) itm weakAbove weakBelow))) rfl ?_
        have loop_34 : ∀ (z_34 : Nat) (k : Nat) (il : Nat → Int64), 40 - k < z_34 → (k ≤ 40 ∧ ∀ x, il x = if 40 * q_1 ≤ x ∧ x < 40 * q_1 + k then lN 0 else itm x) → z_EV (d + 2) zmX6_list R (34, [(0, .ref 0), (1, .int (nI q_1)), (2, .int (nI nn_19)), (3, .int (nI k))], [], (MH g kept was isKept tape fed pos tlen flt ranking paper written pairs above below isDone dist rowv rowMany (upd lsz q_1 (nI nn_19)) il weakAbove weakBelow)) := by
          intro z_34
          induction z_34 with
          | zero => intro k il hm_34 _; exact absurd hm_34 (Nat.not_lt_zero _)
          | succ z_34 ih_34 =>
            intro k il hm_34 hi_34
            obtain ⟨l1, l2⟩ := hi_34
            refine e_steps 2 (σ' := (37, [(0, .ref 0), (1, .int (nI q_1)), (2, .int (nI nn_19)), (3, .int (nI k))], [.int (nI 40), .int (nI k)], (MH g kept was isKept tape fed pos tlen flt ranking paper written pairs above below isDone dist rowv rowMany (upd lsz q_1 (nI nn_19)) il weakAbove weakBelow))) rfl ?_
            refine e_if (c := nI 40 ≤ nI k) rfl (fun c_37 => ?_) (fun c_37 => ?_)
            · skip
              rw [nI_leI (by omega) (by omega)] at c_37
              refine e_steps 1 (σ' := (59, [(0, .ref 0), (1, .int (nI q_1)), (2, .int (nI nn_19)), (3, .int (nI k))], [.int (nI 1)], (MH g kept was isKept tape fed pos tlen flt ranking paper written pairs above below isDone dist rowv rowMany (upd lsz q_1 (nI nn_19)) il weakAbove weakBelow))) rfl ?_
              exact e_ret rfl (trivial) (hR _ _ ⟨upd lsz q_1 (nI nn_19), il, (nI 1), rfl, rfl, (by first | exact Or.inl ⟨rfl, rfl, rfl, o_1⟩ | exact Or.inr ⟨_, hq_1, rfl, Or.inl ⟨Int32.not_le.mp c_12, rfl, rfl, rfl⟩⟩ | exact Or.inr ⟨_, hq_1, rfl, Or.inr (Or.inl ⟨Int32.not_le.mp c_19, rfl, rfl, rfl⟩)⟩ | exact Or.inr ⟨_, hq_1, rfl, Or.inr (Or.inr ⟨_, h40, rfl, rfl, rfl, by rw [show k = 40 by omega] at l2; exact l2⟩)⟩)⟩)
            · skip
              rw [nI_leI (by omega) (by omega)] at c_37
              refine e_steps 4 (σ' := (47, [(0, .ref 0), (1, .int (nI q_1)), (2, .int (nI nn_19)), (3, .int (nI k))], [.int (nI q_1), .int (nI 40), .ref 14], (MH g kept was isKept tape fed pos tlen flt ranking paper written pairs above below isDone dist rowv rowMany (upd lsz q_1 (nI nn_19)) il weakAbove weakBelow))) rfl ?_
              refine e_mul (40 * q_1) rfl (by first | rfl | omega | simp) ?_
              refine e_steps 1 (σ' := (49, [(0, .ref 0), (1, .int (nI q_1)), (2, .int (nI nn_19)), (3, .int (nI k))], [.int (nI k), .int (nI (40 * q_1)), .ref 14], (MH g kept was isKept tape fed pos tlen flt ranking paper written pairs above below isDone dist rowv rowMany (upd lsz q_1 (nI nn_19)) il weakAbove weakBelow))) rfl ?_
              refine e_add (40 * q_1 + k) rfl (by first | rfl | omega) ?_
              refine e_steps 1 (σ' := (51, [(0, .ref 0), (1, .int (nI q_1)), (2, .int (nI nn_19)), (3, .int (nI k))], [.long (lN 0), .int (nI (40 * q_1 + k)), .ref 14], (MH g kept was isKept tape fed pos tlen flt ranking paper written pairs above below isDone dist rowv rowMany (upd lsz q_1 (nI nn_19)) il weakAbove weakBelow))) rfl ?_
              refine e_las (MH g kept was isKept tape fed pos tlen flt ranking paper written pairs above below isDone dist rowv rowMany (upd lsz q_1 (nI nn_19)) (vp_updL il (40 * q_1 + k) (lN 0)) weakAbove weakBelow) rfl rfl (by first | assumption | omega | rfl | trivial) (by decide) rfl ?_
              refine e_steps 0 (σ' := (52, [(0, .ref 0), (1, .int (nI q_1)), (2, .int (nI nn_19)), (3, .int (nI k))], [], (MH g kept was isKept tape fed pos tlen flt ranking paper written pairs above below isDone dist rowv rowMany (upd lsz q_1 (nI nn_19)) (vp_updL il (40 * q_1 + k) (lN 0)) weakAbove weakBelow))) rfl ?_
              refine e_inc (n := 1) rfl rfl rfl (k + 1) (by rfl) [(3, .int (nI (k + 1))), (0, .ref 0), (1, .int (nI q_1)), (2, .int (nI nn_19))] rfl ?_
              refine e_steps 1 (σ' := (34, [(3, .int (nI (k + 1))), (0, .ref 0), (1, .int (nI q_1)), (2, .int (nI nn_19))], [], (MH g kept was isKept tape fed pos tlen flt ranking paper written pairs above below isDone dist rowv rowMany (upd lsz q_1 (nI nn_19)) (vp_updL il (40 * q_1 + k) (lN 0)) weakAbove weakBelow))) rfl ?_
              refine e_sub [1, 2, 3, 0] rfl ?_
              exact ih_34 (k + 1) (vp_updL il (40 * q_1 + k) (lN 0)) (by omega) (by exact ⟨by omega, fun x => by unfold vp_updL; by_cases e : x = 40 * q_1 + k; (rw [if_pos e, if_pos (by omega)]); (rw [if_neg e, l2 x]; exact z_ifc (by omega))⟩)
        refine e_sub [1, 2, 3, 0] rfl ?_
        exact loop_34 _ 0 itm (Nat.lt_succ_self _) (by exact ⟨by omega, fun x => by rw [if_neg (by omega)]⟩)
      · skip
        refine e_steps 1 (σ' := (24, [(0, .ref 0), (1, .int (nI q_1)), (2, .int nn)], [.int ((-nI 14))], (MH g kept was isKept tape fed pos tlen flt ranking paper written pairs above below isDone dist rowv rowMany lsz itm weakAbove weakBelow))) rfl ?_
        exact e_ret rfl (trivial) (hR _ _ ⟨lsz, itm, ((-nI 14)), rfl, rfl, (by first | exact Or.inl ⟨rfl, rfl, rfl, o_1⟩ | exact Or.inr ⟨_, hq_1, rfl, Or.inl ⟨Int32.not_le.mp c_12, rfl, rfl, rfl⟩⟩ | exact Or.inr ⟨_, hq_1, rfl, Or.inr (Or.inl ⟨Int32.not_le.mp c_19, rfl, rfl, rfl⟩)⟩ | exact Or.inr ⟨_, hq_1, rfl, Or.inr (Or.inr ⟨_, h40, rfl, rfl, rfl, by rw [show k = 40 by omega] at l2; exact l2⟩)⟩)⟩)
    · skip
      refine e_steps 1 (σ' := (17, [(0, .ref 0), (1, .int (nI q_1)), (2, .int nn)], [.int ((-nI 2))], (MH g kept was isKept tape fed pos tlen flt ranking paper written pairs above below isDone dist rowv rowMany lsz itm weakAbove weakBelow))) rfl ?_
      exact e_ret rfl (trivial) (hR _ _ ⟨lsz, itm, ((-nI 2)), rfl, rfl, (by first | exact Or.inl ⟨rfl, rfl, rfl, o_1⟩ | exact Or.inr ⟨_, hq_1, rfl, Or.inl ⟨Int32.not_le.mp c_12, rfl, rfl, rfl⟩⟩ | exact Or.inr ⟨_, hq_1, rfl, Or.inr (Or.inr ⟨_, h40, rfl, rfl, rfl, by rw [show k = 40 by omega] at l2; exact l2⟩)⟩)⟩)
  · skip
    refine e_steps 2 (σ' := (8, [(0, .ref 0), (1, .int l), (2, .int nn)], [.int ((-nI 1))], (MH g kept was isKept tape fed pos tlen flt ranking paper written pairs above below isDone dist rowv rowMany lsz itm weakAbove weakBelow))) rfl ?_
    exact e_ret rfl (trivial) (hR _ _ ⟨lsz, itm, ((-nI 1)), rfl, rfl, (by exact Or.inl ⟨rfl, rfl, rfl, o_1⟩)⟩)
theorem c_X6_set (d : Nat) {g : Nat → Int32} {kept : Nat → Int32} {was : Nat → Int32} {isKept : Int32} {tape : Nat → Int32} {fed : Int32} {pos : Int32} {tlen : Int32} {flt : Int32} {ranking : Nat → Int32} {paper : Nat → Int32} {written : Int32} {pairs : Nat → Int64} {above : Nat → Int64} {below : Nat → Int64} {isDone : Nat → Int32} {dist : Nat → Int32} {rowv : Nat → Int32} {rowMany : Int32} {lsz : Nat → Int32} {itm : Nat → Int64} {weakAbove : Int64} {weakBelow : Int64} {l : Int32} {i : Int32} {v : Int64} {sz : Nat → Nat} (hz : z_LZ lsz sz) : z_CAL (d + 4) 233 [.ref 0, .int l, .int i, .long v] (MH g kept was isKept tape fed pos tlen flt ranking paper written pairs above below isDone dist rowv rowMany lsz itm weakAbove weakBelow) (fun r h2 => ∃ (itm2 : Nat → Int64) (r2 : Int32), r = some (.int r2) ∧ h2 = (MH g kept was isKept tape fed pos tlen flt ranking paper written pairs above below isDone dist rowv rowMany lsz itm2 weakAbove weakBelow) ∧ ((r2 = -nI 1 ∧ itm2 = itm ∧ ¬ ∃ q, q < 4 ∧ l = nI q) ∨ ∃ q, q < 4 ∧ l = nI q ∧ ((sz q = 0 ∧ r2 = -nI 11 ∧ itm2 = itm) ∨ (sz q ≠ 0 ∧ ((∃ x, x + 1 < sz q ∧ i = nI x ∧ r2 = nI 1 ∧ itm2 = vp_updL itm (40 * q + x) v) ∨ ((¬ ∃ x, x + 1 < sz q ∧ i = nI x) ∧ r2 = -nI 13 ∧ itm2 = itm)))))) := by
  refine e_of2 (q := zmX6_set) rfl rfl (fun R hR => ?_)
  refine e_steps 1 (σ' := (1, [(0, .ref 0), (1, .int l), (2, .int i), (3, .long v)], [.int l], (MH g kept was isKept tape fed pos tlen flt ranking paper written pairs above below isDone dist rowv rowMany lsz itm weakAbove weakBelow))) rfl ?_
  refine e_call (y := 218) (av := [.int l]) (rest := []) rfl (c_X6_isList (d + 1) ) (fun r_1 h_1 p_1 => ?_)
  obtain ⟨rfl, o_1⟩ := p_1
  rcases o_1 with ⟨rfl, o_1⟩ | ⟨rfl, o_1⟩
  · skip
    obtain ⟨q_1, hq_1, eq_1⟩ := o_1
    subst eq_1
    have g6 := (hz q_1 hq_1).2
    refine e_steps 4 (σ' := (14, [(0, .ref 0), (1, .int (nI q_1)), (2, .int i), (3, .long v)], [.int (nI q_1), .ref 13], (MH g kept was isKept tape fed pos tlen flt ranking paper written pairs above below isDone dist rowv rowMany lsz itm weakAbove weakBelow))) rfl ?_
    refine e_ial (lsz q_1) rfl rfl (by first | assumption | omega | rfl | trivial) (by decide) (rfl) ?_
    refine e_steps 0 (σ' := (15, [(0, .ref 0), (1, .int (nI q_1)), (2, .int i), (3, .long v)], [.int ((lsz q_1))], (MH g kept was isKept tape fed pos tlen flt ranking paper written pairs above below isDone dist rowv rowMany lsz itm weakAbove weakBelow))) rfl ?_
    refine e_if (c := 0 ≤ (lsz q_1)) rfl (fun c_15 => ?_) (fun c_15 => ?_)
    · skip
      refine e_steps 5 (σ' := (26, [(0, .ref 0), (1, .int (nI q_1)), (2, .int i), (3, .long v)], [.long v, .long i.toInt64, .int (nI q_1), .ref 0], (MH g kept was isKept tape fed pos tlen flt ranking paper written pairs above below isDone dist rowv rowMany lsz itm weakAbove weakBelow))) rfl ?_
      refine e_call (y := 221) (av := [.ref 0, .int (nI q_1), .long i.toInt64, .long v]) (rest := []) rfl (c_X6_lays (d + 0) (sz := sz) (by first | assumption | omega | rfl | trivial) (by first | assumption | omega | rfl | trivial)) (fun r_26 h_26 p_26 => ?_)
      obtain ⟨itm_26, rfl, o_26⟩ := p_26
      rcases o_26 with ⟨rfl, o_26⟩ | ⟨rfl, o_26⟩
      · skip
        refine e_steps 3 (σ' := (38, [(0, .ref 0), (1, .int (nI q_1)), (2, .int i), (3, .long v)], [.int (nI 1)], (MH g kept was isKept tape fed pos tlen flt ranking paper written pairs above below isDone dist rowv rowMany lsz itm_26 weakAbove weakBelow))) rfl ?_
        exact e_ret rfl (trivial) (hR _ _ ⟨itm_26, (nI 1), rfl, rfl, (by first | exact Or.inl ⟨rfl, rfl, o_1⟩ | exact Or.inr ⟨_, hq_1, rfl, Or.inl ⟨z_lzn (hz q_1 hq_1) c_15, rfl, rfl⟩⟩ | (obtain ⟨x, hx, e1, e2⟩ := o_26; exact Or.inr ⟨_, hq_1, rfl, Or.inr ⟨z_lzp (hz q_1 hq_1) c_15, Or.inl ⟨x, hx, z_natL (by omega) e1, rfl, e2⟩⟩⟩) | exact Or.inr ⟨_, hq_1, rfl, Or.inr ⟨z_lzp (hz q_1 hq_1) c_15, Or.inr ⟨fun ⟨x, hx, e⟩ => o_26.1 ⟨x, hx, by rw [e, nI_l (by omega)]⟩, rfl, o_26.2⟩⟩⟩)⟩)
      · skip
        refine e_steps 2 (σ' := (38, [(0, .ref 0), (1, .int (nI q_1)), (2, .int i), (3, .long v)], [.int ((-nI 13))], (MH g kept was isKept tape fed pos tlen flt ranking paper written pairs above below isDone dist rowv rowMany lsz itm_26 weakAbove weakBelow))) rfl ?_
        exact e_ret rfl (trivial) (hR _ _ ⟨itm_26, ((-nI 13)), rfl, rfl, (by first | exact Or.inl ⟨rfl, rfl, o_1⟩ | exact Or.inr ⟨_, hq_1, rfl, Or.inl ⟨z_lzn (hz q_1 hq_1) c_15, rfl, rfl⟩⟩ | (obtain ⟨x, hx, e1, e2⟩ := o_26; exact Or.inr ⟨_, hq_1, rfl, Or.inr ⟨z_lzp (hz q_1 hq_1) c_15, Or.inl ⟨x, hx, z_natL (by omega) e1, rfl, e2⟩⟩⟩) | exact Or.inr ⟨_, hq_1, rfl, Or.inr ⟨z_lzp (hz q_1 hq_1) c_15, Or.inr ⟨fun ⟨x, hx, e⟩ => o_26.1 ⟨x, hx, by rw [e, nI_l (by omega)]⟩, rfl, o_26.2⟩⟩⟩)⟩)
    · skip
      refine e_steps 1 (σ' := (20, [(0, .ref 0), (1, .int (nI q_1)), (2, .int i), (3, .long v)], [.int ((-nI 11))], (MH g kept was isKept tape fed pos tlen flt ranking paper written pairs above below isDone dist rowv rowMany lsz itm weakAbove weakBelow))) rfl ?_
      exact e_ret rfl (trivial) (hR _ _ ⟨itm, ((-nI 11)), rfl, rfl, (by first | exact Or.inl ⟨rfl, rfl, o_1⟩ | exact Or.inr ⟨_, hq_1, rfl, Or.inl ⟨z_lzn (hz q_1 hq_1) c_15, rfl, rfl⟩⟩)⟩)
  · skip
    refine e_steps 2 (σ' := (8, [(0, .ref 0), (1, .int l), (2, .int i), (3, .long v)], [.int ((-nI 1))], (MH g kept was isKept tape fed pos tlen flt ranking paper written pairs above below isDone dist rowv rowMany lsz itm weakAbove weakBelow))) rfl ?_
    exact e_ret rfl (trivial) (hR _ _ ⟨itm, ((-nI 1)), rfl, rfl, (by exact Or.inl ⟨rfl, rfl, o_1⟩)⟩)
theorem c_X6_get (d : Nat) {g : Nat → Int32} {kept : Nat → Int32} {was : Nat → Int32} {isKept : Int32} {tape : Nat → Int32} {fed : Int32} {pos : Int32} {tlen : Int32} {flt : Int32} {ranking : Nat → Int32} {paper : Nat → Int32} {written : Int32} {pairs : Nat → Int64} {above : Nat → Int64} {below : Nat → Int64} {isDone : Nat → Int32} {dist : Nat → Int32} {rowv : Nat → Int32} {rowMany : Int32} {lsz : Nat → Int32} {itm : Nat → Int64} {weakAbove : Int64} {weakBelow : Int64} {l : Int32} {i : Int32} {sz : Nat → Nat} (hz : z_LZ lsz sz) : z_CAL (d + 3) 234 [.ref 0, .int l, .int i] (MH g kept was isKept tape fed pos tlen flt ranking paper written pairs above below isDone dist rowv rowMany lsz itm weakAbove weakBelow) (fun r h2 => ∃ (v : Int64), r = some (.long v) ∧ h2 = (MH g kept was isKept tape fed pos tlen flt ranking paper written pairs above below isDone dist rowv rowMany lsz itm weakAbove weakBelow) ∧ ((v = -lN 9223372036854775808 ∧ ¬ ∃ q x, q < 4 ∧ l = nI q ∧ x + 1 < sz q ∧ i = nI x) ∨ ∃ q x, q < 4 ∧ l = nI q ∧ x + 1 < sz q ∧ i = nI x ∧ v = itm (40 * q + x))) := by
  refine e_of2 (q := zmX6_get) rfl rfl (fun R hR => ?_)
  refine e_steps 1 (σ' := (1, [(0, .ref 0), (1, .int l), (2, .int i)], [.int l], (MH g kept was isKept tape fed pos tlen flt ranking paper written pairs above below isDone dist rowv rowMany lsz itm weakAbove weakBelow))) rfl ?_
  refine e_call (y := 218) (av := [.int l]) (rest := []) rfl (c_X6_isList (d + 0) ) (fun r_1 h_1 p_1 => ?_)
  obtain ⟨rfl, o_1⟩ := p_1
  rcases o_1 with ⟨rfl, o_1⟩ | ⟨rfl, o_1⟩
  · skip
    obtain ⟨q_1, hq_1, eq_1⟩ := o_1
    subst eq_1
    have g6 := (hz q_1 hq_1).2
    refine e_steps 1 (σ' := (7, [(0, .ref 0), (1, .int (nI q_1)), (2, .int i)], [], (MH g kept was isKept tape fed pos tlen flt ranking paper written pairs above below isDone dist rowv rowMany lsz itm weakAbove weakBelow))) rfl ?_
    rcases z_neg i with hp | ⟨x0, hx0, rfl⟩
    · skip
      refine e_steps 4 (σ' := (11, [(0, .ref 0), (1, .int (nI q_1)), (2, .int i)], [.long i.toInt64, .int (nI q_1), .ref 0], (MH g kept was isKept tape fed pos tlen flt ranking paper written pairs above below isDone dist rowv rowMany lsz itm weakAbove weakBelow))) rfl ?_
      refine e_call (y := 219) (av := [.ref 0, .int (nI q_1), .long i.toInt64]) (rest := []) rfl (c_X6_isItem_neg (d + 0) (sz := sz) (by first | assumption | omega | rfl | trivial) (by first | assumption | omega | rfl | trivial) (by first | exact z_negL hp | omega)) (fun r_11 h_11 p_11 => ?_)
      obtain ⟨rfl, rfl⟩ := p_11
      refine e_steps 2 (σ' := (34, [(0, .ref 0), (1, .int (nI q_1)), (2, .int i)], [.long ((-lN 9223372036854775808))], (MH g kept was isKept tape fed pos tlen flt ranking paper written pairs above below isDone dist rowv rowMany lsz itm weakAbove weakBelow))) rfl ?_
      exact e_ret rfl (trivial) (hR _ _ ⟨((-lN 9223372036854775808)), rfl, rfl, (by first | exact Or.inl ⟨rfl, fun ⟨q, x, h1, h2, _⟩ => o_1 ⟨q, h1, h2⟩⟩ | exact Or.inl ⟨rfl, fun ⟨q, x, h1, h2, h3, h4⟩ => by rw [h4] at hp; have := (hz q h1).2; exact nI_pos (by omega) hp⟩)⟩)
    · skip
      refine e_steps 3 (σ' := (10, [(0, .ref 0), (1, .int (nI q_1)), (2, .int (nI x0))], [.int (nI x0), .int (nI q_1), .ref 0], (MH g kept was isKept tape fed pos tlen flt ranking paper written pairs above below isDone dist rowv rowMany lsz itm weakAbove weakBelow))) rfl ?_
      refine e_i2l rfl (by omega) ?_
      refine e_steps 0 (σ' := (11, [(0, .ref 0), (1, .int (nI q_1)), (2, .int (nI x0))], [.long (lN x0), .int (nI q_1), .ref 0], (MH g kept was isKept tape fed pos tlen flt ranking paper written pairs above below isDone dist rowv rowMany lsz itm weakAbove weakBelow))) rfl ?_
      refine e_call (y := 219) (av := [.ref 0, .int (nI q_1), .long (lN x0)]) (rest := []) rfl (c_X6_isItem_N (d + 0) (sz := sz) (by first | assumption | omega | rfl | trivial) (by first | assumption | omega | rfl | trivial) (by first | exact z_negL hp | omega)) (fun r_11 h_11 p_11 => ?_)
      obtain ⟨rfl, o_11⟩ := p_11
      rcases o_11 with ⟨rfl, o_11⟩ | ⟨rfl, o_11⟩
      · skip
        refine e_steps 5 (σ' := (24, [(0, .ref 0), (1, .int (nI q_1)), (2, .int (nI x0))], [.int (nI q_1), .int (nI 40), .ref 14], (MH g kept was isKept tape fed pos tlen flt ranking paper written pairs above below isDone dist rowv rowMany lsz itm weakAbove weakBelow))) rfl ?_
        refine e_mul (40 * q_1) rfl (by first | rfl | omega | simp) ?_
        refine e_steps 1 (σ' := (26, [(0, .ref 0), (1, .int (nI q_1)), (2, .int (nI x0))], [.int (nI x0), .int (nI (40 * q_1)), .ref 14], (MH g kept was isKept tape fed pos tlen flt ranking paper written pairs above below isDone dist rowv rowMany lsz itm weakAbove weakBelow))) rfl ?_
        refine e_add (40 * q_1 + x0) rfl (by first | rfl | omega) ?_
        refine e_steps 0 (σ' := (27, [(0, .ref 0), (1, .int (nI q_1)), (2, .int (nI x0))], [.int (nI (40 * q_1 + x0)), .ref 14], (MH g kept was isKept tape fed pos tlen flt ranking paper written pairs above below isDone dist rowv rowMany lsz itm weakAbove weakBelow))) rfl ?_
        refine e_lal (itm (40 * q_1 + x0)) rfl rfl (by first | assumption | omega | rfl | trivial) (by decide) (rfl) ?_
        refine e_steps 1 (σ' := (34, [(0, .ref 0), (1, .int (nI q_1)), (2, .int (nI x0))], [.long ((itm (40 * q_1 + x0)))], (MH g kept was isKept tape fed pos tlen flt ranking paper written pairs above below isDone dist rowv rowMany lsz itm weakAbove weakBelow))) rfl ?_
        exact e_ret rfl (trivial) (hR _ _ ⟨((itm (40 * q_1 + x0))), rfl, rfl, (by first | exact Or.inl ⟨rfl, fun ⟨q, x, h1, h2, _⟩ => o_1 ⟨q, h1, h2⟩⟩ | exact Or.inr ⟨_, x0, hq_1, rfl, o_11, rfl, rfl⟩ | exact Or.inl ⟨rfl, fun ⟨q, x, h1, h2, h3, h4⟩ => by rw [h4] at hp; have := (hz q h1).2; exact nI_pos (by omega) hp⟩ | exact Or.inl ⟨rfl, fun ⟨q, x, h1, h2, h3, h4⟩ => by have h5 := (hz q h1).2; rw [nI_eq (by omega) (by omega)] at h2 h4; subst h2 h4; exact o_11 h3⟩)⟩)
      · skip
        refine e_steps 2 (σ' := (34, [(0, .ref 0), (1, .int (nI q_1)), (2, .int (nI x0))], [.long ((-lN 9223372036854775808))], (MH g kept was isKept tape fed pos tlen flt ranking paper written pairs above below isDone dist rowv rowMany lsz itm weakAbove weakBelow))) rfl ?_
        exact e_ret rfl (trivial) (hR _ _ ⟨((-lN 9223372036854775808)), rfl, rfl, (by first | exact Or.inl ⟨rfl, fun ⟨q, x, h1, h2, _⟩ => o_1 ⟨q, h1, h2⟩⟩ | exact Or.inr ⟨_, x0, hq_1, rfl, o_11, rfl, rfl⟩ | exact Or.inl ⟨rfl, fun ⟨q, x, h1, h2, h3, h4⟩ => by rw [h4] at hp; have := (hz q h1).2; exact nI_pos (by omega) hp⟩ | exact Or.inl ⟨rfl, fun ⟨q, x, h1, h2, h3, h4⟩ => by have h5 := (hz q h1).2; rw [nI_eq (by omega) (by omega)] at h2 h4; subst h2 h4; exact o_11 h3⟩)⟩)
  · skip
    refine e_steps 2 (σ' := (34, [(0, .ref 0), (1, .int l), (2, .int i)], [.long ((-lN 9223372036854775808))], (MH g kept was isKept tape fed pos tlen flt ranking paper written pairs above below isDone dist rowv rowMany lsz itm weakAbove weakBelow))) rfl ?_
    exact e_ret rfl (trivial) (hR _ _ ⟨((-lN 9223372036854775808)), rfl, rfl, (by first | exact Or.inl ⟨rfl, fun ⟨q, x, h1, h2, _⟩ => o_1 ⟨q, h1, h2⟩⟩ | exact Or.inl ⟨rfl, fun ⟨q, x, h1, h2, h3, h4⟩ => by rw [h4] at hp; have := (hz q h1).2; exact nI_pos (by omega) hp⟩)⟩)
theorem c_X6_image (d : Nat) {g : Nat → Int32} {kept : Nat → Int32} {was : Nat → Int32} {isKept : Int32} {tape : Nat → Int32} {fed : Int32} {pos : Int32} {tlen : Int32} {flt : Int32} {ranking : Nat → Int32} {paper : Nat → Int32} {written : Int32} {pairs : Nat → Int64} {above : Nat → Int64} {below : Nat → Int64} {isDone : Nat → Int32} {dist : Nat → Int32} {rowv : Nat → Int32} {rowMany : Int32} {lsz : Nat → Int32} {itm : Nat → Int64} {weakAbove : Int64} {weakBelow : Int64} {n : Nat} {outs : Nat} {bm : Nat} {ms : Nat} {dr : Nat → Nat} {cn : Nat → Nat} {pl : Nat → Nat → Nat} (hG : z_GI g n outs bm ms dr cn pl) : z_CAL (d + 2) 235 [.ref 0] (MH g kept was isKept tape fed pos tlen flt ranking paper written pairs above below isDone dist rowv rowMany lsz itm weakAbove weakBelow) (fun r h2 => ∃ (kept2 : Nat → Int32), r = some (.int (nI bm)) ∧ h2 = (MH g kept2 was (nI 1) tape fed pos tlen flt ranking paper written pairs above below isDone dist rowv rowMany lsz itm weakAbove weakBelow) ∧ (z_GI kept2 n outs bm ms dr cn pl)) := by
  refine e_of2 (q := zmX6_image) rfl rfl (fun R hR => ?_)
  obtain ⟨⟨hn0, hn2, hn8⟩, ⟨ho0, ho8, hin⟩, ⟨hb0, hb40⟩, ⟨hm0, hm4⟩, ⟨hdr, hdl, hdc⟩, hcn, hpl⟩ := id hG; have hp8 := z_p2 hn8; have ho256 : outs < 256 := (by omega); have hi256 : z_dif (2 ^ n - 1) outs < 256 := (by have := z_dif_le (s := 2 ^ n - 1) (t := outs); omega)
  refine e_steps 4 (σ' := (8, [(0, .ref 0)], [.ref 2, .ref 1], (MH g kept was isKept tape fed pos tlen flt ranking paper written pairs above below isDone dist rowv rowMany lsz itm weakAbove weakBelow))) rfl ?_
  refine e_call (y := 130) (av := [.ref 1, .ref 2]) (rest := []) rfl (c_X6_copies_gk (d + 0) ) (fun r_8 h_8 p_8 => ?_)
  obtain ⟨kept_8, rfl, rfl, q_8⟩ := p_8
  refine e_steps 2 (σ' := (13, [(0, .ref 0)], [.int (nI 1), .ref 0], (MH g kept_8 was isKept tape fed pos tlen flt ranking paper written pairs above below isDone dist rowv rowMany lsz itm weakAbove weakBelow))) rfl ?_
  refine e_gd (c := nI 1 = 0 ∨ nI 1 = 1) rfl (by decide) ?_
  refine e_steps 3 (σ' := (21, [(0, .ref 0)], [.int (nI 2), .ref 1], (MH g kept_8 was (nI 1) tape fed pos tlen flt ranking paper written pairs above below isDone dist rowv rowMany lsz itm weakAbove weakBelow))) rfl ?_
  refine e_ial (nI bm) rfl rfl (by first | assumption | omega | rfl | trivial) (by decide) (hb0) ?_
  refine e_steps 0 (σ' := (22, [(0, .ref 0)], [.int (nI bm)], (MH g kept_8 was (nI 1) tape fed pos tlen flt ranking paper written pairs above below isDone dist rowv rowMany lsz itm weakAbove weakBelow))) rfl ?_
  exact e_ret rfl (trivial) (hR _ _ ⟨kept_8, (by rfl), rfl, (by exact z_GI_congr hG q_8)⟩)
theorem c_X6_undo (d : Nat) {g : Nat → Int32} {kept : Nat → Int32} {was : Nat → Int32} {ik : Nat} {tape : Nat → Int32} {fed : Int32} {pos : Int32} {tlen : Int32} {flt : Int32} {ranking : Nat → Int32} {paper : Nat → Int32} {written : Int32} {pairs : Nat → Int64} {above : Nat → Int64} {below : Nat → Int64} {isDone : Nat → Int32} {dist : Nat → Int32} {rowv : Nat → Int32} {rowMany : Int32} {lsz : Nat → Int32} {itm : Nat → Int64} {weakAbove : Int64} {weakBelow : Int64} {n : Nat} {outs : Nat} {bm : Nat} {ms : Nat} {dr : Nat → Nat} {cn : Nat → Nat} {pl : Nat → Nat → Nat} {kn : Nat} {ko : Nat} {kb : Nat} {km : Nat} {kd : Nat → Nat} {kc : Nat → Nat} {kp : Nat → Nat → Nat} (hG : z_GI g n outs bm ms dr cn pl) (hik : ik < 2) (hK : ik = 1 → z_GI kept kn ko kb km kd kc kp) : z_CAL (d + 2) 236 [.ref 0] (MH g kept was (nI ik) tape fed pos tlen flt ranking paper written pairs above below isDone dist rowv rowMany lsz itm weakAbove weakBelow) (fun r h2 => ∃ (g2 : Nat → Int32) (v : Int32), r = some (.int v) ∧ h2 = (MH g2 kept was (nI ik) tape fed pos tlen flt ranking paper written pairs above below isDone dist rowv rowMany lsz itm weakAbove weakBelow) ∧ ((ik = 0 ∧ v = -nI 3 ∧ g2 = g) ∨ (ik = 1 ∧ v = nI kb ∧ z_GI g2 kn ko kb km kd kc kp))) := by
  refine e_of2 (q := zmX6_undo) rfl rfl (fun R hR => ?_)
  obtain ⟨⟨hn0, hn2, hn8⟩, ⟨ho0, ho8, hin⟩, ⟨hb0, hb40⟩, ⟨hm0, hm4⟩, ⟨hdr, hdl, hdc⟩, hcn, hpl⟩ := id hG; have hp8 := z_p2 hn8; have ho256 : outs < 256 := (by omega); have hi256 : z_dif (2 ^ n - 1) outs < 256 := (by have := z_dif_le (s := 2 ^ n - 1) (t := outs); omega)
  refine e_steps 2 (σ' := (4, [(0, .ref 0)], [.int (nI ik)], (MH g kept was (nI ik) tape fed pos tlen flt ranking paper written pairs above below isDone dist rowv rowMany lsz itm weakAbove weakBelow))) rfl ?_
  refine e_if (c := ¬ nI ik = 0) rfl (fun c_4 => ?_) (fun c_4 => ?_)
  · skip
    rw [z0_ne (by omega)] at c_4
    skip
    refine e_steps 4 (σ' := (18, [(0, .ref 0)], [.ref 1, .ref 2], (MH g kept was (nI ik) tape fed pos tlen flt ranking paper written pairs above below isDone dist rowv rowMany lsz itm weakAbove weakBelow))) rfl ?_
    refine e_call (y := 130) (av := [.ref 2, .ref 1]) (rest := []) rfl (c_X6_copies_kg (d + 0) ) (fun r_18 h_18 p_18 => ?_)
    obtain ⟨g_18, rfl, rfl, q_18⟩ := p_18
    have hG2 := z_GI_congr (hK (by omega)) q_18; have hv2 := hG2.2.2.1.1
    refine e_steps 3 (σ' := (26, [(0, .ref 0)], [.int (nI 2), .ref 1], (MH g_18 kept was (nI ik) tape fed pos tlen flt ranking paper written pairs above below isDone dist rowv rowMany lsz itm weakAbove weakBelow))) rfl ?_
    refine e_ial (nI kb) rfl rfl (by first | assumption | omega | rfl | trivial) (by decide) (hv2) ?_
    refine e_steps 0 (σ' := (27, [(0, .ref 0)], [.int (nI kb)], (MH g_18 kept was (nI ik) tape fed pos tlen flt ranking paper written pairs above below isDone dist rowv rowMany lsz itm weakAbove weakBelow))) rfl ?_
    exact e_ret rfl (trivial) (hR _ _ ⟨g_18, (nI kb), rfl, rfl, (by first | exact Or.inl ⟨by omega, rfl, rfl⟩ | exact Or.inr ⟨by omega, rfl, hG2⟩)⟩)
  · skip
    rw [z0_ne (by omega)] at c_4
    replace c_4 := Decidable.not_not.mp c_4
    refine e_steps 1 (σ' := (9, [(0, .ref 0)], [.int ((-nI 3))], (MH g kept was (nI ik) tape fed pos tlen flt ranking paper written pairs above below isDone dist rowv rowMany lsz itm weakAbove weakBelow))) rfl ?_
    exact e_ret rfl (trivial) (hR _ _ ⟨g, ((-nI 3)), rfl, rfl, (by first | exact Or.inl ⟨by omega, rfl, rfl⟩ | exact Or.inr ⟨by omega, rfl, hG2⟩)⟩)
