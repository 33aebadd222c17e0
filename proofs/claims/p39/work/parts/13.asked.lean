/-! the reference: what is asked of ways -/
theorem c_X6_has_V (d : Nat) {g : Nat → Int32} {kept : Nat → Int32} {was : Nat → Int32} {isKept : Int32} {tape : Nat → Int32} {fed : Int32} {pos : Int32} {tlen : Int32} {flt : Int32} {ranking : Nat → Int32} {paper : Nat → Int32} {written : Int32} {pairs : Nat → Int64} {above : Nat → Int64} {below : Nat → Int64} {isDone : Nat → Int32} {dist : Nat → Int32} {rowv : Nat → Int32} {rowMany : Int32} {lsz : Nat → Int32} {itm : Nat → Int64} {weakAbove : Int64} {weakBelow : Int64} {s : Nat} {k : Nat} (hs : s < 256) (hk : k < 8) : z_CAL (d + 1) 131 [.int (nI s), .int (nI k)] (MH g kept was isKept tape fed pos tlen flt ranking paper written pairs above below isDone dist rowv rowMany lsz itm weakAbove weakBelow) (fun r h2 => r = some (.int (nI ((s.testBit k).toNat))) ∧ h2 = (MH g kept was isKept tape fed pos tlen flt ranking paper written pairs above below isDone dist rowv rowMany lsz itm weakAbove weakBelow)) := by
  refine e_of2 (q := zmX6_has) rfl rfl (fun R hR => ?_)
  refine e_steps 6 (σ' := (6, [(0, .int (nI s)), (1, .int (nI k))], [.int (nI 1), .int (((((nI s) >>> ((nI k) &&& 31))) &&& (nI 1)))], (MH g kept was isKept tape fed pos tlen flt ranking paper written pairs above below isDone dist rowv rowMany lsz itm weakAbove weakBelow))) rfl ?_
  refine e_if (c := ¬ ((((nI s) >>> ((nI k) &&& 31))) &&& (nI 1)) = nI 1) rfl (fun c_6 => ?_) (fun c_6 => ?_)
  · skip
    refine e_steps 1 (σ' := (14, [(0, .int (nI s)), (1, .int (nI k))], [.int (nI 0)], (MH g kept was isKept tape fed pos tlen flt ranking paper written pairs above below isDone dist rowv rowMany lsz itm weakAbove weakBelow))) rfl ?_
    exact e_ret rfl (Or.inl rfl) (hR _ _ ⟨(by rw [z_has hs hk] at c_6; first | rw [c_6]; rfl | (rw [Bool.not_eq_true] at c_6; rw [c_6]; rfl) | trivial), rfl⟩)
  · skip
    replace c_6 := Decidable.not_not.mp c_6
    refine e_steps 2 (σ' := (14, [(0, .int (nI s)), (1, .int (nI k))], [.int (nI 1)], (MH g kept was isKept tape fed pos tlen flt ranking paper written pairs above below isDone dist rowv rowMany lsz itm weakAbove weakBelow))) rfl ?_
    exact e_ret rfl (Or.inr rfl) (hR _ _ ⟨(by rw [z_has hs hk] at c_6; first | rw [c_6]; rfl | (rw [Bool.not_eq_true] at c_6; rw [c_6]; rfl) | trivial), rfl⟩)
theorem c_X6_pair (d : Nat) {g : Nat → Int32} {kept : Nat → Int32} {was : Nat → Int32} {isKept : Int32} {tape : Nat → Int32} {fed : Int32} {pos : Int32} {tlen : Int32} {flt : Int32} {ranking : Nat → Int32} {paper : Nat → Int32} {written : Int32} {pairs : Nat → Int64} {above : Nat → Int64} {below : Nat → Int64} {isDone : Nat → Int32} {dist : Nat → Int32} {rowv : Nat → Int32} {rowMany : Int32} {lsz : Nat → Int32} {itm : Nat → Int64} {weakAbove : Int64} {weakBelow : Int64} {i : Int32} {j : Int32} {n : Nat} {outs : Nat} {bm : Nat} {ms : Nat} {dr : Nat → Nat} {cn : Nat → Nat} {pl : Nat → Nat → Nat} (hG : z_GI g n outs bm ms dr cn pl) : z_CAL (d + 4) 175 [.ref 0, .int i, .int j] (MH g kept was isKept tape fed pos tlen flt ranking paper written pairs above below isDone dist rowv rowMany lsz itm weakAbove weakBelow) (fun r h2 => ∃ (pairs2 : Nat → Int64) (v : Int64), r = some (.long v) ∧ h2 = (MH g kept was isKept tape fed pos tlen flt ranking paper written pairs2 above below isDone dist rowv rowMany lsz itm weakAbove weakBelow) ∧ ((¬ (∃ a b, a < n ∧ b < n ∧ a ≠ b ∧ i = nI a ∧ j = nI b) ∧ v = -lN 9223372036854775808) ∨ ∃ a b, a < n ∧ b < n ∧ a ≠ b ∧ i = nI a ∧ j = nI b ∧ v = lN ((z_for bm cn pl) a b))) := by
  refine e_of2 (q := zmX6_pair) rfl rfl (fun R hR => ?_)
  obtain ⟨⟨hn0, hn2, hn8⟩, ⟨ho0, ho8, hin⟩, ⟨hb0, hb40⟩, ⟨hm0, hm4⟩, ⟨hdr, hdl, hdc⟩, hcn, hpl⟩ := id hG; have hp8 := z_p2 hn8; have ho256 : outs < 256 := (by omega); have hi256 : z_dif (2 ^ n - 1) outs < 256 := (by have := z_dif_le (s := 2 ^ n - 1) (t := outs); omega)
  refine e_steps 3 (σ' := (3, [(0, .ref 0), (1, .int i), (2, .int j)], [.int j, .int i, .ref 0], (MH g kept was isKept tape fed pos tlen flt ranking paper written pairs above below isDone dist rowv rowMany lsz itm weakAbove weakBelow))) rfl ?_
  refine e_call (y := 136) (av := [.ref 0, .int i, .int j]) (rest := []) rfl (c_X6_areTwo (d + 0) (n := n) (outs := outs) (bm := bm) (ms := ms) (dr := dr) (cn := cn) (pl := pl) (by first | assumption | omega | rfl | trivial)) (fun r_3 h_3 p_3 => ?_)
  obtain ⟨rfl, o_3⟩ := p_3
  rcases o_3 with ⟨rfl, o_3⟩ | ⟨rfl, o_3⟩
  · skip
    obtain ⟨a_3, b_3, ha_3, hb_3, hab_3, ea_3, eb_3⟩ := o_3
    subst ea_3
    subst eb_3
    refine e_steps 2 (σ' := (14, [(0, .ref 0), (1, .int (nI a_3)), (2, .int (nI b_3))], [.ref 0], (MH g kept was isKept tape fed pos tlen flt ranking paper written pairs above below isDone dist rowv rowMany lsz itm weakAbove weakBelow))) rfl ?_
    refine e_call (y := 172) (av := [.ref 0]) (rest := []) rfl (c_X6_countsAll (d + 1) (n := n) (outs := outs) (bm := bm) (ms := ms) (dr := dr) (cn := cn) (pl := pl) (by first | assumption | omega | rfl | trivial)) (fun r_14 h_14 p_14 => ?_)
    obtain ⟨pairs_14, rfl, rfl, q_14⟩ := p_14
    refine e_steps 3 (σ' := (20, [(0, .ref 0), (1, .int (nI a_3)), (2, .int (nI b_3))], [.int (nI b_3), .int (nI a_3), .ref 0], (MH g kept was isKept tape fed pos tlen flt ranking paper written pairs_14 above below isDone dist rowv rowMany lsz itm weakAbove weakBelow))) rfl ?_
    refine e_call (y := 174) (av := [.ref 0, .int (nI a_3), .int (nI b_3)]) (rest := []) rfl (c_X6_over (d + 2) (n := n) (outs := outs) (bm := bm) (ms := ms) (dr := dr) (cn := cn) (pl := pl) (F := (z_for bm cn pl)) (by first | assumption | omega | rfl | trivial) (by first | assumption | omega | rfl | trivial) (by first | assumption | omega | rfl | trivial) (by first | assumption | omega | rfl | trivial)) (fun r_20 h_20 p_20 => ?_)
    obtain ⟨rfl, rfl⟩ := p_20
    refine e_steps 0 (σ' := (23, [(0, .ref 0), (1, .int (nI a_3)), (2, .int (nI b_3))], [.long (lN (((z_for bm cn pl)) a_3 b_3))], (MH g kept was isKept tape fed pos tlen flt ranking paper written pairs_14 above below isDone dist rowv rowMany lsz itm weakAbove weakBelow))) rfl ?_
    exact e_ret rfl (trivial) (hR _ _ ⟨pairs_14, (lN (((z_for bm cn pl)) a_3 b_3)), rfl, rfl, (by first | exact Or.inl ⟨o_3, rfl⟩ | exact Or.inr ⟨_, _, ha_3, hb_3, hab_3, rfl, rfl, rfl⟩)⟩)
  · skip
    refine e_steps 2 (σ' := (12, [(0, .ref 0), (1, .int i), (2, .int j)], [.long ((-lN 9223372036854775808))], (MH g kept was isKept tape fed pos tlen flt ranking paper written pairs above below isDone dist rowv rowMany lsz itm weakAbove weakBelow))) rfl ?_
    exact e_ret rfl (trivial) (hR _ _ ⟨pairs, ((-lN 9223372036854775808)), rfl, rfl, (by exact Or.inl ⟨o_3, rfl⟩)⟩)
theorem c_X6_link (d : Nat) {g : Nat → Int32} {kept : Nat → Int32} {was : Nat → Int32} {isKept : Int32} {tape : Nat → Int32} {fed : Int32} {pos : Int32} {tlen : Int32} {flt : Int32} {ranking : Nat → Int32} {paper : Nat → Int32} {written : Int32} {pairs : Nat → Int64} {above : Nat → Int64} {below : Nat → Int64} {isDone : Nat → Int32} {dist : Nat → Int32} {rowv : Nat → Int32} {rowMany : Int32} {lsz : Nat → Int32} {itm : Nat → Int64} {weakAbove : Int64} {weakBelow : Int64} {i : Int32} {j : Int32} {n : Nat} {outs : Nat} {bm : Nat} {ms : Nat} {dr : Nat → Nat} {cn : Nat → Nat} {pl : Nat → Nat → Nat} (hG : z_GI g n outs bm ms dr cn pl) : z_CAL (d + 4) 177 [.ref 0, .int i, .int j] (MH g kept was isKept tape fed pos tlen flt ranking paper written pairs above below isDone dist rowv rowMany lsz itm weakAbove weakBelow) (fun r h2 => ∃ (pairs2 : Nat → Int64) (v : Int32), r = some (.int v) ∧ h2 = (MH g kept was isKept tape fed pos tlen flt ranking paper written pairs2 above below isDone dist rowv rowMany lsz itm weakAbove weakBelow) ∧ ((¬ (∃ a b, a < n ∧ b < n ∧ a ≠ b ∧ i = nI a ∧ j = nI b) ∧ v = -nI 1) ∨ ∃ a b, a < n ∧ b < n ∧ a ≠ b ∧ i = nI a ∧ j = nI b ∧ ((z_lnk (z_dif (2 ^ n - 1) outs) (z_for bm cn pl) a b ∧ v = nI 1) ∨ (¬ z_lnk (z_dif (2 ^ n - 1) outs) (z_for bm cn pl) a b ∧ v = nI 0)))) := by
  refine e_of2 (q := zmX6_link) rfl rfl (fun R hR => ?_)
  obtain ⟨⟨hn0, hn2, hn8⟩, ⟨ho0, ho8, hin⟩, ⟨hb0, hb40⟩, ⟨hm0, hm4⟩, ⟨hdr, hdl, hdc⟩, hcn, hpl⟩ := id hG; have hp8 := z_p2 hn8; have ho256 : outs < 256 := (by omega); have hi256 : z_dif (2 ^ n - 1) outs < 256 := (by have := z_dif_le (s := 2 ^ n - 1) (t := outs); omega)
  refine e_steps 3 (σ' := (3, [(0, .ref 0), (1, .int i), (2, .int j)], [.int j, .int i, .ref 0], (MH g kept was isKept tape fed pos tlen flt ranking paper written pairs above below isDone dist rowv rowMany lsz itm weakAbove weakBelow))) rfl ?_
  refine e_call (y := 136) (av := [.ref 0, .int i, .int j]) (rest := []) rfl (c_X6_areTwo (d + 0) (n := n) (outs := outs) (bm := bm) (ms := ms) (dr := dr) (cn := cn) (pl := pl) (by first | assumption | omega | rfl | trivial)) (fun r_3 h_3 p_3 => ?_)
  obtain ⟨rfl, o_3⟩ := p_3
  rcases o_3 with ⟨rfl, o_3⟩ | ⟨rfl, o_3⟩
  · skip
    obtain ⟨a_3, b_3, ha_3, hb_3, hab_3, ea_3, eb_3⟩ := o_3
    subst ea_3
    subst eb_3
    refine e_steps 2 (σ' := (12, [(0, .ref 0), (1, .int (nI a_3)), (2, .int (nI b_3))], [.ref 0], (MH g kept was isKept tape fed pos tlen flt ranking paper written pairs above below isDone dist rowv rowMany lsz itm weakAbove weakBelow))) rfl ?_
    refine e_call (y := 172) (av := [.ref 0]) (rest := []) rfl (c_X6_countsAll (d + 1) (n := n) (outs := outs) (bm := bm) (ms := ms) (dr := dr) (cn := cn) (pl := pl) (by first | assumption | omega | rfl | trivial)) (fun r_12 h_12 p_12 => ?_)
    obtain ⟨pairs_12, rfl, rfl, q_12⟩ := p_12
    refine e_steps 2 (σ' := (17, [(0, .ref 0), (1, .int (nI a_3)), (2, .int (nI b_3))], [.ref 0, .ref 0], (MH g kept was isKept tape fed pos tlen flt ranking paper written pairs_12 above below isDone dist rowv rowMany lsz itm weakAbove weakBelow))) rfl ?_
    refine e_call (y := 134) (av := [.ref 0]) (rest := [.ref 0]) rfl (c_X6_ins (d + 1) (n := n) (outs := outs) (bm := bm) (ms := ms) (dr := dr) (cn := cn) (pl := pl) (by first | assumption | omega | rfl | trivial)) (fun r_17 h_17 p_17 => ?_)
    obtain ⟨rfl, rfl⟩ := p_17
    refine e_steps 2 (σ' := (22, [(0, .ref 0), (1, .int (nI a_3)), (2, .int (nI b_3))], [.int (nI b_3), .int (nI a_3), .int (nI (z_dif (2 ^ n - 1) outs)), .ref 0], (MH g kept was isKept tape fed pos tlen flt ranking paper written pairs_12 above below isDone dist rowv rowMany lsz itm weakAbove weakBelow))) rfl ?_
    refine e_call (y := 176) (av := [.ref 0, .int (nI (z_dif (2 ^ n - 1) outs)), .int (nI a_3), .int (nI b_3)]) (rest := []) rfl (c_X6_isLink (d + 1) (n := n) (outs := outs) (bm := bm) (ms := ms) (dr := dr) (cn := cn) (pl := pl) (F := (z_for bm cn pl)) (by first | assumption | omega | rfl | trivial) (by first | assumption | omega | rfl | trivial) (by first | assumption | omega | rfl | trivial) (by first | assumption | omega | rfl | trivial) (by first | assumption | omega | rfl | trivial)) (fun r_22 h_22 p_22 => ?_)
    obtain ⟨rfl, o_22⟩ := p_22
    rcases o_22 with ⟨rfl, o_22⟩ | ⟨rfl, o_22⟩
    · skip
      refine e_steps 3 (σ' := (33, [(0, .ref 0), (1, .int (nI a_3)), (2, .int (nI b_3))], [.int (nI 1)], (MH g kept was isKept tape fed pos tlen flt ranking paper written pairs_12 above below isDone dist rowv rowMany lsz itm weakAbove weakBelow))) rfl ?_
      exact e_ret rfl (trivial) (hR _ _ ⟨pairs_12, (nI 1), rfl, rfl, (by first | exact Or.inl ⟨o_3, rfl⟩ | exact Or.inr ⟨_, _, ha_3, hb_3, hab_3, rfl, rfl, Or.inl ⟨o_22, rfl⟩⟩ | exact Or.inr ⟨_, _, ha_3, hb_3, hab_3, rfl, rfl, Or.inr ⟨o_22, rfl⟩⟩)⟩)
    · skip
      refine e_steps 2 (σ' := (33, [(0, .ref 0), (1, .int (nI a_3)), (2, .int (nI b_3))], [.int (nI 0)], (MH g kept was isKept tape fed pos tlen flt ranking paper written pairs_12 above below isDone dist rowv rowMany lsz itm weakAbove weakBelow))) rfl ?_
      exact e_ret rfl (trivial) (hR _ _ ⟨pairs_12, (nI 0), rfl, rfl, (by first | exact Or.inl ⟨o_3, rfl⟩ | exact Or.inr ⟨_, _, ha_3, hb_3, hab_3, rfl, rfl, Or.inl ⟨o_22, rfl⟩⟩ | exact Or.inr ⟨_, _, ha_3, hb_3, hab_3, rfl, rfl, Or.inr ⟨o_22, rfl⟩⟩)⟩)
  · skip
    refine e_steps 2 (σ' := (10, [(0, .ref 0), (1, .int i), (2, .int j)], [.int ((-nI 1))], (MH g kept was isKept tape fed pos tlen flt ranking paper written pairs above below isDone dist rowv rowMany lsz itm weakAbove weakBelow))) rfl ?_
    exact e_ret rfl (trivial) (hR _ _ ⟨pairs, ((-nI 1)), rfl, rfl, (by exact Or.inl ⟨o_3, rfl⟩)⟩)
theorem c_X6_doesBeat (d : Nat) {g : Nat → Int32} {kept : Nat → Int32} {was : Nat → Int32} {isKept : Int32} {tape : Nat → Int32} {fed : Int32} {pos : Int32} {tlen : Int32} {flt : Int32} {ranking : Nat → Int32} {paper : Nat → Int32} {written : Int32} {pairs : Nat → Int64} {above : Nat → Int64} {below : Nat → Int64} {isDone : Nat → Int32} {dist : Nat → Int32} {rowv : Nat → Int32} {rowMany : Int32} {lsz : Nat → Int32} {itm : Nat → Int64} {weakAbove : Int64} {weakBelow : Int64} {m : Nat} {i : Nat} {j : Nat} {n : Nat} {outs : Nat} {bm : Nat} {ms : Nat} {dr : Nat → Nat} {cn : Nat → Nat} {pl : Nat → Nat → Nat} {s : Nat} {F : Nat → Nat → Nat} {K : Nat → Nat → Nat} (hG : z_GI g n outs bm ms dr cn pl) (hW : z_WY m s F n above below K) (hi : i < n) (hj : j < n) (hm : m < 4) : z_CAL (d + 3) 196 [.ref 0, .int (nI m), .int (nI i), .int (nI j)] (MH g kept was isKept tape fed pos tlen flt ranking paper written pairs above below isDone dist rowv rowMany lsz itm weakAbove weakBelow) (fun r h2 => h2 = (MH g kept was isKept tape fed pos tlen flt ranking paper written pairs above below isDone dist rowv rowMany lsz itm weakAbove weakBelow) ∧ ((r = some (.int (nI 1)) ∧ (z_btb K i j = true)) ∨ (r = some (.int (nI 0)) ∧ (z_btb K i j = false)))) := by
  refine e_of2 (q := zmX6_doesBeat) rfl rfl (fun R hR => ?_)
  obtain ⟨⟨hn0, hn2, hn8⟩, ⟨ho0, ho8, hin⟩, ⟨hb0, hb40⟩, ⟨hm0, hm4⟩, ⟨hdr, hdl, hdc⟩, hcn, hpl⟩ := id hG; have hp8 := z_p2 hn8; have ho256 : outs < 256 := (by omega); have hi256 : z_dif (2 ^ n - 1) outs < 256 := (by have := z_dif_le (s := 2 ^ n - 1) (t := outs); omega)
  refine e_steps 2 (σ' := (2, [(0, .ref 0), (1, .int (nI m)), (2, .int (nI i)), (3, .int (nI j))], [.int (nI j), .int (nI i)], (MH g kept was isKept tape fed pos tlen flt ranking paper written pairs above below isDone dist rowv rowMany lsz itm weakAbove weakBelow))) rfl ?_
  refine e_if (c := nI i = nI j) rfl (fun c_2 => ?_) (fun c_2 => ?_)
  · skip
    rw [nI_eq (by omega) (by omega)] at c_2
    refine e_steps 1 (σ' := (30, [(0, .ref 0), (1, .int (nI m)), (2, .int (nI i)), (3, .int (nI j))], [.int (nI 0)], (MH g kept was isKept tape fed pos tlen flt ranking paper written pairs above below isDone dist rowv rowMany lsz itm weakAbove weakBelow))) rfl ?_
    exact e_ret rfl (Or.inl rfl) (hR _ _ ⟨rfl, Or.inr ⟨rfl, (by exact z_btb_F (Or.inl (by assumption)))⟩⟩)
  · skip
    rw [nI_eq (by omega) (by omega)] at c_2
    refine e_steps 4 (σ' := (10, [(0, .ref 0), (1, .int (nI m)), (2, .int (nI i)), (3, .int (nI j))], [.int (nI i), .int (nI 8), .int (nI m), .ref 0], (MH g kept was isKept tape fed pos tlen flt ranking paper written pairs above below isDone dist rowv rowMany lsz itm weakAbove weakBelow))) rfl ?_
    refine e_mul (8 * i) rfl (by first | rfl | omega | simp) ?_
    refine e_steps 1 (σ' := (12, [(0, .ref 0), (1, .int (nI m)), (2, .int (nI i)), (3, .int (nI j))], [.int (nI j), .int (nI (8 * i)), .int (nI m), .ref 0], (MH g kept was isKept tape fed pos tlen flt ranking paper written pairs above below isDone dist rowv rowMany lsz itm weakAbove weakBelow))) rfl ?_
    refine e_add (8 * i + j) rfl (by first | rfl | omega) ?_
    refine e_steps 2 (σ' := (16, [(0, .ref 0), (1, .int (nI m)), (2, .int (nI i)), (3, .int (nI j))], [.int (nI j), .int (nI 8), .int (nI (8 * i + j)), .int (nI m), .ref 0], (MH g kept was isKept tape fed pos tlen flt ranking paper written pairs above below isDone dist rowv rowMany lsz itm weakAbove weakBelow))) rfl ?_
    refine e_mul (8 * j) rfl (by first | rfl | omega | simp) ?_
    refine e_steps 1 (σ' := (18, [(0, .ref 0), (1, .int (nI m)), (2, .int (nI i)), (3, .int (nI j))], [.int (nI i), .int (nI (8 * j)), .int (nI (8 * i + j)), .int (nI m), .ref 0], (MH g kept was isKept tape fed pos tlen flt ranking paper written pairs above below isDone dist rowv rowMany lsz itm weakAbove weakBelow))) rfl ?_
    refine e_add (8 * j + i) rfl (by first | rfl | omega) ?_
    refine e_steps 0 (σ' := (19, [(0, .ref 0), (1, .int (nI m)), (2, .int (nI i)), (3, .int (nI j))], [.int (nI (8 * j + i)), .int (nI (8 * i + j)), .int (nI m), .ref 0], (MH g kept was isKept tape fed pos tlen flt ranking paper written pairs above below isDone dist rowv rowMany lsz itm weakAbove weakBelow))) rfl ?_
    refine e_call (y := 179) (av := [.ref 0, .int (nI m), .int (nI (8 * i + j)), .int (nI (8 * j + i))]) (rest := []) rfl (c_X6_isMore (d + 0) (k1 := (K i j)) (k2 := (K j i)) (by exact hW.1 i hi j (by omega)) (by exact hW.1 j hj i (by omega)) (by first | assumption | omega | rfl | trivial) (by first | assumption | omega | rfl | trivial) (by first | assumption | omega | rfl | trivial)) (fun r_19 h_19 p_19 => ?_)
    obtain ⟨rfl, o_19⟩ := p_19
    rcases o_19 with ⟨rfl, o_19⟩ | ⟨rfl, o_19⟩
    · skip
      refine e_steps 3 (σ' := (30, [(0, .ref 0), (1, .int (nI m)), (2, .int (nI i)), (3, .int (nI j))], [.int (nI 1)], (MH g kept was isKept tape fed pos tlen flt ranking paper written pairs above below isDone dist rowv rowMany lsz itm weakAbove weakBelow))) rfl ?_
      exact e_ret rfl (Or.inr rfl) (hR _ _ ⟨rfl, Or.inl ⟨rfl, (by exact z_btb_T (by assumption) o_19)⟩⟩)
    · skip
      refine e_steps 2 (σ' := (30, [(0, .ref 0), (1, .int (nI m)), (2, .int (nI i)), (3, .int (nI j))], [.int (nI 0)], (MH g kept was isKept tape fed pos tlen flt ranking paper written pairs above below isDone dist rowv rowMany lsz itm weakAbove weakBelow))) rfl ?_
      exact e_ret rfl (Or.inl rfl) (hR _ _ ⟨rfl, Or.inr ⟨rfl, (by first | exact z_btb_F (Or.inl (by assumption)) | exact z_btb_F (Or.inr o_19))⟩⟩)
theorem c_X6_unbeaten (d : Nat) {g : Nat → Int32} {kept : Nat → Int32} {was : Nat → Int32} {isKept : Int32} {tape : Nat → Int32} {fed : Int32} {pos : Int32} {tlen : Int32} {flt : Int32} {ranking : Nat → Int32} {paper : Nat → Int32} {written : Int32} {pairs : Nat → Int64} {above : Nat → Int64} {below : Nat → Int64} {isDone : Nat → Int32} {dist : Nat → Int32} {rowv : Nat → Int32} {rowMany : Int32} {lsz : Nat → Int32} {itm : Nat → Int64} {weakAbove : Int64} {weakBelow : Int64} {m : Nat} {s2 : Nat} {n : Nat} {outs : Nat} {bm : Nat} {ms : Nat} {dr : Nat → Nat} {cn : Nat → Nat} {pl : Nat → Nat → Nat} {s : Nat} {F : Nat → Nat → Nat} {K : Nat → Nat → Nat} (hG : z_GI g n outs bm ms dr cn pl) (hW : z_WY m s F n above below K) (hs : s2 < 256) (hm : m < 4) : z_CAL (d + 4) 198 [.ref 0, .int (nI m), .int (nI s2)] (MH g kept was isKept tape fed pos tlen flt ranking paper written pairs above below isDone dist rowv rowMany lsz itm weakAbove weakBelow) (fun r h2 => r = some (.int (nI (z_ub n K s2))) ∧ h2 = (MH g kept was isKept tape fed pos tlen flt ranking paper written pairs above below isDone dist rowv rowMany lsz itm weakAbove weakBelow)) := by
  refine e_of2 (q := zmX6_unbeaten) rfl rfl (fun R hR => ?_)
  obtain ⟨⟨hn0, hn2, hn8⟩, ⟨ho0, ho8, hin⟩, ⟨hb0, hb40⟩, ⟨hm0, hm4⟩, ⟨hdr, hdl, hdc⟩, hcn, hpl⟩ := id hG; have hp8 := z_p2 hn8; have ho256 : outs < 256 := (by omega); have hi256 : z_dif (2 ^ n - 1) outs < 256 := (by have := z_dif_le (s := 2 ^ n - 1) (t := outs); omega)
  refine e_steps 4 (σ' := (5, [(4, .int (nI 0)), (3, .int (nI 0)), (0, .ref 0), (1, .int (nI m)), (2, .int (nI s2))], [], (MH g kept was isKept tape fed pos tlen flt ranking paper written pairs above below isDone dist rowv rowMany lsz itm weakAbove weakBelow))) rfl ?_
  have loop_5 : ∀ (z_5 : Nat) (best : Nat) (j : Nat), n - j < z_5 → (j ≤ n ∧ best = z_set j (z_ubb n K s2)) → z_EV (d + 3) zmX6_unbeaten R (5, [(0, .ref 0), (1, .int (nI m)), (2, .int (nI s2)), (3, .int (nI best)), (4, .int (nI j))], [], (MH g kept was isKept tape fed pos tlen flt ranking paper written pairs above below isDone dist rowv rowMany lsz itm weakAbove weakBelow)) := by
    intro z_5
    induction z_5 with
    | zero => intro best j hm_5 _; exact absurd hm_5 (Nat.not_lt_zero _)
    | succ z_5 ih_5 =>
      intro best j hm_5 hi_5
      obtain ⟨l1, l2⟩ := hi_5
      refine e_steps 4 (σ' := (12, [(0, .ref 0), (1, .int (nI m)), (2, .int (nI s2)), (3, .int (nI best)), (4, .int (nI j))], [.int (nI 0), .ref 1, .int (nI j)], (MH g kept was isKept tape fed pos tlen flt ranking paper written pairs above below isDone dist rowv rowMany lsz itm weakAbove weakBelow))) rfl ?_
      refine e_ial (nI n) rfl rfl (by first | assumption | omega | rfl | trivial) (by decide) (hn0) ?_
      refine e_steps 0 (σ' := (13, [(0, .ref 0), (1, .int (nI m)), (2, .int (nI s2)), (3, .int (nI best)), (4, .int (nI j))], [.int (nI n), .int (nI j)], (MH g kept was isKept tape fed pos tlen flt ranking paper written pairs above below isDone dist rowv rowMany lsz itm weakAbove weakBelow))) rfl ?_
      refine e_if (c := nI n ≤ nI j) rfl (fun c_13 => ?_) (fun c_13 => ?_)
      · skip
        rw [nI_leI (by omega) (by omega)] at c_13
        refine e_steps 1 (σ' := (98, [(0, .ref 0), (1, .int (nI m)), (2, .int (nI s2)), (3, .int (nI best)), (4, .int (nI j))], [.int (nI best)], (MH g kept was isKept tape fed pos tlen flt ranking paper written pairs above below isDone dist rowv rowMany lsz itm weakAbove weakBelow))) rfl ?_
        exact e_ret rfl (trivial) (hR _ _ ⟨(by rw [l2, show j = n by omega]; rfl), rfl⟩)
      · skip
        rw [nI_leI (by omega) (by omega)] at c_13
        refine e_steps 2 (σ' := (19, [(0, .ref 0), (1, .int (nI m)), (2, .int (nI s2)), (3, .int (nI best)), (4, .int (nI j))], [.int (nI j), .int (nI s2)], (MH g kept was isKept tape fed pos tlen flt ranking paper written pairs above below isDone dist rowv rowMany lsz itm weakAbove weakBelow))) rfl ?_
        refine e_call (y := 131) (av := [.int (nI s2), .int (nI j)]) (rest := []) rfl (c_X6_has_V (d + 2) (by first | assumption | omega | rfl | trivial) (by first | assumption | omega | rfl | trivial)) (fun r_19 h_19 p_19 => ?_)
        obtain ⟨rfl, rfl⟩ := p_19
        refine e_steps 3 (σ' := (27, [(6, .int (nI 0)), (5, .int (nI ((s2.testBit j).toNat))), (0, .ref 0), (1, .int (nI m)), (2, .int (nI s2)), (3, .int (nI best)), (4, .int (nI j))], [], (MH g kept was isKept tape fed pos tlen flt ranking paper written pairs above below isDone dist rowv rowMany lsz itm weakAbove weakBelow))) rfl ?_
        have loop_27 : ∀ (z_27 : Nat) (isv : Nat) (i : Nat), n - i < z_27 → (i ≤ n ∧ isv = (s2.testBit j && z_allb i (fun x => !(s2.testBit x && z_btb K x j))).toNat) → z_EV (d + 3) zmX6_unbeaten R (27, [(0, .ref 0), (1, .int (nI m)), (2, .int (nI s2)), (3, .int (nI best)), (4, .int (nI j)), (5, .int (nI isv)), (6, .int (nI i))], [], (MH g kept was isKept tape fed pos tlen flt ranking paper written pairs above below isDone dist rowv rowMany lsz itm weakAbove weakBelow)) := by
          intro z_27
          induction z_27 with
          | zero => intro isv i hm_27 _; exact absurd hm_27 (Nat.not_lt_zero _)
          | succ z_27 ih_27 =>
            intro isv i hm_27 hi_27
            obtain ⟨m1, m2⟩ := hi_27; have m3 : isv < 2 := (by rw [m2]; exact z_tn_lt _)
            refine e_steps 4 (σ' := (34, [(0, .ref 0), (1, .int (nI m)), (2, .int (nI s2)), (3, .int (nI best)), (4, .int (nI j)), (5, .int (nI isv)), (6, .int (nI i))], [.int (nI 0), .ref 1, .int (nI i)], (MH g kept was isKept tape fed pos tlen flt ranking paper written pairs above below isDone dist rowv rowMany lsz itm weakAbove weakBelow))) rfl ?_
            refine e_ial (nI n) rfl rfl (by first | assumption | omega | rfl | trivial) (by decide) (hn0) ?_
            refine e_steps 0 (σ' := (35, [(0, .ref 0), (1, .int (nI m)), (2, .int (nI s2)), (3, .int (nI best)), (4, .int (nI j)), (5, .int (nI isv)), (6, .int (nI i))], [.int (nI n), .int (nI i)], (MH g kept was isKept tape fed pos tlen flt ranking paper written pairs above below isDone dist rowv rowMany lsz itm weakAbove weakBelow))) rfl ?_
            refine e_if (c := nI n ≤ nI i) rfl (fun c_35 => ?_) (fun c_35 => ?_)
            · skip
              rw [nI_leI (by omega) (by omega)] at c_35
              refine e_steps 0 (σ' := (75, [(0, .ref 0), (1, .int (nI m)), (2, .int (nI s2)), (3, .int (nI best)), (4, .int (nI j)), (5, .int (nI isv)), (6, .int (nI i))], [], (MH g kept was isKept tape fed pos tlen flt ranking paper written pairs above below isDone dist rowv rowMany lsz itm weakAbove weakBelow))) rfl ?_
              have ei : i = n := (by omega); rw [ei] at m2
              refine e_steps 2 (σ' := (78, [(0, .ref 0), (1, .int (nI m)), (2, .int (nI s2)), (3, .int (nI best)), (4, .int (nI j)), (5, .int (nI isv)), (6, .int (nI i))], [.int (nI isv), .int (nI best)], (MH g kept was isKept tape fed pos tlen flt ranking paper written pairs above below isDone dist rowv rowMany lsz itm weakAbove weakBelow))) rfl ?_
              refine e_if (c := nI isv = 0) rfl (fun c_78 => ?_) (fun c_78 => ?_)
              · skip
                rw [z0_eq (by omega)] at c_78
                refine e_steps 1 (σ' := (89, [(0, .ref 0), (1, .int (nI m)), (2, .int (nI s2)), (3, .int (nI best)), (4, .int (nI j)), (5, .int (nI isv)), (6, .int (nI i))], [.int (nI 0), .int (nI best)], (MH g kept was isKept tape fed pos tlen flt ranking paper written pairs above below isDone dist rowv rowMany lsz itm weakAbove weakBelow))) rfl ?_
                refine e_or (best ||| 0) rfl (by first | rfl | decide) ?_
                refine e_steps 1 (σ' := (91, [(3, .int (nI (best ||| 0))), (0, .ref 0), (1, .int (nI m)), (2, .int (nI s2)), (4, .int (nI j)), (5, .int (nI isv)), (6, .int (nI i))], [], (MH g kept was isKept tape fed pos tlen flt ranking paper written pairs above below isDone dist rowv rowMany lsz itm weakAbove weakBelow))) rfl ?_
                refine e_inc (n := 1) rfl rfl rfl (j + 1) (by rfl) [(4, .int (nI (j + 1))), (3, .int (nI (best ||| 0))), (0, .ref 0), (1, .int (nI m)), (2, .int (nI s2)), (5, .int (nI isv)), (6, .int (nI i))] rfl ?_
                refine e_steps 1 (σ' := (5, [(4, .int (nI (j + 1))), (3, .int (nI (best ||| 0))), (0, .ref 0), (1, .int (nI m)), (2, .int (nI s2)), (5, .int (nI isv)), (6, .int (nI i))], [], (MH g kept was isKept tape fed pos tlen flt ranking paper written pairs above below isDone dist rowv rowMany lsz itm weakAbove weakBelow))) rfl ?_
                refine e_sub [2, 3, 4, 1, 0] rfl ?_
                exact ih_5 (best ||| 0) (j + 1) (by omega) (by first | exact ⟨by omega, z_set_T l2 (by have h := m2; exact z_tn_ne (h ▸ (by assumption)))⟩ | exact ⟨by omega, z_set_F0 l2 (z_tn_eq (m2.symm.trans (by assumption)))⟩ | exact ⟨by omega, z_set_F l2 (z_tn_eq (m2.symm.trans (by assumption)))⟩)
              · skip
                rw [z0_eq (by omega)] at c_78
                refine e_steps 2 (σ' := (84, [(0, .ref 0), (1, .int (nI m)), (2, .int (nI s2)), (3, .int (nI best)), (4, .int (nI j)), (5, .int (nI isv)), (6, .int (nI i))], [.int (nI j), .int (nI 1), .int (nI best)], (MH g kept was isKept tape fed pos tlen flt ranking paper written pairs above below isDone dist rowv rowMany lsz itm weakAbove weakBelow))) rfl ?_
                refine e_shl rfl (by first | assumption | omega | rfl | trivial) ?_
                refine e_steps 1 (σ' := (89, [(0, .ref 0), (1, .int (nI m)), (2, .int (nI s2)), (3, .int (nI best)), (4, .int (nI j)), (5, .int (nI isv)), (6, .int (nI i))], [.int (nI (2 ^ j)), .int (nI best)], (MH g kept was isKept tape fed pos tlen flt ranking paper written pairs above below isDone dist rowv rowMany lsz itm weakAbove weakBelow))) rfl ?_
                refine e_or (best ||| (2 ^ j)) rfl (by first | rfl | decide) ?_
                refine e_steps 1 (σ' := (91, [(3, .int (nI (best ||| (2 ^ j)))), (0, .ref 0), (1, .int (nI m)), (2, .int (nI s2)), (4, .int (nI j)), (5, .int (nI isv)), (6, .int (nI i))], [], (MH g kept was isKept tape fed pos tlen flt ranking paper written pairs above below isDone dist rowv rowMany lsz itm weakAbove weakBelow))) rfl ?_
                refine e_inc (n := 1) rfl rfl rfl (j + 1) (by rfl) [(4, .int (nI (j + 1))), (3, .int (nI (best ||| (2 ^ j)))), (0, .ref 0), (1, .int (nI m)), (2, .int (nI s2)), (5, .int (nI isv)), (6, .int (nI i))] rfl ?_
                refine e_steps 1 (σ' := (5, [(4, .int (nI (j + 1))), (3, .int (nI (best ||| (2 ^ j)))), (0, .ref 0), (1, .int (nI m)), (2, .int (nI s2)), (5, .int (nI isv)), (6, .int (nI i))], [], (MH g kept was isKept tape fed pos tlen flt ranking paper written pairs above below isDone dist rowv rowMany lsz itm weakAbove weakBelow))) rfl ?_
                refine e_sub [2, 3, 4, 1, 0] rfl ?_
                exact ih_5 (best ||| (2 ^ j)) (j + 1) (by omega) (by first | exact ⟨by omega, z_set_T l2 (by have h := m2; exact z_tn_ne (h ▸ (by assumption)))⟩ | exact ⟨by omega, z_set_F0 l2 (z_tn_eq (m2.symm.trans (by assumption)))⟩ | exact ⟨by omega, z_set_F l2 (z_tn_eq (m2.symm.trans (by assumption)))⟩)
            · skip
              rw [nI_leI (by omega) (by omega)] at c_35
              refine e_steps 3 (σ' := (43, [(0, .ref 0), (1, .int (nI m)), (2, .int (nI s2)), (3, .int (nI best)), (4, .int (nI j)), (5, .int (nI isv)), (6, .int (nI i))], [.int (nI i), .int (nI s2), .int (nI isv)], (MH g kept was isKept tape fed pos tlen flt ranking paper written pairs above below isDone dist rowv rowMany lsz itm weakAbove weakBelow))) rfl ?_
              refine e_call (y := 131) (av := [.int (nI s2), .int (nI i)]) (rest := [.int (nI isv)]) rfl (c_X6_has (d + 2) (by first | assumption | omega | rfl | trivial) (by first | assumption | omega | rfl | trivial)) (fun r_43 h_43 p_43 => ?_)
              obtain ⟨rfl, o_43⟩ := p_43
              rcases o_43 with ⟨rfl, o_43⟩ | ⟨rfl, o_43⟩
              · skip
                refine e_steps 5 (σ' := (55, [(0, .ref 0), (1, .int (nI m)), (2, .int (nI s2)), (3, .int (nI best)), (4, .int (nI j)), (5, .int (nI isv)), (6, .int (nI i))], [.int (nI j), .int (nI i), .int (nI m), .ref 0, .int (nI isv)], (MH g kept was isKept tape fed pos tlen flt ranking paper written pairs above below isDone dist rowv rowMany lsz itm weakAbove weakBelow))) rfl ?_
                refine e_call (y := 196) (av := [.ref 0, .int (nI m), .int (nI i), .int (nI j)]) (rest := [.int (nI isv)]) rfl (c_X6_doesBeat (d + 0) (n := n) (outs := outs) (bm := bm) (ms := ms) (dr := dr) (cn := cn) (pl := pl) (s := s) (F := F) (K := K) (by first | assumption | omega | rfl | trivial) (by first | assumption | omega | rfl | trivial) (by first | assumption | omega | rfl | trivial) (by first | assumption | omega | rfl | trivial) (by first | assumption | omega | rfl | trivial)) (fun r_55 h_55 p_55 => ?_)
                obtain ⟨rfl, o_55⟩ := p_55
                rcases o_55 with ⟨rfl, o_55⟩ | ⟨rfl, o_55⟩
                · skip
                  refine e_steps 2 (σ' := (66, [(0, .ref 0), (1, .int (nI m)), (2, .int (nI s2)), (3, .int (nI best)), (4, .int (nI j)), (5, .int (nI isv)), (6, .int (nI i))], [.int (nI 0), .int (nI isv)], (MH g kept was isKept tape fed pos tlen flt ranking paper written pairs above below isDone dist rowv rowMany lsz itm weakAbove weakBelow))) rfl ?_
                  refine e_and (isv &&& 0) rfl (by first | rfl | decide) ?_
                  refine e_steps 1 (σ' := (69, [(5, .int (nI (isv &&& 0))), (0, .ref 0), (1, .int (nI m)), (2, .int (nI s2)), (3, .int (nI best)), (4, .int (nI j)), (6, .int (nI i))], [], (MH g kept was isKept tape fed pos tlen flt ranking paper written pairs above below isDone dist rowv rowMany lsz itm weakAbove weakBelow))) rfl ?_
                  refine e_inc (n := 1) rfl rfl rfl (i + 1) (by rfl) [(6, .int (nI (i + 1))), (5, .int (nI (isv &&& 0))), (0, .ref 0), (1, .int (nI m)), (2, .int (nI s2)), (3, .int (nI best)), (4, .int (nI j))] rfl ?_
                  refine e_steps 1 (σ' := (27, [(6, .int (nI (i + 1))), (5, .int (nI (isv &&& 0))), (0, .ref 0), (1, .int (nI m)), (2, .int (nI s2)), (3, .int (nI best)), (4, .int (nI j))], [], (MH g kept was isKept tape fed pos tlen flt ranking paper written pairs above below isDone dist rowv rowMany lsz itm weakAbove weakBelow))) rfl ?_
                  refine e_sub [2, 3, 4, 5, 6, 1, 0] rfl ?_
                  exact ih_27 (isv &&& 0) (i + 1) (by omega) (by first | exact ⟨by omega, z_is_F m2 (by show (!(s2.testBit i && z_btb K i j)) = false; rw [o_43, o_55]; rfl)⟩ | exact ⟨by omega, z_is_T m2 (by show (!(s2.testBit i && z_btb K i j)) = true; rw [o_43, o_55]; rfl)⟩ | exact ⟨by omega, z_is_T m2 (by show (!(s2.testBit i && z_btb K i j)) = true; rw [o_43]; rfl)⟩)
                · skip
                  refine e_steps 3 (σ' := (66, [(0, .ref 0), (1, .int (nI m)), (2, .int (nI s2)), (3, .int (nI best)), (4, .int (nI j)), (5, .int (nI isv)), (6, .int (nI i))], [.int (nI 1), .int (nI isv)], (MH g kept was isKept tape fed pos tlen flt ranking paper written pairs above below isDone dist rowv rowMany lsz itm weakAbove weakBelow))) rfl ?_
                  refine e_and (isv &&& 1) rfl (by first | rfl | decide) ?_
                  refine e_steps 1 (σ' := (69, [(5, .int (nI (isv &&& 1))), (0, .ref 0), (1, .int (nI m)), (2, .int (nI s2)), (3, .int (nI best)), (4, .int (nI j)), (6, .int (nI i))], [], (MH g kept was isKept tape fed pos tlen flt ranking paper written pairs above below isDone dist rowv rowMany lsz itm weakAbove weakBelow))) rfl ?_
                  refine e_inc (n := 1) rfl rfl rfl (i + 1) (by rfl) [(6, .int (nI (i + 1))), (5, .int (nI (isv &&& 1))), (0, .ref 0), (1, .int (nI m)), (2, .int (nI s2)), (3, .int (nI best)), (4, .int (nI j))] rfl ?_
                  refine e_steps 1 (σ' := (27, [(6, .int (nI (i + 1))), (5, .int (nI (isv &&& 1))), (0, .ref 0), (1, .int (nI m)), (2, .int (nI s2)), (3, .int (nI best)), (4, .int (nI j))], [], (MH g kept was isKept tape fed pos tlen flt ranking paper written pairs above below isDone dist rowv rowMany lsz itm weakAbove weakBelow))) rfl ?_
                  refine e_sub [2, 3, 4, 5, 6, 1, 0] rfl ?_
                  exact ih_27 (isv &&& 1) (i + 1) (by omega) (by first | exact ⟨by omega, z_is_F m2 (by show (!(s2.testBit i && z_btb K i j)) = false; rw [o_43, o_55]; rfl)⟩ | exact ⟨by omega, z_is_T m2 (by show (!(s2.testBit i && z_btb K i j)) = true; rw [o_43, o_55]; rfl)⟩ | exact ⟨by omega, z_is_T m2 (by show (!(s2.testBit i && z_btb K i j)) = true; rw [o_43]; rfl)⟩)
              · skip
                refine e_steps 3 (σ' := (66, [(0, .ref 0), (1, .int (nI m)), (2, .int (nI s2)), (3, .int (nI best)), (4, .int (nI j)), (5, .int (nI isv)), (6, .int (nI i))], [.int (nI 1), .int (nI isv)], (MH g kept was isKept tape fed pos tlen flt ranking paper written pairs above below isDone dist rowv rowMany lsz itm weakAbove weakBelow))) rfl ?_
                refine e_and (isv &&& 1) rfl (by first | rfl | decide) ?_
                refine e_steps 1 (σ' := (69, [(5, .int (nI (isv &&& 1))), (0, .ref 0), (1, .int (nI m)), (2, .int (nI s2)), (3, .int (nI best)), (4, .int (nI j)), (6, .int (nI i))], [], (MH g kept was isKept tape fed pos tlen flt ranking paper written pairs above below isDone dist rowv rowMany lsz itm weakAbove weakBelow))) rfl ?_
                refine e_inc (n := 1) rfl rfl rfl (i + 1) (by rfl) [(6, .int (nI (i + 1))), (5, .int (nI (isv &&& 1))), (0, .ref 0), (1, .int (nI m)), (2, .int (nI s2)), (3, .int (nI best)), (4, .int (nI j))] rfl ?_
                refine e_steps 1 (σ' := (27, [(6, .int (nI (i + 1))), (5, .int (nI (isv &&& 1))), (0, .ref 0), (1, .int (nI m)), (2, .int (nI s2)), (3, .int (nI best)), (4, .int (nI j))], [], (MH g kept was isKept tape fed pos tlen flt ranking paper written pairs above below isDone dist rowv rowMany lsz itm weakAbove weakBelow))) rfl ?_
                refine e_sub [2, 3, 4, 5, 6, 1, 0] rfl ?_
                exact ih_27 (isv &&& 1) (i + 1) (by omega) (by exact ⟨by omega, z_is_T m2 (by show (!(s2.testBit i && z_btb K i j)) = true; rw [o_43]; rfl)⟩)
        refine e_sub [2, 3, 4, 5, 6, 1, 0] rfl ?_
        exact loop_27 _ ((s2.testBit j).toNat) 0 (Nat.lt_succ_self _) (by exact ⟨by omega, by rw [show z_allb 0 (fun x => !(s2.testBit x && z_btb K x j)) = true from rfl, Bool.and_true]⟩)
  refine e_sub [2, 3, 4, 1, 0] rfl ?_
  exact loop_5 _ 0 0 (Nat.lt_succ_self _) (by exact ⟨by omega, rfl⟩)
theorem c_X6_winners (d : Nat) {g : Nat → Int32} {kept : Nat → Int32} {was : Nat → Int32} {isKept : Int32} {tape : Nat → Int32} {fed : Int32} {pos : Int32} {tlen : Int32} {flt : Int32} {ranking : Nat → Int32} {paper : Nat → Int32} {written : Int32} {pairs : Nat → Int64} {above : Nat → Int64} {below : Nat → Int64} {isDone : Nat → Int32} {dist : Nat → Int32} {rowv : Nat → Int32} {rowMany : Int32} {lsz : Nat → Int32} {itm : Nat → Int64} {weakAbove : Int64} {weakBelow : Int64} {n : Nat} {outs : Nat} {bm : Nat} {ms : Nat} {dr : Nat → Nat} {cn : Nat → Nat} {pl : Nat → Nat → Nat} (hG : z_GI g n outs bm ms dr cn pl) : z_CAL (d + 7) 199 [.ref 0] (MH g kept was isKept tape fed pos tlen flt ranking paper written pairs above below isDone dist rowv rowMany lsz itm weakAbove weakBelow) (fun r h2 => ∃ (pairs2 : Nat → Int64) (ab2 : Nat → Int64) (be2 : Nat → Int64) (dn2 : Nat → Int32) (v : Nat), r = some (.int (nI v)) ∧ h2 = (MH g kept was isKept tape fed pos tlen flt ranking paper written pairs2 ab2 be2 dn2 dist rowv rowMany lsz itm weakAbove weakBelow) ∧ (∃ K, z_rows (z_LS ms (z_dif (2 ^ n - 1) outs) (z_for bm cn pl)) n K ∧ v = z_ub n K (z_dif (2 ^ n - 1) outs))) := by
  refine e_of2 (q := zmX6_winners) rfl rfl (fun R hR => ?_)
  obtain ⟨⟨hn0, hn2, hn8⟩, ⟨ho0, ho8, hin⟩, ⟨hb0, hb40⟩, ⟨hm0, hm4⟩, ⟨hdr, hdl, hdc⟩, hcn, hpl⟩ := id hG; have hp8 := z_p2 hn8; have ho256 : outs < 256 := (by omega); have hi256 : z_dif (2 ^ n - 1) outs < 256 := (by have := z_dif_le (s := 2 ^ n - 1) (t := outs); omega)
  refine e_steps 1 (σ' := (1, [(0, .ref 0)], [.ref 0], (MH g kept was isKept tape fed pos tlen flt ranking paper written pairs above below isDone dist rowv rowMany lsz itm weakAbove weakBelow))) rfl ?_
  refine e_call (y := 185) (av := [.ref 0]) (rest := []) rfl (c_X6_waysNow (d + 0) (n := n) (outs := outs) (bm := bm) (ms := ms) (dr := dr) (cn := cn) (pl := pl) (by first | assumption | omega | rfl | trivial)) (fun r_1 h_1 p_1 => ?_)
  obtain ⟨pairs_1, above_1, below_1, isDone_1, rfl, rfl, q_1⟩ := p_1
  obtain ⟨hP2, K, hW⟩ := q_1
  refine e_steps 4 (σ' := (10, [(0, .ref 0)], [.int (nI 3), .ref 1, .ref 0], (MH g kept was isKept tape fed pos tlen flt ranking paper written pairs_1 above_1 below_1 isDone_1 dist rowv rowMany lsz itm weakAbove weakBelow))) rfl ?_
  refine e_ial (nI ms) rfl rfl (by first | assumption | omega | rfl | trivial) (by decide) (hm0) ?_
  refine e_steps 1 (σ' := (12, [(0, .ref 0)], [.ref 0, .int (nI ms), .ref 0], (MH g kept was isKept tape fed pos tlen flt ranking paper written pairs_1 above_1 below_1 isDone_1 dist rowv rowMany lsz itm weakAbove weakBelow))) rfl ?_
  refine e_call (y := 134) (av := [.ref 0]) (rest := [.int (nI ms), .ref 0]) rfl (c_X6_ins (d + 4) (n := n) (outs := outs) (bm := bm) (ms := ms) (dr := dr) (cn := cn) (pl := pl) (by first | assumption | omega | rfl | trivial)) (fun r_12 h_12 p_12 => ?_)
  obtain ⟨rfl, rfl⟩ := p_12
  refine e_steps 0 (σ' := (15, [(0, .ref 0)], [.int (nI (z_dif (2 ^ n - 1) outs)), .int (nI ms), .ref 0], (MH g kept was isKept tape fed pos tlen flt ranking paper written pairs_1 above_1 below_1 isDone_1 dist rowv rowMany lsz itm weakAbove weakBelow))) rfl ?_
  refine e_call (y := 198) (av := [.ref 0, .int (nI ms), .int (nI (z_dif (2 ^ n - 1) outs))]) (rest := []) rfl (c_X6_unbeaten (d + 2) (n := n) (outs := outs) (bm := bm) (ms := ms) (dr := dr) (cn := cn) (pl := pl) (s := (z_dif (2 ^ n - 1) outs)) (F := (z_for bm cn pl)) (K := K) (by first | assumption | omega | rfl | trivial) (by exact hW) (by first | assumption | omega | rfl | trivial) (by first | assumption | omega | rfl | trivial)) (fun r_15 h_15 p_15 => ?_)
  obtain ⟨rfl, rfl⟩ := p_15
  refine e_steps 0 (σ' := (18, [(0, .ref 0)], [.int (nI (z_ub n K (z_dif (2 ^ n - 1) outs)))], (MH g kept was isKept tape fed pos tlen flt ranking paper written pairs_1 above_1 below_1 isDone_1 dist rowv rowMany lsz itm weakAbove weakBelow))) rfl ?_
  exact e_ret rfl (trivial) (hR _ _ ⟨pairs_1, above_1, below_1, isDone_1, (z_ub n K (z_dif (2 ^ n - 1) outs)), rfl, rfl, (by exact ⟨K, hW.2, rfl⟩)⟩)
theorem c_X6_firstDrawn (d : Nat) {g : Nat → Int32} {kept : Nat → Int32} {was : Nat → Int32} {isKept : Int32} {tape : Nat → Int32} {fed : Int32} {pos : Int32} {tlen : Int32} {flt : Int32} {ranking : Nat → Int32} {paper : Nat → Int32} {written : Int32} {pairs : Nat → Int64} {above : Nat → Int64} {below : Nat → Int64} {isDone : Nat → Int32} {dist : Nat → Int32} {rowv : Nat → Int32} {rowMany : Int32} {lsz : Nat → Int32} {itm : Nat → Int64} {weakAbove : Int64} {weakBelow : Int64} {s : Nat} {n : Nat} {outs : Nat} {bm : Nat} {ms : Nat} {dr : Nat → Nat} {cn : Nat → Nat} {pl : Nat → Nat → Nat} (hG : z_GI g n outs bm ms dr cn pl) (hs : s < 256) (hx : ∃ j, j < n ∧ s.testBit j = true) : z_CAL (d + 2) 200 [.ref 0, .int (nI s)] (MH g kept was isKept tape fed pos tlen flt ranking paper written pairs above below isDone dist rowv rowMany lsz itm weakAbove weakBelow) (fun r h2 => r = some (.int (nI (z_fd dr s n 0))) ∧ h2 = (MH g kept was isKept tape fed pos tlen flt ranking paper written pairs above below isDone dist rowv rowMany lsz itm weakAbove weakBelow)) := by
  refine e_of2 (q := zmX6_firstDrawn) rfl rfl (fun R hR => ?_)
  obtain ⟨⟨hn0, hn2, hn8⟩, ⟨ho0, ho8, hin⟩, ⟨hb0, hb40⟩, ⟨hm0, hm4⟩, ⟨hdr, hdl, hdc⟩, hcn, hpl⟩ := id hG; have hp8 := z_p2 hn8; have ho256 : outs < 256 := (by omega); have hi256 : z_dif (2 ^ n - 1) outs < 256 := (by have := z_dif_le (s := 2 ^ n - 1) (t := outs); omega)
  refine e_steps 2 (σ' := (2, [(2, .int (nI 0)), (0, .ref 0), (1, .int (nI s))], [], (MH g kept was isKept tape fed pos tlen flt ranking paper written pairs above below isDone dist rowv rowMany lsz itm weakAbove weakBelow))) rfl ?_
  have loop_2 : ∀ (z_2 : Nat) (k : Nat), n - k < z_2 → ((∃ j, k ≤ j ∧ j < n ∧ s.testBit (dr j) = true) ∧ z_fd dr s (n - k) k = z_fd dr s n 0) → z_EV (d + 1) zmX6_firstDrawn R (2, [(0, .ref 0), (1, .int (nI s)), (2, .int (nI k))], [], (MH g kept was isKept tape fed pos tlen flt ranking paper written pairs above below isDone dist rowv rowMany lsz itm weakAbove weakBelow)) := by
    intro z_2
    induction z_2 with
    | zero => intro k hm_2 _; exact absurd hm_2 (Nat.not_lt_zero _)
    | succ z_2 ih_2 =>
      intro k hm_2 hi_2
      obtain ⟨⟨jj, hj1, hj2, hj3⟩, l2⟩ := hi_2; have hkl := hdl k (by omega)
      refine e_steps 5 (σ' := (9, [(0, .ref 0), (1, .int (nI s)), (2, .int (nI k))], [.int (nI k), .int (nI 4), .ref 1, .int (nI s)], (MH g kept was isKept tape fed pos tlen flt ranking paper written pairs above below isDone dist rowv rowMany lsz itm weakAbove weakBelow))) rfl ?_
      refine e_add (4 + k) rfl (by first | rfl | omega) ?_
      refine e_steps 0 (σ' := (10, [(0, .ref 0), (1, .int (nI s)), (2, .int (nI k))], [.int (nI (4 + k)), .ref 1, .int (nI s)], (MH g kept was isKept tape fed pos tlen flt ranking paper written pairs above below isDone dist rowv rowMany lsz itm weakAbove weakBelow))) rfl ?_
      refine e_ial (nI (dr k)) rfl rfl (by first | assumption | omega | rfl | trivial) (by decide) (hdr _ (by omega)) ?_
      refine e_steps 0 (σ' := (11, [(0, .ref 0), (1, .int (nI s)), (2, .int (nI k))], [.int (nI (dr k)), .int (nI s)], (MH g kept was isKept tape fed pos tlen flt ranking paper written pairs above below isDone dist rowv rowMany lsz itm weakAbove weakBelow))) rfl ?_
      refine e_call (y := 131) (av := [.int (nI s), .int (nI (dr k))]) (rest := []) rfl (c_X6_has (d + 0) (by first | assumption | omega | rfl | trivial) (by first | assumption | omega | rfl | trivial)) (fun r_11 h_11 p_11 => ?_)
      obtain ⟨rfl, o_11⟩ := p_11
      rcases o_11 with ⟨rfl, o_11⟩ | ⟨rfl, o_11⟩
      · skip
        refine e_steps 5 (σ' := (29, [(0, .ref 0), (1, .int (nI s)), (2, .int (nI k))], [.int (nI k), .int (nI 4), .ref 1], (MH g kept was isKept tape fed pos tlen flt ranking paper written pairs above below isDone dist rowv rowMany lsz itm weakAbove weakBelow))) rfl ?_
        refine e_add (4 + k) rfl (by first | rfl | omega) ?_
        refine e_steps 0 (σ' := (30, [(0, .ref 0), (1, .int (nI s)), (2, .int (nI k))], [.int (nI (4 + k)), .ref 1], (MH g kept was isKept tape fed pos tlen flt ranking paper written pairs above below isDone dist rowv rowMany lsz itm weakAbove weakBelow))) rfl ?_
        refine e_ial (nI (dr k)) rfl rfl (by first | assumption | omega | rfl | trivial) (by decide) (hdr _ (by omega)) ?_
        refine e_steps 0 (σ' := (31, [(0, .ref 0), (1, .int (nI s)), (2, .int (nI k))], [.int (nI (dr k))], (MH g kept was isKept tape fed pos tlen flt ranking paper written pairs above below isDone dist rowv rowMany lsz itm weakAbove weakBelow))) rfl ?_
        exact e_ret rfl (trivial) (hR _ _ ⟨(by exact congrArg (fun v => some (Value.int (nI v))) ((z_fd_hit (by omega) o_11).symm.trans l2)), rfl⟩)
      · skip
        refine e_steps 1 (σ' := (17, [(0, .ref 0), (1, .int (nI s)), (2, .int (nI k))], [], (MH g kept was isKept tape fed pos tlen flt ranking paper written pairs above below isDone dist rowv rowMany lsz itm weakAbove weakBelow))) rfl ?_
        refine e_inc (n := 1) rfl rfl rfl (k + 1) (by rfl) [(2, .int (nI (k + 1))), (0, .ref 0), (1, .int (nI s))] rfl ?_
        refine e_steps 1 (σ' := (2, [(2, .int (nI (k + 1))), (0, .ref 0), (1, .int (nI s))], [], (MH g kept was isKept tape fed pos tlen flt ranking paper written pairs above below isDone dist rowv rowMany lsz itm weakAbove weakBelow))) rfl ?_
        refine e_sub [1, 2, 0] rfl ?_
        exact ih_2 (k + 1) (by omega) (by exact ⟨⟨jj, by (have : jj ≠ k := fun e => by rw [e, o_11] at hj3; cases hj3); omega, hj2, hj3⟩, (z_fd_miss (by omega) o_11).symm.trans l2⟩)
  refine e_sub [1, 2, 0] rfl ?_
  exact loop_2 _ 0 (Nat.lt_succ_self _) (by obtain ⟨j, h1, h2⟩ := hx; obtain ⟨k, hk, e⟩ := hdc j h1; exact ⟨⟨k, by omega, hk, by rw [e]; exact h2⟩, rfl⟩)
theorem c_X6_ranked (d : Nat) {g : Nat → Int32} {kept : Nat → Int32} {was : Nat → Int32} {isKept : Int32} {tape : Nat → Int32} {fed : Int32} {pos : Int32} {tlen : Int32} {flt : Int32} {ranking : Nat → Int32} {paper : Nat → Int32} {written : Int32} {pairs : Nat → Int64} {above : Nat → Int64} {below : Nat → Int64} {isDone : Nat → Int32} {dist : Nat → Int32} {rowv : Nat → Int32} {rowMany : Int32} {lsz : Nat → Int32} {itm : Nat → Int64} {weakAbove : Int64} {weakBelow : Int64} {k : Int32} {n : Nat} {outs : Nat} {bm : Nat} {ms : Nat} {dr : Nat → Nat} {cn : Nat → Nat} {pl : Nat → Nat → Nat} (hG : z_GI g n outs bm ms dr cn pl) : z_CAL (d + 7) 201 [.ref 0, .int k] (MH g kept was isKept tape fed pos tlen flt ranking paper written pairs above below isDone dist rowv rowMany lsz itm weakAbove weakBelow) (fun r h2 => ∃ (pairs2 : Nat → Int64) (ab2 : Nat → Int64) (be2 : Nat → Int64) (dn2 : Nat → Int32) (v : Int32), r = some (.int v) ∧ h2 = (MH g kept was isKept tape fed pos tlen flt ranking paper written pairs2 ab2 be2 dn2 dist rowv rowMany lsz itm weakAbove weakBelow) ∧ ((¬ (∃ q, q < z_pc (z_dif (2 ^ n - 1) outs) ∧ k = nI q) ∧ v = -nI 1) ∨ ∃ q K, q < z_pc (z_dif (2 ^ n - 1) outs) ∧ k = nI q ∧ z_rows (z_LS ms (z_dif (2 ^ n - 1) outs) (z_for bm cn pl)) n K ∧ v = nI (z_fi n dr K (z_rv n dr K (z_dif (2 ^ n - 1) outs) q)))) := by
  refine e_of2 (q := zmX6_ranked) rfl rfl (fun R hR => ?_)
  obtain ⟨⟨hn0, hn2, hn8⟩, ⟨ho0, ho8, hin⟩, ⟨hb0, hb40⟩, ⟨hm0, hm4⟩, ⟨hdr, hdl, hdc⟩, hcn, hpl⟩ := id hG; have hp8 := z_p2 hn8; have ho256 : outs < 256 := (by omega); have hi256 : z_dif (2 ^ n - 1) outs < 256 := (by have := z_dif_le (s := 2 ^ n - 1) (t := outs); omega)
  refine e_steps 1 (σ' := (1, [(0, .ref 0), (1, .int k)], [.ref 0], (MH g kept was isKept tape fed pos tlen flt ranking paper written pairs above below isDone dist rowv rowMany lsz itm weakAbove weakBelow))) rfl ?_
  refine e_call (y := 134) (av := [.ref 0]) (rest := []) rfl (c_X6_ins (d + 4) (n := n) (outs := outs) (bm := bm) (ms := ms) (dr := dr) (cn := cn) (pl := pl) (by first | assumption | omega | rfl | trivial)) (fun r_1 h_1 p_1 => ?_)
  obtain ⟨rfl, rfl⟩ := p_1
  refine e_steps 5 (σ' := (9, [(2, .int (nI (z_dif (2 ^ n - 1) outs))), (0, .ref 0), (1, .int k)], [.int (nI (z_dif (2 ^ n - 1) outs)), .long (lN 0), .long k.toInt64], (MH g kept was isKept tape fed pos tlen flt ranking paper written pairs above below isDone dist rowv rowMany lsz itm weakAbove weakBelow))) rfl ?_
  refine e_call (y := 132) (av := [.int (nI (z_dif (2 ^ n - 1) outs))]) (rest := [.long (lN 0), .long k.toInt64]) rfl (c_X6_bits (d + 5) (by first | assumption | omega | rfl | trivial)) (fun r_9 h_9 p_9 => ?_)
  obtain ⟨rfl, rfl⟩ := p_9
  refine e_steps 1 (σ' := (13, [(2, .int (nI (z_dif (2 ^ n - 1) outs))), (0, .ref 0), (1, .int k)], [.int (nI 1), .int (nI (z_pc (z_dif (2 ^ n - 1) outs))), .long (lN 0), .long k.toInt64], (MH g kept was isKept tape fed pos tlen flt ranking paper written pairs above below isDone dist rowv rowMany lsz itm weakAbove weakBelow))) rfl ?_
  refine e_sbt ((z_pc (z_dif (2 ^ n - 1) outs)) - 1) rfl (by exact z_pc_pos (s := z_dif (2 ^ n - 1) outs) (by omega) hin) (by first | rfl | omega) ?_
  refine e_steps 0 (σ' := (14, [(2, .int (nI (z_dif (2 ^ n - 1) outs))), (0, .ref 0), (1, .int k)], [.int (nI ((z_pc (z_dif (2 ^ n - 1) outs)) - 1)), .long (lN 0), .long k.toInt64], (MH g kept was isKept tape fed pos tlen flt ranking paper written pairs above below isDone dist rowv rowMany lsz itm weakAbove weakBelow))) rfl ?_
  refine e_i2l rfl (by have := z_pc_le (z_dif (2 ^ n - 1) outs); omega) ?_
  refine e_steps 0 (σ' := (15, [(2, .int (nI (z_dif (2 ^ n - 1) outs))), (0, .ref 0), (1, .int k)], [.long (lN ((z_pc (z_dif (2 ^ n - 1) outs)) - 1)), .long (lN 0), .long k.toInt64], (MH g kept was isKept tape fed pos tlen flt ranking paper written pairs above below isDone dist rowv rowMany lsz itm weakAbove weakBelow))) rfl ?_
  refine e_call (y := 129) (av := [.long k.toInt64, .long (lN 0), .long (lN ((z_pc (z_dif (2 ^ n - 1) outs)) - 1))]) (rest := []) rfl (c_X6_isIn (d + 5) ) (fun r_15 h_15 p_15 => ?_)
  obtain ⟨rfl, o_15⟩ := p_15
  rcases o_15 with ⟨rfl, o_15⟩ | ⟨rfl, o_15⟩
  · skip
    obtain ⟨kk, hkk, ek⟩ := z_in_nat (by have := z_pc_le (z_dif (2 ^ n - 1) outs); omega) o_15; subst ek; have hpi := z_pc_pos (s := z_dif (2 ^ n - 1) outs) (by omega) hin; have hpl := z_pc_le (z_dif (2 ^ n - 1) outs)
    refine e_steps 2 (σ' := (24, [(2, .int (nI (z_dif (2 ^ n - 1) outs))), (0, .ref 0), (1, .int (nI kk))], [.ref 0], (MH g kept was isKept tape fed pos tlen flt ranking paper written pairs above below isDone dist rowv rowMany lsz itm weakAbove weakBelow))) rfl ?_
    refine e_call (y := 185) (av := [.ref 0]) (rest := []) rfl (c_X6_waysNow (d + 0) (n := n) (outs := outs) (bm := bm) (ms := ms) (dr := dr) (cn := cn) (pl := pl) (by first | assumption | omega | rfl | trivial)) (fun r_24 h_24 p_24 => ?_)
    obtain ⟨pairs_24, above_24, below_24, isDone_24, rfl, rfl, q_24⟩ := p_24
    obtain ⟨hP2, K, hW⟩ := q_24
    refine e_steps 2 (σ' := (29, [(3, .int (nI 0)), (2, .int (nI (z_dif (2 ^ n - 1) outs))), (0, .ref 0), (1, .int (nI kk))], [], (MH g kept was isKept tape fed pos tlen flt ranking paper written pairs_24 above_24 below_24 isDone_24 dist rowv rowMany lsz itm weakAbove weakBelow))) rfl ?_
    have loop_29 : ∀ (z_29 : Nat) (st : Nat) (i : Nat), kk - i < z_29 → (i ≤ kk ∧ st = z_rv n dr K (z_dif (2 ^ n - 1) outs) i) → z_EV (d + 6) zmX6_ranked R (29, [(0, .ref 0), (1, .int (nI kk)), (2, .int (nI st)), (3, .int (nI i))], [], (MH g kept was isKept tape fed pos tlen flt ranking paper written pairs_24 above_24 below_24 isDone_24 dist rowv rowMany lsz itm weakAbove weakBelow)) := by
      intro z_29
      induction z_29 with
      | zero => intro st i hm_29 _; exact absurd hm_29 (Nat.not_lt_zero _)
      | succ z_29 ih_29 =>
        intro st i hm_29 hi_29
        obtain ⟨l1, l2⟩ := hi_29; have hst := z_rv_lt (dr := dr) (K := K) (z_ins_lt (n := n) (outs := outs)) i; rw [← l2] at hst; have hex := z_rv_ex (dr := dr) (k := i) hn8 hW.2 hdc (z_ins_lt (n := n) (outs := outs)) (by omega); rw [← l2] at hex; have hfi := z_fi_mem (dr := dr) hW.2 hdc hex; unfold z_fi at hfi; have hub := z_ub_ex hW.2 hex; have hul := z_ub_lt (n := n) (K := K) (s := st)
        refine e_steps 2 (σ' := (31, [(0, .ref 0), (1, .int (nI kk)), (2, .int (nI st)), (3, .int (nI i))], [.int (nI kk), .int (nI i)], (MH g kept was isKept tape fed pos tlen flt ranking paper written pairs_24 above_24 below_24 isDone_24 dist rowv rowMany lsz itm weakAbove weakBelow))) rfl ?_
        refine e_if (c := nI kk ≤ nI i) rfl (fun c_31 => ?_) (fun c_31 => ?_)
        · skip
          rw [nI_leI (by omega) (by omega)] at c_31
          refine e_steps 5 (σ' := (69, [(0, .ref 0), (1, .int (nI kk)), (2, .int (nI st)), (3, .int (nI i))], [.int (nI 3), .ref 1, .ref 0, .ref 0], (MH g kept was isKept tape fed pos tlen flt ranking paper written pairs_24 above_24 below_24 isDone_24 dist rowv rowMany lsz itm weakAbove weakBelow))) rfl ?_
          refine e_ial (nI ms) rfl rfl (by first | assumption | omega | rfl | trivial) (by decide) (hm0) ?_
          refine e_steps 1 (σ' := (71, [(0, .ref 0), (1, .int (nI kk)), (2, .int (nI st)), (3, .int (nI i))], [.int (nI st), .int (nI ms), .ref 0, .ref 0], (MH g kept was isKept tape fed pos tlen flt ranking paper written pairs_24 above_24 below_24 isDone_24 dist rowv rowMany lsz itm weakAbove weakBelow))) rfl ?_
          refine e_call (y := 198) (av := [.ref 0, .int (nI ms), .int (nI st)]) (rest := [.ref 0]) rfl (c_X6_unbeaten (d + 2) (n := n) (outs := outs) (bm := bm) (ms := ms) (dr := dr) (cn := cn) (pl := pl) (s := (z_dif (2 ^ n - 1) outs)) (F := (z_for bm cn pl)) (K := K) (by first | assumption | omega | rfl | trivial) (by exact hW) (by first | assumption | omega | rfl | trivial) (by first | assumption | omega | rfl | trivial)) (fun r_71 h_71 p_71 => ?_)
          obtain ⟨rfl, rfl⟩ := p_71
          refine e_steps 0 (σ' := (74, [(0, .ref 0), (1, .int (nI kk)), (2, .int (nI st)), (3, .int (nI i))], [.int (nI (z_ub n K st)), .ref 0], (MH g kept was isKept tape fed pos tlen flt ranking paper written pairs_24 above_24 below_24 isDone_24 dist rowv rowMany lsz itm weakAbove weakBelow))) rfl ?_
          refine e_call (y := 200) (av := [.ref 0, .int (nI (z_ub n K st))]) (rest := []) rfl (c_X6_firstDrawn (d + 4) (n := n) (outs := outs) (bm := bm) (ms := ms) (dr := dr) (cn := cn) (pl := pl) (by first | assumption | omega | rfl | trivial) (by first | assumption | omega | rfl | trivial) (by exact hub)) (fun r_74 h_74 p_74 => ?_)
          obtain ⟨rfl, rfl⟩ := p_74
          refine e_steps 0 (σ' := (77, [(0, .ref 0), (1, .int (nI kk)), (2, .int (nI st)), (3, .int (nI i))], [.int (nI (z_fd dr (z_ub n K st) n 0))], (MH g kept was isKept tape fed pos tlen flt ranking paper written pairs_24 above_24 below_24 isDone_24 dist rowv rowMany lsz itm weakAbove weakBelow))) rfl ?_
          exact e_ret rfl (trivial) (hR _ _ ⟨pairs_24, above_24, below_24, isDone_24, (nI (z_fd dr (z_ub n K st) n 0)), rfl, rfl, (by first | exact Or.inr ⟨kk, K, by omega, rfl, hW.2, by (have ei : i = kk := (by omega)); rw [l2, ei]; rfl⟩ | exact Or.inl ⟨fun ⟨q, h1, h2⟩ => o_15 (by rw [h2]; exact z_nat_in (by have := z_pc_le (z_dif (2 ^ n - 1) outs); omega) (by omega)), rfl⟩)⟩)
        · skip
          rw [nI_leI (by omega) (by omega)] at c_31
          refine e_steps 7 (σ' := (43, [(0, .ref 0), (1, .int (nI kk)), (2, .int (nI st)), (3, .int (nI i))], [.int (nI 3), .ref 1, .ref 0, .ref 0, .int (nI 1), .int (nI st)], (MH g kept was isKept tape fed pos tlen flt ranking paper written pairs_24 above_24 below_24 isDone_24 dist rowv rowMany lsz itm weakAbove weakBelow))) rfl ?_
          refine e_ial (nI ms) rfl rfl (by first | assumption | omega | rfl | trivial) (by decide) (hm0) ?_
          refine e_steps 1 (σ' := (45, [(0, .ref 0), (1, .int (nI kk)), (2, .int (nI st)), (3, .int (nI i))], [.int (nI st), .int (nI ms), .ref 0, .ref 0, .int (nI 1), .int (nI st)], (MH g kept was isKept tape fed pos tlen flt ranking paper written pairs_24 above_24 below_24 isDone_24 dist rowv rowMany lsz itm weakAbove weakBelow))) rfl ?_
          refine e_call (y := 198) (av := [.ref 0, .int (nI ms), .int (nI st)]) (rest := [.ref 0, .int (nI 1), .int (nI st)]) rfl (c_X6_unbeaten (d + 2) (n := n) (outs := outs) (bm := bm) (ms := ms) (dr := dr) (cn := cn) (pl := pl) (s := (z_dif (2 ^ n - 1) outs)) (F := (z_for bm cn pl)) (K := K) (by first | assumption | omega | rfl | trivial) (by exact hW) (by first | assumption | omega | rfl | trivial) (by first | assumption | omega | rfl | trivial)) (fun r_45 h_45 p_45 => ?_)
          obtain ⟨rfl, rfl⟩ := p_45
          refine e_steps 0 (σ' := (48, [(0, .ref 0), (1, .int (nI kk)), (2, .int (nI st)), (3, .int (nI i))], [.int (nI (z_ub n K st)), .ref 0, .int (nI 1), .int (nI st)], (MH g kept was isKept tape fed pos tlen flt ranking paper written pairs_24 above_24 below_24 isDone_24 dist rowv rowMany lsz itm weakAbove weakBelow))) rfl ?_
          refine e_call (y := 200) (av := [.ref 0, .int (nI (z_ub n K st))]) (rest := [.int (nI 1), .int (nI st)]) rfl (c_X6_firstDrawn (d + 4) (n := n) (outs := outs) (bm := bm) (ms := ms) (dr := dr) (cn := cn) (pl := pl) (by first | assumption | omega | rfl | trivial) (by first | assumption | omega | rfl | trivial) (by exact hub)) (fun r_48 h_48 p_48 => ?_)
          obtain ⟨rfl, rfl⟩ := p_48
          refine e_steps 0 (σ' := (51, [(0, .ref 0), (1, .int (nI kk)), (2, .int (nI st)), (3, .int (nI i))], [.int (nI (z_fd dr (z_ub n K st) n 0)), .int (nI 1), .int (nI st)], (MH g kept was isKept tape fed pos tlen flt ranking paper written pairs_24 above_24 below_24 isDone_24 dist rowv rowMany lsz itm weakAbove weakBelow))) rfl ?_
          refine e_shl rfl (by omega) ?_
          refine e_steps 2 (σ' := (54, [(0, .ref 0), (1, .int (nI kk)), (2, .int (nI st)), (3, .int (nI i))], [.int (((nI (2 ^ (z_fd dr (z_ub n K st) n 0))) ^^^ ((-nI 1)))), .int (nI st)], (MH g kept was isKept tape fed pos tlen flt ranking paper written pairs_24 above_24 below_24 isDone_24 dist rowv rowMany lsz itm weakAbove weakBelow))) rfl ?_
          refine e_dif rfl (by omega) (by exact z_p8 (by omega)) ?_
          refine e_steps 1 (σ' := (56, [(2, .int (nI (z_dif st (2 ^ (z_fd dr (z_ub n K st) n 0))))), (0, .ref 0), (1, .int (nI kk)), (3, .int (nI i))], [], (MH g kept was isKept tape fed pos tlen flt ranking paper written pairs_24 above_24 below_24 isDone_24 dist rowv rowMany lsz itm weakAbove weakBelow))) rfl ?_
          refine e_inc (n := 1) rfl rfl rfl (i + 1) (by rfl) [(3, .int (nI (i + 1))), (2, .int (nI (z_dif st (2 ^ (z_fd dr (z_ub n K st) n 0))))), (0, .ref 0), (1, .int (nI kk))] rfl ?_
          refine e_steps 1 (σ' := (29, [(3, .int (nI (i + 1))), (2, .int (nI (z_dif st (2 ^ (z_fd dr (z_ub n K st) n 0))))), (0, .ref 0), (1, .int (nI kk))], [], (MH g kept was isKept tape fed pos tlen flt ranking paper written pairs_24 above_24 below_24 isDone_24 dist rowv rowMany lsz itm weakAbove weakBelow))) rfl ?_
          refine e_sub [2, 3, 1, 0] rfl ?_
          exact ih_29 (z_dif st (2 ^ (z_fd dr (z_ub n K st) n 0))) (i + 1) (by omega) (by exact ⟨by omega, by rw [l2]; rfl⟩)
    refine e_sub [2, 3, 1, 0] rfl ?_
    exact loop_29 _ (z_dif (2 ^ n - 1) outs) 0 (Nat.lt_succ_self _) (by exact ⟨by omega, rfl⟩)
  · skip
    refine e_steps 2 (σ' := (22, [(2, .int (nI (z_dif (2 ^ n - 1) outs))), (0, .ref 0), (1, .int k)], [.int ((-nI 1))], (MH g kept was isKept tape fed pos tlen flt ranking paper written pairs above below isDone dist rowv rowMany lsz itm weakAbove weakBelow))) rfl ?_
    exact e_ret rfl (trivial) (hR _ _ ⟨pairs, above, below, isDone, ((-nI 1)), rfl, rfl, (by first | exact Or.inr ⟨kk, K, by omega, rfl, hW.2, by (have ei : i = kk := (by omega)); rw [l2, ei]; rfl⟩ | exact Or.inl ⟨fun ⟨q, h1, h2⟩ => o_15 (by rw [h2]; exact z_nat_in (by have := z_pc_le (z_dif (2 ^ n - 1) outs); omega) (by omega)), rfl⟩)⟩)
theorem c_X6_rank (d : Nat) {g : Nat → Int32} {kept : Nat → Int32} {was : Nat → Int32} {isKept : Int32} {tape : Nat → Int32} {fed : Int32} {pos : Int32} {tlen : Int32} {flt : Int32} {ranking : Nat → Int32} {paper : Nat → Int32} {written : Int32} {pairs : Nat → Int64} {above : Nat → Int64} {below : Nat → Int64} {isDone : Nat → Int32} {dist : Nat → Int32} {rowv : Nat → Int32} {rowMany : Int32} {lsz : Nat → Int32} {itm : Nat → Int64} {weakAbove : Int64} {weakBelow : Int64} {c : Int32} {n : Nat} {outs : Nat} {bm : Nat} {ms : Nat} {dr : Nat → Nat} {cn : Nat → Nat} {pl : Nat → Nat → Nat} (hG : z_GI g n outs bm ms dr cn pl) : z_CAL (d + 7) 202 [.ref 0, .int c] (MH g kept was isKept tape fed pos tlen flt ranking paper written pairs above below isDone dist rowv rowMany lsz itm weakAbove weakBelow) (fun r h2 => ∃ (pairs2 : Nat → Int64) (ab2 : Nat → Int64) (be2 : Nat → Int64) (dn2 : Nat → Int32) (v : Int32), r = some (.int v) ∧ h2 = (MH g kept was isKept tape fed pos tlen flt ranking paper written pairs2 ab2 be2 dn2 dist rowv rowMany lsz itm weakAbove weakBelow) ∧ ((¬ (∃ q, q < n ∧ c = nI q) ∧ v = -nI 1) ∨ ∃ q, q < n ∧ c = nI q ∧ (((z_dif (2 ^ n - 1) outs).testBit q = false ∧ v = -nI 3) ∨ ∃ K w, (z_dif (2 ^ n - 1) outs).testBit q = true ∧ z_rows (z_LS ms (z_dif (2 ^ n - 1) outs) (z_for bm cn pl)) n K ∧ v = nI w ∧ w < z_pc (z_dif (2 ^ n - 1) outs) ∧ z_fi n dr K (z_rv n dr K (z_dif (2 ^ n - 1) outs) w) = q ∧ ∀ x, x < w → z_fi n dr K (z_rv n dr K (z_dif (2 ^ n - 1) outs) x) ≠ q))) := by
  refine e_of2 (q := zmX6_rank) rfl rfl (fun R hR => ?_)
  obtain ⟨⟨hn0, hn2, hn8⟩, ⟨ho0, ho8, hin⟩, ⟨hb0, hb40⟩, ⟨hm0, hm4⟩, ⟨hdr, hdl, hdc⟩, hcn, hpl⟩ := id hG; have hp8 := z_p2 hn8; have ho256 : outs < 256 := (by omega); have hi256 : z_dif (2 ^ n - 1) outs < 256 := (by have := z_dif_le (s := 2 ^ n - 1) (t := outs); omega)
  refine e_steps 2 (σ' := (2, [(0, .ref 0), (1, .int c)], [.int c, .ref 0], (MH g kept was isKept tape fed pos tlen flt ranking paper written pairs above below isDone dist rowv rowMany lsz itm weakAbove weakBelow))) rfl ?_
  refine e_call (y := 135) (av := [.ref 0, .int c]) (rest := []) rfl (c_X6_isOne (d + 4) (n := n) (outs := outs) (bm := bm) (ms := ms) (dr := dr) (cn := cn) (pl := pl) (by first | assumption | omega | rfl | trivial)) (fun r_2 h_2 p_2 => ?_)
  obtain ⟨rfl, o_2⟩ := p_2
  rcases o_2 with ⟨rfl, o_2⟩ | ⟨rfl, o_2⟩
  · skip
    obtain ⟨k_2, hk_2, ek_2⟩ := o_2
    subst ek_2
    refine e_steps 2 (σ' := (11, [(0, .ref 0), (1, .int (nI k_2))], [.ref 0], (MH g kept was isKept tape fed pos tlen flt ranking paper written pairs above below isDone dist rowv rowMany lsz itm weakAbove weakBelow))) rfl ?_
    refine e_call (y := 134) (av := [.ref 0]) (rest := []) rfl (c_X6_ins (d + 4) (n := n) (outs := outs) (bm := bm) (ms := ms) (dr := dr) (cn := cn) (pl := pl) (by first | assumption | omega | rfl | trivial)) (fun r_11 h_11 p_11 => ?_)
    obtain ⟨rfl, rfl⟩ := p_11
    refine e_steps 1 (σ' := (15, [(0, .ref 0), (1, .int (nI k_2))], [.int (nI k_2), .int (nI (z_dif (2 ^ n - 1) outs))], (MH g kept was isKept tape fed pos tlen flt ranking paper written pairs above below isDone dist rowv rowMany lsz itm weakAbove weakBelow))) rfl ?_
    refine e_call (y := 131) (av := [.int (nI (z_dif (2 ^ n - 1) outs)), .int (nI k_2)]) (rest := []) rfl (c_X6_has (d + 5) (by first | assumption | omega | rfl | trivial) (by first | assumption | omega | rfl | trivial)) (fun r_15 h_15 p_15 => ?_)
    obtain ⟨rfl, o_15⟩ := p_15
    rcases o_15 with ⟨rfl, o_15⟩ | ⟨rfl, o_15⟩
    · skip
      refine e_steps 2 (σ' := (25, [(0, .ref 0), (1, .int (nI k_2))], [.ref 0], (MH g kept was isKept tape fed pos tlen flt ranking paper written pairs above below isDone dist rowv rowMany lsz itm weakAbove weakBelow))) rfl ?_
      refine e_call (y := 185) (av := [.ref 0]) (rest := []) rfl (c_X6_waysNow (d + 0) (n := n) (outs := outs) (bm := bm) (ms := ms) (dr := dr) (cn := cn) (pl := pl) (by first | assumption | omega | rfl | trivial)) (fun r_25 h_25 p_25 => ?_)
      obtain ⟨pairs_25, above_25, below_25, isDone_25, rfl, rfl, q_25⟩ := p_25
      obtain ⟨hP2, K, hW⟩ := q_25; have hex0 : ∃ j, j < n ∧ (z_dif (2 ^ n - 1) outs).testBit j = true := ⟨k_2, hk_2, o_15⟩; have hub := z_ub_ex hW.2 hex0; have hul := z_ub_lt (n := n) (K := K) (s := z_dif (2 ^ n - 1) outs)
      refine e_steps 1 (σ' := (29, [(0, .ref 0), (1, .int (nI k_2))], [.ref 0], (MH g kept was isKept tape fed pos tlen flt ranking paper written pairs_25 above_25 below_25 isDone_25 dist rowv rowMany lsz itm weakAbove weakBelow))) rfl ?_
      refine e_call (y := 134) (av := [.ref 0]) (rest := []) rfl (c_X6_ins (d + 4) (n := n) (outs := outs) (bm := bm) (ms := ms) (dr := dr) (cn := cn) (pl := pl) (by first | assumption | omega | rfl | trivial)) (fun r_29 h_29 p_29 => ?_)
      obtain ⟨rfl, rfl⟩ := p_29
      refine e_steps 8 (σ' := (42, [(3, .int (nI 0)), (2, .int (nI (z_dif (2 ^ n - 1) outs))), (0, .ref 0), (1, .int (nI k_2))], [.int (nI 3), .ref 1, .ref 0, .ref 0], (MH g kept was isKept tape fed pos tlen flt ranking paper written pairs_25 above_25 below_25 isDone_25 dist rowv rowMany lsz itm weakAbove weakBelow))) rfl ?_
      refine e_ial (nI ms) rfl rfl (by first | assumption | omega | rfl | trivial) (by decide) (hm0) ?_
      refine e_steps 1 (σ' := (44, [(3, .int (nI 0)), (2, .int (nI (z_dif (2 ^ n - 1) outs))), (0, .ref 0), (1, .int (nI k_2))], [.int (nI (z_dif (2 ^ n - 1) outs)), .int (nI ms), .ref 0, .ref 0], (MH g kept was isKept tape fed pos tlen flt ranking paper written pairs_25 above_25 below_25 isDone_25 dist rowv rowMany lsz itm weakAbove weakBelow))) rfl ?_
      refine e_call (y := 198) (av := [.ref 0, .int (nI ms), .int (nI (z_dif (2 ^ n - 1) outs))]) (rest := [.ref 0]) rfl (c_X6_unbeaten (d + 2) (n := n) (outs := outs) (bm := bm) (ms := ms) (dr := dr) (cn := cn) (pl := pl) (s := (z_dif (2 ^ n - 1) outs)) (F := (z_for bm cn pl)) (K := K) (by first | assumption | omega | rfl | trivial) (by exact hW) (by first | assumption | omega | rfl | trivial) (by first | assumption | omega | rfl | trivial)) (fun r_44 h_44 p_44 => ?_)
      obtain ⟨rfl, rfl⟩ := p_44
      refine e_steps 0 (σ' := (47, [(3, .int (nI 0)), (2, .int (nI (z_dif (2 ^ n - 1) outs))), (0, .ref 0), (1, .int (nI k_2))], [.int (nI (z_ub n K (z_dif (2 ^ n - 1) outs))), .ref 0], (MH g kept was isKept tape fed pos tlen flt ranking paper written pairs_25 above_25 below_25 isDone_25 dist rowv rowMany lsz itm weakAbove weakBelow))) rfl ?_
      refine e_call (y := 200) (av := [.ref 0, .int (nI (z_ub n K (z_dif (2 ^ n - 1) outs)))]) (rest := []) rfl (c_X6_firstDrawn (d + 4) (n := n) (outs := outs) (bm := bm) (ms := ms) (dr := dr) (cn := cn) (pl := pl) (by first | assumption | omega | rfl | trivial) (by first | assumption | omega | rfl | trivial) (by exact hub)) (fun r_47 h_47 p_47 => ?_)
      obtain ⟨rfl, rfl⟩ := p_47
      refine e_steps 1 (σ' := (52, [(4, .int (nI (z_fd dr (z_ub n K (z_dif (2 ^ n - 1) outs)) n 0))), (3, .int (nI 0)), (2, .int (nI (z_dif (2 ^ n - 1) outs))), (0, .ref 0), (1, .int (nI k_2))], [], (MH g kept was isKept tape fed pos tlen flt ranking paper written pairs_25 above_25 below_25 isDone_25 dist rowv rowMany lsz itm weakAbove weakBelow))) rfl ?_
      skip
      have loop_52 : ∀ (z_52 : Nat) (st : Nat) (kv : Nat) (fs : Nat), 8 - kv < z_52 → (kv < z_pc (z_dif (2 ^ n - 1) outs) ∧ st = z_rv n dr K (z_dif (2 ^ n - 1) outs) kv ∧ fs = z_fi n dr K st ∧ st.testBit k_2 = true ∧ ∀ x, x < kv → z_fi n dr K (z_rv n dr K (z_dif (2 ^ n - 1) outs) x) ≠ k_2) → z_EV (d + 6) zmX6_rank R (52, [(0, .ref 0), (1, .int (nI k_2)), (2, .int (nI st)), (3, .int (nI kv)), (4, .int (nI fs))], [], (MH g kept was isKept tape fed pos tlen flt ranking paper written pairs_25 above_25 below_25 isDone_25 dist rowv rowMany lsz itm weakAbove weakBelow)) := by
        intro z_52
        induction z_52 with
        | zero => intro st kv fs hm_52 _; exact absurd hm_52 (Nat.not_lt_zero _)
        | succ z_52 ih_52 =>
          intro st kv fs hm_52 hi_52
          obtain ⟨l1, l2, l3, l4, l5⟩ := hi_52; have hpl := z_pc_le (z_dif (2 ^ n - 1) outs); have hst := z_rv_lt (dr := dr) (K := K) (z_ins_lt (n := n) (outs := outs)) kv; rw [← l2] at hst; have hfi := z_fi_mem (dr := dr) hW.2 hdc ⟨k_2, hk_2, l4⟩; rw [← l3] at hfi
          refine e_steps 2 (σ' := (55, [(0, .ref 0), (1, .int (nI k_2)), (2, .int (nI st)), (3, .int (nI kv)), (4, .int (nI fs))], [.int (nI k_2), .int (nI fs)], (MH g kept was isKept tape fed pos tlen flt ranking paper written pairs_25 above_25 below_25 isDone_25 dist rowv rowMany lsz itm weakAbove weakBelow))) rfl ?_
          refine e_if (c := nI fs = nI k_2) rfl (fun c_55 => ?_) (fun c_55 => ?_)
          · skip
            rw [nI_eq (by omega) (by omega)] at c_55
            refine e_steps 1 (σ' := (91, [(0, .ref 0), (1, .int (nI k_2)), (2, .int (nI st)), (3, .int (nI kv)), (4, .int (nI fs))], [.int (nI kv)], (MH g kept was isKept tape fed pos tlen flt ranking paper written pairs_25 above_25 below_25 isDone_25 dist rowv rowMany lsz itm weakAbove weakBelow))) rfl ?_
            exact e_ret rfl (trivial) (hR _ _ ⟨pairs_25, above_25, below_25, isDone_25, (nI kv), rfl, rfl, (by first | exact Or.inl ⟨o_2, rfl⟩ | exact Or.inr ⟨k_2, hk_2, rfl, Or.inl ⟨o_15, rfl⟩⟩ | exact Or.inr ⟨k_2, hk_2, rfl, Or.inr ⟨K, kv, o_15, hW.2, rfl, l1, by rw [← l2, ← l3]; assumption, l5⟩⟩)⟩)
          · skip
            rw [nI_eq (by omega) (by omega)] at c_55
            refine e_steps 3 (σ' := (62, [(0, .ref 0), (1, .int (nI k_2)), (2, .int (nI st)), (3, .int (nI kv)), (4, .int (nI fs))], [.int (nI fs), .int (nI 1), .int (nI st)], (MH g kept was isKept tape fed pos tlen flt ranking paper written pairs_25 above_25 below_25 isDone_25 dist rowv rowMany lsz itm weakAbove weakBelow))) rfl ?_
            refine e_shl rfl (by omega) ?_
            refine e_steps 2 (σ' := (65, [(0, .ref 0), (1, .int (nI k_2)), (2, .int (nI st)), (3, .int (nI kv)), (4, .int (nI fs))], [.int (((nI (2 ^ fs)) ^^^ ((-nI 1)))), .int (nI st)], (MH g kept was isKept tape fed pos tlen flt ranking paper written pairs_25 above_25 below_25 isDone_25 dist rowv rowMany lsz itm weakAbove weakBelow))) rfl ?_
            refine e_dif rfl (by omega) (by exact z_p8 (by omega)) ?_
            refine e_steps 1 (σ' := (67, [(2, .int (nI (z_dif st (2 ^ fs)))), (0, .ref 0), (1, .int (nI k_2)), (3, .int (nI kv)), (4, .int (nI fs))], [], (MH g kept was isKept tape fed pos tlen flt ranking paper written pairs_25 above_25 below_25 isDone_25 dist rowv rowMany lsz itm weakAbove weakBelow))) rfl ?_
            refine e_inc (n := 1) rfl rfl rfl (kv + 1) (by rfl) [(3, .int (nI (kv + 1))), (2, .int (nI (z_dif st (2 ^ fs)))), (0, .ref 0), (1, .int (nI k_2)), (4, .int (nI fs))] rfl ?_
            refine e_steps 0 (σ' := (70, [(3, .int (nI (kv + 1))), (2, .int (nI (z_dif st (2 ^ fs)))), (0, .ref 0), (1, .int (nI k_2)), (4, .int (nI fs))], [], (MH g kept was isKept tape fed pos tlen flt ranking paper written pairs_25 above_25 below_25 isDone_25 dist rowv rowMany lsz itm weakAbove weakBelow))) rfl ?_
            have l4b := z_dif_keep (c := k_2) (f := fs) (by omega) l4 (by assumption); have hst2 : z_dif st (2 ^ fs) < 2 ^ n := Nat.lt_of_le_of_lt z_dif_le hst; have hub2 := z_ub_ex hW.2 ⟨k_2, hk_2, l4b⟩; have hul2 := z_ub_lt (n := n) (K := K) (s := z_dif st (2 ^ fs))
            refine e_steps 5 (σ' := (77, [(3, .int (nI (kv + 1))), (2, .int (nI (z_dif st (2 ^ fs)))), (0, .ref 0), (1, .int (nI k_2)), (4, .int (nI fs))], [.int (nI 3), .ref 1, .ref 0, .ref 0], (MH g kept was isKept tape fed pos tlen flt ranking paper written pairs_25 above_25 below_25 isDone_25 dist rowv rowMany lsz itm weakAbove weakBelow))) rfl ?_
            refine e_ial (nI ms) rfl rfl (by first | assumption | omega | rfl | trivial) (by decide) (hm0) ?_
            refine e_steps 1 (σ' := (79, [(3, .int (nI (kv + 1))), (2, .int (nI (z_dif st (2 ^ fs)))), (0, .ref 0), (1, .int (nI k_2)), (4, .int (nI fs))], [.int (nI (z_dif st (2 ^ fs))), .int (nI ms), .ref 0, .ref 0], (MH g kept was isKept tape fed pos tlen flt ranking paper written pairs_25 above_25 below_25 isDone_25 dist rowv rowMany lsz itm weakAbove weakBelow))) rfl ?_
            refine e_call (y := 198) (av := [.ref 0, .int (nI ms), .int (nI (z_dif st (2 ^ fs)))]) (rest := [.ref 0]) rfl (c_X6_unbeaten (d + 2) (n := n) (outs := outs) (bm := bm) (ms := ms) (dr := dr) (cn := cn) (pl := pl) (s := (z_dif (2 ^ n - 1) outs)) (F := (z_for bm cn pl)) (K := K) (by first | assumption | omega | rfl | trivial) (by exact hW) (by first | assumption | omega | rfl | trivial) (by first | assumption | omega | rfl | trivial)) (fun r_79 h_79 p_79 => ?_)
            obtain ⟨rfl, rfl⟩ := p_79
            refine e_steps 0 (σ' := (82, [(3, .int (nI (kv + 1))), (2, .int (nI (z_dif st (2 ^ fs)))), (0, .ref 0), (1, .int (nI k_2)), (4, .int (nI fs))], [.int (nI (z_ub n K (z_dif st (2 ^ fs)))), .ref 0], (MH g kept was isKept tape fed pos tlen flt ranking paper written pairs_25 above_25 below_25 isDone_25 dist rowv rowMany lsz itm weakAbove weakBelow))) rfl ?_
            refine e_call (y := 200) (av := [.ref 0, .int (nI (z_ub n K (z_dif st (2 ^ fs))))]) (rest := []) rfl (c_X6_firstDrawn (d + 4) (n := n) (outs := outs) (bm := bm) (ms := ms) (dr := dr) (cn := cn) (pl := pl) (by first | assumption | omega | rfl | trivial) (by first | assumption | omega | rfl | trivial) (by exact hub2)) (fun r_82 h_82 p_82 => ?_)
            obtain ⟨rfl, rfl⟩ := p_82
            refine e_steps 2 (σ' := (52, [(4, .int (nI (z_fd dr (z_ub n K (z_dif st (2 ^ fs))) n 0))), (3, .int (nI (kv + 1))), (2, .int (nI (z_dif st (2 ^ fs)))), (0, .ref 0), (1, .int (nI k_2))], [], (MH g kept was isKept tape fed pos tlen flt ranking paper written pairs_25 above_25 below_25 isDone_25 dist rowv rowMany lsz itm weakAbove weakBelow))) rfl ?_
            skip
            refine e_sub [3, 4, 2, 1, 0] rfl ?_
            exact ih_52 (z_dif st (2 ^ fs)) (kv + 1) (z_fd dr (z_ub n K (z_dif st (2 ^ fs))) n 0) (by omega) (by exact ⟨z_rk_more hn8 hW.2 hdc (z_ins_lt (n := n) (outs := outs)) l1 l2 l3 l4b hk_2, by rw [l2, l3, l2]; rfl, rfl, l4b, fun x hx => by rcases (by omega : x < kv ∨ x = kv) with h | h; exact l5 x h; rw [h, ← l2, ← l3]; assumption⟩)
      refine e_sub [3, 4, 2, 1, 0] rfl ?_
      exact loop_52 _ (z_dif (2 ^ n - 1) outs) 0 (z_fd dr (z_ub n K (z_dif (2 ^ n - 1) outs)) n 0) (Nat.lt_succ_self _) (by exact ⟨z_pc_pos (by omega) hin, rfl, rfl, o_15, fun x hx => absurd hx (Nat.not_lt_zero x)⟩)
    · skip
      refine e_steps 2 (σ' := (23, [(0, .ref 0), (1, .int (nI k_2))], [.int ((-nI 3))], (MH g kept was isKept tape fed pos tlen flt ranking paper written pairs above below isDone dist rowv rowMany lsz itm weakAbove weakBelow))) rfl ?_
      exact e_ret rfl (trivial) (hR _ _ ⟨pairs, above, below, isDone, ((-nI 3)), rfl, rfl, (by first | exact Or.inl ⟨o_2, rfl⟩ | exact Or.inr ⟨k_2, hk_2, rfl, Or.inl ⟨o_15, rfl⟩⟩ | exact Or.inr ⟨k_2, hk_2, rfl, Or.inr ⟨K, kv, o_15, hW.2, rfl, l1, by rw [← l2, ← l3]; assumption, l5⟩⟩)⟩)
  · skip
    refine e_steps 2 (σ' := (9, [(0, .ref 0), (1, .int c)], [.int ((-nI 1))], (MH g kept was isKept tape fed pos tlen flt ranking paper written pairs above below isDone dist rowv rowMany lsz itm weakAbove weakBelow))) rfl ?_
    exact e_ret rfl (trivial) (hR _ _ ⟨pairs, above, below, isDone, ((-nI 1)), rfl, rfl, (by exact Or.inl ⟨o_2, rfl⟩)⟩)
