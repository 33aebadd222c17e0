/-! the reference: strengths, THE WAY -/
theorem c_X6_lowest (d : Nat) {g : Nat → Int32} {kept : Nat → Int32} {was : Nat → Int32} {isKept : Int32} {tape : Nat → Int32} {fed : Int32} {pos : Int32} {tlen : Int32} {flt : Int32} {ranking : Nat → Int32} {paper : Nat → Int32} {written : Int32} {pairs : Nat → Int64} {above : Nat → Int64} {below : Nat → Int64} {isDone : Nat → Int32} {dist : Nat → Int32} {rowv : Nat → Int32} {rowMany : Int32} {lsz : Nat → Int32} {itm : Nat → Int64} {weakAbove : Int64} {weakBelow : Int64} {ix : Nat} {part : Nat} {a : Nat} {b : Nat} (hix : ix < 64) (hpt : part < 2) (hea : above ix = lN a) (heb : below ix = lN b) (hab : b < a) (haM : a ≤ 41000000) : z_CAL (d + 54) 187 [.ref 0, .int (nI ix), .int (nI part)] (MH g kept was isKept tape fed pos tlen flt ranking paper written pairs above below isDone dist rowv rowMany lsz itm weakAbove weakBelow) (fun r h2 => r = some (.long (lN ((if b = 0 then (if part = 0 then a else 0) else (if part = 0 then a else b) / Nat.gcd a b)))) ∧ h2 = (MH g kept was isKept tape fed pos tlen flt ranking paper written pairs above below isDone dist rowv rowMany lsz itm weakAbove weakBelow)) := by
  refine e_of2 (q := zmX6_lowest) rfl rfl (fun R hR => ?_)
  have hg0 := z_gcd_pos hab; have hg1 := z_gcd_le hab
  refine e_steps 3 (σ' := (5, [(0, .ref 0), (1, .int (nI ix)), (2, .int (nI part))], [.int (nI ix), .ref 9], (MH g kept was isKept tape fed pos tlen flt ranking paper written pairs above below isDone dist rowv rowMany lsz itm weakAbove weakBelow))) rfl ?_
  refine e_lal (lN b) rfl rfl (by first | assumption | omega | rfl | trivial) (by decide) (heb) ?_
  refine e_steps 2 (σ' := (8, [(0, .ref 0), (1, .int (nI ix)), (2, .int (nI part))], [.int ((lg_cmp (lN b) (lN 0)))], (MH g kept was isKept tape fed pos tlen flt ranking paper written pairs above below isDone dist rowv rowMany lsz itm weakAbove weakBelow))) rfl ?_
  refine e_if (c := ¬ lg_cmp (lN b) (lN 0) = 0) rfl (fun c_7 => ?_) (fun c_7 => ?_)
  · rw [lg_cmp_eq] at c_7
    rw [pk_lEQ (by omega) (by omega)] at c_7
    refine e_steps 1 (σ' := (27, [(0, .ref 0), (1, .int (nI ix)), (2, .int (nI part))], [.int (nI part)], (MH g kept was isKept tape fed pos tlen flt ranking paper written pairs above below isDone dist rowv rowMany lsz itm weakAbove weakBelow))) rfl ?_
    refine e_if (c := ¬ nI part = 0) rfl (fun c_27 => ?_) (fun c_27 => ?_)
    · skip
      rw [z0_ne (by omega)] at c_27
      skip
      refine e_steps 3 (σ' := (44, [(0, .ref 0), (1, .int (nI ix)), (2, .int (nI part))], [.int (nI ix), .ref 9], (MH g kept was isKept tape fed pos tlen flt ranking paper written pairs above below isDone dist rowv rowMany lsz itm weakAbove weakBelow))) rfl ?_
      refine e_lal (lN b) rfl rfl (by first | assumption | omega | rfl | trivial) (by decide) (heb) ?_
      refine e_steps 3 (σ' := (50, [(0, .ref 0), (1, .int (nI ix)), (2, .int (nI part))], [.int (nI ix), .ref 8, .long (lN b)], (MH g kept was isKept tape fed pos tlen flt ranking paper written pairs above below isDone dist rowv rowMany lsz itm weakAbove weakBelow))) rfl ?_
      refine e_lal (lN a) rfl rfl (by first | assumption | omega | rfl | trivial) (by decide) (hea) ?_
      refine e_steps 3 (σ' := (56, [(0, .ref 0), (1, .int (nI ix)), (2, .int (nI part))], [.int (nI ix), .ref 9, .long (lN a), .long (lN b)], (MH g kept was isKept tape fed pos tlen flt ranking paper written pairs above below isDone dist rowv rowMany lsz itm weakAbove weakBelow))) rfl ?_
      refine e_lal (lN b) rfl rfl (by first | assumption | omega | rfl | trivial) (by decide) (heb) ?_
      refine e_steps 0 (σ' := (57, [(0, .ref 0), (1, .int (nI ix)), (2, .int (nI part))], [.long (lN b), .long (lN a), .long (lN b)], (MH g kept was isKept tape fed pos tlen flt ranking paper written pairs above below isDone dist rowv rowMany lsz itm weakAbove weakBelow))) rfl ?_
      refine e_call (y := 186) (av := [.long (lN a), .long (lN b)]) (rest := [.long (lN b)]) rfl (c_X6_common (d + 0) (by first | assumption | omega | rfl | trivial) (by first | assumption | omega | rfl | trivial)) (fun r_57 h_57 p_57 => ?_)
      obtain ⟨rfl, rfl⟩ := p_57
      refine e_steps 0 (σ' := (60, [(0, .ref 0), (1, .int (nI ix)), (2, .int (nI part))], [.long (lN (Nat.gcd a b)), .long (lN b)], (MH g kept was isKept tape fed pos tlen flt ranking paper written pairs above below isDone dist rowv rowMany lsz itm weakAbove weakBelow))) rfl ?_
      refine e_gd (c := ¬ (lN (Nat.gcd a b)) = 0) rfl (by show ¬ lN (Nat.gcd a b) = lN 0; rw [pk_lEQ (by omega) (by omega)]; omega) ?_
      refine e_steps 0 (σ' := (61, [(0, .ref 0), (1, .int (nI ix)), (2, .int (nI part))], [.long (((lN b) / (lN (Nat.gcd a b))))], (MH g kept was isKept tape fed pos tlen flt ranking paper written pairs above below isDone dist rowv rowMany lsz itm weakAbove weakBelow))) rfl ?_
      have er_60 : ((lN b) / (lN (Nat.gcd a b))) = lN (b / Nat.gcd a b) := pk_lDiv (by omega) (by omega) (by omega)
      rw [er_60]
      exact e_ret rfl (trivial) (hR _ _ ⟨(by simp [*]; done), rfl⟩)
    · skip
      rw [z0_ne (by omega)] at c_27
      replace c_27 := Decidable.not_not.mp c_27
      refine e_steps 3 (σ' := (35, [(0, .ref 0), (1, .int (nI ix)), (2, .int (nI part))], [.int (nI ix), .ref 8], (MH g kept was isKept tape fed pos tlen flt ranking paper written pairs above below isDone dist rowv rowMany lsz itm weakAbove weakBelow))) rfl ?_
      refine e_lal (lN a) rfl rfl (by first | assumption | omega | rfl | trivial) (by decide) (hea) ?_
      refine e_steps 4 (σ' := (50, [(0, .ref 0), (1, .int (nI ix)), (2, .int (nI part))], [.int (nI ix), .ref 8, .long (lN a)], (MH g kept was isKept tape fed pos tlen flt ranking paper written pairs above below isDone dist rowv rowMany lsz itm weakAbove weakBelow))) rfl ?_
      refine e_lal (lN a) rfl rfl (by first | assumption | omega | rfl | trivial) (by decide) (hea) ?_
      refine e_steps 3 (σ' := (56, [(0, .ref 0), (1, .int (nI ix)), (2, .int (nI part))], [.int (nI ix), .ref 9, .long (lN a), .long (lN a)], (MH g kept was isKept tape fed pos tlen flt ranking paper written pairs above below isDone dist rowv rowMany lsz itm weakAbove weakBelow))) rfl ?_
      refine e_lal (lN b) rfl rfl (by first | assumption | omega | rfl | trivial) (by decide) (heb) ?_
      refine e_steps 0 (σ' := (57, [(0, .ref 0), (1, .int (nI ix)), (2, .int (nI part))], [.long (lN b), .long (lN a), .long (lN a)], (MH g kept was isKept tape fed pos tlen flt ranking paper written pairs above below isDone dist rowv rowMany lsz itm weakAbove weakBelow))) rfl ?_
      refine e_call (y := 186) (av := [.long (lN a), .long (lN b)]) (rest := [.long (lN a)]) rfl (c_X6_common (d + 0) (by first | assumption | omega | rfl | trivial) (by first | assumption | omega | rfl | trivial)) (fun r_57 h_57 p_57 => ?_)
      obtain ⟨rfl, rfl⟩ := p_57
      refine e_steps 0 (σ' := (60, [(0, .ref 0), (1, .int (nI ix)), (2, .int (nI part))], [.long (lN (Nat.gcd a b)), .long (lN a)], (MH g kept was isKept tape fed pos tlen flt ranking paper written pairs above below isDone dist rowv rowMany lsz itm weakAbove weakBelow))) rfl ?_
      refine e_gd (c := ¬ (lN (Nat.gcd a b)) = 0) rfl (by show ¬ lN (Nat.gcd a b) = lN 0; rw [pk_lEQ (by omega) (by omega)]; omega) ?_
      refine e_steps 0 (σ' := (61, [(0, .ref 0), (1, .int (nI ix)), (2, .int (nI part))], [.long (((lN a) / (lN (Nat.gcd a b))))], (MH g kept was isKept tape fed pos tlen flt ranking paper written pairs above below isDone dist rowv rowMany lsz itm weakAbove weakBelow))) rfl ?_
      have er_60 : ((lN a) / (lN (Nat.gcd a b))) = lN (a / Nat.gcd a b) := pk_lDiv (by omega) (by omega) (by omega)
      rw [er_60]
      exact e_ret rfl (trivial) (hR _ _ ⟨(by simp [*]; done), rfl⟩)
  · rw [lg_cmp_eq] at c_7
    rw [pk_lEQ (by omega) (by omega)] at c_7
    replace c_7 := Decidable.not_not.mp c_7
    refine e_steps 1 (σ' := (12, [(0, .ref 0), (1, .int (nI ix)), (2, .int (nI part))], [.int (nI part)], (MH g kept was isKept tape fed pos tlen flt ranking paper written pairs above below isDone dist rowv rowMany lsz itm weakAbove weakBelow))) rfl ?_
    refine e_if (c := ¬ nI part = 0) rfl (fun c_12 => ?_) (fun c_12 => ?_)
    · skip
      rw [z0_ne (by omega)] at c_12
      skip
      refine e_steps 1 (σ' := (25, [(0, .ref 0), (1, .int (nI ix)), (2, .int (nI part))], [.long (lN 0)], (MH g kept was isKept tape fed pos tlen flt ranking paper written pairs above below isDone dist rowv rowMany lsz itm weakAbove weakBelow))) rfl ?_
      exact e_ret rfl (trivial) (hR _ _ ⟨(by simp [*]; done), rfl⟩)
    · skip
      rw [z0_ne (by omega)] at c_12
      replace c_12 := Decidable.not_not.mp c_12
      refine e_steps 3 (σ' := (20, [(0, .ref 0), (1, .int (nI ix)), (2, .int (nI part))], [.int (nI ix), .ref 8], (MH g kept was isKept tape fed pos tlen flt ranking paper written pairs above below isDone dist rowv rowMany lsz itm weakAbove weakBelow))) rfl ?_
      refine e_lal (lN a) rfl rfl (by first | assumption | omega | rfl | trivial) (by decide) (hea) ?_
      refine e_steps 1 (σ' := (25, [(0, .ref 0), (1, .int (nI ix)), (2, .int (nI part))], [.long (lN a)], (MH g kept was isKept tape fed pos tlen flt ranking paper written pairs above below isDone dist rowv rowMany lsz itm weakAbove weakBelow))) rfl ?_
      exact e_ret rfl (trivial) (hR _ _ ⟨(by simp [*]; done), rfl⟩)
theorem c_X6_told (d : Nat) {g : Nat → Int32} {kept : Nat → Int32} {was : Nat → Int32} {isKept : Int32} {tape : Nat → Int32} {fed : Int32} {pos : Int32} {tlen : Int32} {flt : Int32} {ranking : Nat → Int32} {paper : Nat → Int32} {written : Int32} {pairs : Nat → Int64} {above : Nat → Int64} {below : Nat → Int64} {isDone : Nat → Int32} {dist : Nat → Int32} {rowv : Nat → Int32} {rowMany : Int32} {lsz : Nat → Int32} {itm : Nat → Int64} {weakAbove : Int64} {weakBelow : Int64} {ix : Nat} {part : Nat} {n : Nat} {outs : Nat} {bm : Nat} {ms : Nat} {dr : Nat → Nat} {cn : Nat → Nat} {pl : Nat → Nat → Nat} {a : Nat} {b : Nat} (hG : z_GI g n outs bm ms dr cn pl) (hix : ix < 64) (hpt : part < 2) (hea : above ix = lN a) (heb : below ix = lN b) (hab : b < a) (haM : a ≤ 41000000) : z_CAL (d + 55) 188 [.ref 0, .int (nI ix), .int (nI part)] (MH g kept was isKept tape fed pos tlen flt ranking paper written pairs above below isDone dist rowv rowMany lsz itm weakAbove weakBelow) (fun r h2 => r = some (.long (lN (z_td ms part a b))) ∧ h2 = (MH g kept was isKept tape fed pos tlen flt ranking paper written pairs above below isDone dist rowv rowMany lsz itm weakAbove weakBelow)) := by
  refine e_of2 (q := zmX6_told) rfl rfl (fun R hR => ?_)
  obtain ⟨⟨hn0, hn2, hn8⟩, ⟨ho0, ho8, hin⟩, ⟨hb0, hb40⟩, ⟨hm0, hm4⟩, ⟨hdr, hdl, hdc⟩, hcn, hpl⟩ := id hG; have hp8 := z_p2 hn8; have ho256 : outs < 256 := (by omega); have hi256 : z_dif (2 ^ n - 1) outs < 256 := (by have := z_dif_le (s := 2 ^ n - 1) (t := outs); omega)
  refine e_steps 3 (σ' := (5, [(0, .ref 0), (1, .int (nI ix)), (2, .int (nI part))], [.int (nI 3), .ref 1], (MH g kept was isKept tape fed pos tlen flt ranking paper written pairs above below isDone dist rowv rowMany lsz itm weakAbove weakBelow))) rfl ?_
  refine e_ial (nI ms) rfl rfl (by first | assumption | omega | rfl | trivial) (by decide) (hm0) ?_
  refine e_steps 1 (σ' := (7, [(0, .ref 0), (1, .int (nI ix)), (2, .int (nI part))], [.int (nI 2), .int (nI ms)], (MH g kept was isKept tape fed pos tlen flt ranking paper written pairs above below isDone dist rowv rowMany lsz itm weakAbove weakBelow))) rfl ?_
  refine e_if (c := ¬ nI ms = nI 2) rfl (fun c_7 => ?_) (fun c_7 => ?_)
  · skip
    rw [nI_eq (by omega) (by omega)] at c_7
    skip
    refine e_steps 2 (σ' := (19, [(0, .ref 0), (1, .int (nI ix)), (2, .int (nI part))], [.int (nI 1), .int (nI part)], (MH g kept was isKept tape fed pos tlen flt ranking paper written pairs above below isDone dist rowv rowMany lsz itm weakAbove weakBelow))) rfl ?_
    refine e_if (c := ¬ nI part = nI 1) rfl (fun c_19 => ?_) (fun c_19 => ?_)
    · skip
      rw [nI_eq (by omega) (by omega)] at c_19
      skip
      refine e_steps 3 (σ' := (29, [(0, .ref 0), (1, .int (nI ix)), (2, .int (nI part))], [.int (nI 3), .ref 1], (MH g kept was isKept tape fed pos tlen flt ranking paper written pairs above below isDone dist rowv rowMany lsz itm weakAbove weakBelow))) rfl ?_
      refine e_ial (nI ms) rfl rfl (by first | assumption | omega | rfl | trivial) (by decide) (hm0) ?_
      refine e_steps 0 (σ' := (30, [(0, .ref 0), (1, .int (nI ix)), (2, .int (nI part))], [.int (nI ms)], (MH g kept was isKept tape fed pos tlen flt ranking paper written pairs above below isDone dist rowv rowMany lsz itm weakAbove weakBelow))) rfl ?_
      refine e_if (c := ¬ nI ms = 0) rfl (fun c_30 => ?_) (fun c_30 => ?_)
      · skip
        rw [z0_ne (by omega)] at c_30
        skip
        refine e_steps 3 (σ' := (47, [(0, .ref 0), (1, .int (nI ix)), (2, .int (nI part))], [.int (nI 3), .ref 1], (MH g kept was isKept tape fed pos tlen flt ranking paper written pairs above below isDone dist rowv rowMany lsz itm weakAbove weakBelow))) rfl ?_
        refine e_ial (nI ms) rfl rfl (by first | assumption | omega | rfl | trivial) (by decide) (hm0) ?_
        refine e_steps 1 (σ' := (49, [(0, .ref 0), (1, .int (nI ix)), (2, .int (nI part))], [.int (nI 1), .int (nI ms)], (MH g kept was isKept tape fed pos tlen flt ranking paper written pairs above below isDone dist rowv rowMany lsz itm weakAbove weakBelow))) rfl ?_
        refine e_if (c := ¬ nI ms = nI 1) rfl (fun c_49 => ?_) (fun c_49 => ?_)
        · skip
          rw [nI_eq (by omega) (by omega)] at c_49
          skip
          refine e_steps 3 (σ' := (73, [(0, .ref 0), (1, .int (nI ix)), (2, .int (nI part))], [.int (nI ix), .ref 9], (MH g kept was isKept tape fed pos tlen flt ranking paper written pairs above below isDone dist rowv rowMany lsz itm weakAbove weakBelow))) rfl ?_
          refine e_lal (lN b) rfl rfl (by first | assumption | omega | rfl | trivial) (by decide) (heb) ?_
          refine e_steps 0 (σ' := (74, [(0, .ref 0), (1, .int (nI ix)), (2, .int (nI part))], [.long (lN b)], (MH g kept was isKept tape fed pos tlen flt ranking paper written pairs above below isDone dist rowv rowMany lsz itm weakAbove weakBelow))) rfl ?_
          exact e_ret rfl (trivial) (hR _ _ ⟨(by unfold z_td; simp [*]; done), rfl⟩)
        · skip
          rw [nI_eq (by omega) (by omega)] at c_49
          replace c_49 := Decidable.not_not.mp c_49
          refine e_steps 3 (σ' := (57, [(0, .ref 0), (1, .int (nI ix)), (2, .int (nI part))], [.int (nI ix), .ref 8], (MH g kept was isKept tape fed pos tlen flt ranking paper written pairs above below isDone dist rowv rowMany lsz itm weakAbove weakBelow))) rfl ?_
          refine e_lal (lN a) rfl rfl (by first | assumption | omega | rfl | trivial) (by decide) (hea) ?_
          refine e_steps 3 (σ' := (63, [(0, .ref 0), (1, .int (nI ix)), (2, .int (nI part))], [.int (nI ix), .ref 9, .long (lN a)], (MH g kept was isKept tape fed pos tlen flt ranking paper written pairs above below isDone dist rowv rowMany lsz itm weakAbove weakBelow))) rfl ?_
          refine e_lal (lN b) rfl rfl (by first | assumption | omega | rfl | trivial) (by decide) (heb) ?_
          refine e_steps 1 (σ' := (65, [(0, .ref 0), (1, .int (nI ix)), (2, .int (nI part))], [.long (((lN a) - (lN b)))], (MH g kept was isKept tape fed pos tlen flt ranking paper written pairs above below isDone dist rowv rowMany lsz itm weakAbove weakBelow))) rfl ?_
          have er_64 : ((lN a) - (lN b)) = lN (a - b) := z_lsub (by omega)
          rw [er_64]
          refine e_steps 1 (σ' := (74, [(0, .ref 0), (1, .int (nI ix)), (2, .int (nI part))], [.long (lN (a - b))], (MH g kept was isKept tape fed pos tlen flt ranking paper written pairs above below isDone dist rowv rowMany lsz itm weakAbove weakBelow))) rfl ?_
          exact e_ret rfl (trivial) (hR _ _ ⟨(by unfold z_td; simp [*]; done), rfl⟩)
      · skip
        rw [z0_ne (by omega)] at c_30
        replace c_30 := Decidable.not_not.mp c_30
        refine e_steps 3 (σ' := (38, [(0, .ref 0), (1, .int (nI ix)), (2, .int (nI part))], [.int (nI ix), .ref 8], (MH g kept was isKept tape fed pos tlen flt ranking paper written pairs above below isDone dist rowv rowMany lsz itm weakAbove weakBelow))) rfl ?_
        refine e_lal (lN a) rfl rfl (by first | assumption | omega | rfl | trivial) (by decide) (hea) ?_
        refine e_steps 1 (σ' := (74, [(0, .ref 0), (1, .int (nI ix)), (2, .int (nI part))], [.long (lN a)], (MH g kept was isKept tape fed pos tlen flt ranking paper written pairs above below isDone dist rowv rowMany lsz itm weakAbove weakBelow))) rfl ?_
        exact e_ret rfl (trivial) (hR _ _ ⟨(by unfold z_td; simp [*]; done), rfl⟩)
    · skip
      rw [nI_eq (by omega) (by omega)] at c_19
      replace c_19 := Decidable.not_not.mp c_19
      refine e_steps 1 (σ' := (23, [(0, .ref 0), (1, .int (nI ix)), (2, .int (nI part))], [.long (lN 1)], (MH g kept was isKept tape fed pos tlen flt ranking paper written pairs above below isDone dist rowv rowMany lsz itm weakAbove weakBelow))) rfl ?_
      exact e_ret rfl (trivial) (hR _ _ ⟨(by unfold z_td; simp [*]; done), rfl⟩)
  · skip
    rw [nI_eq (by omega) (by omega)] at c_7
    replace c_7 := Decidable.not_not.mp c_7
    refine e_steps 3 (σ' := (13, [(0, .ref 0), (1, .int (nI ix)), (2, .int (nI part))], [.int (nI part), .int (nI ix), .ref 0], (MH g kept was isKept tape fed pos tlen flt ranking paper written pairs above below isDone dist rowv rowMany lsz itm weakAbove weakBelow))) rfl ?_
    refine e_call (y := 187) (av := [.ref 0, .int (nI ix), .int (nI part)]) (rest := []) rfl (c_X6_lowest (d + 0) (a := a) (b := b) (by first | assumption | omega | rfl | trivial) (by first | assumption | omega | rfl | trivial) (by first | assumption | omega | rfl | trivial) (by first | assumption | omega | rfl | trivial) (by first | assumption | omega | rfl | trivial) (by first | assumption | omega | rfl | trivial)) (fun r_13 h_13 p_13 => ?_)
    obtain ⟨rfl, rfl⟩ := p_13
    refine e_steps 0 (σ' := (16, [(0, .ref 0), (1, .int (nI ix)), (2, .int (nI part))], [.long (lN ((if b = 0 then (if part = 0 then a else 0) else (if part = 0 then a else b) / Nat.gcd a b)))], (MH g kept was isKept tape fed pos tlen flt ranking paper written pairs above below isDone dist rowv rowMany lsz itm weakAbove weakBelow))) rfl ?_
    exact e_ret rfl (trivial) (hR _ _ ⟨(by unfold z_td; simp [*]; done), rfl⟩)
theorem c_X6_strength (d : Nat) {g : Nat → Int32} {kept : Nat → Int32} {was : Nat → Int32} {isKept : Int32} {tape : Nat → Int32} {fed : Int32} {pos : Int32} {tlen : Int32} {flt : Int32} {ranking : Nat → Int32} {paper : Nat → Int32} {written : Int32} {pairs : Nat → Int64} {above : Nat → Int64} {below : Nat → Int64} {isDone : Nat → Int32} {dist : Nat → Int32} {rowv : Nat → Int32} {rowMany : Int32} {lsz : Nat → Int32} {itm : Nat → Int64} {weakAbove : Int64} {weakBelow : Int64} {i : Int32} {j : Int32} {part : Int32} {n : Nat} {outs : Nat} {bm : Nat} {ms : Nat} {dr : Nat → Nat} {cn : Nat → Nat} {pl : Nat → Nat → Nat} (hG : z_GI g n outs bm ms dr cn pl) : z_CAL (d + 56) 189 [.ref 0, .int i, .int j, .int part] (MH g kept was isKept tape fed pos tlen flt ranking paper written pairs above below isDone dist rowv rowMany lsz itm weakAbove weakBelow) (fun r h2 => ∃ (pairs2 : Nat → Int64) (ab2 : Nat → Int64) (be2 : Nat → Int64) (dn2 : Nat → Int32) (v : Int64), r = some (.long v) ∧ h2 = (MH g kept was isKept tape fed pos tlen flt ranking paper written pairs2 ab2 be2 dn2 dist rowv rowMany lsz itm weakAbove weakBelow) ∧ ((v = -lN 9223372036854775808 ∧ ¬ (∃ a b p, a < n ∧ b < n ∧ a ≠ b ∧ i = nI a ∧ j = nI b ∧ p < 2 ∧ part = nI p ∧ ((z_dif (2 ^ n - 1) outs).testBit a = true ∧ (z_dif (2 ^ n - 1) outs).testBit b = true))) ∨ ∃ a b p K, a < n ∧ b < n ∧ a ≠ b ∧ i = nI a ∧ j = nI b ∧ p < 2 ∧ part = nI p ∧ ((z_dif (2 ^ n - 1) outs).testBit a = true ∧ (z_dif (2 ^ n - 1) outs).testBit b = true) ∧ z_rows (z_LS ms (z_dif (2 ^ n - 1) outs) (z_for bm cn pl)) n K ∧ ((K a b = 0 ∧ v = -lN 9223372036854775808) ∨ ∃ x y, y < x ∧ x ≤ 41000000 ∧ K a b = z_key ms x y ∧ v = lN (z_td ms p x y)))) := by
  refine e_of2 (q := zmX6_strength) rfl rfl (fun R hR => ?_)
  obtain ⟨⟨hn0, hn2, hn8⟩, ⟨ho0, ho8, hin⟩, ⟨hb0, hb40⟩, ⟨hm0, hm4⟩, ⟨hdr, hdl, hdc⟩, hcn, hpl⟩ := id hG; have hp8 := z_p2 hn8; have ho256 : outs < 256 := (by omega); have hi256 : z_dif (2 ^ n - 1) outs < 256 := (by have := z_dif_le (s := 2 ^ n - 1) (t := outs); omega)
  refine e_steps 3 (σ' := (3, [(0, .ref 0), (1, .int i), (2, .int j), (3, .int part)], [.int j, .int i, .ref 0], (MH g kept was isKept tape fed pos tlen flt ranking paper written pairs above below isDone dist rowv rowMany lsz itm weakAbove weakBelow))) rfl ?_
  refine e_call (y := 136) (av := [.ref 0, .int i, .int j]) (rest := []) rfl (c_X6_areTwo (d + 52) (n := n) (outs := outs) (bm := bm) (ms := ms) (dr := dr) (cn := cn) (pl := pl) (by first | assumption | omega | rfl | trivial)) (fun r_3 h_3 p_3 => ?_)
  obtain ⟨rfl, o_3⟩ := p_3
  rcases o_3 with ⟨rfl, o_3⟩ | ⟨rfl, o_3⟩
  · skip
    obtain ⟨a_3, b_3, ha_3, hb_3, hab_3, ea_3, eb_3⟩ := o_3
    subst ea_3
    subst eb_3
    refine e_steps 5 (σ' := (13, [(0, .ref 0), (1, .int (nI a_3)), (2, .int (nI b_3)), (3, .int part)], [.long (lN 1), .long (lN 0), .long part.toInt64], (MH g kept was isKept tape fed pos tlen flt ranking paper written pairs above below isDone dist rowv rowMany lsz itm weakAbove weakBelow))) rfl ?_
    refine e_call (y := 129) (av := [.long part.toInt64, .long (lN 0), .long (lN 1)]) (rest := []) rfl (c_X6_isIn (d + 54) ) (fun r_13 h_13 p_13 => ?_)
    obtain ⟨rfl, o_13⟩ := p_13
    rcases o_13 with ⟨rfl, o_13⟩ | ⟨rfl, o_13⟩
    · skip
      obtain ⟨kp, hkp, ek⟩ := z_in_nat (by omega) o_13; subst ek
      refine e_steps 4 (σ' := (22, [(0, .ref 0), (1, .int (nI a_3)), (2, .int (nI b_3)), (3, .int (nI kp))], [.int (nI b_3), .int (nI a_3), .ref 0], (MH g kept was isKept tape fed pos tlen flt ranking paper written pairs above below isDone dist rowv rowMany lsz itm weakAbove weakBelow))) rfl ?_
      refine e_call (y := 137) (av := [.ref 0, .int (nI a_3), .int (nI b_3)]) (rest := []) rfl (c_X6_areIn (d + 52) (n := n) (outs := outs) (bm := bm) (ms := ms) (dr := dr) (cn := cn) (pl := pl) (by first | assumption | omega | rfl | trivial) (by first | assumption | omega | rfl | trivial) (by first | assumption | omega | rfl | trivial)) (fun r_22 h_22 p_22 => ?_)
      obtain ⟨rfl, o_22⟩ := p_22
      rcases o_22 with ⟨rfl, o_22⟩ | ⟨rfl, o_22⟩
      · skip
        refine e_steps 2 (σ' := (33, [(0, .ref 0), (1, .int (nI a_3)), (2, .int (nI b_3)), (3, .int (nI kp))], [.ref 0], (MH g kept was isKept tape fed pos tlen flt ranking paper written pairs above below isDone dist rowv rowMany lsz itm weakAbove weakBelow))) rfl ?_
        refine e_call (y := 185) (av := [.ref 0]) (rest := []) rfl (c_X6_waysNow (d + 49) (n := n) (outs := outs) (bm := bm) (ms := ms) (dr := dr) (cn := cn) (pl := pl) (by first | assumption | omega | rfl | trivial)) (fun r_33 h_33 p_33 => ?_)
        obtain ⟨pairs_33, above_33, below_33, isDone_33, rfl, rfl, q_33⟩ := p_33
        obtain ⟨hP2, K, hW⟩ := q_33; have hA := hW.1 a_3 ha_3 b_3 (by omega)
        refine e_steps 4 (σ' := (43, [(0, .ref 0), (1, .int (nI a_3)), (2, .int (nI b_3)), (3, .int (nI kp))], [.int (nI a_3), .int (nI 8), .ref 8], (MH g kept was isKept tape fed pos tlen flt ranking paper written pairs_33 above_33 below_33 isDone_33 dist rowv rowMany lsz itm weakAbove weakBelow))) rfl ?_
        refine e_mul (8 * a_3) rfl (by first | rfl | omega | simp) ?_
        refine e_steps 1 (σ' := (45, [(0, .ref 0), (1, .int (nI a_3)), (2, .int (nI b_3)), (3, .int (nI kp))], [.int (nI b_3), .int (nI (8 * a_3)), .ref 8], (MH g kept was isKept tape fed pos tlen flt ranking paper written pairs_33 above_33 below_33 isDone_33 dist rowv rowMany lsz itm weakAbove weakBelow))) rfl ?_
        refine e_add (8 * a_3 + b_3) rfl (by first | rfl | omega) ?_
        refine e_steps 0 (σ' := (46, [(0, .ref 0), (1, .int (nI a_3)), (2, .int (nI b_3)), (3, .int (nI kp))], [.int (nI (8 * a_3 + b_3)), .ref 8], (MH g kept was isKept tape fed pos tlen flt ranking paper written pairs_33 above_33 below_33 isDone_33 dist rowv rowMany lsz itm weakAbove weakBelow))) rfl ?_
        refine e_lal (above_33 (8 * a_3 + b_3)) rfl rfl (by first | assumption | omega | rfl | trivial) (by decide) (rfl) ?_
        refine e_steps 2 (σ' := (49, [(0, .ref 0), (1, .int (nI a_3)), (2, .int (nI b_3)), (3, .int (nI kp))], [.int ((lg_cmp ((above_33 (8 * a_3 + b_3))) (lN 0)))], (MH g kept was isKept tape fed pos tlen flt ranking paper written pairs_33 above_33 below_33 isDone_33 dist rowv rowMany lsz itm weakAbove weakBelow))) rfl ?_
        refine e_if (c := 0 ≤ lg_cmp ((above_33 (8 * a_3 + b_3))) (lN 0)) rfl (fun c_48 => ?_) (fun c_48 => ?_)
        · rw [lg_cmp_ge] at c_48
          obtain ⟨x1, y1, ex1, ey1, hxy1, hx1, ek1⟩ := z_AB1_some hA (Int64.not_lt.mpr c_48)
          refine e_steps 3 (σ' := (62, [(0, .ref 0), (1, .int (nI a_3)), (2, .int (nI b_3)), (3, .int (nI kp))], [.int (nI a_3), .int (nI 8), .ref 0], (MH g kept was isKept tape fed pos tlen flt ranking paper written pairs_33 above_33 below_33 isDone_33 dist rowv rowMany lsz itm weakAbove weakBelow))) rfl ?_
          refine e_mul (8 * a_3) rfl (by first | rfl | omega | simp) ?_
          refine e_steps 1 (σ' := (64, [(0, .ref 0), (1, .int (nI a_3)), (2, .int (nI b_3)), (3, .int (nI kp))], [.int (nI b_3), .int (nI (8 * a_3)), .ref 0], (MH g kept was isKept tape fed pos tlen flt ranking paper written pairs_33 above_33 below_33 isDone_33 dist rowv rowMany lsz itm weakAbove weakBelow))) rfl ?_
          refine e_add (8 * a_3 + b_3) rfl (by first | rfl | omega) ?_
          refine e_steps 1 (σ' := (66, [(0, .ref 0), (1, .int (nI a_3)), (2, .int (nI b_3)), (3, .int (nI kp))], [.int (nI kp), .int (nI (8 * a_3 + b_3)), .ref 0], (MH g kept was isKept tape fed pos tlen flt ranking paper written pairs_33 above_33 below_33 isDone_33 dist rowv rowMany lsz itm weakAbove weakBelow))) rfl ?_
          refine e_call (y := 188) (av := [.ref 0, .int (nI (8 * a_3 + b_3)), .int (nI kp)]) (rest := []) rfl (c_X6_told (d + 0) (n := n) (outs := outs) (bm := bm) (ms := ms) (dr := dr) (cn := cn) (pl := pl) (a := x1) (b := y1) (by first | assumption | omega | rfl | trivial) (by first | assumption | omega | rfl | trivial) (by first | assumption | omega | rfl | trivial) (by exact ex1) (by exact ey1) (by exact hxy1) (by exact hx1)) (fun r_66 h_66 p_66 => ?_)
          obtain ⟨rfl, rfl⟩ := p_66
          refine e_steps 0 (σ' := (69, [(0, .ref 0), (1, .int (nI a_3)), (2, .int (nI b_3)), (3, .int (nI kp))], [.long (lN (z_td ms kp x1 y1))], (MH g kept was isKept tape fed pos tlen flt ranking paper written pairs_33 above_33 below_33 isDone_33 dist rowv rowMany lsz itm weakAbove weakBelow))) rfl ?_
          exact e_ret rfl (trivial) (hR _ _ ⟨pairs_33, above_33, below_33, isDone_33, (lN (z_td ms kp x1 y1)), rfl, rfl, (by first | exact Or.inl ⟨rfl, fun ⟨a, b, p, h1, h2, h3, h4, h5, h6, h7, h8⟩ => o_3 ⟨a, b, h1, h2, h3, h4, h5⟩⟩ | exact Or.inl ⟨rfl, fun ⟨a, b, p, h1, h2, h3, h4, h5, h6, h7, h8⟩ => o_13 (by rw [h7]; exact z_nat_in (by omega) (by omega))⟩ | exact Or.inl ⟨rfl, fun ⟨a, b, p, h1, h2, h3, h4, h5, h6, h7, h8⟩ => o_22 (by rw [nI_eq (by omega) (by omega)] at h4 h5; rw [h4, h5]; exact h8)⟩ | exact Or.inr ⟨_, _, kp, K, ha_3, hb_3, hab_3, rfl, rfl, by omega, rfl, o_22, hW.2, Or.inr ⟨x1, y1, hxy1, hx1, ek1, rfl⟩⟩ | exact Or.inr ⟨_, _, kp, K, ha_3, hb_3, hab_3, rfl, rfl, by omega, rfl, o_22, hW.2, Or.inl ⟨z_AB1_none hA (Int64.not_le.mp c_48), rfl⟩⟩)⟩)
        · rw [lg_cmp_ge] at c_48
          refine e_steps 2 (σ' := (69, [(0, .ref 0), (1, .int (nI a_3)), (2, .int (nI b_3)), (3, .int (nI kp))], [.long ((-lN 9223372036854775808))], (MH g kept was isKept tape fed pos tlen flt ranking paper written pairs_33 above_33 below_33 isDone_33 dist rowv rowMany lsz itm weakAbove weakBelow))) rfl ?_
          exact e_ret rfl (trivial) (hR _ _ ⟨pairs_33, above_33, below_33, isDone_33, ((-lN 9223372036854775808)), rfl, rfl, (by first | exact Or.inl ⟨rfl, fun ⟨a, b, p, h1, h2, h3, h4, h5, h6, h7, h8⟩ => o_3 ⟨a, b, h1, h2, h3, h4, h5⟩⟩ | exact Or.inl ⟨rfl, fun ⟨a, b, p, h1, h2, h3, h4, h5, h6, h7, h8⟩ => o_13 (by rw [h7]; exact z_nat_in (by omega) (by omega))⟩ | exact Or.inl ⟨rfl, fun ⟨a, b, p, h1, h2, h3, h4, h5, h6, h7, h8⟩ => o_22 (by rw [nI_eq (by omega) (by omega)] at h4 h5; rw [h4, h5]; exact h8)⟩ | exact Or.inr ⟨_, _, kp, K, ha_3, hb_3, hab_3, rfl, rfl, by omega, rfl, o_22, hW.2, Or.inr ⟨x1, y1, hxy1, hx1, ek1, rfl⟩⟩ | exact Or.inr ⟨_, _, kp, K, ha_3, hb_3, hab_3, rfl, rfl, by omega, rfl, o_22, hW.2, Or.inl ⟨z_AB1_none hA (Int64.not_le.mp c_48), rfl⟩⟩)⟩)
      · skip
        refine e_steps 2 (σ' := (31, [(0, .ref 0), (1, .int (nI a_3)), (2, .int (nI b_3)), (3, .int (nI kp))], [.long ((-lN 9223372036854775808))], (MH g kept was isKept tape fed pos tlen flt ranking paper written pairs above below isDone dist rowv rowMany lsz itm weakAbove weakBelow))) rfl ?_
        exact e_ret rfl (trivial) (hR _ _ ⟨pairs, above, below, isDone, ((-lN 9223372036854775808)), rfl, rfl, (by first | exact Or.inl ⟨rfl, fun ⟨a, b, p, h1, h2, h3, h4, h5, h6, h7, h8⟩ => o_3 ⟨a, b, h1, h2, h3, h4, h5⟩⟩ | exact Or.inl ⟨rfl, fun ⟨a, b, p, h1, h2, h3, h4, h5, h6, h7, h8⟩ => o_13 (by rw [h7]; exact z_nat_in (by omega) (by omega))⟩ | exact Or.inl ⟨rfl, fun ⟨a, b, p, h1, h2, h3, h4, h5, h6, h7, h8⟩ => o_22 (by rw [nI_eq (by omega) (by omega)] at h4 h5; rw [h4, h5]; exact h8)⟩ | exact Or.inr ⟨_, _, kp, K, ha_3, hb_3, hab_3, rfl, rfl, by omega, rfl, o_22, hW.2, Or.inr ⟨x1, y1, hxy1, hx1, ek1, rfl⟩⟩)⟩)
    · skip
      refine e_steps 2 (σ' := (31, [(0, .ref 0), (1, .int (nI a_3)), (2, .int (nI b_3)), (3, .int part)], [.long ((-lN 9223372036854775808))], (MH g kept was isKept tape fed pos tlen flt ranking paper written pairs above below isDone dist rowv rowMany lsz itm weakAbove weakBelow))) rfl ?_
      exact e_ret rfl (trivial) (hR _ _ ⟨pairs, above, below, isDone, ((-lN 9223372036854775808)), rfl, rfl, (by first | exact Or.inl ⟨rfl, fun ⟨a, b, p, h1, h2, h3, h4, h5, h6, h7, h8⟩ => o_3 ⟨a, b, h1, h2, h3, h4, h5⟩⟩ | exact Or.inl ⟨rfl, fun ⟨a, b, p, h1, h2, h3, h4, h5, h6, h7, h8⟩ => o_13 (by rw [h7]; exact z_nat_in (by omega) (by omega))⟩)⟩)
  · skip
    refine e_steps 2 (σ' := (31, [(0, .ref 0), (1, .int i), (2, .int j), (3, .int part)], [.long ((-lN 9223372036854775808))], (MH g kept was isKept tape fed pos tlen flt ranking paper written pairs above below isDone dist rowv rowMany lsz itm weakAbove weakBelow))) rfl ?_
    exact e_ret rfl (trivial) (hR _ _ ⟨pairs, above, below, isDone, ((-lN 9223372036854775808)), rfl, rfl, (by exact Or.inl ⟨rfl, fun ⟨a, b, p, h1, h2, h3, h4, h5, h6, h7, h8⟩ => o_3 ⟨a, b, h1, h2, h3, h4, h5⟩⟩)⟩)
theorem c_X6_isOf (d : Nat) {g : Nat → Int32} {kept : Nat → Int32} {was : Nat → Int32} {isKept : Int32} {tape : Nat → Int32} {fed : Int32} {pos : Int32} {tlen : Int32} {flt : Int32} {ranking : Nat → Int32} {paper : Nat → Int32} {written : Int32} {pairs : Nat → Int64} {above : Nat → Int64} {below : Nat → Int64} {isDone : Nat → Int32} {dist : Nat → Int32} {rowv : Nat → Int32} {rowMany : Int32} {lsz : Nat → Int32} {itm : Nat → Int64} {weakAbove : Int64} {weakBelow : Int64} {i : Nat} {j : Nat} {ix : Nat} {n : Nat} {outs : Nat} {bm : Nat} {ms : Nat} {dr : Nat → Nat} {cn : Nat → Nat} {pl : Nat → Nat → Nat} {F : Nat → Nat → Nat} {t : Nat} (hG : z_GI g n outs bm ms dr cn pl) (hP : z_PR pairs n F) (hix : ix < 64) (hT : z_AB1 ms (above ix) (below ix) t) (ht : 0 < t) (hi : i < n) (hj : j < n) : z_CAL (d + 3) 190 [.ref 0, .int (nI i), .int (nI j), .int (nI ix)] (MH g kept was isKept tape fed pos tlen flt ranking paper written pairs above below isDone dist rowv rowMany lsz itm weakAbove weakBelow) (fun r h2 => h2 = (MH g kept was isKept tape fed pos tlen flt ranking paper written pairs above below isDone dist rowv rowMany lsz itm weakAbove weakBelow) ∧ ((r = some (.int (nI 1)) ∧ (t ≤ (z_LS ms (z_dif (2 ^ n - 1) outs) F) i j)) ∨ (r = some (.int (nI 0)) ∧ (¬ t ≤ (z_LS ms (z_dif (2 ^ n - 1) outs) F) i j)))) := by
  refine e_of2 (q := zmX6_isOf) rfl rfl (fun R hR => ?_)
  obtain ⟨⟨hn0, hn2, hn8⟩, ⟨ho0, ho8, hin⟩, ⟨hb0, hb40⟩, ⟨hm0, hm4⟩, ⟨hdr, hdl, hdc⟩, hcn, hpl⟩ := id hG; have hp8 := z_p2 hn8; have ho256 : outs < 256 := (by omega); have hi256 : z_dif (2 ^ n - 1) outs < 256 := (by have := z_dif_le (s := 2 ^ n - 1) (t := outs); omega); obtain ⟨a1, b1, ea1, eb1, hab1, hA1, ek1⟩ := z_AB1_some hT (z_AB1_neg hT ht)
  refine e_steps 2 (σ' := (2, [(0, .ref 0), (1, .int (nI i)), (2, .int (nI j)), (3, .int (nI ix))], [.ref 0, .ref 0], (MH g kept was isKept tape fed pos tlen flt ranking paper written pairs above below isDone dist rowv rowMany lsz itm weakAbove weakBelow))) rfl ?_
  refine e_call (y := 134) (av := [.ref 0]) (rest := [.ref 0]) rfl (c_X6_ins (d + 0) (n := n) (outs := outs) (bm := bm) (ms := ms) (dr := dr) (cn := cn) (pl := pl) (by first | assumption | omega | rfl | trivial)) (fun r_2 h_2 p_2 => ?_)
  obtain ⟨rfl, rfl⟩ := p_2
  refine e_steps 2 (σ' := (7, [(0, .ref 0), (1, .int (nI i)), (2, .int (nI j)), (3, .int (nI ix))], [.int (nI j), .int (nI i), .int (nI (z_dif (2 ^ n - 1) outs)), .ref 0], (MH g kept was isKept tape fed pos tlen flt ranking paper written pairs above below isDone dist rowv rowMany lsz itm weakAbove weakBelow))) rfl ?_
  refine e_call (y := 176) (av := [.ref 0, .int (nI (z_dif (2 ^ n - 1) outs)), .int (nI i), .int (nI j)]) (rest := []) rfl (c_X6_isLink (d + 0) (n := n) (outs := outs) (bm := bm) (ms := ms) (dr := dr) (cn := cn) (pl := pl) (F := F) (by first | assumption | omega | rfl | trivial) (by first | assumption | omega | rfl | trivial) (by first | assumption | omega | rfl | trivial) (by first | assumption | omega | rfl | trivial) (by first | assumption | omega | rfl | trivial)) (fun r_7 h_7 p_7 => ?_)
  obtain ⟨rfl, o_7⟩ := p_7
  rcases o_7 with ⟨rfl, o_7⟩ | ⟨rfl, o_7⟩
  · skip
    have hb1 := (hP i hi j hj).2; have hb2 := (hP j hj i hi).2; have hlt := o_7.2.2.2
    refine e_steps 4 (σ' := (18, [(0, .ref 0), (1, .int (nI i)), (2, .int (nI j)), (3, .int (nI ix))], [.int (nI 3), .ref 1], (MH g kept was isKept tape fed pos tlen flt ranking paper written pairs above below isDone dist rowv rowMany lsz itm weakAbove weakBelow))) rfl ?_
    refine e_ial (nI ms) rfl rfl (by first | assumption | omega | rfl | trivial) (by decide) (hm0) ?_
    refine e_steps 3 (σ' := (24, [(0, .ref 0), (1, .int (nI i)), (2, .int (nI j)), (3, .int (nI ix))], [.int (nI ix), .ref 8, .int (nI ms)], (MH g kept was isKept tape fed pos tlen flt ranking paper written pairs above below isDone dist rowv rowMany lsz itm weakAbove weakBelow))) rfl ?_
    refine e_lal (lN a1) rfl rfl (by first | assumption | omega | rfl | trivial) (by decide) (ea1) ?_
    refine e_steps 3 (σ' := (30, [(0, .ref 0), (1, .int (nI i)), (2, .int (nI j)), (3, .int (nI ix))], [.int (nI ix), .ref 9, .long (lN a1), .int (nI ms)], (MH g kept was isKept tape fed pos tlen flt ranking paper written pairs above below isDone dist rowv rowMany lsz itm weakAbove weakBelow))) rfl ?_
    refine e_lal (lN b1) rfl rfl (by first | assumption | omega | rfl | trivial) (by decide) (eb1) ?_
    refine e_steps 3 (σ' := (34, [(0, .ref 0), (1, .int (nI i)), (2, .int (nI j)), (3, .int (nI ix))], [.int (nI j), .int (nI i), .ref 0, .long (lN b1), .long (lN a1), .int (nI ms)], (MH g kept was isKept tape fed pos tlen flt ranking paper written pairs above below isDone dist rowv rowMany lsz itm weakAbove weakBelow))) rfl ?_
    refine e_call (y := 174) (av := [.ref 0, .int (nI i), .int (nI j)]) (rest := [.long (lN b1), .long (lN a1), .int (nI ms)]) rfl (c_X6_over (d + 1) (n := n) (outs := outs) (bm := bm) (ms := ms) (dr := dr) (cn := cn) (pl := pl) (F := F) (by first | assumption | omega | rfl | trivial) (by first | assumption | omega | rfl | trivial) (by first | assumption | omega | rfl | trivial) (by first | assumption | omega | rfl | trivial)) (fun r_34 h_34 p_34 => ?_)
    obtain ⟨rfl, rfl⟩ := p_34
    refine e_steps 3 (σ' := (40, [(0, .ref 0), (1, .int (nI i)), (2, .int (nI j)), (3, .int (nI ix))], [.int (nI i), .int (nI j), .ref 0, .long (lN (F i j)), .long (lN b1), .long (lN a1), .int (nI ms)], (MH g kept was isKept tape fed pos tlen flt ranking paper written pairs above below isDone dist rowv rowMany lsz itm weakAbove weakBelow))) rfl ?_
    refine e_call (y := 174) (av := [.ref 0, .int (nI j), .int (nI i)]) (rest := [.long (lN (F i j)), .long (lN b1), .long (lN a1), .int (nI ms)]) rfl (c_X6_over (d + 1) (n := n) (outs := outs) (bm := bm) (ms := ms) (dr := dr) (cn := cn) (pl := pl) (F := F) (by first | assumption | omega | rfl | trivial) (by first | assumption | omega | rfl | trivial) (by first | assumption | omega | rfl | trivial) (by first | assumption | omega | rfl | trivial)) (fun r_40 h_40 p_40 => ?_)
    obtain ⟨rfl, rfl⟩ := p_40
    refine e_steps 0 (σ' := (43, [(0, .ref 0), (1, .int (nI i)), (2, .int (nI j)), (3, .int (nI ix))], [.long (lN (F j i)), .long (lN (F i j)), .long (lN b1), .long (lN a1), .int (nI ms)], (MH g kept was isKept tape fed pos tlen flt ranking paper written pairs above below isDone dist rowv rowMany lsz itm weakAbove weakBelow))) rfl ?_
    refine e_call (y := 178) (av := [.int (nI ms), .long (lN a1), .long (lN b1), .long (lN (F i j)), .long (lN (F j i))]) (rest := []) rfl (c_X6_isStronger (d + 1) (by first | assumption | omega | rfl | trivial) (by first | assumption | omega | rfl | trivial) (by exact o_7.2.2.2) (by first | assumption | omega | rfl | trivial) (by first | assumption | omega | rfl | trivial)) (fun r_43 h_43 p_43 => ?_)
    obtain ⟨rfl, o_43⟩ := p_43
    rcases o_43 with ⟨rfl, o_43⟩ | ⟨rfl, o_43⟩
    · skip
      refine e_steps 2 (σ' := (54, [(0, .ref 0), (1, .int (nI i)), (2, .int (nI j)), (3, .int (nI ix))], [.int (nI 0)], (MH g kept was isKept tape fed pos tlen flt ranking paper written pairs above below isDone dist rowv rowMany lsz itm weakAbove weakBelow))) rfl ?_
      exact e_ret rfl (Or.inl rfl) (hR _ _ ⟨rfl, Or.inr ⟨rfl, (by first | (rw [z_LS_yes o_7, ek1]; exact Nat.not_le.mpr o_43) | (rw [z_LS_no o_7]; omega))⟩⟩)
    · skip
      refine e_steps 3 (σ' := (54, [(0, .ref 0), (1, .int (nI i)), (2, .int (nI j)), (3, .int (nI ix))], [.int (nI 1)], (MH g kept was isKept tape fed pos tlen flt ranking paper written pairs above below isDone dist rowv rowMany lsz itm weakAbove weakBelow))) rfl ?_
      exact e_ret rfl (Or.inr rfl) (hR _ _ ⟨rfl, Or.inl ⟨rfl, (by rw [z_LS_yes o_7, ek1]; exact Nat.not_lt.mp o_43)⟩⟩)
  · skip
    refine e_steps 2 (σ' := (54, [(0, .ref 0), (1, .int (nI i)), (2, .int (nI j)), (3, .int (nI ix))], [.int (nI 0)], (MH g kept was isKept tape fed pos tlen flt ranking paper written pairs above below isDone dist rowv rowMany lsz itm weakAbove weakBelow))) rfl ?_
    exact e_ret rfl (Or.inl rfl) (hR _ _ ⟨rfl, Or.inr ⟨rfl, (by (rw [z_LS_no o_7]; omega))⟩⟩)
theorem c_X6_leftTo (d : Nat) {g : Nat → Int32} {kept : Nat → Int32} {was : Nat → Int32} {isKept : Int32} {tape : Nat → Int32} {fed : Int32} {pos : Int32} {tlen : Int32} {flt : Int32} {ranking : Nat → Int32} {paper : Nat → Int32} {written : Int32} {pairs : Nat → Int64} {above : Nat → Int64} {below : Nat → Int64} {isDone : Nat → Int32} {dist : Nat → Int32} {rowv : Nat → Int32} {rowMany : Int32} {lsz : Nat → Int32} {itm : Nat → Int64} {weakAbove : Int64} {weakBelow : Int64} {j : Nat} {ix : Nat} {n : Nat} {outs : Nat} {bm : Nat} {ms : Nat} {dr : Nat → Nat} {cn : Nat → Nat} {pl : Nat → Nat → Nat} {F : Nat → Nat → Nat} {t : Nat} (hG : z_GI g n outs bm ms dr cn pl) (hP : z_PR pairs n F) (hix : ix < 64) (hT : z_AB1 ms (above ix) (below ix) t) (ht : 0 < t) (hj : j < n) : z_CAL (d + 4) 191 [.ref 0, .int (nI j), .int (nI ix)] (MH g kept was isKept tape fed pos tlen flt ranking paper written pairs above below isDone dist rowv rowMany lsz itm weakAbove weakBelow) (fun r h2 => ∃ (dist2 : Nat → Int32), r = none ∧ h2 = (MH g kept was isKept tape fed pos tlen flt ranking paper written pairs above below isDone dist2 rowv rowMany lsz itm weakAbove weakBelow) ∧ (∃ D, (∀ c, c < 8 → dist2 c = nI (D c)) ∧ z_DS (z_LS ms (z_dif (2 ^ n - 1) outs) F) n t j D)) := by
  refine e_of2 (q := zmX6_leftTo) rfl rfl (fun R hR => ?_)
  obtain ⟨⟨hn0, hn2, hn8⟩, ⟨ho0, ho8, hin⟩, ⟨hb0, hb40⟩, ⟨hm0, hm4⟩, ⟨hdr, hdl, hdc⟩, hcn, hpl⟩ := id hG; have hp8 := z_p2 hn8; have ho256 : outs < 256 := (by omega); have hi256 : z_dif (2 ^ n - 1) outs < 256 := (by have := z_dif_le (s := 2 ^ n - 1) (t := outs); omega)
  refine e_steps 2 (σ' := (2, [(3, .int (nI 0)), (0, .ref 0), (1, .int (nI j)), (2, .int (nI ix))], [], (MH g kept was isKept tape fed pos tlen flt ranking paper written pairs above below isDone dist rowv rowMany lsz itm weakAbove weakBelow))) rfl ?_
  have loop_2 : ∀ (z_2 : Nat) (c0 : Nat) (dl : Nat → Int32), 8 - c0 < z_2 → (c0 ≤ 8 ∧ ∀ c, c < c0 → dl c = nI (if c = j then 0 else 8)) → z_EV (d + 3) zmX6_leftTo R (2, [(0, .ref 0), (1, .int (nI j)), (2, .int (nI ix)), (3, .int (nI c0))], [], (MH g kept was isKept tape fed pos tlen flt ranking paper written pairs above below isDone dl rowv rowMany lsz itm weakAbove weakBelow)) := by
    intro z_2
    induction z_2 with
    | zero => intro c0 dl hm_2 _; exact absurd hm_2 (Nat.not_lt_zero _)
    | succ z_2 ih_2 =>
      intro c0 dl hm_2 hi_2
      obtain ⟨l1, l2⟩ := hi_2
      refine e_steps 2 (σ' := (5, [(0, .ref 0), (1, .int (nI j)), (2, .int (nI ix)), (3, .int (nI c0))], [.int (nI 8), .int (nI c0)], (MH g kept was isKept tape fed pos tlen flt ranking paper written pairs above below isDone dl rowv rowMany lsz itm weakAbove weakBelow))) rfl ?_
      refine e_if (c := nI 8 ≤ nI c0) rfl (fun c_5 => ?_) (fun c_5 => ?_)
      · skip
        rw [nI_leI (by omega) (by omega)] at c_5
        refine e_steps 2 (σ' := (33, [(3, .int (nI 1)), (0, .ref 0), (1, .int (nI j)), (2, .int (nI ix))], [], (MH g kept was isKept tape fed pos tlen flt ranking paper written pairs above below isDone dl rowv rowMany lsz itm weakAbove weakBelow))) rfl ?_
        have loop_33 : ∀ (z_33 : Nat) (far : Nat) (d0 : Nat → Int32) (D0 : Nat → Nat), 8 - far < z_33 → (1 ≤ far ∧ far ≤ 8 ∧ (∀ c, c < 8 → d0 c = nI (D0 c)) ∧ z_DSf (z_LS ms (z_dif (2 ^ n - 1) outs) F) n t j far D0 ∧ ∀ c, c < 8 → D0 c ≤ 8) → z_EV (d + 3) zmX6_leftTo R (33, [(0, .ref 0), (1, .int (nI j)), (2, .int (nI ix)), (3, .int (nI far))], [], (MH g kept was isKept tape fed pos tlen flt ranking paper written pairs above below isDone d0 rowv rowMany lsz itm weakAbove weakBelow)) := by
          intro z_33
          induction z_33 with
          | zero => intro far d0 D0 hm_33 _; exact absurd hm_33 (Nat.not_lt_zero _)
          | succ z_33 ih_33 =>
            intro far d0 D0 hm_33 hi_33
            obtain ⟨m1, m2, m3, m4, m5⟩ := hi_33
            refine e_steps 2 (σ' := (36, [(0, .ref 0), (1, .int (nI j)), (2, .int (nI ix)), (3, .int (nI far))], [.int (nI 8), .int (nI far)], (MH g kept was isKept tape fed pos tlen flt ranking paper written pairs above below isDone d0 rowv rowMany lsz itm weakAbove weakBelow))) rfl ?_
            refine e_if (c := nI 8 ≤ nI far) rfl (fun c_36 => ?_) (fun c_36 => ?_)
            · skip
              rw [nI_leI (by omega) (by omega)] at c_36
              refine e_steps 0 (σ' := (130, [(0, .ref 0), (1, .int (nI j)), (2, .int (nI ix)), (3, .int (nI far))], [], (MH g kept was isKept tape fed pos tlen flt ranking paper written pairs above below isDone d0 rowv rowMany lsz itm weakAbove weakBelow))) rfl ?_
              exact e_ret rfl (trivial) (hR _ _ ⟨d0, rfl, rfl, (by exact ⟨D0, m3, z_DSf_end (by have e : far = 8 := (by omega); rw [e] at m4; exact m4)⟩)⟩)
            · skip
              rw [nI_leI (by omega) (by omega)] at c_36
              refine e_steps 2 (σ' := (42, [(4, .int (nI 0)), (0, .ref 0), (1, .int (nI j)), (2, .int (nI ix)), (3, .int (nI far))], [], (MH g kept was isKept tape fed pos tlen flt ranking paper written pairs above below isDone d0 rowv rowMany lsz itm weakAbove weakBelow))) rfl ?_
              have loop_42 : ∀ (z_42 : Nat) (c : Nat) (d1 : Nat → Int32) (D : Nat → Nat), n - c < z_42 → (c ≤ n ∧ (∀ c, c < 8 → d1 c = nI (D c)) ∧ z_DSm (z_LS ms (z_dif (2 ^ n - 1) outs) F) n t j far c D0 D ∧ ∀ c, c < 8 → D c ≤ 8) → z_EV (d + 3) zmX6_leftTo R (42, [(0, .ref 0), (1, .int (nI j)), (2, .int (nI ix)), (3, .int (nI far)), (4, .int (nI c))], [], (MH g kept was isKept tape fed pos tlen flt ranking paper written pairs above below isDone d1 rowv rowMany lsz itm weakAbove weakBelow)) := by
                intro z_42
                induction z_42 with
                | zero => intro c d1 D hm_42 _; exact absurd hm_42 (Nat.not_lt_zero _)
                | succ z_42 ih_42 =>
                  intro c d1 D hm_42 hi_42
                  obtain ⟨p1, hD, p3, hD8⟩ := hi_42
                  refine e_steps 4 (σ' := (49, [(0, .ref 0), (1, .int (nI j)), (2, .int (nI ix)), (3, .int (nI far)), (4, .int (nI c))], [.int (nI 0), .ref 1, .int (nI c)], (MH g kept was isKept tape fed pos tlen flt ranking paper written pairs above below isDone d1 rowv rowMany lsz itm weakAbove weakBelow))) rfl ?_
                  refine e_ial (nI n) rfl rfl (by first | assumption | omega | rfl | trivial) (by decide) (hn0) ?_
                  refine e_steps 0 (σ' := (50, [(0, .ref 0), (1, .int (nI j)), (2, .int (nI ix)), (3, .int (nI far)), (4, .int (nI c))], [.int (nI n), .int (nI c)], (MH g kept was isKept tape fed pos tlen flt ranking paper written pairs above below isDone d1 rowv rowMany lsz itm weakAbove weakBelow))) rfl ?_
                  refine e_if (c := nI n ≤ nI c) rfl (fun c_50 => ?_) (fun c_50 => ?_)
                  · skip
                    rw [nI_leI (by omega) (by omega)] at c_50
                    refine e_steps 0 (σ' := (124, [(0, .ref 0), (1, .int (nI j)), (2, .int (nI ix)), (3, .int (nI far)), (4, .int (nI c))], [], (MH g kept was isKept tape fed pos tlen flt ranking paper written pairs above below isDone d1 rowv rowMany lsz itm weakAbove weakBelow))) rfl ?_
                    refine e_inc (n := 1) rfl rfl rfl (far + 1) (by rfl) [(3, .int (nI (far + 1))), (0, .ref 0), (1, .int (nI j)), (2, .int (nI ix)), (4, .int (nI c))] rfl ?_
                    refine e_steps 1 (σ' := (33, [(3, .int (nI (far + 1))), (0, .ref 0), (1, .int (nI j)), (2, .int (nI ix)), (4, .int (nI c))], [], (MH g kept was isKept tape fed pos tlen flt ranking paper written pairs above below isDone d1 rowv rowMany lsz itm weakAbove weakBelow))) rfl ?_
                    refine e_sub [1, 2, 3, 0] rfl ?_
                    exact ih_33 (far + 1) d1 D (by omega) (by exact ⟨by omega, by omega, hD, z_DSm_end m4 m1 (by omega) (by have e : c = n := (by omega); rw [e] at p3; exact p3), hD8⟩)
                  · skip
                    rw [nI_leI (by omega) (by omega)] at c_50
                    refine e_steps 2 (σ' := (56, [(5, .int (nI 0)), (0, .ref 0), (1, .int (nI j)), (2, .int (nI ix)), (3, .int (nI far)), (4, .int (nI c))], [], (MH g kept was isKept tape fed pos tlen flt ranking paper written pairs above below isDone d1 rowv rowMany lsz itm weakAbove weakBelow))) rfl ?_
                    have loop_56 : ∀ (z_56 : Nat) (k : Nat) (d2 : Nat → Int32) (E : Nat → Nat), n - k < z_56 → (k ≤ n ∧ (∀ c, c < 8 → d2 c = nI (E c)) ∧ (∀ c, c < 8 → E c ≤ 8) ∧ ((E = D ∧ (D c = 8 → ∀ x, x < k → D0 x + 1 = far → ¬ t ≤ (z_LS ms (z_dif (2 ^ n - 1) outs) F) c x)) ∨ (E c = far ∧ z_DSm (z_LS ms (z_dif (2 ^ n - 1) outs) F) n t j far (c + 1) D0 E))) → z_EV (d + 3) zmX6_leftTo R (56, [(0, .ref 0), (1, .int (nI j)), (2, .int (nI ix)), (3, .int (nI far)), (4, .int (nI c)), (5, .int (nI k))], [], (MH g kept was isKept tape fed pos tlen flt ranking paper written pairs above below isDone d2 rowv rowMany lsz itm weakAbove weakBelow)) := by
                      intro z_56
                      induction z_56 with
                      | zero => intro k d2 E hm_56 _; exact absurd hm_56 (Nat.not_lt_zero _)
                      | succ z_56 ih_56 =>
                        intro k d2 E hm_56 hi_56
                        obtain ⟨w1, w2, w3, w4⟩ := hi_56
                        refine e_steps 4 (σ' := (63, [(0, .ref 0), (1, .int (nI j)), (2, .int (nI ix)), (3, .int (nI far)), (4, .int (nI c)), (5, .int (nI k))], [.int (nI 0), .ref 1, .int (nI k)], (MH g kept was isKept tape fed pos tlen flt ranking paper written pairs above below isDone d2 rowv rowMany lsz itm weakAbove weakBelow))) rfl ?_
                        refine e_ial (nI n) rfl rfl (by first | assumption | omega | rfl | trivial) (by decide) (hn0) ?_
                        refine e_steps 0 (σ' := (64, [(0, .ref 0), (1, .int (nI j)), (2, .int (nI ix)), (3, .int (nI far)), (4, .int (nI c)), (5, .int (nI k))], [.int (nI n), .int (nI k)], (MH g kept was isKept tape fed pos tlen flt ranking paper written pairs above below isDone d2 rowv rowMany lsz itm weakAbove weakBelow))) rfl ?_
                        refine e_if (c := nI n ≤ nI k) rfl (fun c_64 => ?_) (fun c_64 => ?_)
                        · skip
                          rw [nI_leI (by omega) (by omega)] at c_64
                          refine e_steps 0 (σ' := (118, [(0, .ref 0), (1, .int (nI j)), (2, .int (nI ix)), (3, .int (nI far)), (4, .int (nI c)), (5, .int (nI k))], [], (MH g kept was isKept tape fed pos tlen flt ranking paper written pairs above below isDone d2 rowv rowMany lsz itm weakAbove weakBelow))) rfl ?_
                          refine e_inc (n := 1) rfl rfl rfl (c + 1) (by rfl) [(4, .int (nI (c + 1))), (0, .ref 0), (1, .int (nI j)), (2, .int (nI ix)), (3, .int (nI far)), (5, .int (nI k))] rfl ?_
                          refine e_steps 1 (σ' := (42, [(4, .int (nI (c + 1))), (0, .ref 0), (1, .int (nI j)), (2, .int (nI ix)), (3, .int (nI far)), (5, .int (nI k))], [], (MH g kept was isKept tape fed pos tlen flt ranking paper written pairs above below isDone d2 rowv rowMany lsz itm weakAbove weakBelow))) rfl ?_
                          refine e_sub [1, 2, 3, 4, 0] rfl ?_
                          exact ih_42 (c + 1) d2 E (by omega) (by first | exact ⟨by omega, w2, z_lf_a w4 p3 (by omega) (by omega) (hD8 c (by omega)), w3⟩ | exact ⟨by omega, w2, z_lf_b w4 p3 (by omega) (by assumption) (hD8 c (by omega)), w3⟩)
                        · skip
                          rw [nI_leI (by omega) (by omega)] at c_64
                          refine e_steps 3 (σ' := (73, [(0, .ref 0), (1, .int (nI j)), (2, .int (nI ix)), (3, .int (nI far)), (4, .int (nI c)), (5, .int (nI k))], [.int (nI c), .ref 11], (MH g kept was isKept tape fed pos tlen flt ranking paper written pairs above below isDone d2 rowv rowMany lsz itm weakAbove weakBelow))) rfl ?_
                          refine e_ial (nI (E c)) rfl rfl (by first | assumption | omega | rfl | trivial) (by decide) (w2 _ (by omega)) ?_
                          have hv_73 := w3 c (by omega)
                          refine e_steps 1 (σ' := (76, [(0, .ref 0), (1, .int (nI j)), (2, .int (nI ix)), (3, .int (nI far)), (4, .int (nI c)), (5, .int (nI k))], [.int (nI 8), .int (nI (E c))], (MH g kept was isKept tape fed pos tlen flt ranking paper written pairs above below isDone d2 rowv rowMany lsz itm weakAbove weakBelow))) rfl ?_
                          refine e_if (c := ¬ nI (E c) = nI 8) rfl (fun c_76 => ?_) (fun c_76 => ?_)
                          · skip
                            rw [nI_eq (by omega) (by omega)] at c_76
                            skip
                            refine e_steps 0 (σ' := (118, [(0, .ref 0), (1, .int (nI j)), (2, .int (nI ix)), (3, .int (nI far)), (4, .int (nI c)), (5, .int (nI k))], [], (MH g kept was isKept tape fed pos tlen flt ranking paper written pairs above below isDone d2 rowv rowMany lsz itm weakAbove weakBelow))) rfl ?_
                            refine e_inc (n := 1) rfl rfl rfl (c + 1) (by rfl) [(4, .int (nI (c + 1))), (0, .ref 0), (1, .int (nI j)), (2, .int (nI ix)), (3, .int (nI far)), (5, .int (nI k))] rfl ?_
                            refine e_steps 1 (σ' := (42, [(4, .int (nI (c + 1))), (0, .ref 0), (1, .int (nI j)), (2, .int (nI ix)), (3, .int (nI far)), (5, .int (nI k))], [], (MH g kept was isKept tape fed pos tlen flt ranking paper written pairs above below isDone d2 rowv rowMany lsz itm weakAbove weakBelow))) rfl ?_
                            refine e_sub [1, 2, 3, 4, 0] rfl ?_
                            exact ih_42 (c + 1) d2 E (by omega) (by first | exact ⟨by omega, w2, z_lf_a w4 p3 (by omega) (by omega) (hD8 c (by omega)), w3⟩ | exact ⟨by omega, w2, z_lf_b w4 p3 (by omega) (by assumption) (hD8 c (by omega)), w3⟩)
                          · skip
                            rw [nI_eq (by omega) (by omega)] at c_76
                            replace c_76 := Decidable.not_not.mp c_76
                            refine e_steps 3 (σ' := (85, [(0, .ref 0), (1, .int (nI j)), (2, .int (nI ix)), (3, .int (nI far)), (4, .int (nI c)), (5, .int (nI k))], [.int (nI k), .ref 11], (MH g kept was isKept tape fed pos tlen flt ranking paper written pairs above below isDone d2 rowv rowMany lsz itm weakAbove weakBelow))) rfl ?_
                            refine e_ial (nI (E k)) rfl rfl (by first | assumption | omega | rfl | trivial) (by decide) (w2 _ (by omega)) ?_
                            have hv_85 := w3 k (by omega)
                            refine e_steps 2 (σ' := (88, [(0, .ref 0), (1, .int (nI j)), (2, .int (nI ix)), (3, .int (nI far)), (4, .int (nI c)), (5, .int (nI k))], [.int (nI 1), .int (nI far), .int (nI (E k))], (MH g kept was isKept tape fed pos tlen flt ranking paper written pairs above below isDone d2 rowv rowMany lsz itm weakAbove weakBelow))) rfl ?_
                            refine e_sbt (far - 1) rfl (by first | assumption | omega | rfl | trivial) (by first | rfl | omega) ?_
                            refine e_steps 0 (σ' := (89, [(0, .ref 0), (1, .int (nI j)), (2, .int (nI ix)), (3, .int (nI far)), (4, .int (nI c)), (5, .int (nI k))], [.int (nI (far - 1)), .int (nI (E k))], (MH g kept was isKept tape fed pos tlen flt ranking paper written pairs above below isDone d2 rowv rowMany lsz itm weakAbove weakBelow))) rfl ?_
                            refine e_if (c := ¬ nI (E k) = nI (far - 1)) rfl (fun c_89 => ?_) (fun c_89 => ?_)
                            · skip
                              rw [nI_eq (by omega) (by omega)] at c_89
                              skip
                              refine e_steps 0 (σ' := (112, [(0, .ref 0), (1, .int (nI j)), (2, .int (nI ix)), (3, .int (nI far)), (4, .int (nI c)), (5, .int (nI k))], [], (MH g kept was isKept tape fed pos tlen flt ranking paper written pairs above below isDone d2 rowv rowMany lsz itm weakAbove weakBelow))) rfl ?_
                              refine e_inc (n := 1) rfl rfl rfl (k + 1) (by rfl) [(5, .int (nI (k + 1))), (0, .ref 0), (1, .int (nI j)), (2, .int (nI ix)), (3, .int (nI far)), (4, .int (nI c))] rfl ?_
                              refine e_steps 1 (σ' := (56, [(5, .int (nI (k + 1))), (0, .ref 0), (1, .int (nI j)), (2, .int (nI ix)), (3, .int (nI far)), (4, .int (nI c))], [], (MH g kept was isKept tape fed pos tlen flt ranking paper written pairs above below isDone d2 rowv rowMany lsz itm weakAbove weakBelow))) rfl ?_
                              refine e_sub [1, 2, 3, 4, 5, 0] rfl ?_
                              exact ih_56 (k + 1) d2 E (by omega) (by exact ⟨by omega, w2, w3, z_lf_d w4 p3 m4 (by omega) m1 (by omega) (Or.inl (by assumption))⟩)
                            · skip
                              rw [nI_eq (by omega) (by omega)] at c_89
                              replace c_89 := Decidable.not_not.mp c_89
                              refine e_steps 4 (σ' := (98, [(0, .ref 0), (1, .int (nI j)), (2, .int (nI ix)), (3, .int (nI far)), (4, .int (nI c)), (5, .int (nI k))], [.int (nI ix), .int (nI k), .int (nI c), .ref 0], (MH g kept was isKept tape fed pos tlen flt ranking paper written pairs above below isDone d2 rowv rowMany lsz itm weakAbove weakBelow))) rfl ?_
                              refine e_call (y := 190) (av := [.ref 0, .int (nI c), .int (nI k), .int (nI ix)]) (rest := []) rfl (c_X6_isOf (d + 0) (n := n) (outs := outs) (bm := bm) (ms := ms) (dr := dr) (cn := cn) (pl := pl) (F := F) (t := t) (by first | assumption | omega | rfl | trivial) (by first | assumption | omega | rfl | trivial) (by first | assumption | omega | rfl | trivial) (by first | assumption | omega | rfl | trivial) (by first | assumption | omega | rfl | trivial) (by first | assumption | omega | rfl | trivial) (by first | assumption | omega | rfl | trivial)) (fun r_98 h_98 p_98 => ?_)
                              obtain ⟨rfl, o_98⟩ := p_98
                              rcases o_98 with ⟨rfl, o_98⟩ | ⟨rfl, o_98⟩
                              · skip
                                refine e_steps 5 (σ' := (111, [(0, .ref 0), (1, .int (nI j)), (2, .int (nI ix)), (3, .int (nI far)), (4, .int (nI c)), (5, .int (nI k))], [.int (nI far), .int (nI c), .ref 11], (MH g kept was isKept tape fed pos tlen flt ranking paper written pairs above below isDone d2 rowv rowMany lsz itm weakAbove weakBelow))) rfl ?_
                                refine e_ias (MH g kept was isKept tape fed pos tlen flt ranking paper written pairs above below isDone (upd d2 c (nI far)) rowv rowMany lsz itm weakAbove weakBelow) rfl rfl (by first | assumption | omega | rfl | trivial) (by decide) rfl ?_
                                refine e_steps 0 (σ' := (112, [(0, .ref 0), (1, .int (nI j)), (2, .int (nI ix)), (3, .int (nI far)), (4, .int (nI c)), (5, .int (nI k))], [], (MH g kept was isKept tape fed pos tlen flt ranking paper written pairs above below isDone (upd d2 c (nI far)) rowv rowMany lsz itm weakAbove weakBelow))) rfl ?_
                                refine e_inc (n := 1) rfl rfl rfl (k + 1) (by rfl) [(5, .int (nI (k + 1))), (0, .ref 0), (1, .int (nI j)), (2, .int (nI ix)), (3, .int (nI far)), (4, .int (nI c))] rfl ?_
                                refine e_steps 1 (σ' := (56, [(5, .int (nI (k + 1))), (0, .ref 0), (1, .int (nI j)), (2, .int (nI ix)), (3, .int (nI far)), (4, .int (nI c))], [], (MH g kept was isKept tape fed pos tlen flt ranking paper written pairs above below isDone (upd d2 c (nI far)) rowv rowMany lsz itm weakAbove weakBelow))) rfl ?_
                                refine e_sub [1, 2, 3, 4, 5, 0] rfl ?_
                                exact ih_56 (k + 1) (upd d2 c (nI far)) ((fun x => if x = c then far else E x)) (by omega) (by first | exact ⟨by omega, z_updN w2, z_lf_8 w3 (by omega), Or.inr (z_lf_c w4 p3 m4 (by omega) m1 (by omega) (by omega) (by assumption) (by assumption) o_98)⟩ | exact ⟨by omega, w2, w3, z_lf_d w4 p3 m4 (by omega) m1 (by omega) (Or.inr o_98)⟩ | exact ⟨by omega, w2, w3, z_lf_d w4 p3 m4 (by omega) m1 (by omega) (Or.inl (by assumption))⟩)
                              · skip
                                refine e_steps 1 (σ' := (112, [(0, .ref 0), (1, .int (nI j)), (2, .int (nI ix)), (3, .int (nI far)), (4, .int (nI c)), (5, .int (nI k))], [], (MH g kept was isKept tape fed pos tlen flt ranking paper written pairs above below isDone d2 rowv rowMany lsz itm weakAbove weakBelow))) rfl ?_
                                refine e_inc (n := 1) rfl rfl rfl (k + 1) (by rfl) [(5, .int (nI (k + 1))), (0, .ref 0), (1, .int (nI j)), (2, .int (nI ix)), (3, .int (nI far)), (4, .int (nI c))] rfl ?_
                                refine e_steps 1 (σ' := (56, [(5, .int (nI (k + 1))), (0, .ref 0), (1, .int (nI j)), (2, .int (nI ix)), (3, .int (nI far)), (4, .int (nI c))], [], (MH g kept was isKept tape fed pos tlen flt ranking paper written pairs above below isDone d2 rowv rowMany lsz itm weakAbove weakBelow))) rfl ?_
                                refine e_sub [1, 2, 3, 4, 5, 0] rfl ?_
                                exact ih_56 (k + 1) d2 E (by omega) (by first | exact ⟨by omega, z_updN w2, z_lf_8 w3 (by omega), Or.inr (z_lf_c w4 p3 m4 (by omega) m1 (by omega) (by omega) (by assumption) (by assumption) o_98)⟩ | exact ⟨by omega, w2, w3, z_lf_d w4 p3 m4 (by omega) m1 (by omega) (Or.inr o_98)⟩ | exact ⟨by omega, w2, w3, z_lf_d w4 p3 m4 (by omega) m1 (by omega) (Or.inl (by assumption))⟩)
                    refine e_sub [1, 2, 3, 4, 5, 0] rfl ?_
                    exact loop_56 _ 0 d1 D (Nat.lt_succ_self _) (by exact ⟨by omega, hD, hD8, Or.inl ⟨rfl, fun _ x hx => absurd hx (Nat.not_lt_zero x)⟩⟩)
              refine e_sub [1, 2, 3, 4, 0] rfl ?_
              exact loop_42 _ 0 d0 D0 (Nat.lt_succ_self _) (by exact ⟨by omega, m3, z_DSm_0, m5⟩)
        refine e_sub [1, 2, 3, 0] rfl ?_
        exact loop_33 _ 1 dl ((fun c => if c = j then 0 else 8)) (Nat.lt_succ_self _) (by exact ⟨by omega, by omega, fun c hc => l2 c (by omega), z_DSf_0 (fun _ _ => rfl), fun c _ => by (show (if c = j then 0 else 8) ≤ 8); split <;> omega⟩)
      · skip
        rw [nI_leI (by omega) (by omega)] at c_5
        refine e_steps 5 (σ' := (15, [(0, .ref 0), (1, .int (nI j)), (2, .int (nI ix)), (3, .int (nI c0))], [.int (nI j), .int (nI c0), .int (nI c0), .ref 11], (MH g kept was isKept tape fed pos tlen flt ranking paper written pairs above below isDone dl rowv rowMany lsz itm weakAbove weakBelow))) rfl ?_
        refine e_if (c := ¬ nI c0 = nI j) rfl (fun c_15 => ?_) (fun c_15 => ?_)
        · skip
          rw [nI_eq (by omega) (by omega)] at c_15
          skip
          refine e_steps 1 (σ' := (24, [(0, .ref 0), (1, .int (nI j)), (2, .int (nI ix)), (3, .int (nI c0))], [.int (nI 8), .int (nI c0), .ref 11], (MH g kept was isKept tape fed pos tlen flt ranking paper written pairs above below isDone dl rowv rowMany lsz itm weakAbove weakBelow))) rfl ?_
          refine e_ias (MH g kept was isKept tape fed pos tlen flt ranking paper written pairs above below isDone (upd dl c0 (nI 8)) rowv rowMany lsz itm weakAbove weakBelow) rfl rfl (by first | assumption | omega | rfl | trivial) (by decide) rfl ?_
          refine e_steps 0 (σ' := (25, [(0, .ref 0), (1, .int (nI j)), (2, .int (nI ix)), (3, .int (nI c0))], [], (MH g kept was isKept tape fed pos tlen flt ranking paper written pairs above below isDone (upd dl c0 (nI 8)) rowv rowMany lsz itm weakAbove weakBelow))) rfl ?_
          refine e_inc (n := 1) rfl rfl rfl (c0 + 1) (by rfl) [(3, .int (nI (c0 + 1))), (0, .ref 0), (1, .int (nI j)), (2, .int (nI ix))] rfl ?_
          refine e_steps 1 (σ' := (2, [(3, .int (nI (c0 + 1))), (0, .ref 0), (1, .int (nI j)), (2, .int (nI ix))], [], (MH g kept was isKept tape fed pos tlen flt ranking paper written pairs above below isDone (upd dl c0 (nI 8)) rowv rowMany lsz itm weakAbove weakBelow))) rfl ?_
          refine e_sub [1, 2, 3, 0] rfl ?_
          exact ih_2 (c0 + 1) (upd dl c0 (nI 8)) (by omega) (by exact ⟨by omega, fun c hc => by unfold upd; by_cases e : c = c0; (rw [if_pos e, e]; first | rw [if_pos (by assumption)] | rw [if_neg (by assumption)]); (rw [if_neg e]; exact l2 c (by omega))⟩)
        · skip
          rw [nI_eq (by omega) (by omega)] at c_15
          replace c_15 := Decidable.not_not.mp c_15
          refine e_steps 2 (σ' := (24, [(0, .ref 0), (1, .int (nI j)), (2, .int (nI ix)), (3, .int (nI c0))], [.int (nI 0), .int (nI c0), .ref 11], (MH g kept was isKept tape fed pos tlen flt ranking paper written pairs above below isDone dl rowv rowMany lsz itm weakAbove weakBelow))) rfl ?_
          refine e_ias (MH g kept was isKept tape fed pos tlen flt ranking paper written pairs above below isDone (upd dl c0 (nI 0)) rowv rowMany lsz itm weakAbove weakBelow) rfl rfl (by first | assumption | omega | rfl | trivial) (by decide) rfl ?_
          refine e_steps 0 (σ' := (25, [(0, .ref 0), (1, .int (nI j)), (2, .int (nI ix)), (3, .int (nI c0))], [], (MH g kept was isKept tape fed pos tlen flt ranking paper written pairs above below isDone (upd dl c0 (nI 0)) rowv rowMany lsz itm weakAbove weakBelow))) rfl ?_
          refine e_inc (n := 1) rfl rfl rfl (c0 + 1) (by rfl) [(3, .int (nI (c0 + 1))), (0, .ref 0), (1, .int (nI j)), (2, .int (nI ix))] rfl ?_
          refine e_steps 1 (σ' := (2, [(3, .int (nI (c0 + 1))), (0, .ref 0), (1, .int (nI j)), (2, .int (nI ix))], [], (MH g kept was isKept tape fed pos tlen flt ranking paper written pairs above below isDone (upd dl c0 (nI 0)) rowv rowMany lsz itm weakAbove weakBelow))) rfl ?_
          refine e_sub [1, 2, 3, 0] rfl ?_
          exact ih_2 (c0 + 1) (upd dl c0 (nI 0)) (by omega) (by exact ⟨by omega, fun c hc => by unfold upd; by_cases e : c = c0; (rw [if_pos e, e]; first | rw [if_pos (by assumption)] | rw [if_neg (by assumption)]); (rw [if_neg e]; exact l2 c (by omega))⟩)
  refine e_sub [1, 2, 3, 0] rfl ?_
  exact loop_2 _ 0 dist (Nat.lt_succ_self _) (by exact ⟨by omega, fun c hc => absurd hc (Nat.not_lt_zero c)⟩)
