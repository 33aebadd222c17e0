/-! the reference: in thought -/
theorem z_sf_0 {n ins c what b : Nat} {cn : Nat → Nat} {pl : Nat → Nat → Nat} (h : what = 0) : z_sf n ins cn pl c what b = cn b * z_bh n ins (pl b) c := by
  unfold z_sf
  rw [if_pos h]
theorem z_sf_1 {n ins c what b : Nat} {cn : Nat → Nat} {pl : Nat → Nat → Nat} (h : ¬ what = 0) (h2 : z_bh n ins (pl b) c = z_pc ins - 1) : z_sf n ins cn pl c what b = cn b := by
  unfold z_sf
  rw [if_neg h, if_pos h2]
theorem z_sf_2 {n ins c what b : Nat} {cn : Nat → Nat} {pl : Nat → Nat → Nat} (h : ¬ what = 0) (h2 : ¬ z_bh n ins (pl b) c = z_pc ins - 1) : z_sf n ins cn pl c what b = 0 := by
  unfold z_sf
  rw [if_neg h, if_neg h2]
theorem c_X6_sum (d : Nat) {g : Nat → Int32} {kept : Nat → Int32} {was : Nat → Int32} {isKept : Int32} {tape : Nat → Int32} {fed : Int32} {pos : Int32} {tlen : Int32} {flt : Int32} {ranking : Nat → Int32} {paper : Nat → Int32} {written : Int32} {pairs : Nat → Int64} {above : Nat → Int64} {below : Nat → Int64} {isDone : Nat → Int32} {dist : Nat → Int32} {rowv : Nat → Int32} {rowMany : Int32} {lsz : Nat → Int32} {itm : Nat → Int64} {weakAbove : Int64} {weakBelow : Int64} {c : Int32} {what : Int32} {n : Nat} {outs : Nat} {bm : Nat} {ms : Nat} {dr : Nat → Nat} {cn : Nat → Nat} {pl : Nat → Nat → Nat} (hG : z_GI g n outs bm ms dr cn pl) : z_CAL (d + 4) 209 [.ref 0, .int c, .int what] (MH g kept was isKept tape fed pos tlen flt ranking paper written pairs above below isDone dist rowv rowMany lsz itm weakAbove weakBelow) (fun r h2 => ∃ (v : Int64), r = some (.long v) ∧ h2 = (MH g kept was isKept tape fed pos tlen flt ranking paper written pairs above below isDone dist rowv rowMany lsz itm weakAbove weakBelow) ∧ ((v = -lN 9223372036854775808 ∧ ¬ ∃ a p, a < n ∧ c = nI a ∧ p < 2 ∧ what = nI p ∧ (z_dif (2 ^ n - 1) outs).testBit a = true) ∨ ∃ a p, a < n ∧ c = nI a ∧ p < 2 ∧ what = nI p ∧ (z_dif (2 ^ n - 1) outs).testBit a = true ∧ v = lN (z_sum bm (z_sf n (z_dif (2 ^ n - 1) outs) cn pl a p)))) := by
  refine e_of2 (q := zmX6_sum) rfl rfl (fun R hR => ?_)
  obtain ⟨⟨hn0, hn2, hn8⟩, ⟨ho0, ho8, hin⟩, ⟨hb0, hb40⟩, ⟨hm0, hm4⟩, ⟨hdr, hdl, hdc⟩, hcn, hpl⟩ := id hG; have hp8 := z_p2 hn8; have ho256 : outs < 256 := (by omega); have hi256 : z_dif (2 ^ n - 1) outs < 256 := (by have := z_dif_le (s := 2 ^ n - 1) (t := outs); omega)
  refine e_steps 2 (σ' := (2, [(0, .ref 0), (1, .int c), (2, .int what)], [.int c, .ref 0], (MH g kept was isKept tape fed pos tlen flt ranking paper written pairs above below isDone dist rowv rowMany lsz itm weakAbove weakBelow))) rfl ?_
  refine e_call (y := 135) (av := [.ref 0, .int c]) (rest := []) rfl (c_X6_isOne (d + 1) (n := n) (outs := outs) (bm := bm) (ms := ms) (dr := dr) (cn := cn) (pl := pl) (by first | assumption | omega | rfl | trivial)) (fun r_2 h_2 p_2 => ?_)
  obtain ⟨rfl, o_2⟩ := p_2
  rcases o_2 with ⟨rfl, o_2⟩ | ⟨rfl, o_2⟩
  · skip
    obtain ⟨k_2, hk_2, ek_2⟩ := o_2
    subst ek_2
    refine e_steps 5 (σ' := (12, [(0, .ref 0), (1, .int (nI k_2)), (2, .int what)], [.long (lN 1), .long (lN 0), .long what.toInt64], (MH g kept was isKept tape fed pos tlen flt ranking paper written pairs above below isDone dist rowv rowMany lsz itm weakAbove weakBelow))) rfl ?_
    refine e_call (y := 129) (av := [.long what.toInt64, .long (lN 0), .long (lN 1)]) (rest := []) rfl (c_X6_isIn (d + 2) ) (fun r_12 h_12 p_12 => ?_)
    obtain ⟨rfl, o_12⟩ := p_12
    rcases o_12 with ⟨rfl, o_12⟩ | ⟨rfl, o_12⟩
    · skip
      obtain ⟨kw, hkw, ek⟩ := z_in_nat (by omega) o_12; subst ek
      refine e_steps 2 (σ' := (19, [(0, .ref 0), (1, .int (nI k_2)), (2, .int (nI kw))], [.ref 0], (MH g kept was isKept tape fed pos tlen flt ranking paper written pairs above below isDone dist rowv rowMany lsz itm weakAbove weakBelow))) rfl ?_
      refine e_call (y := 134) (av := [.ref 0]) (rest := []) rfl (c_X6_ins (d + 1) (n := n) (outs := outs) (bm := bm) (ms := ms) (dr := dr) (cn := cn) (pl := pl) (by first | assumption | omega | rfl | trivial)) (fun r_19 h_19 p_19 => ?_)
      obtain ⟨rfl, rfl⟩ := p_19
      refine e_steps 1 (σ' := (23, [(0, .ref 0), (1, .int (nI k_2)), (2, .int (nI kw))], [.int (nI k_2), .int (nI (z_dif (2 ^ n - 1) outs))], (MH g kept was isKept tape fed pos tlen flt ranking paper written pairs above below isDone dist rowv rowMany lsz itm weakAbove weakBelow))) rfl ?_
      refine e_call (y := 131) (av := [.int (nI (z_dif (2 ^ n - 1) outs)), .int (nI k_2)]) (rest := []) rfl (c_X6_has (d + 2) (by first | assumption | omega | rfl | trivial) (by first | assumption | omega | rfl | trivial)) (fun r_23 h_23 p_23 => ?_)
      obtain ⟨rfl, o_23⟩ := p_23
      rcases o_23 with ⟨rfl, o_23⟩ | ⟨rfl, o_23⟩
      · skip
        refine e_steps 5 (σ' := (38, [(5, .int (nI 0)), (3, .long (lN 0)), (0, .ref 0), (1, .int (nI k_2)), (2, .int (nI kw))], [], (MH g kept was isKept tape fed pos tlen flt ranking paper written pairs above below isDone dist rowv rowMany lsz itm weakAbove weakBelow))) rfl ?_
        have loop_38 : ∀ (z_38 : Nat) (v : Nat) (b : Nat), bm - b < z_38 → (b ≤ bm ∧ v = z_sum b (z_sf n (z_dif (2 ^ n - 1) outs) cn pl k_2 kw)) → z_EV (d + 3) zmX6_sum R (38, [(0, .ref 0), (1, .int (nI k_2)), (2, .int (nI kw)), (3, .long (lN v)), (5, .int (nI b))], [], (MH g kept was isKept tape fed pos tlen flt ranking paper written pairs above below isDone dist rowv rowMany lsz itm weakAbove weakBelow)) := by
          intro z_38
          induction z_38 with
          | zero => intro v b hm_38 _; exact absurd hm_38 (Nat.not_lt_zero _)
          | succ z_38 ih_38 =>
            intro v b hm_38 hi_38
            obtain ⟨l1, l2⟩ := hi_38
            refine e_steps 4 (σ' := (45, [(0, .ref 0), (1, .int (nI k_2)), (2, .int (nI kw)), (3, .long (lN v)), (5, .int (nI b))], [.int (nI 2), .ref 1, .int (nI b)], (MH g kept was isKept tape fed pos tlen flt ranking paper written pairs above below isDone dist rowv rowMany lsz itm weakAbove weakBelow))) rfl ?_
            refine e_ial (nI bm) rfl rfl (by first | assumption | omega | rfl | trivial) (by decide) (hb0) ?_
            refine e_steps 0 (σ' := (46, [(0, .ref 0), (1, .int (nI k_2)), (2, .int (nI kw)), (3, .long (lN v)), (5, .int (nI b))], [.int (nI bm), .int (nI b)], (MH g kept was isKept tape fed pos tlen flt ranking paper written pairs above below isDone dist rowv rowMany lsz itm weakAbove weakBelow))) rfl ?_
            refine e_if (c := nI bm ≤ nI b) rfl (fun c_46 => ?_) (fun c_46 => ?_)
            · skip
              rw [nI_leI (by omega) (by omega)] at c_46
              refine e_steps 1 (σ' := (118, [(0, .ref 0), (1, .int (nI k_2)), (2, .int (nI kw)), (3, .long (lN v)), (5, .int (nI b))], [.long (lN v)], (MH g kept was isKept tape fed pos tlen flt ranking paper written pairs above below isDone dist rowv rowMany lsz itm weakAbove weakBelow))) rfl ?_
              exact e_ret rfl (trivial) (hR _ _ ⟨(lN v), rfl, rfl, (by first | exact Or.inl ⟨rfl, fun ⟨a, p, h1, h2, h3, h4, h5⟩ => o_2 ⟨a, h1, h2⟩⟩ | exact Or.inl ⟨rfl, fun ⟨a, p, h1, h2, h3, h4, h5⟩ => o_12 (by rw [h4]; exact z_nat_in (by omega) (by omega))⟩ | exact Or.inl ⟨rfl, fun ⟨a, p, h1, h2, h3, h4, h5⟩ => by rw [nI_eq (by omega) (by omega)] at h2; rw [← h2, o_23] at h5; cases h5⟩ | exact Or.inr ⟨_, kw, hk_2, rfl, by omega, rfl, o_23, by rw [l2, show b = bm by omega]⟩)⟩)
            · skip
              rw [nI_leI (by omega) (by omega)] at c_46
              refine e_steps 3 (σ' := (53, [(0, .ref 0), (1, .int (nI k_2)), (2, .int (nI kw)), (3, .long (lN v)), (5, .int (nI b))], [.int (nI k_2), .int (nI b), .ref 0], (MH g kept was isKept tape fed pos tlen flt ranking paper written pairs above below isDone dist rowv rowMany lsz itm weakAbove weakBelow))) rfl ?_
              refine e_call (y := 208) (av := [.ref 0, .int (nI b), .int (nI k_2)]) (rest := []) rfl (c_X6_behindIt (d + 0) (n := n) (outs := outs) (bm := bm) (ms := ms) (dr := dr) (cn := cn) (pl := pl) (by first | assumption | omega | rfl | trivial) (by first | assumption | omega | rfl | trivial) (by first | assumption | omega | rfl | trivial)) (fun r_53 h_53 p_53 => ?_)
              obtain ⟨rfl, rfl⟩ := p_53
              refine e_steps 1 (σ' := (58, [(6, .int (nI (z_bh n (z_dif (2 ^ n - 1) outs) (pl b) k_2))), (0, .ref 0), (1, .int (nI k_2)), (2, .int (nI kw)), (3, .long (lN v)), (5, .int (nI b))], [], (MH g kept was isKept tape fed pos tlen flt ranking paper written pairs above below isDone dist rowv rowMany lsz itm weakAbove weakBelow))) rfl ?_
              have hbh : z_bh n (z_dif (2 ^ n - 1) outs) (pl b) k_2 ≤ 8 := (by have h9 := z_ct_le (fun k => (z_dif (2 ^ n - 1) outs).testBit k && decide (pl b k_2 < pl b k)) n; exact Nat.le_trans h9 hn8)
              refine e_steps 1 (σ' := (59, [(6, .int (nI (z_bh n (z_dif (2 ^ n - 1) outs) (pl b) k_2))), (0, .ref 0), (1, .int (nI k_2)), (2, .int (nI kw)), (3, .long (lN v)), (5, .int (nI b))], [.int (nI kw)], (MH g kept was isKept tape fed pos tlen flt ranking paper written pairs above below isDone dist rowv rowMany lsz itm weakAbove weakBelow))) rfl ?_
              refine e_if (c := ¬ nI kw = 0) rfl (fun c_59 => ?_) (fun c_59 => ?_)
              · skip
                rw [z0_ne (by omega)] at c_59
                skip
                refine e_steps 2 (σ' := (86, [(6, .int (nI (z_bh n (z_dif (2 ^ n - 1) outs) (pl b) k_2))), (0, .ref 0), (1, .int (nI k_2)), (2, .int (nI kw)), (3, .long (lN v)), (5, .int (nI b))], [.ref 0, .int (nI (z_bh n (z_dif (2 ^ n - 1) outs) (pl b) k_2))], (MH g kept was isKept tape fed pos tlen flt ranking paper written pairs above below isDone dist rowv rowMany lsz itm weakAbove weakBelow))) rfl ?_
                refine e_call (y := 134) (av := [.ref 0]) (rest := [.int (nI (z_bh n (z_dif (2 ^ n - 1) outs) (pl b) k_2))]) rfl (c_X6_ins (d + 1) (n := n) (outs := outs) (bm := bm) (ms := ms) (dr := dr) (cn := cn) (pl := pl) (by first | assumption | omega | rfl | trivial)) (fun r_86 h_86 p_86 => ?_)
                obtain ⟨rfl, rfl⟩ := p_86
                refine e_steps 0 (σ' := (89, [(6, .int (nI (z_bh n (z_dif (2 ^ n - 1) outs) (pl b) k_2))), (0, .ref 0), (1, .int (nI k_2)), (2, .int (nI kw)), (3, .long (lN v)), (5, .int (nI b))], [.int (nI (z_dif (2 ^ n - 1) outs)), .int (nI (z_bh n (z_dif (2 ^ n - 1) outs) (pl b) k_2))], (MH g kept was isKept tape fed pos tlen flt ranking paper written pairs above below isDone dist rowv rowMany lsz itm weakAbove weakBelow))) rfl ?_
                refine e_call (y := 132) (av := [.int (nI (z_dif (2 ^ n - 1) outs))]) (rest := [.int (nI (z_bh n (z_dif (2 ^ n - 1) outs) (pl b) k_2))]) rfl (c_X6_bits (d + 2) (by first | assumption | omega | rfl | trivial)) (fun r_89 h_89 p_89 => ?_)
                obtain ⟨rfl, rfl⟩ := p_89
                refine e_steps 1 (σ' := (93, [(6, .int (nI (z_bh n (z_dif (2 ^ n - 1) outs) (pl b) k_2))), (0, .ref 0), (1, .int (nI k_2)), (2, .int (nI kw)), (3, .long (lN v)), (5, .int (nI b))], [.int (nI 1), .int (nI (z_pc (z_dif (2 ^ n - 1) outs))), .int (nI (z_bh n (z_dif (2 ^ n - 1) outs) (pl b) k_2))], (MH g kept was isKept tape fed pos tlen flt ranking paper written pairs above below isDone dist rowv rowMany lsz itm weakAbove weakBelow))) rfl ?_
                refine e_sbt ((z_pc (z_dif (2 ^ n - 1) outs)) - 1) rfl (by exact z_pc_pos (by omega) hin) (by first | rfl | omega) ?_
                refine e_steps 0 (σ' := (94, [(6, .int (nI (z_bh n (z_dif (2 ^ n - 1) outs) (pl b) k_2))), (0, .ref 0), (1, .int (nI k_2)), (2, .int (nI kw)), (3, .long (lN v)), (5, .int (nI b))], [.int (nI ((z_pc (z_dif (2 ^ n - 1) outs)) - 1)), .int (nI (z_bh n (z_dif (2 ^ n - 1) outs) (pl b) k_2))], (MH g kept was isKept tape fed pos tlen flt ranking paper written pairs above below isDone dist rowv rowMany lsz itm weakAbove weakBelow))) rfl ?_
                refine e_if (c := ¬ nI (z_bh n (z_dif (2 ^ n - 1) outs) (pl b) k_2) = nI ((z_pc (z_dif (2 ^ n - 1) outs)) - 1)) rfl (fun c_94 => ?_) (fun c_94 => ?_)
                · skip
                  rw [nI_eq (by have := z_pc_le (z_dif (2 ^ n - 1) outs); omega) (by have := z_pc_le (z_dif (2 ^ n - 1) outs); omega)] at c_94
                  skip
                  refine e_steps 0 (σ' := (111, [(6, .int (nI (z_bh n (z_dif (2 ^ n - 1) outs) (pl b) k_2))), (0, .ref 0), (1, .int (nI k_2)), (2, .int (nI kw)), (3, .long (lN v)), (5, .int (nI b))], [], (MH g kept was isKept tape fed pos tlen flt ranking paper written pairs above below isDone dist rowv rowMany lsz itm weakAbove weakBelow))) rfl ?_
                  refine e_inc (n := 1) rfl rfl rfl (b + 1) (by rfl) [(5, .int (nI (b + 1))), (6, .int (nI (z_bh n (z_dif (2 ^ n - 1) outs) (pl b) k_2))), (0, .ref 0), (1, .int (nI k_2)), (2, .int (nI kw)), (3, .long (lN v))] rfl ?_
                  refine e_steps 1 (σ' := (38, [(5, .int (nI (b + 1))), (6, .int (nI (z_bh n (z_dif (2 ^ n - 1) outs) (pl b) k_2))), (0, .ref 0), (1, .int (nI k_2)), (2, .int (nI kw)), (3, .long (lN v))], [], (MH g kept was isKept tape fed pos tlen flt ranking paper written pairs above below isDone dist rowv rowMany lsz itm weakAbove weakBelow))) rfl ?_
                  refine e_sub [2, 3, 4, 5, 0] rfl ?_
                  exact ih_38 v (b + 1) (by omega) (by first | exact ⟨by omega, by rw [l2]; show _ = z_sum b _ + z_sf _ _ _ _ _ _ b; rw [z_sf_0 (by assumption)]⟩ | exact ⟨by omega, by rw [l2]; show _ = z_sum b _ + z_sf _ _ _ _ _ _ b; rw [z_sf_1 (by assumption) (by assumption)]⟩ | exact ⟨by omega, by rw [l2]; show _ = z_sum b _ + z_sf _ _ _ _ _ _ b; rw [z_sf_2 (by assumption) (by assumption)]; rfl⟩)
                · skip
                  rw [nI_eq (by have := z_pc_le (z_dif (2 ^ n - 1) outs); omega) (by have := z_pc_le (z_dif (2 ^ n - 1) outs); omega)] at c_94
                  replace c_94 := Decidable.not_not.mp c_94
                  refine e_steps 5 (σ' := (106, [(6, .int (nI (z_bh n (z_dif (2 ^ n - 1) outs) (pl b) k_2))), (0, .ref 0), (1, .int (nI k_2)), (2, .int (nI kw)), (3, .long (lN v)), (5, .int (nI b))], [.int (nI b), .int (nI 12), .ref 1, .long (lN v)], (MH g kept was isKept tape fed pos tlen flt ranking paper written pairs above below isDone dist rowv rowMany lsz itm weakAbove weakBelow))) rfl ?_
                  refine e_add (12 + b) rfl (by first | rfl | omega) ?_
                  refine e_steps 0 (σ' := (107, [(6, .int (nI (z_bh n (z_dif (2 ^ n - 1) outs) (pl b) k_2))), (0, .ref 0), (1, .int (nI k_2)), (2, .int (nI kw)), (3, .long (lN v)), (5, .int (nI b))], [.int (nI (12 + b)), .ref 1, .long (lN v)], (MH g kept was isKept tape fed pos tlen flt ranking paper written pairs above below isDone dist rowv rowMany lsz itm weakAbove weakBelow))) rfl ?_
                  refine e_ial (nI (cn b)) rfl rfl (by first | assumption | omega | rfl | trivial) (by decide) ((hcn _ (by omega)).1) ?_
                  have hv_107 := (hcn b (by omega)).2
                  refine e_steps 0 (σ' := (108, [(6, .int (nI (z_bh n (z_dif (2 ^ n - 1) outs) (pl b) k_2))), (0, .ref 0), (1, .int (nI k_2)), (2, .int (nI kw)), (3, .long (lN v)), (5, .int (nI b))], [.int (nI (cn b)), .long (lN v)], (MH g kept was isKept tape fed pos tlen flt ranking paper written pairs above below isDone dist rowv rowMany lsz itm weakAbove weakBelow))) rfl ?_
                  refine e_i2l rfl (by have := (hcn b (by omega)).2; omega) ?_
                  refine e_steps 1 (σ' := (110, [(6, .int (nI (z_bh n (z_dif (2 ^ n - 1) outs) (pl b) k_2))), (0, .ref 0), (1, .int (nI k_2)), (2, .int (nI kw)), (3, .long (lN v)), (5, .int (nI b))], [.long (((lN v) + (lN (cn b))))], (MH g kept was isKept tape fed pos tlen flt ranking paper written pairs above below isDone dist rowv rowMany lsz itm weakAbove weakBelow))) rfl ?_
                  have er_109 : ((lN v) + (lN (cn b))) = lN (v + cn b) := lN_add _ _
                  rw [er_109]
                  refine e_steps 1 (σ' := (111, [(3, .long (lN (v + cn b))), (6, .int (nI (z_bh n (z_dif (2 ^ n - 1) outs) (pl b) k_2))), (0, .ref 0), (1, .int (nI k_2)), (2, .int (nI kw)), (5, .int (nI b))], [], (MH g kept was isKept tape fed pos tlen flt ranking paper written pairs above below isDone dist rowv rowMany lsz itm weakAbove weakBelow))) rfl ?_
                  refine e_inc (n := 1) rfl rfl rfl (b + 1) (by rfl) [(5, .int (nI (b + 1))), (3, .long (lN (v + cn b))), (6, .int (nI (z_bh n (z_dif (2 ^ n - 1) outs) (pl b) k_2))), (0, .ref 0), (1, .int (nI k_2)), (2, .int (nI kw))] rfl ?_
                  refine e_steps 1 (σ' := (38, [(5, .int (nI (b + 1))), (3, .long (lN (v + cn b))), (6, .int (nI (z_bh n (z_dif (2 ^ n - 1) outs) (pl b) k_2))), (0, .ref 0), (1, .int (nI k_2)), (2, .int (nI kw))], [], (MH g kept was isKept tape fed pos tlen flt ranking paper written pairs above below isDone dist rowv rowMany lsz itm weakAbove weakBelow))) rfl ?_
                  refine e_sub [3, 4, 5, 1, 0] rfl ?_
                  exact ih_38 (v + cn b) (b + 1) (by omega) (by first | exact ⟨by omega, by rw [l2]; show _ = z_sum b _ + z_sf _ _ _ _ _ _ b; rw [z_sf_0 (by assumption)]⟩ | exact ⟨by omega, by rw [l2]; show _ = z_sum b _ + z_sf _ _ _ _ _ _ b; rw [z_sf_1 (by assumption) (by assumption)]⟩ | exact ⟨by omega, by rw [l2]; show _ = z_sum b _ + z_sf _ _ _ _ _ _ b; rw [z_sf_2 (by assumption) (by assumption)]; rfl⟩)
              · skip
                rw [z0_ne (by omega)] at c_59
                replace c_59 := Decidable.not_not.mp c_59
                refine e_steps 5 (σ' := (71, [(6, .int (nI (z_bh n (z_dif (2 ^ n - 1) outs) (pl b) k_2))), (0, .ref 0), (1, .int (nI k_2)), (2, .int (nI kw)), (3, .long (lN v)), (5, .int (nI b))], [.int (nI b), .int (nI 12), .ref 1, .long (lN v)], (MH g kept was isKept tape fed pos tlen flt ranking paper written pairs above below isDone dist rowv rowMany lsz itm weakAbove weakBelow))) rfl ?_
                refine e_add (12 + b) rfl (by first | rfl | omega) ?_
                refine e_steps 0 (σ' := (72, [(6, .int (nI (z_bh n (z_dif (2 ^ n - 1) outs) (pl b) k_2))), (0, .ref 0), (1, .int (nI k_2)), (2, .int (nI kw)), (3, .long (lN v)), (5, .int (nI b))], [.int (nI (12 + b)), .ref 1, .long (lN v)], (MH g kept was isKept tape fed pos tlen flt ranking paper written pairs above below isDone dist rowv rowMany lsz itm weakAbove weakBelow))) rfl ?_
                refine e_ial (nI (cn b)) rfl rfl (by first | assumption | omega | rfl | trivial) (by decide) ((hcn _ (by omega)).1) ?_
                have hv_72 := (hcn b (by omega)).2
                refine e_steps 0 (σ' := (73, [(6, .int (nI (z_bh n (z_dif (2 ^ n - 1) outs) (pl b) k_2))), (0, .ref 0), (1, .int (nI k_2)), (2, .int (nI kw)), (3, .long (lN v)), (5, .int (nI b))], [.int (nI (cn b)), .long (lN v)], (MH g kept was isKept tape fed pos tlen flt ranking paper written pairs above below isDone dist rowv rowMany lsz itm weakAbove weakBelow))) rfl ?_
                refine e_i2l rfl (by have := (hcn b (by omega)).2; omega) ?_
                refine e_steps 1 (σ' := (76, [(6, .int (nI (z_bh n (z_dif (2 ^ n - 1) outs) (pl b) k_2))), (0, .ref 0), (1, .int (nI k_2)), (2, .int (nI kw)), (3, .long (lN v)), (5, .int (nI b))], [.int (nI (z_bh n (z_dif (2 ^ n - 1) outs) (pl b) k_2)), .long (lN (cn b)), .long (lN v)], (MH g kept was isKept tape fed pos tlen flt ranking paper written pairs above below isDone dist rowv rowMany lsz itm weakAbove weakBelow))) rfl ?_
                refine e_i2l rfl (by omega) ?_
                refine e_steps 1 (σ' := (78, [(6, .int (nI (z_bh n (z_dif (2 ^ n - 1) outs) (pl b) k_2))), (0, .ref 0), (1, .int (nI k_2)), (2, .int (nI kw)), (3, .long (lN v)), (5, .int (nI b))], [.long (((lN (cn b)) * (lN (z_bh n (z_dif (2 ^ n - 1) outs) (pl b) k_2)))), .long (lN v)], (MH g kept was isKept tape fed pos tlen flt ranking paper written pairs above below isDone dist rowv rowMany lsz itm weakAbove weakBelow))) rfl ?_
                have er_77 : ((lN (cn b)) * (lN (z_bh n (z_dif (2 ^ n - 1) outs) (pl b) k_2))) = lN (cn b * z_bh n (z_dif (2 ^ n - 1) outs) (pl b) k_2) := z_lmul _ _
                rw [er_77]
                refine e_steps 1 (σ' := (79, [(6, .int (nI (z_bh n (z_dif (2 ^ n - 1) outs) (pl b) k_2))), (0, .ref 0), (1, .int (nI k_2)), (2, .int (nI kw)), (3, .long (lN v)), (5, .int (nI b))], [.long (((lN v) + (lN (cn b * z_bh n (z_dif (2 ^ n - 1) outs) (pl b) k_2))))], (MH g kept was isKept tape fed pos tlen flt ranking paper written pairs above below isDone dist rowv rowMany lsz itm weakAbove weakBelow))) rfl ?_
                have er_78 : ((lN v) + (lN (cn b * z_bh n (z_dif (2 ^ n - 1) outs) (pl b) k_2))) = lN (v + cn b * z_bh n (z_dif (2 ^ n - 1) outs) (pl b) k_2) := lN_add _ _
                rw [er_78]
                refine e_steps 2 (σ' := (111, [(3, .long (lN (v + cn b * z_bh n (z_dif (2 ^ n - 1) outs) (pl b) k_2))), (6, .int (nI (z_bh n (z_dif (2 ^ n - 1) outs) (pl b) k_2))), (0, .ref 0), (1, .int (nI k_2)), (2, .int (nI kw)), (5, .int (nI b))], [], (MH g kept was isKept tape fed pos tlen flt ranking paper written pairs above below isDone dist rowv rowMany lsz itm weakAbove weakBelow))) rfl ?_
                refine e_inc (n := 1) rfl rfl rfl (b + 1) (by rfl) [(5, .int (nI (b + 1))), (3, .long (lN (v + cn b * z_bh n (z_dif (2 ^ n - 1) outs) (pl b) k_2))), (6, .int (nI (z_bh n (z_dif (2 ^ n - 1) outs) (pl b) k_2))), (0, .ref 0), (1, .int (nI k_2)), (2, .int (nI kw))] rfl ?_
                refine e_steps 1 (σ' := (38, [(5, .int (nI (b + 1))), (3, .long (lN (v + cn b * z_bh n (z_dif (2 ^ n - 1) outs) (pl b) k_2))), (6, .int (nI (z_bh n (z_dif (2 ^ n - 1) outs) (pl b) k_2))), (0, .ref 0), (1, .int (nI k_2)), (2, .int (nI kw))], [], (MH g kept was isKept tape fed pos tlen flt ranking paper written pairs above below isDone dist rowv rowMany lsz itm weakAbove weakBelow))) rfl ?_
                refine e_sub [3, 4, 5, 1, 0] rfl ?_
                exact ih_38 (v + cn b * z_bh n (z_dif (2 ^ n - 1) outs) (pl b) k_2) (b + 1) (by omega) (by first | exact ⟨by omega, by rw [l2]; show _ = z_sum b _ + z_sf _ _ _ _ _ _ b; rw [z_sf_0 (by assumption)]⟩ | exact ⟨by omega, by rw [l2]; show _ = z_sum b _ + z_sf _ _ _ _ _ _ b; rw [z_sf_1 (by assumption) (by assumption)]⟩ | exact ⟨by omega, by rw [l2]; show _ = z_sum b _ + z_sf _ _ _ _ _ _ b; rw [z_sf_2 (by assumption) (by assumption)]; rfl⟩)
        refine e_sub [2, 3, 4, 1, 0] rfl ?_
        exact loop_38 _ 0 0 (Nat.lt_succ_self _) (by exact ⟨by omega, rfl⟩)
      · skip
        refine e_steps 2 (σ' := (32, [(0, .ref 0), (1, .int (nI k_2)), (2, .int (nI kw))], [.long ((-lN 9223372036854775808))], (MH g kept was isKept tape fed pos tlen flt ranking paper written pairs above below isDone dist rowv rowMany lsz itm weakAbove weakBelow))) rfl ?_
        exact e_ret rfl (trivial) (hR _ _ ⟨((-lN 9223372036854775808)), rfl, rfl, (by first | exact Or.inl ⟨rfl, fun ⟨a, p, h1, h2, h3, h4, h5⟩ => o_2 ⟨a, h1, h2⟩⟩ | exact Or.inl ⟨rfl, fun ⟨a, p, h1, h2, h3, h4, h5⟩ => o_12 (by rw [h4]; exact z_nat_in (by omega) (by omega))⟩ | exact Or.inl ⟨rfl, fun ⟨a, p, h1, h2, h3, h4, h5⟩ => by rw [nI_eq (by omega) (by omega)] at h2; rw [← h2, o_23] at h5; cases h5⟩ | exact Or.inr ⟨_, kw, hk_2, rfl, by omega, rfl, o_23, by rw [l2, show b = bm by omega]⟩)⟩)
    · skip
      refine e_steps 2 (σ' := (32, [(0, .ref 0), (1, .int (nI k_2)), (2, .int what)], [.long ((-lN 9223372036854775808))], (MH g kept was isKept tape fed pos tlen flt ranking paper written pairs above below isDone dist rowv rowMany lsz itm weakAbove weakBelow))) rfl ?_
      exact e_ret rfl (trivial) (hR _ _ ⟨((-lN 9223372036854775808)), rfl, rfl, (by first | exact Or.inl ⟨rfl, fun ⟨a, p, h1, h2, h3, h4, h5⟩ => o_2 ⟨a, h1, h2⟩⟩ | exact Or.inl ⟨rfl, fun ⟨a, p, h1, h2, h3, h4, h5⟩ => o_12 (by rw [h4]; exact z_nat_in (by omega) (by omega))⟩)⟩)
  · skip
    refine e_steps 2 (σ' := (32, [(0, .ref 0), (1, .int c), (2, .int what)], [.long ((-lN 9223372036854775808))], (MH g kept was isKept tape fed pos tlen flt ranking paper written pairs above below isDone dist rowv rowMany lsz itm weakAbove weakBelow))) rfl ?_
    exact e_ret rfl (trivial) (hR _ _ ⟨((-lN 9223372036854775808)), rfl, rfl, (by exact Or.inl ⟨rfl, fun ⟨a, p, h1, h2, h3, h4, h5⟩ => o_2 ⟨a, h1, h2⟩⟩)⟩)
theorem c_X6_first (d : Nat) {g : Nat → Int32} {kept : Nat → Int32} {was : Nat → Int32} {isKept : Int32} {tape : Nat → Int32} {fed : Int32} {pos : Int32} {tlen : Int32} {flt : Int32} {ranking : Nat → Int32} {paper : Nat → Int32} {written : Int32} {pairs : Nat → Int64} {above : Nat → Int64} {below : Nat → Int64} {isDone : Nat → Int32} {dist : Nat → Int32} {rowv : Nat → Int32} {rowMany : Int32} {lsz : Nat → Int32} {itm : Nat → Int64} {weakAbove : Int64} {weakBelow : Int64} {m : Nat} {s : Nat} {n : Nat} {outs : Nat} {bm : Nat} {ms : Nat} {dr : Nat → Nat} {cn : Nat → Nat} {pl : Nat → Nat → Nat} {F : Nat → Nat → Nat} (hG : z_GI g n outs bm ms dr cn pl) (hm : m < 4) (hP : z_PR pairs n F) (hs : s < 2 ^ n) (hs0 : s ≠ 0) : z_CAL (d + 6) 210 [.ref 0, .int (nI m), .int (nI s)] (MH g kept was isKept tape fed pos tlen flt ranking paper written pairs above below isDone dist rowv rowMany lsz itm weakAbove weakBelow) (fun r h2 => ∃ (ab2 : Nat → Int64) (be2 : Nat → Int64) (dn2 : Nat → Int32) (v : Nat), r = some (.int (nI v)) ∧ h2 = (MH g kept was isKept tape fed pos tlen flt ranking paper written pairs ab2 be2 dn2 dist rowv rowMany lsz itm weakAbove weakBelow) ∧ (v = z_ff n dr m s F ∧ v < n)) := by
  refine e_of2 (q := zmX6_first) rfl rfl (fun R hR => ?_)
  obtain ⟨⟨hn0, hn2, hn8⟩, ⟨ho0, ho8, hin⟩, ⟨hb0, hb40⟩, ⟨hm0, hm4⟩, ⟨hdr, hdl, hdc⟩, hcn, hpl⟩ := id hG; have hp8 := z_p2 hn8; have ho256 : outs < 256 := (by omega); have hi256 : z_dif (2 ^ n - 1) outs < 256 := (by have := z_dif_le (s := 2 ^ n - 1) (t := outs); omega); have hs256 : s < 256 := (by omega)
  refine e_steps 3 (σ' := (3, [(0, .ref 0), (1, .int (nI m)), (2, .int (nI s))], [.int (nI s), .int (nI m), .ref 0], (MH g kept was isKept tape fed pos tlen flt ranking paper written pairs above below isDone dist rowv rowMany lsz itm weakAbove weakBelow))) rfl ?_
  refine e_call (y := 184) (av := [.ref 0, .int (nI m), .int (nI s)]) (rest := []) rfl (c_X6_ways (d + 0) (n := n) (outs := outs) (bm := bm) (ms := ms) (dr := dr) (cn := cn) (pl := pl) (F := F) (by first | assumption | omega | rfl | trivial) (by first | assumption | omega | rfl | trivial) (by first | assumption | omega | rfl | trivial) (by first | assumption | omega | rfl | trivial)) (fun r_3 h_3 p_3 => ?_)
  obtain ⟨above_3, below_3, isDone_3, rfl, rfl, q_3⟩ := p_3
  obtain ⟨K, hW⟩ := q_3; have hex := z_ex_n hs hs0; have hub := z_ub_ex hW.2 hex; have hul := z_ub_lt (n := n) (K := K) (s := s); have hfi := z_fi_mem hW.2 hdc hex
  refine e_steps 4 (σ' := (10, [(0, .ref 0), (1, .int (nI m)), (2, .int (nI s))], [.int (nI s), .int (nI m), .ref 0, .ref 0], (MH g kept was isKept tape fed pos tlen flt ranking paper written pairs above_3 below_3 isDone_3 dist rowv rowMany lsz itm weakAbove weakBelow))) rfl ?_
  refine e_call (y := 198) (av := [.ref 0, .int (nI m), .int (nI s)]) (rest := [.ref 0]) rfl (c_X6_unbeaten (d + 1) (n := n) (outs := outs) (bm := bm) (ms := ms) (dr := dr) (cn := cn) (pl := pl) (s := s) (F := F) (K := K) (by first | assumption | omega | rfl | trivial) (by exact hW) (by first | assumption | omega | rfl | trivial) (by first | assumption | omega | rfl | trivial)) (fun r_10 h_10 p_10 => ?_)
  obtain ⟨rfl, rfl⟩ := p_10
  refine e_steps 0 (σ' := (13, [(0, .ref 0), (1, .int (nI m)), (2, .int (nI s))], [.int (nI (z_ub n K s)), .ref 0], (MH g kept was isKept tape fed pos tlen flt ranking paper written pairs above_3 below_3 isDone_3 dist rowv rowMany lsz itm weakAbove weakBelow))) rfl ?_
  refine e_call (y := 200) (av := [.ref 0, .int (nI (z_ub n K s))]) (rest := []) rfl (c_X6_firstDrawn (d + 3) (n := n) (outs := outs) (bm := bm) (ms := ms) (dr := dr) (cn := cn) (pl := pl) (by first | assumption | omega | rfl | trivial) (by first | assumption | omega | rfl | trivial) (by exact hub)) (fun r_13 h_13 p_13 => ?_)
  obtain ⟨rfl, rfl⟩ := p_13
  refine e_steps 0 (σ' := (16, [(0, .ref 0), (1, .int (nI m)), (2, .int (nI s))], [.int (nI (z_fd dr (z_ub n K s) n 0))], (MH g kept was isKept tape fed pos tlen flt ranking paper written pairs above_3 below_3 isDone_3 dist rowv rowMany lsz itm weakAbove weakBelow))) rfl ?_
  exact e_ret rfl (trivial) (hR _ _ ⟨above_3, below_3, isDone_3, (z_fd dr (z_ub n K s) n 0), rfl, rfl, (by exact ⟨z_ff_eq hW.2, hfi.1⟩)⟩)
theorem c_X6_firstNow (d : Nat) {g : Nat → Int32} {kept : Nat → Int32} {was : Nat → Int32} {isKept : Int32} {tape : Nat → Int32} {fed : Int32} {pos : Int32} {tlen : Int32} {flt : Int32} {ranking : Nat → Int32} {paper : Nat → Int32} {written : Int32} {pairs : Nat → Int64} {above : Nat → Int64} {below : Nat → Int64} {isDone : Nat → Int32} {dist : Nat → Int32} {rowv : Nat → Int32} {rowMany : Int32} {lsz : Nat → Int32} {itm : Nat → Int64} {weakAbove : Int64} {weakBelow : Int64} {n : Nat} {outs : Nat} {bm : Nat} {ms : Nat} {dr : Nat → Nat} {cn : Nat → Nat} {pl : Nat → Nat → Nat} (hG : z_GI g n outs bm ms dr cn pl) : z_CAL (d + 7) 211 [.ref 0] (MH g kept was isKept tape fed pos tlen flt ranking paper written pairs above below isDone dist rowv rowMany lsz itm weakAbove weakBelow) (fun r h2 => ∃ (pairs2 : Nat → Int64) (ab2 : Nat → Int64) (be2 : Nat → Int64) (dn2 : Nat → Int32) (v : Nat), r = some (.int (nI v)) ∧ h2 = (MH g kept was isKept tape fed pos tlen flt ranking paper written pairs2 ab2 be2 dn2 dist rowv rowMany lsz itm weakAbove weakBelow) ∧ (v = z_ff n dr ms (z_dif (2 ^ n - 1) outs) (z_for bm cn pl) ∧ v < n ∧ z_PR pairs2 n (z_for bm cn pl))) := by
  refine e_of2 (q := zmX6_firstNow) rfl rfl (fun R hR => ?_)
  obtain ⟨⟨hn0, hn2, hn8⟩, ⟨ho0, ho8, hin⟩, ⟨hb0, hb40⟩, ⟨hm0, hm4⟩, ⟨hdr, hdl, hdc⟩, hcn, hpl⟩ := id hG; have hp8 := z_p2 hn8; have ho256 : outs < 256 := (by omega); have hi256 : z_dif (2 ^ n - 1) outs < 256 := (by have := z_dif_le (s := 2 ^ n - 1) (t := outs); omega)
  refine e_steps 1 (σ' := (1, [(0, .ref 0)], [.ref 0], (MH g kept was isKept tape fed pos tlen flt ranking paper written pairs above below isDone dist rowv rowMany lsz itm weakAbove weakBelow))) rfl ?_
  refine e_call (y := 172) (av := [.ref 0]) (rest := []) rfl (c_X6_countsAll (d + 4) (n := n) (outs := outs) (bm := bm) (ms := ms) (dr := dr) (cn := cn) (pl := pl) (by first | assumption | omega | rfl | trivial)) (fun r_1 h_1 p_1 => ?_)
  obtain ⟨pairs_1, rfl, rfl, q_1⟩ := p_1
  refine e_steps 4 (σ' := (10, [(0, .ref 0)], [.int (nI 3), .ref 1, .ref 0], (MH g kept was isKept tape fed pos tlen flt ranking paper written pairs_1 above below isDone dist rowv rowMany lsz itm weakAbove weakBelow))) rfl ?_
  refine e_ial (nI ms) rfl rfl (by first | assumption | omega | rfl | trivial) (by decide) (hm0) ?_
  refine e_steps 1 (σ' := (12, [(0, .ref 0)], [.ref 0, .int (nI ms), .ref 0], (MH g kept was isKept tape fed pos tlen flt ranking paper written pairs_1 above below isDone dist rowv rowMany lsz itm weakAbove weakBelow))) rfl ?_
  refine e_call (y := 134) (av := [.ref 0]) (rest := [.int (nI ms), .ref 0]) rfl (c_X6_ins (d + 4) (n := n) (outs := outs) (bm := bm) (ms := ms) (dr := dr) (cn := cn) (pl := pl) (by first | assumption | omega | rfl | trivial)) (fun r_12 h_12 p_12 => ?_)
  obtain ⟨rfl, rfl⟩ := p_12
  refine e_steps 0 (σ' := (15, [(0, .ref 0)], [.int (nI (z_dif (2 ^ n - 1) outs)), .int (nI ms), .ref 0], (MH g kept was isKept tape fed pos tlen flt ranking paper written pairs_1 above below isDone dist rowv rowMany lsz itm weakAbove weakBelow))) rfl ?_
  refine e_call (y := 210) (av := [.ref 0, .int (nI ms), .int (nI (z_dif (2 ^ n - 1) outs))]) (rest := []) rfl (c_X6_first (d + 0) (n := n) (outs := outs) (bm := bm) (ms := ms) (dr := dr) (cn := cn) (pl := pl) (F := (z_for bm cn pl)) (by first | assumption | omega | rfl | trivial) (by first | assumption | omega | rfl | trivial) (by first | assumption | omega | rfl | trivial) (by exact z_ins_lt) (by first | assumption | omega | rfl | trivial)) (fun r_15 h_15 p_15 => ?_)
  obtain ⟨above_15, below_15, isDone_15, v_15, rfl, rfl, q_15⟩ := p_15
  refine e_steps 0 (σ' := (18, [(0, .ref 0)], [.int (nI v_15)], (MH g kept was isKept tape fed pos tlen flt ranking paper written pairs_1 above_15 below_15 isDone_15 dist rowv rowMany lsz itm weakAbove weakBelow))) rfl ?_
  exact e_ret rfl (trivial) (hR _ _ ⟨pairs_1, above_15, below_15, isDone_15, v_15, rfl, rfl, (by exact ⟨q_15.1, q_15.2, q_1⟩)⟩)
theorem c_X6_without (d : Nat) {g : Nat → Int32} {kept : Nat → Int32} {was : Nat → Int32} {isKept : Int32} {tape : Nat → Int32} {fed : Int32} {pos : Int32} {tlen : Int32} {flt : Int32} {ranking : Nat → Int32} {paper : Nat → Int32} {written : Int32} {pairs : Nat → Int64} {above : Nat → Int64} {below : Nat → Int64} {isDone : Nat → Int32} {dist : Nat → Int32} {rowv : Nat → Int32} {rowMany : Int32} {lsz : Nat → Int32} {itm : Nat → Int64} {weakAbove : Int64} {weakBelow : Int64} {c : Int32} {n : Nat} {outs : Nat} {bm : Nat} {ms : Nat} {dr : Nat → Nat} {cn : Nat → Nat} {pl : Nat → Nat → Nat} (hG : z_GI g n outs bm ms dr cn pl) : z_CAL (d + 7) 212 [.ref 0, .int c] (MH g kept was isKept tape fed pos tlen flt ranking paper written pairs above below isDone dist rowv rowMany lsz itm weakAbove weakBelow) (fun r h2 => ∃ (pairs2 : Nat → Int64) (ab2 : Nat → Int64) (be2 : Nat → Int64) (dn2 : Nat → Int32) (v : Int32), r = some (.int v) ∧ h2 = (MH g kept was isKept tape fed pos tlen flt ranking paper written pairs2 ab2 be2 dn2 dist rowv rowMany lsz itm weakAbove weakBelow) ∧ ((v = -nI 1 ∧ ¬ ∃ a, a < n ∧ c = nI a) ∨ ∃ a, a < n ∧ c = nI a ∧ ((z_dif (z_dif (2 ^ n - 1) outs) (2 ^ a) = 0 ∧ v = -nI 3) ∨ (z_dif (z_dif (2 ^ n - 1) outs) (2 ^ a) ≠ 0 ∧ v = nI (z_ff n dr ms (z_dif (z_dif (2 ^ n - 1) outs) (2 ^ a)) (z_for bm cn pl)))))) := by
  refine e_of2 (q := zmX6_without) rfl rfl (fun R hR => ?_)
  obtain ⟨⟨hn0, hn2, hn8⟩, ⟨ho0, ho8, hin⟩, ⟨hb0, hb40⟩, ⟨hm0, hm4⟩, ⟨hdr, hdl, hdc⟩, hcn, hpl⟩ := id hG; have hp8 := z_p2 hn8; have ho256 : outs < 256 := (by omega); have hi256 : z_dif (2 ^ n - 1) outs < 256 := (by have := z_dif_le (s := 2 ^ n - 1) (t := outs); omega)
  refine e_steps 2 (σ' := (2, [(0, .ref 0), (1, .int c)], [.int c, .ref 0], (MH g kept was isKept tape fed pos tlen flt ranking paper written pairs above below isDone dist rowv rowMany lsz itm weakAbove weakBelow))) rfl ?_
  refine e_call (y := 135) (av := [.ref 0, .int c]) (rest := []) rfl (c_X6_isOne (d + 4) (n := n) (outs := outs) (bm := bm) (ms := ms) (dr := dr) (cn := cn) (pl := pl) (by first | assumption | omega | rfl | trivial)) (fun r_2 h_2 p_2 => ?_)
  obtain ⟨rfl, o_2⟩ := p_2
  rcases o_2 with ⟨rfl, o_2⟩ | ⟨rfl, o_2⟩
  · skip
    obtain ⟨k_2, hk_2, ek_2⟩ := o_2
    subst ek_2
    refine e_steps 2 (σ' := (11, [(0, .ref 0), (1, .int (nI k_2))], [.ref 0], (MH g kept was isKept tape fed pos tlen flt ranking paper written pairs above below isDone dist rowv rowMany lsz itm weakAbove weakBelow))) rfl ?_
    refine e_call (y := 134) (av := [.ref 0]) (rest := []) rfl (c_X6_ins (d + 4) (n := n) (outs := outs) (bm := bm) (ms := ms) (dr := dr) (cn := cn) (pl := pl) (by first | assumption | omega | rfl | trivial)) (fun r_11 h_11 p_11 => ?_)
    obtain ⟨rfl, rfl⟩ := p_11
    refine e_steps 2 (σ' := (16, [(0, .ref 0), (1, .int (nI k_2))], [.int (nI k_2), .int (nI 1), .int (nI (z_dif (2 ^ n - 1) outs))], (MH g kept was isKept tape fed pos tlen flt ranking paper written pairs above below isDone dist rowv rowMany lsz itm weakAbove weakBelow))) rfl ?_
    refine e_shl rfl (by first | assumption | omega | rfl | trivial) ?_
    refine e_steps 2 (σ' := (19, [(0, .ref 0), (1, .int (nI k_2))], [.int (((nI (2 ^ k_2)) ^^^ ((-nI 1)))), .int (nI (z_dif (2 ^ n - 1) outs))], (MH g kept was isKept tape fed pos tlen flt ranking paper written pairs above below isDone dist rowv rowMany lsz itm weakAbove weakBelow))) rfl ?_
    refine e_dif rfl (by first | assumption | omega | rfl | trivial) (by exact z_p8 (by omega)) ?_
    refine e_steps 2 (σ' := (22, [(2, .int (nI (z_dif (z_dif (2 ^ n - 1) outs) (2 ^ k_2)))), (0, .ref 0), (1, .int (nI k_2))], [.int (nI (z_dif (z_dif (2 ^ n - 1) outs) (2 ^ k_2)))], (MH g kept was isKept tape fed pos tlen flt ranking paper written pairs above below isDone dist rowv rowMany lsz itm weakAbove weakBelow))) rfl ?_
    refine e_if (c := ¬ nI (z_dif (z_dif (2 ^ n - 1) outs) (2 ^ k_2)) = 0) rfl (fun c_22 => ?_) (fun c_22 => ?_)
    · skip
      rw [z0_ne (by have := z_dif_le (s := z_dif (2 ^ n - 1) outs) (t := 2 ^ k_2); omega)] at c_22
      skip
      refine e_steps 1 (σ' := (29, [(2, .int (nI (z_dif (z_dif (2 ^ n - 1) outs) (2 ^ k_2)))), (0, .ref 0), (1, .int (nI k_2))], [.ref 0], (MH g kept was isKept tape fed pos tlen flt ranking paper written pairs above below isDone dist rowv rowMany lsz itm weakAbove weakBelow))) rfl ?_
      refine e_call (y := 172) (av := [.ref 0]) (rest := []) rfl (c_X6_countsAll (d + 4) (n := n) (outs := outs) (bm := bm) (ms := ms) (dr := dr) (cn := cn) (pl := pl) (by first | assumption | omega | rfl | trivial)) (fun r_29 h_29 p_29 => ?_)
      obtain ⟨pairs_29, rfl, rfl, q_29⟩ := p_29
      refine e_steps 4 (σ' := (38, [(2, .int (nI (z_dif (z_dif (2 ^ n - 1) outs) (2 ^ k_2)))), (0, .ref 0), (1, .int (nI k_2))], [.int (nI 3), .ref 1, .ref 0], (MH g kept was isKept tape fed pos tlen flt ranking paper written pairs_29 above below isDone dist rowv rowMany lsz itm weakAbove weakBelow))) rfl ?_
      refine e_ial (nI ms) rfl rfl (by first | assumption | omega | rfl | trivial) (by decide) (hm0) ?_
      refine e_steps 1 (σ' := (40, [(2, .int (nI (z_dif (z_dif (2 ^ n - 1) outs) (2 ^ k_2)))), (0, .ref 0), (1, .int (nI k_2))], [.int (nI (z_dif (z_dif (2 ^ n - 1) outs) (2 ^ k_2))), .int (nI ms), .ref 0], (MH g kept was isKept tape fed pos tlen flt ranking paper written pairs_29 above below isDone dist rowv rowMany lsz itm weakAbove weakBelow))) rfl ?_
      refine e_call (y := 210) (av := [.ref 0, .int (nI ms), .int (nI (z_dif (z_dif (2 ^ n - 1) outs) (2 ^ k_2)))]) (rest := []) rfl (c_X6_first (d + 0) (n := n) (outs := outs) (bm := bm) (ms := ms) (dr := dr) (cn := cn) (pl := pl) (F := (z_for bm cn pl)) (by first | assumption | omega | rfl | trivial) (by first | assumption | omega | rfl | trivial) (by first | assumption | omega | rfl | trivial) (by exact Nat.lt_of_le_of_lt z_dif_le z_ins_lt) (by first | assumption | omega | rfl | trivial)) (fun r_40 h_40 p_40 => ?_)
      obtain ⟨above_40, below_40, isDone_40, v_40, rfl, rfl, q_40⟩ := p_40
      refine e_steps 0 (σ' := (43, [(2, .int (nI (z_dif (z_dif (2 ^ n - 1) outs) (2 ^ k_2)))), (0, .ref 0), (1, .int (nI k_2))], [.int (nI v_40)], (MH g kept was isKept tape fed pos tlen flt ranking paper written pairs_29 above_40 below_40 isDone_40 dist rowv rowMany lsz itm weakAbove weakBelow))) rfl ?_
      exact e_ret rfl (trivial) (hR _ _ ⟨pairs_29, above_40, below_40, isDone_40, (nI v_40), rfl, rfl, (by first | exact Or.inl ⟨rfl, o_2⟩ | exact Or.inr ⟨_, hk_2, rfl, Or.inl ⟨by assumption, rfl⟩⟩ | exact Or.inr ⟨_, hk_2, rfl, Or.inr ⟨by assumption, by rw [q_40.1]⟩⟩)⟩)
    · skip
      rw [z0_ne (by have := z_dif_le (s := z_dif (2 ^ n - 1) outs) (t := 2 ^ k_2); omega)] at c_22
      replace c_22 := Decidable.not_not.mp c_22
      refine e_steps 1 (σ' := (27, [(2, .int (nI (z_dif (z_dif (2 ^ n - 1) outs) (2 ^ k_2)))), (0, .ref 0), (1, .int (nI k_2))], [.int ((-nI 3))], (MH g kept was isKept tape fed pos tlen flt ranking paper written pairs above below isDone dist rowv rowMany lsz itm weakAbove weakBelow))) rfl ?_
      exact e_ret rfl (trivial) (hR _ _ ⟨pairs, above, below, isDone, ((-nI 3)), rfl, rfl, (by first | exact Or.inl ⟨rfl, o_2⟩ | exact Or.inr ⟨_, hk_2, rfl, Or.inl ⟨by assumption, rfl⟩⟩)⟩)
  · skip
    refine e_steps 2 (σ' := (9, [(0, .ref 0), (1, .int c)], [.int ((-nI 1))], (MH g kept was isKept tape fed pos tlen flt ranking paper written pairs above below isDone dist rowv rowMany lsz itm weakAbove weakBelow))) rfl ?_
    exact e_ret rfl (trivial) (hR _ _ ⟨pairs, above, below, isDone, ((-nI 1)), rfl, rfl, (by exact Or.inl ⟨rfl, o_2⟩)⟩)
theorem c_X6_would (d : Nat) {g : Nat → Int32} {kept : Nat → Int32} {was : Nat → Int32} {isKept : Int32} {tape : Nat → Int32} {fd : Nat} {ps : Nat} {tl : Nat} {flt : Int32} {ranking : Nat → Int32} {paper : Nat → Int32} {written : Int32} {pairs : Nat → Int64} {above : Nat → Int64} {below : Nat → Int64} {isDone : Nat → Int32} {dist : Nat → Int32} {rowv : Nat → Int32} {rowMany : Int32} {lsz : Nat → Int32} {itm : Nat → Int64} {weakAbove : Int64} {weakBelow : Int64} {c : Int32} {n : Nat} {outs : Nat} {bm : Nat} {ms : Nat} {dr : Nat → Nat} {cn : Nat → Nat} {pl : Nat → Nat → Nat} {tp : Nat → Nat} (hG : z_GI g n outs bm ms dr cn pl) (hfd : fd ≤ 120) (hps : ps ≤ tl) (htl : tl ≤ 120) (htp : ∀ k, k < fd → tape k = nI (tp k) ∧ 1 ≤ tp k ∧ tp k ≤ 127) : z_CAL (d + 7) 213 [.ref 0, .int c] (MH g kept was isKept tape (nI fd) (nI ps) (nI tl) flt ranking paper written pairs above below isDone dist rowv rowMany lsz itm weakAbove weakBelow) (fun r h2 => ∃ (rk2 : Nat → Int32) (ps2 : Nat) (tl2 : Nat) (fd2 : Nat) (ft2 : Int32) (pairs2 : Nat → Int64) (ab2 : Nat → Int64) (be2 : Nat → Int64) (dn2 : Nat → Int32) (v : Int32), r = some (.int v) ∧ h2 = (MH g kept was isKept tape (nI fd2) (nI ps2) (nI tl2) ft2 rk2 paper written pairs2 ab2 be2 dn2 dist rowv rowMany lsz itm weakAbove weakBelow) ∧ (ps2 ≤ tl2 ∧ tl2 ≤ 120 ∧ ((v = -nI 2 ∧ fd2 = fd ∧ ¬ ∃ k, 1 ≤ k ∧ k ≤ 1000000 ∧ c = nI k) ∨ (fd2 = 0 ∧ ∃ k, 1 ≤ k ∧ k ≤ 1000000 ∧ c = nI k ∧ ((∃ b p q, z_rp n tp fd 8 0 0 (fun _ => 0) 0 = (b, p, q) ∧ (b = false ∨ p ≠ fd) ∧ p ≤ fd ∧ v = -nI 100 - nI p) ∨ ∃ q, z_rp n tp fd 8 0 0 (fun _ => 0) 0 = (true, fd, q) ∧ v = nI (z_ff n dr ms (z_dif (2 ^ n - 1) outs) (z_fadd q k (z_for bm cn pl)))))))) := by
  refine e_of2 (q := zmX6_would) rfl rfl (fun R hR => ?_)
  obtain ⟨⟨hn0, hn2, hn8⟩, ⟨ho0, ho8, hin⟩, ⟨hb0, hb40⟩, ⟨hm0, hm4⟩, ⟨hdr, hdl, hdc⟩, hcn, hpl⟩ := id hG; have hp8 := z_p2 hn8; have ho256 : outs < 256 := (by omega); have hi256 : z_dif (2 ^ n - 1) outs < 256 := (by have := z_dif_le (s := 2 ^ n - 1) (t := outs); omega); have hFl : ∀ i, i < n → ∀ j, j < n → (z_for bm cn pl) i j ≤ 40000000 := fun i _ j _ => (by have h := z_for_le (cn := cn) (pl := pl) (i := i) (j := j) (b := bm) (fun z hz => (hcn z hz).2.2); omega)
  refine e_steps 4 (σ' := (6, [(0, .ref 0), (1, .int c)], [.long (lN 1000000), .long (lN 1), .long c.toInt64], (MH g kept was isKept tape (nI fd) (nI ps) (nI tl) flt ranking paper written pairs above below isDone dist rowv rowMany lsz itm weakAbove weakBelow))) rfl ?_
  refine e_call (y := 129) (av := [.long c.toInt64, .long (lN 1), .long (lN 1000000)]) (rest := []) rfl (c_X6_isIn (d + 5) ) (fun r_6 h_6 p_6 => ?_)
  obtain ⟨rfl, o_6⟩ := p_6
  rcases o_6 with ⟨rfl, o_6⟩ | ⟨rfl, o_6⟩
  · skip
    obtain ⟨kc, hc1, hc2, ek⟩ := z_in_nat2 (by omega) o_6; subst ek
    refine e_steps 2 (σ' := (16, [(0, .ref 0), (1, .int (nI kc))], [.ref 0], (MH g kept was isKept tape (nI fd) (nI ps) (nI tl) flt ranking paper written pairs above below isDone dist rowv rowMany lsz itm weakAbove weakBelow))) rfl ?_
    refine e_call (y := 150) (av := [.ref 0]) (rest := []) rfl (c_X6_reads (d + 5) (by first | assumption | omega | rfl | trivial) (by first | assumption | omega | rfl | trivial) (by first | assumption | omega | rfl | trivial)) (fun r_16 h_16 p_16 => ?_)
    obtain ⟨rfl, rfl⟩ := p_16
    refine e_steps 1 (σ' := (20, [(0, .ref 0), (1, .int (nI kc))], [.ref 0], (MH g kept was isKept tape (nI 0) (nI 0) (nI fd) ((-nI 1)) ranking paper written pairs above below isDone dist rowv rowMany lsz itm weakAbove weakBelow))) rfl ?_
    refine e_call (y := 157) (av := [.ref 0]) (rest := []) rfl (c_X6_isWholeRanking (d + 1) (n := n) (outs := outs) (bm := bm) (ms := ms) (dr := dr) (cn := cn) (pl := pl) (tp := tp) (by first | assumption | omega | rfl | trivial) (by first | assumption | omega | rfl | trivial) (by first | assumption | omega | rfl | trivial) (by first | assumption | omega | rfl | trivial) (by first | assumption | omega | rfl | trivial)) (fun r_20 h_20 p_20 => ?_)
    obtain ⟨ranking_20, pos_20, flt_20, rfl, o_20⟩ := p_20
    rcases o_20 with ⟨rfl, o_20⟩ | ⟨rfl, o_20⟩
    · skip
      obtain ⟨q, w1, w2, w3, w4⟩ := o_20; replace w3 := w3.symm; subst w3; replace w4 := w4.symm; subst w4; have w5 := z_rp_ok hn8 w1 ⟨fun c _ hb => Bool.noConfusion ((Nat.zero_testBit c).symm.trans hb), fun x hx => absurd hx (Nat.not_lt_zero x)⟩; have hqr : ∀ c, c < n → ranking_20 c = nI (q c) ∧ q c < 256 := fun c hc => ⟨w2 c hc, by have := w5.2.2.1 c hc; omega⟩
      refine e_steps 2 (σ' := (35, [(0, .ref 0), (1, .int (nI kc))], [.ref 0], (MH g kept was isKept tape (nI 0) (nI fd) (nI fd) ((-nI 1)) ranking_20 paper written pairs above below isDone dist rowv rowMany lsz itm weakAbove weakBelow))) rfl ?_
      refine e_call (y := 172) (av := [.ref 0]) (rest := []) rfl (c_X6_countsAll (d + 4) (n := n) (outs := outs) (bm := bm) (ms := ms) (dr := dr) (cn := cn) (pl := pl) (by first | assumption | omega | rfl | trivial)) (fun r_35 h_35 p_35 => ?_)
      obtain ⟨pairs_35, rfl, rfl, q_35⟩ := p_35
      refine e_steps 2 (σ' := (40, [(0, .ref 0), (1, .int (nI kc))], [.int (nI kc), .ref 0], (MH g kept was isKept tape (nI 0) (nI fd) (nI fd) ((-nI 1)) ranking_20 paper written pairs_35 above below isDone dist rowv rowMany lsz itm weakAbove weakBelow))) rfl ?_
      refine e_call (y := 173) (av := [.ref 0, .int (nI kc)]) (rest := []) rfl (c_X6_countsRanking (d + 5) (n := n) (outs := outs) (bm := bm) (ms := ms) (dr := dr) (cn := cn) (pl := pl) (q := q) (by first | assumption | omega | rfl | trivial) (by exact hqr)) (fun r_40 h_40 p_40 => ?_)
      obtain ⟨pairs_40, rfl, rfl, q_40⟩ := p_40
      have hP2 := z_PR_add hn8 q_35 (nI_l (by omega)) (fun i hi j hj => by have := hFl i hi j hj; omega) q_40
      refine e_steps 4 (σ' := (49, [(0, .ref 0), (1, .int (nI kc))], [.int (nI 3), .ref 1, .ref 0], (MH g kept was isKept tape (nI 0) (nI fd) (nI fd) ((-nI 1)) ranking_20 paper written pairs_40 above below isDone dist rowv rowMany lsz itm weakAbove weakBelow))) rfl ?_
      refine e_ial (nI ms) rfl rfl (by first | assumption | omega | rfl | trivial) (by decide) (hm0) ?_
      refine e_steps 1 (σ' := (51, [(0, .ref 0), (1, .int (nI kc))], [.ref 0, .int (nI ms), .ref 0], (MH g kept was isKept tape (nI 0) (nI fd) (nI fd) ((-nI 1)) ranking_20 paper written pairs_40 above below isDone dist rowv rowMany lsz itm weakAbove weakBelow))) rfl ?_
      refine e_call (y := 134) (av := [.ref 0]) (rest := [.int (nI ms), .ref 0]) rfl (c_X6_ins (d + 4) (n := n) (outs := outs) (bm := bm) (ms := ms) (dr := dr) (cn := cn) (pl := pl) (by first | assumption | omega | rfl | trivial)) (fun r_51 h_51 p_51 => ?_)
      obtain ⟨rfl, rfl⟩ := p_51
      refine e_steps 0 (σ' := (54, [(0, .ref 0), (1, .int (nI kc))], [.int (nI (z_dif (2 ^ n - 1) outs)), .int (nI ms), .ref 0], (MH g kept was isKept tape (nI 0) (nI fd) (nI fd) ((-nI 1)) ranking_20 paper written pairs_40 above below isDone dist rowv rowMany lsz itm weakAbove weakBelow))) rfl ?_
      refine e_call (y := 210) (av := [.ref 0, .int (nI ms), .int (nI (z_dif (2 ^ n - 1) outs))]) (rest := []) rfl (c_X6_first (d + 0) (n := n) (outs := outs) (bm := bm) (ms := ms) (dr := dr) (cn := cn) (pl := pl) (F := (z_fadd q kc (z_for bm cn pl))) (by first | assumption | omega | rfl | trivial) (by first | assumption | omega | rfl | trivial) (by exact hP2) (by exact z_ins_lt) (by first | assumption | omega | rfl | trivial)) (fun r_54 h_54 p_54 => ?_)
      obtain ⟨above_54, below_54, isDone_54, v_54, rfl, rfl, q_54⟩ := p_54
      refine e_steps 0 (σ' := (57, [(0, .ref 0), (1, .int (nI kc))], [.int (nI v_54)], (MH g kept was isKept tape (nI 0) (nI fd) (nI fd) ((-nI 1)) ranking_20 paper written pairs_40 above_54 below_54 isDone_54 dist rowv rowMany lsz itm weakAbove weakBelow))) rfl ?_
      exact e_ret rfl (trivial) (hR _ _ ⟨ranking_20, fd, fd, 0, (-nI 1), pairs_40, above_54, below_54, isDone_54, (nI v_54), rfl, rfl, (by first | exact ⟨by omega, by omega, Or.inr ⟨rfl, kc, hc1, hc2, rfl, Or.inr ⟨q, w1, by rw [q_54.1]⟩⟩⟩ | exact ⟨by omega, by omega, Or.inr ⟨rfl, kc, hc1, hc2, rfl, Or.inl ⟨b, p, q, w1, w2, w3, rfl⟩⟩⟩ | exact ⟨by omega, by omega, Or.inl ⟨rfl, rfl, fun ⟨k, h1, h2, h3⟩ => o_6 (by rw [h3]; exact z_nat_in2 (by omega) h1 h2)⟩⟩)⟩)
    · skip
      obtain ⟨b, p, q, w1, w2, w3, w4, w5⟩ := o_20; replace w4 := w4.symm; subst w4; subst w5
      refine e_steps 5 (σ' := (33, [(0, .ref 0), (1, .int (nI kc))], [.int ((((-nI 100)) - ((nI p))))], (MH g kept was isKept tape (nI 0) (nI p) (nI fd) ((nI p)) ranking_20 paper written pairs above below isDone dist rowv rowMany lsz itm weakAbove weakBelow))) rfl ?_
      exact e_ret rfl (trivial) (hR _ _ ⟨ranking_20, p, fd, 0, (nI p), pairs, above, below, isDone, ((((-nI 100)) - ((nI p)))), rfl, rfl, (by first | exact ⟨by omega, by omega, Or.inr ⟨rfl, kc, hc1, hc2, rfl, Or.inl ⟨b, p, q, w1, w2, w3, rfl⟩⟩⟩ | exact ⟨by omega, by omega, Or.inl ⟨rfl, rfl, fun ⟨k, h1, h2, h3⟩ => o_6 (by rw [h3]; exact z_nat_in2 (by omega) h1 h2)⟩⟩)⟩)
  · skip
    refine e_steps 2 (σ' := (14, [(0, .ref 0), (1, .int c)], [.int ((-nI 2))], (MH g kept was isKept tape (nI fd) (nI ps) (nI tl) flt ranking paper written pairs above below isDone dist rowv rowMany lsz itm weakAbove weakBelow))) rfl ?_
    exact e_ret rfl (trivial) (hR _ _ ⟨ranking, ps, tl, fd, flt, pairs, above, below, isDone, ((-nI 2)), rfl, rfl, (by first | exact ⟨by omega, by omega, Or.inr ⟨rfl, kc, hc1, hc2, rfl, Or.inl ⟨b, p, q, w1, w2, w3, rfl⟩⟩⟩ | exact ⟨by omega, by omega, Or.inl ⟨rfl, rfl, fun ⟨k, h1, h2, h3⟩ => o_6 (by rw [h3]; exact z_nat_in2 (by omega) h1 h2)⟩⟩)⟩)
theorem c_X6_needs (d : Nat) {g : Nat → Int32} {kept : Nat → Int32} {was : Nat → Int32} {isKept : Int32} {tape : Nat → Int32} {fd : Nat} {ps : Nat} {tl : Nat} {flt : Int32} {ranking : Nat → Int32} {paper : Nat → Int32} {written : Int32} {pairs : Nat → Int64} {above : Nat → Int64} {below : Nat → Int64} {isDone : Nat → Int32} {dist : Nat → Int32} {rowv : Nat → Int32} {rowMany : Int32} {lsz : Nat → Int32} {itm : Nat → Int64} {weakAbove : Int64} {weakBelow : Int64} {c : Int32} {n : Nat} {outs : Nat} {bm : Nat} {ms : Nat} {dr : Nat → Nat} {cn : Nat → Nat} {pl : Nat → Nat → Nat} {tp : Nat → Nat} (hG : z_GI g n outs bm ms dr cn pl) (hfd : fd ≤ 120) (hps : ps ≤ tl) (htl : tl ≤ 120) (htp : ∀ k, k < fd → tape k = nI (tp k) ∧ 1 ≤ tp k ∧ tp k ≤ 127) : z_CAL (d + 7) 214 [.ref 0, .int c] (MH g kept was isKept tape (nI fd) (nI ps) (nI tl) flt ranking paper written pairs above below isDone dist rowv rowMany lsz itm weakAbove weakBelow) (fun r h2 => ∃ (rk2 : Nat → Int32) (ps2 : Nat) (tl2 : Nat) (fd2 : Nat) (ft2 : Int32) (pairs2 : Nat → Int64) (ab2 : Nat → Int64) (be2 : Nat → Int64) (dn2 : Nat → Int32) (v : Int32), r = some (.int v) ∧ h2 = (MH g kept was isKept tape (nI fd2) (nI ps2) (nI tl2) ft2 rk2 paper written pairs2 ab2 be2 dn2 dist rowv rowMany lsz itm weakAbove weakBelow) ∧ (ps2 ≤ tl2 ∧ tl2 ≤ 120 ∧ ((fd2 = fd ∧ v = -nI 1 ∧ ¬ ∃ k, k < n ∧ c = nI k) ∨ (fd2 = fd ∧ v = -nI 3 ∧ ∃ k, k < n ∧ c = nI k ∧ (z_dif (2 ^ n - 1) outs).testBit k = false) ∨ (fd2 = 0 ∧ ∃ k, k < n ∧ c = nI k ∧ (z_dif (2 ^ n - 1) outs).testBit k = true ∧ ((∃ b p q, z_rp n tp fd 8 0 0 (fun _ => 0) 0 = (b, p, q) ∧ (b = false ∨ p ≠ fd) ∧ p ≤ fd ∧ v = -nI 100 - nI p) ∨ ∃ q, z_rp n tp fd 8 0 0 (fun _ => 0) 0 = (true, fd, q) ∧ ((∃ x, 1 ≤ x ∧ x ≤ 500 ∧ v = nI x ∧ z_ff n dr ms (z_dif (2 ^ n - 1) outs) (z_fadd q x (z_for bm cn pl)) = k ∧ ∀ y, 1 ≤ y → y < x → z_ff n dr ms (z_dif (2 ^ n - 1) outs) (z_fadd q y (z_for bm cn pl)) ≠ k) ∨ (v = -nI 5 ∧ ∀ y, 1 ≤ y → y ≤ 500 → z_ff n dr ms (z_dif (2 ^ n - 1) outs) (z_fadd q y (z_for bm cn pl)) ≠ k))))))) := by
  refine e_of2 (q := zmX6_needs) rfl rfl (fun R hR => ?_)
  obtain ⟨⟨hn0, hn2, hn8⟩, ⟨ho0, ho8, hin⟩, ⟨hb0, hb40⟩, ⟨hm0, hm4⟩, ⟨hdr, hdl, hdc⟩, hcn, hpl⟩ := id hG; have hp8 := z_p2 hn8; have ho256 : outs < 256 := (by omega); have hi256 : z_dif (2 ^ n - 1) outs < 256 := (by have := z_dif_le (s := 2 ^ n - 1) (t := outs); omega); have hFl : ∀ i, i < n → ∀ j, j < n → (z_for bm cn pl) i j ≤ 40000000 := fun i _ j _ => (by have h := z_for_le (cn := cn) (pl := pl) (i := i) (j := j) (b := bm) (fun z hz => (hcn z hz).2.2); omega)
  refine e_steps 2 (σ' := (2, [(0, .ref 0), (1, .int c)], [.int c, .ref 0], (MH g kept was isKept tape (nI fd) (nI ps) (nI tl) flt ranking paper written pairs above below isDone dist rowv rowMany lsz itm weakAbove weakBelow))) rfl ?_
  refine e_call (y := 135) (av := [.ref 0, .int c]) (rest := []) rfl (c_X6_isOne (d + 4) (n := n) (outs := outs) (bm := bm) (ms := ms) (dr := dr) (cn := cn) (pl := pl) (by first | assumption | omega | rfl | trivial)) (fun r_2 h_2 p_2 => ?_)
  obtain ⟨rfl, o_2⟩ := p_2
  rcases o_2 with ⟨rfl, o_2⟩ | ⟨rfl, o_2⟩
  · skip
    obtain ⟨k_2, hk_2, ek_2⟩ := o_2
    subst ek_2
    refine e_steps 2 (σ' := (11, [(0, .ref 0), (1, .int (nI k_2))], [.ref 0], (MH g kept was isKept tape (nI fd) (nI ps) (nI tl) flt ranking paper written pairs above below isDone dist rowv rowMany lsz itm weakAbove weakBelow))) rfl ?_
    refine e_call (y := 134) (av := [.ref 0]) (rest := []) rfl (c_X6_ins (d + 4) (n := n) (outs := outs) (bm := bm) (ms := ms) (dr := dr) (cn := cn) (pl := pl) (by first | assumption | omega | rfl | trivial)) (fun r_11 h_11 p_11 => ?_)
    obtain ⟨rfl, rfl⟩ := p_11
    refine e_steps 1 (σ' := (15, [(0, .ref 0), (1, .int (nI k_2))], [.int (nI k_2), .int (nI (z_dif (2 ^ n - 1) outs))], (MH g kept was isKept tape (nI fd) (nI ps) (nI tl) flt ranking paper written pairs above below isDone dist rowv rowMany lsz itm weakAbove weakBelow))) rfl ?_
    refine e_call (y := 131) (av := [.int (nI (z_dif (2 ^ n - 1) outs)), .int (nI k_2)]) (rest := []) rfl (c_X6_has (d + 5) (by first | assumption | omega | rfl | trivial) (by first | assumption | omega | rfl | trivial)) (fun r_15 h_15 p_15 => ?_)
    obtain ⟨rfl, o_15⟩ := p_15
    rcases o_15 with ⟨rfl, o_15⟩ | ⟨rfl, o_15⟩
    · skip
      refine e_steps 2 (σ' := (25, [(0, .ref 0), (1, .int (nI k_2))], [.ref 0], (MH g kept was isKept tape (nI fd) (nI ps) (nI tl) flt ranking paper written pairs above below isDone dist rowv rowMany lsz itm weakAbove weakBelow))) rfl ?_
      refine e_call (y := 150) (av := [.ref 0]) (rest := []) rfl (c_X6_reads (d + 5) (by first | assumption | omega | rfl | trivial) (by first | assumption | omega | rfl | trivial) (by first | assumption | omega | rfl | trivial)) (fun r_25 h_25 p_25 => ?_)
      obtain ⟨rfl, rfl⟩ := p_25
      refine e_steps 1 (σ' := (29, [(0, .ref 0), (1, .int (nI k_2))], [.ref 0], (MH g kept was isKept tape (nI 0) (nI 0) (nI fd) ((-nI 1)) ranking paper written pairs above below isDone dist rowv rowMany lsz itm weakAbove weakBelow))) rfl ?_
      refine e_call (y := 157) (av := [.ref 0]) (rest := []) rfl (c_X6_isWholeRanking (d + 1) (n := n) (outs := outs) (bm := bm) (ms := ms) (dr := dr) (cn := cn) (pl := pl) (tp := tp) (by first | assumption | omega | rfl | trivial) (by first | assumption | omega | rfl | trivial) (by first | assumption | omega | rfl | trivial) (by first | assumption | omega | rfl | trivial) (by first | assumption | omega | rfl | trivial)) (fun r_29 h_29 p_29 => ?_)
      obtain ⟨ranking_29, pos_29, flt_29, rfl, o_29⟩ := p_29
      rcases o_29 with ⟨rfl, o_29⟩ | ⟨rfl, o_29⟩
      · skip
        obtain ⟨q, w1, w2, w3, w4⟩ := o_29; replace w3 := w3.symm; subst w3; replace w4 := w4.symm; subst w4; have w5 := z_rp_ok hn8 w1 ⟨fun c _ hb => Bool.noConfusion ((Nat.zero_testBit c).symm.trans hb), fun x hx => absurd hx (Nat.not_lt_zero x)⟩; have hqr : ∀ c, c < n → ranking_29 c = nI (q c) ∧ q c < 256 := fun c hc => ⟨w2 c hc, by have := w5.2.2.1 c hc; omega⟩
        refine e_steps 2 (σ' := (44, [(0, .ref 0), (1, .int (nI k_2))], [.ref 0], (MH g kept was isKept tape (nI 0) (nI fd) (nI fd) ((-nI 1)) ranking_29 paper written pairs above below isDone dist rowv rowMany lsz itm weakAbove weakBelow))) rfl ?_
        refine e_call (y := 172) (av := [.ref 0]) (rest := []) rfl (c_X6_countsAll (d + 4) (n := n) (outs := outs) (bm := bm) (ms := ms) (dr := dr) (cn := cn) (pl := pl) (by first | assumption | omega | rfl | trivial)) (fun r_44 h_44 p_44 => ?_)
        obtain ⟨pairs_44, rfl, rfl, q_44⟩ := p_44
        refine e_steps 2 (σ' := (49, [(2, .int (nI 1)), (0, .ref 0), (1, .int (nI k_2))], [], (MH g kept was isKept tape (nI 0) (nI fd) (nI fd) ((-nI 1)) ranking_29 paper written pairs_44 above below isDone dist rowv rowMany lsz itm weakAbove weakBelow))) rfl ?_
        have loop_49 : ∀ (z_49 : Nat) (k : Nat) (pp : Nat → Int64) (aa : Nat → Int64) (bb : Nat → Int64) (dd : Nat → Int32), 501 - k < z_49 → (1 ≤ k ∧ k ≤ 501 ∧ z_PR pp n (z_fadd q (k - 1) (z_for bm cn pl)) ∧ ∀ y, 1 ≤ y → y < k → z_ff n dr ms (z_dif (2 ^ n - 1) outs) (z_fadd q y (z_for bm cn pl)) ≠ k_2) → z_EV (d + 6) zmX6_needs R (49, [(0, .ref 0), (1, .int (nI k_2)), (2, .int (nI k))], [], (MH g kept was isKept tape (nI 0) (nI fd) (nI fd) ((-nI 1)) ranking_29 paper written pp aa bb dd dist rowv rowMany lsz itm weakAbove weakBelow)) := by
          intro z_49
          induction z_49 with
          | zero => intro k pp aa bb dd hm_49 _; exact absurd hm_49 (Nat.not_lt_zero _)
          | succ z_49 ih_49 =>
            intro k pp aa bb dd hm_49 hi_49
            obtain ⟨l1, l2, l3, l4⟩ := hi_49; have hFk : ∀ i, i < n → ∀ j, j < n → z_fadd q (k - 1) (z_for bm cn pl) i j ≤ 40000500 := (fun i hi j hj => by have := hFl i hi j hj; unfold z_fadd; split <;> omega)
            refine e_steps 2 (σ' := (53, [(0, .ref 0), (1, .int (nI k_2)), (2, .int (nI k))], [.int (nI 500), .int (nI k)], (MH g kept was isKept tape (nI 0) (nI fd) (nI fd) ((-nI 1)) ranking_29 paper written pp aa bb dd dist rowv rowMany lsz itm weakAbove weakBelow))) rfl ?_
            refine e_if (c := nI 500 < nI k) rfl (fun c_53 => ?_) (fun c_53 => ?_)
            · skip
              rw [nI_ltI (by omega) (by omega)] at c_53
              refine e_steps 1 (σ' := (89, [(0, .ref 0), (1, .int (nI k_2)), (2, .int (nI k))], [.int ((-nI 5))], (MH g kept was isKept tape (nI 0) (nI fd) (nI fd) ((-nI 1)) ranking_29 paper written pp aa bb dd dist rowv rowMany lsz itm weakAbove weakBelow))) rfl ?_
              exact e_ret rfl (trivial) (hR _ _ ⟨ranking_29, fd, fd, 0, (-nI 1), pp, aa, bb, dd, ((-nI 5)), rfl, rfl, (by first | exact ⟨by omega, by omega, Or.inr (Or.inr ⟨rfl, _, hk_2, rfl, o_15, Or.inl ⟨b, p, q, w1, w2, w3, rfl⟩⟩)⟩ | exact ⟨by omega, by omega, Or.inr (Or.inr ⟨rfl, _, hk_2, rfl, o_15, Or.inr ⟨q, w1, Or.inr ⟨rfl, fun y h1 h2 => l4 y h1 (by omega)⟩⟩⟩)⟩ | exact ⟨by omega, by omega, Or.inr (Or.inl ⟨rfl, rfl, _, hk_2, rfl, o_15⟩)⟩ | exact ⟨by omega, by omega, Or.inl ⟨rfl, rfl, o_2⟩⟩)⟩)
            · skip
              rw [nI_ltI (by omega) (by omega)] at c_53
              refine e_steps 2 (σ' := (58, [(0, .ref 0), (1, .int (nI k_2)), (2, .int (nI k))], [.int (nI 1), .ref 0], (MH g kept was isKept tape (nI 0) (nI fd) (nI fd) ((-nI 1)) ranking_29 paper written pp aa bb dd dist rowv rowMany lsz itm weakAbove weakBelow))) rfl ?_
              refine e_call (y := 173) (av := [.ref 0, .int (nI 1)]) (rest := []) rfl (c_X6_countsRanking (d + 5) (n := n) (outs := outs) (bm := bm) (ms := ms) (dr := dr) (cn := cn) (pl := pl) (q := q) (by first | assumption | omega | rfl | trivial) (by exact hqr)) (fun r_58 h_58 p_58 => ?_)
              obtain ⟨pairs_58, rfl, rfl, q_58⟩ := p_58
              have hP2 := z_PR_add (c := 1) hn8 l3 (nI_l (by omega)) (fun i hi j hj => by have := hFk i hi j hj; omega) q_58; rw [z_fadd_step, show k - 1 + 1 = k by omega] at hP2
              refine e_steps 4 (σ' := (67, [(0, .ref 0), (1, .int (nI k_2)), (2, .int (nI k))], [.int (nI 3), .ref 1, .ref 0], (MH g kept was isKept tape (nI 0) (nI fd) (nI fd) ((-nI 1)) ranking_29 paper written pairs_58 aa bb dd dist rowv rowMany lsz itm weakAbove weakBelow))) rfl ?_
              refine e_ial (nI ms) rfl rfl (by first | assumption | omega | rfl | trivial) (by decide) (hm0) ?_
              refine e_steps 1 (σ' := (69, [(0, .ref 0), (1, .int (nI k_2)), (2, .int (nI k))], [.ref 0, .int (nI ms), .ref 0], (MH g kept was isKept tape (nI 0) (nI fd) (nI fd) ((-nI 1)) ranking_29 paper written pairs_58 aa bb dd dist rowv rowMany lsz itm weakAbove weakBelow))) rfl ?_
              refine e_call (y := 134) (av := [.ref 0]) (rest := [.int (nI ms), .ref 0]) rfl (c_X6_ins (d + 4) (n := n) (outs := outs) (bm := bm) (ms := ms) (dr := dr) (cn := cn) (pl := pl) (by first | assumption | omega | rfl | trivial)) (fun r_69 h_69 p_69 => ?_)
              obtain ⟨rfl, rfl⟩ := p_69
              refine e_steps 0 (σ' := (72, [(0, .ref 0), (1, .int (nI k_2)), (2, .int (nI k))], [.int (nI (z_dif (2 ^ n - 1) outs)), .int (nI ms), .ref 0], (MH g kept was isKept tape (nI 0) (nI fd) (nI fd) ((-nI 1)) ranking_29 paper written pairs_58 aa bb dd dist rowv rowMany lsz itm weakAbove weakBelow))) rfl ?_
              refine e_call (y := 210) (av := [.ref 0, .int (nI ms), .int (nI (z_dif (2 ^ n - 1) outs))]) (rest := []) rfl (c_X6_first (d + 0) (n := n) (outs := outs) (bm := bm) (ms := ms) (dr := dr) (cn := cn) (pl := pl) (F := (z_fadd q k (z_for bm cn pl))) (by first | assumption | omega | rfl | trivial) (by first | assumption | omega | rfl | trivial) (by exact hP2) (by exact z_ins_lt) (by first | assumption | omega | rfl | trivial)) (fun r_72 h_72 p_72 => ?_)
              obtain ⟨above_72, below_72, isDone_72, v_72, rfl, rfl, q_72⟩ := p_72
              refine e_steps 1 (σ' := (76, [(0, .ref 0), (1, .int (nI k_2)), (2, .int (nI k))], [.int (nI k_2), .int (nI v_72)], (MH g kept was isKept tape (nI 0) (nI fd) (nI fd) ((-nI 1)) ranking_29 paper written pairs_58 above_72 below_72 isDone_72 dist rowv rowMany lsz itm weakAbove weakBelow))) rfl ?_
              refine e_if (c := ¬ nI v_72 = nI k_2) rfl (fun c_76 => ?_) (fun c_76 => ?_)
              · skip
                rw [nI_eq (by omega) (by omega)] at c_76
                skip
                refine e_steps 0 (σ' := (81, [(0, .ref 0), (1, .int (nI k_2)), (2, .int (nI k))], [], (MH g kept was isKept tape (nI 0) (nI fd) (nI fd) ((-nI 1)) ranking_29 paper written pairs_58 above_72 below_72 isDone_72 dist rowv rowMany lsz itm weakAbove weakBelow))) rfl ?_
                refine e_inc (n := 1) rfl rfl rfl (k + 1) (by rfl) [(2, .int (nI (k + 1))), (0, .ref 0), (1, .int (nI k_2))] rfl ?_
                refine e_steps 1 (σ' := (49, [(2, .int (nI (k + 1))), (0, .ref 0), (1, .int (nI k_2))], [], (MH g kept was isKept tape (nI 0) (nI fd) (nI fd) ((-nI 1)) ranking_29 paper written pairs_58 above_72 below_72 isDone_72 dist rowv rowMany lsz itm weakAbove weakBelow))) rfl ?_
                refine e_sub [1, 2, 0] rfl ?_
                exact ih_49 (k + 1) pairs_58 above_72 below_72 isDone_72 (by omega) (by exact ⟨by omega, by omega, hP2, fun y h1 h2 => by rcases (by omega : y < k ∨ y = k) with e | e; exact l4 y h1 e; (rw [e, ← q_72.1]; assumption)⟩)
              · skip
                rw [nI_eq (by omega) (by omega)] at c_76
                replace c_76 := Decidable.not_not.mp c_76
                refine e_steps 1 (σ' := (80, [(0, .ref 0), (1, .int (nI k_2)), (2, .int (nI k))], [.int (nI k)], (MH g kept was isKept tape (nI 0) (nI fd) (nI fd) ((-nI 1)) ranking_29 paper written pairs_58 above_72 below_72 isDone_72 dist rowv rowMany lsz itm weakAbove weakBelow))) rfl ?_
                exact e_ret rfl (trivial) (hR _ _ ⟨ranking_29, fd, fd, 0, (-nI 1), pairs_58, above_72, below_72, isDone_72, (nI k), rfl, rfl, (by first | exact ⟨by omega, by omega, Or.inr (Or.inr ⟨rfl, _, hk_2, rfl, o_15, Or.inl ⟨b, p, q, w1, w2, w3, rfl⟩⟩)⟩ | exact ⟨by omega, by omega, Or.inr (Or.inr ⟨rfl, _, hk_2, rfl, o_15, Or.inr ⟨q, w1, Or.inl ⟨k, by omega, by omega, rfl, by rw [← q_72.1]; assumption, l4⟩⟩⟩)⟩ | exact ⟨by omega, by omega, Or.inr (Or.inr ⟨rfl, _, hk_2, rfl, o_15, Or.inr ⟨q, w1, Or.inr ⟨rfl, fun y h1 h2 => l4 y h1 (by omega)⟩⟩⟩)⟩ | exact ⟨by omega, by omega, Or.inr (Or.inl ⟨rfl, rfl, _, hk_2, rfl, o_15⟩)⟩ | exact ⟨by omega, by omega, Or.inl ⟨rfl, rfl, o_2⟩⟩)⟩)
        refine e_sub [1, 2, 0] rfl ?_
        exact loop_49 _ 1 pairs_44 above below isDone (Nat.lt_succ_self _) (by exact ⟨by omega, by omega, by show z_PR _ n (z_fadd q 0 _); rw [z_fadd_0]; exact q_44, fun y h1 h2 => absurd h2 (by omega)⟩)
      · skip
        obtain ⟨b, p, q, w1, w2, w3, w4, w5⟩ := o_29; replace w4 := w4.symm; subst w4; subst w5
        refine e_steps 5 (σ' := (42, [(0, .ref 0), (1, .int (nI k_2))], [.int ((((-nI 100)) - ((nI p))))], (MH g kept was isKept tape (nI 0) (nI p) (nI fd) ((nI p)) ranking_29 paper written pairs above below isDone dist rowv rowMany lsz itm weakAbove weakBelow))) rfl ?_
        exact e_ret rfl (trivial) (hR _ _ ⟨ranking_29, p, fd, 0, (nI p), pairs, above, below, isDone, ((((-nI 100)) - ((nI p)))), rfl, rfl, (by first | exact ⟨by omega, by omega, Or.inr (Or.inr ⟨rfl, _, hk_2, rfl, o_15, Or.inl ⟨b, p, q, w1, w2, w3, rfl⟩⟩)⟩ | exact ⟨by omega, by omega, Or.inr (Or.inr ⟨rfl, _, hk_2, rfl, o_15, Or.inr ⟨q, w1, Or.inr ⟨rfl, fun y h1 h2 => l4 y h1 (by omega)⟩⟩⟩)⟩ | exact ⟨by omega, by omega, Or.inr (Or.inl ⟨rfl, rfl, _, hk_2, rfl, o_15⟩)⟩ | exact ⟨by omega, by omega, Or.inl ⟨rfl, rfl, o_2⟩⟩)⟩)
    · skip
      refine e_steps 2 (σ' := (23, [(0, .ref 0), (1, .int (nI k_2))], [.int ((-nI 3))], (MH g kept was isKept tape (nI fd) (nI ps) (nI tl) flt ranking paper written pairs above below isDone dist rowv rowMany lsz itm weakAbove weakBelow))) rfl ?_
      exact e_ret rfl (trivial) (hR _ _ ⟨ranking, ps, tl, fd, flt, pairs, above, below, isDone, ((-nI 3)), rfl, rfl, (by first | exact ⟨by omega, by omega, Or.inr (Or.inr ⟨rfl, _, hk_2, rfl, o_15, Or.inl ⟨b, p, q, w1, w2, w3, rfl⟩⟩)⟩ | exact ⟨by omega, by omega, Or.inr (Or.inr ⟨rfl, _, hk_2, rfl, o_15, Or.inr ⟨q, w1, Or.inr ⟨rfl, fun y h1 h2 => l4 y h1 (by omega)⟩⟩⟩)⟩ | exact ⟨by omega, by omega, Or.inr (Or.inl ⟨rfl, rfl, _, hk_2, rfl, o_15⟩)⟩ | exact ⟨by omega, by omega, Or.inl ⟨rfl, rfl, o_2⟩⟩)⟩)
  · skip
    refine e_steps 2 (σ' := (9, [(0, .ref 0), (1, .int c)], [.int ((-nI 1))], (MH g kept was isKept tape (nI fd) (nI ps) (nI tl) flt ranking paper written pairs above below isDone dist rowv rowMany lsz itm weakAbove weakBelow))) rfl ?_
    exact e_ret rfl (trivial) (hR _ _ ⟨ranking, ps, tl, fd, flt, pairs, above, below, isDone, ((-nI 1)), rfl, rfl, (by exact ⟨by omega, by omega, Or.inl ⟨rfl, rfl, o_2⟩⟩)⟩)
theorem c_X6_turners (d : Nat) {g : Nat → Int32} {kept : Nat → Int32} {was : Nat → Int32} {isKept : Int32} {tape : Nat → Int32} {fed : Int32} {pos : Int32} {tlen : Int32} {flt : Int32} {ranking : Nat → Int32} {paper : Nat → Int32} {written : Int32} {pairs : Nat → Int64} {above : Nat → Int64} {below : Nat → Int64} {isDone : Nat → Int32} {dist : Nat → Int32} {rowv : Nat → Int32} {rowMany : Int32} {lsz : Nat → Int32} {itm : Nat → Int64} {weakAbove : Int64} {weakBelow : Int64} {n : Nat} {outs : Nat} {bm : Nat} {ms : Nat} {dr : Nat → Nat} {cn : Nat → Nat} {pl : Nat → Nat → Nat} (hG : z_GI g n outs bm ms dr cn pl) : z_CAL (d + 8) 215 [.ref 0] (MH g kept was isKept tape fed pos tlen flt ranking paper written pairs above below isDone dist rowv rowMany lsz itm weakAbove weakBelow) (fun r h2 => ∃ (pairs2 : Nat → Int64) (ab2 : Nat → Int64) (be2 : Nat → Int64) (dn2 : Nat → Int32) (v : Int64), r = some (.long v) ∧ h2 = (MH g kept was isKept tape fed pos tlen flt ranking paper written pairs2 ab2 be2 dn2 dist rowv rowMany lsz itm weakAbove weakBelow) ∧ (v = lN (z_set bm (fun b => decide (z_ff n dr ms (z_dif (2 ^ n - 1) outs) (z_fsub (pl b) 1 (z_for bm cn pl)) ≠ z_ff n dr ms (z_dif (2 ^ n - 1) outs) (z_for bm cn pl)))))) := by
  refine e_of2 (q := zmX6_turners) rfl rfl (fun R hR => ?_)
  obtain ⟨⟨hn0, hn2, hn8⟩, ⟨ho0, ho8, hin⟩, ⟨hb0, hb40⟩, ⟨hm0, hm4⟩, ⟨hdr, hdl, hdc⟩, hcn, hpl⟩ := id hG; have hp8 := z_p2 hn8; have ho256 : outs < 256 := (by omega); have hi256 : z_dif (2 ^ n - 1) outs < 256 := (by have := z_dif_le (s := 2 ^ n - 1) (t := outs); omega)
  refine e_steps 1 (σ' := (1, [(0, .ref 0)], [.ref 0], (MH g kept was isKept tape fed pos tlen flt ranking paper written pairs above below isDone dist rowv rowMany lsz itm weakAbove weakBelow))) rfl ?_
  refine e_call (y := 211) (av := [.ref 0]) (rest := []) rfl (c_X6_firstNow (d + 0) (n := n) (outs := outs) (bm := bm) (ms := ms) (dr := dr) (cn := cn) (pl := pl) (by first | assumption | omega | rfl | trivial)) (fun r_1 h_1 p_1 => ?_)
  obtain ⟨pairs_1, above_1, below_1, isDone_1, v_1, rfl, rfl, q_1⟩ := p_1
  refine e_steps 5 (σ' := (10, [(4, .int (nI 0)), (2, .long (lN 0)), (1, .int (nI v_1)), (0, .ref 0)], [], (MH g kept was isKept tape fed pos tlen flt ranking paper written pairs_1 above_1 below_1 isDone_1 dist rowv rowMany lsz itm weakAbove weakBelow))) rfl ?_
  have loop_10 : ∀ (z_10 : Nat) (st : Nat) (b : Nat) (pp : Nat → Int64) (aa : Nat → Int64) (bb : Nat → Int64) (dd : Nat → Int32), bm - b < z_10 → (b ≤ bm ∧ st = z_set b (fun b => decide (z_ff n dr ms (z_dif (2 ^ n - 1) outs) (z_fsub (pl b) 1 (z_for bm cn pl)) ≠ v_1)) ∧ z_PR pp n (z_for bm cn pl)) → z_EV (d + 7) zmX6_turners R (10, [(0, .ref 0), (1, .int (nI v_1)), (2, .long (lN st)), (4, .int (nI b))], [], (MH g kept was isKept tape fed pos tlen flt ranking paper written pp aa bb dd dist rowv rowMany lsz itm weakAbove weakBelow)) := by
    intro z_10
    induction z_10 with
    | zero => intro st b pp aa bb dd hm_10 _; exact absurd hm_10 (Nat.not_lt_zero _)
    | succ z_10 ih_10 =>
      intro st b pp aa bb dd hm_10 hi_10
      obtain ⟨l1, l2, l3⟩ := hi_10
      refine e_steps 4 (σ' := (17, [(0, .ref 0), (1, .int (nI v_1)), (2, .long (lN st)), (4, .int (nI b))], [.int (nI 2), .ref 1, .int (nI b)], (MH g kept was isKept tape fed pos tlen flt ranking paper written pp aa bb dd dist rowv rowMany lsz itm weakAbove weakBelow))) rfl ?_
      refine e_ial (nI bm) rfl rfl (by first | assumption | omega | rfl | trivial) (by decide) (hb0) ?_
      refine e_steps 0 (σ' := (18, [(0, .ref 0), (1, .int (nI v_1)), (2, .long (lN st)), (4, .int (nI b))], [.int (nI bm), .int (nI b)], (MH g kept was isKept tape fed pos tlen flt ranking paper written pp aa bb dd dist rowv rowMany lsz itm weakAbove weakBelow))) rfl ?_
      refine e_if (c := nI bm ≤ nI b) rfl (fun c_18 => ?_) (fun c_18 => ?_)
      · skip
        rw [nI_leI (by omega) (by omega)] at c_18
        refine e_steps 1 (σ' := (83, [(0, .ref 0), (1, .int (nI v_1)), (2, .long (lN st)), (4, .int (nI b))], [.long (lN st)], (MH g kept was isKept tape fed pos tlen flt ranking paper written pp aa bb dd dist rowv rowMany lsz itm weakAbove weakBelow))) rfl ?_
        exact e_ret rfl (trivial) (hR _ _ ⟨pp, aa, bb, dd, (lN st), rfl, rfl, (by rw [l2, show b = bm by omega, q_1.1])⟩)
      · skip
        rw [nI_leI (by omega) (by omega)] at c_18
        refine e_steps 2 (σ' := (24, [(0, .ref 0), (1, .int (nI v_1)), (2, .long (lN st)), (4, .int (nI b))], [.int (nI 52), .ref 0], (MH g kept was isKept tape fed pos tlen flt ranking paper written pp aa bb dd dist rowv rowMany lsz itm weakAbove weakBelow))) rfl ?_
        have hqb : ∀ c, c < n → g (52 + 8 * b + c) = nI (pl b c) ∧ pl b c < 256 := fun c hc => ⟨(hpl b (by omega)).1 c hc, by have := (hpl b (by omega)).2.1 c hc; omega⟩; have hge : ∀ i, i < n → ∀ j, j < n → pl b i < pl b j → cn b ≤ (z_for bm cn pl) i j := (fun i _ j _ h => z_for_ge (by omega) h); have hcb := hcn b (by omega)
        refine e_steps 2 (σ' := (28, [(0, .ref 0), (1, .int (nI v_1)), (2, .long (lN st)), (4, .int (nI b))], [.int (nI b), .int (nI 8), .int (nI 52), .ref 0], (MH g kept was isKept tape fed pos tlen flt ranking paper written pp aa bb dd dist rowv rowMany lsz itm weakAbove weakBelow))) rfl ?_
        refine e_mul (8 * b) rfl (by first | rfl | omega | simp) ?_
        refine e_steps 0 (σ' := (29, [(0, .ref 0), (1, .int (nI v_1)), (2, .long (lN st)), (4, .int (nI b))], [.int (nI (8 * b)), .int (nI 52), .ref 0], (MH g kept was isKept tape fed pos tlen flt ranking paper written pp aa bb dd dist rowv rowMany lsz itm weakAbove weakBelow))) rfl ?_
        refine e_add (52 + 8 * b) rfl (by first | rfl | omega) ?_
        refine e_steps 1 (σ' := (31, [(0, .ref 0), (1, .int (nI v_1)), (2, .long (lN st)), (4, .int (nI b))], [.int ((-nI 1)), .int (nI (52 + 8 * b)), .ref 0], (MH g kept was isKept tape fed pos tlen flt ranking paper written pp aa bb dd dist rowv rowMany lsz itm weakAbove weakBelow))) rfl ?_
        refine e_call (y := 171) (av := [.ref 0, .int (nI (52 + 8 * b)), .int ((-nI 1))]) (rest := []) rfl (c_X6_counts (d + 6) (n := n) (outs := outs) (bm := bm) (ms := ms) (dr := dr) (cn := cn) (pl := pl) (q := (pl b)) (by first | assumption | omega | rfl | trivial) (by exact hqb) (by first | assumption | omega | rfl | trivial)) (fun r_31 h_31 p_31 => ?_)
        obtain ⟨pairs_31, rfl, rfl, q_31⟩ := p_31
        have hP2 := z_PR_sub (c := 1) hn8 l3 z_m1L (fun i hi j hj h => by have := hge i hi j hj h; omega) q_31
        refine e_steps 5 (σ' := (41, [(0, .ref 0), (1, .int (nI v_1)), (2, .long (lN st)), (4, .int (nI b))], [.int (nI 3), .ref 1, .ref 0, .long (lN st)], (MH g kept was isKept tape fed pos tlen flt ranking paper written pairs_31 aa bb dd dist rowv rowMany lsz itm weakAbove weakBelow))) rfl ?_
        refine e_ial (nI ms) rfl rfl (by first | assumption | omega | rfl | trivial) (by decide) (hm0) ?_
        refine e_steps 1 (σ' := (43, [(0, .ref 0), (1, .int (nI v_1)), (2, .long (lN st)), (4, .int (nI b))], [.ref 0, .int (nI ms), .ref 0, .long (lN st)], (MH g kept was isKept tape fed pos tlen flt ranking paper written pairs_31 aa bb dd dist rowv rowMany lsz itm weakAbove weakBelow))) rfl ?_
        refine e_call (y := 134) (av := [.ref 0]) (rest := [.int (nI ms), .ref 0, .long (lN st)]) rfl (c_X6_ins (d + 5) (n := n) (outs := outs) (bm := bm) (ms := ms) (dr := dr) (cn := cn) (pl := pl) (by first | assumption | omega | rfl | trivial)) (fun r_43 h_43 p_43 => ?_)
        obtain ⟨rfl, rfl⟩ := p_43
        refine e_steps 0 (σ' := (46, [(0, .ref 0), (1, .int (nI v_1)), (2, .long (lN st)), (4, .int (nI b))], [.int (nI (z_dif (2 ^ n - 1) outs)), .int (nI ms), .ref 0, .long (lN st)], (MH g kept was isKept tape fed pos tlen flt ranking paper written pairs_31 aa bb dd dist rowv rowMany lsz itm weakAbove weakBelow))) rfl ?_
        refine e_call (y := 210) (av := [.ref 0, .int (nI ms), .int (nI (z_dif (2 ^ n - 1) outs))]) (rest := [.long (lN st)]) rfl (c_X6_first (d + 1) (n := n) (outs := outs) (bm := bm) (ms := ms) (dr := dr) (cn := cn) (pl := pl) (F := (z_fsub (pl b) 1 (z_for bm cn pl))) (by first | assumption | omega | rfl | trivial) (by first | assumption | omega | rfl | trivial) (by exact hP2) (by exact z_ins_lt) (by first | assumption | omega | rfl | trivial)) (fun r_46 h_46 p_46 => ?_)
        obtain ⟨above_46, below_46, isDone_46, v_46, rfl, rfl, q_46⟩ := p_46
        refine e_steps 1 (σ' := (50, [(0, .ref 0), (1, .int (nI v_1)), (2, .long (lN st)), (4, .int (nI b))], [.int (nI v_1), .int (nI v_46), .long (lN st)], (MH g kept was isKept tape fed pos tlen flt ranking paper written pairs_31 above_46 below_46 isDone_46 dist rowv rowMany lsz itm weakAbove weakBelow))) rfl ?_
        refine e_if (c := nI v_46 = nI v_1) rfl (fun c_50 => ?_) (fun c_50 => ?_)
        · skip
          rw [nI_eq (by omega) (by omega)] at c_50
          refine e_steps 2 (σ' := (62, [(0, .ref 0), (1, .int (nI v_1)), (2, .long (lN st)), (4, .int (nI b))], [.long (((lN st) ||| (lN 0)))], (MH g kept was isKept tape fed pos tlen flt ranking paper written pairs_31 above_46 below_46 isDone_46 dist rowv rowMany lsz itm weakAbove weakBelow))) rfl ?_
          have er_61 : ((lN st) ||| (lN 0)) = lN (st ||| 0) := lN_or _ _
          rw [er_61]
          refine e_steps 5 (σ' := (70, [(2, .long (lN (st ||| 0))), (0, .ref 0), (1, .int (nI v_1)), (4, .int (nI b))], [.int (nI b), .int (nI 8), .int (nI 52), .ref 0], (MH g kept was isKept tape fed pos tlen flt ranking paper written pairs_31 above_46 below_46 isDone_46 dist rowv rowMany lsz itm weakAbove weakBelow))) rfl ?_
          refine e_mul (8 * b) rfl (by first | rfl | omega | simp) ?_
          refine e_steps 0 (σ' := (71, [(2, .long (lN (st ||| 0))), (0, .ref 0), (1, .int (nI v_1)), (4, .int (nI b))], [.int (nI (8 * b)), .int (nI 52), .ref 0], (MH g kept was isKept tape fed pos tlen flt ranking paper written pairs_31 above_46 below_46 isDone_46 dist rowv rowMany lsz itm weakAbove weakBelow))) rfl ?_
          refine e_add (52 + 8 * b) rfl (by first | rfl | omega) ?_
          refine e_steps 1 (σ' := (73, [(2, .long (lN (st ||| 0))), (0, .ref 0), (1, .int (nI v_1)), (4, .int (nI b))], [.int (nI 1), .int (nI (52 + 8 * b)), .ref 0], (MH g kept was isKept tape fed pos tlen flt ranking paper written pairs_31 above_46 below_46 isDone_46 dist rowv rowMany lsz itm weakAbove weakBelow))) rfl ?_
          refine e_call (y := 171) (av := [.ref 0, .int (nI (52 + 8 * b)), .int (nI 1)]) (rest := []) rfl (c_X6_counts (d + 6) (n := n) (outs := outs) (bm := bm) (ms := ms) (dr := dr) (cn := cn) (pl := pl) (q := (pl b)) (by first | assumption | omega | rfl | trivial) (by exact hqb) (by first | assumption | omega | rfl | trivial)) (fun r_73 h_73 p_73 => ?_)
          obtain ⟨pairs_73, rfl, rfl, q_73⟩ := p_73
          have hP4 := z_PR_add (c := 1) hn8 hP2 (nI_l (by omega)) (fun i hi j hj => by have := (l3 i hi j hj).2; unfold z_fsub; have h4 := z_for_le (cn := cn) (pl := pl) (i := i) (j := j) (b := bm) (fun z hz => (hcn z hz).2.2); omega) q_73; have hP5 := z_PR_back hP4 (fun i hi j hj => z_fas (fun h => by have := hge i hi j hj h; omega))
          refine e_steps 0 (σ' := (76, [(2, .long (lN (st ||| 0))), (0, .ref 0), (1, .int (nI v_1)), (4, .int (nI b))], [], (MH g kept was isKept tape fed pos tlen flt ranking paper written pairs_73 above_46 below_46 isDone_46 dist rowv rowMany lsz itm weakAbove weakBelow))) rfl ?_
          refine e_inc (n := 1) rfl rfl rfl (b + 1) (by rfl) [(4, .int (nI (b + 1))), (2, .long (lN (st ||| 0))), (0, .ref 0), (1, .int (nI v_1))] rfl ?_
          refine e_steps 1 (σ' := (10, [(4, .int (nI (b + 1))), (2, .long (lN (st ||| 0))), (0, .ref 0), (1, .int (nI v_1))], [], (MH g kept was isKept tape fed pos tlen flt ranking paper written pairs_73 above_46 below_46 isDone_46 dist rowv rowMany lsz itm weakAbove weakBelow))) rfl ?_
          refine e_sub [2, 3, 1, 0] rfl ?_
          exact ih_10 (st ||| 0) (b + 1) pairs_73 above_46 below_46 isDone_46 (by omega) (by first | exact ⟨by omega, z_set_T l2 (decide_eq_true (by rw [← q_46.1]; assumption)), hP5⟩ | exact ⟨by omega, z_set_F l2 (decide_eq_false (by rw [← q_46.1]; exact fun q => q (by assumption))), hP5⟩)
        · skip
          rw [nI_eq (by omega) (by omega)] at c_50
          refine e_steps 3 (σ' := (57, [(0, .ref 0), (1, .int (nI v_1)), (2, .long (lN st)), (4, .int (nI b))], [.long (((lN 1) <<< (((nI b)).toInt64 &&& 63))), .long (lN st)], (MH g kept was isKept tape fed pos tlen flt ranking paper written pairs_31 above_46 below_46 isDone_46 dist rowv rowMany lsz itm weakAbove weakBelow))) rfl ?_
          have er_56 : ((lN 1) <<< (((nI b)).toInt64 &&& 63)) = lN (2 ^ b) := z_lshl _ (by omega)
          rw [er_56]
          refine e_steps 2 (σ' := (62, [(0, .ref 0), (1, .int (nI v_1)), (2, .long (lN st)), (4, .int (nI b))], [.long (((lN st) ||| (lN (2 ^ b))))], (MH g kept was isKept tape fed pos tlen flt ranking paper written pairs_31 above_46 below_46 isDone_46 dist rowv rowMany lsz itm weakAbove weakBelow))) rfl ?_
          have er_61 : ((lN st) ||| (lN (2 ^ b))) = lN (st ||| 2 ^ b) := lN_or _ _
          rw [er_61]
          refine e_steps 5 (σ' := (70, [(2, .long (lN (st ||| 2 ^ b))), (0, .ref 0), (1, .int (nI v_1)), (4, .int (nI b))], [.int (nI b), .int (nI 8), .int (nI 52), .ref 0], (MH g kept was isKept tape fed pos tlen flt ranking paper written pairs_31 above_46 below_46 isDone_46 dist rowv rowMany lsz itm weakAbove weakBelow))) rfl ?_
          refine e_mul (8 * b) rfl (by first | rfl | omega | simp) ?_
          refine e_steps 0 (σ' := (71, [(2, .long (lN (st ||| 2 ^ b))), (0, .ref 0), (1, .int (nI v_1)), (4, .int (nI b))], [.int (nI (8 * b)), .int (nI 52), .ref 0], (MH g kept was isKept tape fed pos tlen flt ranking paper written pairs_31 above_46 below_46 isDone_46 dist rowv rowMany lsz itm weakAbove weakBelow))) rfl ?_
          refine e_add (52 + 8 * b) rfl (by first | rfl | omega) ?_
          refine e_steps 1 (σ' := (73, [(2, .long (lN (st ||| 2 ^ b))), (0, .ref 0), (1, .int (nI v_1)), (4, .int (nI b))], [.int (nI 1), .int (nI (52 + 8 * b)), .ref 0], (MH g kept was isKept tape fed pos tlen flt ranking paper written pairs_31 above_46 below_46 isDone_46 dist rowv rowMany lsz itm weakAbove weakBelow))) rfl ?_
          refine e_call (y := 171) (av := [.ref 0, .int (nI (52 + 8 * b)), .int (nI 1)]) (rest := []) rfl (c_X6_counts (d + 6) (n := n) (outs := outs) (bm := bm) (ms := ms) (dr := dr) (cn := cn) (pl := pl) (q := (pl b)) (by first | assumption | omega | rfl | trivial) (by exact hqb) (by first | assumption | omega | rfl | trivial)) (fun r_73 h_73 p_73 => ?_)
          obtain ⟨pairs_73, rfl, rfl, q_73⟩ := p_73
          have hP4 := z_PR_add (c := 1) hn8 hP2 (nI_l (by omega)) (fun i hi j hj => by have := (l3 i hi j hj).2; unfold z_fsub; have h4 := z_for_le (cn := cn) (pl := pl) (i := i) (j := j) (b := bm) (fun z hz => (hcn z hz).2.2); omega) q_73; have hP5 := z_PR_back hP4 (fun i hi j hj => z_fas (fun h => by have := hge i hi j hj h; omega))
          refine e_steps 0 (σ' := (76, [(2, .long (lN (st ||| 2 ^ b))), (0, .ref 0), (1, .int (nI v_1)), (4, .int (nI b))], [], (MH g kept was isKept tape fed pos tlen flt ranking paper written pairs_73 above_46 below_46 isDone_46 dist rowv rowMany lsz itm weakAbove weakBelow))) rfl ?_
          refine e_inc (n := 1) rfl rfl rfl (b + 1) (by rfl) [(4, .int (nI (b + 1))), (2, .long (lN (st ||| 2 ^ b))), (0, .ref 0), (1, .int (nI v_1))] rfl ?_
          refine e_steps 1 (σ' := (10, [(4, .int (nI (b + 1))), (2, .long (lN (st ||| 2 ^ b))), (0, .ref 0), (1, .int (nI v_1))], [], (MH g kept was isKept tape fed pos tlen flt ranking paper written pairs_73 above_46 below_46 isDone_46 dist rowv rowMany lsz itm weakAbove weakBelow))) rfl ?_
          refine e_sub [2, 3, 1, 0] rfl ?_
          exact ih_10 (st ||| 2 ^ b) (b + 1) pairs_73 above_46 below_46 isDone_46 (by omega) (by first | exact ⟨by omega, z_set_T l2 (decide_eq_true (by rw [← q_46.1]; assumption)), hP5⟩ | exact ⟨by omega, z_set_F l2 (decide_eq_false (by rw [← q_46.1]; exact fun q => q (by assumption))), hP5⟩)
  refine e_sub [3, 2, 1, 0] rfl ?_
  exact loop_10 _ 0 0 pairs_1 above_1 below_1 isDone_1 (Nat.lt_succ_self _) (by exact ⟨by omega, rfl, q_1.2.2⟩)
theorem c_X6_agree (d : Nat) {g : Nat → Int32} {kept : Nat → Int32} {was : Nat → Int32} {isKept : Int32} {tape : Nat → Int32} {fed : Int32} {pos : Int32} {tlen : Int32} {flt : Int32} {ranking : Nat → Int32} {paper : Nat → Int32} {written : Int32} {pairs : Nat → Int64} {above : Nat → Int64} {below : Nat → Int64} {isDone : Nat → Int32} {dist : Nat → Int32} {rowv : Nat → Int32} {rowMany : Int32} {lsz : Nat → Int32} {itm : Nat → Int64} {weakAbove : Int64} {weakBelow : Int64} {n : Nat} {outs : Nat} {bm : Nat} {ms : Nat} {dr : Nat → Nat} {cn : Nat → Nat} {pl : Nat → Nat → Nat} (hG : z_GI g n outs bm ms dr cn pl) : z_CAL (d + 8) 216 [.ref 0] (MH g kept was isKept tape fed pos tlen flt ranking paper written pairs above below isDone dist rowv rowMany lsz itm weakAbove weakBelow) (fun r h2 => ∃ (pairs2 : Nat → Int64) (ab2 : Nat → Int64) (be2 : Nat → Int64) (dn2 : Nat → Int32) (v : Nat), r = some (.int (nI v)) ∧ h2 = (MH g kept was isKept tape fed pos tlen flt ranking paper written pairs2 ab2 be2 dn2 dist rowv rowMany lsz itm weakAbove weakBelow) ∧ (v = z_set 4 (fun m => decide (z_ff n dr m (z_dif (2 ^ n - 1) outs) (z_for bm cn pl) = z_ff n dr ms (z_dif (2 ^ n - 1) outs) (z_for bm cn pl))))) := by
  refine e_of2 (q := zmX6_agree) rfl rfl (fun R hR => ?_)
  obtain ⟨⟨hn0, hn2, hn8⟩, ⟨ho0, ho8, hin⟩, ⟨hb0, hb40⟩, ⟨hm0, hm4⟩, ⟨hdr, hdl, hdc⟩, hcn, hpl⟩ := id hG; have hp8 := z_p2 hn8; have ho256 : outs < 256 := (by omega); have hi256 : z_dif (2 ^ n - 1) outs < 256 := (by have := z_dif_le (s := 2 ^ n - 1) (t := outs); omega)
  refine e_steps 1 (σ' := (1, [(0, .ref 0)], [.ref 0], (MH g kept was isKept tape fed pos tlen flt ranking paper written pairs above below isDone dist rowv rowMany lsz itm weakAbove weakBelow))) rfl ?_
  refine e_call (y := 211) (av := [.ref 0]) (rest := []) rfl (c_X6_firstNow (d + 0) (n := n) (outs := outs) (bm := bm) (ms := ms) (dr := dr) (cn := cn) (pl := pl) (by first | assumption | omega | rfl | trivial)) (fun r_1 h_1 p_1 => ?_)
  obtain ⟨pairs_1, above_1, below_1, isDone_1, v_1, rfl, rfl, q_1⟩ := p_1
  refine e_steps 5 (σ' := (9, [(3, .int (nI 0)), (2, .int (nI 0)), (1, .int (nI v_1)), (0, .ref 0)], [], (MH g kept was isKept tape fed pos tlen flt ranking paper written pairs_1 above_1 below_1 isDone_1 dist rowv rowMany lsz itm weakAbove weakBelow))) rfl ?_
  have loop_9 : ∀ (z_9 : Nat) (st : Nat) (m : Nat) (aa : Nat → Int64) (bb : Nat → Int64) (dd : Nat → Int32), 4 - m < z_9 → (m ≤ 4 ∧ st = z_set m (fun m => decide (z_ff n dr m (z_dif (2 ^ n - 1) outs) (z_for bm cn pl) = v_1))) → z_EV (d + 7) zmX6_agree R (9, [(0, .ref 0), (1, .int (nI v_1)), (2, .int (nI st)), (3, .int (nI m))], [], (MH g kept was isKept tape fed pos tlen flt ranking paper written pairs_1 aa bb dd dist rowv rowMany lsz itm weakAbove weakBelow)) := by
    intro z_9
    induction z_9 with
    | zero => intro st m aa bb dd hm_9 _; exact absurd hm_9 (Nat.not_lt_zero _)
    | succ z_9 ih_9 =>
      intro st m aa bb dd hm_9 hi_9
      obtain ⟨l1, l2⟩ := hi_9
      refine e_steps 2 (σ' := (11, [(0, .ref 0), (1, .int (nI v_1)), (2, .int (nI st)), (3, .int (nI m))], [.int (nI 4), .int (nI m)], (MH g kept was isKept tape fed pos tlen flt ranking paper written pairs_1 aa bb dd dist rowv rowMany lsz itm weakAbove weakBelow))) rfl ?_
      refine e_if (c := nI 4 ≤ nI m) rfl (fun c_11 => ?_) (fun c_11 => ?_)
      · skip
        rw [nI_leI (by omega) (by omega)] at c_11
        refine e_steps 1 (σ' := (44, [(0, .ref 0), (1, .int (nI v_1)), (2, .int (nI st)), (3, .int (nI m))], [.int (nI st)], (MH g kept was isKept tape fed pos tlen flt ranking paper written pairs_1 aa bb dd dist rowv rowMany lsz itm weakAbove weakBelow))) rfl ?_
        exact e_ret rfl (trivial) (hR _ _ ⟨pairs_1, aa, bb, dd, st, rfl, rfl, (by rw [l2, show m = 4 by omega, q_1.1])⟩)
      · skip
        rw [nI_leI (by omega) (by omega)] at c_11
        refine e_steps 4 (σ' := (18, [(0, .ref 0), (1, .int (nI v_1)), (2, .int (nI st)), (3, .int (nI m))], [.ref 0, .int (nI m), .ref 0, .int (nI st)], (MH g kept was isKept tape fed pos tlen flt ranking paper written pairs_1 aa bb dd dist rowv rowMany lsz itm weakAbove weakBelow))) rfl ?_
        refine e_call (y := 134) (av := [.ref 0]) (rest := [.int (nI m), .ref 0, .int (nI st)]) rfl (c_X6_ins (d + 5) (n := n) (outs := outs) (bm := bm) (ms := ms) (dr := dr) (cn := cn) (pl := pl) (by first | assumption | omega | rfl | trivial)) (fun r_18 h_18 p_18 => ?_)
        obtain ⟨rfl, rfl⟩ := p_18
        refine e_steps 0 (σ' := (21, [(0, .ref 0), (1, .int (nI v_1)), (2, .int (nI st)), (3, .int (nI m))], [.int (nI (z_dif (2 ^ n - 1) outs)), .int (nI m), .ref 0, .int (nI st)], (MH g kept was isKept tape fed pos tlen flt ranking paper written pairs_1 aa bb dd dist rowv rowMany lsz itm weakAbove weakBelow))) rfl ?_
        refine e_call (y := 210) (av := [.ref 0, .int (nI m), .int (nI (z_dif (2 ^ n - 1) outs))]) (rest := [.int (nI st)]) rfl (c_X6_first (d + 1) (n := n) (outs := outs) (bm := bm) (ms := ms) (dr := dr) (cn := cn) (pl := pl) (F := (z_for bm cn pl)) (by first | assumption | omega | rfl | trivial) (by first | assumption | omega | rfl | trivial) (by exact q_1.2.2) (by exact z_ins_lt) (by first | assumption | omega | rfl | trivial)) (fun r_21 h_21 p_21 => ?_)
        obtain ⟨above_21, below_21, isDone_21, v_21, rfl, rfl, q_21⟩ := p_21
        refine e_steps 1 (σ' := (25, [(0, .ref 0), (1, .int (nI v_1)), (2, .int (nI st)), (3, .int (nI m))], [.int (nI v_1), .int (nI v_21), .int (nI st)], (MH g kept was isKept tape fed pos tlen flt ranking paper written pairs_1 above_21 below_21 isDone_21 dist rowv rowMany lsz itm weakAbove weakBelow))) rfl ?_
        refine e_if (c := ¬ nI v_21 = nI v_1) rfl (fun c_25 => ?_) (fun c_25 => ?_)
        · skip
          rw [nI_eq (by omega) (by omega)] at c_25
          skip
          refine e_steps 1 (σ' := (35, [(0, .ref 0), (1, .int (nI v_1)), (2, .int (nI st)), (3, .int (nI m))], [.int (nI 0), .int (nI st)], (MH g kept was isKept tape fed pos tlen flt ranking paper written pairs_1 above_21 below_21 isDone_21 dist rowv rowMany lsz itm weakAbove weakBelow))) rfl ?_
          refine e_or (st ||| 0) rfl (by first | rfl | decide) ?_
          refine e_steps 1 (σ' := (37, [(2, .int (nI (st ||| 0))), (0, .ref 0), (1, .int (nI v_1)), (3, .int (nI m))], [], (MH g kept was isKept tape fed pos tlen flt ranking paper written pairs_1 above_21 below_21 isDone_21 dist rowv rowMany lsz itm weakAbove weakBelow))) rfl ?_
          refine e_inc (n := 1) rfl rfl rfl (m + 1) (by rfl) [(3, .int (nI (m + 1))), (2, .int (nI (st ||| 0))), (0, .ref 0), (1, .int (nI v_1))] rfl ?_
          refine e_steps 1 (σ' := (9, [(3, .int (nI (m + 1))), (2, .int (nI (st ||| 0))), (0, .ref 0), (1, .int (nI v_1))], [], (MH g kept was isKept tape fed pos tlen flt ranking paper written pairs_1 above_21 below_21 isDone_21 dist rowv rowMany lsz itm weakAbove weakBelow))) rfl ?_
          refine e_sub [2, 3, 1, 0] rfl ?_
          exact ih_9 (st ||| 0) (m + 1) above_21 below_21 isDone_21 (by omega) (by first | exact ⟨by omega, z_set_T l2 (decide_eq_true (by rw [← q_21.1]; assumption))⟩ | exact ⟨by omega, z_set_F l2 (decide_eq_false (by rw [← q_21.1]; assumption))⟩ | exact ⟨by omega, z_set_F0 l2 (decide_eq_false (by rw [← q_21.1]; assumption))⟩)
        · skip
          rw [nI_eq (by omega) (by omega)] at c_25
          replace c_25 := Decidable.not_not.mp c_25
          refine e_steps 2 (σ' := (30, [(0, .ref 0), (1, .int (nI v_1)), (2, .int (nI st)), (3, .int (nI m))], [.int (nI m), .int (nI 1), .int (nI st)], (MH g kept was isKept tape fed pos tlen flt ranking paper written pairs_1 above_21 below_21 isDone_21 dist rowv rowMany lsz itm weakAbove weakBelow))) rfl ?_
          refine e_shl rfl (by first | assumption | omega | rfl | trivial) ?_
          refine e_steps 1 (σ' := (35, [(0, .ref 0), (1, .int (nI v_1)), (2, .int (nI st)), (3, .int (nI m))], [.int (nI (2 ^ m)), .int (nI st)], (MH g kept was isKept tape fed pos tlen flt ranking paper written pairs_1 above_21 below_21 isDone_21 dist rowv rowMany lsz itm weakAbove weakBelow))) rfl ?_
          refine e_or (st ||| (2 ^ m)) rfl (by first | rfl | decide) ?_
          refine e_steps 1 (σ' := (37, [(2, .int (nI (st ||| (2 ^ m)))), (0, .ref 0), (1, .int (nI v_1)), (3, .int (nI m))], [], (MH g kept was isKept tape fed pos tlen flt ranking paper written pairs_1 above_21 below_21 isDone_21 dist rowv rowMany lsz itm weakAbove weakBelow))) rfl ?_
          refine e_inc (n := 1) rfl rfl rfl (m + 1) (by rfl) [(3, .int (nI (m + 1))), (2, .int (nI (st ||| (2 ^ m)))), (0, .ref 0), (1, .int (nI v_1))] rfl ?_
          refine e_steps 1 (σ' := (9, [(3, .int (nI (m + 1))), (2, .int (nI (st ||| (2 ^ m)))), (0, .ref 0), (1, .int (nI v_1))], [], (MH g kept was isKept tape fed pos tlen flt ranking paper written pairs_1 above_21 below_21 isDone_21 dist rowv rowMany lsz itm weakAbove weakBelow))) rfl ?_
          refine e_sub [2, 3, 1, 0] rfl ?_
          exact ih_9 (st ||| (2 ^ m)) (m + 1) above_21 below_21 isDone_21 (by omega) (by first | exact ⟨by omega, z_set_T l2 (decide_eq_true (by rw [← q_21.1]; assumption))⟩ | exact ⟨by omega, z_set_F l2 (decide_eq_false (by rw [← q_21.1]; assumption))⟩ | exact ⟨by omega, z_set_F0 l2 (decide_eq_false (by rw [← q_21.1]; assumption))⟩)
  refine e_sub [3, 2, 1, 0] rfl ?_
  exact loop_9 _ 0 0 above_1 below_1 isDone_1 (Nat.lt_succ_self _) (by exact ⟨by omega, rfl⟩)
theorem c_X6_flips (d : Nat) {g : Nat → Int32} {kept : Nat → Int32} {was : Nat → Int32} {isKept : Int32} {tape : Nat → Int32} {fed : Int32} {pos : Int32} {tlen : Int32} {flt : Int32} {ranking : Nat → Int32} {paper : Nat → Int32} {written : Int32} {pairs : Nat → Int64} {above : Nat → Int64} {below : Nat → Int64} {isDone : Nat → Int32} {dist : Nat → Int32} {rowv : Nat → Int32} {rowMany : Int32} {lsz : Nat → Int32} {itm : Nat → Int64} {weakAbove : Int64} {weakBelow : Int64} {b : Int32} {n : Nat} {outs : Nat} {bm : Nat} {ms : Nat} {dr : Nat → Nat} {cn : Nat → Nat} {pl : Nat → Nat → Nat} (hG : z_GI g n outs bm ms dr cn pl) : z_CAL (d + 8) 217 [.ref 0, .int b] (MH g kept was isKept tape fed pos tlen flt ranking paper written pairs above below isDone dist rowv rowMany lsz itm weakAbove weakBelow) (fun r h2 => ∃ (pairs2 : Nat → Int64) (ab2 : Nat → Int64) (be2 : Nat → Int64) (dn2 : Nat → Int32) (v : Int32), r = some (.int v) ∧ h2 = (MH g kept was isKept tape fed pos tlen flt ranking paper written pairs2 ab2 be2 dn2 dist rowv rowMany lsz itm weakAbove weakBelow) ∧ ((v = -nI 1 ∧ ¬ ∃ b2, b2 < bm ∧ b = nI b2) ∨ ∃ b2, b2 < bm ∧ b = nI b2 ∧ ((∃ k, 1 ≤ k ∧ k ≤ 500 ∧ k ≤ cn b2 ∧ v = nI k ∧ z_ff n dr ms (z_dif (2 ^ n - 1) outs) (z_fsub (pl b2) k (z_for bm cn pl)) ≠ z_ff n dr ms (z_dif (2 ^ n - 1) outs) (z_for bm cn pl) ∧ ∀ x, 1 ≤ x → x < k → z_ff n dr ms (z_dif (2 ^ n - 1) outs) (z_fsub (pl b2) x (z_for bm cn pl)) = z_ff n dr ms (z_dif (2 ^ n - 1) outs) (z_for bm cn pl)) ∨ (v = -nI 5 ∧ ∀ x, 1 ≤ x → x ≤ 500 → x ≤ cn b2 → z_ff n dr ms (z_dif (2 ^ n - 1) outs) (z_fsub (pl b2) x (z_for bm cn pl)) = z_ff n dr ms (z_dif (2 ^ n - 1) outs) (z_for bm cn pl))))) := by
  refine e_of2 (q := zmX6_flips) rfl rfl (fun R hR => ?_)
  obtain ⟨⟨hn0, hn2, hn8⟩, ⟨ho0, ho8, hin⟩, ⟨hb0, hb40⟩, ⟨hm0, hm4⟩, ⟨hdr, hdl, hdc⟩, hcn, hpl⟩ := id hG; have hp8 := z_p2 hn8; have ho256 : outs < 256 := (by omega); have hi256 : z_dif (2 ^ n - 1) outs < 256 := (by have := z_dif_le (s := 2 ^ n - 1) (t := outs); omega)
  refine e_steps 2 (σ' := (2, [(0, .ref 0), (1, .int b)], [.int b, .ref 0], (MH g kept was isKept tape fed pos tlen flt ranking paper written pairs above below isDone dist rowv rowMany lsz itm weakAbove weakBelow))) rfl ?_
  refine e_call (y := 138) (av := [.ref 0, .int b]) (rest := []) rfl (c_X6_isBallot (d + 5) (n := n) (outs := outs) (bm := bm) (ms := ms) (dr := dr) (cn := cn) (pl := pl) (by first | assumption | omega | rfl | trivial)) (fun r_2 h_2 p_2 => ?_)
  obtain ⟨rfl, o_2⟩ := p_2
  rcases o_2 with ⟨rfl, o_2⟩ | ⟨rfl, o_2⟩
  · skip
    obtain ⟨b_2, hb_2, eb_2⟩ := o_2
    subst eb_2
    have hqb : ∀ c, c < n → g (52 + 8 * b_2 + c) = nI (pl b_2 c) ∧ pl b_2 c < 256 := fun c hc => ⟨(hpl b_2 (by omega)).1 c hc, by have := (hpl b_2 (by omega)).2.1 c hc; omega⟩; have hge : ∀ i, i < n → ∀ j, j < n → pl b_2 i < pl b_2 j → cn b_2 ≤ (z_for bm cn pl) i j := (fun i _ j _ h => z_for_ge (by omega) h); have hcb := hcn b_2 (by omega)
    refine e_steps 2 (σ' := (11, [(0, .ref 0), (1, .int (nI b_2))], [.ref 0], (MH g kept was isKept tape fed pos tlen flt ranking paper written pairs above below isDone dist rowv rowMany lsz itm weakAbove weakBelow))) rfl ?_
    refine e_call (y := 211) (av := [.ref 0]) (rest := []) rfl (c_X6_firstNow (d + 0) (n := n) (outs := outs) (bm := bm) (ms := ms) (dr := dr) (cn := cn) (pl := pl) (by first | assumption | omega | rfl | trivial)) (fun r_11 h_11 p_11 => ?_)
    obtain ⟨pairs_11, above_11, below_11, isDone_11, v_11, rfl, rfl, q_11⟩ := p_11
    refine e_steps 3 (σ' := (17, [(3, .int (nI 1)), (2, .int (nI v_11)), (0, .ref 0), (1, .int (nI b_2))], [], (MH g kept was isKept tape fed pos tlen flt ranking paper written pairs_11 above_11 below_11 isDone_11 dist rowv rowMany lsz itm weakAbove weakBelow))) rfl ?_
    have loop_17 : ∀ (z_17 : Nat) (k : Nat) (pp : Nat → Int64) (aa : Nat → Int64) (bb : Nat → Int64) (dd : Nat → Int32), 501 - k < z_17 → (1 ≤ k ∧ k ≤ 501 ∧ k ≤ cn b_2 + 1 ∧ z_PR pp n (z_fsub (pl b_2) (k - 1) (z_for bm cn pl)) ∧ ∀ x, 1 ≤ x → x < k → z_ff n dr ms (z_dif (2 ^ n - 1) outs) (z_fsub (pl b_2) x (z_for bm cn pl)) = v_11) → z_EV (d + 7) zmX6_flips R (17, [(0, .ref 0), (1, .int (nI b_2)), (2, .int (nI v_11)), (3, .int (nI k))], [], (MH g kept was isKept tape fed pos tlen flt ranking paper written pp aa bb dd dist rowv rowMany lsz itm weakAbove weakBelow)) := by
      intro z_17
      induction z_17 with
      | zero => intro k pp aa bb dd hm_17 _; exact absurd hm_17 (Nat.not_lt_zero _)
      | succ z_17 ih_17 =>
        intro k pp aa bb dd hm_17 hi_17
        obtain ⟨l1, l2, l3, l4, l5⟩ := hi_17
        refine e_steps 2 (σ' := (21, [(0, .ref 0), (1, .int (nI b_2)), (2, .int (nI v_11)), (3, .int (nI k))], [.int (nI 500), .int (nI k)], (MH g kept was isKept tape fed pos tlen flt ranking paper written pp aa bb dd dist rowv rowMany lsz itm weakAbove weakBelow))) rfl ?_
        refine e_if (c := nI 500 < nI k) rfl (fun c_21 => ?_) (fun c_21 => ?_)
        · skip
          rw [nI_ltI (by omega) (by omega)] at c_21
          refine e_steps 1 (σ' := (77, [(0, .ref 0), (1, .int (nI b_2)), (2, .int (nI v_11)), (3, .int (nI k))], [.int ((-nI 5))], (MH g kept was isKept tape fed pos tlen flt ranking paper written pp aa bb dd dist rowv rowMany lsz itm weakAbove weakBelow))) rfl ?_
          exact e_ret rfl (trivial) (hR _ _ ⟨pp, aa, bb, dd, ((-nI 5)), rfl, rfl, (by first | exact Or.inl ⟨rfl, o_2⟩ | exact Or.inr ⟨_, hb_2, rfl, Or.inr ⟨rfl, fun x h1 h2 h3 => by rw [← q_11.1]; exact l5 x h1 (by omega)⟩⟩)⟩)
        · skip
          rw [nI_ltI (by omega) (by omega)] at c_21
          refine e_steps 5 (σ' := (32, [(0, .ref 0), (1, .int (nI b_2)), (2, .int (nI v_11)), (3, .int (nI k))], [.int (nI b_2), .int (nI 12), .ref 1, .int (nI k)], (MH g kept was isKept tape fed pos tlen flt ranking paper written pp aa bb dd dist rowv rowMany lsz itm weakAbove weakBelow))) rfl ?_
          refine e_add (12 + b_2) rfl (by first | rfl | omega) ?_
          refine e_steps 0 (σ' := (33, [(0, .ref 0), (1, .int (nI b_2)), (2, .int (nI v_11)), (3, .int (nI k))], [.int (nI (12 + b_2)), .ref 1, .int (nI k)], (MH g kept was isKept tape fed pos tlen flt ranking paper written pp aa bb dd dist rowv rowMany lsz itm weakAbove weakBelow))) rfl ?_
          refine e_ial (nI (cn b_2)) rfl rfl (by first | assumption | omega | rfl | trivial) (by decide) ((hcn _ (by omega)).1) ?_
          have hv_33 := (hcn b_2 (by omega)).2
          refine e_steps 0 (σ' := (34, [(0, .ref 0), (1, .int (nI b_2)), (2, .int (nI v_11)), (3, .int (nI k))], [.int (nI (cn b_2)), .int (nI k)], (MH g kept was isKept tape fed pos tlen flt ranking paper written pp aa bb dd dist rowv rowMany lsz itm weakAbove weakBelow))) rfl ?_
          refine e_if (c := nI (cn b_2) < nI k) rfl (fun c_34 => ?_) (fun c_34 => ?_)
          · skip
            rw [nI_ltI (by omega) (by omega)] at c_34
            refine e_steps 1 (σ' := (77, [(0, .ref 0), (1, .int (nI b_2)), (2, .int (nI v_11)), (3, .int (nI k))], [.int ((-nI 5))], (MH g kept was isKept tape fed pos tlen flt ranking paper written pp aa bb dd dist rowv rowMany lsz itm weakAbove weakBelow))) rfl ?_
            exact e_ret rfl (trivial) (hR _ _ ⟨pp, aa, bb, dd, ((-nI 5)), rfl, rfl, (by first | exact Or.inl ⟨rfl, o_2⟩ | exact Or.inr ⟨_, hb_2, rfl, Or.inr ⟨rfl, fun x h1 h2 h3 => by rw [← q_11.1]; exact l5 x h1 (by omega)⟩⟩)⟩)
          · skip
            rw [nI_ltI (by omega) (by omega)] at c_34
            refine e_steps 4 (σ' := (43, [(0, .ref 0), (1, .int (nI b_2)), (2, .int (nI v_11)), (3, .int (nI k))], [.int (nI b_2), .int (nI 8), .int (nI 52), .ref 0], (MH g kept was isKept tape fed pos tlen flt ranking paper written pp aa bb dd dist rowv rowMany lsz itm weakAbove weakBelow))) rfl ?_
            refine e_mul (8 * b_2) rfl (by first | rfl | omega | simp) ?_
            refine e_steps 0 (σ' := (44, [(0, .ref 0), (1, .int (nI b_2)), (2, .int (nI v_11)), (3, .int (nI k))], [.int (nI (8 * b_2)), .int (nI 52), .ref 0], (MH g kept was isKept tape fed pos tlen flt ranking paper written pp aa bb dd dist rowv rowMany lsz itm weakAbove weakBelow))) rfl ?_
            refine e_add (52 + 8 * b_2) rfl (by first | rfl | omega) ?_
            refine e_steps 1 (σ' := (46, [(0, .ref 0), (1, .int (nI b_2)), (2, .int (nI v_11)), (3, .int (nI k))], [.int ((-nI 1)), .int (nI (52 + 8 * b_2)), .ref 0], (MH g kept was isKept tape fed pos tlen flt ranking paper written pp aa bb dd dist rowv rowMany lsz itm weakAbove weakBelow))) rfl ?_
            refine e_call (y := 171) (av := [.ref 0, .int (nI (52 + 8 * b_2)), .int ((-nI 1))]) (rest := []) rfl (c_X6_counts (d + 6) (n := n) (outs := outs) (bm := bm) (ms := ms) (dr := dr) (cn := cn) (pl := pl) (q := (pl b_2)) (by first | assumption | omega | rfl | trivial) (by exact hqb) (by first | assumption | omega | rfl | trivial)) (fun r_46 h_46 p_46 => ?_)
            obtain ⟨pairs_46, rfl, rfl, q_46⟩ := p_46
            have hP2 := z_PR_sub (c := 1) hn8 l4 z_m1L (fun i hi j hj h => by have := hge i hi j hj h; unfold z_fsub; rw [if_pos h]; omega) q_46; rw [z_fsub_step, show k - 1 + 1 = k by omega] at hP2
            refine e_steps 4 (σ' := (55, [(0, .ref 0), (1, .int (nI b_2)), (2, .int (nI v_11)), (3, .int (nI k))], [.int (nI 3), .ref 1, .ref 0], (MH g kept was isKept tape fed pos tlen flt ranking paper written pairs_46 aa bb dd dist rowv rowMany lsz itm weakAbove weakBelow))) rfl ?_
            refine e_ial (nI ms) rfl rfl (by first | assumption | omega | rfl | trivial) (by decide) (hm0) ?_
            refine e_steps 1 (σ' := (57, [(0, .ref 0), (1, .int (nI b_2)), (2, .int (nI v_11)), (3, .int (nI k))], [.ref 0, .int (nI ms), .ref 0], (MH g kept was isKept tape fed pos tlen flt ranking paper written pairs_46 aa bb dd dist rowv rowMany lsz itm weakAbove weakBelow))) rfl ?_
            refine e_call (y := 134) (av := [.ref 0]) (rest := [.int (nI ms), .ref 0]) rfl (c_X6_ins (d + 5) (n := n) (outs := outs) (bm := bm) (ms := ms) (dr := dr) (cn := cn) (pl := pl) (by first | assumption | omega | rfl | trivial)) (fun r_57 h_57 p_57 => ?_)
            obtain ⟨rfl, rfl⟩ := p_57
            refine e_steps 0 (σ' := (60, [(0, .ref 0), (1, .int (nI b_2)), (2, .int (nI v_11)), (3, .int (nI k))], [.int (nI (z_dif (2 ^ n - 1) outs)), .int (nI ms), .ref 0], (MH g kept was isKept tape fed pos tlen flt ranking paper written pairs_46 aa bb dd dist rowv rowMany lsz itm weakAbove weakBelow))) rfl ?_
            refine e_call (y := 210) (av := [.ref 0, .int (nI ms), .int (nI (z_dif (2 ^ n - 1) outs))]) (rest := []) rfl (c_X6_first (d + 1) (n := n) (outs := outs) (bm := bm) (ms := ms) (dr := dr) (cn := cn) (pl := pl) (F := (z_fsub (pl b_2) k (z_for bm cn pl))) (by first | assumption | omega | rfl | trivial) (by first | assumption | omega | rfl | trivial) (by exact hP2) (by exact z_ins_lt) (by first | assumption | omega | rfl | trivial)) (fun r_60 h_60 p_60 => ?_)
            obtain ⟨above_60, below_60, isDone_60, v_60, rfl, rfl, q_60⟩ := p_60
            refine e_steps 1 (σ' := (64, [(0, .ref 0), (1, .int (nI b_2)), (2, .int (nI v_11)), (3, .int (nI k))], [.int (nI v_11), .int (nI v_60)], (MH g kept was isKept tape fed pos tlen flt ranking paper written pairs_46 above_60 below_60 isDone_60 dist rowv rowMany lsz itm weakAbove weakBelow))) rfl ?_
            refine e_if (c := nI v_60 = nI v_11) rfl (fun c_64 => ?_) (fun c_64 => ?_)
            · skip
              rw [nI_eq (by omega) (by omega)] at c_64
              refine e_steps 0 (σ' := (69, [(0, .ref 0), (1, .int (nI b_2)), (2, .int (nI v_11)), (3, .int (nI k))], [], (MH g kept was isKept tape fed pos tlen flt ranking paper written pairs_46 above_60 below_60 isDone_60 dist rowv rowMany lsz itm weakAbove weakBelow))) rfl ?_
              refine e_inc (n := 1) rfl rfl rfl (k + 1) (by rfl) [(3, .int (nI (k + 1))), (0, .ref 0), (1, .int (nI b_2)), (2, .int (nI v_11))] rfl ?_
              refine e_steps 1 (σ' := (17, [(3, .int (nI (k + 1))), (0, .ref 0), (1, .int (nI b_2)), (2, .int (nI v_11))], [], (MH g kept was isKept tape fed pos tlen flt ranking paper written pairs_46 above_60 below_60 isDone_60 dist rowv rowMany lsz itm weakAbove weakBelow))) rfl ?_
              refine e_sub [1, 2, 3, 0] rfl ?_
              exact ih_17 (k + 1) pairs_46 above_60 below_60 isDone_60 (by omega) (by exact ⟨by omega, by omega, by omega, hP2, fun x h1 h2 => by rcases (by omega : x < k ∨ x = k) with e | e; exact l5 x h1 e; rw [e, ← q_60.1]; assumption⟩)
            · skip
              rw [nI_eq (by omega) (by omega)] at c_64
              refine e_steps 1 (σ' := (68, [(0, .ref 0), (1, .int (nI b_2)), (2, .int (nI v_11)), (3, .int (nI k))], [.int (nI k)], (MH g kept was isKept tape fed pos tlen flt ranking paper written pairs_46 above_60 below_60 isDone_60 dist rowv rowMany lsz itm weakAbove weakBelow))) rfl ?_
              exact e_ret rfl (trivial) (hR _ _ ⟨pairs_46, above_60, below_60, isDone_60, (nI k), rfl, rfl, (by first | exact Or.inl ⟨rfl, o_2⟩ | exact Or.inr ⟨_, hb_2, rfl, Or.inl ⟨k, by omega, by omega, by omega, rfl, by rw [← q_60.1, ← q_11.1]; assumption, fun x h1 h2 => by rw [← q_11.1]; exact l5 x h1 h2⟩⟩ | exact Or.inr ⟨_, hb_2, rfl, Or.inr ⟨rfl, fun x h1 h2 h3 => by rw [← q_11.1]; exact l5 x h1 (by omega)⟩⟩)⟩)
    refine e_sub [2, 3, 1, 0] rfl ?_
    exact loop_17 _ 1 pairs_11 above_11 below_11 isDone_11 (Nat.lt_succ_self _) (by exact ⟨by omega, by omega, by omega, by show z_PR _ n (z_fsub _ 0 _); rw [z_fsub_0]; exact q_11.2.2, fun x h1 h2 => absurd h2 (by omega)⟩)
  · skip
    refine e_steps 2 (σ' := (9, [(0, .ref 0), (1, .int b)], [.int ((-nI 1))], (MH g kept was isKept tape fed pos tlen flt ranking paper written pairs above below isDone dist rowv rowMany lsz itm weakAbove weakBelow))) rfl ?_
    exact e_ret rfl (trivial) (hR _ _ ⟨pairs, above, below, isDone, ((-nI 1)), rfl, rfl, (by exact Or.inl ⟨rfl, o_2⟩)⟩)
