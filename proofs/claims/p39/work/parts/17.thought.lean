/-! the reference: THE WAY, sets, in thought -/
theorem c_X6_wayOf (d : Nat) {g : Nat → Int32} {kept : Nat → Int32} {was : Nat → Int32} {isKept : Int32} {tape : Nat → Int32} {fed : Int32} {pos : Int32} {tlen : Int32} {flt : Int32} {ranking : Nat → Int32} {paper : Nat → Int32} {written : Int32} {pairs : Nat → Int64} {above : Nat → Int64} {below : Nat → Int64} {isDone : Nat → Int32} {dist : Nat → Int32} {rowv : Nat → Int32} {rowMany : Int32} {lsz : Nat → Int32} {itm : Nat → Int64} {weakAbove : Int64} {weakBelow : Int64} {i : Nat} {j : Nat} {n : Nat} {outs : Nat} {bm : Nat} {ms : Nat} {dr : Nat → Nat} {cn : Nat → Nat} {pl : Nat → Nat → Nat} {F : Nat → Nat → Nat} {K : Nat → Nat → Nat} (hG : z_GI g n outs bm ms dr cn pl) (hP : z_PR pairs n F) (hW : z_WY ms (z_dif (2 ^ n - 1) outs) F n above below K) (hi : i < n) (hj : j < n) (hij : i ≠ j) : z_CAL (d + 5) 192 [.ref 0, .int (nI i), .int (nI j)] (MH g kept was isKept tape fed pos tlen flt ranking paper written pairs above below isDone dist rowv rowMany lsz itm weakAbove weakBelow) (fun r h2 => ∃ (dist2 : Nat → Int32) (row2 : Nat → Int32) (rm2 : Nat), r = none ∧ h2 = (MH g kept was isKept tape fed pos tlen flt ranking paper written pairs above below isDone dist2 row2 (nI rm2) lsz itm weakAbove weakBelow) ∧ ((K i j = 0 ∧ rm2 = 0) ∨ ∃ D rw, z_WAY (z_LS ms (z_dif (2 ^ n - 1) outs) F) n K i j D rw ∧ rm2 = D i + 1 ∧ ∀ k, k < rm2 → row2 k = nI (rw k))) := by
  refine e_of2 (q := zmX6_wayOf) rfl rfl (fun R hR => ?_)
  obtain ⟨⟨hn0, hn2, hn8⟩, ⟨ho0, ho8, hin⟩, ⟨hb0, hb40⟩, ⟨hm0, hm4⟩, ⟨hdr, hdl, hdc⟩, hcn, hpl⟩ := id hG; have hp8 := z_p2 hn8; have ho256 : outs < 256 := (by omega); have hi256 : z_dif (2 ^ n - 1) outs < 256 := (by have := z_dif_le (s := 2 ^ n - 1) (t := outs); omega)
  refine e_steps 2 (σ' := (3, [(0, .ref 0), (1, .int (nI i)), (2, .int (nI j))], [.int (nI i), .int (nI 8)], (MH g kept was isKept tape fed pos tlen flt ranking paper written pairs above below isDone dist rowv rowMany lsz itm weakAbove weakBelow))) rfl ?_
  refine e_mul (8 * i) rfl (by first | rfl | omega | simp) ?_
  refine e_steps 1 (σ' := (5, [(0, .ref 0), (1, .int (nI i)), (2, .int (nI j))], [.int (nI j), .int (nI (8 * i))], (MH g kept was isKept tape fed pos tlen flt ranking paper written pairs above below isDone dist rowv rowMany lsz itm weakAbove weakBelow))) rfl ?_
  refine e_add (8 * i + j) rfl (by first | rfl | omega) ?_
  refine e_steps 7 (σ' := (17, [(3, .int (nI (8 * i + j))), (0, .ref 0), (1, .int (nI i)), (2, .int (nI j))], [.int (nI (8 * i + j)), .ref 8], (MH g kept was isKept tape fed pos tlen flt ranking paper written pairs above below isDone dist rowv (nI 0) lsz itm weakAbove weakBelow))) rfl ?_
  refine e_lal (above (8 * i + j)) rfl rfl (by first | assumption | omega | rfl | trivial) (by decide) (rfl) ?_
  refine e_steps 2 (σ' := (20, [(3, .int (nI (8 * i + j))), (0, .ref 0), (1, .int (nI i)), (2, .int (nI j))], [.int ((lg_cmp ((above (8 * i + j))) (lN 0)))], (MH g kept was isKept tape fed pos tlen flt ranking paper written pairs above below isDone dist rowv (nI 0) lsz itm weakAbove weakBelow))) rfl ?_
  refine e_if (c := 0 ≤ lg_cmp ((above (8 * i + j))) (lN 0)) rfl (fun c_19 => ?_) (fun c_19 => ?_)
  · rw [lg_cmp_ge] at c_19
    refine e_steps 0 (σ' := (24, [(3, .int (nI (8 * i + j))), (0, .ref 0), (1, .int (nI i)), (2, .int (nI j))], [], (MH g kept was isKept tape fed pos tlen flt ranking paper written pairs above below isDone dist rowv (nI 0) lsz itm weakAbove weakBelow))) rfl ?_
    have hK0 := z_AB1_pos (hW.1 i hi j (by omega)) (Int64.not_lt.mpr c_19)
    refine e_steps 3 (σ' := (27, [(3, .int (nI (8 * i + j))), (0, .ref 0), (1, .int (nI i)), (2, .int (nI j))], [.int (nI (8 * i + j)), .int (nI j), .ref 0], (MH g kept was isKept tape fed pos tlen flt ranking paper written pairs above below isDone dist rowv (nI 0) lsz itm weakAbove weakBelow))) rfl ?_
    refine e_call (y := 191) (av := [.ref 0, .int (nI j), .int (nI (8 * i + j))]) (rest := []) rfl (c_X6_leftTo (d + 0) (n := n) (outs := outs) (bm := bm) (ms := ms) (dr := dr) (cn := cn) (pl := pl) (F := F) (t := (K i j)) (by first | assumption | omega | rfl | trivial) (by first | assumption | omega | rfl | trivial) (by first | assumption | omega | rfl | trivial) (by exact hW.1 i hi j (by omega)) (by exact hK0) (by first | assumption | omega | rfl | trivial)) (fun r_27 h_27 p_27 => ?_)
    obtain ⟨dist_27, rfl, rfl, q_27⟩ := p_27
    obtain ⟨D, hDv, hDS⟩ := q_27; have hre := hW.2 i hi; obtain ⟨m0, hm0⟩ := (z_row_iff hre hi hj (fun e => hij e.symm) hK0).mp (Nat.le_refl _); have hDi := z_DS_re hn8 hDS hi hm0
    refine e_steps 6 (σ' := (39, [(4, .int (nI i)), (3, .int (nI (8 * i + j))), (0, .ref 0), (1, .int (nI i)), (2, .int (nI j))], [.int (nI i), .int (nI 0), .ref 12], (MH g kept was isKept tape fed pos tlen flt ranking paper written pairs above below isDone dist_27 rowv (nI 0) lsz itm weakAbove weakBelow))) rfl ?_
    refine e_ias (MH g kept was isKept tape fed pos tlen flt ranking paper written pairs above below isDone dist_27 (upd rowv 0 (nI i)) (nI 0) lsz itm weakAbove weakBelow) rfl rfl (by first | assumption | omega | rfl | trivial) (by decide) rfl ?_
    refine e_steps 3 (σ' := (45, [(4, .int (nI i)), (3, .int (nI (8 * i + j))), (0, .ref 0), (1, .int (nI i)), (2, .int (nI j))], [], (MH g kept was isKept tape fed pos tlen flt ranking paper written pairs above below isDone dist_27 (upd rowv 0 (nI i)) (nI 1) lsz itm weakAbove weakBelow))) rfl ?_
    have loop_45 : ∀ (z_45 : Nat) (cc : Nat) (rv : Nat → Int32) (rm : Nat) (rw : Nat → Nat), D cc < z_45 → (1 ≤ rm ∧ cc = rw (rm - 1) ∧ cc < n ∧ (∀ k, k < rm → rv k = nI (rw k)) ∧ z_rt (z_LS ms (z_dif (2 ^ n - 1) outs) F) n (K i j) i D rw rm ∧ (∀ k, k < rm → rw k < n) ∧ D cc + (rm - 1) = D i) → z_EV (d + 4) zmX6_wayOf R (45, [(0, .ref 0), (1, .int (nI i)), (2, .int (nI j)), (3, .int (nI (8 * i + j))), (4, .int (nI cc))], [], (MH g kept was isKept tape fed pos tlen flt ranking paper written pairs above below isDone dist_27 rv (nI rm) lsz itm weakAbove weakBelow)) := by
      intro z_45
      induction z_45 with
      | zero => intro cc rv rm rw hm_45 _; exact absurd hm_45 (Nat.not_lt_zero _)
      | succ z_45 ih_45 =>
        intro cc rv rm rw hm_45 hi_45
        obtain ⟨l1, l2, l3, l4, l5, l6, l7⟩ := hi_45; have hcj := (hDS.1 cc l3).2
        refine e_steps 2 (σ' := (48, [(0, .ref 0), (1, .int (nI i)), (2, .int (nI j)), (3, .int (nI (8 * i + j))), (4, .int (nI cc))], [.int (nI j), .int (nI cc)], (MH g kept was isKept tape fed pos tlen flt ranking paper written pairs above below isDone dist_27 rv (nI rm) lsz itm weakAbove weakBelow))) rfl ?_
        refine e_if (c := nI cc = nI j) rfl (fun c_48 => ?_) (fun c_48 => ?_)
        · skip
          rw [nI_eq (by omega) (by omega)] at c_48
          refine e_steps 0 (σ' := (119, [(0, .ref 0), (1, .int (nI i)), (2, .int (nI j)), (3, .int (nI (8 * i + j))), (4, .int (nI cc))], [], (MH g kept was isKept tape fed pos tlen flt ranking paper written pairs above below isDone dist_27 rv (nI rm) lsz itm weakAbove weakBelow))) rfl ?_
          exact e_ret rfl (trivial) (hR _ _ ⟨dist_27, rv, rm, rfl, rfl, (by first | exact Or.inl ⟨z_AB1_none (hW.1 i hi j (by omega)) (Int64.not_le.mp c_19), rfl⟩ | exact Or.inr ⟨D, rw, z_wo_end hK0 hDS hDi l5 l6 l7 (by omega) (by omega), by omega, l4⟩)⟩)
        · skip
          rw [nI_eq (by omega) (by omega)] at c_48
          refine e_steps 2 (σ' := (54, [(5, .int (nI 0)), (0, .ref 0), (1, .int (nI i)), (2, .int (nI j)), (3, .int (nI (8 * i + j))), (4, .int (nI cc))], [], (MH g kept was isKept tape fed pos tlen flt ranking paper written pairs above below isDone dist_27 rv (nI rm) lsz itm weakAbove weakBelow))) rfl ?_
          have loop_54 : ∀ (z_54 : Nat) (nx : Nat), n - nx < z_54 → ((∃ y, nx ≤ y ∧ y < n ∧ D y + 1 = D cc ∧ (K i j) ≤ (z_LS ms (z_dif (2 ^ n - 1) outs) F) cc y) ∧ ∀ y, y < nx → ¬ (D y + 1 = D cc ∧ (K i j) ≤ (z_LS ms (z_dif (2 ^ n - 1) outs) F) cc y)) → z_EV (d + 4) zmX6_wayOf R (54, [(0, .ref 0), (1, .int (nI i)), (2, .int (nI j)), (3, .int (nI (8 * i + j))), (4, .int (nI cc)), (5, .int (nI nx))], [], (MH g kept was isKept tape fed pos tlen flt ranking paper written pairs above below isDone dist_27 rv (nI rm) lsz itm weakAbove weakBelow)) := by
            intro z_54
            induction z_54 with
            | zero => intro nx hm_54 _; exact absurd hm_54 (Nat.not_lt_zero _)
            | succ z_54 ih_54 =>
              intro nx hm_54 hi_54
              obtain ⟨⟨y0, m1, m2, m3, m4⟩, m5⟩ := hi_54
              refine e_steps 3 (σ' := (60, [(0, .ref 0), (1, .int (nI i)), (2, .int (nI j)), (3, .int (nI (8 * i + j))), (4, .int (nI cc)), (5, .int (nI nx))], [.int (nI nx), .ref 11], (MH g kept was isKept tape fed pos tlen flt ranking paper written pairs above below isDone dist_27 rv (nI rm) lsz itm weakAbove weakBelow))) rfl ?_
              refine e_ial (nI (D nx)) rfl rfl (by first | assumption | omega | rfl | trivial) (by decide) (hDv _ (by omega)) ?_
              have hv_60 := (hDS.1 nx (by omega)).1
              refine e_steps 3 (σ' := (67, [(0, .ref 0), (1, .int (nI i)), (2, .int (nI j)), (3, .int (nI (8 * i + j))), (4, .int (nI cc)), (5, .int (nI nx))], [.int (nI cc), .ref 11, .int (nI (D nx))], (MH g kept was isKept tape fed pos tlen flt ranking paper written pairs above below isDone dist_27 rv (nI rm) lsz itm weakAbove weakBelow))) rfl ?_
              refine e_ial (nI (D cc)) rfl rfl (by first | assumption | omega | rfl | trivial) (by decide) (hDv _ (by omega)) ?_
              have hv_67 := (hDS.1 cc (by omega)).1
              refine e_steps 1 (σ' := (69, [(0, .ref 0), (1, .int (nI i)), (2, .int (nI j)), (3, .int (nI (8 * i + j))), (4, .int (nI cc)), (5, .int (nI nx))], [.int (nI 1), .int (nI (D cc)), .int (nI (D nx))], (MH g kept was isKept tape fed pos tlen flt ranking paper written pairs above below isDone dist_27 rv (nI rm) lsz itm weakAbove weakBelow))) rfl ?_
              refine e_sbt ((D cc) - 1) rfl (by first | assumption | omega | rfl | trivial) (by first | rfl | omega) ?_
              refine e_steps 0 (σ' := (70, [(0, .ref 0), (1, .int (nI i)), (2, .int (nI j)), (3, .int (nI (8 * i + j))), (4, .int (nI cc)), (5, .int (nI nx))], [.int (nI ((D cc) - 1)), .int (nI (D nx))], (MH g kept was isKept tape fed pos tlen flt ranking paper written pairs above below isDone dist_27 rv (nI rm) lsz itm weakAbove weakBelow))) rfl ?_
              refine e_if (c := ¬ nI (D nx) = nI ((D cc) - 1)) rfl (fun c_70 => ?_) (fun c_70 => ?_)
              · skip
                rw [nI_eq (by omega) (by omega)] at c_70
                skip
                refine e_steps 0 (σ' := (85, [(0, .ref 0), (1, .int (nI i)), (2, .int (nI j)), (3, .int (nI (8 * i + j))), (4, .int (nI cc)), (5, .int (nI nx))], [], (MH g kept was isKept tape fed pos tlen flt ranking paper written pairs above below isDone dist_27 rv (nI rm) lsz itm weakAbove weakBelow))) rfl ?_
                refine e_inc (n := 1) rfl rfl rfl (nx + 1) (by rfl) [(5, .int (nI (nx + 1))), (0, .ref 0), (1, .int (nI i)), (2, .int (nI j)), (3, .int (nI (8 * i + j))), (4, .int (nI cc))] rfl ?_
                refine e_steps 1 (σ' := (54, [(5, .int (nI (nx + 1))), (0, .ref 0), (1, .int (nI i)), (2, .int (nI j)), (3, .int (nI (8 * i + j))), (4, .int (nI cc))], [], (MH g kept was isKept tape fed pos tlen flt ranking paper written pairs above below isDone dist_27 rv (nI rm) lsz itm weakAbove weakBelow))) rfl ?_
                refine e_sub [1, 2, 3, 4, 5, 0] rfl ?_
                exact ih_54 (nx + 1) (by omega) (by (refine ⟨⟨y0, z_nxne m1 (fun e => c_70 (by subst e; omega)), m2, m3, m4⟩, fun y hy => ?_⟩; rcases (by omega : y < nx ∨ y = nx) with e | e; exact m5 y e; exact fun q => c_70 (by subst e; omega)))
              · skip
                rw [nI_eq (by omega) (by omega)] at c_70
                replace c_70 := Decidable.not_not.mp c_70
                refine e_steps 4 (σ' := (79, [(0, .ref 0), (1, .int (nI i)), (2, .int (nI j)), (3, .int (nI (8 * i + j))), (4, .int (nI cc)), (5, .int (nI nx))], [.int (nI (8 * i + j)), .int (nI nx), .int (nI cc), .ref 0], (MH g kept was isKept tape fed pos tlen flt ranking paper written pairs above below isDone dist_27 rv (nI rm) lsz itm weakAbove weakBelow))) rfl ?_
                refine e_call (y := 190) (av := [.ref 0, .int (nI cc), .int (nI nx), .int (nI (8 * i + j))]) (rest := []) rfl (c_X6_isOf (d + 1) (n := n) (outs := outs) (bm := bm) (ms := ms) (dr := dr) (cn := cn) (pl := pl) (F := F) (t := (K i j)) (by first | assumption | omega | rfl | trivial) (by first | assumption | omega | rfl | trivial) (by first | assumption | omega | rfl | trivial) (by exact hW.1 i hi j (by omega)) (by exact hK0) (by first | assumption | omega | rfl | trivial) (by first | assumption | omega | rfl | trivial)) (fun r_79 h_79 p_79 => ?_)
                obtain ⟨rfl, o_79⟩ := p_79
                rcases o_79 with ⟨rfl, o_79⟩ | ⟨rfl, o_79⟩
                · skip
                  refine e_steps 8 (σ' := (105, [(4, .int (nI nx)), (0, .ref 0), (1, .int (nI i)), (2, .int (nI j)), (3, .int (nI (8 * i + j))), (5, .int (nI nx))], [.int (nI nx), .int (nI rm), .ref 12], (MH g kept was isKept tape fed pos tlen flt ranking paper written pairs above below isDone dist_27 rv (nI rm) lsz itm weakAbove weakBelow))) rfl ?_
                  refine e_ias (MH g kept was isKept tape fed pos tlen flt ranking paper written pairs above below isDone dist_27 (upd rv rm (nI nx)) (nI rm) lsz itm weakAbove weakBelow) rfl rfl (by first | assumption | omega | rfl | trivial) (by decide) rfl ?_
                  refine e_steps 4 (σ' := (112, [(4, .int (nI nx)), (0, .ref 0), (1, .int (nI i)), (2, .int (nI j)), (3, .int (nI (8 * i + j))), (5, .int (nI nx))], [.int (nI 1), .int (nI rm), .ref 0], (MH g kept was isKept tape fed pos tlen flt ranking paper written pairs above below isDone dist_27 (upd rv rm (nI nx)) (nI rm) lsz itm weakAbove weakBelow))) rfl ?_
                  refine e_add (rm + 1) rfl (by first | rfl | omega) ?_
                  refine e_steps 2 (σ' := (45, [(4, .int (nI nx)), (0, .ref 0), (1, .int (nI i)), (2, .int (nI j)), (3, .int (nI (8 * i + j))), (5, .int (nI nx))], [], (MH g kept was isKept tape fed pos tlen flt ranking paper written pairs above below isDone dist_27 (upd rv rm (nI nx)) (nI (rm + 1)) lsz itm weakAbove weakBelow))) rfl ?_
                  refine e_sub [1, 2, 3, 4, 0] rfl ?_
                  exact ih_45 nx (upd rv rm (nI nx)) (rm + 1) ((fun k => if k = rm then nx else rw k)) (by omega) (by exact z_wo_step l1 l2 l4 l5 l6 l7 m5 o_79 (by omega) (by omega))
                · skip
                  refine e_steps 1 (σ' := (85, [(0, .ref 0), (1, .int (nI i)), (2, .int (nI j)), (3, .int (nI (8 * i + j))), (4, .int (nI cc)), (5, .int (nI nx))], [], (MH g kept was isKept tape fed pos tlen flt ranking paper written pairs above below isDone dist_27 rv (nI rm) lsz itm weakAbove weakBelow))) rfl ?_
                  refine e_inc (n := 1) rfl rfl rfl (nx + 1) (by rfl) [(5, .int (nI (nx + 1))), (0, .ref 0), (1, .int (nI i)), (2, .int (nI j)), (3, .int (nI (8 * i + j))), (4, .int (nI cc))] rfl ?_
                  refine e_steps 1 (σ' := (54, [(5, .int (nI (nx + 1))), (0, .ref 0), (1, .int (nI i)), (2, .int (nI j)), (3, .int (nI (8 * i + j))), (4, .int (nI cc))], [], (MH g kept was isKept tape fed pos tlen flt ranking paper written pairs above below isDone dist_27 rv (nI rm) lsz itm weakAbove weakBelow))) rfl ?_
                  refine e_sub [1, 2, 3, 4, 5, 0] rfl ?_
                  exact ih_54 (nx + 1) (by omega) (by first | (refine ⟨⟨y0, z_nxne m1 (fun e => o_79 (e ▸ m4)), m2, m3, m4⟩, fun y hy => ?_⟩; rcases (by omega : y < nx ∨ y = nx) with e | e; exact m5 y e; exact fun q => o_79 (e ▸ q.2)) | (refine ⟨⟨y0, z_nxne m1 (fun e => c_70 (by subst e; omega)), m2, m3, m4⟩, fun y hy => ?_⟩; rcases (by omega : y < nx ∨ y = nx) with e | e; exact m5 y e; exact fun q => c_70 (by subst e; omega)))
          refine e_sub [1, 2, 3, 4, 5, 0] rfl ?_
          exact loop_54 _ 0 (Nat.lt_succ_self _) (by obtain ⟨y, h1, h2, h3⟩ := hDS.2.1 cc l3 (by omega) (by omega); exact ⟨⟨y, Nat.zero_le y, h1, h2, h3⟩, fun y hy => absurd hy (Nat.not_lt_zero y)⟩)
    refine e_sub [2, 3, 4, 1, 0] rfl ?_
    exact loop_45 _ i (upd rowv 0 (nI i)) 1 ((fun _ => i)) (Nat.lt_succ_self _) (by exact ⟨by omega, rfl, hi, fun k hk => by (have e : k = 0 := (by omega)); rw [e]; rfl, ⟨rfl, fun k hk => absurd hk (by omega)⟩, fun _ _ => hi, rfl⟩)
  · rw [lg_cmp_ge] at c_19
    refine e_steps 0 (σ' := (23, [(3, .int (nI (8 * i + j))), (0, .ref 0), (1, .int (nI i)), (2, .int (nI j))], [], (MH g kept was isKept tape fed pos tlen flt ranking paper written pairs above below isDone dist rowv (nI 0) lsz itm weakAbove weakBelow))) rfl ?_
    exact e_ret rfl (trivial) (hR _ _ ⟨dist, rowv, 0, rfl, rfl, (by first | exact Or.inl ⟨z_AB1_none (hW.1 i hi j (by omega)) (Int64.not_le.mp c_19), rfl⟩ | exact Or.inr ⟨D, rw, z_wo_end hK0 hDS hDi l5 l6 l7 (by omega) (by omega), by omega, l4⟩)⟩)
theorem c_X6_way (d : Nat) {g : Nat → Int32} {kept : Nat → Int32} {was : Nat → Int32} {isKept : Int32} {tape : Nat → Int32} {fed : Int32} {pos : Int32} {tlen : Int32} {flt : Int32} {ranking : Nat → Int32} {paper : Nat → Int32} {written : Int32} {pairs : Nat → Int64} {above : Nat → Int64} {below : Nat → Int64} {isDone : Nat → Int32} {dist : Nat → Int32} {rowv : Nat → Int32} {rowMany : Int32} {lsz : Nat → Int32} {itm : Nat → Int64} {weakAbove : Int64} {weakBelow : Int64} {i : Int32} {j : Int32} {k : Int32} {n : Nat} {outs : Nat} {bm : Nat} {ms : Nat} {dr : Nat → Nat} {cn : Nat → Nat} {pl : Nat → Nat → Nat} (hG : z_GI g n outs bm ms dr cn pl) : z_CAL (d + 7) 193 [.ref 0, .int i, .int j, .int k] (MH g kept was isKept tape fed pos tlen flt ranking paper written pairs above below isDone dist rowv rowMany lsz itm weakAbove weakBelow) (fun r h2 => ∃ (pairs2 : Nat → Int64) (ab2 : Nat → Int64) (be2 : Nat → Int64) (dn2 : Nat → Int32) (dist2 : Nat → Int32) (row2 : Nat → Int32) (rm2 : Int32) (v : Int32), r = some (.int v) ∧ h2 = (MH g kept was isKept tape fed pos tlen flt ranking paper written pairs2 ab2 be2 dn2 dist2 row2 rm2 lsz itm weakAbove weakBelow) ∧ ((v = -nI 1 ∧ ((¬ ∃ a b, a < n ∧ b < n ∧ a ≠ b ∧ i = nI a ∧ j = nI b) ∨ k < -nI 1)) ∨ ∃ a b, a < n ∧ b < n ∧ a ≠ b ∧ i = nI a ∧ j = nI b ∧ ¬ k < -nI 1 ∧ ((¬ ((z_dif (2 ^ n - 1) outs).testBit a = true ∧ (z_dif (2 ^ n - 1) outs).testBit b = true) ∧ v = -nI 3) ∨ (((z_dif (2 ^ n - 1) outs).testBit a = true ∧ (z_dif (2 ^ n - 1) outs).testBit b = true) ∧ ∃ K, z_rows (z_LS ms (z_dif (2 ^ n - 1) outs) (z_for bm cn pl)) n K ∧ ((K a b = 0 ∧ v = -nI 5) ∨ ∃ D rw, z_WAY (z_LS ms (z_dif (2 ^ n - 1) outs) (z_for bm cn pl)) n K a b D rw ∧ ((k < 0 ∧ v = nI (D a + 1)) ∨ ∃ q, k = nI q ∧ q < 2147483648 ∧ ((q < D a + 1 ∧ v = nI (rw q)) ∨ (D a + 1 ≤ q ∧ v = -nI 1)))))))) := by
  refine e_of2 (q := zmX6_way) rfl rfl (fun R hR => ?_)
  obtain ⟨⟨hn0, hn2, hn8⟩, ⟨ho0, ho8, hin⟩, ⟨hb0, hb40⟩, ⟨hm0, hm4⟩, ⟨hdr, hdl, hdc⟩, hcn, hpl⟩ := id hG; have hp8 := z_p2 hn8; have ho256 : outs < 256 := (by omega); have hi256 : z_dif (2 ^ n - 1) outs < 256 := (by have := z_dif_le (s := 2 ^ n - 1) (t := outs); omega)
  refine e_steps 3 (σ' := (3, [(0, .ref 0), (1, .int i), (2, .int j), (3, .int k)], [.int j, .int i, .ref 0], (MH g kept was isKept tape fed pos tlen flt ranking paper written pairs above below isDone dist rowv rowMany lsz itm weakAbove weakBelow))) rfl ?_
  refine e_call (y := 136) (av := [.ref 0, .int i, .int j]) (rest := []) rfl (c_X6_areTwo (d + 3) (n := n) (outs := outs) (bm := bm) (ms := ms) (dr := dr) (cn := cn) (pl := pl) (by first | assumption | omega | rfl | trivial)) (fun r_3 h_3 p_3 => ?_)
  obtain ⟨rfl, o_3⟩ := p_3
  rcases o_3 with ⟨rfl, o_3⟩ | ⟨rfl, o_3⟩
  · skip
    obtain ⟨a_3, b_3, ha_3, hb_3, hab_3, ea_3, eb_3⟩ := o_3
    subst ea_3
    subst eb_3
    refine e_steps 3 (σ' := (11, [(0, .ref 0), (1, .int (nI a_3)), (2, .int (nI b_3)), (3, .int k)], [.int ((-nI 1)), .int k], (MH g kept was isKept tape fed pos tlen flt ranking paper written pairs above below isDone dist rowv rowMany lsz itm weakAbove weakBelow))) rfl ?_
    refine e_if (c := (-nI 1) ≤ k) rfl (fun c_11 => ?_) (fun c_11 => ?_)
    · skip
      refine e_steps 3 (σ' := (19, [(0, .ref 0), (1, .int (nI a_3)), (2, .int (nI b_3)), (3, .int k)], [.int (nI b_3), .int (nI a_3), .ref 0], (MH g kept was isKept tape fed pos tlen flt ranking paper written pairs above below isDone dist rowv rowMany lsz itm weakAbove weakBelow))) rfl ?_
      refine e_call (y := 137) (av := [.ref 0, .int (nI a_3), .int (nI b_3)]) (rest := []) rfl (c_X6_areIn (d + 3) (n := n) (outs := outs) (bm := bm) (ms := ms) (dr := dr) (cn := cn) (pl := pl) (by first | assumption | omega | rfl | trivial) (by first | assumption | omega | rfl | trivial) (by first | assumption | omega | rfl | trivial)) (fun r_19 h_19 p_19 => ?_)
      obtain ⟨rfl, o_19⟩ := p_19
      rcases o_19 with ⟨rfl, o_19⟩ | ⟨rfl, o_19⟩
      · skip
        refine e_steps 2 (σ' := (29, [(0, .ref 0), (1, .int (nI a_3)), (2, .int (nI b_3)), (3, .int k)], [.ref 0], (MH g kept was isKept tape fed pos tlen flt ranking paper written pairs above below isDone dist rowv rowMany lsz itm weakAbove weakBelow))) rfl ?_
        refine e_call (y := 185) (av := [.ref 0]) (rest := []) rfl (c_X6_waysNow (d + 0) (n := n) (outs := outs) (bm := bm) (ms := ms) (dr := dr) (cn := cn) (pl := pl) (by first | assumption | omega | rfl | trivial)) (fun r_29 h_29 p_29 => ?_)
        obtain ⟨pairs_29, above_29, below_29, isDone_29, rfl, rfl, q_29⟩ := p_29
        obtain ⟨hP2, K, hW⟩ := q_29
        refine e_steps 3 (σ' := (35, [(0, .ref 0), (1, .int (nI a_3)), (2, .int (nI b_3)), (3, .int k)], [.int (nI b_3), .int (nI a_3), .ref 0], (MH g kept was isKept tape fed pos tlen flt ranking paper written pairs_29 above_29 below_29 isDone_29 dist rowv rowMany lsz itm weakAbove weakBelow))) rfl ?_
        refine e_call (y := 192) (av := [.ref 0, .int (nI a_3), .int (nI b_3)]) (rest := []) rfl (c_X6_wayOf (d + 1) (n := n) (outs := outs) (bm := bm) (ms := ms) (dr := dr) (cn := cn) (pl := pl) (F := (z_for bm cn pl)) (K := K) (by first | assumption | omega | rfl | trivial) (by exact hP2) (by exact hW) (by first | assumption | omega | rfl | trivial) (by first | assumption | omega | rfl | trivial) (by first | assumption | omega | rfl | trivial)) (fun r_35 h_35 p_35 => ?_)
        obtain ⟨dist_35, rowv_35, rowMany_35, rfl, rfl, q_35⟩ := p_35
        refine e_steps 2 (σ' := (42, [(0, .ref 0), (1, .int (nI a_3)), (2, .int (nI b_3)), (3, .int k)], [.int (nI rowMany_35)], (MH g kept was isKept tape fed pos tlen flt ranking paper written pairs_29 above_29 below_29 isDone_29 dist_35 rowv_35 (nI rowMany_35) lsz itm weakAbove weakBelow))) rfl ?_
        refine e_if (c := ¬ nI rowMany_35 = 0) rfl (fun c_42 => ?_) (fun c_42 => ?_)
        · skip
          rw [z0_ne (by rcases q_35 with ⟨_, e⟩ | ⟨D, rw, w1, e, _⟩; omega; (have := w1.2.2.1; omega))] at c_42
          skip
          obtain ⟨D, rw, w1, w2, w3⟩ := q_35.resolve_left (fun q => c_42 q.2); have w4 := w1.2.2.1
          refine e_steps 1 (σ' := (49, [(0, .ref 0), (1, .int (nI a_3)), (2, .int (nI b_3)), (3, .int k)], [.int k], (MH g kept was isKept tape fed pos tlen flt ranking paper written pairs_29 above_29 below_29 isDone_29 dist_35 rowv_35 (nI rowMany_35) lsz itm weakAbove weakBelow))) rfl ?_
          refine e_if (c := 0 ≤ k) rfl (fun c_49 => ?_) (fun c_49 => ?_)
          · skip
            obtain ⟨k_49, hk_49, ek_49⟩ := nI_of (by rw [Int32.not_lt]; exact c_49)
            subst ek_49
            refine e_steps 3 (σ' := (64, [(0, .ref 0), (1, .int (nI a_3)), (2, .int (nI b_3)), (3, .int (nI k_49))], [.int (nI rowMany_35), .int (nI k_49)], (MH g kept was isKept tape fed pos tlen flt ranking paper written pairs_29 above_29 below_29 isDone_29 dist_35 rowv_35 (nI rowMany_35) lsz itm weakAbove weakBelow))) rfl ?_
            refine e_if (c := nI rowMany_35 ≤ nI k_49) rfl (fun c_64 => ?_) (fun c_64 => ?_)
            · skip
              rw [nI_leI (by omega) (by omega)] at c_64
              refine e_steps 1 (σ' := (77, [(0, .ref 0), (1, .int (nI a_3)), (2, .int (nI b_3)), (3, .int (nI k_49))], [.int ((-nI 1))], (MH g kept was isKept tape fed pos tlen flt ranking paper written pairs_29 above_29 below_29 isDone_29 dist_35 rowv_35 (nI rowMany_35) lsz itm weakAbove weakBelow))) rfl ?_
              exact e_ret rfl (trivial) (hR _ _ ⟨pairs_29, above_29, below_29, isDone_29, dist_35, rowv_35, nI rowMany_35, ((-nI 1)), rfl, rfl, (by first | exact Or.inl ⟨rfl, Or.inl o_3⟩ | exact Or.inl ⟨rfl, Or.inr (Int32.not_le.mp c_11)⟩ | exact Or.inr ⟨_, _, ha_3, hb_3, hab_3, rfl, rfl, Int32.not_lt.mpr c_11, Or.inl ⟨o_19, rfl⟩⟩ | exact Or.inr ⟨_, _, ha_3, hb_3, hab_3, rfl, rfl, Int32.not_lt.mpr c_11, Or.inr ⟨o_19, K, hW.2, Or.inl ⟨z_way0 q_35 c_42, rfl⟩⟩⟩ | exact Or.inr ⟨_, _, ha_3, hb_3, hab_3, rfl, rfl, Int32.not_lt.mpr c_11, Or.inr ⟨o_19, K, hW.2, Or.inr ⟨D, rw, w1, Or.inr ⟨k_49, rfl, by omega, Or.inl ⟨by omega, rfl⟩⟩⟩⟩⟩ | exact Or.inr ⟨_, _, ha_3, hb_3, hab_3, rfl, rfl, Int32.not_lt.mpr c_11, Or.inr ⟨o_19, K, hW.2, Or.inr ⟨D, rw, w1, Or.inr ⟨k_49, rfl, by omega, Or.inr ⟨by omega, rfl⟩⟩⟩⟩⟩ | exact Or.inr ⟨_, _, ha_3, hb_3, hab_3, rfl, rfl, Int32.not_lt.mpr c_11, Or.inr ⟨o_19, K, hW.2, Or.inr ⟨D, rw, w1, Or.inl ⟨Int32.not_le.mp c_49, by rw [w2]⟩⟩⟩⟩)⟩)
            · skip
              rw [nI_leI (by omega) (by omega)] at c_64
              refine e_steps 3 (σ' := (72, [(0, .ref 0), (1, .int (nI a_3)), (2, .int (nI b_3)), (3, .int (nI k_49))], [.int (nI k_49), .ref 12], (MH g kept was isKept tape fed pos tlen flt ranking paper written pairs_29 above_29 below_29 isDone_29 dist_35 rowv_35 (nI rowMany_35) lsz itm weakAbove weakBelow))) rfl ?_
              refine e_ial (nI (rw k_49)) rfl rfl (by first | assumption | omega | rfl | trivial) (by decide) (w3 _ (by omega)) ?_
              refine e_steps 1 (σ' := (77, [(0, .ref 0), (1, .int (nI a_3)), (2, .int (nI b_3)), (3, .int (nI k_49))], [.int (nI (rw k_49))], (MH g kept was isKept tape fed pos tlen flt ranking paper written pairs_29 above_29 below_29 isDone_29 dist_35 rowv_35 (nI rowMany_35) lsz itm weakAbove weakBelow))) rfl ?_
              exact e_ret rfl (trivial) (hR _ _ ⟨pairs_29, above_29, below_29, isDone_29, dist_35, rowv_35, nI rowMany_35, (nI (rw k_49)), rfl, rfl, (by first | exact Or.inl ⟨rfl, Or.inl o_3⟩ | exact Or.inl ⟨rfl, Or.inr (Int32.not_le.mp c_11)⟩ | exact Or.inr ⟨_, _, ha_3, hb_3, hab_3, rfl, rfl, Int32.not_lt.mpr c_11, Or.inl ⟨o_19, rfl⟩⟩ | exact Or.inr ⟨_, _, ha_3, hb_3, hab_3, rfl, rfl, Int32.not_lt.mpr c_11, Or.inr ⟨o_19, K, hW.2, Or.inl ⟨z_way0 q_35 c_42, rfl⟩⟩⟩ | exact Or.inr ⟨_, _, ha_3, hb_3, hab_3, rfl, rfl, Int32.not_lt.mpr c_11, Or.inr ⟨o_19, K, hW.2, Or.inr ⟨D, rw, w1, Or.inr ⟨k_49, rfl, by omega, Or.inl ⟨by omega, rfl⟩⟩⟩⟩⟩ | exact Or.inr ⟨_, _, ha_3, hb_3, hab_3, rfl, rfl, Int32.not_lt.mpr c_11, Or.inr ⟨o_19, K, hW.2, Or.inr ⟨D, rw, w1, Or.inr ⟨k_49, rfl, by omega, Or.inr ⟨by omega, rfl⟩⟩⟩⟩⟩ | exact Or.inr ⟨_, _, ha_3, hb_3, hab_3, rfl, rfl, Int32.not_lt.mpr c_11, Or.inr ⟨o_19, K, hW.2, Or.inr ⟨D, rw, w1, Or.inl ⟨Int32.not_le.mp c_49, by rw [w2]⟩⟩⟩⟩)⟩)
          · skip
            refine e_steps 3 (σ' := (77, [(0, .ref 0), (1, .int (nI a_3)), (2, .int (nI b_3)), (3, .int k)], [.int (nI rowMany_35)], (MH g kept was isKept tape fed pos tlen flt ranking paper written pairs_29 above_29 below_29 isDone_29 dist_35 rowv_35 (nI rowMany_35) lsz itm weakAbove weakBelow))) rfl ?_
            exact e_ret rfl (trivial) (hR _ _ ⟨pairs_29, above_29, below_29, isDone_29, dist_35, rowv_35, nI rowMany_35, (nI rowMany_35), rfl, rfl, (by first | exact Or.inl ⟨rfl, Or.inl o_3⟩ | exact Or.inl ⟨rfl, Or.inr (Int32.not_le.mp c_11)⟩ | exact Or.inr ⟨_, _, ha_3, hb_3, hab_3, rfl, rfl, Int32.not_lt.mpr c_11, Or.inl ⟨o_19, rfl⟩⟩ | exact Or.inr ⟨_, _, ha_3, hb_3, hab_3, rfl, rfl, Int32.not_lt.mpr c_11, Or.inr ⟨o_19, K, hW.2, Or.inl ⟨z_way0 q_35 c_42, rfl⟩⟩⟩ | exact Or.inr ⟨_, _, ha_3, hb_3, hab_3, rfl, rfl, Int32.not_lt.mpr c_11, Or.inr ⟨o_19, K, hW.2, Or.inr ⟨D, rw, w1, Or.inl ⟨Int32.not_le.mp c_49, by rw [w2]⟩⟩⟩⟩)⟩)
        · skip
          rw [z0_ne (by rcases q_35 with ⟨_, e⟩ | ⟨D, rw, w1, e, _⟩; omega; (have := w1.2.2.1; omega))] at c_42
          replace c_42 := Decidable.not_not.mp c_42
          refine e_steps 1 (σ' := (47, [(0, .ref 0), (1, .int (nI a_3)), (2, .int (nI b_3)), (3, .int k)], [.int ((-nI 5))], (MH g kept was isKept tape fed pos tlen flt ranking paper written pairs_29 above_29 below_29 isDone_29 dist_35 rowv_35 (nI rowMany_35) lsz itm weakAbove weakBelow))) rfl ?_
          exact e_ret rfl (trivial) (hR _ _ ⟨pairs_29, above_29, below_29, isDone_29, dist_35, rowv_35, nI rowMany_35, ((-nI 5)), rfl, rfl, (by first | exact Or.inl ⟨rfl, Or.inl o_3⟩ | exact Or.inl ⟨rfl, Or.inr (Int32.not_le.mp c_11)⟩ | exact Or.inr ⟨_, _, ha_3, hb_3, hab_3, rfl, rfl, Int32.not_lt.mpr c_11, Or.inl ⟨o_19, rfl⟩⟩ | exact Or.inr ⟨_, _, ha_3, hb_3, hab_3, rfl, rfl, Int32.not_lt.mpr c_11, Or.inr ⟨o_19, K, hW.2, Or.inl ⟨z_way0 q_35 c_42, rfl⟩⟩⟩)⟩)
      · skip
        refine e_steps 2 (σ' := (27, [(0, .ref 0), (1, .int (nI a_3)), (2, .int (nI b_3)), (3, .int k)], [.int ((-nI 3))], (MH g kept was isKept tape fed pos tlen flt ranking paper written pairs above below isDone dist rowv rowMany lsz itm weakAbove weakBelow))) rfl ?_
        exact e_ret rfl (trivial) (hR _ _ ⟨pairs, above, below, isDone, dist, rowv, rowMany, ((-nI 3)), rfl, rfl, (by first | exact Or.inl ⟨rfl, Or.inl o_3⟩ | exact Or.inl ⟨rfl, Or.inr (Int32.not_le.mp c_11)⟩ | exact Or.inr ⟨_, _, ha_3, hb_3, hab_3, rfl, rfl, Int32.not_lt.mpr c_11, Or.inl ⟨o_19, rfl⟩⟩)⟩)
    · skip
      refine e_steps 1 (σ' := (15, [(0, .ref 0), (1, .int (nI a_3)), (2, .int (nI b_3)), (3, .int k)], [.int ((-nI 1))], (MH g kept was isKept tape fed pos tlen flt ranking paper written pairs above below isDone dist rowv rowMany lsz itm weakAbove weakBelow))) rfl ?_
      exact e_ret rfl (trivial) (hR _ _ ⟨pairs, above, below, isDone, dist, rowv, rowMany, ((-nI 1)), rfl, rfl, (by first | exact Or.inl ⟨rfl, Or.inl o_3⟩ | exact Or.inl ⟨rfl, Or.inr (Int32.not_le.mp c_11)⟩)⟩)
  · skip
    refine e_steps 2 (σ' := (15, [(0, .ref 0), (1, .int i), (2, .int j), (3, .int k)], [.int ((-nI 1))], (MH g kept was isKept tape fed pos tlen flt ranking paper written pairs above below isDone dist rowv rowMany lsz itm weakAbove weakBelow))) rfl ?_
    exact e_ret rfl (trivial) (hR _ _ ⟨pairs, above, below, isDone, dist, rowv, rowMany, ((-nI 1)), rfl, rfl, (by exact Or.inl ⟨rfl, Or.inl o_3⟩)⟩)
theorem c_X6_barrierOf (d : Nat) {g : Nat → Int32} {kept : Nat → Int32} {was : Nat → Int32} {isKept : Int32} {tape : Nat → Int32} {fed : Int32} {pos : Int32} {tlen : Int32} {flt : Int32} {ranking : Nat → Int32} {paper : Nat → Int32} {written : Int32} {pairs : Nat → Int64} {above : Nat → Int64} {below : Nat → Int64} {isDone : Nat → Int32} {dist : Nat → Int32} {rowv : Nat → Int32} {rowMany : Int32} {lsz : Nat → Int32} {itm : Nat → Int64} {weakAbove : Int64} {weakBelow : Int64} {i : Nat} {j : Nat} {n : Nat} {outs : Nat} {bm : Nat} {ms : Nat} {dr : Nat → Nat} {cn : Nat → Nat} {pl : Nat → Nat → Nat} {F : Nat → Nat → Nat} {K : Nat → Nat → Nat} (hG : z_GI g n outs bm ms dr cn pl) (hP : z_PR pairs n F) (hW : z_WY ms (z_dif (2 ^ n - 1) outs) F n above below K) (hi : i < n) (hj : j < n) : z_CAL (d + 3) 194 [.ref 0, .int (nI i), .int (nI j)] (MH g kept was isKept tape fed pos tlen flt ranking paper written pairs above below isDone dist rowv rowMany lsz itm weakAbove weakBelow) (fun r h2 => r = some (.int (nI (z_ba n K i j))) ∧ h2 = (MH g kept was isKept tape fed pos tlen flt ranking paper written pairs above below isDone dist rowv rowMany lsz itm weakAbove weakBelow)) := by
  refine e_of2 (q := zmX6_barrierOf) rfl rfl (fun R hR => ?_)
  obtain ⟨⟨hn0, hn2, hn8⟩, ⟨ho0, ho8, hin⟩, ⟨hb0, hb40⟩, ⟨hm0, hm4⟩, ⟨hdr, hdl, hdc⟩, hcn, hpl⟩ := id hG; have hp8 := z_p2 hn8; have ho256 : outs < 256 := (by omega); have hi256 : z_dif (2 ^ n - 1) outs < 256 := (by have := z_dif_le (s := 2 ^ n - 1) (t := outs); omega)
  refine e_steps 2 (σ' := (2, [(0, .ref 0), (1, .int (nI i)), (2, .int (nI j))], [.int (nI i), .int (nI 1)], (MH g kept was isKept tape fed pos tlen flt ranking paper written pairs above below isDone dist rowv rowMany lsz itm weakAbove weakBelow))) rfl ?_
  refine e_shl rfl (by first | assumption | omega | rfl | trivial) ?_
  refine e_steps 3 (σ' := (7, [(4, .int (nI 0)), (3, .int (nI (2 ^ i))), (0, .ref 0), (1, .int (nI i)), (2, .int (nI j))], [], (MH g kept was isKept tape fed pos tlen flt ranking paper written pairs above below isDone dist rowv rowMany lsz itm weakAbove weakBelow))) rfl ?_
  have loop_7 : ∀ (z_7 : Nat) (st : Nat) (c : Nat), n - c < z_7 → (c ≤ n ∧ st = 2 ^ i ||| z_set c (fun c => decide (c ≠ i ∧ K i j < K i c))) → z_EV (d + 2) zmX6_barrierOf R (7, [(0, .ref 0), (1, .int (nI i)), (2, .int (nI j)), (3, .int (nI st)), (4, .int (nI c))], [], (MH g kept was isKept tape fed pos tlen flt ranking paper written pairs above below isDone dist rowv rowMany lsz itm weakAbove weakBelow)) := by
    intro z_7
    induction z_7 with
    | zero => intro st c hm_7 _; exact absurd hm_7 (Nat.not_lt_zero _)
    | succ z_7 ih_7 =>
      intro st c hm_7 hi_7
      obtain ⟨l1, l2⟩ := hi_7
      refine e_steps 4 (σ' := (14, [(0, .ref 0), (1, .int (nI i)), (2, .int (nI j)), (3, .int (nI st)), (4, .int (nI c))], [.int (nI 0), .ref 1, .int (nI c)], (MH g kept was isKept tape fed pos tlen flt ranking paper written pairs above below isDone dist rowv rowMany lsz itm weakAbove weakBelow))) rfl ?_
      refine e_ial (nI n) rfl rfl (by first | assumption | omega | rfl | trivial) (by decide) (hn0) ?_
      refine e_steps 0 (σ' := (15, [(0, .ref 0), (1, .int (nI i)), (2, .int (nI j)), (3, .int (nI st)), (4, .int (nI c))], [.int (nI n), .int (nI c)], (MH g kept was isKept tape fed pos tlen flt ranking paper written pairs above below isDone dist rowv rowMany lsz itm weakAbove weakBelow))) rfl ?_
      refine e_if (c := nI n ≤ nI c) rfl (fun c_15 => ?_) (fun c_15 => ?_)
      · skip
        rw [nI_leI (by omega) (by omega)] at c_15
        refine e_steps 1 (σ' := (64, [(0, .ref 0), (1, .int (nI i)), (2, .int (nI j)), (3, .int (nI st)), (4, .int (nI c))], [.int (nI st)], (MH g kept was isKept tape fed pos tlen flt ranking paper written pairs above below isDone dist rowv rowMany lsz itm weakAbove weakBelow))) rfl ?_
        exact e_ret rfl (trivial) (hR _ _ ⟨(by rw [l2, show c = n by omega]; rfl), rfl⟩)
      · skip
        rw [nI_leI (by omega) (by omega)] at c_15
        refine e_steps 2 (σ' := (21, [(0, .ref 0), (1, .int (nI i)), (2, .int (nI j)), (3, .int (nI st)), (4, .int (nI c))], [.int (nI i), .int (nI c)], (MH g kept was isKept tape fed pos tlen flt ranking paper written pairs above below isDone dist rowv rowMany lsz itm weakAbove weakBelow))) rfl ?_
        refine e_if (c := nI c = nI i) rfl (fun c_21 => ?_) (fun c_21 => ?_)
        · skip
          rw [nI_eq (by omega) (by omega)] at c_21
          refine e_steps 0 (σ' := (57, [(0, .ref 0), (1, .int (nI i)), (2, .int (nI j)), (3, .int (nI st)), (4, .int (nI c))], [], (MH g kept was isKept tape fed pos tlen flt ranking paper written pairs above below isDone dist rowv rowMany lsz itm weakAbove weakBelow))) rfl ?_
          refine e_inc (n := 1) rfl rfl rfl (c + 1) (by rfl) [(4, .int (nI (c + 1))), (0, .ref 0), (1, .int (nI i)), (2, .int (nI j)), (3, .int (nI st))] rfl ?_
          refine e_steps 1 (σ' := (7, [(4, .int (nI (c + 1))), (0, .ref 0), (1, .int (nI i)), (2, .int (nI j)), (3, .int (nI st))], [], (MH g kept was isKept tape fed pos tlen flt ranking paper written pairs above below isDone dist rowv rowMany lsz itm weakAbove weakBelow))) rfl ?_
          refine e_sub [1, 2, 3, 4, 0] rfl ?_
          exact ih_7 st (c + 1) (by omega) (by exact ⟨by omega, z_or_F l2 (decide_eq_false (fun q => q.1 (by assumption)))⟩)
        · skip
          rw [nI_eq (by omega) (by omega)] at c_21
          refine e_steps 4 (σ' := (30, [(0, .ref 0), (1, .int (nI i)), (2, .int (nI j)), (3, .int (nI st)), (4, .int (nI c))], [.int (nI 3), .ref 1, .ref 0], (MH g kept was isKept tape fed pos tlen flt ranking paper written pairs above below isDone dist rowv rowMany lsz itm weakAbove weakBelow))) rfl ?_
          refine e_ial (nI ms) rfl rfl (by first | assumption | omega | rfl | trivial) (by decide) (hm0) ?_
          refine e_steps 2 (σ' := (34, [(0, .ref 0), (1, .int (nI i)), (2, .int (nI j)), (3, .int (nI st)), (4, .int (nI c))], [.int (nI i), .int (nI 8), .int (nI ms), .ref 0], (MH g kept was isKept tape fed pos tlen flt ranking paper written pairs above below isDone dist rowv rowMany lsz itm weakAbove weakBelow))) rfl ?_
          refine e_mul (8 * i) rfl (by first | rfl | omega | simp) ?_
          refine e_steps 1 (σ' := (37, [(0, .ref 0), (1, .int (nI i)), (2, .int (nI j)), (3, .int (nI st)), (4, .int (nI c))], [.int (nI c), .int (nI (8 * i)), .int (nI ms), .ref 0], (MH g kept was isKept tape fed pos tlen flt ranking paper written pairs above below isDone dist rowv rowMany lsz itm weakAbove weakBelow))) rfl ?_
          refine e_add (8 * i + c) rfl (by first | rfl | omega) ?_
          refine e_steps 2 (σ' := (41, [(0, .ref 0), (1, .int (nI i)), (2, .int (nI j)), (3, .int (nI st)), (4, .int (nI c))], [.int (nI i), .int (nI 8), .int (nI (8 * i + c)), .int (nI ms), .ref 0], (MH g kept was isKept tape fed pos tlen flt ranking paper written pairs above below isDone dist rowv rowMany lsz itm weakAbove weakBelow))) rfl ?_
          refine e_mul (8 * i) rfl (by first | rfl | omega | simp) ?_
          refine e_steps 1 (σ' := (43, [(0, .ref 0), (1, .int (nI i)), (2, .int (nI j)), (3, .int (nI st)), (4, .int (nI c))], [.int (nI j), .int (nI (8 * i)), .int (nI (8 * i + c)), .int (nI ms), .ref 0], (MH g kept was isKept tape fed pos tlen flt ranking paper written pairs above below isDone dist rowv rowMany lsz itm weakAbove weakBelow))) rfl ?_
          refine e_add (8 * i + j) rfl (by first | rfl | omega) ?_
          refine e_steps 0 (σ' := (44, [(0, .ref 0), (1, .int (nI i)), (2, .int (nI j)), (3, .int (nI st)), (4, .int (nI c))], [.int (nI (8 * i + j)), .int (nI (8 * i + c)), .int (nI ms), .ref 0], (MH g kept was isKept tape fed pos tlen flt ranking paper written pairs above below isDone dist rowv rowMany lsz itm weakAbove weakBelow))) rfl ?_
          refine e_call (y := 179) (av := [.ref 0, .int (nI ms), .int (nI (8 * i + c)), .int (nI (8 * i + j))]) (rest := []) rfl (c_X6_isMore (d + 0) (k1 := (K i c)) (k2 := (K i j)) (by exact hW.1 i hi c (by omega)) (by exact hW.1 i hi j (by omega)) (by first | assumption | omega | rfl | trivial) (by first | assumption | omega | rfl | trivial) (by first | assumption | omega | rfl | trivial)) (fun r_44 h_44 p_44 => ?_)
          obtain ⟨rfl, o_44⟩ := p_44
          rcases o_44 with ⟨rfl, o_44⟩ | ⟨rfl, o_44⟩
          · skip
            refine e_steps 4 (σ' := (54, [(0, .ref 0), (1, .int (nI i)), (2, .int (nI j)), (3, .int (nI st)), (4, .int (nI c))], [.int (nI c), .int (nI 1), .int (nI st)], (MH g kept was isKept tape fed pos tlen flt ranking paper written pairs above below isDone dist rowv rowMany lsz itm weakAbove weakBelow))) rfl ?_
            refine e_shl rfl (by first | assumption | omega | rfl | trivial) ?_
            refine e_steps 0 (σ' := (55, [(0, .ref 0), (1, .int (nI i)), (2, .int (nI j)), (3, .int (nI st)), (4, .int (nI c))], [.int (nI (2 ^ c)), .int (nI st)], (MH g kept was isKept tape fed pos tlen flt ranking paper written pairs above below isDone dist rowv rowMany lsz itm weakAbove weakBelow))) rfl ?_
            refine e_or (st ||| (2 ^ c)) rfl (by first | rfl | decide) ?_
            refine e_steps 1 (σ' := (57, [(3, .int (nI (st ||| (2 ^ c)))), (0, .ref 0), (1, .int (nI i)), (2, .int (nI j)), (4, .int (nI c))], [], (MH g kept was isKept tape fed pos tlen flt ranking paper written pairs above below isDone dist rowv rowMany lsz itm weakAbove weakBelow))) rfl ?_
            refine e_inc (n := 1) rfl rfl rfl (c + 1) (by rfl) [(4, .int (nI (c + 1))), (3, .int (nI (st ||| (2 ^ c)))), (0, .ref 0), (1, .int (nI i)), (2, .int (nI j))] rfl ?_
            refine e_steps 1 (σ' := (7, [(4, .int (nI (c + 1))), (3, .int (nI (st ||| (2 ^ c)))), (0, .ref 0), (1, .int (nI i)), (2, .int (nI j))], [], (MH g kept was isKept tape fed pos tlen flt ranking paper written pairs above below isDone dist rowv rowMany lsz itm weakAbove weakBelow))) rfl ?_
            refine e_sub [2, 3, 4, 1, 0] rfl ?_
            exact ih_7 (st ||| (2 ^ c)) (c + 1) (by omega) (by first | exact ⟨by omega, z_or_T l2 (decide_eq_true ⟨by assumption, o_44⟩)⟩ | exact ⟨by omega, z_or_F l2 (decide_eq_false (fun q => o_44 q.2))⟩ | exact ⟨by omega, z_or_F l2 (decide_eq_false (fun q => q.1 (by assumption)))⟩)
          · skip
            refine e_steps 1 (σ' := (57, [(0, .ref 0), (1, .int (nI i)), (2, .int (nI j)), (3, .int (nI st)), (4, .int (nI c))], [], (MH g kept was isKept tape fed pos tlen flt ranking paper written pairs above below isDone dist rowv rowMany lsz itm weakAbove weakBelow))) rfl ?_
            refine e_inc (n := 1) rfl rfl rfl (c + 1) (by rfl) [(4, .int (nI (c + 1))), (0, .ref 0), (1, .int (nI i)), (2, .int (nI j)), (3, .int (nI st))] rfl ?_
            refine e_steps 1 (σ' := (7, [(4, .int (nI (c + 1))), (0, .ref 0), (1, .int (nI i)), (2, .int (nI j)), (3, .int (nI st))], [], (MH g kept was isKept tape fed pos tlen flt ranking paper written pairs above below isDone dist rowv rowMany lsz itm weakAbove weakBelow))) rfl ?_
            refine e_sub [1, 2, 3, 4, 0] rfl ?_
            exact ih_7 st (c + 1) (by omega) (by first | exact ⟨by omega, z_or_T l2 (decide_eq_true ⟨by assumption, o_44⟩)⟩ | exact ⟨by omega, z_or_F l2 (decide_eq_false (fun q => o_44 q.2))⟩ | exact ⟨by omega, z_or_F l2 (decide_eq_false (fun q => q.1 (by assumption)))⟩)
  refine e_sub [2, 3, 4, 1, 0] rfl ?_
  exact loop_7 _ (2 ^ i) 0 (Nat.lt_succ_self _) (by exact ⟨by omega, by simp [z_set]⟩)
theorem c_X6_barrier (d : Nat) {g : Nat → Int32} {kept : Nat → Int32} {was : Nat → Int32} {isKept : Int32} {tape : Nat → Int32} {fed : Int32} {pos : Int32} {tlen : Int32} {flt : Int32} {ranking : Nat → Int32} {paper : Nat → Int32} {written : Int32} {pairs : Nat → Int64} {above : Nat → Int64} {below : Nat → Int64} {isDone : Nat → Int32} {dist : Nat → Int32} {rowv : Nat → Int32} {rowMany : Int32} {lsz : Nat → Int32} {itm : Nat → Int64} {weakAbove : Int64} {weakBelow : Int64} {i : Int32} {j : Int32} {n : Nat} {outs : Nat} {bm : Nat} {ms : Nat} {dr : Nat → Nat} {cn : Nat → Nat} {pl : Nat → Nat → Nat} (hG : z_GI g n outs bm ms dr cn pl) : z_CAL (d + 7) 195 [.ref 0, .int i, .int j] (MH g kept was isKept tape fed pos tlen flt ranking paper written pairs above below isDone dist rowv rowMany lsz itm weakAbove weakBelow) (fun r h2 => ∃ (pairs2 : Nat → Int64) (ab2 : Nat → Int64) (be2 : Nat → Int64) (dn2 : Nat → Int32) (v : Int32), r = some (.int v) ∧ h2 = (MH g kept was isKept tape fed pos tlen flt ranking paper written pairs2 ab2 be2 dn2 dist rowv rowMany lsz itm weakAbove weakBelow) ∧ ((v = -nI 1 ∧ ¬ (∃ a b, a < n ∧ b < n ∧ a ≠ b ∧ i = nI a ∧ j = nI b)) ∨ ∃ a b, a < n ∧ b < n ∧ a ≠ b ∧ i = nI a ∧ j = nI b ∧ ((¬ ((z_dif (2 ^ n - 1) outs).testBit a = true ∧ (z_dif (2 ^ n - 1) outs).testBit b = true) ∧ v = -nI 3) ∨ (((z_dif (2 ^ n - 1) outs).testBit a = true ∧ (z_dif (2 ^ n - 1) outs).testBit b = true) ∧ ∃ K, z_rows (z_LS ms (z_dif (2 ^ n - 1) outs) (z_for bm cn pl)) n K ∧ v = nI (z_ba n K a b))))) := by
  refine e_of2 (q := zmX6_barrier) rfl rfl (fun R hR => ?_)
  obtain ⟨⟨hn0, hn2, hn8⟩, ⟨ho0, ho8, hin⟩, ⟨hb0, hb40⟩, ⟨hm0, hm4⟩, ⟨hdr, hdl, hdc⟩, hcn, hpl⟩ := id hG; have hp8 := z_p2 hn8; have ho256 : outs < 256 := (by omega); have hi256 : z_dif (2 ^ n - 1) outs < 256 := (by have := z_dif_le (s := 2 ^ n - 1) (t := outs); omega)
  refine e_steps 3 (σ' := (3, [(0, .ref 0), (1, .int i), (2, .int j)], [.int j, .int i, .ref 0], (MH g kept was isKept tape fed pos tlen flt ranking paper written pairs above below isDone dist rowv rowMany lsz itm weakAbove weakBelow))) rfl ?_
  refine e_call (y := 136) (av := [.ref 0, .int i, .int j]) (rest := []) rfl (c_X6_areTwo (d + 3) (n := n) (outs := outs) (bm := bm) (ms := ms) (dr := dr) (cn := cn) (pl := pl) (by first | assumption | omega | rfl | trivial)) (fun r_3 h_3 p_3 => ?_)
  obtain ⟨rfl, o_3⟩ := p_3
  rcases o_3 with ⟨rfl, o_3⟩ | ⟨rfl, o_3⟩
  · skip
    obtain ⟨a_3, b_3, ha_3, hb_3, hab_3, ea_3, eb_3⟩ := o_3
    subst ea_3
    subst eb_3
    refine e_steps 4 (σ' := (14, [(0, .ref 0), (1, .int (nI a_3)), (2, .int (nI b_3))], [.int (nI b_3), .int (nI a_3), .ref 0], (MH g kept was isKept tape fed pos tlen flt ranking paper written pairs above below isDone dist rowv rowMany lsz itm weakAbove weakBelow))) rfl ?_
    refine e_call (y := 137) (av := [.ref 0, .int (nI a_3), .int (nI b_3)]) (rest := []) rfl (c_X6_areIn (d + 3) (n := n) (outs := outs) (bm := bm) (ms := ms) (dr := dr) (cn := cn) (pl := pl) (by first | assumption | omega | rfl | trivial) (by first | assumption | omega | rfl | trivial) (by first | assumption | omega | rfl | trivial)) (fun r_14 h_14 p_14 => ?_)
    obtain ⟨rfl, o_14⟩ := p_14
    rcases o_14 with ⟨rfl, o_14⟩ | ⟨rfl, o_14⟩
    · skip
      refine e_steps 2 (σ' := (24, [(0, .ref 0), (1, .int (nI a_3)), (2, .int (nI b_3))], [.ref 0], (MH g kept was isKept tape fed pos tlen flt ranking paper written pairs above below isDone dist rowv rowMany lsz itm weakAbove weakBelow))) rfl ?_
      refine e_call (y := 185) (av := [.ref 0]) (rest := []) rfl (c_X6_waysNow (d + 0) (n := n) (outs := outs) (bm := bm) (ms := ms) (dr := dr) (cn := cn) (pl := pl) (by first | assumption | omega | rfl | trivial)) (fun r_24 h_24 p_24 => ?_)
      obtain ⟨pairs_24, above_24, below_24, isDone_24, rfl, rfl, q_24⟩ := p_24
      obtain ⟨hP2, K, hW⟩ := q_24
      refine e_steps 3 (σ' := (30, [(0, .ref 0), (1, .int (nI a_3)), (2, .int (nI b_3))], [.int (nI b_3), .int (nI a_3), .ref 0], (MH g kept was isKept tape fed pos tlen flt ranking paper written pairs_24 above_24 below_24 isDone_24 dist rowv rowMany lsz itm weakAbove weakBelow))) rfl ?_
      refine e_call (y := 194) (av := [.ref 0, .int (nI a_3), .int (nI b_3)]) (rest := []) rfl (c_X6_barrierOf (d + 3) (n := n) (outs := outs) (bm := bm) (ms := ms) (dr := dr) (cn := cn) (pl := pl) (F := (z_for bm cn pl)) (K := K) (by first | assumption | omega | rfl | trivial) (by exact hP2) (by exact hW) (by first | assumption | omega | rfl | trivial) (by first | assumption | omega | rfl | trivial)) (fun r_30 h_30 p_30 => ?_)
      obtain ⟨rfl, rfl⟩ := p_30
      refine e_steps 0 (σ' := (33, [(0, .ref 0), (1, .int (nI a_3)), (2, .int (nI b_3))], [.int (nI (z_ba n K a_3 b_3))], (MH g kept was isKept tape fed pos tlen flt ranking paper written pairs_24 above_24 below_24 isDone_24 dist rowv rowMany lsz itm weakAbove weakBelow))) rfl ?_
      exact e_ret rfl (trivial) (hR _ _ ⟨pairs_24, above_24, below_24, isDone_24, (nI (z_ba n K a_3 b_3)), rfl, rfl, (by first | exact Or.inl ⟨rfl, o_3⟩ | exact Or.inr ⟨_, _, ha_3, hb_3, hab_3, rfl, rfl, Or.inl ⟨o_14, rfl⟩⟩ | exact Or.inr ⟨_, _, ha_3, hb_3, hab_3, rfl, rfl, Or.inr ⟨o_14, K, hW.2, rfl⟩⟩)⟩)
    · skip
      refine e_steps 2 (σ' := (22, [(0, .ref 0), (1, .int (nI a_3)), (2, .int (nI b_3))], [.int ((-nI 3))], (MH g kept was isKept tape fed pos tlen flt ranking paper written pairs above below isDone dist rowv rowMany lsz itm weakAbove weakBelow))) rfl ?_
      exact e_ret rfl (trivial) (hR _ _ ⟨pairs, above, below, isDone, ((-nI 3)), rfl, rfl, (by first | exact Or.inl ⟨rfl, o_3⟩ | exact Or.inr ⟨_, _, ha_3, hb_3, hab_3, rfl, rfl, Or.inl ⟨o_14, rfl⟩⟩ | exact Or.inr ⟨_, _, ha_3, hb_3, hab_3, rfl, rfl, Or.inr ⟨o_14, K, hW.2, rfl⟩⟩)⟩)
  · skip
    refine e_steps 2 (σ' := (10, [(0, .ref 0), (1, .int i), (2, .int j)], [.int ((-nI 1))], (MH g kept was isKept tape fed pos tlen flt ranking paper written pairs above below isDone dist rowv rowMany lsz itm weakAbove weakBelow))) rfl ?_
    exact e_ret rfl (trivial) (hR _ _ ⟨pairs, above, below, isDone, ((-nI 1)), rfl, rfl, (by exact Or.inl ⟨rfl, o_3⟩)⟩)
theorem c_X6_beats (d : Nat) {g : Nat → Int32} {kept : Nat → Int32} {was : Nat → Int32} {isKept : Int32} {tape : Nat → Int32} {fed : Int32} {pos : Int32} {tlen : Int32} {flt : Int32} {ranking : Nat → Int32} {paper : Nat → Int32} {written : Int32} {pairs : Nat → Int64} {above : Nat → Int64} {below : Nat → Int64} {isDone : Nat → Int32} {dist : Nat → Int32} {rowv : Nat → Int32} {rowMany : Int32} {lsz : Nat → Int32} {itm : Nat → Int64} {weakAbove : Int64} {weakBelow : Int64} {i : Int32} {j : Int32} {n : Nat} {outs : Nat} {bm : Nat} {ms : Nat} {dr : Nat → Nat} {cn : Nat → Nat} {pl : Nat → Nat → Nat} (hG : z_GI g n outs bm ms dr cn pl) : z_CAL (d + 7) 197 [.ref 0, .int i, .int j] (MH g kept was isKept tape fed pos tlen flt ranking paper written pairs above below isDone dist rowv rowMany lsz itm weakAbove weakBelow) (fun r h2 => ∃ (pairs2 : Nat → Int64) (ab2 : Nat → Int64) (be2 : Nat → Int64) (dn2 : Nat → Int32) (v : Int32), r = some (.int v) ∧ h2 = (MH g kept was isKept tape fed pos tlen flt ranking paper written pairs2 ab2 be2 dn2 dist rowv rowMany lsz itm weakAbove weakBelow) ∧ ((v = -nI 1 ∧ ¬ (∃ a b, a < n ∧ b < n ∧ a ≠ b ∧ i = nI a ∧ j = nI b)) ∨ ∃ a b, a < n ∧ b < n ∧ a ≠ b ∧ i = nI a ∧ j = nI b ∧ ((¬ ((z_dif (2 ^ n - 1) outs).testBit a = true ∧ (z_dif (2 ^ n - 1) outs).testBit b = true) ∧ v = -nI 3) ∨ (((z_dif (2 ^ n - 1) outs).testBit a = true ∧ (z_dif (2 ^ n - 1) outs).testBit b = true) ∧ ∃ K, z_rows (z_LS ms (z_dif (2 ^ n - 1) outs) (z_for bm cn pl)) n K ∧ v = nI (z_btb K a b).toNat)))) := by
  refine e_of2 (q := zmX6_beats) rfl rfl (fun R hR => ?_)
  obtain ⟨⟨hn0, hn2, hn8⟩, ⟨ho0, ho8, hin⟩, ⟨hb0, hb40⟩, ⟨hm0, hm4⟩, ⟨hdr, hdl, hdc⟩, hcn, hpl⟩ := id hG; have hp8 := z_p2 hn8; have ho256 : outs < 256 := (by omega); have hi256 : z_dif (2 ^ n - 1) outs < 256 := (by have := z_dif_le (s := 2 ^ n - 1) (t := outs); omega)
  refine e_steps 3 (σ' := (3, [(0, .ref 0), (1, .int i), (2, .int j)], [.int j, .int i, .ref 0], (MH g kept was isKept tape fed pos tlen flt ranking paper written pairs above below isDone dist rowv rowMany lsz itm weakAbove weakBelow))) rfl ?_
  refine e_call (y := 136) (av := [.ref 0, .int i, .int j]) (rest := []) rfl (c_X6_areTwo (d + 3) (n := n) (outs := outs) (bm := bm) (ms := ms) (dr := dr) (cn := cn) (pl := pl) (by first | assumption | omega | rfl | trivial)) (fun r_3 h_3 p_3 => ?_)
  obtain ⟨rfl, o_3⟩ := p_3
  rcases o_3 with ⟨rfl, o_3⟩ | ⟨rfl, o_3⟩
  · skip
    obtain ⟨a_3, b_3, ha_3, hb_3, hab_3, ea_3, eb_3⟩ := o_3
    subst ea_3
    subst eb_3
    refine e_steps 4 (σ' := (14, [(0, .ref 0), (1, .int (nI a_3)), (2, .int (nI b_3))], [.int (nI b_3), .int (nI a_3), .ref 0], (MH g kept was isKept tape fed pos tlen flt ranking paper written pairs above below isDone dist rowv rowMany lsz itm weakAbove weakBelow))) rfl ?_
    refine e_call (y := 137) (av := [.ref 0, .int (nI a_3), .int (nI b_3)]) (rest := []) rfl (c_X6_areIn (d + 3) (n := n) (outs := outs) (bm := bm) (ms := ms) (dr := dr) (cn := cn) (pl := pl) (by first | assumption | omega | rfl | trivial) (by first | assumption | omega | rfl | trivial) (by first | assumption | omega | rfl | trivial)) (fun r_14 h_14 p_14 => ?_)
    obtain ⟨rfl, o_14⟩ := p_14
    rcases o_14 with ⟨rfl, o_14⟩ | ⟨rfl, o_14⟩
    · skip
      refine e_steps 2 (σ' := (24, [(0, .ref 0), (1, .int (nI a_3)), (2, .int (nI b_3))], [.ref 0], (MH g kept was isKept tape fed pos tlen flt ranking paper written pairs above below isDone dist rowv rowMany lsz itm weakAbove weakBelow))) rfl ?_
      refine e_call (y := 185) (av := [.ref 0]) (rest := []) rfl (c_X6_waysNow (d + 0) (n := n) (outs := outs) (bm := bm) (ms := ms) (dr := dr) (cn := cn) (pl := pl) (by first | assumption | omega | rfl | trivial)) (fun r_24 h_24 p_24 => ?_)
      obtain ⟨pairs_24, above_24, below_24, isDone_24, rfl, rfl, q_24⟩ := p_24
      obtain ⟨hP2, K, hW⟩ := q_24
      refine e_steps 4 (σ' := (33, [(0, .ref 0), (1, .int (nI a_3)), (2, .int (nI b_3))], [.int (nI 3), .ref 1, .ref 0], (MH g kept was isKept tape fed pos tlen flt ranking paper written pairs_24 above_24 below_24 isDone_24 dist rowv rowMany lsz itm weakAbove weakBelow))) rfl ?_
      refine e_ial (nI ms) rfl rfl (by first | assumption | omega | rfl | trivial) (by decide) (hm0) ?_
      refine e_steps 2 (σ' := (36, [(0, .ref 0), (1, .int (nI a_3)), (2, .int (nI b_3))], [.int (nI b_3), .int (nI a_3), .int (nI ms), .ref 0], (MH g kept was isKept tape fed pos tlen flt ranking paper written pairs_24 above_24 below_24 isDone_24 dist rowv rowMany lsz itm weakAbove weakBelow))) rfl ?_
      refine e_call (y := 196) (av := [.ref 0, .int (nI ms), .int (nI a_3), .int (nI b_3)]) (rest := []) rfl (c_X6_doesBeat (d + 3) (n := n) (outs := outs) (bm := bm) (ms := ms) (dr := dr) (cn := cn) (pl := pl) (s := (z_dif (2 ^ n - 1) outs)) (F := (z_for bm cn pl)) (K := K) (by first | assumption | omega | rfl | trivial) (by exact hW) (by first | assumption | omega | rfl | trivial) (by first | assumption | omega | rfl | trivial) (by first | assumption | omega | rfl | trivial)) (fun r_36 h_36 p_36 => ?_)
      obtain ⟨rfl, o_36⟩ := p_36
      rcases o_36 with ⟨rfl, o_36⟩ | ⟨rfl, o_36⟩
      · skip
        refine e_steps 3 (σ' := (47, [(0, .ref 0), (1, .int (nI a_3)), (2, .int (nI b_3))], [.int (nI 1)], (MH g kept was isKept tape fed pos tlen flt ranking paper written pairs_24 above_24 below_24 isDone_24 dist rowv rowMany lsz itm weakAbove weakBelow))) rfl ?_
        exact e_ret rfl (trivial) (hR _ _ ⟨pairs_24, above_24, below_24, isDone_24, (nI 1), rfl, rfl, (by first | exact Or.inl ⟨rfl, o_3⟩ | exact Or.inr ⟨_, _, ha_3, hb_3, hab_3, rfl, rfl, Or.inl ⟨o_14, rfl⟩⟩ | exact Or.inr ⟨_, _, ha_3, hb_3, hab_3, rfl, rfl, Or.inr ⟨o_14, K, hW.2, by rw [o_36]; rfl⟩⟩)⟩)
      · skip
        refine e_steps 2 (σ' := (47, [(0, .ref 0), (1, .int (nI a_3)), (2, .int (nI b_3))], [.int (nI 0)], (MH g kept was isKept tape fed pos tlen flt ranking paper written pairs_24 above_24 below_24 isDone_24 dist rowv rowMany lsz itm weakAbove weakBelow))) rfl ?_
        exact e_ret rfl (trivial) (hR _ _ ⟨pairs_24, above_24, below_24, isDone_24, (nI 0), rfl, rfl, (by first | exact Or.inl ⟨rfl, o_3⟩ | exact Or.inr ⟨_, _, ha_3, hb_3, hab_3, rfl, rfl, Or.inl ⟨o_14, rfl⟩⟩ | exact Or.inr ⟨_, _, ha_3, hb_3, hab_3, rfl, rfl, Or.inr ⟨o_14, K, hW.2, by rw [o_36]; rfl⟩⟩)⟩)
    · skip
      refine e_steps 2 (σ' := (22, [(0, .ref 0), (1, .int (nI a_3)), (2, .int (nI b_3))], [.int ((-nI 3))], (MH g kept was isKept tape fed pos tlen flt ranking paper written pairs above below isDone dist rowv rowMany lsz itm weakAbove weakBelow))) rfl ?_
      exact e_ret rfl (trivial) (hR _ _ ⟨pairs, above, below, isDone, ((-nI 3)), rfl, rfl, (by first | exact Or.inl ⟨rfl, o_3⟩ | exact Or.inr ⟨_, _, ha_3, hb_3, hab_3, rfl, rfl, Or.inl ⟨o_14, rfl⟩⟩)⟩)
  · skip
    refine e_steps 2 (σ' := (10, [(0, .ref 0), (1, .int i), (2, .int j)], [.int ((-nI 1))], (MH g kept was isKept tape fed pos tlen flt ranking paper written pairs above below isDone dist rowv rowMany lsz itm weakAbove weakBelow))) rfl ?_
    exact e_ret rfl (trivial) (hR _ _ ⟨pairs, above, below, isDone, ((-nI 1)), rfl, rfl, (by exact Or.inl ⟨rfl, o_3⟩)⟩)
theorem c_X6_linksToAll (d : Nat) {g : Nat → Int32} {kept : Nat → Int32} {was : Nat → Int32} {isKept : Int32} {tape : Nat → Int32} {fed : Int32} {pos : Int32} {tlen : Int32} {flt : Int32} {ranking : Nat → Int32} {paper : Nat → Int32} {written : Int32} {pairs : Nat → Int64} {above : Nat → Int64} {below : Nat → Int64} {isDone : Nat → Int32} {dist : Nat → Int32} {rowv : Nat → Int32} {rowMany : Int32} {lsz : Nat → Int32} {itm : Nat → Int64} {weakAbove : Int64} {weakBelow : Int64} {s2 : Nat} {n : Nat} {outs : Nat} {bm : Nat} {ms : Nat} {dr : Nat → Nat} {cn : Nat → Nat} {pl : Nat → Nat → Nat} {F : Nat → Nat → Nat} (hG : z_GI g n outs bm ms dr cn pl) (hP : z_PR pairs n F) (hs : s2 < 256) : z_CAL (d + 3) 203 [.ref 0, .int (nI s2)] (MH g kept was isKept tape fed pos tlen flt ranking paper written pairs above below isDone dist rowv rowMany lsz itm weakAbove weakBelow) (fun r h2 => h2 = (MH g kept was isKept tape fed pos tlen flt ranking paper written pairs above below isDone dist rowv rowMany lsz itm weakAbove weakBelow) ∧ ((r = some (.int (nI 1)) ∧ (z_dom n (z_dif (2 ^ n - 1) outs) F s2)) ∨ (r = some (.int (nI 0)) ∧ (¬ z_dom n (z_dif (2 ^ n - 1) outs) F s2)))) := by
  refine e_of2 (q := zmX6_linksToAll) rfl rfl (fun R hR => ?_)
  obtain ⟨⟨hn0, hn2, hn8⟩, ⟨ho0, ho8, hin⟩, ⟨hb0, hb40⟩, ⟨hm0, hm4⟩, ⟨hdr, hdl, hdc⟩, hcn, hpl⟩ := id hG; have hp8 := z_p2 hn8; have ho256 : outs < 256 := (by omega); have hi256 : z_dif (2 ^ n - 1) outs < 256 := (by have := z_dif_le (s := 2 ^ n - 1) (t := outs); omega)
  refine e_steps 2 (σ' := (2, [(2, .int (nI 0)), (0, .ref 0), (1, .int (nI s2))], [], (MH g kept was isKept tape fed pos tlen flt ranking paper written pairs above below isDone dist rowv rowMany lsz itm weakAbove weakBelow))) rfl ?_
  have loop_2 : ∀ (z_2 : Nat) (i : Nat), n - i < z_2 → (i ≤ n ∧ ∀ x, x < i → s2.testBit x = true → ∀ y, y < n → (z_dif (z_dif (2 ^ n - 1) outs) s2).testBit y = true → z_lnk (z_dif (2 ^ n - 1) outs) F x y) → z_EV (d + 2) zmX6_linksToAll R (2, [(0, .ref 0), (1, .int (nI s2)), (2, .int (nI i))], [], (MH g kept was isKept tape fed pos tlen flt ranking paper written pairs above below isDone dist rowv rowMany lsz itm weakAbove weakBelow)) := by
    intro z_2
    induction z_2 with
    | zero => intro i hm_2 _; exact absurd hm_2 (Nat.not_lt_zero _)
    | succ z_2 ih_2 =>
      intro i hm_2 hi_2
      obtain ⟨l1, l2⟩ := hi_2
      refine e_steps 4 (σ' := (8, [(0, .ref 0), (1, .int (nI s2)), (2, .int (nI i))], [.int (nI 0), .ref 1, .int (nI i)], (MH g kept was isKept tape fed pos tlen flt ranking paper written pairs above below isDone dist rowv rowMany lsz itm weakAbove weakBelow))) rfl ?_
      refine e_ial (nI n) rfl rfl (by first | assumption | omega | rfl | trivial) (by decide) (hn0) ?_
      refine e_steps 0 (σ' := (9, [(0, .ref 0), (1, .int (nI s2)), (2, .int (nI i))], [.int (nI n), .int (nI i)], (MH g kept was isKept tape fed pos tlen flt ranking paper written pairs above below isDone dist rowv rowMany lsz itm weakAbove weakBelow))) rfl ?_
      refine e_if (c := nI n ≤ nI i) rfl (fun c_9 => ?_) (fun c_9 => ?_)
      · skip
        rw [nI_leI (by omega) (by omega)] at c_9
        refine e_steps 1 (σ' := (75, [(0, .ref 0), (1, .int (nI s2)), (2, .int (nI i))], [.int (nI 1)], (MH g kept was isKept tape fed pos tlen flt ranking paper written pairs above below isDone dist rowv rowMany lsz itm weakAbove weakBelow))) rfl ?_
        exact e_ret rfl (Or.inr rfl) (hR _ _ ⟨rfl, Or.inl ⟨rfl, (by exact fun x hx h1 y hy h2 => l2 x (by omega) h1 y hy h2)⟩⟩)
      · skip
        rw [nI_leI (by omega) (by omega)] at c_9
        refine e_steps 2 (σ' := (14, [(3, .int (nI 0)), (0, .ref 0), (1, .int (nI s2)), (2, .int (nI i))], [], (MH g kept was isKept tape fed pos tlen flt ranking paper written pairs above below isDone dist rowv rowMany lsz itm weakAbove weakBelow))) rfl ?_
        have loop_14 : ∀ (z_14 : Nat) (j : Nat), n - j < z_14 → (j ≤ n ∧ ∀ y, y < j → s2.testBit i = true → (z_dif (z_dif (2 ^ n - 1) outs) s2).testBit y = true → z_lnk (z_dif (2 ^ n - 1) outs) F i y) → z_EV (d + 2) zmX6_linksToAll R (14, [(0, .ref 0), (1, .int (nI s2)), (2, .int (nI i)), (3, .int (nI j))], [], (MH g kept was isKept tape fed pos tlen flt ranking paper written pairs above below isDone dist rowv rowMany lsz itm weakAbove weakBelow)) := by
          intro z_14
          induction z_14 with
          | zero => intro j hm_14 _; exact absurd hm_14 (Nat.not_lt_zero _)
          | succ z_14 ih_14 =>
            intro j hm_14 hi_14
            obtain ⟨m1, m2⟩ := hi_14; have hdd := z_dif_le (s := z_dif (2 ^ n - 1) outs) (t := s2)
            refine e_steps 4 (σ' := (20, [(0, .ref 0), (1, .int (nI s2)), (2, .int (nI i)), (3, .int (nI j))], [.int (nI 0), .ref 1, .int (nI j)], (MH g kept was isKept tape fed pos tlen flt ranking paper written pairs above below isDone dist rowv rowMany lsz itm weakAbove weakBelow))) rfl ?_
            refine e_ial (nI n) rfl rfl (by first | assumption | omega | rfl | trivial) (by decide) (hn0) ?_
            refine e_steps 0 (σ' := (21, [(0, .ref 0), (1, .int (nI s2)), (2, .int (nI i)), (3, .int (nI j))], [.int (nI n), .int (nI j)], (MH g kept was isKept tape fed pos tlen flt ranking paper written pairs above below isDone dist rowv rowMany lsz itm weakAbove weakBelow))) rfl ?_
            refine e_if (c := nI n ≤ nI j) rfl (fun c_21 => ?_) (fun c_21 => ?_)
            · skip
              rw [nI_leI (by omega) (by omega)] at c_21
              refine e_steps 0 (σ' := (68, [(0, .ref 0), (1, .int (nI s2)), (2, .int (nI i)), (3, .int (nI j))], [], (MH g kept was isKept tape fed pos tlen flt ranking paper written pairs above below isDone dist rowv rowMany lsz itm weakAbove weakBelow))) rfl ?_
              refine e_inc (n := 1) rfl rfl rfl (i + 1) (by rfl) [(2, .int (nI (i + 1))), (0, .ref 0), (1, .int (nI s2)), (3, .int (nI j))] rfl ?_
              refine e_steps 1 (σ' := (2, [(2, .int (nI (i + 1))), (0, .ref 0), (1, .int (nI s2)), (3, .int (nI j))], [], (MH g kept was isKept tape fed pos tlen flt ranking paper written pairs above below isDone dist rowv rowMany lsz itm weakAbove weakBelow))) rfl ?_
              refine e_sub [1, 2, 0] rfl ?_
              exact ih_2 (i + 1) (by omega) (by refine ⟨by omega, fun x hx h1 y hy h2 => ?_⟩; rcases (by omega : x < i ∨ x = i) with e | e; exact l2 x e h1 y hy h2; (rw [e] at h1 ⊢; exact m2 y (by omega) h1 h2))
            · skip
              rw [nI_leI (by omega) (by omega)] at c_21
              refine e_steps 2 (σ' := (26, [(0, .ref 0), (1, .int (nI s2)), (2, .int (nI i)), (3, .int (nI j))], [.int (nI i), .int (nI s2)], (MH g kept was isKept tape fed pos tlen flt ranking paper written pairs above below isDone dist rowv rowMany lsz itm weakAbove weakBelow))) rfl ?_
              refine e_call (y := 131) (av := [.int (nI s2), .int (nI i)]) (rest := []) rfl (c_X6_has (d + 1) (by first | assumption | omega | rfl | trivial) (by first | assumption | omega | rfl | trivial)) (fun r_26 h_26 p_26 => ?_)
              obtain ⟨rfl, o_26⟩ := p_26
              rcases o_26 with ⟨rfl, o_26⟩ | ⟨rfl, o_26⟩
              · skip
                refine e_steps 2 (σ' := (33, [(0, .ref 0), (1, .int (nI s2)), (2, .int (nI i)), (3, .int (nI j))], [.ref 0], (MH g kept was isKept tape fed pos tlen flt ranking paper written pairs above below isDone dist rowv rowMany lsz itm weakAbove weakBelow))) rfl ?_
                refine e_call (y := 134) (av := [.ref 0]) (rest := []) rfl (c_X6_ins (d + 0) (n := n) (outs := outs) (bm := bm) (ms := ms) (dr := dr) (cn := cn) (pl := pl) (by first | assumption | omega | rfl | trivial)) (fun r_33 h_33 p_33 => ?_)
                obtain ⟨rfl, rfl⟩ := p_33
                refine e_steps 3 (σ' := (39, [(0, .ref 0), (1, .int (nI s2)), (2, .int (nI i)), (3, .int (nI j))], [.int (((nI s2) ^^^ ((-nI 1)))), .int (nI (z_dif (2 ^ n - 1) outs))], (MH g kept was isKept tape fed pos tlen flt ranking paper written pairs above below isDone dist rowv rowMany lsz itm weakAbove weakBelow))) rfl ?_
                refine e_dif rfl (by first | assumption | omega | rfl | trivial) (by first | assumption | omega | rfl | trivial) ?_
                refine e_steps 1 (σ' := (41, [(0, .ref 0), (1, .int (nI s2)), (2, .int (nI i)), (3, .int (nI j))], [.int (nI j), .int (nI (z_dif (z_dif (2 ^ n - 1) outs) s2))], (MH g kept was isKept tape fed pos tlen flt ranking paper written pairs above below isDone dist rowv rowMany lsz itm weakAbove weakBelow))) rfl ?_
                refine e_call (y := 131) (av := [.int (nI (z_dif (z_dif (2 ^ n - 1) outs) s2)), .int (nI j)]) (rest := []) rfl (c_X6_has (d + 1) (by first | assumption | omega | rfl | trivial) (by first | assumption | omega | rfl | trivial)) (fun r_41 h_41 p_41 => ?_)
                obtain ⟨rfl, o_41⟩ := p_41
                rcases o_41 with ⟨rfl, o_41⟩ | ⟨rfl, o_41⟩
                · skip
                  refine e_steps 3 (σ' := (49, [(0, .ref 0), (1, .int (nI s2)), (2, .int (nI i)), (3, .int (nI j))], [.ref 0, .ref 0], (MH g kept was isKept tape fed pos tlen flt ranking paper written pairs above below isDone dist rowv rowMany lsz itm weakAbove weakBelow))) rfl ?_
                  refine e_call (y := 134) (av := [.ref 0]) (rest := [.ref 0]) rfl (c_X6_ins (d + 0) (n := n) (outs := outs) (bm := bm) (ms := ms) (dr := dr) (cn := cn) (pl := pl) (by first | assumption | omega | rfl | trivial)) (fun r_49 h_49 p_49 => ?_)
                  obtain ⟨rfl, rfl⟩ := p_49
                  refine e_steps 2 (σ' := (54, [(0, .ref 0), (1, .int (nI s2)), (2, .int (nI i)), (3, .int (nI j))], [.int (nI j), .int (nI i), .int (nI (z_dif (2 ^ n - 1) outs)), .ref 0], (MH g kept was isKept tape fed pos tlen flt ranking paper written pairs above below isDone dist rowv rowMany lsz itm weakAbove weakBelow))) rfl ?_
                  refine e_call (y := 176) (av := [.ref 0, .int (nI (z_dif (2 ^ n - 1) outs)), .int (nI i), .int (nI j)]) (rest := []) rfl (c_X6_isLink (d + 0) (n := n) (outs := outs) (bm := bm) (ms := ms) (dr := dr) (cn := cn) (pl := pl) (F := F) (by first | assumption | omega | rfl | trivial) (by first | assumption | omega | rfl | trivial) (by first | assumption | omega | rfl | trivial) (by first | assumption | omega | rfl | trivial) (by first | assumption | omega | rfl | trivial)) (fun r_54 h_54 p_54 => ?_)
                  obtain ⟨rfl, o_54⟩ := p_54
                  rcases o_54 with ⟨rfl, o_54⟩ | ⟨rfl, o_54⟩
                  · skip
                    refine e_steps 1 (σ' := (62, [(0, .ref 0), (1, .int (nI s2)), (2, .int (nI i)), (3, .int (nI j))], [], (MH g kept was isKept tape fed pos tlen flt ranking paper written pairs above below isDone dist rowv rowMany lsz itm weakAbove weakBelow))) rfl ?_
                    refine e_inc (n := 1) rfl rfl rfl (j + 1) (by rfl) [(3, .int (nI (j + 1))), (0, .ref 0), (1, .int (nI s2)), (2, .int (nI i))] rfl ?_
                    refine e_steps 1 (σ' := (14, [(3, .int (nI (j + 1))), (0, .ref 0), (1, .int (nI s2)), (2, .int (nI i))], [], (MH g kept was isKept tape fed pos tlen flt ranking paper written pairs above below isDone dist rowv rowMany lsz itm weakAbove weakBelow))) rfl ?_
                    refine e_sub [1, 2, 3, 0] rfl ?_
                    exact ih_14 (j + 1) (by omega) (by refine ⟨by omega, fun y hy h1 h2 => ?_⟩; rcases (by omega : y < j ∨ y = j) with e | e; exact m2 y e h1 h2; first | exact e ▸ o_54 | exact absurd (h1.symm.trans o_26) (by decide) | exact absurd (h2.symm.trans (e ▸ o_41)) (by decide))
                  · skip
                    refine e_steps 2 (σ' := (61, [(0, .ref 0), (1, .int (nI s2)), (2, .int (nI i)), (3, .int (nI j))], [.int (nI 0)], (MH g kept was isKept tape fed pos tlen flt ranking paper written pairs above below isDone dist rowv rowMany lsz itm weakAbove weakBelow))) rfl ?_
                    exact e_ret rfl (Or.inl rfl) (hR _ _ ⟨rfl, Or.inr ⟨rfl, (by exact fun q => o_54 (q i (by omega) o_26 j (by omega) o_41))⟩⟩)
                · skip
                  refine e_steps 1 (σ' := (62, [(0, .ref 0), (1, .int (nI s2)), (2, .int (nI i)), (3, .int (nI j))], [], (MH g kept was isKept tape fed pos tlen flt ranking paper written pairs above below isDone dist rowv rowMany lsz itm weakAbove weakBelow))) rfl ?_
                  refine e_inc (n := 1) rfl rfl rfl (j + 1) (by rfl) [(3, .int (nI (j + 1))), (0, .ref 0), (1, .int (nI s2)), (2, .int (nI i))] rfl ?_
                  refine e_steps 1 (σ' := (14, [(3, .int (nI (j + 1))), (0, .ref 0), (1, .int (nI s2)), (2, .int (nI i))], [], (MH g kept was isKept tape fed pos tlen flt ranking paper written pairs above below isDone dist rowv rowMany lsz itm weakAbove weakBelow))) rfl ?_
                  refine e_sub [1, 2, 3, 0] rfl ?_
                  exact ih_14 (j + 1) (by omega) (by refine ⟨by omega, fun y hy h1 h2 => ?_⟩; rcases (by omega : y < j ∨ y = j) with e | e; exact m2 y e h1 h2; first | exact e ▸ o_54 | exact absurd (h1.symm.trans o_26) (by decide) | exact absurd (h2.symm.trans (e ▸ o_41)) (by decide))
              · skip
                refine e_steps 1 (σ' := (62, [(0, .ref 0), (1, .int (nI s2)), (2, .int (nI i)), (3, .int (nI j))], [], (MH g kept was isKept tape fed pos tlen flt ranking paper written pairs above below isDone dist rowv rowMany lsz itm weakAbove weakBelow))) rfl ?_
                refine e_inc (n := 1) rfl rfl rfl (j + 1) (by rfl) [(3, .int (nI (j + 1))), (0, .ref 0), (1, .int (nI s2)), (2, .int (nI i))] rfl ?_
                refine e_steps 1 (σ' := (14, [(3, .int (nI (j + 1))), (0, .ref 0), (1, .int (nI s2)), (2, .int (nI i))], [], (MH g kept was isKept tape fed pos tlen flt ranking paper written pairs above below isDone dist rowv rowMany lsz itm weakAbove weakBelow))) rfl ?_
                refine e_sub [1, 2, 3, 0] rfl ?_
                exact ih_14 (j + 1) (by omega) (by refine ⟨by omega, fun y hy h1 h2 => ?_⟩; rcases (by omega : y < j ∨ y = j) with e | e; exact m2 y e h1 h2; first | exact e ▸ o_54 | exact absurd (h1.symm.trans o_26) (by decide) | exact absurd (h2.symm.trans (e ▸ o_41)) (by decide))
        refine e_sub [1, 2, 3, 0] rfl ?_
        exact loop_14 _ 0 (Nat.lt_succ_self _) (by exact ⟨by omega, fun x hx => absurd hx (Nat.not_lt_zero x)⟩)
  refine e_sub [1, 2, 0] rfl ?_
  exact loop_2 _ 0 (Nat.lt_succ_self _) (by exact ⟨by omega, fun x hx => absurd hx (Nat.not_lt_zero x)⟩)
theorem c_X6_smith (d : Nat) {g : Nat → Int32} {kept : Nat → Int32} {was : Nat → Int32} {isKept : Int32} {tape : Nat → Int32} {fed : Int32} {pos : Int32} {tlen : Int32} {flt : Int32} {ranking : Nat → Int32} {paper : Nat → Int32} {written : Int32} {pairs : Nat → Int64} {above : Nat → Int64} {below : Nat → Int64} {isDone : Nat → Int32} {dist : Nat → Int32} {rowv : Nat → Int32} {rowMany : Int32} {lsz : Nat → Int32} {itm : Nat → Int64} {weakAbove : Int64} {weakBelow : Int64} {n : Nat} {outs : Nat} {bm : Nat} {ms : Nat} {dr : Nat → Nat} {cn : Nat → Nat} {pl : Nat → Nat → Nat} (hG : z_GI g n outs bm ms dr cn pl) : z_CAL (d + 4) 204 [.ref 0] (MH g kept was isKept tape fed pos tlen flt ranking paper written pairs above below isDone dist rowv rowMany lsz itm weakAbove weakBelow) (fun r h2 => ∃ (pairs2 : Nat → Int64) (v : Nat), r = some (.int (nI v)) ∧ h2 = (MH g kept was isKept tape fed pos tlen flt ranking paper written pairs2 above below isDone dist rowv rowMany lsz itm weakAbove weakBelow) ∧ (z_SM n (z_dif (2 ^ n - 1) outs) (z_for bm cn pl) (2 ^ n) v)) := by
  refine e_of2 (q := zmX6_smith) rfl rfl (fun R hR => ?_)
  obtain ⟨⟨hn0, hn2, hn8⟩, ⟨ho0, ho8, hin⟩, ⟨hb0, hb40⟩, ⟨hm0, hm4⟩, ⟨hdr, hdl, hdc⟩, hcn, hpl⟩ := id hG; have hp8 := z_p2 hn8; have ho256 : outs < 256 := (by omega); have hi256 : z_dif (2 ^ n - 1) outs < 256 := (by have := z_dif_le (s := 2 ^ n - 1) (t := outs); omega)
  refine e_steps 1 (σ' := (1, [(0, .ref 0)], [.ref 0], (MH g kept was isKept tape fed pos tlen flt ranking paper written pairs above below isDone dist rowv rowMany lsz itm weakAbove weakBelow))) rfl ?_
  refine e_call (y := 172) (av := [.ref 0]) (rest := []) rfl (c_X6_countsAll (d + 1) (n := n) (outs := outs) (bm := bm) (ms := ms) (dr := dr) (cn := cn) (pl := pl) (by first | assumption | omega | rfl | trivial)) (fun r_1 h_1 p_1 => ?_)
  obtain ⟨pairs_1, rfl, rfl, q_1⟩ := p_1
  refine e_steps 1 (σ' := (5, [(0, .ref 0)], [.ref 0], (MH g kept was isKept tape fed pos tlen flt ranking paper written pairs_1 above below isDone dist rowv rowMany lsz itm weakAbove weakBelow))) rfl ?_
  refine e_call (y := 134) (av := [.ref 0]) (rest := []) rfl (c_X6_ins (d + 1) (n := n) (outs := outs) (bm := bm) (ms := ms) (dr := dr) (cn := cn) (pl := pl) (by first | assumption | omega | rfl | trivial)) (fun r_5 h_5 p_5 => ?_)
  obtain ⟨rfl, rfl⟩ := p_5
  refine e_steps 3 (σ' := (11, [(2, .int (nI 1)), (1, .int (nI (z_dif (2 ^ n - 1) outs))), (0, .ref 0)], [], (MH g kept was isKept tape fed pos tlen flt ranking paper written pairs_1 above below isDone dist rowv rowMany lsz itm weakAbove weakBelow))) rfl ?_
  have loop_11 : ∀ (z_11 : Nat) (best : Nat) (st : Nat), 2 ^ n - st < z_11 → (1 ≤ st ∧ st ≤ 2 ^ n ∧ z_SM n (z_dif (2 ^ n - 1) outs) (z_for bm cn pl) st best) → z_EV (d + 3) zmX6_smith R (11, [(0, .ref 0), (1, .int (nI best)), (2, .int (nI st))], [], (MH g kept was isKept tape fed pos tlen flt ranking paper written pairs_1 above below isDone dist rowv rowMany lsz itm weakAbove weakBelow)) := by
    intro z_11
    induction z_11 with
    | zero => intro best st hm_11 _; exact absurd hm_11 (Nat.not_lt_zero _)
    | succ z_11 ih_11 =>
      intro best st hm_11 hi_11
      obtain ⟨l1, l2, l3⟩ := hi_11; have l4 := l3.1; have l5 := z_dif_le (s := st) (t := z_dif (2 ^ n - 1) outs); have l6 := z_pc_le st; have l7 := z_pc_le best
      refine e_steps 2 (σ' := (13, [(0, .ref 0), (1, .int (nI best)), (2, .int (nI st))], [.ref 0, .int (nI st)], (MH g kept was isKept tape fed pos tlen flt ranking paper written pairs_1 above below isDone dist rowv rowMany lsz itm weakAbove weakBelow))) rfl ?_
      refine e_call (y := 133) (av := [.ref 0]) (rest := [.int (nI st)]) rfl (c_X6_everyone (d + 2) (n := n) (outs := outs) (bm := bm) (ms := ms) (dr := dr) (cn := cn) (pl := pl) (by first | assumption | omega | rfl | trivial)) (fun r_13 h_13 p_13 => ?_)
      obtain ⟨rfl, rfl⟩ := p_13
      refine e_steps 0 (σ' := (16, [(0, .ref 0), (1, .int (nI best)), (2, .int (nI st))], [.int (nI (2 ^ n - 1)), .int (nI st)], (MH g kept was isKept tape fed pos tlen flt ranking paper written pairs_1 above below isDone dist rowv rowMany lsz itm weakAbove weakBelow))) rfl ?_
      refine e_if (c := nI (2 ^ n - 1) < nI st) rfl (fun c_16 => ?_) (fun c_16 => ?_)
      · skip
        rw [nI_ltI (by omega) (by omega)] at c_16
        refine e_steps 1 (σ' := (58, [(0, .ref 0), (1, .int (nI best)), (2, .int (nI st))], [.int (nI best)], (MH g kept was isKept tape fed pos tlen flt ranking paper written pairs_1 above below isDone dist rowv rowMany lsz itm weakAbove weakBelow))) rfl ?_
        exact e_ret rfl (trivial) (hR _ _ ⟨pairs_1, best, rfl, rfl, (by (have e : st = 2 ^ n := (by omega)); rw [e] at l3; exact l3)⟩)
      · skip
        rw [nI_ltI (by omega) (by omega)] at c_16
        refine e_steps 2 (σ' := (21, [(0, .ref 0), (1, .int (nI best)), (2, .int (nI st))], [.ref 0, .int (nI st)], (MH g kept was isKept tape fed pos tlen flt ranking paper written pairs_1 above below isDone dist rowv rowMany lsz itm weakAbove weakBelow))) rfl ?_
        refine e_call (y := 134) (av := [.ref 0]) (rest := [.int (nI st)]) rfl (c_X6_ins (d + 1) (n := n) (outs := outs) (bm := bm) (ms := ms) (dr := dr) (cn := cn) (pl := pl) (by first | assumption | omega | rfl | trivial)) (fun r_21 h_21 p_21 => ?_)
        obtain ⟨rfl, rfl⟩ := p_21
        refine e_steps 2 (σ' := (26, [(0, .ref 0), (1, .int (nI best)), (2, .int (nI st))], [.int (((nI (z_dif (2 ^ n - 1) outs)) ^^^ ((-nI 1)))), .int (nI st)], (MH g kept was isKept tape fed pos tlen flt ranking paper written pairs_1 above below isDone dist rowv rowMany lsz itm weakAbove weakBelow))) rfl ?_
        refine e_dif rfl (by first | assumption | omega | rfl | trivial) (by first | assumption | omega | rfl | trivial) ?_
        refine e_steps 0 (σ' := (27, [(0, .ref 0), (1, .int (nI best)), (2, .int (nI st))], [.int (nI (z_dif st (z_dif (2 ^ n - 1) outs)))], (MH g kept was isKept tape fed pos tlen flt ranking paper written pairs_1 above below isDone dist rowv rowMany lsz itm weakAbove weakBelow))) rfl ?_
        refine e_if (c := ¬ nI (z_dif st (z_dif (2 ^ n - 1) outs)) = 0) rfl (fun c_27 => ?_) (fun c_27 => ?_)
        · skip
          rw [z0_ne (by omega)] at c_27
          skip
          refine e_steps 0 (σ' := (51, [(0, .ref 0), (1, .int (nI best)), (2, .int (nI st))], [], (MH g kept was isKept tape fed pos tlen flt ranking paper written pairs_1 above below isDone dist rowv rowMany lsz itm weakAbove weakBelow))) rfl ?_
          refine e_inc (n := 1) rfl rfl rfl (st + 1) (by rfl) [(2, .int (nI (st + 1))), (0, .ref 0), (1, .int (nI best))] rfl ?_
          refine e_steps 1 (σ' := (11, [(2, .int (nI (st + 1))), (0, .ref 0), (1, .int (nI best))], [], (MH g kept was isKept tape fed pos tlen flt ranking paper written pairs_1 above below isDone dist rowv rowMany lsz itm weakAbove weakBelow))) rfl ?_
          refine e_sub [1, 2, 0] rfl ?_
          exact ih_11 best (st + 1) (by omega) (by first | exact ⟨by omega, by omega, z_SM_no l3 (Or.inr (Or.inl (by omega)))⟩ | exact ⟨by omega, by omega, z_SM_no l3 (Or.inl (by assumption))⟩)
        · skip
          rw [z0_ne (by omega)] at c_27
          replace c_27 := Decidable.not_not.mp c_27
          refine e_steps 1 (σ' := (31, [(0, .ref 0), (1, .int (nI best)), (2, .int (nI st))], [.int (nI st)], (MH g kept was isKept tape fed pos tlen flt ranking paper written pairs_1 above below isDone dist rowv rowMany lsz itm weakAbove weakBelow))) rfl ?_
          refine e_call (y := 132) (av := [.int (nI st)]) (rest := []) rfl (c_X6_bits (d + 2) (by first | assumption | omega | rfl | trivial)) (fun r_31 h_31 p_31 => ?_)
          obtain ⟨rfl, rfl⟩ := p_31
          refine e_steps 1 (σ' := (35, [(0, .ref 0), (1, .int (nI best)), (2, .int (nI st))], [.int (nI best), .int (nI (z_pc st))], (MH g kept was isKept tape fed pos tlen flt ranking paper written pairs_1 above below isDone dist rowv rowMany lsz itm weakAbove weakBelow))) rfl ?_
          refine e_call (y := 132) (av := [.int (nI best)]) (rest := [.int (nI (z_pc st))]) rfl (c_X6_bits (d + 2) (by first | assumption | omega | rfl | trivial)) (fun r_35 h_35 p_35 => ?_)
          obtain ⟨rfl, rfl⟩ := p_35
          refine e_steps 0 (σ' := (38, [(0, .ref 0), (1, .int (nI best)), (2, .int (nI st))], [.int (nI (z_pc best)), .int (nI (z_pc st))], (MH g kept was isKept tape fed pos tlen flt ranking paper written pairs_1 above below isDone dist rowv rowMany lsz itm weakAbove weakBelow))) rfl ?_
          refine e_if (c := nI (z_pc best) ≤ nI (z_pc st)) rfl (fun c_38 => ?_) (fun c_38 => ?_)
          · skip
            rw [nI_leI (by omega) (by omega)] at c_38
            refine e_steps 0 (σ' := (51, [(0, .ref 0), (1, .int (nI best)), (2, .int (nI st))], [], (MH g kept was isKept tape fed pos tlen flt ranking paper written pairs_1 above below isDone dist rowv rowMany lsz itm weakAbove weakBelow))) rfl ?_
            refine e_inc (n := 1) rfl rfl rfl (st + 1) (by rfl) [(2, .int (nI (st + 1))), (0, .ref 0), (1, .int (nI best))] rfl ?_
            refine e_steps 1 (σ' := (11, [(2, .int (nI (st + 1))), (0, .ref 0), (1, .int (nI best))], [], (MH g kept was isKept tape fed pos tlen flt ranking paper written pairs_1 above below isDone dist rowv rowMany lsz itm weakAbove weakBelow))) rfl ?_
            refine e_sub [1, 2, 0] rfl ?_
            exact ih_11 best (st + 1) (by omega) (by first | exact ⟨by omega, by omega, z_SM_no l3 (Or.inr (Or.inl (by omega)))⟩ | exact ⟨by omega, by omega, z_SM_no l3 (Or.inl (by assumption))⟩)
          · skip
            rw [nI_leI (by omega) (by omega)] at c_38
            refine e_steps 2 (σ' := (43, [(0, .ref 0), (1, .int (nI best)), (2, .int (nI st))], [.int (nI st), .ref 0], (MH g kept was isKept tape fed pos tlen flt ranking paper written pairs_1 above below isDone dist rowv rowMany lsz itm weakAbove weakBelow))) rfl ?_
            refine e_call (y := 203) (av := [.ref 0, .int (nI st)]) (rest := []) rfl (c_X6_linksToAll (d + 0) (n := n) (outs := outs) (bm := bm) (ms := ms) (dr := dr) (cn := cn) (pl := pl) (F := (z_for bm cn pl)) (by first | assumption | omega | rfl | trivial) (by exact q_1) (by first | assumption | omega | rfl | trivial)) (fun r_43 h_43 p_43 => ?_)
            obtain ⟨rfl, o_43⟩ := p_43
            rcases o_43 with ⟨rfl, o_43⟩ | ⟨rfl, o_43⟩
            · skip
              refine e_steps 3 (σ' := (51, [(1, .int (nI st)), (0, .ref 0), (2, .int (nI st))], [], (MH g kept was isKept tape fed pos tlen flt ranking paper written pairs_1 above below isDone dist rowv rowMany lsz itm weakAbove weakBelow))) rfl ?_
              refine e_inc (n := 1) rfl rfl rfl (st + 1) (by rfl) [(2, .int (nI (st + 1))), (1, .int (nI st)), (0, .ref 0)] rfl ?_
              refine e_steps 1 (σ' := (11, [(2, .int (nI (st + 1))), (1, .int (nI st)), (0, .ref 0)], [], (MH g kept was isKept tape fed pos tlen flt ranking paper written pairs_1 above below isDone dist rowv rowMany lsz itm weakAbove weakBelow))) rfl ?_
              refine e_sub [2, 1, 0] rfl ?_
              exact ih_11 st (st + 1) (by omega) (by first | exact ⟨by omega, by omega, z_SM_yes l3 (by assumption) (by omega) o_43 (by omega) (by omega)⟩ | exact ⟨by omega, by omega, z_SM_no l3 (Or.inr (Or.inr o_43))⟩ | exact ⟨by omega, by omega, z_SM_no l3 (Or.inr (Or.inl (by omega)))⟩ | exact ⟨by omega, by omega, z_SM_no l3 (Or.inl (by assumption))⟩)
            · skip
              refine e_steps 1 (σ' := (51, [(0, .ref 0), (1, .int (nI best)), (2, .int (nI st))], [], (MH g kept was isKept tape fed pos tlen flt ranking paper written pairs_1 above below isDone dist rowv rowMany lsz itm weakAbove weakBelow))) rfl ?_
              refine e_inc (n := 1) rfl rfl rfl (st + 1) (by rfl) [(2, .int (nI (st + 1))), (0, .ref 0), (1, .int (nI best))] rfl ?_
              refine e_steps 1 (σ' := (11, [(2, .int (nI (st + 1))), (0, .ref 0), (1, .int (nI best))], [], (MH g kept was isKept tape fed pos tlen flt ranking paper written pairs_1 above below isDone dist rowv rowMany lsz itm weakAbove weakBelow))) rfl ?_
              refine e_sub [1, 2, 0] rfl ?_
              exact ih_11 best (st + 1) (by omega) (by first | exact ⟨by omega, by omega, z_SM_yes l3 (by assumption) (by omega) o_43 (by omega) (by omega)⟩ | exact ⟨by omega, by omega, z_SM_no l3 (Or.inr (Or.inr o_43))⟩ | exact ⟨by omega, by omega, z_SM_no l3 (Or.inr (Or.inl (by omega)))⟩ | exact ⟨by omega, by omega, z_SM_no l3 (Or.inl (by assumption))⟩)
  refine e_sub [2, 1, 0] rfl ?_
  exact loop_11 _ (z_dif (2 ^ n - 1) outs) 1 (Nat.lt_succ_self _) (by exact ⟨by omega, by omega, z_SM_0 hn8 z_ins_lt hin⟩)
theorem c_X6_isAside (d : Nat) {g : Nat → Int32} {kept : Nat → Int32} {was : Nat → Int32} {isKept : Int32} {tape : Nat → Int32} {fed : Int32} {pos : Int32} {tlen : Int32} {flt : Int32} {ranking : Nat → Int32} {paper : Nat → Int32} {written : Int32} {pairs : Nat → Int64} {above : Nat → Int64} {below : Nat → Int64} {isDone : Nat → Int32} {dist : Nat → Int32} {rowv : Nat → Int32} {rowMany : Int32} {lsz : Nat → Int32} {itm : Nat → Int64} {weakAbove : Int64} {weakBelow : Int64} {b : Nat} {c : Nat} {s2 : Nat} {n : Nat} {outs : Nat} {bm : Nat} {ms : Nat} {dr : Nat → Nat} {cn : Nat → Nat} {pl : Nat → Nat → Nat} (hG : z_GI g n outs bm ms dr cn pl) (hb : b < bm) (hc : c < n) (hs : s2 < 256) : z_CAL (d + 2) 205 [.ref 0, .int (nI b), .int (nI c), .int (nI s2)] (MH g kept was isKept tape fed pos tlen flt ranking paper written pairs above below isDone dist rowv rowMany lsz itm weakAbove weakBelow) (fun r h2 => h2 = (MH g kept was isKept tape fed pos tlen flt ranking paper written pairs above below isDone dist rowv rowMany lsz itm weakAbove weakBelow) ∧ ((r = some (.int (nI 1)) ∧ (z_asd n (pl b) c s2 = true)) ∨ (r = some (.int (nI 0)) ∧ (z_asd n (pl b) c s2 = false)))) := by
  refine e_of2 (q := zmX6_isAside) rfl rfl (fun R hR => ?_)
  obtain ⟨⟨hn0, hn2, hn8⟩, ⟨ho0, ho8, hin⟩, ⟨hb0, hb40⟩, ⟨hm0, hm4⟩, ⟨hdr, hdl, hdc⟩, hcn, hpl⟩ := id hG; have hp8 := z_p2 hn8; have ho256 : outs < 256 := (by omega); have hi256 : z_dif (2 ^ n - 1) outs < 256 := (by have := z_dif_le (s := 2 ^ n - 1) (t := outs); omega)
  refine e_steps 6 (σ' := (9, [(6, .int (nI 0)), (5, .int (nI 1)), (4, .int (nI 1)), (0, .ref 0), (1, .int (nI b)), (2, .int (nI c)), (3, .int (nI s2))], [], (MH g kept was isKept tape fed pos tlen flt ranking paper written pairs above below isDone dist rowv rowMany lsz itm weakAbove weakBelow))) rfl ?_
  have loop_9 : ∀ (z_9 : Nat) (ah : Nat) (bh : Nat) (k : Nat), n - k < z_9 → (k ≤ n ∧ ah = (true && z_allb k (fun x => !(s2.testBit x && !decide (pl b c < pl b x)))).toNat ∧ bh = (true && z_allb k (fun x => !(s2.testBit x && !decide (pl b x < pl b c)))).toNat) → z_EV (d + 1) zmX6_isAside R (9, [(0, .ref 0), (1, .int (nI b)), (2, .int (nI c)), (3, .int (nI s2)), (4, .int (nI ah)), (5, .int (nI bh)), (6, .int (nI k))], [], (MH g kept was isKept tape fed pos tlen flt ranking paper written pairs above below isDone dist rowv rowMany lsz itm weakAbove weakBelow)) := by
    intro z_9
    induction z_9 with
    | zero => intro ah bh k hm_9 _; exact absurd hm_9 (Nat.not_lt_zero _)
    | succ z_9 ih_9 =>
      intro ah bh k hm_9 hi_9
      obtain ⟨l1, l2, l3⟩ := hi_9; have l4 : ah < 2 := (by rw [l2]; exact z_tn_lt _); have l5 : bh < 2 := (by rw [l3]; exact z_tn_lt _)
      refine e_steps 4 (σ' := (16, [(0, .ref 0), (1, .int (nI b)), (2, .int (nI c)), (3, .int (nI s2)), (4, .int (nI ah)), (5, .int (nI bh)), (6, .int (nI k))], [.int (nI 0), .ref 1, .int (nI k)], (MH g kept was isKept tape fed pos tlen flt ranking paper written pairs above below isDone dist rowv rowMany lsz itm weakAbove weakBelow))) rfl ?_
      refine e_ial (nI n) rfl rfl (by first | assumption | omega | rfl | trivial) (by decide) (hn0) ?_
      refine e_steps 0 (σ' := (17, [(0, .ref 0), (1, .int (nI b)), (2, .int (nI c)), (3, .int (nI s2)), (4, .int (nI ah)), (5, .int (nI bh)), (6, .int (nI k))], [.int (nI n), .int (nI k)], (MH g kept was isKept tape fed pos tlen flt ranking paper written pairs above below isDone dist rowv rowMany lsz itm weakAbove weakBelow))) rfl ?_
      refine e_if (c := nI n ≤ nI k) rfl (fun c_17 => ?_) (fun c_17 => ?_)
      · skip
        rw [nI_leI (by omega) (by omega)] at c_17
        refine e_steps 1 (σ' := (89, [(0, .ref 0), (1, .int (nI b)), (2, .int (nI c)), (3, .int (nI s2)), (4, .int (nI ah)), (5, .int (nI bh)), (6, .int (nI k))], [.int (nI ah)], (MH g kept was isKept tape fed pos tlen flt ranking paper written pairs above below isDone dist rowv rowMany lsz itm weakAbove weakBelow))) rfl ?_
        refine e_if (c := ¬ nI ah = 0) rfl (fun c_89 => ?_) (fun c_89 => ?_)
        · skip
          rw [z0_ne (by omega)] at c_89
          skip
          refine e_steps 2 (σ' := (102, [(0, .ref 0), (1, .int (nI b)), (2, .int (nI c)), (3, .int (nI s2)), (4, .int (nI ah)), (5, .int (nI bh)), (6, .int (nI k))], [.int (nI 1)], (MH g kept was isKept tape fed pos tlen flt ranking paper written pairs above below isDone dist rowv rowMany lsz itm weakAbove weakBelow))) rfl ?_
          exact e_ret rfl (Or.inr rfl) (hR _ _ ⟨rfl, Or.inl ⟨rfl, (by (have e : k = n := (by omega)); rw [e] at l2 l3; exact z_as_yes l2 l3 (by omega))⟩⟩)
        · skip
          rw [z0_ne (by omega)] at c_89
          replace c_89 := Decidable.not_not.mp c_89
          refine e_steps 1 (σ' := (94, [(0, .ref 0), (1, .int (nI b)), (2, .int (nI c)), (3, .int (nI s2)), (4, .int (nI ah)), (5, .int (nI bh)), (6, .int (nI k))], [.int (nI bh)], (MH g kept was isKept tape fed pos tlen flt ranking paper written pairs above below isDone dist rowv rowMany lsz itm weakAbove weakBelow))) rfl ?_
          refine e_if (c := nI bh = 0) rfl (fun c_94 => ?_) (fun c_94 => ?_)
          · skip
            rw [z0_eq (by omega)] at c_94
            refine e_steps 1 (σ' := (102, [(0, .ref 0), (1, .int (nI b)), (2, .int (nI c)), (3, .int (nI s2)), (4, .int (nI ah)), (5, .int (nI bh)), (6, .int (nI k))], [.int (nI 0)], (MH g kept was isKept tape fed pos tlen flt ranking paper written pairs above below isDone dist rowv rowMany lsz itm weakAbove weakBelow))) rfl ?_
            exact e_ret rfl (Or.inl rfl) (hR _ _ ⟨rfl, Or.inr ⟨rfl, (by (have e : k = n := (by omega)); rw [e] at l2 l3; exact z_as_no l2 l3 (by omega) (by omega))⟩⟩)
          · skip
            rw [z0_eq (by omega)] at c_94
            refine e_steps 2 (σ' := (102, [(0, .ref 0), (1, .int (nI b)), (2, .int (nI c)), (3, .int (nI s2)), (4, .int (nI ah)), (5, .int (nI bh)), (6, .int (nI k))], [.int (nI 1)], (MH g kept was isKept tape fed pos tlen flt ranking paper written pairs above below isDone dist rowv rowMany lsz itm weakAbove weakBelow))) rfl ?_
            exact e_ret rfl (Or.inr rfl) (hR _ _ ⟨rfl, Or.inl ⟨rfl, (by (have e : k = n := (by omega)); rw [e] at l2 l3; exact z_as_yes l2 l3 (by omega))⟩⟩)
      · skip
        rw [nI_leI (by omega) (by omega)] at c_17
        refine e_steps 2 (σ' := (23, [(0, .ref 0), (1, .int (nI b)), (2, .int (nI c)), (3, .int (nI s2)), (4, .int (nI ah)), (5, .int (nI bh)), (6, .int (nI k))], [.int (nI k), .int (nI s2)], (MH g kept was isKept tape fed pos tlen flt ranking paper written pairs above below isDone dist rowv rowMany lsz itm weakAbove weakBelow))) rfl ?_
        refine e_call (y := 131) (av := [.int (nI s2), .int (nI k)]) (rest := []) rfl (c_X6_has (d + 0) (by first | assumption | omega | rfl | trivial) (by first | assumption | omega | rfl | trivial)) (fun r_23 h_23 p_23 => ?_)
        obtain ⟨rfl, o_23⟩ := p_23
        rcases o_23 with ⟨rfl, o_23⟩ | ⟨rfl, o_23⟩
        · skip
          refine e_steps 1 (σ' := (29, [(0, .ref 0), (1, .int (nI b)), (2, .int (nI c)), (3, .int (nI s2)), (4, .int (nI ah)), (5, .int (nI bh)), (6, .int (nI k))], [], (MH g kept was isKept tape fed pos tlen flt ranking paper written pairs above below isDone dist rowv rowMany lsz itm weakAbove weakBelow))) rfl ?_
          have hpc := (hpl b hb).2.1 c hc; have hpk := (hpl b hb).2.1 k (by omega)
          refine e_steps 4 (σ' := (34, [(0, .ref 0), (1, .int (nI b)), (2, .int (nI c)), (3, .int (nI s2)), (4, .int (nI ah)), (5, .int (nI bh)), (6, .int (nI k))], [.int (nI c), .int (nI b), .ref 0, .int (nI ah)], (MH g kept was isKept tape fed pos tlen flt ranking paper written pairs above below isDone dist rowv rowMany lsz itm weakAbove weakBelow))) rfl ?_
          refine e_call (y := 139) (av := [.ref 0, .int (nI b), .int (nI c)]) (rest := [.int (nI ah)]) rfl (c_X6_placeOf (d + 0) (n := n) (outs := outs) (bm := bm) (ms := ms) (dr := dr) (cn := cn) (pl := pl) (by first | assumption | omega | rfl | trivial) (by first | assumption | omega | rfl | trivial) (by first | assumption | omega | rfl | trivial)) (fun r_34 h_34 p_34 => ?_)
          obtain ⟨rfl, rfl⟩ := p_34
          refine e_steps 3 (σ' := (41, [(0, .ref 0), (1, .int (nI b)), (2, .int (nI c)), (3, .int (nI s2)), (4, .int (nI ah)), (5, .int (nI bh)), (6, .int (nI k))], [.int (nI k), .int (nI b), .ref 0, .int (nI (pl b c)), .int (nI ah)], (MH g kept was isKept tape fed pos tlen flt ranking paper written pairs above below isDone dist rowv rowMany lsz itm weakAbove weakBelow))) rfl ?_
          refine e_call (y := 139) (av := [.ref 0, .int (nI b), .int (nI k)]) (rest := [.int (nI (pl b c)), .int (nI ah)]) rfl (c_X6_placeOf (d + 0) (n := n) (outs := outs) (bm := bm) (ms := ms) (dr := dr) (cn := cn) (pl := pl) (by first | assumption | omega | rfl | trivial) (by first | assumption | omega | rfl | trivial) (by first | assumption | omega | rfl | trivial)) (fun r_41 h_41 p_41 => ?_)
          obtain ⟨rfl, rfl⟩ := p_41
          refine e_steps 0 (σ' := (44, [(0, .ref 0), (1, .int (nI b)), (2, .int (nI c)), (3, .int (nI s2)), (4, .int (nI ah)), (5, .int (nI bh)), (6, .int (nI k))], [.int (nI (pl b k)), .int (nI (pl b c)), .int (nI ah)], (MH g kept was isKept tape fed pos tlen flt ranking paper written pairs above below isDone dist rowv rowMany lsz itm weakAbove weakBelow))) rfl ?_
          refine e_if (c := nI (pl b k) ≤ nI (pl b c)) rfl (fun c_44 => ?_) (fun c_44 => ?_)
          · skip
            rw [nI_leI (by omega) (by omega)] at c_44
            refine e_steps 1 (σ' := (52, [(0, .ref 0), (1, .int (nI b)), (2, .int (nI c)), (3, .int (nI s2)), (4, .int (nI ah)), (5, .int (nI bh)), (6, .int (nI k))], [.int (nI 0), .int (nI ah)], (MH g kept was isKept tape fed pos tlen flt ranking paper written pairs above below isDone dist rowv rowMany lsz itm weakAbove weakBelow))) rfl ?_
            refine e_and (ah &&& 0) rfl (by first | rfl | decide) ?_
            refine e_steps 5 (σ' := (60, [(4, .int (nI (ah &&& 0))), (0, .ref 0), (1, .int (nI b)), (2, .int (nI c)), (3, .int (nI s2)), (5, .int (nI bh)), (6, .int (nI k))], [.int (nI c), .int (nI b), .ref 0, .int (nI bh)], (MH g kept was isKept tape fed pos tlen flt ranking paper written pairs above below isDone dist rowv rowMany lsz itm weakAbove weakBelow))) rfl ?_
            refine e_call (y := 139) (av := [.ref 0, .int (nI b), .int (nI c)]) (rest := [.int (nI bh)]) rfl (c_X6_placeOf (d + 0) (n := n) (outs := outs) (bm := bm) (ms := ms) (dr := dr) (cn := cn) (pl := pl) (by first | assumption | omega | rfl | trivial) (by first | assumption | omega | rfl | trivial) (by first | assumption | omega | rfl | trivial)) (fun r_60 h_60 p_60 => ?_)
            obtain ⟨rfl, rfl⟩ := p_60
            refine e_steps 3 (σ' := (67, [(4, .int (nI (ah &&& 0))), (0, .ref 0), (1, .int (nI b)), (2, .int (nI c)), (3, .int (nI s2)), (5, .int (nI bh)), (6, .int (nI k))], [.int (nI k), .int (nI b), .ref 0, .int (nI (pl b c)), .int (nI bh)], (MH g kept was isKept tape fed pos tlen flt ranking paper written pairs above below isDone dist rowv rowMany lsz itm weakAbove weakBelow))) rfl ?_
            refine e_call (y := 139) (av := [.ref 0, .int (nI b), .int (nI k)]) (rest := [.int (nI (pl b c)), .int (nI bh)]) rfl (c_X6_placeOf (d + 0) (n := n) (outs := outs) (bm := bm) (ms := ms) (dr := dr) (cn := cn) (pl := pl) (by first | assumption | omega | rfl | trivial) (by first | assumption | omega | rfl | trivial) (by first | assumption | omega | rfl | trivial)) (fun r_67 h_67 p_67 => ?_)
            obtain ⟨rfl, rfl⟩ := p_67
            refine e_steps 0 (σ' := (70, [(4, .int (nI (ah &&& 0))), (0, .ref 0), (1, .int (nI b)), (2, .int (nI c)), (3, .int (nI s2)), (5, .int (nI bh)), (6, .int (nI k))], [.int (nI (pl b k)), .int (nI (pl b c)), .int (nI bh)], (MH g kept was isKept tape fed pos tlen flt ranking paper written pairs above below isDone dist rowv rowMany lsz itm weakAbove weakBelow))) rfl ?_
            refine e_if (c := nI (pl b c) ≤ nI (pl b k)) rfl (fun c_70 => ?_) (fun c_70 => ?_)
            · skip
              rw [nI_leI (by omega) (by omega)] at c_70
              refine e_steps 1 (σ' := (78, [(4, .int (nI (ah &&& 0))), (0, .ref 0), (1, .int (nI b)), (2, .int (nI c)), (3, .int (nI s2)), (5, .int (nI bh)), (6, .int (nI k))], [.int (nI 0), .int (nI bh)], (MH g kept was isKept tape fed pos tlen flt ranking paper written pairs above below isDone dist rowv rowMany lsz itm weakAbove weakBelow))) rfl ?_
              refine e_and (bh &&& 0) rfl (by first | rfl | decide) ?_
              refine e_steps 1 (σ' := (81, [(5, .int (nI (bh &&& 0))), (4, .int (nI (ah &&& 0))), (0, .ref 0), (1, .int (nI b)), (2, .int (nI c)), (3, .int (nI s2)), (6, .int (nI k))], [], (MH g kept was isKept tape fed pos tlen flt ranking paper written pairs above below isDone dist rowv rowMany lsz itm weakAbove weakBelow))) rfl ?_
              refine e_inc (n := 1) rfl rfl rfl (k + 1) (by rfl) [(6, .int (nI (k + 1))), (5, .int (nI (bh &&& 0))), (4, .int (nI (ah &&& 0))), (0, .ref 0), (1, .int (nI b)), (2, .int (nI c)), (3, .int (nI s2))] rfl ?_
              refine e_steps 1 (σ' := (9, [(6, .int (nI (k + 1))), (5, .int (nI (bh &&& 0))), (4, .int (nI (ah &&& 0))), (0, .ref 0), (1, .int (nI b)), (2, .int (nI c)), (3, .int (nI s2))], [], (MH g kept was isKept tape fed pos tlen flt ranking paper written pairs above below isDone dist rowv rowMany lsz itm weakAbove weakBelow))) rfl ?_
              refine e_sub [3, 4, 5, 6, 2, 1, 0] rfl ?_
              exact ih_9 (ah &&& 0) (bh &&& 0) (k + 1) (by omega) (by first | exact ⟨by omega, z_as_s l2 o_23, z_as_s l3 o_23⟩ | exact ⟨by omega, z_as_T l2 (by omega), z_as_F l3 o_23 (by omega)⟩ | exact ⟨by omega, z_as_F l2 o_23 (by omega), z_as_T l3 (by omega)⟩ | exact ⟨by omega, z_as_F l2 o_23 (by omega), z_as_F l3 o_23 (by omega)⟩ | exact ⟨by omega, z_as_T l2 (by omega), z_as_T l3 (by omega)⟩)
            · skip
              rw [nI_leI (by omega) (by omega)] at c_70
              refine e_steps 2 (σ' := (78, [(4, .int (nI (ah &&& 0))), (0, .ref 0), (1, .int (nI b)), (2, .int (nI c)), (3, .int (nI s2)), (5, .int (nI bh)), (6, .int (nI k))], [.int (nI 1), .int (nI bh)], (MH g kept was isKept tape fed pos tlen flt ranking paper written pairs above below isDone dist rowv rowMany lsz itm weakAbove weakBelow))) rfl ?_
              refine e_and (bh &&& 1) rfl (by first | rfl | decide) ?_
              refine e_steps 1 (σ' := (81, [(5, .int (nI (bh &&& 1))), (4, .int (nI (ah &&& 0))), (0, .ref 0), (1, .int (nI b)), (2, .int (nI c)), (3, .int (nI s2)), (6, .int (nI k))], [], (MH g kept was isKept tape fed pos tlen flt ranking paper written pairs above below isDone dist rowv rowMany lsz itm weakAbove weakBelow))) rfl ?_
              refine e_inc (n := 1) rfl rfl rfl (k + 1) (by rfl) [(6, .int (nI (k + 1))), (5, .int (nI (bh &&& 1))), (4, .int (nI (ah &&& 0))), (0, .ref 0), (1, .int (nI b)), (2, .int (nI c)), (3, .int (nI s2))] rfl ?_
              refine e_steps 1 (σ' := (9, [(6, .int (nI (k + 1))), (5, .int (nI (bh &&& 1))), (4, .int (nI (ah &&& 0))), (0, .ref 0), (1, .int (nI b)), (2, .int (nI c)), (3, .int (nI s2))], [], (MH g kept was isKept tape fed pos tlen flt ranking paper written pairs above below isDone dist rowv rowMany lsz itm weakAbove weakBelow))) rfl ?_
              refine e_sub [3, 4, 5, 6, 2, 1, 0] rfl ?_
              exact ih_9 (ah &&& 0) (bh &&& 1) (k + 1) (by omega) (by first | exact ⟨by omega, z_as_s l2 o_23, z_as_s l3 o_23⟩ | exact ⟨by omega, z_as_T l2 (by omega), z_as_F l3 o_23 (by omega)⟩ | exact ⟨by omega, z_as_F l2 o_23 (by omega), z_as_T l3 (by omega)⟩ | exact ⟨by omega, z_as_F l2 o_23 (by omega), z_as_F l3 o_23 (by omega)⟩ | exact ⟨by omega, z_as_T l2 (by omega), z_as_T l3 (by omega)⟩)
          · skip
            rw [nI_leI (by omega) (by omega)] at c_44
            refine e_steps 2 (σ' := (52, [(0, .ref 0), (1, .int (nI b)), (2, .int (nI c)), (3, .int (nI s2)), (4, .int (nI ah)), (5, .int (nI bh)), (6, .int (nI k))], [.int (nI 1), .int (nI ah)], (MH g kept was isKept tape fed pos tlen flt ranking paper written pairs above below isDone dist rowv rowMany lsz itm weakAbove weakBelow))) rfl ?_
            refine e_and (ah &&& 1) rfl (by first | rfl | decide) ?_
            refine e_steps 5 (σ' := (60, [(4, .int (nI (ah &&& 1))), (0, .ref 0), (1, .int (nI b)), (2, .int (nI c)), (3, .int (nI s2)), (5, .int (nI bh)), (6, .int (nI k))], [.int (nI c), .int (nI b), .ref 0, .int (nI bh)], (MH g kept was isKept tape fed pos tlen flt ranking paper written pairs above below isDone dist rowv rowMany lsz itm weakAbove weakBelow))) rfl ?_
            refine e_call (y := 139) (av := [.ref 0, .int (nI b), .int (nI c)]) (rest := [.int (nI bh)]) rfl (c_X6_placeOf (d + 0) (n := n) (outs := outs) (bm := bm) (ms := ms) (dr := dr) (cn := cn) (pl := pl) (by first | assumption | omega | rfl | trivial) (by first | assumption | omega | rfl | trivial) (by first | assumption | omega | rfl | trivial)) (fun r_60 h_60 p_60 => ?_)
            obtain ⟨rfl, rfl⟩ := p_60
            refine e_steps 3 (σ' := (67, [(4, .int (nI (ah &&& 1))), (0, .ref 0), (1, .int (nI b)), (2, .int (nI c)), (3, .int (nI s2)), (5, .int (nI bh)), (6, .int (nI k))], [.int (nI k), .int (nI b), .ref 0, .int (nI (pl b c)), .int (nI bh)], (MH g kept was isKept tape fed pos tlen flt ranking paper written pairs above below isDone dist rowv rowMany lsz itm weakAbove weakBelow))) rfl ?_
            refine e_call (y := 139) (av := [.ref 0, .int (nI b), .int (nI k)]) (rest := [.int (nI (pl b c)), .int (nI bh)]) rfl (c_X6_placeOf (d + 0) (n := n) (outs := outs) (bm := bm) (ms := ms) (dr := dr) (cn := cn) (pl := pl) (by first | assumption | omega | rfl | trivial) (by first | assumption | omega | rfl | trivial) (by first | assumption | omega | rfl | trivial)) (fun r_67 h_67 p_67 => ?_)
            obtain ⟨rfl, rfl⟩ := p_67
            refine e_steps 0 (σ' := (70, [(4, .int (nI (ah &&& 1))), (0, .ref 0), (1, .int (nI b)), (2, .int (nI c)), (3, .int (nI s2)), (5, .int (nI bh)), (6, .int (nI k))], [.int (nI (pl b k)), .int (nI (pl b c)), .int (nI bh)], (MH g kept was isKept tape fed pos tlen flt ranking paper written pairs above below isDone dist rowv rowMany lsz itm weakAbove weakBelow))) rfl ?_
            refine e_if (c := nI (pl b c) ≤ nI (pl b k)) rfl (fun c_70 => ?_) (fun c_70 => ?_)
            · skip
              rw [nI_leI (by omega) (by omega)] at c_70
              refine e_steps 1 (σ' := (78, [(4, .int (nI (ah &&& 1))), (0, .ref 0), (1, .int (nI b)), (2, .int (nI c)), (3, .int (nI s2)), (5, .int (nI bh)), (6, .int (nI k))], [.int (nI 0), .int (nI bh)], (MH g kept was isKept tape fed pos tlen flt ranking paper written pairs above below isDone dist rowv rowMany lsz itm weakAbove weakBelow))) rfl ?_
              refine e_and (bh &&& 0) rfl (by first | rfl | decide) ?_
              refine e_steps 1 (σ' := (81, [(5, .int (nI (bh &&& 0))), (4, .int (nI (ah &&& 1))), (0, .ref 0), (1, .int (nI b)), (2, .int (nI c)), (3, .int (nI s2)), (6, .int (nI k))], [], (MH g kept was isKept tape fed pos tlen flt ranking paper written pairs above below isDone dist rowv rowMany lsz itm weakAbove weakBelow))) rfl ?_
              refine e_inc (n := 1) rfl rfl rfl (k + 1) (by rfl) [(6, .int (nI (k + 1))), (5, .int (nI (bh &&& 0))), (4, .int (nI (ah &&& 1))), (0, .ref 0), (1, .int (nI b)), (2, .int (nI c)), (3, .int (nI s2))] rfl ?_
              refine e_steps 1 (σ' := (9, [(6, .int (nI (k + 1))), (5, .int (nI (bh &&& 0))), (4, .int (nI (ah &&& 1))), (0, .ref 0), (1, .int (nI b)), (2, .int (nI c)), (3, .int (nI s2))], [], (MH g kept was isKept tape fed pos tlen flt ranking paper written pairs above below isDone dist rowv rowMany lsz itm weakAbove weakBelow))) rfl ?_
              refine e_sub [3, 4, 5, 6, 2, 1, 0] rfl ?_
              exact ih_9 (ah &&& 1) (bh &&& 0) (k + 1) (by omega) (by first | exact ⟨by omega, z_as_s l2 o_23, z_as_s l3 o_23⟩ | exact ⟨by omega, z_as_T l2 (by omega), z_as_F l3 o_23 (by omega)⟩ | exact ⟨by omega, z_as_F l2 o_23 (by omega), z_as_T l3 (by omega)⟩ | exact ⟨by omega, z_as_F l2 o_23 (by omega), z_as_F l3 o_23 (by omega)⟩ | exact ⟨by omega, z_as_T l2 (by omega), z_as_T l3 (by omega)⟩)
            · skip
              rw [nI_leI (by omega) (by omega)] at c_70
              refine e_steps 2 (σ' := (78, [(4, .int (nI (ah &&& 1))), (0, .ref 0), (1, .int (nI b)), (2, .int (nI c)), (3, .int (nI s2)), (5, .int (nI bh)), (6, .int (nI k))], [.int (nI 1), .int (nI bh)], (MH g kept was isKept tape fed pos tlen flt ranking paper written pairs above below isDone dist rowv rowMany lsz itm weakAbove weakBelow))) rfl ?_
              refine e_and (bh &&& 1) rfl (by first | rfl | decide) ?_
              refine e_steps 1 (σ' := (81, [(5, .int (nI (bh &&& 1))), (4, .int (nI (ah &&& 1))), (0, .ref 0), (1, .int (nI b)), (2, .int (nI c)), (3, .int (nI s2)), (6, .int (nI k))], [], (MH g kept was isKept tape fed pos tlen flt ranking paper written pairs above below isDone dist rowv rowMany lsz itm weakAbove weakBelow))) rfl ?_
              refine e_inc (n := 1) rfl rfl rfl (k + 1) (by rfl) [(6, .int (nI (k + 1))), (5, .int (nI (bh &&& 1))), (4, .int (nI (ah &&& 1))), (0, .ref 0), (1, .int (nI b)), (2, .int (nI c)), (3, .int (nI s2))] rfl ?_
              refine e_steps 1 (σ' := (9, [(6, .int (nI (k + 1))), (5, .int (nI (bh &&& 1))), (4, .int (nI (ah &&& 1))), (0, .ref 0), (1, .int (nI b)), (2, .int (nI c)), (3, .int (nI s2))], [], (MH g kept was isKept tape fed pos tlen flt ranking paper written pairs above below isDone dist rowv rowMany lsz itm weakAbove weakBelow))) rfl ?_
              refine e_sub [3, 4, 5, 6, 2, 1, 0] rfl ?_
              exact ih_9 (ah &&& 1) (bh &&& 1) (k + 1) (by omega) (by first | exact ⟨by omega, z_as_s l2 o_23, z_as_s l3 o_23⟩ | exact ⟨by omega, z_as_T l2 (by omega), z_as_F l3 o_23 (by omega)⟩ | exact ⟨by omega, z_as_F l2 o_23 (by omega), z_as_T l3 (by omega)⟩ | exact ⟨by omega, z_as_F l2 o_23 (by omega), z_as_F l3 o_23 (by omega)⟩ | exact ⟨by omega, z_as_T l2 (by omega), z_as_T l3 (by omega)⟩)
        · skip
          refine e_steps 1 (σ' := (81, [(0, .ref 0), (1, .int (nI b)), (2, .int (nI c)), (3, .int (nI s2)), (4, .int (nI ah)), (5, .int (nI bh)), (6, .int (nI k))], [], (MH g kept was isKept tape fed pos tlen flt ranking paper written pairs above below isDone dist rowv rowMany lsz itm weakAbove weakBelow))) rfl ?_
          refine e_inc (n := 1) rfl rfl rfl (k + 1) (by rfl) [(6, .int (nI (k + 1))), (0, .ref 0), (1, .int (nI b)), (2, .int (nI c)), (3, .int (nI s2)), (4, .int (nI ah)), (5, .int (nI bh))] rfl ?_
          refine e_steps 1 (σ' := (9, [(6, .int (nI (k + 1))), (0, .ref 0), (1, .int (nI b)), (2, .int (nI c)), (3, .int (nI s2)), (4, .int (nI ah)), (5, .int (nI bh))], [], (MH g kept was isKept tape fed pos tlen flt ranking paper written pairs above below isDone dist rowv rowMany lsz itm weakAbove weakBelow))) rfl ?_
          refine e_sub [1, 2, 3, 4, 5, 6, 0] rfl ?_
          exact ih_9 ah bh (k + 1) (by omega) (by first | exact ⟨by omega, z_as_s l2 o_23, z_as_s l3 o_23⟩ | exact ⟨by omega, z_as_T l2 (by omega), z_as_F l3 o_23 (by omega)⟩ | exact ⟨by omega, z_as_F l2 o_23 (by omega), z_as_T l3 (by omega)⟩ | exact ⟨by omega, z_as_F l2 o_23 (by omega), z_as_F l3 o_23 (by omega)⟩ | exact ⟨by omega, z_as_T l2 (by omega), z_as_T l3 (by omega)⟩)
  refine e_sub [3, 4, 5, 6, 2, 1, 0] rfl ?_
  exact loop_9 _ 1 1 0 (Nat.lt_succ_self _) (by exact ⟨by omega, rfl, rfl⟩)
theorem c_X6_areClones (d : Nat) {g : Nat → Int32} {kept : Nat → Int32} {was : Nat → Int32} {isKept : Int32} {tape : Nat → Int32} {fed : Int32} {pos : Int32} {tlen : Int32} {flt : Int32} {ranking : Nat → Int32} {paper : Nat → Int32} {written : Int32} {pairs : Nat → Int64} {above : Nat → Int64} {below : Nat → Int64} {isDone : Nat → Int32} {dist : Nat → Int32} {rowv : Nat → Int32} {rowMany : Int32} {lsz : Nat → Int32} {itm : Nat → Int64} {weakAbove : Int64} {weakBelow : Int64} {s2 : Nat} {n : Nat} {outs : Nat} {bm : Nat} {ms : Nat} {dr : Nat → Nat} {cn : Nat → Nat} {pl : Nat → Nat → Nat} (hG : z_GI g n outs bm ms dr cn pl) (hs : s2 < 256) : z_CAL (d + 3) 206 [.ref 0, .int (nI s2)] (MH g kept was isKept tape fed pos tlen flt ranking paper written pairs above below isDone dist rowv rowMany lsz itm weakAbove weakBelow) (fun r h2 => h2 = (MH g kept was isKept tape fed pos tlen flt ranking paper written pairs above below isDone dist rowv rowMany lsz itm weakAbove weakBelow) ∧ ((r = some (.int (nI 1)) ∧ (z_clo n (z_dif (2 ^ n - 1) outs) bm pl s2 = true)) ∨ (r = some (.int (nI 0)) ∧ (z_clo n (z_dif (2 ^ n - 1) outs) bm pl s2 = false)))) := by
  refine e_of2 (q := zmX6_areClones) rfl rfl (fun R hR => ?_)
  obtain ⟨⟨hn0, hn2, hn8⟩, ⟨ho0, ho8, hin⟩, ⟨hb0, hb40⟩, ⟨hm0, hm4⟩, ⟨hdr, hdl, hdc⟩, hcn, hpl⟩ := id hG; have hp8 := z_p2 hn8; have ho256 : outs < 256 := (by omega); have hi256 : z_dif (2 ^ n - 1) outs < 256 := (by have := z_dif_le (s := 2 ^ n - 1) (t := outs); omega); have l5 := z_dif_le (s := s2) (t := z_dif (2 ^ n - 1) outs); have l6 := z_pc_le s2
  refine e_steps 2 (σ' := (2, [(0, .ref 0), (1, .int (nI s2))], [.ref 0, .int (nI s2)], (MH g kept was isKept tape fed pos tlen flt ranking paper written pairs above below isDone dist rowv rowMany lsz itm weakAbove weakBelow))) rfl ?_
  refine e_call (y := 134) (av := [.ref 0]) (rest := [.int (nI s2)]) rfl (c_X6_ins (d + 0) (n := n) (outs := outs) (bm := bm) (ms := ms) (dr := dr) (cn := cn) (pl := pl) (by first | assumption | omega | rfl | trivial)) (fun r_2 h_2 p_2 => ?_)
  obtain ⟨rfl, rfl⟩ := p_2
  refine e_steps 2 (σ' := (7, [(0, .ref 0), (1, .int (nI s2))], [.int (((nI (z_dif (2 ^ n - 1) outs)) ^^^ ((-nI 1)))), .int (nI s2)], (MH g kept was isKept tape fed pos tlen flt ranking paper written pairs above below isDone dist rowv rowMany lsz itm weakAbove weakBelow))) rfl ?_
  refine e_dif rfl (by first | assumption | omega | rfl | trivial) (by first | assumption | omega | rfl | trivial) ?_
  refine e_steps 0 (σ' := (8, [(0, .ref 0), (1, .int (nI s2))], [.int (nI (z_dif s2 (z_dif (2 ^ n - 1) outs)))], (MH g kept was isKept tape fed pos tlen flt ranking paper written pairs above below isDone dist rowv rowMany lsz itm weakAbove weakBelow))) rfl ?_
  refine e_if (c := ¬ nI (z_dif s2 (z_dif (2 ^ n - 1) outs)) = 0) rfl (fun c_8 => ?_) (fun c_8 => ?_)
  · skip
    rw [z0_ne (by omega)] at c_8
    skip
    refine e_steps 1 (σ' := (28, [(0, .ref 0), (1, .int (nI s2))], [.int (nI 0)], (MH g kept was isKept tape fed pos tlen flt ranking paper written pairs above below isDone dist rowv rowMany lsz itm weakAbove weakBelow))) rfl ?_
    exact e_ret rfl (Or.inl rfl) (hR _ _ ⟨rfl, Or.inr ⟨rfl, (by unfold z_clo; first | (rw [decide_eq_false (fun q => absurd q.1 (by assumption))]; rfl) | (rw [decide_eq_false (fun q => absurd q.2.1 (by omega))]; rfl) | (rw [decide_eq_false (fun q => absurd (by assumption) q.2.2)]; rfl) | (rw [z_allb_F (i := b) (by omega) (z_allb_F (i := c) (by omega) (by show (!(_ && !_)) = false; rw [o_62, o_72]; rfl)), Bool.and_false]))⟩⟩)
  · skip
    rw [z0_ne (by omega)] at c_8
    replace c_8 := Decidable.not_not.mp c_8
    refine e_steps 1 (σ' := (12, [(0, .ref 0), (1, .int (nI s2))], [.int (nI s2)], (MH g kept was isKept tape fed pos tlen flt ranking paper written pairs above below isDone dist rowv rowMany lsz itm weakAbove weakBelow))) rfl ?_
    refine e_call (y := 132) (av := [.int (nI s2)]) (rest := []) rfl (c_X6_bits (d + 1) (by first | assumption | omega | rfl | trivial)) (fun r_12 h_12 p_12 => ?_)
    obtain ⟨rfl, rfl⟩ := p_12
    refine e_steps 1 (σ' := (16, [(0, .ref 0), (1, .int (nI s2))], [.int (nI 2), .int (nI (z_pc s2))], (MH g kept was isKept tape fed pos tlen flt ranking paper written pairs above below isDone dist rowv rowMany lsz itm weakAbove weakBelow))) rfl ?_
    refine e_if (c := nI (z_pc s2) < nI 2) rfl (fun c_16 => ?_) (fun c_16 => ?_)
    · skip
      rw [nI_ltI (by omega) (by omega)] at c_16
      refine e_steps 1 (σ' := (28, [(0, .ref 0), (1, .int (nI s2))], [.int (nI 0)], (MH g kept was isKept tape fed pos tlen flt ranking paper written pairs above below isDone dist rowv rowMany lsz itm weakAbove weakBelow))) rfl ?_
      exact e_ret rfl (Or.inl rfl) (hR _ _ ⟨rfl, Or.inr ⟨rfl, (by unfold z_clo; first | (rw [decide_eq_false (fun q => absurd q.1 (by assumption))]; rfl) | (rw [decide_eq_false (fun q => absurd q.2.1 (by omega))]; rfl) | (rw [decide_eq_false (fun q => absurd (by assumption) q.2.2)]; rfl) | (rw [z_allb_F (i := b) (by omega) (z_allb_F (i := c) (by omega) (by show (!(_ && !_)) = false; rw [o_62, o_72]; rfl)), Bool.and_false]))⟩⟩)
    · skip
      rw [nI_ltI (by omega) (by omega)] at c_16
      refine e_steps 2 (σ' := (21, [(0, .ref 0), (1, .int (nI s2))], [.ref 0, .int (nI s2)], (MH g kept was isKept tape fed pos tlen flt ranking paper written pairs above below isDone dist rowv rowMany lsz itm weakAbove weakBelow))) rfl ?_
      refine e_call (y := 134) (av := [.ref 0]) (rest := [.int (nI s2)]) rfl (c_X6_ins (d + 0) (n := n) (outs := outs) (bm := bm) (ms := ms) (dr := dr) (cn := cn) (pl := pl) (by first | assumption | omega | rfl | trivial)) (fun r_21 h_21 p_21 => ?_)
      obtain ⟨rfl, rfl⟩ := p_21
      refine e_steps 0 (σ' := (24, [(0, .ref 0), (1, .int (nI s2))], [.int (nI (z_dif (2 ^ n - 1) outs)), .int (nI s2)], (MH g kept was isKept tape fed pos tlen flt ranking paper written pairs above below isDone dist rowv rowMany lsz itm weakAbove weakBelow))) rfl ?_
      refine e_if (c := ¬ nI s2 = nI (z_dif (2 ^ n - 1) outs)) rfl (fun c_24 => ?_) (fun c_24 => ?_)
      · skip
        rw [nI_eq (by omega) (by omega)] at c_24
        skip
        refine e_steps 2 (σ' := (31, [(2, .int (nI 0)), (0, .ref 0), (1, .int (nI s2))], [], (MH g kept was isKept tape fed pos tlen flt ranking paper written pairs above below isDone dist rowv rowMany lsz itm weakAbove weakBelow))) rfl ?_
        have loop_31 : ∀ (z_31 : Nat) (b : Nat), bm - b < z_31 → (b ≤ bm ∧ z_allb b (fun b => z_allb n (fun c => !((z_dif (z_dif (2 ^ n - 1) outs) s2).testBit c && !z_asd n (pl b) c s2))) = true) → z_EV (d + 2) zmX6_areClones R (31, [(0, .ref 0), (1, .int (nI s2)), (2, .int (nI b))], [], (MH g kept was isKept tape fed pos tlen flt ranking paper written pairs above below isDone dist rowv rowMany lsz itm weakAbove weakBelow)) := by
          intro z_31
          induction z_31 with
          | zero => intro b hm_31 _; exact absurd hm_31 (Nat.not_lt_zero _)
          | succ z_31 ih_31 =>
            intro b hm_31 hi_31
            obtain ⟨l1, l2⟩ := hi_31
            refine e_steps 4 (σ' := (37, [(0, .ref 0), (1, .int (nI s2)), (2, .int (nI b))], [.int (nI 2), .ref 1, .int (nI b)], (MH g kept was isKept tape fed pos tlen flt ranking paper written pairs above below isDone dist rowv rowMany lsz itm weakAbove weakBelow))) rfl ?_
            refine e_ial (nI bm) rfl rfl (by first | assumption | omega | rfl | trivial) (by decide) (hb0) ?_
            refine e_steps 0 (σ' := (38, [(0, .ref 0), (1, .int (nI s2)), (2, .int (nI b))], [.int (nI bm), .int (nI b)], (MH g kept was isKept tape fed pos tlen flt ranking paper written pairs above below isDone dist rowv rowMany lsz itm weakAbove weakBelow))) rfl ?_
            refine e_if (c := nI bm ≤ nI b) rfl (fun c_38 => ?_) (fun c_38 => ?_)
            · skip
              rw [nI_leI (by omega) (by omega)] at c_38
              refine e_steps 1 (σ' := (93, [(0, .ref 0), (1, .int (nI s2)), (2, .int (nI b))], [.int (nI 1)], (MH g kept was isKept tape fed pos tlen flt ranking paper written pairs above below isDone dist rowv rowMany lsz itm weakAbove weakBelow))) rfl ?_
              exact e_ret rfl (Or.inr rfl) (hR _ _ ⟨rfl, Or.inl ⟨rfl, (by unfold z_clo; (have e : b = bm := (by omega)); rw [e] at l2; rw [l2, Bool.and_true]; exact decide_eq_true ⟨by assumption, by omega, by assumption⟩)⟩⟩)
            · skip
              rw [nI_leI (by omega) (by omega)] at c_38
              refine e_steps 2 (σ' := (43, [(3, .int (nI 0)), (0, .ref 0), (1, .int (nI s2)), (2, .int (nI b))], [], (MH g kept was isKept tape fed pos tlen flt ranking paper written pairs above below isDone dist rowv rowMany lsz itm weakAbove weakBelow))) rfl ?_
              have loop_43 : ∀ (z_43 : Nat) (c : Nat), n - c < z_43 → (c ≤ n ∧ z_allb c (fun c => !((z_dif (z_dif (2 ^ n - 1) outs) s2).testBit c && !z_asd n (pl b) c s2)) = true) → z_EV (d + 2) zmX6_areClones R (43, [(0, .ref 0), (1, .int (nI s2)), (2, .int (nI b)), (3, .int (nI c))], [], (MH g kept was isKept tape fed pos tlen flt ranking paper written pairs above below isDone dist rowv rowMany lsz itm weakAbove weakBelow)) := by
                intro z_43
                induction z_43 with
                | zero => intro c hm_43 _; exact absurd hm_43 (Nat.not_lt_zero _)
                | succ z_43 ih_43 =>
                  intro c hm_43 hi_43
                  obtain ⟨m1, m2⟩ := hi_43; have hdd := z_dif_le (s := z_dif (2 ^ n - 1) outs) (t := s2)
                  refine e_steps 4 (σ' := (49, [(0, .ref 0), (1, .int (nI s2)), (2, .int (nI b)), (3, .int (nI c))], [.int (nI 0), .ref 1, .int (nI c)], (MH g kept was isKept tape fed pos tlen flt ranking paper written pairs above below isDone dist rowv rowMany lsz itm weakAbove weakBelow))) rfl ?_
                  refine e_ial (nI n) rfl rfl (by first | assumption | omega | rfl | trivial) (by decide) (hn0) ?_
                  refine e_steps 0 (σ' := (50, [(0, .ref 0), (1, .int (nI s2)), (2, .int (nI b)), (3, .int (nI c))], [.int (nI n), .int (nI c)], (MH g kept was isKept tape fed pos tlen flt ranking paper written pairs above below isDone dist rowv rowMany lsz itm weakAbove weakBelow))) rfl ?_
                  refine e_if (c := nI n ≤ nI c) rfl (fun c_50 => ?_) (fun c_50 => ?_)
                  · skip
                    rw [nI_leI (by omega) (by omega)] at c_50
                    refine e_steps 0 (σ' := (86, [(0, .ref 0), (1, .int (nI s2)), (2, .int (nI b)), (3, .int (nI c))], [], (MH g kept was isKept tape fed pos tlen flt ranking paper written pairs above below isDone dist rowv rowMany lsz itm weakAbove weakBelow))) rfl ?_
                    refine e_inc (n := 1) rfl rfl rfl (b + 1) (by rfl) [(2, .int (nI (b + 1))), (0, .ref 0), (1, .int (nI s2)), (3, .int (nI c))] rfl ?_
                    refine e_steps 1 (σ' := (31, [(2, .int (nI (b + 1))), (0, .ref 0), (1, .int (nI s2)), (3, .int (nI c))], [], (MH g kept was isKept tape fed pos tlen flt ranking paper written pairs above below isDone dist rowv rowMany lsz itm weakAbove weakBelow))) rfl ?_
                    refine e_sub [1, 2, 0] rfl ?_
                    exact ih_31 (b + 1) (by omega) (by exact ⟨by omega, z_allb_T l2 (by (have e : c = n := (by omega)); rw [e] at m2; exact m2)⟩)
                  · skip
                    rw [nI_leI (by omega) (by omega)] at c_50
                    refine e_steps 1 (σ' := (54, [(0, .ref 0), (1, .int (nI s2)), (2, .int (nI b)), (3, .int (nI c))], [.ref 0], (MH g kept was isKept tape fed pos tlen flt ranking paper written pairs above below isDone dist rowv rowMany lsz itm weakAbove weakBelow))) rfl ?_
                    refine e_call (y := 134) (av := [.ref 0]) (rest := []) rfl (c_X6_ins (d + 0) (n := n) (outs := outs) (bm := bm) (ms := ms) (dr := dr) (cn := cn) (pl := pl) (by first | assumption | omega | rfl | trivial)) (fun r_54 h_54 p_54 => ?_)
                    obtain ⟨rfl, rfl⟩ := p_54
                    refine e_steps 3 (σ' := (60, [(0, .ref 0), (1, .int (nI s2)), (2, .int (nI b)), (3, .int (nI c))], [.int (((nI s2) ^^^ ((-nI 1)))), .int (nI (z_dif (2 ^ n - 1) outs))], (MH g kept was isKept tape fed pos tlen flt ranking paper written pairs above below isDone dist rowv rowMany lsz itm weakAbove weakBelow))) rfl ?_
                    refine e_dif rfl (by first | assumption | omega | rfl | trivial) (by first | assumption | omega | rfl | trivial) ?_
                    refine e_steps 1 (σ' := (62, [(0, .ref 0), (1, .int (nI s2)), (2, .int (nI b)), (3, .int (nI c))], [.int (nI c), .int (nI (z_dif (z_dif (2 ^ n - 1) outs) s2))], (MH g kept was isKept tape fed pos tlen flt ranking paper written pairs above below isDone dist rowv rowMany lsz itm weakAbove weakBelow))) rfl ?_
                    refine e_call (y := 131) (av := [.int (nI (z_dif (z_dif (2 ^ n - 1) outs) s2)), .int (nI c)]) (rest := []) rfl (c_X6_has (d + 1) (by first | assumption | omega | rfl | trivial) (by first | assumption | omega | rfl | trivial)) (fun r_62 h_62 p_62 => ?_)
                    obtain ⟨rfl, o_62⟩ := p_62
                    rcases o_62 with ⟨rfl, o_62⟩ | ⟨rfl, o_62⟩
                    · skip
                      refine e_steps 5 (σ' := (72, [(0, .ref 0), (1, .int (nI s2)), (2, .int (nI b)), (3, .int (nI c))], [.int (nI s2), .int (nI c), .int (nI b), .ref 0], (MH g kept was isKept tape fed pos tlen flt ranking paper written pairs above below isDone dist rowv rowMany lsz itm weakAbove weakBelow))) rfl ?_
                      refine e_call (y := 205) (av := [.ref 0, .int (nI b), .int (nI c), .int (nI s2)]) (rest := []) rfl (c_X6_isAside (d + 0) (n := n) (outs := outs) (bm := bm) (ms := ms) (dr := dr) (cn := cn) (pl := pl) (by first | assumption | omega | rfl | trivial) (by first | assumption | omega | rfl | trivial) (by first | assumption | omega | rfl | trivial) (by first | assumption | omega | rfl | trivial)) (fun r_72 h_72 p_72 => ?_)
                      obtain ⟨rfl, o_72⟩ := p_72
                      rcases o_72 with ⟨rfl, o_72⟩ | ⟨rfl, o_72⟩
                      · skip
                        refine e_steps 1 (σ' := (80, [(0, .ref 0), (1, .int (nI s2)), (2, .int (nI b)), (3, .int (nI c))], [], (MH g kept was isKept tape fed pos tlen flt ranking paper written pairs above below isDone dist rowv rowMany lsz itm weakAbove weakBelow))) rfl ?_
                        refine e_inc (n := 1) rfl rfl rfl (c + 1) (by rfl) [(3, .int (nI (c + 1))), (0, .ref 0), (1, .int (nI s2)), (2, .int (nI b))] rfl ?_
                        refine e_steps 1 (σ' := (43, [(3, .int (nI (c + 1))), (0, .ref 0), (1, .int (nI s2)), (2, .int (nI b))], [], (MH g kept was isKept tape fed pos tlen flt ranking paper written pairs above below isDone dist rowv rowMany lsz itm weakAbove weakBelow))) rfl ?_
                        refine e_sub [1, 2, 3, 0] rfl ?_
                        exact ih_43 (c + 1) (by omega) (by first | exact ⟨by omega, z_allb_T m2 (by show (!(_ && !_)) = true; rw [o_62, o_72]; rfl)⟩ | exact ⟨by omega, z_allb_T m2 (by show (!(_ && !_)) = true; rw [o_62]; rfl)⟩)
                      · skip
                        refine e_steps 2 (σ' := (79, [(0, .ref 0), (1, .int (nI s2)), (2, .int (nI b)), (3, .int (nI c))], [.int (nI 0)], (MH g kept was isKept tape fed pos tlen flt ranking paper written pairs above below isDone dist rowv rowMany lsz itm weakAbove weakBelow))) rfl ?_
                        exact e_ret rfl (Or.inl rfl) (hR _ _ ⟨rfl, Or.inr ⟨rfl, (by unfold z_clo; first | (rw [decide_eq_false (fun q => absurd q.1 (by assumption))]; rfl) | (rw [decide_eq_false (fun q => absurd q.2.1 (by omega))]; rfl) | (rw [decide_eq_false (fun q => absurd (by assumption) q.2.2)]; rfl) | (rw [z_allb_F (i := b) (by omega) (z_allb_F (i := c) (by omega) (by show (!(_ && !_)) = false; rw [o_62, o_72]; rfl)), Bool.and_false]))⟩⟩)
                    · skip
                      refine e_steps 1 (σ' := (80, [(0, .ref 0), (1, .int (nI s2)), (2, .int (nI b)), (3, .int (nI c))], [], (MH g kept was isKept tape fed pos tlen flt ranking paper written pairs above below isDone dist rowv rowMany lsz itm weakAbove weakBelow))) rfl ?_
                      refine e_inc (n := 1) rfl rfl rfl (c + 1) (by rfl) [(3, .int (nI (c + 1))), (0, .ref 0), (1, .int (nI s2)), (2, .int (nI b))] rfl ?_
                      refine e_steps 1 (σ' := (43, [(3, .int (nI (c + 1))), (0, .ref 0), (1, .int (nI s2)), (2, .int (nI b))], [], (MH g kept was isKept tape fed pos tlen flt ranking paper written pairs above below isDone dist rowv rowMany lsz itm weakAbove weakBelow))) rfl ?_
                      refine e_sub [1, 2, 3, 0] rfl ?_
                      exact ih_43 (c + 1) (by omega) (by exact ⟨by omega, z_allb_T m2 (by show (!(_ && !_)) = true; rw [o_62]; rfl)⟩)
              refine e_sub [1, 2, 3, 0] rfl ?_
              exact loop_43 _ 0 (Nat.lt_succ_self _) (by exact ⟨by omega, rfl⟩)
        refine e_sub [1, 2, 0] rfl ?_
        exact loop_31 _ 0 (Nat.lt_succ_self _) (by exact ⟨by omega, rfl⟩)
      · skip
        rw [nI_eq (by omega) (by omega)] at c_24
        replace c_24 := Decidable.not_not.mp c_24
        refine e_steps 1 (σ' := (28, [(0, .ref 0), (1, .int (nI s2))], [.int (nI 0)], (MH g kept was isKept tape fed pos tlen flt ranking paper written pairs above below isDone dist rowv rowMany lsz itm weakAbove weakBelow))) rfl ?_
        exact e_ret rfl (Or.inl rfl) (hR _ _ ⟨rfl, Or.inr ⟨rfl, (by unfold z_clo; first | (rw [decide_eq_false (fun q => absurd q.1 (by assumption))]; rfl) | (rw [decide_eq_false (fun q => absurd q.2.1 (by omega))]; rfl) | (rw [decide_eq_false (fun q => absurd (by assumption) q.2.2)]; rfl) | (rw [z_allb_F (i := b) (by omega) (z_allb_F (i := c) (by omega) (by show (!(_ && !_)) = false; rw [o_62, o_72]; rfl)), Bool.and_false]))⟩⟩)
theorem c_X6_clones (d : Nat) {g : Nat → Int32} {kept : Nat → Int32} {was : Nat → Int32} {isKept : Int32} {tape : Nat → Int32} {fed : Int32} {pos : Int32} {tlen : Int32} {flt : Int32} {ranking : Nat → Int32} {paper : Nat → Int32} {written : Int32} {pairs : Nat → Int64} {above : Nat → Int64} {below : Nat → Int64} {isDone : Nat → Int32} {dist : Nat → Int32} {rowv : Nat → Int32} {rowMany : Int32} {lsz : Nat → Int32} {itm : Nat → Int64} {weakAbove : Int64} {weakBelow : Int64} {k : Int32} {n : Nat} {outs : Nat} {bm : Nat} {ms : Nat} {dr : Nat → Nat} {cn : Nat → Nat} {pl : Nat → Nat → Nat} (hG : z_GI g n outs bm ms dr cn pl) : z_CAL (d + 4) 207 [.ref 0, .int k] (MH g kept was isKept tape fed pos tlen flt ranking paper written pairs above below isDone dist rowv rowMany lsz itm weakAbove weakBelow) (fun r h2 => ∃ (v : Int32), r = some (.int v) ∧ h2 = (MH g kept was isKept tape fed pos tlen flt ranking paper written pairs above below isDone dist rowv rowMany lsz itm weakAbove weakBelow) ∧ ((k < -nI 1 ∧ v = -nI 1) ∨ (¬ k < -nI 1 ∧ ((k < 0 ∧ v = nI (z_ct (2 ^ n) (z_clo n (z_dif (2 ^ n - 1) outs) bm pl))) ∨ (∃ q s, k = nI q ∧ s < 2 ^ n ∧ (z_clo n (z_dif (2 ^ n - 1) outs) bm pl) s = true ∧ z_ct s (z_clo n (z_dif (2 ^ n - 1) outs) bm pl) = q ∧ v = nI s) ∨ ∃ q, k = nI q ∧ q < 2147483648 ∧ z_ct (2 ^ n) (z_clo n (z_dif (2 ^ n - 1) outs) bm pl) ≤ q ∧ v = -nI 1)))) := by
  refine e_of2 (q := zmX6_clones) rfl rfl (fun R hR => ?_)
  obtain ⟨⟨hn0, hn2, hn8⟩, ⟨ho0, ho8, hin⟩, ⟨hb0, hb40⟩, ⟨hm0, hm4⟩, ⟨hdr, hdl, hdc⟩, hcn, hpl⟩ := id hG; have hp8 := z_p2 hn8; have ho256 : outs < 256 := (by omega); have hi256 : z_dif (2 ^ n - 1) outs < 256 := (by have := z_dif_le (s := 2 ^ n - 1) (t := outs); omega)
  refine e_steps 2 (σ' := (2, [(0, .ref 0), (1, .int k)], [.int ((-nI 1)), .int k], (MH g kept was isKept tape fed pos tlen flt ranking paper written pairs above below isDone dist rowv rowMany lsz itm weakAbove weakBelow))) rfl ?_
  refine e_if (c := (-nI 1) ≤ k) rfl (fun c_2 => ?_) (fun c_2 => ?_)
  · skip
    refine e_steps 4 (σ' := (11, [(3, .int (nI 1)), (2, .int (nI 0)), (0, .ref 0), (1, .int k)], [], (MH g kept was isKept tape fed pos tlen flt ranking paper written pairs above below isDone dist rowv rowMany lsz itm weakAbove weakBelow))) rfl ?_
    have loop_11 : ∀ (z_11 : Nat) (cnt : Nat) (st : Nat), 2 ^ n - st < z_11 → (1 ≤ st ∧ st ≤ 2 ^ n ∧ cnt = z_ct st (z_clo n (z_dif (2 ^ n - 1) outs) bm pl) ∧ ∀ q, k = nI q → q < 2147483648 → cnt ≤ q) → z_EV (d + 3) zmX6_clones R (11, [(0, .ref 0), (1, .int k), (2, .int (nI cnt)), (3, .int (nI st))], [], (MH g kept was isKept tape fed pos tlen flt ranking paper written pairs above below isDone dist rowv rowMany lsz itm weakAbove weakBelow)) := by
      intro z_11
      induction z_11 with
      | zero => intro cnt st hm_11 _; exact absurd hm_11 (Nat.not_lt_zero _)
      | succ z_11 ih_11 =>
        intro cnt st hm_11 hi_11
        obtain ⟨l1, l2, l3, l4⟩ := hi_11; have l5 := z_ct_le (z_clo n (z_dif (2 ^ n - 1) outs) bm pl) st
        refine e_steps 2 (σ' := (13, [(0, .ref 0), (1, .int k), (2, .int (nI cnt)), (3, .int (nI st))], [.ref 0, .int (nI st)], (MH g kept was isKept tape fed pos tlen flt ranking paper written pairs above below isDone dist rowv rowMany lsz itm weakAbove weakBelow))) rfl ?_
        refine e_call (y := 133) (av := [.ref 0]) (rest := [.int (nI st)]) rfl (c_X6_everyone (d + 2) (n := n) (outs := outs) (bm := bm) (ms := ms) (dr := dr) (cn := cn) (pl := pl) (by first | assumption | omega | rfl | trivial)) (fun r_13 h_13 p_13 => ?_)
        obtain ⟨rfl, rfl⟩ := p_13
        refine e_steps 0 (σ' := (16, [(0, .ref 0), (1, .int k), (2, .int (nI cnt)), (3, .int (nI st))], [.int (nI (2 ^ n - 1)), .int (nI st)], (MH g kept was isKept tape fed pos tlen flt ranking paper written pairs above below isDone dist rowv rowMany lsz itm weakAbove weakBelow))) rfl ?_
        refine e_if (c := nI (2 ^ n - 1) < nI st) rfl (fun c_16 => ?_) (fun c_16 => ?_)
        · skip
          rw [nI_ltI (by omega) (by omega)] at c_16
          refine e_steps 1 (σ' := (47, [(0, .ref 0), (1, .int k), (2, .int (nI cnt)), (3, .int (nI st))], [.int k], (MH g kept was isKept tape fed pos tlen flt ranking paper written pairs above below isDone dist rowv rowMany lsz itm weakAbove weakBelow))) rfl ?_
          refine e_if (c := 0 ≤ k) rfl (fun c_47 => ?_) (fun c_47 => ?_)
          · skip
            obtain ⟨k_47, hk_47, ek_47⟩ := nI_of (by rw [Int32.not_lt]; exact c_47)
            subst ek_47
            refine e_steps 1 (σ' := (55, [(0, .ref 0), (1, .int (nI k_47)), (2, .int (nI cnt)), (3, .int (nI st))], [.int ((-nI 1))], (MH g kept was isKept tape fed pos tlen flt ranking paper written pairs above below isDone dist rowv rowMany lsz itm weakAbove weakBelow))) rfl ?_
            exact e_ret rfl (trivial) (hR _ _ ⟨((-nI 1)), rfl, rfl, (by (try (have e : st = 2 ^ n := (by omega)); rw [e] at l3); first | exact Or.inl ⟨Int32.not_le.mp c_2, rfl⟩ | exact Or.inr ⟨Int32.not_lt.mpr c_2, Or.inr (Or.inl ⟨cnt, st, c_32.symm, by omega, o_21, l3.symm, rfl⟩)⟩ | exact Or.inr ⟨Int32.not_lt.mpr c_2, Or.inl ⟨Int32.not_le.mp c_47, by rw [l3]⟩⟩ | (obtain ⟨q, h1, h2⟩ := nI_of (Int32.not_lt.mpr c_47); exact Or.inr ⟨Int32.not_lt.mpr c_2, Or.inr (Or.inr ⟨q, h2, by omega, by rw [← l3]; exact l4 q h2 (by omega), rfl⟩)⟩))⟩)
          · skip
            refine e_steps 2 (σ' := (55, [(0, .ref 0), (1, .int k), (2, .int (nI cnt)), (3, .int (nI st))], [.int (nI cnt)], (MH g kept was isKept tape fed pos tlen flt ranking paper written pairs above below isDone dist rowv rowMany lsz itm weakAbove weakBelow))) rfl ?_
            exact e_ret rfl (trivial) (hR _ _ ⟨(nI cnt), rfl, rfl, (by (try (have e : st = 2 ^ n := (by omega)); rw [e] at l3); first | exact Or.inl ⟨Int32.not_le.mp c_2, rfl⟩ | exact Or.inr ⟨Int32.not_lt.mpr c_2, Or.inr (Or.inl ⟨cnt, st, c_32.symm, by omega, o_21, l3.symm, rfl⟩)⟩ | exact Or.inr ⟨Int32.not_lt.mpr c_2, Or.inl ⟨Int32.not_le.mp c_47, by rw [l3]⟩⟩ | (obtain ⟨q, h1, h2⟩ := nI_of (Int32.not_lt.mpr c_47); exact Or.inr ⟨Int32.not_lt.mpr c_2, Or.inr (Or.inr ⟨q, h2, by omega, by rw [← l3]; exact l4 q h2 (by omega), rfl⟩)⟩))⟩)
        · skip
          rw [nI_ltI (by omega) (by omega)] at c_16
          refine e_steps 2 (σ' := (21, [(0, .ref 0), (1, .int k), (2, .int (nI cnt)), (3, .int (nI st))], [.int (nI st), .ref 0], (MH g kept was isKept tape fed pos tlen flt ranking paper written pairs above below isDone dist rowv rowMany lsz itm weakAbove weakBelow))) rfl ?_
          refine e_call (y := 206) (av := [.ref 0, .int (nI st)]) (rest := []) rfl (c_X6_areClones (d + 0) (n := n) (outs := outs) (bm := bm) (ms := ms) (dr := dr) (cn := cn) (pl := pl) (by first | assumption | omega | rfl | trivial) (by first | assumption | omega | rfl | trivial)) (fun r_21 h_21 p_21 => ?_)
          obtain ⟨rfl, o_21⟩ := p_21
          rcases o_21 with ⟨rfl, o_21⟩ | ⟨rfl, o_21⟩
          · skip
            refine e_steps 3 (σ' := (32, [(0, .ref 0), (1, .int k), (2, .int (nI cnt)), (3, .int (nI st))], [.int k, .int (nI cnt)], (MH g kept was isKept tape fed pos tlen flt ranking paper written pairs above below isDone dist rowv rowMany lsz itm weakAbove weakBelow))) rfl ?_
            refine e_if (c := ¬ nI cnt = k) rfl (fun c_32 => ?_) (fun c_32 => ?_)
            · skip
              refine e_steps 0 (σ' := (37, [(0, .ref 0), (1, .int k), (2, .int (nI cnt)), (3, .int (nI st))], [], (MH g kept was isKept tape fed pos tlen flt ranking paper written pairs above below isDone dist rowv rowMany lsz itm weakAbove weakBelow))) rfl ?_
              refine e_inc (n := 1) rfl rfl rfl (cnt + 1) (by rfl) [(2, .int (nI (cnt + 1))), (0, .ref 0), (1, .int k), (3, .int (nI st))] rfl ?_
              refine e_steps 0 (σ' := (40, [(2, .int (nI (cnt + 1))), (0, .ref 0), (1, .int k), (3, .int (nI st))], [], (MH g kept was isKept tape fed pos tlen flt ranking paper written pairs above below isDone dist rowv rowMany lsz itm weakAbove weakBelow))) rfl ?_
              refine e_inc (n := 1) rfl rfl rfl (st + 1) (by rfl) [(3, .int (nI (st + 1))), (2, .int (nI (cnt + 1))), (0, .ref 0), (1, .int k)] rfl ?_
              refine e_steps 1 (σ' := (11, [(3, .int (nI (st + 1))), (2, .int (nI (cnt + 1))), (0, .ref 0), (1, .int k)], [], (MH g kept was isKept tape fed pos tlen flt ranking paper written pairs above below isDone dist rowv rowMany lsz itm weakAbove weakBelow))) rfl ?_
              refine e_sub [2, 3, 1, 0] rfl ?_
              exact ih_11 (cnt + 1) (st + 1) (by omega) (by first | exact ⟨by omega, by omega, by rw [z_ct_T o_21, l3], fun q h1 h2 => by have h3 := l4 q h1 h2; rcases (by omega : cnt = q ∨ cnt + 1 ≤ q) with h | h; (subst h; exact absurd h1.symm c_32); exact h⟩ | exact ⟨by omega, by omega, by rw [z_ct_F o_21, l3], l4⟩)
            · skip
              replace c_32 := Decidable.not_not.mp c_32
              refine e_steps 1 (σ' := (36, [(0, .ref 0), (1, .int k), (2, .int (nI cnt)), (3, .int (nI st))], [.int (nI st)], (MH g kept was isKept tape fed pos tlen flt ranking paper written pairs above below isDone dist rowv rowMany lsz itm weakAbove weakBelow))) rfl ?_
              exact e_ret rfl (trivial) (hR _ _ ⟨(nI st), rfl, rfl, (by (try (have e : st = 2 ^ n := (by omega)); rw [e] at l3); first | exact Or.inl ⟨Int32.not_le.mp c_2, rfl⟩ | exact Or.inr ⟨Int32.not_lt.mpr c_2, Or.inr (Or.inl ⟨cnt, st, c_32.symm, by omega, o_21, l3.symm, rfl⟩)⟩ | exact Or.inr ⟨Int32.not_lt.mpr c_2, Or.inl ⟨Int32.not_le.mp c_47, by rw [l3]⟩⟩ | (obtain ⟨q, h1, h2⟩ := nI_of (Int32.not_lt.mpr c_47); exact Or.inr ⟨Int32.not_lt.mpr c_2, Or.inr (Or.inr ⟨q, h2, by omega, by rw [← l3]; exact l4 q h2 (by omega), rfl⟩)⟩))⟩)
          · skip
            refine e_steps 2 (σ' := (40, [(0, .ref 0), (1, .int k), (2, .int (nI cnt)), (3, .int (nI st))], [], (MH g kept was isKept tape fed pos tlen flt ranking paper written pairs above below isDone dist rowv rowMany lsz itm weakAbove weakBelow))) rfl ?_
            refine e_inc (n := 1) rfl rfl rfl (st + 1) (by rfl) [(3, .int (nI (st + 1))), (0, .ref 0), (1, .int k), (2, .int (nI cnt))] rfl ?_
            refine e_steps 1 (σ' := (11, [(3, .int (nI (st + 1))), (0, .ref 0), (1, .int k), (2, .int (nI cnt))], [], (MH g kept was isKept tape fed pos tlen flt ranking paper written pairs above below isDone dist rowv rowMany lsz itm weakAbove weakBelow))) rfl ?_
            refine e_sub [1, 2, 3, 0] rfl ?_
            exact ih_11 cnt (st + 1) (by omega) (by exact ⟨by omega, by omega, by rw [z_ct_F o_21, l3], l4⟩)
    refine e_sub [2, 3, 1, 0] rfl ?_
    exact loop_11 _ 0 1 (Nat.lt_succ_self _) (by exact ⟨by omega, by omega, by rw [z_ct_F (i := 0) (z_clo_0)]; rfl, fun q _ _ => Nat.zero_le q⟩)
  · skip
    refine e_steps 1 (σ' := (6, [(0, .ref 0), (1, .int k)], [.int ((-nI 1))], (MH g kept was isKept tape fed pos tlen flt ranking paper written pairs above below isDone dist rowv rowMany lsz itm weakAbove weakBelow))) rfl ?_
    exact e_ret rfl (trivial) (hR _ _ ⟨((-nI 1)), rfl, rfl, (by (try (have e : st = 2 ^ n := (by omega)); rw [e] at l3); first | exact Or.inl ⟨Int32.not_le.mp c_2, rfl⟩ | exact Or.inr ⟨Int32.not_lt.mpr c_2, Or.inr (Or.inl ⟨cnt, st, c_32.symm, by omega, o_21, l3.symm, rfl⟩)⟩ | exact Or.inr ⟨Int32.not_lt.mpr c_2, Or.inl ⟨Int32.not_le.mp c_47, by rw [l3]⟩⟩ | (obtain ⟨q, h1, h2⟩ := nI_of (Int32.not_lt.mpr c_47); exact Or.inr ⟨Int32.not_lt.mpr c_2, Or.inr (Or.inr ⟨q, h2, by omega, by rw [← l3]; exact l4 q h2 (by omega), rfl⟩)⟩))⟩)
theorem c_X6_behindIt (d : Nat) {g : Nat → Int32} {kept : Nat → Int32} {was : Nat → Int32} {isKept : Int32} {tape : Nat → Int32} {fed : Int32} {pos : Int32} {tlen : Int32} {flt : Int32} {ranking : Nat → Int32} {paper : Nat → Int32} {written : Int32} {pairs : Nat → Int64} {above : Nat → Int64} {below : Nat → Int64} {isDone : Nat → Int32} {dist : Nat → Int32} {rowv : Nat → Int32} {rowMany : Int32} {lsz : Nat → Int32} {itm : Nat → Int64} {weakAbove : Int64} {weakBelow : Int64} {b : Nat} {c : Nat} {n : Nat} {outs : Nat} {bm : Nat} {ms : Nat} {dr : Nat → Nat} {cn : Nat → Nat} {pl : Nat → Nat → Nat} (hG : z_GI g n outs bm ms dr cn pl) (hb : b < bm) (hc : c < n) : z_CAL (d + 3) 208 [.ref 0, .int (nI b), .int (nI c)] (MH g kept was isKept tape fed pos tlen flt ranking paper written pairs above below isDone dist rowv rowMany lsz itm weakAbove weakBelow) (fun r h2 => r = some (.int (nI (z_bh n (z_dif (2 ^ n - 1) outs) (pl b) c))) ∧ h2 = (MH g kept was isKept tape fed pos tlen flt ranking paper written pairs above below isDone dist rowv rowMany lsz itm weakAbove weakBelow)) := by
  refine e_of2 (q := zmX6_behindIt) rfl rfl (fun R hR => ?_)
  obtain ⟨⟨hn0, hn2, hn8⟩, ⟨ho0, ho8, hin⟩, ⟨hb0, hb40⟩, ⟨hm0, hm4⟩, ⟨hdr, hdl, hdc⟩, hcn, hpl⟩ := id hG; have hp8 := z_p2 hn8; have ho256 : outs < 256 := (by omega); have hi256 : z_dif (2 ^ n - 1) outs < 256 := (by have := z_dif_le (s := 2 ^ n - 1) (t := outs); omega)
  refine e_steps 4 (σ' := (5, [(4, .int (nI 0)), (3, .int (nI 0)), (0, .ref 0), (1, .int (nI b)), (2, .int (nI c))], [], (MH g kept was isKept tape fed pos tlen flt ranking paper written pairs above below isDone dist rowv rowMany lsz itm weakAbove weakBelow))) rfl ?_
  have loop_5 : ∀ (z_5 : Nat) (cnt : Nat) (k : Nat), n - k < z_5 → (k ≤ n ∧ cnt = z_ct k (fun k => (z_dif (2 ^ n - 1) outs).testBit k && decide (pl b c < pl b k))) → z_EV (d + 2) zmX6_behindIt R (5, [(0, .ref 0), (1, .int (nI b)), (2, .int (nI c)), (3, .int (nI cnt)), (4, .int (nI k))], [], (MH g kept was isKept tape fed pos tlen flt ranking paper written pairs above below isDone dist rowv rowMany lsz itm weakAbove weakBelow)) := by
    intro z_5
    induction z_5 with
    | zero => intro cnt k hm_5 _; exact absurd hm_5 (Nat.not_lt_zero _)
    | succ z_5 ih_5 =>
      intro cnt k hm_5 hi_5
      obtain ⟨l1, l2⟩ := hi_5; have hpc := (hpl b hb).2.1 c hc
      refine e_steps 4 (σ' := (12, [(0, .ref 0), (1, .int (nI b)), (2, .int (nI c)), (3, .int (nI cnt)), (4, .int (nI k))], [.int (nI 0), .ref 1, .int (nI k)], (MH g kept was isKept tape fed pos tlen flt ranking paper written pairs above below isDone dist rowv rowMany lsz itm weakAbove weakBelow))) rfl ?_
      refine e_ial (nI n) rfl rfl (by first | assumption | omega | rfl | trivial) (by decide) (hn0) ?_
      refine e_steps 0 (σ' := (13, [(0, .ref 0), (1, .int (nI b)), (2, .int (nI c)), (3, .int (nI cnt)), (4, .int (nI k))], [.int (nI n), .int (nI k)], (MH g kept was isKept tape fed pos tlen flt ranking paper written pairs above below isDone dist rowv rowMany lsz itm weakAbove weakBelow))) rfl ?_
      refine e_if (c := nI n ≤ nI k) rfl (fun c_13 => ?_) (fun c_13 => ?_)
      · skip
        rw [nI_leI (by omega) (by omega)] at c_13
        refine e_steps 1 (σ' := (59, [(0, .ref 0), (1, .int (nI b)), (2, .int (nI c)), (3, .int (nI cnt)), (4, .int (nI k))], [.int (nI cnt)], (MH g kept was isKept tape fed pos tlen flt ranking paper written pairs above below isDone dist rowv rowMany lsz itm weakAbove weakBelow))) rfl ?_
        exact e_ret rfl (trivial) (hR _ _ ⟨(by rw [l2, show k = n by omega]; rfl), rfl⟩)
      · skip
        rw [nI_leI (by omega) (by omega)] at c_13
        refine e_steps 2 (σ' := (18, [(0, .ref 0), (1, .int (nI b)), (2, .int (nI c)), (3, .int (nI cnt)), (4, .int (nI k))], [.ref 0, .int (nI cnt)], (MH g kept was isKept tape fed pos tlen flt ranking paper written pairs above below isDone dist rowv rowMany lsz itm weakAbove weakBelow))) rfl ?_
        refine e_call (y := 134) (av := [.ref 0]) (rest := [.int (nI cnt)]) rfl (c_X6_ins (d + 0) (n := n) (outs := outs) (bm := bm) (ms := ms) (dr := dr) (cn := cn) (pl := pl) (by first | assumption | omega | rfl | trivial)) (fun r_18 h_18 p_18 => ?_)
        obtain ⟨rfl, rfl⟩ := p_18
        refine e_steps 1 (σ' := (23, [(0, .ref 0), (1, .int (nI b)), (2, .int (nI c)), (3, .int (nI cnt)), (4, .int (nI k))], [.int (nI k), .int (nI (z_dif (2 ^ n - 1) outs)), .int (nI cnt)], (MH g kept was isKept tape fed pos tlen flt ranking paper written pairs above below isDone dist rowv rowMany lsz itm weakAbove weakBelow))) rfl ?_
        refine e_call (y := 131) (av := [.int (nI (z_dif (2 ^ n - 1) outs)), .int (nI k)]) (rest := [.int (nI cnt)]) rfl (c_X6_has (d + 1) (by first | assumption | omega | rfl | trivial) (by first | assumption | omega | rfl | trivial)) (fun r_23 h_23 p_23 => ?_)
        obtain ⟨rfl, o_23⟩ := p_23
        rcases o_23 with ⟨rfl, o_23⟩ | ⟨rfl, o_23⟩
        · skip
          refine e_steps 1 (σ' := (29, [(0, .ref 0), (1, .int (nI b)), (2, .int (nI c)), (3, .int (nI cnt)), (4, .int (nI k))], [.int (nI cnt)], (MH g kept was isKept tape fed pos tlen flt ranking paper written pairs above below isDone dist rowv rowMany lsz itm weakAbove weakBelow))) rfl ?_
          have hpk := (hpl b hb).2.1 k (by omega)
          refine e_steps 3 (σ' := (33, [(0, .ref 0), (1, .int (nI b)), (2, .int (nI c)), (3, .int (nI cnt)), (4, .int (nI k))], [.int (nI k), .int (nI b), .ref 0, .int (nI cnt)], (MH g kept was isKept tape fed pos tlen flt ranking paper written pairs above below isDone dist rowv rowMany lsz itm weakAbove weakBelow))) rfl ?_
          refine e_call (y := 139) (av := [.ref 0, .int (nI b), .int (nI k)]) (rest := [.int (nI cnt)]) rfl (c_X6_placeOf (d + 1) (n := n) (outs := outs) (bm := bm) (ms := ms) (dr := dr) (cn := cn) (pl := pl) (by first | assumption | omega | rfl | trivial) (by first | assumption | omega | rfl | trivial) (by first | assumption | omega | rfl | trivial)) (fun r_33 h_33 p_33 => ?_)
          obtain ⟨rfl, rfl⟩ := p_33
          refine e_steps 3 (σ' := (39, [(0, .ref 0), (1, .int (nI b)), (2, .int (nI c)), (3, .int (nI cnt)), (4, .int (nI k))], [.int (nI c), .int (nI b), .ref 0, .int (nI (pl b k)), .int (nI cnt)], (MH g kept was isKept tape fed pos tlen flt ranking paper written pairs above below isDone dist rowv rowMany lsz itm weakAbove weakBelow))) rfl ?_
          refine e_call (y := 139) (av := [.ref 0, .int (nI b), .int (nI c)]) (rest := [.int (nI (pl b k)), .int (nI cnt)]) rfl (c_X6_placeOf (d + 1) (n := n) (outs := outs) (bm := bm) (ms := ms) (dr := dr) (cn := cn) (pl := pl) (by first | assumption | omega | rfl | trivial) (by first | assumption | omega | rfl | trivial) (by first | assumption | omega | rfl | trivial)) (fun r_39 h_39 p_39 => ?_)
          obtain ⟨rfl, rfl⟩ := p_39
          refine e_steps 0 (σ' := (42, [(0, .ref 0), (1, .int (nI b)), (2, .int (nI c)), (3, .int (nI cnt)), (4, .int (nI k))], [.int (nI (pl b c)), .int (nI (pl b k)), .int (nI cnt)], (MH g kept was isKept tape fed pos tlen flt ranking paper written pairs above below isDone dist rowv rowMany lsz itm weakAbove weakBelow))) rfl ?_
          refine e_if (c := nI (pl b k) ≤ nI (pl b c)) rfl (fun c_42 => ?_) (fun c_42 => ?_)
          · skip
            rw [nI_leI (by omega) (by omega)] at c_42
            refine e_steps 1 (σ' := (50, [(0, .ref 0), (1, .int (nI b)), (2, .int (nI c)), (3, .int (nI cnt)), (4, .int (nI k))], [.int (nI 0), .int (nI cnt)], (MH g kept was isKept tape fed pos tlen flt ranking paper written pairs above below isDone dist rowv rowMany lsz itm weakAbove weakBelow))) rfl ?_
            refine e_add (cnt) rfl (by first | rfl | omega) ?_
            refine e_steps 1 (σ' := (52, [(3, .int (nI cnt)), (0, .ref 0), (1, .int (nI b)), (2, .int (nI c)), (4, .int (nI k))], [], (MH g kept was isKept tape fed pos tlen flt ranking paper written pairs above below isDone dist rowv rowMany lsz itm weakAbove weakBelow))) rfl ?_
            refine e_inc (n := 1) rfl rfl rfl (k + 1) (by rfl) [(4, .int (nI (k + 1))), (3, .int (nI cnt)), (0, .ref 0), (1, .int (nI b)), (2, .int (nI c))] rfl ?_
            refine e_steps 1 (σ' := (5, [(4, .int (nI (k + 1))), (3, .int (nI cnt)), (0, .ref 0), (1, .int (nI b)), (2, .int (nI c))], [], (MH g kept was isKept tape fed pos tlen flt ranking paper written pairs above below isDone dist rowv rowMany lsz itm weakAbove weakBelow))) rfl ?_
            refine e_sub [2, 3, 4, 1, 0] rfl ?_
            exact ih_5 cnt (k + 1) (by omega) (by first | exact ⟨by omega, by rw [z_ct_T (by rw [o_23]; exact decide_eq_true (by omega)), l2]⟩ | exact ⟨by omega, by rw [z_ct_F (by rw [o_23]; exact decide_eq_false (by omega)), l2]⟩ | exact ⟨by omega, by rw [z_ct_F (by rw [o_23]; rfl), l2]⟩)
          · skip
            rw [nI_leI (by omega) (by omega)] at c_42
            refine e_steps 2 (σ' := (50, [(0, .ref 0), (1, .int (nI b)), (2, .int (nI c)), (3, .int (nI cnt)), (4, .int (nI k))], [.int (nI 1), .int (nI cnt)], (MH g kept was isKept tape fed pos tlen flt ranking paper written pairs above below isDone dist rowv rowMany lsz itm weakAbove weakBelow))) rfl ?_
            refine e_add (cnt + 1) rfl (by first | rfl | omega) ?_
            refine e_steps 1 (σ' := (52, [(3, .int (nI (cnt + 1))), (0, .ref 0), (1, .int (nI b)), (2, .int (nI c)), (4, .int (nI k))], [], (MH g kept was isKept tape fed pos tlen flt ranking paper written pairs above below isDone dist rowv rowMany lsz itm weakAbove weakBelow))) rfl ?_
            refine e_inc (n := 1) rfl rfl rfl (k + 1) (by rfl) [(4, .int (nI (k + 1))), (3, .int (nI (cnt + 1))), (0, .ref 0), (1, .int (nI b)), (2, .int (nI c))] rfl ?_
            refine e_steps 1 (σ' := (5, [(4, .int (nI (k + 1))), (3, .int (nI (cnt + 1))), (0, .ref 0), (1, .int (nI b)), (2, .int (nI c))], [], (MH g kept was isKept tape fed pos tlen flt ranking paper written pairs above below isDone dist rowv rowMany lsz itm weakAbove weakBelow))) rfl ?_
            refine e_sub [2, 3, 4, 1, 0] rfl ?_
            exact ih_5 (cnt + 1) (k + 1) (by omega) (by first | exact ⟨by omega, by rw [z_ct_T (by rw [o_23]; exact decide_eq_true (by omega)), l2]⟩ | exact ⟨by omega, by rw [z_ct_F (by rw [o_23]; exact decide_eq_false (by omega)), l2]⟩ | exact ⟨by omega, by rw [z_ct_F (by rw [o_23]; rfl), l2]⟩)
        · skip
          refine e_steps 2 (σ' := (50, [(0, .ref 0), (1, .int (nI b)), (2, .int (nI c)), (3, .int (nI cnt)), (4, .int (nI k))], [.int (nI 0), .int (nI cnt)], (MH g kept was isKept tape fed pos tlen flt ranking paper written pairs above below isDone dist rowv rowMany lsz itm weakAbove weakBelow))) rfl ?_
          refine e_add (cnt) rfl (by first | rfl | omega) ?_
          refine e_steps 1 (σ' := (52, [(3, .int (nI cnt)), (0, .ref 0), (1, .int (nI b)), (2, .int (nI c)), (4, .int (nI k))], [], (MH g kept was isKept tape fed pos tlen flt ranking paper written pairs above below isDone dist rowv rowMany lsz itm weakAbove weakBelow))) rfl ?_
          refine e_inc (n := 1) rfl rfl rfl (k + 1) (by rfl) [(4, .int (nI (k + 1))), (3, .int (nI cnt)), (0, .ref 0), (1, .int (nI b)), (2, .int (nI c))] rfl ?_
          refine e_steps 1 (σ' := (5, [(4, .int (nI (k + 1))), (3, .int (nI cnt)), (0, .ref 0), (1, .int (nI b)), (2, .int (nI c))], [], (MH g kept was isKept tape fed pos tlen flt ranking paper written pairs above below isDone dist rowv rowMany lsz itm weakAbove weakBelow))) rfl ?_
          refine e_sub [2, 3, 4, 1, 0] rfl ?_
          exact ih_5 cnt (k + 1) (by omega) (by first | exact ⟨by omega, by rw [z_ct_T (by rw [o_23]; exact decide_eq_true (by omega)), l2]⟩ | exact ⟨by omega, by rw [z_ct_F (by rw [o_23]; exact decide_eq_false (by omega)), l2]⟩ | exact ⟨by omega, by rw [z_ct_F (by rw [o_23]; rfl), l2]⟩)
  refine e_sub [2, 3, 4, 1, 0] rfl ?_
  exact loop_5 _ 0 0 (Nat.lt_succ_self _) (by exact ⟨by omega, rfl⟩)
