/-! the reference: pairs, links, ways -/
theorem c_X6_counts (d : Nat) {g : Nat → Int32} {kept : Nat → Int32} {was : Nat → Int32} {isKept : Int32} {tape : Nat → Int32} {fed : Int32} {pos : Int32} {tlen : Int32} {flt : Int32} {ranking : Nat → Int32} {paper : Nat → Int32} {written : Int32} {pairs : Nat → Int64} {above : Nat → Int64} {below : Nat → Int64} {isDone : Nat → Int32} {dist : Nat → Int32} {rowv : Nat → Int32} {rowMany : Int32} {lsz : Nat → Int32} {itm : Nat → Int64} {weakAbove : Int64} {weakBelow : Int64} {place : Nat} {bby : Int32} {n : Nat} {outs : Nat} {bm : Nat} {ms : Nat} {dr : Nat → Nat} {cn : Nat → Nat} {pl : Nat → Nat → Nat} {q : Nat → Nat} (hG : z_GI g n outs bm ms dr cn pl) (hq : ∀ c, c < n → g (place + c) = nI (q c) ∧ q c < 256) (hp : place + 8 ≤ 372) : z_CAL (d + 1) 171 [.ref 0, .int (nI place), .int bby] (MH g kept was isKept tape fed pos tlen flt ranking paper written pairs above below isDone dist rowv rowMany lsz itm weakAbove weakBelow) (fun r h2 => ∃ (pairs2 : Nat → Int64), r = none ∧ h2 = (MH g kept was isKept tape fed pos tlen flt ranking paper written pairs2 above below isDone dist rowv rowMany lsz itm weakAbove weakBelow) ∧ (∀ x, x < 8 → ∀ y, y < 8 → pairs2 (8 * x + y) = if (x < n ∧ y < n ∧ q x < q y) then pairs (8 * x + y) + bby.toInt64 else pairs (8 * x + y))) := by
  refine e_of2 (q := zmX6_counts) rfl rfl (fun R hR => ?_)
  obtain ⟨⟨hn0, hn2, hn8⟩, ⟨ho0, ho8, hin⟩, ⟨hb0, hb40⟩, ⟨hm0, hm4⟩, ⟨hdr, hdl, hdc⟩, hcn, hpl⟩ := id hG; have hp8 := z_p2 hn8; have ho256 : outs < 256 := (by omega); have hi256 : z_dif (2 ^ n - 1) outs < 256 := (by have := z_dif_le (s := 2 ^ n - 1) (t := outs); omega)
  refine e_steps 2 (σ' := (2, [(3, .int (nI 0)), (0, .ref 0), (1, .int (nI place)), (2, .int bby)], [], (MH g kept was isKept tape fed pos tlen flt ranking paper written pairs above below isDone dist rowv rowMany lsz itm weakAbove weakBelow))) rfl ?_
  have loop_1 : ∀ (z_1 : Nat) (i : Nat) (pp : Nat → Int64), n - i < z_1 → (i ≤ n ∧ ∀ x, x < 8 → ∀ y, y < 8 → pp (8 * x + y) = if (x < i ∧ y < n ∧ q x < q y) then pairs (8 * x + y) + bby.toInt64 else pairs (8 * x + y)) → z_EV (d + 0) zmX6_counts R (2, [(0, .ref 0), (1, .int (nI place)), (2, .int bby), (3, .int (nI i))], [], (MH g kept was isKept tape fed pos tlen flt ranking paper written pp above below isDone dist rowv rowMany lsz itm weakAbove weakBelow)) := by
    intro z_1
    induction z_1 with
    | zero => intro i pp hm_1 _; exact absurd hm_1 (Nat.not_lt_zero _)
    | succ z_1 ih_1 =>
      intro i pp hm_1 hi_1
      obtain ⟨l1, l2⟩ := hi_1
      refine e_steps 4 (σ' := (8, [(0, .ref 0), (1, .int (nI place)), (2, .int bby), (3, .int (nI i))], [.int (nI 0), .ref 1, .int (nI i)], (MH g kept was isKept tape fed pos tlen flt ranking paper written pp above below isDone dist rowv rowMany lsz itm weakAbove weakBelow))) rfl ?_
      refine e_ial (nI n) rfl rfl (by first | assumption | omega | rfl | trivial) (by decide) (hn0) ?_
      refine e_steps 0 (σ' := (9, [(0, .ref 0), (1, .int (nI place)), (2, .int bby), (3, .int (nI i))], [.int (nI n), .int (nI i)], (MH g kept was isKept tape fed pos tlen flt ranking paper written pp above below isDone dist rowv rowMany lsz itm weakAbove weakBelow))) rfl ?_
      refine e_if (c := nI n ≤ nI i) rfl (fun c_2 => ?_) (fun c_2 => ?_)
      · skip
        rw [nI_leI (by omega) (by omega)] at c_2
        refine e_steps 0 (σ' := (75, [(0, .ref 0), (1, .int (nI place)), (2, .int bby), (3, .int (nI i))], [], (MH g kept was isKept tape fed pos tlen flt ranking paper written pp above below isDone dist rowv rowMany lsz itm weakAbove weakBelow))) rfl ?_
        exact e_ret rfl (trivial) (hR _ _ ⟨pp, rfl, rfl, (by exact fun x hx y hy => by rw [l2 x hx y hy]; exact z_ifc (by omega))⟩)
      · skip
        rw [nI_leI (by omega) (by omega)] at c_2
        refine e_steps 2 (σ' := (15, [(4, .int (nI 0)), (0, .ref 0), (1, .int (nI place)), (2, .int bby), (3, .int (nI i))], [], (MH g kept was isKept tape fed pos tlen flt ranking paper written pp above below isDone dist rowv rowMany lsz itm weakAbove weakBelow))) rfl ?_
        have loop_3 : ∀ (z_3 : Nat) (j : Nat) (pq : Nat → Int64), n - j < z_3 → (j ≤ n ∧ ∀ x, x < 8 → ∀ y, y < 8 → pq (8 * x + y) = if ((x < i ∧ y < n ∨ x = i ∧ y < j) ∧ q x < q y) then pairs (8 * x + y) + bby.toInt64 else pairs (8 * x + y)) → z_EV (d + 0) zmX6_counts R (15, [(0, .ref 0), (1, .int (nI place)), (2, .int bby), (3, .int (nI i)), (4, .int (nI j))], [], (MH g kept was isKept tape fed pos tlen flt ranking paper written pq above below isDone dist rowv rowMany lsz itm weakAbove weakBelow)) := by
          intro z_3
          induction z_3 with
          | zero => intro j pq hm_3 _; exact absurd hm_3 (Nat.not_lt_zero _)
          | succ z_3 ih_3 =>
            intro j pq hm_3 hi_3
            obtain ⟨m1, m2⟩ := hi_3
            refine e_steps 4 (σ' := (22, [(0, .ref 0), (1, .int (nI place)), (2, .int bby), (3, .int (nI i)), (4, .int (nI j))], [.int (nI 0), .ref 1, .int (nI j)], (MH g kept was isKept tape fed pos tlen flt ranking paper written pq above below isDone dist rowv rowMany lsz itm weakAbove weakBelow))) rfl ?_
            refine e_ial (nI n) rfl rfl (by first | assumption | omega | rfl | trivial) (by decide) (hn0) ?_
            refine e_steps 0 (σ' := (23, [(0, .ref 0), (1, .int (nI place)), (2, .int bby), (3, .int (nI i)), (4, .int (nI j))], [.int (nI n), .int (nI j)], (MH g kept was isKept tape fed pos tlen flt ranking paper written pq above below isDone dist rowv rowMany lsz itm weakAbove weakBelow))) rfl ?_
            refine e_if (c := nI n ≤ nI j) rfl (fun c_4 => ?_) (fun c_4 => ?_)
            · skip
              rw [nI_leI (by omega) (by omega)] at c_4
              refine e_steps 0 (σ' := (69, [(0, .ref 0), (1, .int (nI place)), (2, .int bby), (3, .int (nI i)), (4, .int (nI j))], [], (MH g kept was isKept tape fed pos tlen flt ranking paper written pq above below isDone dist rowv rowMany lsz itm weakAbove weakBelow))) rfl ?_
              refine e_inc (n := 1) rfl rfl rfl (i + 1) (by rfl) [(3, .int (nI (i + 1))), (0, .ref 0), (1, .int (nI place)), (2, .int bby), (4, .int (nI j))] rfl ?_
              refine e_steps 1 (σ' := (2, [(3, .int (nI (i + 1))), (0, .ref 0), (1, .int (nI place)), (2, .int bby), (4, .int (nI j))], [], (MH g kept was isKept tape fed pos tlen flt ranking paper written pq above below isDone dist rowv rowMany lsz itm weakAbove weakBelow))) rfl ?_
              refine e_sub [1, 2, 3, 0] rfl ?_
              exact ih_1 (i + 1) pq (by omega) (by exact ⟨by omega, fun x hx y hy => by rw [m2 x hx y hy]; exact z_ifc (by omega)⟩)
            · skip
              rw [nI_leI (by omega) (by omega)] at c_4
              refine e_steps 4 (σ' := (32, [(0, .ref 0), (1, .int (nI place)), (2, .int bby), (3, .int (nI i)), (4, .int (nI j))], [.int (nI i), .int (nI place), .ref 1], (MH g kept was isKept tape fed pos tlen flt ranking paper written pq above below isDone dist rowv rowMany lsz itm weakAbove weakBelow))) rfl ?_
              refine e_add (place + i) rfl (by first | rfl | omega) ?_
              refine e_steps 0 (σ' := (33, [(0, .ref 0), (1, .int (nI place)), (2, .int bby), (3, .int (nI i)), (4, .int (nI j))], [.int (nI (place + i)), .ref 1], (MH g kept was isKept tape fed pos tlen flt ranking paper written pq above below isDone dist rowv rowMany lsz itm weakAbove weakBelow))) rfl ?_
              refine e_ial (nI (q i)) rfl rfl (by first | assumption | omega | rfl | trivial) (by decide) ((hq _ (by omega)).1) ?_
              have hv_5 := (hq i (by omega)).2
              refine e_steps 4 (σ' := (41, [(0, .ref 0), (1, .int (nI place)), (2, .int bby), (3, .int (nI i)), (4, .int (nI j))], [.int (nI j), .int (nI place), .ref 1, .int (nI (q i))], (MH g kept was isKept tape fed pos tlen flt ranking paper written pq above below isDone dist rowv rowMany lsz itm weakAbove weakBelow))) rfl ?_
              refine e_add (place + j) rfl (by first | rfl | omega) ?_
              refine e_steps 0 (σ' := (42, [(0, .ref 0), (1, .int (nI place)), (2, .int bby), (3, .int (nI i)), (4, .int (nI j))], [.int (nI (place + j)), .ref 1, .int (nI (q i))], (MH g kept was isKept tape fed pos tlen flt ranking paper written pq above below isDone dist rowv rowMany lsz itm weakAbove weakBelow))) rfl ?_
              refine e_ial (nI (q j)) rfl rfl (by first | assumption | omega | rfl | trivial) (by decide) ((hq _ (by omega)).1) ?_
              have hv_6 := (hq j (by omega)).2
              refine e_steps 0 (σ' := (43, [(0, .ref 0), (1, .int (nI place)), (2, .int bby), (3, .int (nI i)), (4, .int (nI j))], [.int (nI (q j)), .int (nI (q i))], (MH g kept was isKept tape fed pos tlen flt ranking paper written pq above below isDone dist rowv rowMany lsz itm weakAbove weakBelow))) rfl ?_
              refine e_if (c := nI (q j) ≤ nI (q i)) rfl (fun c_7 => ?_) (fun c_7 => ?_)
              · skip
                rw [nI_leI (by omega) (by omega)] at c_7
                refine e_steps 0 (σ' := (63, [(0, .ref 0), (1, .int (nI place)), (2, .int bby), (3, .int (nI i)), (4, .int (nI j))], [], (MH g kept was isKept tape fed pos tlen flt ranking paper written pq above below isDone dist rowv rowMany lsz itm weakAbove weakBelow))) rfl ?_
                refine e_inc (n := 1) rfl rfl rfl (j + 1) (by rfl) [(4, .int (nI (j + 1))), (0, .ref 0), (1, .int (nI place)), (2, .int bby), (3, .int (nI i))] rfl ?_
                refine e_steps 1 (σ' := (15, [(4, .int (nI (j + 1))), (0, .ref 0), (1, .int (nI place)), (2, .int bby), (3, .int (nI i))], [], (MH g kept was isKept tape fed pos tlen flt ranking paper written pq above below isDone dist rowv rowMany lsz itm weakAbove weakBelow))) rfl ?_
                refine e_sub [1, 2, 3, 4, 0] rfl ?_
                exact ih_3 (j + 1) pq (by omega) (by first | exact ⟨by omega, z_cnt_no (by assumption) m2⟩ | exact ⟨by omega, z_cnt_yes (by omega) (by omega) (by omega) m2⟩)
              · skip
                rw [nI_leI (by omega) (by omega)] at c_7
                refine e_steps 4 (σ' := (53, [(0, .ref 0), (1, .int (nI place)), (2, .int bby), (3, .int (nI i)), (4, .int (nI j))], [.int (nI i), .int (nI 8), .ref 7], (MH g kept was isKept tape fed pos tlen flt ranking paper written pq above below isDone dist rowv rowMany lsz itm weakAbove weakBelow))) rfl ?_
                refine e_mul (8 * i) rfl (by first | rfl | omega | simp) ?_
                refine e_steps 1 (σ' := (56, [(0, .ref 0), (1, .int (nI place)), (2, .int bby), (3, .int (nI i)), (4, .int (nI j))], [.int (nI j), .int (nI (8 * i)), .ref 7], (MH g kept was isKept tape fed pos tlen flt ranking paper written pq above below isDone dist rowv rowMany lsz itm weakAbove weakBelow))) rfl ?_
                refine e_add (8 * i + j) rfl (by first | rfl | omega) ?_
                refine e_steps 1 (σ' := (58, [(0, .ref 0), (1, .int (nI place)), (2, .int bby), (3, .int (nI i)), (4, .int (nI j))], [.int (nI (8 * i + j)), .ref 7, .int (nI (8 * i + j)), .ref 7], (MH g kept was isKept tape fed pos tlen flt ranking paper written pq above below isDone dist rowv rowMany lsz itm weakAbove weakBelow))) rfl ?_
                refine e_lal (pq (8 * i + j)) rfl rfl (by first | assumption | omega | rfl | trivial) (by decide) (rfl) ?_
                refine e_steps 3 (σ' := (62, [(0, .ref 0), (1, .int (nI place)), (2, .int bby), (3, .int (nI i)), (4, .int (nI j))], [.long ((((pq (8 * i + j))) + bby.toInt64)), .int (nI (8 * i + j)), .ref 7], (MH g kept was isKept tape fed pos tlen flt ranking paper written pq above below isDone dist rowv rowMany lsz itm weakAbove weakBelow))) rfl ?_
                refine e_las (MH g kept was isKept tape fed pos tlen flt ranking paper written (vp_updL pq (8 * i + j) ((((pq (8 * i + j))) + bby.toInt64))) above below isDone dist rowv rowMany lsz itm weakAbove weakBelow) rfl rfl (by first | assumption | omega | rfl | trivial) (by decide) rfl ?_
                refine e_steps 0 (σ' := (63, [(0, .ref 0), (1, .int (nI place)), (2, .int bby), (3, .int (nI i)), (4, .int (nI j))], [], (MH g kept was isKept tape fed pos tlen flt ranking paper written (vp_updL pq (8 * i + j) ((((pq (8 * i + j))) + bby.toInt64))) above below isDone dist rowv rowMany lsz itm weakAbove weakBelow))) rfl ?_
                refine e_inc (n := 1) rfl rfl rfl (j + 1) (by rfl) [(4, .int (nI (j + 1))), (0, .ref 0), (1, .int (nI place)), (2, .int bby), (3, .int (nI i))] rfl ?_
                refine e_steps 1 (σ' := (15, [(4, .int (nI (j + 1))), (0, .ref 0), (1, .int (nI place)), (2, .int bby), (3, .int (nI i))], [], (MH g kept was isKept tape fed pos tlen flt ranking paper written (vp_updL pq (8 * i + j) ((((pq (8 * i + j))) + bby.toInt64))) above below isDone dist rowv rowMany lsz itm weakAbove weakBelow))) rfl ?_
                refine e_sub [1, 2, 3, 4, 0] rfl ?_
                exact ih_3 (j + 1) (vp_updL pq (8 * i + j) ((((pq (8 * i + j))) + bby.toInt64))) (by omega) (by first | exact ⟨by omega, z_cnt_no (by assumption) m2⟩ | exact ⟨by omega, z_cnt_yes (by omega) (by omega) (by omega) m2⟩)
        refine e_sub [1, 2, 3, 4, 0] rfl ?_
        exact loop_3 _ 0 pp (Nat.lt_succ_self _) (by exact ⟨by omega, fun x hx y hy => by rw [l2 x hx y hy]; exact z_ifc (by omega)⟩)
  refine e_sub [1, 2, 3, 0] rfl ?_
  exact loop_1 _ 0 pairs (Nat.lt_succ_self _) (by exact ⟨by omega, fun x _ y _ => by rw [if_neg (by omega)]⟩)
theorem c_X6_countsRanking (d : Nat) {g : Nat → Int32} {kept : Nat → Int32} {was : Nat → Int32} {isKept : Int32} {tape : Nat → Int32} {fed : Int32} {pos : Int32} {tlen : Int32} {flt : Int32} {ranking : Nat → Int32} {paper : Nat → Int32} {written : Int32} {pairs : Nat → Int64} {above : Nat → Int64} {below : Nat → Int64} {isDone : Nat → Int32} {dist : Nat → Int32} {rowv : Nat → Int32} {rowMany : Int32} {lsz : Nat → Int32} {itm : Nat → Int64} {weakAbove : Int64} {weakBelow : Int64} {bby : Int32} {n : Nat} {outs : Nat} {bm : Nat} {ms : Nat} {dr : Nat → Nat} {cn : Nat → Nat} {pl : Nat → Nat → Nat} {q : Nat → Nat} (hG : z_GI g n outs bm ms dr cn pl) (hq : ∀ c, c < n → ranking c = nI (q c) ∧ q c < 256) : z_CAL (d + 1) 173 [.ref 0, .int bby] (MH g kept was isKept tape fed pos tlen flt ranking paper written pairs above below isDone dist rowv rowMany lsz itm weakAbove weakBelow) (fun r h2 => ∃ (pairs2 : Nat → Int64), r = none ∧ h2 = (MH g kept was isKept tape fed pos tlen flt ranking paper written pairs2 above below isDone dist rowv rowMany lsz itm weakAbove weakBelow) ∧ (∀ x, x < 8 → ∀ y, y < 8 → pairs2 (8 * x + y) = if (x < n ∧ y < n ∧ q x < q y) then pairs (8 * x + y) + bby.toInt64 else pairs (8 * x + y))) := by
  refine e_of2 (q := zmX6_countsRanking) rfl rfl (fun R hR => ?_)
  obtain ⟨⟨hn0, hn2, hn8⟩, ⟨ho0, ho8, hin⟩, ⟨hb0, hb40⟩, ⟨hm0, hm4⟩, ⟨hdr, hdl, hdc⟩, hcn, hpl⟩ := id hG; have hp8 := z_p2 hn8; have ho256 : outs < 256 := (by omega); have hi256 : z_dif (2 ^ n - 1) outs < 256 := (by have := z_dif_le (s := 2 ^ n - 1) (t := outs); omega)
  refine e_steps 2 (σ' := (2, [(2, .int (nI 0)), (0, .ref 0), (1, .int bby)], [], (MH g kept was isKept tape fed pos tlen flt ranking paper written pairs above below isDone dist rowv rowMany lsz itm weakAbove weakBelow))) rfl ?_
  have loop_1 : ∀ (z_1 : Nat) (i : Nat) (pp : Nat → Int64), n - i < z_1 → (i ≤ n ∧ ∀ x, x < 8 → ∀ y, y < 8 → pp (8 * x + y) = if (x < i ∧ y < n ∧ q x < q y) then pairs (8 * x + y) + bby.toInt64 else pairs (8 * x + y)) → z_EV (d + 0) zmX6_countsRanking R (2, [(0, .ref 0), (1, .int bby), (2, .int (nI i))], [], (MH g kept was isKept tape fed pos tlen flt ranking paper written pp above below isDone dist rowv rowMany lsz itm weakAbove weakBelow)) := by
    intro z_1
    induction z_1 with
    | zero => intro i pp hm_1 _; exact absurd hm_1 (Nat.not_lt_zero _)
    | succ z_1 ih_1 =>
      intro i pp hm_1 hi_1
      obtain ⟨l1, l2⟩ := hi_1
      refine e_steps 4 (σ' := (8, [(0, .ref 0), (1, .int bby), (2, .int (nI i))], [.int (nI 0), .ref 1, .int (nI i)], (MH g kept was isKept tape fed pos tlen flt ranking paper written pp above below isDone dist rowv rowMany lsz itm weakAbove weakBelow))) rfl ?_
      refine e_ial (nI n) rfl rfl (by first | assumption | omega | rfl | trivial) (by decide) (hn0) ?_
      refine e_steps 0 (σ' := (9, [(0, .ref 0), (1, .int bby), (2, .int (nI i))], [.int (nI n), .int (nI i)], (MH g kept was isKept tape fed pos tlen flt ranking paper written pp above below isDone dist rowv rowMany lsz itm weakAbove weakBelow))) rfl ?_
      refine e_if (c := nI n ≤ nI i) rfl (fun c_2 => ?_) (fun c_2 => ?_)
      · skip
        rw [nI_leI (by omega) (by omega)] at c_2
        refine e_steps 0 (σ' := (67, [(0, .ref 0), (1, .int bby), (2, .int (nI i))], [], (MH g kept was isKept tape fed pos tlen flt ranking paper written pp above below isDone dist rowv rowMany lsz itm weakAbove weakBelow))) rfl ?_
        exact e_ret rfl (trivial) (hR _ _ ⟨pp, rfl, rfl, (by exact fun x hx y hy => by rw [l2 x hx y hy]; exact z_ifc (by omega))⟩)
      · skip
        rw [nI_leI (by omega) (by omega)] at c_2
        refine e_steps 2 (σ' := (14, [(3, .int (nI 0)), (0, .ref 0), (1, .int bby), (2, .int (nI i))], [], (MH g kept was isKept tape fed pos tlen flt ranking paper written pp above below isDone dist rowv rowMany lsz itm weakAbove weakBelow))) rfl ?_
        have loop_3 : ∀ (z_3 : Nat) (j : Nat) (pq : Nat → Int64), n - j < z_3 → (j ≤ n ∧ ∀ x, x < 8 → ∀ y, y < 8 → pq (8 * x + y) = if ((x < i ∧ y < n ∨ x = i ∧ y < j) ∧ q x < q y) then pairs (8 * x + y) + bby.toInt64 else pairs (8 * x + y)) → z_EV (d + 0) zmX6_countsRanking R (14, [(0, .ref 0), (1, .int bby), (2, .int (nI i)), (3, .int (nI j))], [], (MH g kept was isKept tape fed pos tlen flt ranking paper written pq above below isDone dist rowv rowMany lsz itm weakAbove weakBelow)) := by
          intro z_3
          induction z_3 with
          | zero => intro j pq hm_3 _; exact absurd hm_3 (Nat.not_lt_zero _)
          | succ z_3 ih_3 =>
            intro j pq hm_3 hi_3
            obtain ⟨m1, m2⟩ := hi_3
            refine e_steps 4 (σ' := (20, [(0, .ref 0), (1, .int bby), (2, .int (nI i)), (3, .int (nI j))], [.int (nI 0), .ref 1, .int (nI j)], (MH g kept was isKept tape fed pos tlen flt ranking paper written pq above below isDone dist rowv rowMany lsz itm weakAbove weakBelow))) rfl ?_
            refine e_ial (nI n) rfl rfl (by first | assumption | omega | rfl | trivial) (by decide) (hn0) ?_
            refine e_steps 0 (σ' := (21, [(0, .ref 0), (1, .int bby), (2, .int (nI i)), (3, .int (nI j))], [.int (nI n), .int (nI j)], (MH g kept was isKept tape fed pos tlen flt ranking paper written pq above below isDone dist rowv rowMany lsz itm weakAbove weakBelow))) rfl ?_
            refine e_if (c := nI n ≤ nI j) rfl (fun c_4 => ?_) (fun c_4 => ?_)
            · skip
              rw [nI_leI (by omega) (by omega)] at c_4
              refine e_steps 0 (σ' := (61, [(0, .ref 0), (1, .int bby), (2, .int (nI i)), (3, .int (nI j))], [], (MH g kept was isKept tape fed pos tlen flt ranking paper written pq above below isDone dist rowv rowMany lsz itm weakAbove weakBelow))) rfl ?_
              refine e_inc (n := 1) rfl rfl rfl (i + 1) (by rfl) [(2, .int (nI (i + 1))), (0, .ref 0), (1, .int bby), (3, .int (nI j))] rfl ?_
              refine e_steps 1 (σ' := (2, [(2, .int (nI (i + 1))), (0, .ref 0), (1, .int bby), (3, .int (nI j))], [], (MH g kept was isKept tape fed pos tlen flt ranking paper written pq above below isDone dist rowv rowMany lsz itm weakAbove weakBelow))) rfl ?_
              refine e_sub [1, 2, 0] rfl ?_
              exact ih_1 (i + 1) pq (by omega) (by exact ⟨by omega, fun x hx y hy => by rw [m2 x hx y hy]; exact z_ifc (by omega)⟩)
            · skip
              rw [nI_leI (by omega) (by omega)] at c_4
              refine e_steps 3 (σ' := (29, [(0, .ref 0), (1, .int bby), (2, .int (nI i)), (3, .int (nI j))], [.int (nI i), .ref 5], (MH g kept was isKept tape fed pos tlen flt ranking paper written pq above below isDone dist rowv rowMany lsz itm weakAbove weakBelow))) rfl ?_
              refine e_ial (nI (q i)) rfl rfl (by first | assumption | omega | rfl | trivial) (by decide) ((hq _ (by omega)).1) ?_
              have hv_5 := (hq i (by omega)).2
              refine e_steps 3 (σ' := (35, [(0, .ref 0), (1, .int bby), (2, .int (nI i)), (3, .int (nI j))], [.int (nI j), .ref 5, .int (nI (q i))], (MH g kept was isKept tape fed pos tlen flt ranking paper written pq above below isDone dist rowv rowMany lsz itm weakAbove weakBelow))) rfl ?_
              refine e_ial (nI (q j)) rfl rfl (by first | assumption | omega | rfl | trivial) (by decide) ((hq _ (by omega)).1) ?_
              have hv_6 := (hq j (by omega)).2
              refine e_steps 0 (σ' := (36, [(0, .ref 0), (1, .int bby), (2, .int (nI i)), (3, .int (nI j))], [.int (nI (q j)), .int (nI (q i))], (MH g kept was isKept tape fed pos tlen flt ranking paper written pq above below isDone dist rowv rowMany lsz itm weakAbove weakBelow))) rfl ?_
              refine e_if (c := nI (q j) ≤ nI (q i)) rfl (fun c_7 => ?_) (fun c_7 => ?_)
              · skip
                rw [nI_leI (by omega) (by omega)] at c_7
                refine e_steps 0 (σ' := (55, [(0, .ref 0), (1, .int bby), (2, .int (nI i)), (3, .int (nI j))], [], (MH g kept was isKept tape fed pos tlen flt ranking paper written pq above below isDone dist rowv rowMany lsz itm weakAbove weakBelow))) rfl ?_
                refine e_inc (n := 1) rfl rfl rfl (j + 1) (by rfl) [(3, .int (nI (j + 1))), (0, .ref 0), (1, .int bby), (2, .int (nI i))] rfl ?_
                refine e_steps 1 (σ' := (14, [(3, .int (nI (j + 1))), (0, .ref 0), (1, .int bby), (2, .int (nI i))], [], (MH g kept was isKept tape fed pos tlen flt ranking paper written pq above below isDone dist rowv rowMany lsz itm weakAbove weakBelow))) rfl ?_
                refine e_sub [1, 2, 3, 0] rfl ?_
                exact ih_3 (j + 1) pq (by omega) (by first | exact ⟨by omega, z_cnt_no (by assumption) m2⟩ | exact ⟨by omega, z_cnt_yes (by omega) (by omega) (by omega) m2⟩)
              · skip
                rw [nI_leI (by omega) (by omega)] at c_7
                refine e_steps 4 (σ' := (46, [(0, .ref 0), (1, .int bby), (2, .int (nI i)), (3, .int (nI j))], [.int (nI i), .int (nI 8), .ref 7], (MH g kept was isKept tape fed pos tlen flt ranking paper written pq above below isDone dist rowv rowMany lsz itm weakAbove weakBelow))) rfl ?_
                refine e_mul (8 * i) rfl (by first | rfl | omega | simp) ?_
                refine e_steps 1 (σ' := (48, [(0, .ref 0), (1, .int bby), (2, .int (nI i)), (3, .int (nI j))], [.int (nI j), .int (nI (8 * i)), .ref 7], (MH g kept was isKept tape fed pos tlen flt ranking paper written pq above below isDone dist rowv rowMany lsz itm weakAbove weakBelow))) rfl ?_
                refine e_add (8 * i + j) rfl (by first | rfl | omega) ?_
                refine e_steps 1 (σ' := (50, [(0, .ref 0), (1, .int bby), (2, .int (nI i)), (3, .int (nI j))], [.int (nI (8 * i + j)), .ref 7, .int (nI (8 * i + j)), .ref 7], (MH g kept was isKept tape fed pos tlen flt ranking paper written pq above below isDone dist rowv rowMany lsz itm weakAbove weakBelow))) rfl ?_
                refine e_lal (pq (8 * i + j)) rfl rfl (by first | assumption | omega | rfl | trivial) (by decide) (rfl) ?_
                refine e_steps 3 (σ' := (54, [(0, .ref 0), (1, .int bby), (2, .int (nI i)), (3, .int (nI j))], [.long ((((pq (8 * i + j))) + bby.toInt64)), .int (nI (8 * i + j)), .ref 7], (MH g kept was isKept tape fed pos tlen flt ranking paper written pq above below isDone dist rowv rowMany lsz itm weakAbove weakBelow))) rfl ?_
                refine e_las (MH g kept was isKept tape fed pos tlen flt ranking paper written (vp_updL pq (8 * i + j) ((((pq (8 * i + j))) + bby.toInt64))) above below isDone dist rowv rowMany lsz itm weakAbove weakBelow) rfl rfl (by first | assumption | omega | rfl | trivial) (by decide) rfl ?_
                refine e_steps 0 (σ' := (55, [(0, .ref 0), (1, .int bby), (2, .int (nI i)), (3, .int (nI j))], [], (MH g kept was isKept tape fed pos tlen flt ranking paper written (vp_updL pq (8 * i + j) ((((pq (8 * i + j))) + bby.toInt64))) above below isDone dist rowv rowMany lsz itm weakAbove weakBelow))) rfl ?_
                refine e_inc (n := 1) rfl rfl rfl (j + 1) (by rfl) [(3, .int (nI (j + 1))), (0, .ref 0), (1, .int bby), (2, .int (nI i))] rfl ?_
                refine e_steps 1 (σ' := (14, [(3, .int (nI (j + 1))), (0, .ref 0), (1, .int bby), (2, .int (nI i))], [], (MH g kept was isKept tape fed pos tlen flt ranking paper written (vp_updL pq (8 * i + j) ((((pq (8 * i + j))) + bby.toInt64))) above below isDone dist rowv rowMany lsz itm weakAbove weakBelow))) rfl ?_
                refine e_sub [1, 2, 3, 0] rfl ?_
                exact ih_3 (j + 1) (vp_updL pq (8 * i + j) ((((pq (8 * i + j))) + bby.toInt64))) (by omega) (by first | exact ⟨by omega, z_cnt_no (by assumption) m2⟩ | exact ⟨by omega, z_cnt_yes (by omega) (by omega) (by omega) m2⟩)
        refine e_sub [1, 2, 3, 0] rfl ?_
        exact loop_3 _ 0 pp (Nat.lt_succ_self _) (by exact ⟨by omega, fun x hx y hy => by rw [l2 x hx y hy]; exact z_ifc (by omega)⟩)
  refine e_sub [1, 2, 0] rfl ?_
  exact loop_1 _ 0 pairs (Nat.lt_succ_self _) (by exact ⟨by omega, fun x _ y _ => by rw [if_neg (by omega)]⟩)
theorem c_X6_countsAll (d : Nat) {g : Nat → Int32} {kept : Nat → Int32} {was : Nat → Int32} {isKept : Int32} {tape : Nat → Int32} {fed : Int32} {pos : Int32} {tlen : Int32} {flt : Int32} {ranking : Nat → Int32} {paper : Nat → Int32} {written : Int32} {pairs : Nat → Int64} {above : Nat → Int64} {below : Nat → Int64} {isDone : Nat → Int32} {dist : Nat → Int32} {rowv : Nat → Int32} {rowMany : Int32} {lsz : Nat → Int32} {itm : Nat → Int64} {weakAbove : Int64} {weakBelow : Int64} {n : Nat} {outs : Nat} {bm : Nat} {ms : Nat} {dr : Nat → Nat} {cn : Nat → Nat} {pl : Nat → Nat → Nat} (hG : z_GI g n outs bm ms dr cn pl) : z_CAL (d + 2) 172 [.ref 0] (MH g kept was isKept tape fed pos tlen flt ranking paper written pairs above below isDone dist rowv rowMany lsz itm weakAbove weakBelow) (fun r h2 => ∃ (pairs2 : Nat → Int64), r = none ∧ h2 = (MH g kept was isKept tape fed pos tlen flt ranking paper written pairs2 above below isDone dist rowv rowMany lsz itm weakAbove weakBelow) ∧ (z_PR pairs2 n (z_for bm cn pl))) := by
  refine e_of2 (q := zmX6_countsAll) rfl rfl (fun R hR => ?_)
  obtain ⟨⟨hn0, hn2, hn8⟩, ⟨ho0, ho8, hin⟩, ⟨hb0, hb40⟩, ⟨hm0, hm4⟩, ⟨hdr, hdl, hdc⟩, hcn, hpl⟩ := id hG; have hp8 := z_p2 hn8; have ho256 : outs < 256 := (by omega); have hi256 : z_dif (2 ^ n - 1) outs < 256 := (by have := z_dif_le (s := 2 ^ n - 1) (t := outs); omega)
  refine e_steps 2 (σ' := (2, [(1, .int (nI 0)), (0, .ref 0)], [], (MH g kept was isKept tape fed pos tlen flt ranking paper written pairs above below isDone dist rowv rowMany lsz itm weakAbove weakBelow))) rfl ?_
  have loop_1 : ∀ (z_1 : Nat) (k : Nat) (p0 : Nat → Int64), 64 - k < z_1 → (k ≤ 64 ∧ ∀ i, i < k → p0 i = lN 0) → z_EV (d + 1) zmX6_countsAll R (2, [(0, .ref 0), (1, .int (nI k))], [], (MH g kept was isKept tape fed pos tlen flt ranking paper written p0 above below isDone dist rowv rowMany lsz itm weakAbove weakBelow)) := by
    intro z_1
    induction z_1 with
    | zero => intro k p0 hm_1 _; exact absurd hm_1 (Nat.not_lt_zero _)
    | succ z_1 ih_1 =>
      intro k p0 hm_1 hi_1
      obtain ⟨l1, l2⟩ := hi_1
      refine e_steps 2 (σ' := (5, [(0, .ref 0), (1, .int (nI k))], [.int (nI 64), .int (nI k)], (MH g kept was isKept tape fed pos tlen flt ranking paper written p0 above below isDone dist rowv rowMany lsz itm weakAbove weakBelow))) rfl ?_
      refine e_if (c := nI 64 ≤ nI k) rfl (fun c_2 => ?_) (fun c_2 => ?_)
      · skip
        rw [nI_leI (by omega) (by omega)] at c_2
        refine e_steps 2 (σ' := (23, [(1, .int (nI 0)), (0, .ref 0)], [], (MH g kept was isKept tape fed pos tlen flt ranking paper written p0 above below isDone dist rowv rowMany lsz itm weakAbove weakBelow))) rfl ?_
        have loop_3 : ∀ (z_3 : Nat) (b : Nat) (pp : Nat → Int64), bm - b < z_3 → (b ≤ bm ∧ ∀ x, x < 8 → ∀ y, y < 8 → pp (8 * x + y) = lN (if x < n ∧ y < n then z_for b cn pl x y else 0)) → z_EV (d + 1) zmX6_countsAll R (23, [(0, .ref 0), (1, .int (nI b))], [], (MH g kept was isKept tape fed pos tlen flt ranking paper written pp above below isDone dist rowv rowMany lsz itm weakAbove weakBelow)) := by
          intro z_3
          induction z_3 with
          | zero => intro b pp hm_3 _; exact absurd hm_3 (Nat.not_lt_zero _)
          | succ z_3 ih_3 =>
            intro b pp hm_3 hi_3
            obtain ⟨m1, m2⟩ := hi_3
            refine e_steps 4 (σ' := (29, [(0, .ref 0), (1, .int (nI b))], [.int (nI 2), .ref 1, .int (nI b)], (MH g kept was isKept tape fed pos tlen flt ranking paper written pp above below isDone dist rowv rowMany lsz itm weakAbove weakBelow))) rfl ?_
            refine e_ial (nI bm) rfl rfl (by first | assumption | omega | rfl | trivial) (by decide) (hb0) ?_
            refine e_steps 0 (σ' := (30, [(0, .ref 0), (1, .int (nI b))], [.int (nI bm), .int (nI b)], (MH g kept was isKept tape fed pos tlen flt ranking paper written pp above below isDone dist rowv rowMany lsz itm weakAbove weakBelow))) rfl ?_
            refine e_if (c := nI bm ≤ nI b) rfl (fun c_4 => ?_) (fun c_4 => ?_)
            · skip
              rw [nI_leI (by omega) (by omega)] at c_4
              refine e_steps 0 (σ' := (59, [(0, .ref 0), (1, .int (nI b))], [], (MH g kept was isKept tape fed pos tlen flt ranking paper written pp above below isDone dist rowv rowMany lsz itm weakAbove weakBelow))) rfl ?_
              exact e_ret rfl (trivial) (hR _ _ ⟨pp, rfl, rfl, (by (have e : b = bm := (by omega)); subst e; exact fun x hx y hy => ⟨by rw [m2 x (by omega) y (by omega), if_pos ⟨hx, hy⟩], by have := z_for_le (cn := cn) (pl := pl) (i := x) (j := y) (b := b) (fun z hz => (hcn z hz).2.2); omega⟩)⟩)
            · skip
              rw [nI_leI (by omega) (by omega)] at c_4
              refine e_steps 4 (σ' := (39, [(0, .ref 0), (1, .int (nI b))], [.int (nI b), .int (nI 8), .int (nI 52), .ref 0], (MH g kept was isKept tape fed pos tlen flt ranking paper written pp above below isDone dist rowv rowMany lsz itm weakAbove weakBelow))) rfl ?_
              refine e_mul (8 * b) rfl (by first | rfl | omega | simp) ?_
              refine e_steps 0 (σ' := (40, [(0, .ref 0), (1, .int (nI b))], [.int (nI (8 * b)), .int (nI 52), .ref 0], (MH g kept was isKept tape fed pos tlen flt ranking paper written pp above below isDone dist rowv rowMany lsz itm weakAbove weakBelow))) rfl ?_
              refine e_add (52 + 8 * b) rfl (by first | rfl | omega) ?_
              refine e_steps 4 (σ' := (48, [(0, .ref 0), (1, .int (nI b))], [.int (nI b), .int (nI 12), .ref 1, .int (nI (52 + 8 * b)), .ref 0], (MH g kept was isKept tape fed pos tlen flt ranking paper written pp above below isDone dist rowv rowMany lsz itm weakAbove weakBelow))) rfl ?_
              refine e_add (12 + b) rfl (by first | rfl | omega) ?_
              refine e_steps 0 (σ' := (49, [(0, .ref 0), (1, .int (nI b))], [.int (nI (12 + b)), .ref 1, .int (nI (52 + 8 * b)), .ref 0], (MH g kept was isKept tape fed pos tlen flt ranking paper written pp above below isDone dist rowv rowMany lsz itm weakAbove weakBelow))) rfl ?_
              refine e_ial (nI (cn b)) rfl rfl (by first | assumption | omega | rfl | trivial) (by decide) ((hcn _ (by omega)).1) ?_
              have hv_5 := (hcn b (by omega)).2
              refine e_steps 0 (σ' := (50, [(0, .ref 0), (1, .int (nI b))], [.int (nI (cn b)), .int (nI (52 + 8 * b)), .ref 0], (MH g kept was isKept tape fed pos tlen flt ranking paper written pp above below isDone dist rowv rowMany lsz itm weakAbove weakBelow))) rfl ?_
              refine e_call (y := 171) (av := [.ref 0, .int (nI (52 + 8 * b)), .int (nI (cn b))]) (rest := []) rfl (c_X6_counts (d + 0) (n := n) (outs := outs) (bm := bm) (ms := ms) (dr := dr) (cn := cn) (pl := pl) (q := (pl b)) (by first | assumption | omega | rfl | trivial) (by exact fun c hc => ⟨(hpl b (by omega)).1 c hc, by have := (hpl b (by omega)).2.1 c hc; omega⟩) (by first | assumption | omega | rfl | trivial)) (fun r_6 h_6 p_6 => ?_)
              obtain ⟨pairs_6, rfl, rfl, q_6⟩ := p_6
              refine e_steps 0 (σ' := (53, [(0, .ref 0), (1, .int (nI b))], [], (MH g kept was isKept tape fed pos tlen flt ranking paper written pairs_6 above below isDone dist rowv rowMany lsz itm weakAbove weakBelow))) rfl ?_
              refine e_inc (n := 1) rfl rfl rfl (b + 1) (by rfl) [(1, .int (nI (b + 1))), (0, .ref 0)] rfl ?_
              refine e_steps 1 (σ' := (23, [(1, .int (nI (b + 1))), (0, .ref 0)], [], (MH g kept was isKept tape fed pos tlen flt ranking paper written pairs_6 above below isDone dist rowv rowMany lsz itm weakAbove weakBelow))) rfl ?_
              refine e_sub [1, 0] rfl ?_
              exact ih_3 (b + 1) pairs_6 (by omega) (by exact ⟨by omega, fun x hx y hy => by rw [q_6 x hx y hy, m2 x hx y hy, nI_l (by omega)]; exact z_for_step⟩)
        refine e_sub [1, 0] rfl ?_
        exact loop_3 _ 0 p0 (Nat.lt_succ_self _) (by exact ⟨by omega, fun x hx y hy => by rw [l2 _ (by omega)]; split <;> rfl⟩)
      · skip
        rw [nI_leI (by omega) (by omega)] at c_2
        refine e_steps 4 (σ' := (14, [(0, .ref 0), (1, .int (nI k))], [.long (lN 0), .int (nI k), .ref 7], (MH g kept was isKept tape fed pos tlen flt ranking paper written p0 above below isDone dist rowv rowMany lsz itm weakAbove weakBelow))) rfl ?_
        refine e_las (MH g kept was isKept tape fed pos tlen flt ranking paper written (vp_updL p0 k (lN 0)) above below isDone dist rowv rowMany lsz itm weakAbove weakBelow) rfl rfl (by first | assumption | omega | rfl | trivial) (by decide) rfl ?_
        refine e_steps 0 (σ' := (15, [(0, .ref 0), (1, .int (nI k))], [], (MH g kept was isKept tape fed pos tlen flt ranking paper written (vp_updL p0 k (lN 0)) above below isDone dist rowv rowMany lsz itm weakAbove weakBelow))) rfl ?_
        refine e_inc (n := 1) rfl rfl rfl (k + 1) (by rfl) [(1, .int (nI (k + 1))), (0, .ref 0)] rfl ?_
        refine e_steps 1 (σ' := (2, [(1, .int (nI (k + 1))), (0, .ref 0)], [], (MH g kept was isKept tape fed pos tlen flt ranking paper written (vp_updL p0 k (lN 0)) above below isDone dist rowv rowMany lsz itm weakAbove weakBelow))) rfl ?_
        refine e_sub [1, 0] rfl ?_
        exact ih_1 (k + 1) (vp_updL p0 k (lN 0)) (by omega) (by exact ⟨by omega, fun i hi => by unfold vp_updL; split; rfl; exact l2 i (by omega)⟩)
  refine e_sub [1, 0] rfl ?_
  exact loop_1 _ 0 pairs (Nat.lt_succ_self _) (by exact ⟨by omega, fun i hi => absurd hi (Nat.not_lt_zero i)⟩)
theorem c_X6_over (d : Nat) {g : Nat → Int32} {kept : Nat → Int32} {was : Nat → Int32} {isKept : Int32} {tape : Nat → Int32} {fed : Int32} {pos : Int32} {tlen : Int32} {flt : Int32} {ranking : Nat → Int32} {paper : Nat → Int32} {written : Int32} {pairs : Nat → Int64} {above : Nat → Int64} {below : Nat → Int64} {isDone : Nat → Int32} {dist : Nat → Int32} {rowv : Nat → Int32} {rowMany : Int32} {lsz : Nat → Int32} {itm : Nat → Int64} {weakAbove : Int64} {weakBelow : Int64} {i : Nat} {j : Nat} {n : Nat} {outs : Nat} {bm : Nat} {ms : Nat} {dr : Nat → Nat} {cn : Nat → Nat} {pl : Nat → Nat → Nat} {F : Nat → Nat → Nat} (hG : z_GI g n outs bm ms dr cn pl) (hP : z_PR pairs n F) (hi : i < n) (hj : j < n) : z_CAL (d + 1) 174 [.ref 0, .int (nI i), .int (nI j)] (MH g kept was isKept tape fed pos tlen flt ranking paper written pairs above below isDone dist rowv rowMany lsz itm weakAbove weakBelow) (fun r h2 => r = some (.long (lN (F i j))) ∧ h2 = (MH g kept was isKept tape fed pos tlen flt ranking paper written pairs above below isDone dist rowv rowMany lsz itm weakAbove weakBelow)) := by
  refine e_of2 (q := zmX6_over) rfl rfl (fun R hR => ?_)
  obtain ⟨⟨hn0, hn2, hn8⟩, ⟨ho0, ho8, hin⟩, ⟨hb0, hb40⟩, ⟨hm0, hm4⟩, ⟨hdr, hdl, hdc⟩, hcn, hpl⟩ := id hG; have hp8 := z_p2 hn8; have ho256 : outs < 256 := (by omega); have hi256 : z_dif (2 ^ n - 1) outs < 256 := (by have := z_dif_le (s := 2 ^ n - 1) (t := outs); omega)
  refine e_steps 4 (σ' := (7, [(0, .ref 0), (1, .int (nI i)), (2, .int (nI j))], [.int (nI i), .int (nI 8), .ref 7], (MH g kept was isKept tape fed pos tlen flt ranking paper written pairs above below isDone dist rowv rowMany lsz itm weakAbove weakBelow))) rfl ?_
  refine e_mul (8 * i) rfl (by first | rfl | omega | simp) ?_
  refine e_steps 1 (σ' := (9, [(0, .ref 0), (1, .int (nI i)), (2, .int (nI j))], [.int (nI j), .int (nI (8 * i)), .ref 7], (MH g kept was isKept tape fed pos tlen flt ranking paper written pairs above below isDone dist rowv rowMany lsz itm weakAbove weakBelow))) rfl ?_
  refine e_add (8 * i + j) rfl (by first | rfl | omega) ?_
  refine e_steps 0 (σ' := (10, [(0, .ref 0), (1, .int (nI i)), (2, .int (nI j))], [.int (nI (8 * i + j)), .ref 7], (MH g kept was isKept tape fed pos tlen flt ranking paper written pairs above below isDone dist rowv rowMany lsz itm weakAbove weakBelow))) rfl ?_
  refine e_lal (lN (F i j)) rfl rfl (by first | assumption | omega | rfl | trivial) (by decide) ((hP _ (by omega) _ (by omega)).1) ?_
  refine e_steps 0 (σ' := (11, [(0, .ref 0), (1, .int (nI i)), (2, .int (nI j))], [.long (lN (F i j))], (MH g kept was isKept tape fed pos tlen flt ranking paper written pairs above below isDone dist rowv rowMany lsz itm weakAbove weakBelow))) rfl ?_
  exact e_ret rfl (trivial) (hR _ _ ⟨(by rfl), rfl⟩)
theorem c_X6_isLink (d : Nat) {g : Nat → Int32} {kept : Nat → Int32} {was : Nat → Int32} {isKept : Int32} {tape : Nat → Int32} {fed : Int32} {pos : Int32} {tlen : Int32} {flt : Int32} {ranking : Nat → Int32} {paper : Nat → Int32} {written : Int32} {pairs : Nat → Int64} {above : Nat → Int64} {below : Nat → Int64} {isDone : Nat → Int32} {dist : Nat → Int32} {rowv : Nat → Int32} {rowMany : Int32} {lsz : Nat → Int32} {itm : Nat → Int64} {weakAbove : Int64} {weakBelow : Int64} {s : Nat} {i : Nat} {j : Nat} {n : Nat} {outs : Nat} {bm : Nat} {ms : Nat} {dr : Nat → Nat} {cn : Nat → Nat} {pl : Nat → Nat → Nat} {F : Nat → Nat → Nat} (hG : z_GI g n outs bm ms dr cn pl) (hP : z_PR pairs n F) (hs : s < 256) (hi : i < n) (hj : j < n) : z_CAL (d + 2) 176 [.ref 0, .int (nI s), .int (nI i), .int (nI j)] (MH g kept was isKept tape fed pos tlen flt ranking paper written pairs above below isDone dist rowv rowMany lsz itm weakAbove weakBelow) (fun r h2 => h2 = (MH g kept was isKept tape fed pos tlen flt ranking paper written pairs above below isDone dist rowv rowMany lsz itm weakAbove weakBelow) ∧ ((r = some (.int (nI 1)) ∧ (z_lnk s F i j)) ∨ (r = some (.int (nI 0)) ∧ (¬ z_lnk s F i j)))) := by
  refine e_of2 (q := zmX6_isLink) rfl rfl (fun R hR => ?_)
  obtain ⟨⟨hn0, hn2, hn8⟩, ⟨ho0, ho8, hin⟩, ⟨hb0, hb40⟩, ⟨hm0, hm4⟩, ⟨hdr, hdl, hdc⟩, hcn, hpl⟩ := id hG; have hp8 := z_p2 hn8; have ho256 : outs < 256 := (by omega); have hi256 : z_dif (2 ^ n - 1) outs < 256 := (by have := z_dif_le (s := 2 ^ n - 1) (t := outs); omega)
  refine e_steps 2 (σ' := (2, [(0, .ref 0), (1, .int (nI s)), (2, .int (nI i)), (3, .int (nI j))], [.int (nI j), .int (nI i)], (MH g kept was isKept tape fed pos tlen flt ranking paper written pairs above below isDone dist rowv rowMany lsz itm weakAbove weakBelow))) rfl ?_
  refine e_if (c := nI i = nI j) rfl (fun c_1 => ?_) (fun c_1 => ?_)
  · skip
    rw [nI_eq (by omega) (by omega)] at c_1
    refine e_steps 1 (σ' := (42, [(0, .ref 0), (1, .int (nI s)), (2, .int (nI i)), (3, .int (nI j))], [.int (nI 0)], (MH g kept was isKept tape fed pos tlen flt ranking paper written pairs above below isDone dist rowv rowMany lsz itm weakAbove weakBelow))) rfl ?_
    exact e_ret rfl (Or.inl rfl) (hR _ _ ⟨rfl, Or.inr ⟨rfl, (by first | assumption | omega | rfl | trivial | exact ⟨by assumption, by assumption, by assumption, by omega⟩ | exact (fun q => absurd q.1 (by omega)) | exact (fun q => by have := q.2.2.2; omega) | exact (fun q => by have h1 := q.2.1; have h2 := q.2.2.1; simp_all))⟩⟩)
  · skip
    rw [nI_eq (by omega) (by omega)] at c_1
    refine e_steps 2 (σ' := (7, [(0, .ref 0), (1, .int (nI s)), (2, .int (nI i)), (3, .int (nI j))], [.int (nI i), .int (nI s)], (MH g kept was isKept tape fed pos tlen flt ranking paper written pairs above below isDone dist rowv rowMany lsz itm weakAbove weakBelow))) rfl ?_
    refine e_call (y := 131) (av := [.int (nI s), .int (nI i)]) (rest := []) rfl (c_X6_has (d + 0) (by first | assumption | omega | rfl | trivial | exact ⟨by assumption, by assumption, by assumption, by omega⟩ | exact (fun q => absurd q.1 (by omega)) | exact (fun q => by have := q.2.2.2; omega) | exact (fun q => by have h1 := q.2.1; have h2 := q.2.2.1; simp_all)) (by first | assumption | omega | rfl | trivial | exact ⟨by assumption, by assumption, by assumption, by omega⟩ | exact (fun q => absurd q.1 (by omega)) | exact (fun q => by have := q.2.2.2; omega) | exact (fun q => by have h1 := q.2.1; have h2 := q.2.2.1; simp_all))) (fun r_2 h_2 p_2 => ?_)
    obtain ⟨rfl, o_2⟩ := p_2
    rcases o_2 with ⟨rfl, o_2⟩ | ⟨rfl, o_2⟩
    · skip
      refine e_steps 3 (σ' := (15, [(0, .ref 0), (1, .int (nI s)), (2, .int (nI i)), (3, .int (nI j))], [.int (nI j), .int (nI s)], (MH g kept was isKept tape fed pos tlen flt ranking paper written pairs above below isDone dist rowv rowMany lsz itm weakAbove weakBelow))) rfl ?_
      refine e_call (y := 131) (av := [.int (nI s), .int (nI j)]) (rest := []) rfl (c_X6_has (d + 0) (by first | assumption | omega | rfl | trivial | exact ⟨by assumption, by assumption, by assumption, by omega⟩ | exact (fun q => absurd q.1 (by omega)) | exact (fun q => by have := q.2.2.2; omega) | exact (fun q => by have h1 := q.2.1; have h2 := q.2.2.1; simp_all)) (by first | assumption | omega | rfl | trivial | exact ⟨by assumption, by assumption, by assumption, by omega⟩ | exact (fun q => absurd q.1 (by omega)) | exact (fun q => by have := q.2.2.2; omega) | exact (fun q => by have h1 := q.2.1; have h2 := q.2.2.1; simp_all))) (fun r_3 h_3 p_3 => ?_)
      obtain ⟨rfl, o_3⟩ := p_3
      rcases o_3 with ⟨rfl, o_3⟩ | ⟨rfl, o_3⟩
      · skip
        refine e_steps 4 (σ' := (24, [(0, .ref 0), (1, .int (nI s)), (2, .int (nI i)), (3, .int (nI j))], [.int (nI j), .int (nI i), .ref 0], (MH g kept was isKept tape fed pos tlen flt ranking paper written pairs above below isDone dist rowv rowMany lsz itm weakAbove weakBelow))) rfl ?_
        refine e_call (y := 174) (av := [.ref 0, .int (nI i), .int (nI j)]) (rest := []) rfl (c_X6_over (d + 0) (n := n) (outs := outs) (bm := bm) (ms := ms) (dr := dr) (cn := cn) (pl := pl) (F := F) (by first | assumption | omega | rfl | trivial | exact ⟨by assumption, by assumption, by assumption, by omega⟩ | exact (fun q => absurd q.1 (by omega)) | exact (fun q => by have := q.2.2.2; omega) | exact (fun q => by have h1 := q.2.1; have h2 := q.2.2.1; simp_all)) (by first | assumption | omega | rfl | trivial | exact ⟨by assumption, by assumption, by assumption, by omega⟩ | exact (fun q => absurd q.1 (by omega)) | exact (fun q => by have := q.2.2.2; omega) | exact (fun q => by have h1 := q.2.1; have h2 := q.2.2.1; simp_all)) (by first | assumption | omega | rfl | trivial | exact ⟨by assumption, by assumption, by assumption, by omega⟩ | exact (fun q => absurd q.1 (by omega)) | exact (fun q => by have := q.2.2.2; omega) | exact (fun q => by have h1 := q.2.1; have h2 := q.2.2.1; simp_all)) (by first | assumption | omega | rfl | trivial | exact ⟨by assumption, by assumption, by assumption, by omega⟩ | exact (fun q => absurd q.1 (by omega)) | exact (fun q => by have := q.2.2.2; omega) | exact (fun q => by have h1 := q.2.1; have h2 := q.2.2.1; simp_all))) (fun r_4 h_4 p_4 => ?_)
        obtain ⟨rfl, rfl⟩ := p_4
        refine e_steps 3 (σ' := (30, [(0, .ref 0), (1, .int (nI s)), (2, .int (nI i)), (3, .int (nI j))], [.int (nI i), .int (nI j), .ref 0, .long (lN (F i j))], (MH g kept was isKept tape fed pos tlen flt ranking paper written pairs above below isDone dist rowv rowMany lsz itm weakAbove weakBelow))) rfl ?_
        refine e_call (y := 174) (av := [.ref 0, .int (nI j), .int (nI i)]) (rest := [.long (lN (F i j))]) rfl (c_X6_over (d + 0) (n := n) (outs := outs) (bm := bm) (ms := ms) (dr := dr) (cn := cn) (pl := pl) (F := F) (by first | assumption | omega | rfl | trivial | exact ⟨by assumption, by assumption, by assumption, by omega⟩ | exact (fun q => absurd q.1 (by omega)) | exact (fun q => by have := q.2.2.2; omega) | exact (fun q => by have h1 := q.2.1; have h2 := q.2.2.1; simp_all)) (by first | assumption | omega | rfl | trivial | exact ⟨by assumption, by assumption, by assumption, by omega⟩ | exact (fun q => absurd q.1 (by omega)) | exact (fun q => by have := q.2.2.2; omega) | exact (fun q => by have h1 := q.2.1; have h2 := q.2.2.1; simp_all)) (by first | assumption | omega | rfl | trivial | exact ⟨by assumption, by assumption, by assumption, by omega⟩ | exact (fun q => absurd q.1 (by omega)) | exact (fun q => by have := q.2.2.2; omega) | exact (fun q => by have h1 := q.2.1; have h2 := q.2.2.1; simp_all)) (by first | assumption | omega | rfl | trivial | exact ⟨by assumption, by assumption, by assumption, by omega⟩ | exact (fun q => absurd q.1 (by omega)) | exact (fun q => by have := q.2.2.2; omega) | exact (fun q => by have h1 := q.2.1; have h2 := q.2.2.1; simp_all))) (fun r_5 h_5 p_5 => ?_)
        obtain ⟨rfl, rfl⟩ := p_5
        refine e_steps 0 (σ' := (33, [(0, .ref 0), (1, .int (nI s)), (2, .int (nI i)), (3, .int (nI j))], [.long (lN (F j i)), .long (lN (F i j))], (MH g kept was isKept tape fed pos tlen flt ranking paper written pairs above below isDone dist rowv rowMany lsz itm weakAbove weakBelow))) rfl ?_
        have hb1 := (hP i hi j hj).2; have hb2 := (hP j hj i hi).2
        refine e_steps 1 (σ' := (34, [(0, .ref 0), (1, .int (nI s)), (2, .int (nI i)), (3, .int (nI j))], [.int ((lg_cmp (lN (F i j)) (lN (F j i))))], (MH g kept was isKept tape fed pos tlen flt ranking paper written pairs above below isDone dist rowv rowMany lsz itm weakAbove weakBelow))) rfl ?_
        refine e_if (c := lg_cmp (lN (F i j)) (lN (F j i)) ≤ 0) rfl (fun c_6 => ?_) (fun c_6 => ?_)
        · rw [lg_cmp_le] at c_6
          rw [pk_lLE (by omega) (by omega)] at c_6
          refine e_steps 1 (σ' := (42, [(0, .ref 0), (1, .int (nI s)), (2, .int (nI i)), (3, .int (nI j))], [.int (nI 0)], (MH g kept was isKept tape fed pos tlen flt ranking paper written pairs above below isDone dist rowv rowMany lsz itm weakAbove weakBelow))) rfl ?_
          exact e_ret rfl (Or.inl rfl) (hR _ _ ⟨rfl, Or.inr ⟨rfl, (by first | assumption | omega | rfl | trivial | exact ⟨by assumption, by assumption, by assumption, by omega⟩ | exact (fun q => absurd q.1 (by omega)) | exact (fun q => by have := q.2.2.2; omega) | exact (fun q => by have h1 := q.2.1; have h2 := q.2.2.1; simp_all))⟩⟩)
        · rw [lg_cmp_le] at c_6
          rw [pk_lLE (by omega) (by omega)] at c_6
          refine e_steps 2 (σ' := (42, [(0, .ref 0), (1, .int (nI s)), (2, .int (nI i)), (3, .int (nI j))], [.int (nI 1)], (MH g kept was isKept tape fed pos tlen flt ranking paper written pairs above below isDone dist rowv rowMany lsz itm weakAbove weakBelow))) rfl ?_
          exact e_ret rfl (Or.inr rfl) (hR _ _ ⟨rfl, Or.inl ⟨rfl, (by first | assumption | omega | rfl | trivial | exact ⟨by assumption, by assumption, by assumption, by omega⟩ | exact (fun q => absurd q.1 (by omega)) | exact (fun q => by have := q.2.2.2; omega) | exact (fun q => by have h1 := q.2.1; have h2 := q.2.2.1; simp_all))⟩⟩)
      · skip
        refine e_steps 2 (σ' := (42, [(0, .ref 0), (1, .int (nI s)), (2, .int (nI i)), (3, .int (nI j))], [.int (nI 0)], (MH g kept was isKept tape fed pos tlen flt ranking paper written pairs above below isDone dist rowv rowMany lsz itm weakAbove weakBelow))) rfl ?_
        exact e_ret rfl (Or.inl rfl) (hR _ _ ⟨rfl, Or.inr ⟨rfl, (by first | assumption | omega | rfl | trivial | exact ⟨by assumption, by assumption, by assumption, by omega⟩ | exact (fun q => absurd q.1 (by omega)) | exact (fun q => by have := q.2.2.2; omega) | exact (fun q => by have h1 := q.2.1; have h2 := q.2.2.1; simp_all))⟩⟩)
    · skip
      refine e_steps 2 (σ' := (42, [(0, .ref 0), (1, .int (nI s)), (2, .int (nI i)), (3, .int (nI j))], [.int (nI 0)], (MH g kept was isKept tape fed pos tlen flt ranking paper written pairs above below isDone dist rowv rowMany lsz itm weakAbove weakBelow))) rfl ?_
      exact e_ret rfl (Or.inl rfl) (hR _ _ ⟨rfl, Or.inr ⟨rfl, (by first | assumption | omega | rfl | trivial | exact ⟨by assumption, by assumption, by assumption, by omega⟩ | exact (fun q => absurd q.1 (by omega)) | exact (fun q => by have := q.2.2.2; omega) | exact (fun q => by have h1 := q.2.1; have h2 := q.2.2.1; simp_all))⟩⟩)
theorem c_X6_isStronger (d : Nat) {g : Nat → Int32} {kept : Nat → Int32} {was : Nat → Int32} {isKept : Int32} {tape : Nat → Int32} {fed : Int32} {pos : Int32} {tlen : Int32} {flt : Int32} {ranking : Nat → Int32} {paper : Nat → Int32} {written : Int32} {pairs : Nat → Int64} {above : Nat → Int64} {below : Nat → Int64} {isDone : Nat → Int32} {dist : Nat → Int32} {rowv : Nat → Int32} {rowMany : Int32} {lsz : Nat → Int32} {itm : Nat → Int64} {weakAbove : Int64} {weakBelow : Int64} {m : Nat} {a : Nat} {b : Nat} {c : Nat} {d2 : Nat} (hba : b < a) (haM : a ≤ 41000000) (hdc : d2 < c) (hcM : c ≤ 41000000) (hm : m < 4) : z_CAL (d + 1) 178 [.int (nI m), .long (lN a), .long (lN b), .long (lN c), .long (lN d2)] (MH g kept was isKept tape fed pos tlen flt ranking paper written pairs above below isDone dist rowv rowMany lsz itm weakAbove weakBelow) (fun r h2 => h2 = (MH g kept was isKept tape fed pos tlen flt ranking paper written pairs above below isDone dist rowv rowMany lsz itm weakAbove weakBelow) ∧ ((r = some (.int (nI 1)) ∧ (z_key m c d2 < z_key m a b)) ∨ (r = some (.int (nI 0)) ∧ (¬ z_key m c d2 < z_key m a b)))) := by
  refine e_of2 (q := zmX6_isStronger) rfl rfl (fun R hR => ?_)
  refine e_steps 1 (σ' := (1, [(0, .int (nI m)), (1, .long (lN a)), (3, .long (lN b)), (5, .long (lN c)), (7, .long (lN d2))], [.int (nI m)], (MH g kept was isKept tape fed pos tlen flt ranking paper written pairs above below isDone dist rowv rowMany lsz itm weakAbove weakBelow))) rfl ?_
  rcases z_sw2 (nI m) with c_1 | c_1 | c_1 | c_1
  · refine e_one (σ' := (28, [(0, .int (nI m)), (1, .long (lN a)), (3, .long (lN b)), (5, .long (lN c)), (7, .long (lN d2))], [], (MH g kept was isKept tape fed pos tlen flt ranking paper written pairs above below isDone dist rowv rowMany lsz itm weakAbove weakBelow))) (z_swi (k := 0) (off := (.ofNat 27)) rfl c_1 (by decide +kernel) (by decide +kernel) rfl) ?_
    skip
    rw [nI_eq (by omega) (by omega)] at c_1; have hm_k := c_1
    refine e_steps 3 (σ' := (32, [(0, .int (nI m)), (1, .long (lN a)), (3, .long (lN b)), (5, .long (lN c)), (7, .long (lN d2))], [.int ((lg_cmp (lN a) (lN c)))], (MH g kept was isKept tape fed pos tlen flt ranking paper written pairs above below isDone dist rowv rowMany lsz itm weakAbove weakBelow))) rfl ?_
    refine e_if (c := lg_cmp (lN a) (lN c) ≤ 0) rfl (fun c_2 => ?_) (fun c_2 => ?_)
    · rw [lg_cmp_le] at c_2
      rw [pk_lLE (by omega) (by omega)] at c_2
      refine e_steps 1 (σ' := (40, [(0, .int (nI m)), (1, .long (lN a)), (3, .long (lN b)), (5, .long (lN c)), (7, .long (lN d2))], [.int (nI 0)], (MH g kept was isKept tape fed pos tlen flt ranking paper written pairs above below isDone dist rowv rowMany lsz itm weakAbove weakBelow))) rfl ?_
      exact e_ret rfl (Or.inl rfl) (hR _ _ ⟨rfl, Or.inr ⟨rfl, (by subst hm_k; first | assumption | omega | rfl | trivial | exact (z_kst1 hba hdc haM hcM).1 (by assumption) | exact (z_kst1 hba hdc haM hcM).2 (by assumption) | exact (z_kst2 hba hdc haM hcM (by omega) (by omega)).1 (by assumption) | exact (z_kst2 hba hdc haM hcM (by omega) (by omega)).2 (by assumption) | (rw [z_key_two hba hdc haM hcM]; split <;> omega) | (simp only [z_k0]; omega) | (simp only [z_k3]; omega))⟩⟩)
    · rw [lg_cmp_le] at c_2
      rw [pk_lLE (by omega) (by omega)] at c_2
      refine e_steps 2 (σ' := (40, [(0, .int (nI m)), (1, .long (lN a)), (3, .long (lN b)), (5, .long (lN c)), (7, .long (lN d2))], [.int (nI 1)], (MH g kept was isKept tape fed pos tlen flt ranking paper written pairs above below isDone dist rowv rowMany lsz itm weakAbove weakBelow))) rfl ?_
      exact e_ret rfl (Or.inr rfl) (hR _ _ ⟨rfl, Or.inl ⟨rfl, (by subst hm_k; first | assumption | omega | rfl | trivial | exact (z_kst1 hba hdc haM hcM).1 (by assumption) | exact (z_kst1 hba hdc haM hcM).2 (by assumption) | exact (z_kst2 hba hdc haM hcM (by omega) (by omega)).1 (by assumption) | exact (z_kst2 hba hdc haM hcM (by omega) (by omega)).2 (by assumption) | (rw [z_key_two hba hdc haM hcM]; split <;> omega) | (simp only [z_k0]; omega) | (simp only [z_k3]; omega))⟩⟩)
  · refine e_one (σ' := (41, [(0, .int (nI m)), (1, .long (lN a)), (3, .long (lN b)), (5, .long (lN c)), (7, .long (lN d2))], [], (MH g kept was isKept tape fed pos tlen flt ranking paper written pairs above below isDone dist rowv rowMany lsz itm weakAbove weakBelow))) (z_swi (k := 1) (off := (.ofNat 40)) rfl c_1 (by decide +kernel) (by decide +kernel) rfl) ?_
    skip
    rw [nI_eq (by omega) (by omega)] at c_1; have hm_k := c_1
    refine e_steps 7 (σ' := (50, [(0, .int (nI m)), (1, .long (lN a)), (3, .long (lN b)), (5, .long (lN c)), (7, .long (lN d2))], [.int ((lg_cmp (((lN a) - (lN b))) (((lN c) - (lN d2)))))], (MH g kept was isKept tape fed pos tlen flt ranking paper written pairs above below isDone dist rowv rowMany lsz itm weakAbove weakBelow))) rfl ?_
    refine e_if (c := lg_cmp (((lN a) - (lN b))) (((lN c) - (lN d2))) ≤ 0) rfl (fun c_3 => ?_) (fun c_3 => ?_)
    · rw [lg_cmp_le] at c_3
      refine e_steps 1 (σ' := (58, [(0, .int (nI m)), (1, .long (lN a)), (3, .long (lN b)), (5, .long (lN c)), (7, .long (lN d2))], [.int (nI 0)], (MH g kept was isKept tape fed pos tlen flt ranking paper written pairs above below isDone dist rowv rowMany lsz itm weakAbove weakBelow))) rfl ?_
      exact e_ret rfl (Or.inl rfl) (hR _ _ ⟨rfl, Or.inr ⟨rfl, (by subst hm_k; first | assumption | omega | rfl | trivial | exact (z_kst1 hba hdc haM hcM).1 (by assumption) | exact (z_kst1 hba hdc haM hcM).2 (by assumption) | exact (z_kst2 hba hdc haM hcM (by omega) (by omega)).1 (by assumption) | exact (z_kst2 hba hdc haM hcM (by omega) (by omega)).2 (by assumption) | (rw [z_key_two hba hdc haM hcM]; split <;> omega) | (simp only [z_k0]; omega) | (simp only [z_k3]; omega))⟩⟩)
    · rw [lg_cmp_le] at c_3
      refine e_steps 2 (σ' := (58, [(0, .int (nI m)), (1, .long (lN a)), (3, .long (lN b)), (5, .long (lN c)), (7, .long (lN d2))], [.int (nI 1)], (MH g kept was isKept tape fed pos tlen flt ranking paper written pairs above below isDone dist rowv rowMany lsz itm weakAbove weakBelow))) rfl ?_
      exact e_ret rfl (Or.inr rfl) (hR _ _ ⟨rfl, Or.inl ⟨rfl, (by subst hm_k; first | assumption | omega | rfl | trivial | exact (z_kst1 hba hdc haM hcM).1 (by assumption) | exact (z_kst1 hba hdc haM hcM).2 (by assumption) | exact (z_kst2 hba hdc haM hcM (by omega) (by omega)).1 (by assumption) | exact (z_kst2 hba hdc haM hcM (by omega) (by omega)).2 (by assumption) | (rw [z_key_two hba hdc haM hcM]; split <;> omega) | (simp only [z_k0]; omega) | (simp only [z_k3]; omega))⟩⟩)
  · refine e_one (σ' := (59, [(0, .int (nI m)), (1, .long (lN a)), (3, .long (lN b)), (5, .long (lN c)), (7, .long (lN d2))], [], (MH g kept was isKept tape fed pos tlen flt ranking paper written pairs above below isDone dist rowv rowMany lsz itm weakAbove weakBelow))) (z_swi (k := 2) (off := (.ofNat 58)) rfl c_1 (by decide +kernel) (by decide +kernel) rfl) ?_
    skip
    rw [nI_eq (by omega) (by omega)] at c_1; have hm_k := c_1
    refine e_steps 3 (σ' := (62, [(0, .int (nI m)), (1, .long (lN a)), (3, .long (lN b)), (5, .long (lN c)), (7, .long (lN d2))], [.int ((lg_cmp (lN b) (lN 0)))], (MH g kept was isKept tape fed pos tlen flt ranking paper written pairs above below isDone dist rowv rowMany lsz itm weakAbove weakBelow))) rfl ?_
    refine e_if (c := lg_cmp (lN b) (lN 0) = 0) rfl (fun c_4 => ?_) (fun c_4 => ?_)
    · rw [lg_cmp_eq] at c_4
      rw [pk_lEQ (by omega) (by omega)] at c_4
      refine e_steps 3 (σ' := (75, [(0, .int (nI m)), (1, .long (lN a)), (3, .long (lN b)), (5, .long (lN c)), (7, .long (lN d2))], [.int ((lg_cmp (lN b) (lN 0)))], (MH g kept was isKept tape fed pos tlen flt ranking paper written pairs above below isDone dist rowv rowMany lsz itm weakAbove weakBelow))) rfl ?_
      refine e_if (c := ¬ lg_cmp (lN b) (lN 0) = 0) rfl (fun c_5 => ?_) (fun c_5 => ?_)
      · rw [lg_cmp_eq] at c_5
        rw [pk_lEQ (by omega) (by omega)] at c_5
        refine e_steps 1 (σ' := (97, [(0, .int (nI m)), (1, .long (lN a)), (3, .long (lN b)), (5, .long (lN c)), (7, .long (lN d2))], [.int (nI 0)], (MH g kept was isKept tape fed pos tlen flt ranking paper written pairs above below isDone dist rowv rowMany lsz itm weakAbove weakBelow))) rfl ?_
        exact e_ret rfl (Or.inl rfl) (hR _ _ ⟨rfl, Or.inr ⟨rfl, (by subst hm_k; first | assumption | omega | rfl | trivial | exact (z_kst1 hba hdc haM hcM).1 (by assumption) | exact (z_kst1 hba hdc haM hcM).2 (by assumption) | exact (z_kst2 hba hdc haM hcM (by omega) (by omega)).1 (by assumption) | exact (z_kst2 hba hdc haM hcM (by omega) (by omega)).2 (by assumption) | (rw [z_key_two hba hdc haM hcM]; split <;> omega) | (simp only [z_k0]; omega) | (simp only [z_k3]; omega))⟩⟩)
      · rw [lg_cmp_eq] at c_5
        rw [pk_lEQ (by omega) (by omega)] at c_5
        replace c_5 := Decidable.not_not.mp c_5
        refine e_steps 3 (σ' := (82, [(0, .int (nI m)), (1, .long (lN a)), (3, .long (lN b)), (5, .long (lN c)), (7, .long (lN d2))], [.int ((lg_cmp (lN d2) (lN 0)))], (MH g kept was isKept tape fed pos tlen flt ranking paper written pairs above below isDone dist rowv rowMany lsz itm weakAbove weakBelow))) rfl ?_
        refine e_if (c := ¬ lg_cmp (lN d2) (lN 0) = 0) rfl (fun c_6 => ?_) (fun c_6 => ?_)
        · rw [lg_cmp_eq] at c_6
          rw [pk_lEQ (by omega) (by omega)] at c_6
          refine e_steps 2 (σ' := (97, [(0, .int (nI m)), (1, .long (lN a)), (3, .long (lN b)), (5, .long (lN c)), (7, .long (lN d2))], [.int (nI 1)], (MH g kept was isKept tape fed pos tlen flt ranking paper written pairs above below isDone dist rowv rowMany lsz itm weakAbove weakBelow))) rfl ?_
          exact e_ret rfl (Or.inr rfl) (hR _ _ ⟨rfl, Or.inl ⟨rfl, (by subst hm_k; first | assumption | omega | rfl | trivial | exact (z_kst1 hba hdc haM hcM).1 (by assumption) | exact (z_kst1 hba hdc haM hcM).2 (by assumption) | exact (z_kst2 hba hdc haM hcM (by omega) (by omega)).1 (by assumption) | exact (z_kst2 hba hdc haM hcM (by omega) (by omega)).2 (by assumption) | (rw [z_key_two hba hdc haM hcM]; split <;> omega) | (simp only [z_k0]; omega) | (simp only [z_k3]; omega))⟩⟩)
        · rw [lg_cmp_eq] at c_6
          rw [pk_lEQ (by omega) (by omega)] at c_6
          replace c_6 := Decidable.not_not.mp c_6
          refine e_steps 3 (σ' := (89, [(0, .int (nI m)), (1, .long (lN a)), (3, .long (lN b)), (5, .long (lN c)), (7, .long (lN d2))], [.int ((lg_cmp (lN a) (lN c)))], (MH g kept was isKept tape fed pos tlen flt ranking paper written pairs above below isDone dist rowv rowMany lsz itm weakAbove weakBelow))) rfl ?_
          refine e_if (c := lg_cmp (lN a) (lN c) ≤ 0) rfl (fun c_7 => ?_) (fun c_7 => ?_)
          · rw [lg_cmp_le] at c_7
            rw [pk_lLE (by omega) (by omega)] at c_7
            refine e_steps 1 (σ' := (97, [(0, .int (nI m)), (1, .long (lN a)), (3, .long (lN b)), (5, .long (lN c)), (7, .long (lN d2))], [.int (nI 0)], (MH g kept was isKept tape fed pos tlen flt ranking paper written pairs above below isDone dist rowv rowMany lsz itm weakAbove weakBelow))) rfl ?_
            exact e_ret rfl (Or.inl rfl) (hR _ _ ⟨rfl, Or.inr ⟨rfl, (by subst hm_k; first | assumption | omega | rfl | trivial | exact (z_kst1 hba hdc haM hcM).1 (by assumption) | exact (z_kst1 hba hdc haM hcM).2 (by assumption) | exact (z_kst2 hba hdc haM hcM (by omega) (by omega)).1 (by assumption) | exact (z_kst2 hba hdc haM hcM (by omega) (by omega)).2 (by assumption) | (rw [z_key_two hba hdc haM hcM]; split <;> omega) | (simp only [z_k0]; omega) | (simp only [z_k3]; omega))⟩⟩)
          · rw [lg_cmp_le] at c_7
            rw [pk_lLE (by omega) (by omega)] at c_7
            refine e_steps 2 (σ' := (97, [(0, .int (nI m)), (1, .long (lN a)), (3, .long (lN b)), (5, .long (lN c)), (7, .long (lN d2))], [.int (nI 1)], (MH g kept was isKept tape fed pos tlen flt ranking paper written pairs above below isDone dist rowv rowMany lsz itm weakAbove weakBelow))) rfl ?_
            exact e_ret rfl (Or.inr rfl) (hR _ _ ⟨rfl, Or.inl ⟨rfl, (by subst hm_k; first | assumption | omega | rfl | trivial | exact (z_kst1 hba hdc haM hcM).1 (by assumption) | exact (z_kst1 hba hdc haM hcM).2 (by assumption) | exact (z_kst2 hba hdc haM hcM (by omega) (by omega)).1 (by assumption) | exact (z_kst2 hba hdc haM hcM (by omega) (by omega)).2 (by assumption) | (rw [z_key_two hba hdc haM hcM]; split <;> omega) | (simp only [z_k0]; omega) | (simp only [z_k3]; omega))⟩⟩)
    · rw [lg_cmp_eq] at c_4
      rw [pk_lEQ (by omega) (by omega)] at c_4
      refine e_steps 3 (σ' := (69, [(0, .int (nI m)), (1, .long (lN a)), (3, .long (lN b)), (5, .long (lN c)), (7, .long (lN d2))], [.int ((lg_cmp (lN d2) (lN 0)))], (MH g kept was isKept tape fed pos tlen flt ranking paper written pairs above below isDone dist rowv rowMany lsz itm weakAbove weakBelow))) rfl ?_
      refine e_if (c := ¬ lg_cmp (lN d2) (lN 0) = 0) rfl (fun c_8 => ?_) (fun c_8 => ?_)
      · rw [lg_cmp_eq] at c_8
        rw [pk_lEQ (by omega) (by omega)] at c_8
        refine e_steps 7 (σ' := (107, [(0, .int (nI m)), (1, .long (lN a)), (3, .long (lN b)), (5, .long (lN c)), (7, .long (lN d2))], [.int ((lg_cmp (((lN a) * (lN d2))) (((lN c) * (lN b)))))], (MH g kept was isKept tape fed pos tlen flt ranking paper written pairs above below isDone dist rowv rowMany lsz itm weakAbove weakBelow))) rfl ?_
        refine e_if (c := lg_cmp (((lN a) * (lN d2))) (((lN c) * (lN b))) ≤ 0) rfl (fun c_9 => ?_) (fun c_9 => ?_)
        · rw [lg_cmp_le] at c_9
          refine e_steps 1 (σ' := (115, [(0, .int (nI m)), (1, .long (lN a)), (3, .long (lN b)), (5, .long (lN c)), (7, .long (lN d2))], [.int (nI 0)], (MH g kept was isKept tape fed pos tlen flt ranking paper written pairs above below isDone dist rowv rowMany lsz itm weakAbove weakBelow))) rfl ?_
          exact e_ret rfl (Or.inl rfl) (hR _ _ ⟨rfl, Or.inr ⟨rfl, (by subst hm_k; first | assumption | omega | rfl | trivial | exact (z_kst1 hba hdc haM hcM).1 (by assumption) | exact (z_kst1 hba hdc haM hcM).2 (by assumption) | exact (z_kst2 hba hdc haM hcM (by omega) (by omega)).1 (by assumption) | exact (z_kst2 hba hdc haM hcM (by omega) (by omega)).2 (by assumption) | (rw [z_key_two hba hdc haM hcM]; split <;> omega) | (simp only [z_k0]; omega) | (simp only [z_k3]; omega))⟩⟩)
        · rw [lg_cmp_le] at c_9
          refine e_steps 2 (σ' := (115, [(0, .int (nI m)), (1, .long (lN a)), (3, .long (lN b)), (5, .long (lN c)), (7, .long (lN d2))], [.int (nI 1)], (MH g kept was isKept tape fed pos tlen flt ranking paper written pairs above below isDone dist rowv rowMany lsz itm weakAbove weakBelow))) rfl ?_
          exact e_ret rfl (Or.inr rfl) (hR _ _ ⟨rfl, Or.inl ⟨rfl, (by subst hm_k; first | assumption | omega | rfl | trivial | exact (z_kst1 hba hdc haM hcM).1 (by assumption) | exact (z_kst1 hba hdc haM hcM).2 (by assumption) | exact (z_kst2 hba hdc haM hcM (by omega) (by omega)).1 (by assumption) | exact (z_kst2 hba hdc haM hcM (by omega) (by omega)).2 (by assumption) | (rw [z_key_two hba hdc haM hcM]; split <;> omega) | (simp only [z_k0]; omega) | (simp only [z_k3]; omega))⟩⟩)
      · rw [lg_cmp_eq] at c_8
        rw [pk_lEQ (by omega) (by omega)] at c_8
        replace c_8 := Decidable.not_not.mp c_8
        refine e_steps 3 (σ' := (75, [(0, .int (nI m)), (1, .long (lN a)), (3, .long (lN b)), (5, .long (lN c)), (7, .long (lN d2))], [.int ((lg_cmp (lN b) (lN 0)))], (MH g kept was isKept tape fed pos tlen flt ranking paper written pairs above below isDone dist rowv rowMany lsz itm weakAbove weakBelow))) rfl ?_
        refine e_if (c := ¬ lg_cmp (lN b) (lN 0) = 0) rfl (fun c_10 => ?_) (fun c_10 => ?_)
        · rw [lg_cmp_eq] at c_10
          rw [pk_lEQ (by omega) (by omega)] at c_10
          refine e_steps 1 (σ' := (97, [(0, .int (nI m)), (1, .long (lN a)), (3, .long (lN b)), (5, .long (lN c)), (7, .long (lN d2))], [.int (nI 0)], (MH g kept was isKept tape fed pos tlen flt ranking paper written pairs above below isDone dist rowv rowMany lsz itm weakAbove weakBelow))) rfl ?_
          exact e_ret rfl (Or.inl rfl) (hR _ _ ⟨rfl, Or.inr ⟨rfl, (by subst hm_k; first | assumption | omega | rfl | trivial | exact (z_kst1 hba hdc haM hcM).1 (by assumption) | exact (z_kst1 hba hdc haM hcM).2 (by assumption) | exact (z_kst2 hba hdc haM hcM (by omega) (by omega)).1 (by assumption) | exact (z_kst2 hba hdc haM hcM (by omega) (by omega)).2 (by assumption) | (rw [z_key_two hba hdc haM hcM]; split <;> omega) | (simp only [z_k0]; omega) | (simp only [z_k3]; omega))⟩⟩)
        · rw [lg_cmp_eq] at c_10
          rw [pk_lEQ (by omega) (by omega)] at c_10
          replace c_10 := Decidable.not_not.mp c_10
          refine e_steps 3 (σ' := (82, [(0, .int (nI m)), (1, .long (lN a)), (3, .long (lN b)), (5, .long (lN c)), (7, .long (lN d2))], [.int ((lg_cmp (lN d2) (lN 0)))], (MH g kept was isKept tape fed pos tlen flt ranking paper written pairs above below isDone dist rowv rowMany lsz itm weakAbove weakBelow))) rfl ?_
          refine e_if (c := ¬ lg_cmp (lN d2) (lN 0) = 0) rfl (fun c_11 => ?_) (fun c_11 => ?_)
          · rw [lg_cmp_eq] at c_11
            rw [pk_lEQ (by omega) (by omega)] at c_11
            refine e_steps 2 (σ' := (97, [(0, .int (nI m)), (1, .long (lN a)), (3, .long (lN b)), (5, .long (lN c)), (7, .long (lN d2))], [.int (nI 1)], (MH g kept was isKept tape fed pos tlen flt ranking paper written pairs above below isDone dist rowv rowMany lsz itm weakAbove weakBelow))) rfl ?_
            exact e_ret rfl (Or.inr rfl) (hR _ _ ⟨rfl, Or.inl ⟨rfl, (by subst hm_k; first | assumption | omega | rfl | trivial | exact (z_kst1 hba hdc haM hcM).1 (by assumption) | exact (z_kst1 hba hdc haM hcM).2 (by assumption) | exact (z_kst2 hba hdc haM hcM (by omega) (by omega)).1 (by assumption) | exact (z_kst2 hba hdc haM hcM (by omega) (by omega)).2 (by assumption) | (rw [z_key_two hba hdc haM hcM]; split <;> omega) | (simp only [z_k0]; omega) | (simp only [z_k3]; omega))⟩⟩)
          · rw [lg_cmp_eq] at c_11
            rw [pk_lEQ (by omega) (by omega)] at c_11
            replace c_11 := Decidable.not_not.mp c_11
            refine e_steps 3 (σ' := (89, [(0, .int (nI m)), (1, .long (lN a)), (3, .long (lN b)), (5, .long (lN c)), (7, .long (lN d2))], [.int ((lg_cmp (lN a) (lN c)))], (MH g kept was isKept tape fed pos tlen flt ranking paper written pairs above below isDone dist rowv rowMany lsz itm weakAbove weakBelow))) rfl ?_
            refine e_if (c := lg_cmp (lN a) (lN c) ≤ 0) rfl (fun c_12 => ?_) (fun c_12 => ?_)
            · rw [lg_cmp_le] at c_12
              rw [pk_lLE (by omega) (by omega)] at c_12
              refine e_steps 1 (σ' := (97, [(0, .int (nI m)), (1, .long (lN a)), (3, .long (lN b)), (5, .long (lN c)), (7, .long (lN d2))], [.int (nI 0)], (MH g kept was isKept tape fed pos tlen flt ranking paper written pairs above below isDone dist rowv rowMany lsz itm weakAbove weakBelow))) rfl ?_
              exact e_ret rfl (Or.inl rfl) (hR _ _ ⟨rfl, Or.inr ⟨rfl, (by subst hm_k; first | assumption | omega | rfl | trivial | exact (z_kst1 hba hdc haM hcM).1 (by assumption) | exact (z_kst1 hba hdc haM hcM).2 (by assumption) | exact (z_kst2 hba hdc haM hcM (by omega) (by omega)).1 (by assumption) | exact (z_kst2 hba hdc haM hcM (by omega) (by omega)).2 (by assumption) | (rw [z_key_two hba hdc haM hcM]; split <;> omega) | (simp only [z_k0]; omega) | (simp only [z_k3]; omega))⟩⟩)
            · rw [lg_cmp_le] at c_12
              rw [pk_lLE (by omega) (by omega)] at c_12
              refine e_steps 2 (σ' := (97, [(0, .int (nI m)), (1, .long (lN a)), (3, .long (lN b)), (5, .long (lN c)), (7, .long (lN d2))], [.int (nI 1)], (MH g kept was isKept tape fed pos tlen flt ranking paper written pairs above below isDone dist rowv rowMany lsz itm weakAbove weakBelow))) rfl ?_
              exact e_ret rfl (Or.inr rfl) (hR _ _ ⟨rfl, Or.inl ⟨rfl, (by subst hm_k; first | assumption | omega | rfl | trivial | exact (z_kst1 hba hdc haM hcM).1 (by assumption) | exact (z_kst1 hba hdc haM hcM).2 (by assumption) | exact (z_kst2 hba hdc haM hcM (by omega) (by omega)).1 (by assumption) | exact (z_kst2 hba hdc haM hcM (by omega) (by omega)).2 (by assumption) | (rw [z_key_two hba hdc haM hcM]; split <;> omega) | (simp only [z_k0]; omega) | (simp only [z_k3]; omega))⟩⟩)
  · refine e_one (σ' := (116, [(0, .int (nI m)), (1, .long (lN a)), (3, .long (lN b)), (5, .long (lN c)), (7, .long (lN d2))], [], (MH g kept was isKept tape fed pos tlen flt ranking paper written pairs above below isDone dist rowv rowMany lsz itm weakAbove weakBelow))) (z_swd rfl c_1 rfl) ?_
    skip
    rw [nI_toInt (by omega)] at c_1; have hm_k : m = 3 := (by omega)
    refine e_steps 3 (σ' := (120, [(0, .int (nI m)), (1, .long (lN a)), (3, .long (lN b)), (5, .long (lN c)), (7, .long (lN d2))], [.int ((lg_cmp (lN b) (lN d2)))], (MH g kept was isKept tape fed pos tlen flt ranking paper written pairs above below isDone dist rowv rowMany lsz itm weakAbove weakBelow))) rfl ?_
    refine e_if (c := 0 ≤ lg_cmp (lN b) (lN d2)) rfl (fun c_13 => ?_) (fun c_13 => ?_)
    · rw [lg_cmp_ge] at c_13
      rw [pk_lLE (by omega) (by omega)] at c_13
      refine e_steps 1 (σ' := (128, [(0, .int (nI m)), (1, .long (lN a)), (3, .long (lN b)), (5, .long (lN c)), (7, .long (lN d2))], [.int (nI 0)], (MH g kept was isKept tape fed pos tlen flt ranking paper written pairs above below isDone dist rowv rowMany lsz itm weakAbove weakBelow))) rfl ?_
      exact e_ret rfl (Or.inl rfl) (hR _ _ ⟨rfl, Or.inr ⟨rfl, (by subst hm_k; first | assumption | omega | rfl | trivial | exact (z_kst1 hba hdc haM hcM).1 (by assumption) | exact (z_kst1 hba hdc haM hcM).2 (by assumption) | exact (z_kst2 hba hdc haM hcM (by omega) (by omega)).1 (by assumption) | exact (z_kst2 hba hdc haM hcM (by omega) (by omega)).2 (by assumption) | (rw [z_key_two hba hdc haM hcM]; split <;> omega) | (simp only [z_k0]; omega) | (simp only [z_k3]; omega))⟩⟩)
    · rw [lg_cmp_ge] at c_13
      rw [pk_lLE (by omega) (by omega)] at c_13
      refine e_steps 2 (σ' := (128, [(0, .int (nI m)), (1, .long (lN a)), (3, .long (lN b)), (5, .long (lN c)), (7, .long (lN d2))], [.int (nI 1)], (MH g kept was isKept tape fed pos tlen flt ranking paper written pairs above below isDone dist rowv rowMany lsz itm weakAbove weakBelow))) rfl ?_
      exact e_ret rfl (Or.inr rfl) (hR _ _ ⟨rfl, Or.inl ⟨rfl, (by subst hm_k; first | assumption | omega | rfl | trivial | exact (z_kst1 hba hdc haM hcM).1 (by assumption) | exact (z_kst1 hba hdc haM hcM).2 (by assumption) | exact (z_kst2 hba hdc haM hcM (by omega) (by omega)).1 (by assumption) | exact (z_kst2 hba hdc haM hcM (by omega) (by omega)).2 (by assumption) | (rw [z_key_two hba hdc haM hcM]; split <;> omega) | (simp only [z_k0]; omega) | (simp only [z_k3]; omega))⟩⟩)
theorem c_X6_isMore (d : Nat) {g : Nat → Int32} {kept : Nat → Int32} {was : Nat → Int32} {isKept : Int32} {tape : Nat → Int32} {fed : Int32} {pos : Int32} {tlen : Int32} {flt : Int32} {ranking : Nat → Int32} {paper : Nat → Int32} {written : Int32} {pairs : Nat → Int64} {above : Nat → Int64} {below : Nat → Int64} {isDone : Nat → Int32} {dist : Nat → Int32} {rowv : Nat → Int32} {rowMany : Int32} {lsz : Nat → Int32} {itm : Nat → Int64} {weakAbove : Int64} {weakBelow : Int64} {m : Nat} {one : Nat} {other : Nat} {k1 : Nat} {k2 : Nat} (h1 : z_AB1 m (above one) (below one) k1) (h2 : z_AB1 m (above other) (below other) k2) (hi1 : one < 64) (hi2 : other < 64) (hm : m < 4) : z_CAL (d + 2) 179 [.ref 0, .int (nI m), .int (nI one), .int (nI other)] (MH g kept was isKept tape fed pos tlen flt ranking paper written pairs above below isDone dist rowv rowMany lsz itm weakAbove weakBelow) (fun r h2 => h2 = (MH g kept was isKept tape fed pos tlen flt ranking paper written pairs above below isDone dist rowv rowMany lsz itm weakAbove weakBelow) ∧ ((r = some (.int (nI 1)) ∧ (k2 < k1)) ∨ (r = some (.int (nI 0)) ∧ (¬ k2 < k1)))) := by
  refine e_of2 (q := zmX6_isMore) rfl rfl (fun R hR => ?_)
  refine e_steps 3 (σ' := (5, [(0, .ref 0), (1, .int (nI m)), (2, .int (nI one)), (3, .int (nI other))], [.int (nI one), .ref 8], (MH g kept was isKept tape fed pos tlen flt ranking paper written pairs above below isDone dist rowv rowMany lsz itm weakAbove weakBelow))) rfl ?_
  refine e_lal (above one) rfl rfl (by first | assumption | omega | rfl | trivial | exact z_im_no h1 (by assumption) | contradiction | exact z_im_yes h1 h2 (by first | assumption | exact Int64.not_lt.mpr (by assumption)) (by first | assumption | exact Int64.not_le.mp (by assumption)) | (rw [ek1, ek2]; assumption)) (by decide) (rfl) ?_
  refine e_steps 2 (σ' := (8, [(0, .ref 0), (1, .int (nI m)), (2, .int (nI one)), (3, .int (nI other))], [.int ((lg_cmp ((above one)) (lN 0)))], (MH g kept was isKept tape fed pos tlen flt ranking paper written pairs above below isDone dist rowv rowMany lsz itm weakAbove weakBelow))) rfl ?_
  refine e_if (c := lg_cmp ((above one)) (lN 0) < 0) rfl (fun c_1 => ?_) (fun c_1 => ?_)
  · rw [lg_cmp_lt] at c_1
    refine e_steps 3 (σ' := (27, [(0, .ref 0), (1, .int (nI m)), (2, .int (nI one)), (3, .int (nI other))], [.int (nI one), .ref 8], (MH g kept was isKept tape fed pos tlen flt ranking paper written pairs above below isDone dist rowv rowMany lsz itm weakAbove weakBelow))) rfl ?_
    refine e_lal (above one) rfl rfl (by first | assumption | omega | rfl | trivial | exact z_im_no h1 (by assumption) | contradiction | exact z_im_yes h1 h2 (by first | assumption | exact Int64.not_lt.mpr (by assumption)) (by first | assumption | exact Int64.not_le.mp (by assumption)) | (rw [ek1, ek2]; assumption)) (by decide) (rfl) ?_
    refine e_steps 2 (σ' := (30, [(0, .ref 0), (1, .int (nI m)), (2, .int (nI one)), (3, .int (nI other))], [.int ((lg_cmp ((above one)) (lN 0)))], (MH g kept was isKept tape fed pos tlen flt ranking paper written pairs above below isDone dist rowv rowMany lsz itm weakAbove weakBelow))) rfl ?_
    refine e_if (c := lg_cmp ((above one)) (lN 0) < 0) rfl (fun c_2 => ?_) (fun c_2 => ?_)
    · rw [lg_cmp_lt] at c_2
      refine e_steps 1 (σ' := (49, [(0, .ref 0), (1, .int (nI m)), (2, .int (nI one)), (3, .int (nI other))], [.int (nI 0)], (MH g kept was isKept tape fed pos tlen flt ranking paper written pairs above below isDone dist rowv rowMany lsz itm weakAbove weakBelow))) rfl ?_
      exact e_ret rfl (Or.inl rfl) (hR _ _ ⟨rfl, Or.inr ⟨rfl, (by first | assumption | omega | rfl | trivial | exact z_im_no h1 (by assumption) | contradiction | exact z_im_yes h1 h2 (by first | assumption | exact Int64.not_lt.mpr (by assumption)) (by first | assumption | exact Int64.not_le.mp (by assumption)) | (rw [ek1, ek2]; assumption))⟩⟩)
    · rw [lg_cmp_lt] at c_2
      refine e_steps 3 (σ' := (38, [(0, .ref 0), (1, .int (nI m)), (2, .int (nI one)), (3, .int (nI other))], [.int (nI other), .ref 8], (MH g kept was isKept tape fed pos tlen flt ranking paper written pairs above below isDone dist rowv rowMany lsz itm weakAbove weakBelow))) rfl ?_
      refine e_lal (above other) rfl rfl (by first | assumption | omega | rfl | trivial | exact z_im_no h1 (by assumption) | contradiction | exact z_im_yes h1 h2 (by first | assumption | exact Int64.not_lt.mpr (by assumption)) (by first | assumption | exact Int64.not_le.mp (by assumption)) | (rw [ek1, ek2]; assumption)) (by decide) (rfl) ?_
      refine e_steps 2 (σ' := (41, [(0, .ref 0), (1, .int (nI m)), (2, .int (nI one)), (3, .int (nI other))], [.int ((lg_cmp ((above other)) (lN 0)))], (MH g kept was isKept tape fed pos tlen flt ranking paper written pairs above below isDone dist rowv rowMany lsz itm weakAbove weakBelow))) rfl ?_
      refine e_if (c := 0 ≤ lg_cmp ((above other)) (lN 0)) rfl (fun c_3 => ?_) (fun c_3 => ?_)
      · rw [lg_cmp_ge] at c_3
        refine e_steps 1 (σ' := (49, [(0, .ref 0), (1, .int (nI m)), (2, .int (nI one)), (3, .int (nI other))], [.int (nI 0)], (MH g kept was isKept tape fed pos tlen flt ranking paper written pairs above below isDone dist rowv rowMany lsz itm weakAbove weakBelow))) rfl ?_
        exact e_ret rfl (Or.inl rfl) (hR _ _ ⟨rfl, Or.inr ⟨rfl, (by first | assumption | omega | rfl | trivial | exact z_im_no h1 (by assumption) | contradiction | exact z_im_yes h1 h2 (by first | assumption | exact Int64.not_lt.mpr (by assumption)) (by first | assumption | exact Int64.not_le.mp (by assumption)) | (rw [ek1, ek2]; assumption))⟩⟩)
      · rw [lg_cmp_ge] at c_3
        refine e_steps 2 (σ' := (49, [(0, .ref 0), (1, .int (nI m)), (2, .int (nI one)), (3, .int (nI other))], [.int (nI 1)], (MH g kept was isKept tape fed pos tlen flt ranking paper written pairs above below isDone dist rowv rowMany lsz itm weakAbove weakBelow))) rfl ?_
        exact e_ret rfl (Or.inr rfl) (hR _ _ ⟨rfl, Or.inl ⟨rfl, (by first | assumption | omega | rfl | trivial | exact z_im_no h1 (by assumption) | contradiction | exact z_im_yes h1 h2 (by first | assumption | exact Int64.not_lt.mpr (by assumption)) (by first | assumption | exact Int64.not_le.mp (by assumption)) | (rw [ek1, ek2]; assumption))⟩⟩)
  · rw [lg_cmp_lt] at c_1
    refine e_steps 3 (σ' := (16, [(0, .ref 0), (1, .int (nI m)), (2, .int (nI one)), (3, .int (nI other))], [.int (nI other), .ref 8], (MH g kept was isKept tape fed pos tlen flt ranking paper written pairs above below isDone dist rowv rowMany lsz itm weakAbove weakBelow))) rfl ?_
    refine e_lal (above other) rfl rfl (by first | assumption | omega | rfl | trivial | exact z_im_no h1 (by assumption) | contradiction | exact z_im_yes h1 h2 (by first | assumption | exact Int64.not_lt.mpr (by assumption)) (by first | assumption | exact Int64.not_le.mp (by assumption)) | (rw [ek1, ek2]; assumption)) (by decide) (rfl) ?_
    refine e_steps 2 (σ' := (19, [(0, .ref 0), (1, .int (nI m)), (2, .int (nI one)), (3, .int (nI other))], [.int ((lg_cmp ((above other)) (lN 0)))], (MH g kept was isKept tape fed pos tlen flt ranking paper written pairs above below isDone dist rowv rowMany lsz itm weakAbove weakBelow))) rfl ?_
    refine e_if (c := 0 ≤ lg_cmp ((above other)) (lN 0)) rfl (fun c_4 => ?_) (fun c_4 => ?_)
    · rw [lg_cmp_ge] at c_4
      refine e_steps 0 (σ' := (50, [(0, .ref 0), (1, .int (nI m)), (2, .int (nI one)), (3, .int (nI other))], [], (MH g kept was isKept tape fed pos tlen flt ranking paper written pairs above below isDone dist rowv rowMany lsz itm weakAbove weakBelow))) rfl ?_
      obtain ⟨a1, b1, ea1, eb1, hab1, hA1, ek1⟩ := z_AB1_some h1 (by first | assumption | exact Int64.not_lt.mpr (by assumption)); obtain ⟨a2, b2, ea2, eb2, hab2, hA2, ek2⟩ := z_AB1_some h2 (by first | assumption | exact Int64.not_lt.mpr (by assumption))
      refine e_steps 4 (σ' := (56, [(0, .ref 0), (1, .int (nI m)), (2, .int (nI one)), (3, .int (nI other))], [.int (nI one), .ref 8, .int (nI m)], (MH g kept was isKept tape fed pos tlen flt ranking paper written pairs above below isDone dist rowv rowMany lsz itm weakAbove weakBelow))) rfl ?_
      refine e_lal (lN a1) rfl rfl (by first | assumption | omega | rfl | trivial | exact z_im_no h1 (by assumption) | contradiction | exact z_im_yes h1 h2 (by first | assumption | exact Int64.not_lt.mpr (by assumption)) (by first | assumption | exact Int64.not_le.mp (by assumption)) | (rw [ek1, ek2]; assumption)) (by decide) (ea1) ?_
      refine e_steps 3 (σ' := (62, [(0, .ref 0), (1, .int (nI m)), (2, .int (nI one)), (3, .int (nI other))], [.int (nI one), .ref 9, .long (lN a1), .int (nI m)], (MH g kept was isKept tape fed pos tlen flt ranking paper written pairs above below isDone dist rowv rowMany lsz itm weakAbove weakBelow))) rfl ?_
      refine e_lal (lN b1) rfl rfl (by first | assumption | omega | rfl | trivial | exact z_im_no h1 (by assumption) | contradiction | exact z_im_yes h1 h2 (by first | assumption | exact Int64.not_lt.mpr (by assumption)) (by first | assumption | exact Int64.not_le.mp (by assumption)) | (rw [ek1, ek2]; assumption)) (by decide) (eb1) ?_
      refine e_steps 3 (σ' := (68, [(0, .ref 0), (1, .int (nI m)), (2, .int (nI one)), (3, .int (nI other))], [.int (nI other), .ref 8, .long (lN b1), .long (lN a1), .int (nI m)], (MH g kept was isKept tape fed pos tlen flt ranking paper written pairs above below isDone dist rowv rowMany lsz itm weakAbove weakBelow))) rfl ?_
      refine e_lal (lN a2) rfl rfl (by first | assumption | omega | rfl | trivial | exact z_im_no h1 (by assumption) | contradiction | exact z_im_yes h1 h2 (by first | assumption | exact Int64.not_lt.mpr (by assumption)) (by first | assumption | exact Int64.not_le.mp (by assumption)) | (rw [ek1, ek2]; assumption)) (by decide) (ea2) ?_
      refine e_steps 3 (σ' := (74, [(0, .ref 0), (1, .int (nI m)), (2, .int (nI one)), (3, .int (nI other))], [.int (nI other), .ref 9, .long (lN a2), .long (lN b1), .long (lN a1), .int (nI m)], (MH g kept was isKept tape fed pos tlen flt ranking paper written pairs above below isDone dist rowv rowMany lsz itm weakAbove weakBelow))) rfl ?_
      refine e_lal (lN b2) rfl rfl (by first | assumption | omega | rfl | trivial | exact z_im_no h1 (by assumption) | contradiction | exact z_im_yes h1 h2 (by first | assumption | exact Int64.not_lt.mpr (by assumption)) (by first | assumption | exact Int64.not_le.mp (by assumption)) | (rw [ek1, ek2]; assumption)) (by decide) (eb2) ?_
      refine e_steps 0 (σ' := (75, [(0, .ref 0), (1, .int (nI m)), (2, .int (nI one)), (3, .int (nI other))], [.long (lN b2), .long (lN a2), .long (lN b1), .long (lN a1), .int (nI m)], (MH g kept was isKept tape fed pos tlen flt ranking paper written pairs above below isDone dist rowv rowMany lsz itm weakAbove weakBelow))) rfl ?_
      refine e_call (y := 178) (av := [.int (nI m), .long (lN a1), .long (lN b1), .long (lN a2), .long (lN b2)]) (rest := []) rfl (c_X6_isStronger (d + 0) (by first | assumption | omega | rfl | trivial | exact z_im_no h1 (by assumption) | contradiction | exact z_im_yes h1 h2 (by first | assumption | exact Int64.not_lt.mpr (by assumption)) (by first | assumption | exact Int64.not_le.mp (by assumption)) | (rw [ek1, ek2]; assumption)) (by first | assumption | omega | rfl | trivial | exact z_im_no h1 (by assumption) | contradiction | exact z_im_yes h1 h2 (by first | assumption | exact Int64.not_lt.mpr (by assumption)) (by first | assumption | exact Int64.not_le.mp (by assumption)) | (rw [ek1, ek2]; assumption)) (by first | assumption | omega | rfl | trivial | exact z_im_no h1 (by assumption) | contradiction | exact z_im_yes h1 h2 (by first | assumption | exact Int64.not_lt.mpr (by assumption)) (by first | assumption | exact Int64.not_le.mp (by assumption)) | (rw [ek1, ek2]; assumption)) (by first | assumption | omega | rfl | trivial | exact z_im_no h1 (by assumption) | contradiction | exact z_im_yes h1 h2 (by first | assumption | exact Int64.not_lt.mpr (by assumption)) (by first | assumption | exact Int64.not_le.mp (by assumption)) | (rw [ek1, ek2]; assumption)) (by first | assumption | omega | rfl | trivial | exact z_im_no h1 (by assumption) | contradiction | exact z_im_yes h1 h2 (by first | assumption | exact Int64.not_lt.mpr (by assumption)) (by first | assumption | exact Int64.not_le.mp (by assumption)) | (rw [ek1, ek2]; assumption))) (fun r_5 h_5 p_5 => ?_)
      obtain ⟨rfl, o_5⟩ := p_5
      rcases o_5 with ⟨rfl, o_5⟩ | ⟨rfl, o_5⟩
      · skip
        refine e_steps 0 (σ' := (78, [(0, .ref 0), (1, .int (nI m)), (2, .int (nI one)), (3, .int (nI other))], [.int (nI 1)], (MH g kept was isKept tape fed pos tlen flt ranking paper written pairs above below isDone dist rowv rowMany lsz itm weakAbove weakBelow))) rfl ?_
        exact e_ret rfl (Or.inr rfl) (hR _ _ ⟨rfl, Or.inl ⟨rfl, (by first | assumption | omega | rfl | trivial | exact z_im_no h1 (by assumption) | contradiction | exact z_im_yes h1 h2 (by first | assumption | exact Int64.not_lt.mpr (by assumption)) (by first | assumption | exact Int64.not_le.mp (by assumption)) | (rw [ek1, ek2]; assumption))⟩⟩)
      · skip
        refine e_steps 0 (σ' := (78, [(0, .ref 0), (1, .int (nI m)), (2, .int (nI one)), (3, .int (nI other))], [.int (nI 0)], (MH g kept was isKept tape fed pos tlen flt ranking paper written pairs above below isDone dist rowv rowMany lsz itm weakAbove weakBelow))) rfl ?_
        exact e_ret rfl (Or.inl rfl) (hR _ _ ⟨rfl, Or.inr ⟨rfl, (by first | assumption | omega | rfl | trivial | exact z_im_no h1 (by assumption) | contradiction | exact z_im_yes h1 h2 (by first | assumption | exact Int64.not_lt.mpr (by assumption)) (by first | assumption | exact Int64.not_le.mp (by assumption)) | (rw [ek1, ek2]; assumption))⟩⟩)
    · rw [lg_cmp_ge] at c_4
      refine e_steps 3 (σ' := (27, [(0, .ref 0), (1, .int (nI m)), (2, .int (nI one)), (3, .int (nI other))], [.int (nI one), .ref 8], (MH g kept was isKept tape fed pos tlen flt ranking paper written pairs above below isDone dist rowv rowMany lsz itm weakAbove weakBelow))) rfl ?_
      refine e_lal (above one) rfl rfl (by first | assumption | omega | rfl | trivial | exact z_im_no h1 (by assumption) | contradiction | exact z_im_yes h1 h2 (by first | assumption | exact Int64.not_lt.mpr (by assumption)) (by first | assumption | exact Int64.not_le.mp (by assumption)) | (rw [ek1, ek2]; assumption)) (by decide) (rfl) ?_
      refine e_steps 2 (σ' := (30, [(0, .ref 0), (1, .int (nI m)), (2, .int (nI one)), (3, .int (nI other))], [.int ((lg_cmp ((above one)) (lN 0)))], (MH g kept was isKept tape fed pos tlen flt ranking paper written pairs above below isDone dist rowv rowMany lsz itm weakAbove weakBelow))) rfl ?_
      refine e_if (c := lg_cmp ((above one)) (lN 0) < 0) rfl (fun c_6 => ?_) (fun c_6 => ?_)
      · rw [lg_cmp_lt] at c_6
        refine e_steps 1 (σ' := (49, [(0, .ref 0), (1, .int (nI m)), (2, .int (nI one)), (3, .int (nI other))], [.int (nI 0)], (MH g kept was isKept tape fed pos tlen flt ranking paper written pairs above below isDone dist rowv rowMany lsz itm weakAbove weakBelow))) rfl ?_
        exact e_ret rfl (Or.inl rfl) (hR _ _ ⟨rfl, Or.inr ⟨rfl, (by first | assumption | omega | rfl | trivial | exact z_im_no h1 (by assumption) | contradiction | exact z_im_yes h1 h2 (by first | assumption | exact Int64.not_lt.mpr (by assumption)) (by first | assumption | exact Int64.not_le.mp (by assumption)) | (rw [ek1, ek2]; assumption))⟩⟩)
      · rw [lg_cmp_lt] at c_6
        refine e_steps 3 (σ' := (38, [(0, .ref 0), (1, .int (nI m)), (2, .int (nI one)), (3, .int (nI other))], [.int (nI other), .ref 8], (MH g kept was isKept tape fed pos tlen flt ranking paper written pairs above below isDone dist rowv rowMany lsz itm weakAbove weakBelow))) rfl ?_
        refine e_lal (above other) rfl rfl (by first | assumption | omega | rfl | trivial | exact z_im_no h1 (by assumption) | contradiction | exact z_im_yes h1 h2 (by first | assumption | exact Int64.not_lt.mpr (by assumption)) (by first | assumption | exact Int64.not_le.mp (by assumption)) | (rw [ek1, ek2]; assumption)) (by decide) (rfl) ?_
        refine e_steps 2 (σ' := (41, [(0, .ref 0), (1, .int (nI m)), (2, .int (nI one)), (3, .int (nI other))], [.int ((lg_cmp ((above other)) (lN 0)))], (MH g kept was isKept tape fed pos tlen flt ranking paper written pairs above below isDone dist rowv rowMany lsz itm weakAbove weakBelow))) rfl ?_
        refine e_if (c := 0 ≤ lg_cmp ((above other)) (lN 0)) rfl (fun c_7 => ?_) (fun c_7 => ?_)
        · rw [lg_cmp_ge] at c_7
          refine e_steps 1 (σ' := (49, [(0, .ref 0), (1, .int (nI m)), (2, .int (nI one)), (3, .int (nI other))], [.int (nI 0)], (MH g kept was isKept tape fed pos tlen flt ranking paper written pairs above below isDone dist rowv rowMany lsz itm weakAbove weakBelow))) rfl ?_
          exact e_ret rfl (Or.inl rfl) (hR _ _ ⟨rfl, Or.inr ⟨rfl, (by first | assumption | omega | rfl | trivial | exact z_im_no h1 (by assumption) | contradiction | exact z_im_yes h1 h2 (by first | assumption | exact Int64.not_lt.mpr (by assumption)) (by first | assumption | exact Int64.not_le.mp (by assumption)) | (rw [ek1, ek2]; assumption))⟩⟩)
        · rw [lg_cmp_ge] at c_7
          refine e_steps 2 (σ' := (49, [(0, .ref 0), (1, .int (nI m)), (2, .int (nI one)), (3, .int (nI other))], [.int (nI 1)], (MH g kept was isKept tape fed pos tlen flt ranking paper written pairs above below isDone dist rowv rowMany lsz itm weakAbove weakBelow))) rfl ?_
          exact e_ret rfl (Or.inr rfl) (hR _ _ ⟨rfl, Or.inl ⟨rfl, (by first | assumption | omega | rfl | trivial | exact z_im_no h1 (by assumption) | contradiction | exact z_im_yes h1 h2 (by first | assumption | exact Int64.not_lt.mpr (by assumption)) (by first | assumption | exact Int64.not_le.mp (by assumption)) | (rw [ek1, ek2]; assumption))⟩⟩)
theorem c_X6_takes (d : Nat) {g : Nat → Int32} {kept : Nat → Int32} {was : Nat → Int32} {isKept : Int32} {tape : Nat → Int32} {fed : Int32} {pos : Int32} {tlen : Int32} {flt : Int32} {ranking : Nat → Int32} {paper : Nat → Int32} {written : Int32} {pairs : Nat → Int64} {above : Nat → Int64} {below : Nat → Int64} {isDone : Nat → Int32} {dist : Nat → Int32} {rowv : Nat → Int32} {rowMany : Int32} {lsz : Nat → Int32} {itm : Nat → Int64} {weakAbove : Int64} {weakBelow : Int64} {m : Nat} {ix : Nat} {a : Nat} {b : Nat} {k : Nat} (hA : z_AB1 m (above ix) (below ix) k) (hix : ix < 64) (hm : m < 4) (hba : b < a) (haM : a ≤ 41000000) : z_CAL (d + 2) 180 [.ref 0, .int (nI m), .int (nI ix), .long (lN a), .long (lN b)] (MH g kept was isKept tape fed pos tlen flt ranking paper written pairs above below isDone dist rowv rowMany lsz itm weakAbove weakBelow) (fun r h2 => ∃ (ab2 : Nat → Int64) (be2 : Nat → Int64), r = none ∧ h2 = (MH g kept was isKept tape fed pos tlen flt ranking paper written pairs ab2 be2 isDone dist rowv rowMany lsz itm weakAbove weakBelow) ∧ (z_AB1 m (ab2 ix) (be2 ix) (max k (z_key m a b)) ∧ ∀ j, j ≠ ix → ab2 j = above j ∧ be2 j = below j)) := by
  refine e_of2 (q := zmX6_takes) rfl rfl (fun R hR => ?_)
  refine e_steps 3 (σ' := (5, [(0, .ref 0), (1, .int (nI m)), (2, .int (nI ix)), (3, .long (lN a)), (5, .long (lN b))], [.int (nI ix), .ref 8], (MH g kept was isKept tape fed pos tlen flt ranking paper written pairs above below isDone dist rowv rowMany lsz itm weakAbove weakBelow))) rfl ?_
  refine e_lal (above ix) rfl rfl (by first | assumption | omega | rfl | trivial) (by decide) (rfl) ?_
  refine e_steps 2 (σ' := (8, [(0, .ref 0), (1, .int (nI m)), (2, .int (nI ix)), (3, .long (lN a)), (5, .long (lN b))], [.int ((lg_cmp ((above ix)) (lN 0)))], (MH g kept was isKept tape fed pos tlen flt ranking paper written pairs above below isDone dist rowv rowMany lsz itm weakAbove weakBelow))) rfl ?_
  refine e_if (c := lg_cmp ((above ix)) (lN 0) < 0) rfl (fun c_1 => ?_) (fun c_1 => ?_)
  · rw [lg_cmp_lt] at c_1
    refine e_steps 4 (σ' := (39, [(0, .ref 0), (1, .int (nI m)), (2, .int (nI ix)), (3, .long (lN a)), (5, .long (lN b))], [.long (lN a), .int (nI ix), .ref 8], (MH g kept was isKept tape fed pos tlen flt ranking paper written pairs above below isDone dist rowv rowMany lsz itm weakAbove weakBelow))) rfl ?_
    refine e_las (MH g kept was isKept tape fed pos tlen flt ranking paper written pairs (vp_updL above ix (lN a)) below isDone dist rowv rowMany lsz itm weakAbove weakBelow) rfl rfl (by first | assumption | omega | rfl | trivial) (by decide) rfl ?_
    refine e_steps 4 (σ' := (47, [(0, .ref 0), (1, .int (nI m)), (2, .int (nI ix)), (3, .long (lN a)), (5, .long (lN b))], [.long (lN b), .int (nI ix), .ref 9], (MH g kept was isKept tape fed pos tlen flt ranking paper written pairs (vp_updL above ix (lN a)) below isDone dist rowv rowMany lsz itm weakAbove weakBelow))) rfl ?_
    refine e_las (MH g kept was isKept tape fed pos tlen flt ranking paper written pairs (vp_updL above ix (lN a)) (vp_updL below ix (lN b)) isDone dist rowv rowMany lsz itm weakAbove weakBelow) rfl rfl (by first | assumption | omega | rfl | trivial) (by decide) rfl ?_
    refine e_steps 0 (σ' := (48, [(0, .ref 0), (1, .int (nI m)), (2, .int (nI ix)), (3, .long (lN a)), (5, .long (lN b))], [], (MH g kept was isKept tape fed pos tlen flt ranking paper written pairs (vp_updL above ix (lN a)) (vp_updL below ix (lN b)) isDone dist rowv rowMany lsz itm weakAbove weakBelow))) rfl ?_
    exact e_ret rfl (trivial) (hR _ _ ⟨vp_updL above ix (lN a), vp_updL below ix (lN b), rfl, rfl, (by first | exact ⟨z_tk (by rw [z_AB1_none hA (by assumption)]; exact Nat.zero_le _) hba haM, fun j hj => ⟨z_upL hj, z_upL hj⟩⟩ | exact ⟨z_tk (by omega) hba haM, fun j hj => ⟨z_upL hj, z_upL hj⟩⟩ | exact ⟨z_tk0 hA (by omega), fun j _ => ⟨rfl, rfl⟩⟩)⟩)
  · rw [lg_cmp_lt] at c_1
    refine e_steps 0 (σ' := (11, [(0, .ref 0), (1, .int (nI m)), (2, .int (nI ix)), (3, .long (lN a)), (5, .long (lN b))], [], (MH g kept was isKept tape fed pos tlen flt ranking paper written pairs above below isDone dist rowv rowMany lsz itm weakAbove weakBelow))) rfl ?_
    obtain ⟨a1, b1, ea1, eb1, hab1, hA1, ek1⟩ := z_AB1_some hA (by assumption)
    refine e_steps 6 (σ' := (20, [(0, .ref 0), (1, .int (nI m)), (2, .int (nI ix)), (3, .long (lN a)), (5, .long (lN b))], [.int (nI ix), .ref 8, .long (lN b), .long (lN a), .int (nI m)], (MH g kept was isKept tape fed pos tlen flt ranking paper written pairs above below isDone dist rowv rowMany lsz itm weakAbove weakBelow))) rfl ?_
    refine e_lal (lN a1) rfl rfl (by first | assumption | omega | rfl | trivial) (by decide) (ea1) ?_
    refine e_steps 3 (σ' := (26, [(0, .ref 0), (1, .int (nI m)), (2, .int (nI ix)), (3, .long (lN a)), (5, .long (lN b))], [.int (nI ix), .ref 9, .long (lN a1), .long (lN b), .long (lN a), .int (nI m)], (MH g kept was isKept tape fed pos tlen flt ranking paper written pairs above below isDone dist rowv rowMany lsz itm weakAbove weakBelow))) rfl ?_
    refine e_lal (lN b1) rfl rfl (by first | assumption | omega | rfl | trivial) (by decide) (eb1) ?_
    refine e_steps 0 (σ' := (27, [(0, .ref 0), (1, .int (nI m)), (2, .int (nI ix)), (3, .long (lN a)), (5, .long (lN b))], [.long (lN b1), .long (lN a1), .long (lN b), .long (lN a), .int (nI m)], (MH g kept was isKept tape fed pos tlen flt ranking paper written pairs above below isDone dist rowv rowMany lsz itm weakAbove weakBelow))) rfl ?_
    refine e_call (y := 178) (av := [.int (nI m), .long (lN a), .long (lN b), .long (lN a1), .long (lN b1)]) (rest := []) rfl (c_X6_isStronger (d + 0) (by first | assumption | omega | rfl | trivial) (by first | assumption | omega | rfl | trivial) (by first | assumption | omega | rfl | trivial) (by first | assumption | omega | rfl | trivial) (by first | assumption | omega | rfl | trivial)) (fun r_2 h_2 p_2 => ?_)
    obtain ⟨rfl, o_2⟩ := p_2
    rcases o_2 with ⟨rfl, o_2⟩ | ⟨rfl, o_2⟩
    · skip
      refine e_steps 5 (σ' := (39, [(0, .ref 0), (1, .int (nI m)), (2, .int (nI ix)), (3, .long (lN a)), (5, .long (lN b))], [.long (lN a), .int (nI ix), .ref 8], (MH g kept was isKept tape fed pos tlen flt ranking paper written pairs above below isDone dist rowv rowMany lsz itm weakAbove weakBelow))) rfl ?_
      refine e_las (MH g kept was isKept tape fed pos tlen flt ranking paper written pairs (vp_updL above ix (lN a)) below isDone dist rowv rowMany lsz itm weakAbove weakBelow) rfl rfl (by first | assumption | omega | rfl | trivial) (by decide) rfl ?_
      refine e_steps 4 (σ' := (47, [(0, .ref 0), (1, .int (nI m)), (2, .int (nI ix)), (3, .long (lN a)), (5, .long (lN b))], [.long (lN b), .int (nI ix), .ref 9], (MH g kept was isKept tape fed pos tlen flt ranking paper written pairs (vp_updL above ix (lN a)) below isDone dist rowv rowMany lsz itm weakAbove weakBelow))) rfl ?_
      refine e_las (MH g kept was isKept tape fed pos tlen flt ranking paper written pairs (vp_updL above ix (lN a)) (vp_updL below ix (lN b)) isDone dist rowv rowMany lsz itm weakAbove weakBelow) rfl rfl (by first | assumption | omega | rfl | trivial) (by decide) rfl ?_
      refine e_steps 0 (σ' := (48, [(0, .ref 0), (1, .int (nI m)), (2, .int (nI ix)), (3, .long (lN a)), (5, .long (lN b))], [], (MH g kept was isKept tape fed pos tlen flt ranking paper written pairs (vp_updL above ix (lN a)) (vp_updL below ix (lN b)) isDone dist rowv rowMany lsz itm weakAbove weakBelow))) rfl ?_
      exact e_ret rfl (trivial) (hR _ _ ⟨vp_updL above ix (lN a), vp_updL below ix (lN b), rfl, rfl, (by first | exact ⟨z_tk (by rw [z_AB1_none hA (by assumption)]; exact Nat.zero_le _) hba haM, fun j hj => ⟨z_upL hj, z_upL hj⟩⟩ | exact ⟨z_tk (by omega) hba haM, fun j hj => ⟨z_upL hj, z_upL hj⟩⟩ | exact ⟨z_tk0 hA (by omega), fun j _ => ⟨rfl, rfl⟩⟩)⟩)
    · skip
      refine e_steps 1 (σ' := (48, [(0, .ref 0), (1, .int (nI m)), (2, .int (nI ix)), (3, .long (lN a)), (5, .long (lN b))], [], (MH g kept was isKept tape fed pos tlen flt ranking paper written pairs above below isDone dist rowv rowMany lsz itm weakAbove weakBelow))) rfl ?_
      exact e_ret rfl (trivial) (hR _ _ ⟨above, below, rfl, rfl, (by first | exact ⟨z_tk (by rw [z_AB1_none hA (by assumption)]; exact Nat.zero_le _) hba haM, fun j hj => ⟨z_upL hj, z_upL hj⟩⟩ | exact ⟨z_tk (by omega) hba haM, fun j hj => ⟨z_upL hj, z_upL hj⟩⟩ | exact ⟨z_tk0 hA (by omega), fun j _ => ⟨rfl, rfl⟩⟩)⟩)
theorem c_X6_strongestLeft (d : Nat) {g : Nat → Int32} {kept : Nat → Int32} {was : Nat → Int32} {isKept : Int32} {tape : Nat → Int32} {fed : Int32} {pos : Int32} {tlen : Int32} {flt : Int32} {ranking : Nat → Int32} {paper : Nat → Int32} {written : Int32} {pairs : Nat → Int64} {above : Nat → Int64} {below : Nat → Int64} {isDone : Nat → Int32} {dist : Nat → Int32} {rowv : Nat → Int32} {rowMany : Int32} {lsz : Nat → Int32} {itm : Nat → Int64} {weakAbove : Int64} {weakBelow : Int64} {m : Nat} {fr : Nat} {n : Nat} {outs : Nat} {bm : Nat} {ms : Nat} {dr : Nat → Nat} {cn : Nat → Nat} {pl : Nat → Nat → Nat} {K : Nat → Nat} {D : Nat → Nat} (hG : z_GI g n outs bm ms dr cn pl) (hfr : fr < n) (hA : ∀ c, c < 8 → z_AB1 m (above (8 * fr + c)) (below (8 * fr + c)) (K c)) (hD : ∀ c, c < 8 → isDone c = nI (D c) ∧ D c < 2) (hm : m < 4) : z_CAL (d + 3) 181 [.ref 0, .int (nI m), .int (nI fr)] (MH g kept was isKept tape fed pos tlen flt ranking paper written pairs above below isDone dist rowv rowMany lsz itm weakAbove weakBelow) (fun r h2 => h2 = (MH g kept was isKept tape fed pos tlen flt ranking paper written pairs above below isDone dist rowv rowMany lsz itm weakAbove weakBelow) ∧ ((∃ (bst : Nat), r = some (.int (nI bst)) ∧ (bst < n ∧ D bst = 0 ∧ 0 < K bst ∧ ∀ c, c < n → D c = 0 → K c ≤ K bst)) ∨ (r = some (.int ((-nI 1))) ∧ (∀ c, c < n → D c = 0 → K c = 0)))) := by
  refine e_of2 (q := zmX6_strongestLeft) rfl rfl (fun R hR => ?_)
  obtain ⟨⟨hn0, hn2, hn8⟩, ⟨ho0, ho8, hin⟩, ⟨hb0, hb40⟩, ⟨hm0, hm4⟩, ⟨hdr, hdl, hdc⟩, hcn, hpl⟩ := id hG; have hp8 := z_p2 hn8; have ho256 : outs < 256 := (by omega); have hi256 : z_dif (2 ^ n - 1) outs < 256 := (by have := z_dif_le (s := 2 ^ n - 1) (t := outs); omega)
  refine e_steps 4 (σ' := (5, [(4, .int (nI 0)), (3, .int ((-nI 1))), (0, .ref 0), (1, .int (nI m)), (2, .int (nI fr))], [], (MH g kept was isKept tape fed pos tlen flt ranking paper written pairs above below isDone dist rowv rowMany lsz itm weakAbove weakBelow))) rfl ?_
  have loop_1 : ∀ (z_1 : Nat) (best : Int32) (j : Nat), n - j < z_1 → (j ≤ n ∧ z_sl D K best j) → z_EV (d + 2) zmX6_strongestLeft R (5, [(0, .ref 0), (1, .int (nI m)), (2, .int (nI fr)), (3, .int best), (4, .int (nI j))], [], (MH g kept was isKept tape fed pos tlen flt ranking paper written pairs above below isDone dist rowv rowMany lsz itm weakAbove weakBelow)) := by
    intro z_1
    induction z_1 with
    | zero => intro best j hm_1 _; exact absurd hm_1 (Nat.not_lt_zero _)
    | succ z_1 ih_1 =>
      intro best j hm_1 hi_1
      obtain ⟨l1, l2⟩ := hi_1
      refine e_steps 4 (σ' := (12, [(0, .ref 0), (1, .int (nI m)), (2, .int (nI fr)), (3, .int best), (4, .int (nI j))], [.int (nI 0), .ref 1, .int (nI j)], (MH g kept was isKept tape fed pos tlen flt ranking paper written pairs above below isDone dist rowv rowMany lsz itm weakAbove weakBelow))) rfl ?_
      refine e_ial (nI n) rfl rfl (by first | assumption | omega | rfl | trivial) (by decide) (hn0) ?_
      refine e_steps 0 (σ' := (13, [(0, .ref 0), (1, .int (nI m)), (2, .int (nI fr)), (3, .int best), (4, .int (nI j))], [.int (nI n), .int (nI j)], (MH g kept was isKept tape fed pos tlen flt ranking paper written pairs above below isDone dist rowv rowMany lsz itm weakAbove weakBelow))) rfl ?_
      refine e_if (c := nI n ≤ nI j) rfl (fun c_2 => ?_) (fun c_2 => ?_)
      · skip
        rw [nI_leI (by omega) (by omega)] at c_2
        refine e_steps 1 (σ' := (81, [(0, .ref 0), (1, .int (nI m)), (2, .int (nI fr)), (3, .int best), (4, .int (nI j))], [.int best], (MH g kept was isKept tape fed pos tlen flt ranking paper written pairs above below isDone dist rowv rowMany lsz itm weakAbove weakBelow))) rfl ?_
        exact e_ret rfl (trivial) (hR _ _ ⟨rfl, (by rcases l2 with ⟨rfl, h⟩ | ⟨q, rfl, h1, h2, h3, h4⟩; exact Or.inr ⟨rfl, fun c hc => h c (by omega)⟩; exact Or.inl ⟨q, rfl, by omega, h2, h3, fun c hc => h4 c (by omega)⟩)⟩)
      · skip
        rw [nI_leI (by omega) (by omega)] at c_2
        refine e_steps 3 (σ' := (22, [(0, .ref 0), (1, .int (nI m)), (2, .int (nI fr)), (3, .int best), (4, .int (nI j))], [.int (nI j), .ref 10], (MH g kept was isKept tape fed pos tlen flt ranking paper written pairs above below isDone dist rowv rowMany lsz itm weakAbove weakBelow))) rfl ?_
        refine e_bal (nI (D j)) rfl rfl (by first | assumption | omega | rfl | trivial) (by decide) ((hD _ (by omega)).1) ?_
        have hv_3 := (hD j (by omega)).2
        refine e_steps 0 (σ' := (23, [(0, .ref 0), (1, .int (nI m)), (2, .int (nI fr)), (3, .int best), (4, .int (nI j))], [.int (nI (D j))], (MH g kept was isKept tape fed pos tlen flt ranking paper written pairs above below isDone dist rowv rowMany lsz itm weakAbove weakBelow))) rfl ?_
        refine e_if (c := ¬ nI (D j) = 0) rfl (fun c_4 => ?_) (fun c_4 => ?_)
        · skip
          rw [z0_ne (by omega)] at c_4
          skip
          refine e_steps 0 (σ' := (74, [(0, .ref 0), (1, .int (nI m)), (2, .int (nI fr)), (3, .int best), (4, .int (nI j))], [], (MH g kept was isKept tape fed pos tlen flt ranking paper written pairs above below isDone dist rowv rowMany lsz itm weakAbove weakBelow))) rfl ?_
          refine e_inc (n := 1) rfl rfl rfl (j + 1) (by rfl) [(4, .int (nI (j + 1))), (0, .ref 0), (1, .int (nI m)), (2, .int (nI fr)), (3, .int best)] rfl ?_
          refine e_steps 1 (σ' := (5, [(4, .int (nI (j + 1))), (0, .ref 0), (1, .int (nI m)), (2, .int (nI fr)), (3, .int best)], [], (MH g kept was isKept tape fed pos tlen flt ranking paper written pairs above below isDone dist rowv rowMany lsz itm weakAbove weakBelow))) rfl ?_
          refine e_sub [1, 2, 3, 4, 0] rfl ?_
          exact ih_1 best (j + 1) (by omega) (by first | exact ⟨by omega, z_sl_skip l2 (fun e => absurd e (by omega))⟩ | exact ⟨by omega, z_sl_skip l2 (fun _ => z_AB1_none (hA j (by omega)) (by first | assumption | exact Int64.not_le.mp (by assumption)))⟩ | exact ⟨by omega, z_sl_new l2 (by omega) (by assumption) (by omega) (z_AB1_pos (hA j (by omega)) (by first | assumption | exact Int64.not_lt.mpr (by assumption)))⟩ | exact ⟨by omega, z_sl_put (fun c hc h1 => by have := hmx c hc h1; omega) (by omega) (by omega)⟩ | exact ⟨by omega, z_sl_keep hqj hDq hKq hmx (by assumption)⟩)
        · skip
          rw [z0_ne (by omega)] at c_4
          replace c_4 := Decidable.not_not.mp c_4
          refine e_steps 4 (σ' := (33, [(0, .ref 0), (1, .int (nI m)), (2, .int (nI fr)), (3, .int best), (4, .int (nI j))], [.int (nI fr), .int (nI 8), .ref 8], (MH g kept was isKept tape fed pos tlen flt ranking paper written pairs above below isDone dist rowv rowMany lsz itm weakAbove weakBelow))) rfl ?_
          refine e_mul (8 * fr) rfl (by first | rfl | omega | simp) ?_
          refine e_steps 1 (σ' := (36, [(0, .ref 0), (1, .int (nI m)), (2, .int (nI fr)), (3, .int best), (4, .int (nI j))], [.int (nI j), .int (nI (8 * fr)), .ref 8], (MH g kept was isKept tape fed pos tlen flt ranking paper written pairs above below isDone dist rowv rowMany lsz itm weakAbove weakBelow))) rfl ?_
          refine e_add (8 * fr + j) rfl (by first | rfl | omega) ?_
          refine e_steps 0 (σ' := (37, [(0, .ref 0), (1, .int (nI m)), (2, .int (nI fr)), (3, .int best), (4, .int (nI j))], [.int (nI (8 * fr + j)), .ref 8], (MH g kept was isKept tape fed pos tlen flt ranking paper written pairs above below isDone dist rowv rowMany lsz itm weakAbove weakBelow))) rfl ?_
          refine e_lal (above (8 * fr + j)) rfl rfl (by first | assumption | omega | rfl | trivial) (by decide) (rfl) ?_
          refine e_steps 2 (σ' := (40, [(0, .ref 0), (1, .int (nI m)), (2, .int (nI fr)), (3, .int best), (4, .int (nI j))], [.int ((lg_cmp ((above (8 * fr + j))) (lN 0)))], (MH g kept was isKept tape fed pos tlen flt ranking paper written pairs above below isDone dist rowv rowMany lsz itm weakAbove weakBelow))) rfl ?_
          refine e_if (c := 0 ≤ lg_cmp ((above (8 * fr + j))) (lN 0)) rfl (fun c_5 => ?_) (fun c_5 => ?_)
          · rw [lg_cmp_ge] at c_5
            refine e_steps 1 (σ' := (47, [(0, .ref 0), (1, .int (nI m)), (2, .int (nI fr)), (3, .int best), (4, .int (nI j))], [.int best], (MH g kept was isKept tape fed pos tlen flt ranking paper written pairs above below isDone dist rowv rowMany lsz itm weakAbove weakBelow))) rfl ?_
            refine e_if (c := best < 0) rfl (fun c_6 => ?_) (fun c_6 => ?_)
            · skip
              refine e_steps 2 (σ' := (74, [(3, .int (nI j)), (0, .ref 0), (1, .int (nI m)), (2, .int (nI fr)), (4, .int (nI j))], [], (MH g kept was isKept tape fed pos tlen flt ranking paper written pairs above below isDone dist rowv rowMany lsz itm weakAbove weakBelow))) rfl ?_
              refine e_inc (n := 1) rfl rfl rfl (j + 1) (by rfl) [(4, .int (nI (j + 1))), (3, .int (nI j)), (0, .ref 0), (1, .int (nI m)), (2, .int (nI fr))] rfl ?_
              refine e_steps 1 (σ' := (5, [(4, .int (nI (j + 1))), (3, .int (nI j)), (0, .ref 0), (1, .int (nI m)), (2, .int (nI fr))], [], (MH g kept was isKept tape fed pos tlen flt ranking paper written pairs above below isDone dist rowv rowMany lsz itm weakAbove weakBelow))) rfl ?_
              refine e_sub [2, 3, 4, 1, 0] rfl ?_
              exact ih_1 (nI j) (j + 1) (by omega) (by first | exact ⟨by omega, z_sl_skip l2 (fun e => absurd e (by omega))⟩ | exact ⟨by omega, z_sl_skip l2 (fun _ => z_AB1_none (hA j (by omega)) (by first | assumption | exact Int64.not_le.mp (by assumption)))⟩ | exact ⟨by omega, z_sl_new l2 (by omega) (by assumption) (by omega) (z_AB1_pos (hA j (by omega)) (by first | assumption | exact Int64.not_lt.mpr (by assumption)))⟩ | exact ⟨by omega, z_sl_put (fun c hc h1 => by have := hmx c hc h1; omega) (by omega) (by omega)⟩ | exact ⟨by omega, z_sl_keep hqj hDq hKq hmx (by assumption)⟩)
            · skip
              obtain ⟨best_7, hbest_7, ebest_7⟩ := nI_of c_6
              subst ebest_7
              refine e_steps 0 (σ' := (50, [(0, .ref 0), (1, .int (nI m)), (2, .int (nI fr)), (3, .int (nI best_7)), (4, .int (nI j))], [], (MH g kept was isKept tape fed pos tlen flt ranking paper written pairs above below isDone dist rowv rowMany lsz itm weakAbove weakBelow))) rfl ?_
              obtain ⟨q, e_q, hqj, hDq, hKq, hmx⟩ := z_sl_some l2 (by assumption)
              refine e_steps 4 (σ' := (55, [(0, .ref 0), (1, .int (nI m)), (2, .int (nI fr)), (3, .int (nI best_7)), (4, .int (nI j))], [.int (nI fr), .int (nI 8), .int (nI m), .ref 0], (MH g kept was isKept tape fed pos tlen flt ranking paper written pairs above below isDone dist rowv rowMany lsz itm weakAbove weakBelow))) rfl ?_
              refine e_mul (8 * fr) rfl (by first | rfl | omega | simp) ?_
              refine e_steps 1 (σ' := (58, [(0, .ref 0), (1, .int (nI m)), (2, .int (nI fr)), (3, .int (nI best_7)), (4, .int (nI j))], [.int (nI j), .int (nI (8 * fr)), .int (nI m), .ref 0], (MH g kept was isKept tape fed pos tlen flt ranking paper written pairs above below isDone dist rowv rowMany lsz itm weakAbove weakBelow))) rfl ?_
              refine e_add (8 * fr + j) rfl (by first | rfl | omega) ?_
              refine e_steps 2 (σ' := (62, [(0, .ref 0), (1, .int (nI m)), (2, .int (nI fr)), (3, .int (nI best_7)), (4, .int (nI j))], [.int (nI fr), .int (nI 8), .int (nI (8 * fr + j)), .int (nI m), .ref 0], (MH g kept was isKept tape fed pos tlen flt ranking paper written pairs above below isDone dist rowv rowMany lsz itm weakAbove weakBelow))) rfl ?_
              refine e_mul (8 * fr) rfl (by first | rfl | omega | simp) ?_
              refine e_steps 1 (σ' := (64, [(0, .ref 0), (1, .int (nI m)), (2, .int (nI fr)), (3, .int (nI best_7)), (4, .int (nI j))], [.int (nI best_7), .int (nI (8 * fr)), .int (nI (8 * fr + j)), .int (nI m), .ref 0], (MH g kept was isKept tape fed pos tlen flt ranking paper written pairs above below isDone dist rowv rowMany lsz itm weakAbove weakBelow))) rfl ?_
              have er_8 : nI best_7 = nI q := e_q
              rw [er_8]
              refine e_add (8 * fr + q) rfl (by first | rfl | omega) ?_
              refine e_steps 0 (σ' := (65, [(0, .ref 0), (1, .int (nI m)), (2, .int (nI fr)), (3, .int (nI q)), (4, .int (nI j))], [.int (nI (8 * fr + q)), .int (nI (8 * fr + j)), .int (nI m), .ref 0], (MH g kept was isKept tape fed pos tlen flt ranking paper written pairs above below isDone dist rowv rowMany lsz itm weakAbove weakBelow))) rfl ?_
              refine e_call (y := 179) (av := [.ref 0, .int (nI m), .int (nI (8 * fr + j)), .int (nI (8 * fr + q))]) (rest := []) rfl (c_X6_isMore (d + 0) (k1 := (K j)) (k2 := (K q)) (by exact hA j (by omega)) (by exact hA q (by omega)) (by first | assumption | omega | rfl | trivial) (by first | assumption | omega | rfl | trivial) (by first | assumption | omega | rfl | trivial)) (fun r_9 h_9 p_9 => ?_)
              obtain ⟨rfl, o_9⟩ := p_9
              rcases o_9 with ⟨rfl, o_9⟩ | ⟨rfl, o_9⟩
              · skip
                refine e_steps 3 (σ' := (74, [(3, .int (nI j)), (0, .ref 0), (1, .int (nI m)), (2, .int (nI fr)), (4, .int (nI j))], [], (MH g kept was isKept tape fed pos tlen flt ranking paper written pairs above below isDone dist rowv rowMany lsz itm weakAbove weakBelow))) rfl ?_
                refine e_inc (n := 1) rfl rfl rfl (j + 1) (by rfl) [(4, .int (nI (j + 1))), (3, .int (nI j)), (0, .ref 0), (1, .int (nI m)), (2, .int (nI fr))] rfl ?_
                refine e_steps 1 (σ' := (5, [(4, .int (nI (j + 1))), (3, .int (nI j)), (0, .ref 0), (1, .int (nI m)), (2, .int (nI fr))], [], (MH g kept was isKept tape fed pos tlen flt ranking paper written pairs above below isDone dist rowv rowMany lsz itm weakAbove weakBelow))) rfl ?_
                refine e_sub [2, 3, 4, 1, 0] rfl ?_
                exact ih_1 (nI j) (j + 1) (by omega) (by first | exact ⟨by omega, z_sl_skip l2 (fun e => absurd e (by omega))⟩ | exact ⟨by omega, z_sl_skip l2 (fun _ => z_AB1_none (hA j (by omega)) (by first | assumption | exact Int64.not_le.mp (by assumption)))⟩ | exact ⟨by omega, z_sl_new l2 (by omega) (by assumption) (by omega) (z_AB1_pos (hA j (by omega)) (by first | assumption | exact Int64.not_lt.mpr (by assumption)))⟩ | exact ⟨by omega, z_sl_put (fun c hc h1 => by have := hmx c hc h1; omega) (by omega) (by omega)⟩ | exact ⟨by omega, z_sl_keep hqj hDq hKq hmx (by assumption)⟩)
              · skip
                refine e_steps 1 (σ' := (74, [(0, .ref 0), (1, .int (nI m)), (2, .int (nI fr)), (3, .int (nI q)), (4, .int (nI j))], [], (MH g kept was isKept tape fed pos tlen flt ranking paper written pairs above below isDone dist rowv rowMany lsz itm weakAbove weakBelow))) rfl ?_
                refine e_inc (n := 1) rfl rfl rfl (j + 1) (by rfl) [(4, .int (nI (j + 1))), (0, .ref 0), (1, .int (nI m)), (2, .int (nI fr)), (3, .int (nI q))] rfl ?_
                refine e_steps 1 (σ' := (5, [(4, .int (nI (j + 1))), (0, .ref 0), (1, .int (nI m)), (2, .int (nI fr)), (3, .int (nI q))], [], (MH g kept was isKept tape fed pos tlen flt ranking paper written pairs above below isDone dist rowv rowMany lsz itm weakAbove weakBelow))) rfl ?_
                refine e_sub [1, 2, 3, 4, 0] rfl ?_
                exact ih_1 (nI q) (j + 1) (by omega) (by first | exact ⟨by omega, z_sl_skip l2 (fun e => absurd e (by omega))⟩ | exact ⟨by omega, z_sl_skip l2 (fun _ => z_AB1_none (hA j (by omega)) (by first | assumption | exact Int64.not_le.mp (by assumption)))⟩ | exact ⟨by omega, z_sl_new l2 (by omega) (by assumption) (by omega) (z_AB1_pos (hA j (by omega)) (by first | assumption | exact Int64.not_lt.mpr (by assumption)))⟩ | exact ⟨by omega, z_sl_put (fun c hc h1 => by have := hmx c hc h1; omega) (by omega) (by omega)⟩ | exact ⟨by omega, z_sl_keep hqj hDq hKq hmx (by assumption)⟩)
          · rw [lg_cmp_ge] at c_5
            refine e_steps 1 (σ' := (74, [(0, .ref 0), (1, .int (nI m)), (2, .int (nI fr)), (3, .int best), (4, .int (nI j))], [], (MH g kept was isKept tape fed pos tlen flt ranking paper written pairs above below isDone dist rowv rowMany lsz itm weakAbove weakBelow))) rfl ?_
            refine e_inc (n := 1) rfl rfl rfl (j + 1) (by rfl) [(4, .int (nI (j + 1))), (0, .ref 0), (1, .int (nI m)), (2, .int (nI fr)), (3, .int best)] rfl ?_
            refine e_steps 1 (σ' := (5, [(4, .int (nI (j + 1))), (0, .ref 0), (1, .int (nI m)), (2, .int (nI fr)), (3, .int best)], [], (MH g kept was isKept tape fed pos tlen flt ranking paper written pairs above below isDone dist rowv rowMany lsz itm weakAbove weakBelow))) rfl ?_
            refine e_sub [1, 2, 3, 4, 0] rfl ?_
            exact ih_1 best (j + 1) (by omega) (by first | exact ⟨by omega, z_sl_skip l2 (fun e => absurd e (by omega))⟩ | exact ⟨by omega, z_sl_skip l2 (fun _ => z_AB1_none (hA j (by omega)) (by first | assumption | exact Int64.not_le.mp (by assumption)))⟩ | exact ⟨by omega, z_sl_new l2 (by omega) (by assumption) (by omega) (z_AB1_pos (hA j (by omega)) (by first | assumption | exact Int64.not_lt.mpr (by assumption)))⟩ | exact ⟨by omega, z_sl_put (fun c hc h1 => by have := hmx c hc h1; omega) (by omega) (by omega)⟩ | exact ⟨by omega, z_sl_keep hqj hDq hKq hmx (by assumption)⟩)
  refine e_sub [2, 3, 4, 1, 0] rfl ?_
  exact loop_1 _ ((-nI 1)) 0 (Nat.lt_succ_self _) (by exact ⟨by omega, Or.inl ⟨rfl, fun c hc => absurd hc (Nat.not_lt_zero c)⟩⟩)
set_option maxRecDepth 20000 in
theorem c_X6_goesOn (d : Nat) {g : Nat → Int32} {kept : Nat → Int32} {was : Nat → Int32} {isKept : Int32} {tape : Nat → Int32} {fed : Int32} {pos : Int32} {tlen : Int32} {flt : Int32} {ranking : Nat → Int32} {paper : Nat → Int32} {written : Int32} {pairs : Nat → Int64} {above : Nat → Int64} {below : Nat → Int64} {isDone : Nat → Int32} {dist : Nat → Int32} {rowv : Nat → Int32} {rowMany : Int32} {lsz : Nat → Int32} {itm : Nat → Int64} {weakAbove : Int64} {weakBelow : Int64} {m : Nat} {s : Nat} {fr : Nat} {j : Nat} {n : Nat} {outs : Nat} {bm : Nat} {ms : Nat} {dr : Nat → Nat} {cn : Nat → Nat} {pl : Nat → Nat → Nat} {K : Nat → Nat} {D : Nat → Nat} {F : Nat → Nat → Nat} (hG : z_GI g n outs bm ms dr cn pl) (hfr : fr < n) (hA : ∀ c, c < 8 → z_AB1 m (above (8 * fr + c)) (below (8 * fr + c)) (K c)) (hD : ∀ c, c < 8 → isDone c = nI (D c) ∧ D c < 2) (hm : m < 4) (hP : z_PR pairs n F) (hs : s < 256) (hj : j < n) (hDj : D j ≠ 0) (hKj : 0 < K j) : z_CAL (d + 3) 182 [.ref 0, .int (nI m), .int (nI s), .int (nI fr), .int (nI j)] (MH g kept was isKept tape fed pos tlen flt ranking paper written pairs above below isDone dist rowv rowMany lsz itm weakAbove weakBelow) (fun r h2 => ∃ (ab2 : Nat → Int64) (be2 : Nat → Int64), r = none ∧ h2 = (MH g kept was isKept tape fed pos tlen flt ranking paper written pairs ab2 be2 isDone dist rowv rowMany lsz itm weakAbove weakBelow) ∧ ((∀ c, c < 8 → z_AB1 m (ab2 (8 * fr + c)) (be2 (8 * fr + c)) (z_rel n fr D (z_LS m s F) j K c)) ∧ ∀ x, (x < 8 * fr ∨ 8 * fr + 8 ≤ x) → ab2 x = above x ∧ be2 x = below x)) := by
  refine e_of2 (q := zmX6_goesOn) rfl rfl (fun R hR => ?_)
  obtain ⟨⟨hn0, hn2, hn8⟩, ⟨ho0, ho8, hin⟩, ⟨hb0, hb40⟩, ⟨hm0, hm4⟩, ⟨hdr, hdl, hdc⟩, hcn, hpl⟩ := id hG; have hp8 := z_p2 hn8; have ho256 : outs < 256 := (by omega); have hi256 : z_dif (2 ^ n - 1) outs < 256 := (by have := z_dif_le (s := 2 ^ n - 1) (t := outs); omega)
  refine e_steps 2 (σ' := (3, [(0, .ref 0), (1, .int (nI m)), (2, .int (nI s)), (3, .int (nI fr)), (4, .int (nI j))], [.int (nI fr), .int (nI 8)], (MH g kept was isKept tape fed pos tlen flt ranking paper written pairs above below isDone dist rowv rowMany lsz itm weakAbove weakBelow))) rfl ?_
  refine e_mul (8 * fr) rfl (by first | rfl | omega | simp) ?_
  refine e_steps 1 (σ' := (6, [(0, .ref 0), (1, .int (nI m)), (2, .int (nI s)), (3, .int (nI fr)), (4, .int (nI j))], [.int (nI j), .int (nI (8 * fr))], (MH g kept was isKept tape fed pos tlen flt ranking paper written pairs above below isDone dist rowv rowMany lsz itm weakAbove weakBelow))) rfl ?_
  refine e_add (8 * fr + j) rfl (by first | rfl | omega) ?_
  refine e_steps 3 (σ' := (12, [(6, .int (nI 0)), (5, .int (nI (8 * fr + j))), (0, .ref 0), (1, .int (nI m)), (2, .int (nI s)), (3, .int (nI fr)), (4, .int (nI j))], [], (MH g kept was isKept tape fed pos tlen flt ranking paper written pairs above below isDone dist rowv rowMany lsz itm weakAbove weakBelow))) rfl ?_
  have loop_1 : ∀ (z_1 : Nat) (k : Nat) (ab : Nat → Int64) (be : Nat → Int64), n - k < z_1 → (k ≤ n ∧ (∀ c, c < 8 → z_AB1 m (ab (8 * fr + c)) (be (8 * fr + c)) (z_rel k fr D (z_LS m s F) j K c)) ∧ ∀ x, (x < 8 * fr ∨ 8 * fr + 8 ≤ x) → ab x = above x ∧ be x = below x) → z_EV (d + 2) zmX6_goesOn R (12, [(0, .ref 0), (1, .int (nI m)), (2, .int (nI s)), (3, .int (nI fr)), (4, .int (nI j)), (5, .int (nI (8 * fr + j))), (6, .int (nI k))], [], (MH g kept was isKept tape fed pos tlen flt ranking paper written pairs ab be isDone dist rowv rowMany lsz itm weakAbove weakBelow)) := by
    intro z_1
    induction z_1 with
    | zero => intro k ab be hm_1 _; exact absurd hm_1 (Nat.not_lt_zero _)
    | succ z_1 ih_1 =>
      intro k ab be hm_1 hi_1
      obtain ⟨l1, l2, l3⟩ := hi_1
      refine e_steps 4 (σ' := (19, [(0, .ref 0), (1, .int (nI m)), (2, .int (nI s)), (3, .int (nI fr)), (4, .int (nI j)), (5, .int (nI (8 * fr + j))), (6, .int (nI k))], [.int (nI 0), .ref 1, .int (nI k)], (MH g kept was isKept tape fed pos tlen flt ranking paper written pairs ab be isDone dist rowv rowMany lsz itm weakAbove weakBelow))) rfl ?_
      refine e_ial (nI n) rfl rfl (by first | assumption | omega | rfl | trivial) (by decide) (hn0) ?_
      refine e_steps 0 (σ' := (20, [(0, .ref 0), (1, .int (nI m)), (2, .int (nI s)), (3, .int (nI fr)), (4, .int (nI j)), (5, .int (nI (8 * fr + j))), (6, .int (nI k))], [.int (nI n), .int (nI k)], (MH g kept was isKept tape fed pos tlen flt ranking paper written pairs ab be isDone dist rowv rowMany lsz itm weakAbove weakBelow))) rfl ?_
      refine e_if (c := nI n ≤ nI k) rfl (fun c_2 => ?_) (fun c_2 => ?_)
      · skip
        rw [nI_leI (by omega) (by omega)] at c_2
        refine e_steps 0 (σ' := (154, [(0, .ref 0), (1, .int (nI m)), (2, .int (nI s)), (3, .int (nI fr)), (4, .int (nI j)), (5, .int (nI (8 * fr + j))), (6, .int (nI k))], [], (MH g kept was isKept tape fed pos tlen flt ranking paper written pairs ab be isDone dist rowv rowMany lsz itm weakAbove weakBelow))) rfl ?_
        exact e_ret rfl (trivial) (hR _ _ ⟨ab, be, rfl, rfl, (by (have e : k = n := (by omega)); rw [e] at l2; exact ⟨l2, l3⟩)⟩)
      · skip
        rw [nI_leI (by omega) (by omega)] at c_2
        refine e_steps 2 (σ' := (26, [(0, .ref 0), (1, .int (nI m)), (2, .int (nI s)), (3, .int (nI fr)), (4, .int (nI j)), (5, .int (nI (8 * fr + j))), (6, .int (nI k))], [.int (nI fr), .int (nI k)], (MH g kept was isKept tape fed pos tlen flt ranking paper written pairs ab be isDone dist rowv rowMany lsz itm weakAbove weakBelow))) rfl ?_
        refine e_if (c := nI k = nI fr) rfl (fun c_3 => ?_) (fun c_3 => ?_)
        · skip
          rw [nI_eq (by omega) (by omega)] at c_3
          refine e_steps 0 (σ' := (148, [(0, .ref 0), (1, .int (nI m)), (2, .int (nI s)), (3, .int (nI fr)), (4, .int (nI j)), (5, .int (nI (8 * fr + j))), (6, .int (nI k))], [], (MH g kept was isKept tape fed pos tlen flt ranking paper written pairs ab be isDone dist rowv rowMany lsz itm weakAbove weakBelow))) rfl ?_
          refine e_inc (n := 1) rfl rfl rfl (k + 1) (by rfl) [(6, .int (nI (k + 1))), (0, .ref 0), (1, .int (nI m)), (2, .int (nI s)), (3, .int (nI fr)), (4, .int (nI j)), (5, .int (nI (8 * fr + j)))] rfl ?_
          refine e_steps 1 (σ' := (12, [(6, .int (nI (k + 1))), (0, .ref 0), (1, .int (nI m)), (2, .int (nI s)), (3, .int (nI fr)), (4, .int (nI j)), (5, .int (nI (8 * fr + j)))], [], (MH g kept was isKept tape fed pos tlen flt ranking paper written pairs ab be isDone dist rowv rowMany lsz itm weakAbove weakBelow))) rfl ?_
          refine e_sub [1, 2, 3, 4, 5, 6, 0] rfl ?_
          exact ih_1 (k + 1) ab be (by omega) (by first | exact ⟨by omega, fun c hc => by rw [z_rel_skip (Or.inr (Or.inl (by omega)))]; exact l2 c hc, l3⟩ | exact ⟨by omega, fun c hc => by rw [z_rel_skip (Or.inr (Or.inr (z_LS_no (by assumption))))]; exact l2 c hc, l3⟩ | exact ⟨by omega, z_rel_step l2 q_12.1 q_12.2 (by omega) (by omega) (by rw [z_LS_yes o_6]; exact (Nat.min_eq_right (Nat.le_of_lt (by rw [ek1]; exact o_9))).symm), fun x hx => ⟨(q_12.2 x (by omega)).1.trans (l3 x hx).1, (q_12.2 x (by omega)).2.trans (l3 x hx).2⟩⟩ | exact ⟨by omega, z_rel_step l2 q_13.1 q_13.2 (by omega) (by omega) (by rw [z_LS_yes o_6, ← ek1]; exact (Nat.min_eq_left (by rw [ek1]; exact Nat.not_lt.mp o_9)).symm), fun x hx => ⟨(q_13.2 x (by omega)).1.trans (l3 x hx).1, (q_13.2 x (by omega)).2.trans (l3 x hx).2⟩⟩ | exact ⟨by omega, fun c hc => by rw [z_rel_skip (Or.inl (by omega))]; exact l2 c hc, l3⟩)
        · skip
          rw [nI_eq (by omega) (by omega)] at c_3
          refine e_steps 3 (σ' := (35, [(0, .ref 0), (1, .int (nI m)), (2, .int (nI s)), (3, .int (nI fr)), (4, .int (nI j)), (5, .int (nI (8 * fr + j))), (6, .int (nI k))], [.int (nI k), .ref 10], (MH g kept was isKept tape fed pos tlen flt ranking paper written pairs ab be isDone dist rowv rowMany lsz itm weakAbove weakBelow))) rfl ?_
          refine e_bal (nI (D k)) rfl rfl (by first | assumption | omega | rfl | trivial) (by decide) ((hD _ (by omega)).1) ?_
          have hv_4 := (hD k (by omega)).2
          refine e_steps 0 (σ' := (36, [(0, .ref 0), (1, .int (nI m)), (2, .int (nI s)), (3, .int (nI fr)), (4, .int (nI j)), (5, .int (nI (8 * fr + j))), (6, .int (nI k))], [.int (nI (D k))], (MH g kept was isKept tape fed pos tlen flt ranking paper written pairs ab be isDone dist rowv rowMany lsz itm weakAbove weakBelow))) rfl ?_
          refine e_if (c := ¬ nI (D k) = 0) rfl (fun c_5 => ?_) (fun c_5 => ?_)
          · skip
            rw [z0_ne (by omega)] at c_5
            skip
            refine e_steps 0 (σ' := (148, [(0, .ref 0), (1, .int (nI m)), (2, .int (nI s)), (3, .int (nI fr)), (4, .int (nI j)), (5, .int (nI (8 * fr + j))), (6, .int (nI k))], [], (MH g kept was isKept tape fed pos tlen flt ranking paper written pairs ab be isDone dist rowv rowMany lsz itm weakAbove weakBelow))) rfl ?_
            refine e_inc (n := 1) rfl rfl rfl (k + 1) (by rfl) [(6, .int (nI (k + 1))), (0, .ref 0), (1, .int (nI m)), (2, .int (nI s)), (3, .int (nI fr)), (4, .int (nI j)), (5, .int (nI (8 * fr + j)))] rfl ?_
            refine e_steps 1 (σ' := (12, [(6, .int (nI (k + 1))), (0, .ref 0), (1, .int (nI m)), (2, .int (nI s)), (3, .int (nI fr)), (4, .int (nI j)), (5, .int (nI (8 * fr + j)))], [], (MH g kept was isKept tape fed pos tlen flt ranking paper written pairs ab be isDone dist rowv rowMany lsz itm weakAbove weakBelow))) rfl ?_
            refine e_sub [1, 2, 3, 4, 5, 6, 0] rfl ?_
            exact ih_1 (k + 1) ab be (by omega) (by first | exact ⟨by omega, fun c hc => by rw [z_rel_skip (Or.inr (Or.inl (by omega)))]; exact l2 c hc, l3⟩ | exact ⟨by omega, fun c hc => by rw [z_rel_skip (Or.inr (Or.inr (z_LS_no (by assumption))))]; exact l2 c hc, l3⟩ | exact ⟨by omega, z_rel_step l2 q_12.1 q_12.2 (by omega) (by omega) (by rw [z_LS_yes o_6]; exact (Nat.min_eq_right (Nat.le_of_lt (by rw [ek1]; exact o_9))).symm), fun x hx => ⟨(q_12.2 x (by omega)).1.trans (l3 x hx).1, (q_12.2 x (by omega)).2.trans (l3 x hx).2⟩⟩ | exact ⟨by omega, z_rel_step l2 q_13.1 q_13.2 (by omega) (by omega) (by rw [z_LS_yes o_6, ← ek1]; exact (Nat.min_eq_left (by rw [ek1]; exact Nat.not_lt.mp o_9)).symm), fun x hx => ⟨(q_13.2 x (by omega)).1.trans (l3 x hx).1, (q_13.2 x (by omega)).2.trans (l3 x hx).2⟩⟩ | exact ⟨by omega, fun c hc => by rw [z_rel_skip (Or.inl (by omega))]; exact l2 c hc, l3⟩)
          · skip
            rw [z0_ne (by omega)] at c_5
            replace c_5 := Decidable.not_not.mp c_5
            refine e_steps 4 (σ' := (45, [(0, .ref 0), (1, .int (nI m)), (2, .int (nI s)), (3, .int (nI fr)), (4, .int (nI j)), (5, .int (nI (8 * fr + j))), (6, .int (nI k))], [.int (nI k), .int (nI j), .int (nI s), .ref 0], (MH g kept was isKept tape fed pos tlen flt ranking paper written pairs ab be isDone dist rowv rowMany lsz itm weakAbove weakBelow))) rfl ?_
            refine e_call (y := 176) (av := [.ref 0, .int (nI s), .int (nI j), .int (nI k)]) (rest := []) rfl (c_X6_isLink (d + 0) (n := n) (outs := outs) (bm := bm) (ms := ms) (dr := dr) (cn := cn) (pl := pl) (F := F) (by first | assumption | omega | rfl | trivial) (by first | assumption | omega | rfl | trivial) (by first | assumption | omega | rfl | trivial) (by first | assumption | omega | rfl | trivial) (by first | assumption | omega | rfl | trivial)) (fun r_6 h_6 p_6 => ?_)
            obtain ⟨rfl, o_6⟩ := p_6
            rcases o_6 with ⟨rfl, o_6⟩ | ⟨rfl, o_6⟩
            · skip
              refine e_steps 1 (σ' := (54, [(0, .ref 0), (1, .int (nI m)), (2, .int (nI s)), (3, .int (nI fr)), (4, .int (nI j)), (5, .int (nI (8 * fr + j))), (6, .int (nI k))], [], (MH g kept was isKept tape fed pos tlen flt ranking paper written pairs ab be isDone dist rowv rowMany lsz itm weakAbove weakBelow))) rfl ?_
              obtain ⟨a1, b1, ea1, eb1, hab1, hA1, ek1⟩ := z_AB1_some (l2 j (by omega)) (z_AB1_neg (l2 j (by omega)) (by rw [z_rel_self hDj]; exact hKj)); rw [z_rel_self hDj] at ek1; have hlt := o_6.2.2.2; have hF1 := (hP j hj k (by omega)).2; have hF2 := (hP k (by omega) j hj).2
              refine e_steps 4 (σ' := (61, [(0, .ref 0), (1, .int (nI m)), (2, .int (nI s)), (3, .int (nI fr)), (4, .int (nI j)), (5, .int (nI (8 * fr + j))), (6, .int (nI k))], [.int (nI (8 * fr + j)), .ref 8, .int (nI m)], (MH g kept was isKept tape fed pos tlen flt ranking paper written pairs ab be isDone dist rowv rowMany lsz itm weakAbove weakBelow))) rfl ?_
              refine e_lal (lN a1) rfl rfl (by first | assumption | omega | rfl | trivial) (by decide) (ea1) ?_
              refine e_steps 3 (σ' := (68, [(0, .ref 0), (1, .int (nI m)), (2, .int (nI s)), (3, .int (nI fr)), (4, .int (nI j)), (5, .int (nI (8 * fr + j))), (6, .int (nI k))], [.int (nI (8 * fr + j)), .ref 9, .long (lN a1), .int (nI m)], (MH g kept was isKept tape fed pos tlen flt ranking paper written pairs ab be isDone dist rowv rowMany lsz itm weakAbove weakBelow))) rfl ?_
              refine e_lal (lN b1) rfl rfl (by first | assumption | omega | rfl | trivial) (by decide) (eb1) ?_
              refine e_steps 3 (σ' := (74, [(0, .ref 0), (1, .int (nI m)), (2, .int (nI s)), (3, .int (nI fr)), (4, .int (nI j)), (5, .int (nI (8 * fr + j))), (6, .int (nI k))], [.int (nI k), .int (nI j), .ref 0, .long (lN b1), .long (lN a1), .int (nI m)], (MH g kept was isKept tape fed pos tlen flt ranking paper written pairs ab be isDone dist rowv rowMany lsz itm weakAbove weakBelow))) rfl ?_
              refine e_call (y := 174) (av := [.ref 0, .int (nI j), .int (nI k)]) (rest := [.long (lN b1), .long (lN a1), .int (nI m)]) rfl (c_X6_over (d + 1) (n := n) (outs := outs) (bm := bm) (ms := ms) (dr := dr) (cn := cn) (pl := pl) (F := F) (by first | assumption | omega | rfl | trivial) (by first | assumption | omega | rfl | trivial) (by first | assumption | omega | rfl | trivial) (by first | assumption | omega | rfl | trivial)) (fun r_7 h_7 p_7 => ?_)
              obtain ⟨rfl, rfl⟩ := p_7
              refine e_steps 3 (σ' := (82, [(0, .ref 0), (1, .int (nI m)), (2, .int (nI s)), (3, .int (nI fr)), (4, .int (nI j)), (5, .int (nI (8 * fr + j))), (6, .int (nI k))], [.int (nI j), .int (nI k), .ref 0, .long (lN (F j k)), .long (lN b1), .long (lN a1), .int (nI m)], (MH g kept was isKept tape fed pos tlen flt ranking paper written pairs ab be isDone dist rowv rowMany lsz itm weakAbove weakBelow))) rfl ?_
              refine e_call (y := 174) (av := [.ref 0, .int (nI k), .int (nI j)]) (rest := [.long (lN (F j k)), .long (lN b1), .long (lN a1), .int (nI m)]) rfl (c_X6_over (d + 1) (n := n) (outs := outs) (bm := bm) (ms := ms) (dr := dr) (cn := cn) (pl := pl) (F := F) (by first | assumption | omega | rfl | trivial) (by first | assumption | omega | rfl | trivial) (by first | assumption | omega | rfl | trivial) (by first | assumption | omega | rfl | trivial)) (fun r_8 h_8 p_8 => ?_)
              obtain ⟨rfl, rfl⟩ := p_8
              refine e_steps 0 (σ' := (85, [(0, .ref 0), (1, .int (nI m)), (2, .int (nI s)), (3, .int (nI fr)), (4, .int (nI j)), (5, .int (nI (8 * fr + j))), (6, .int (nI k))], [.long (lN (F k j)), .long (lN (F j k)), .long (lN b1), .long (lN a1), .int (nI m)], (MH g kept was isKept tape fed pos tlen flt ranking paper written pairs ab be isDone dist rowv rowMany lsz itm weakAbove weakBelow))) rfl ?_
              refine e_call (y := 178) (av := [.int (nI m), .long (lN a1), .long (lN b1), .long (lN (F j k)), .long (lN (F k j))]) (rest := []) rfl (c_X6_isStronger (d + 1) (by first | assumption | omega | rfl | trivial) (by first | assumption | omega | rfl | trivial) (by first | assumption | omega | rfl | trivial) (by first | assumption | omega | rfl | trivial) (by first | assumption | omega | rfl | trivial)) (fun r_9 h_9 p_9 => ?_)
              obtain ⟨rfl, o_9⟩ := p_9
              rcases o_9 with ⟨rfl, o_9⟩ | ⟨rfl, o_9⟩
              · skip
                refine e_steps 5 (σ' := (95, [(7, .int (nI 1)), (0, .ref 0), (1, .int (nI m)), (2, .int (nI s)), (3, .int (nI fr)), (4, .int (nI j)), (5, .int (nI (8 * fr + j))), (6, .int (nI k))], [.int (nI fr), .int (nI 8), .int (nI m), .ref 0], (MH g kept was isKept tape fed pos tlen flt ranking paper written pairs ab be isDone dist rowv rowMany lsz itm weakAbove weakBelow))) rfl ?_
                refine e_mul (8 * fr) rfl (by first | rfl | omega | simp) ?_
                refine e_steps 1 (σ' := (98, [(7, .int (nI 1)), (0, .ref 0), (1, .int (nI m)), (2, .int (nI s)), (3, .int (nI fr)), (4, .int (nI j)), (5, .int (nI (8 * fr + j))), (6, .int (nI k))], [.int (nI k), .int (nI (8 * fr)), .int (nI m), .ref 0], (MH g kept was isKept tape fed pos tlen flt ranking paper written pairs ab be isDone dist rowv rowMany lsz itm weakAbove weakBelow))) rfl ?_
                refine e_add (8 * fr + k) rfl (by first | rfl | omega) ?_
                refine e_steps 5 (σ' := (109, [(7, .int (nI 1)), (0, .ref 0), (1, .int (nI m)), (2, .int (nI s)), (3, .int (nI fr)), (4, .int (nI j)), (5, .int (nI (8 * fr + j))), (6, .int (nI k))], [.int (nI k), .int (nI j), .ref 0, .int (nI (8 * fr + k)), .int (nI m), .ref 0], (MH g kept was isKept tape fed pos tlen flt ranking paper written pairs ab be isDone dist rowv rowMany lsz itm weakAbove weakBelow))) rfl ?_
                refine e_call (y := 174) (av := [.ref 0, .int (nI j), .int (nI k)]) (rest := [.int (nI (8 * fr + k)), .int (nI m), .ref 0]) rfl (c_X6_over (d + 1) (n := n) (outs := outs) (bm := bm) (ms := ms) (dr := dr) (cn := cn) (pl := pl) (F := F) (by first | assumption | omega | rfl | trivial) (by first | assumption | omega | rfl | trivial) (by first | assumption | omega | rfl | trivial) (by first | assumption | omega | rfl | trivial)) (fun r_10 h_10 p_10 => ?_)
                obtain ⟨rfl, rfl⟩ := p_10
                refine e_steps 6 (σ' := (132, [(7, .int (nI 1)), (0, .ref 0), (1, .int (nI m)), (2, .int (nI s)), (3, .int (nI fr)), (4, .int (nI j)), (5, .int (nI (8 * fr + j))), (6, .int (nI k))], [.int (nI j), .int (nI k), .ref 0, .long (lN (F j k)), .int (nI (8 * fr + k)), .int (nI m), .ref 0], (MH g kept was isKept tape fed pos tlen flt ranking paper written pairs ab be isDone dist rowv rowMany lsz itm weakAbove weakBelow))) rfl ?_
                refine e_call (y := 174) (av := [.ref 0, .int (nI k), .int (nI j)]) (rest := [.long (lN (F j k)), .int (nI (8 * fr + k)), .int (nI m), .ref 0]) rfl (c_X6_over (d + 1) (n := n) (outs := outs) (bm := bm) (ms := ms) (dr := dr) (cn := cn) (pl := pl) (F := F) (by first | assumption | omega | rfl | trivial) (by first | assumption | omega | rfl | trivial) (by first | assumption | omega | rfl | trivial) (by first | assumption | omega | rfl | trivial)) (fun r_11 h_11 p_11 => ?_)
                obtain ⟨rfl, rfl⟩ := p_11
                refine e_steps 1 (σ' := (145, [(7, .int (nI 1)), (0, .ref 0), (1, .int (nI m)), (2, .int (nI s)), (3, .int (nI fr)), (4, .int (nI j)), (5, .int (nI (8 * fr + j))), (6, .int (nI k))], [.long (lN (F k j)), .long (lN (F j k)), .int (nI (8 * fr + k)), .int (nI m), .ref 0], (MH g kept was isKept tape fed pos tlen flt ranking paper written pairs ab be isDone dist rowv rowMany lsz itm weakAbove weakBelow))) rfl ?_
                refine e_call (y := 180) (av := [.ref 0, .int (nI m), .int (nI (8 * fr + k)), .long (lN (F j k)), .long (lN (F k j))]) (rest := []) rfl (c_X6_takes (d + 0) (k := (z_rel k fr D (z_LS m s F) j K k)) (by exact l2 k (by omega)) (by first | assumption | omega | rfl | trivial) (by first | assumption | omega | rfl | trivial) (by first | assumption | omega | rfl | trivial) (by first | assumption | omega | rfl | trivial)) (fun r_12 h_12 p_12 => ?_)
                obtain ⟨above_12, below_12, rfl, rfl, q_12⟩ := p_12
                refine e_steps 0 (σ' := (148, [(7, .int (nI 1)), (0, .ref 0), (1, .int (nI m)), (2, .int (nI s)), (3, .int (nI fr)), (4, .int (nI j)), (5, .int (nI (8 * fr + j))), (6, .int (nI k))], [], (MH g kept was isKept tape fed pos tlen flt ranking paper written pairs above_12 below_12 isDone dist rowv rowMany lsz itm weakAbove weakBelow))) rfl ?_
                refine e_inc (n := 1) rfl rfl rfl (k + 1) (by rfl) [(6, .int (nI (k + 1))), (7, .int (nI 1)), (0, .ref 0), (1, .int (nI m)), (2, .int (nI s)), (3, .int (nI fr)), (4, .int (nI j)), (5, .int (nI (8 * fr + j)))] rfl ?_
                refine e_steps 1 (σ' := (12, [(6, .int (nI (k + 1))), (7, .int (nI 1)), (0, .ref 0), (1, .int (nI m)), (2, .int (nI s)), (3, .int (nI fr)), (4, .int (nI j)), (5, .int (nI (8 * fr + j)))], [], (MH g kept was isKept tape fed pos tlen flt ranking paper written pairs above_12 below_12 isDone dist rowv rowMany lsz itm weakAbove weakBelow))) rfl ?_
                refine e_sub [2, 3, 4, 5, 6, 7, 0] rfl ?_
                exact ih_1 (k + 1) above_12 below_12 (by omega) (by first | exact ⟨by omega, fun c hc => by rw [z_rel_skip (Or.inr (Or.inl (by omega)))]; exact l2 c hc, l3⟩ | exact ⟨by omega, fun c hc => by rw [z_rel_skip (Or.inr (Or.inr (z_LS_no (by assumption))))]; exact l2 c hc, l3⟩ | exact ⟨by omega, z_rel_step l2 q_12.1 q_12.2 (by omega) (by omega) (by rw [z_LS_yes o_6]; exact (Nat.min_eq_right (Nat.le_of_lt (by rw [ek1]; exact o_9))).symm), fun x hx => ⟨(q_12.2 x (by omega)).1.trans (l3 x hx).1, (q_12.2 x (by omega)).2.trans (l3 x hx).2⟩⟩ | exact ⟨by omega, z_rel_step l2 q_13.1 q_13.2 (by omega) (by omega) (by rw [z_LS_yes o_6, ← ek1]; exact (Nat.min_eq_left (by rw [ek1]; exact Nat.not_lt.mp o_9)).symm), fun x hx => ⟨(q_13.2 x (by omega)).1.trans (l3 x hx).1, (q_13.2 x (by omega)).2.trans (l3 x hx).2⟩⟩ | exact ⟨by omega, fun c hc => by rw [z_rel_skip (Or.inl (by omega))]; exact l2 c hc, l3⟩)
              · skip
                refine e_steps 5 (σ' := (95, [(7, .int (nI 0)), (0, .ref 0), (1, .int (nI m)), (2, .int (nI s)), (3, .int (nI fr)), (4, .int (nI j)), (5, .int (nI (8 * fr + j))), (6, .int (nI k))], [.int (nI fr), .int (nI 8), .int (nI m), .ref 0], (MH g kept was isKept tape fed pos tlen flt ranking paper written pairs ab be isDone dist rowv rowMany lsz itm weakAbove weakBelow))) rfl ?_
                refine e_mul (8 * fr) rfl (by first | rfl | omega | simp) ?_
                refine e_steps 1 (σ' := (98, [(7, .int (nI 0)), (0, .ref 0), (1, .int (nI m)), (2, .int (nI s)), (3, .int (nI fr)), (4, .int (nI j)), (5, .int (nI (8 * fr + j))), (6, .int (nI k))], [.int (nI k), .int (nI (8 * fr)), .int (nI m), .ref 0], (MH g kept was isKept tape fed pos tlen flt ranking paper written pairs ab be isDone dist rowv rowMany lsz itm weakAbove weakBelow))) rfl ?_
                refine e_add (8 * fr + k) rfl (by first | rfl | omega) ?_
                refine e_steps 5 (σ' := (121, [(7, .int (nI 0)), (0, .ref 0), (1, .int (nI m)), (2, .int (nI s)), (3, .int (nI fr)), (4, .int (nI j)), (5, .int (nI (8 * fr + j))), (6, .int (nI k))], [.int (nI (8 * fr + j)), .ref 8, .int (nI (8 * fr + k)), .int (nI m), .ref 0], (MH g kept was isKept tape fed pos tlen flt ranking paper written pairs ab be isDone dist rowv rowMany lsz itm weakAbove weakBelow))) rfl ?_
                refine e_lal (lN a1) rfl rfl (by first | assumption | omega | rfl | trivial) (by decide) (ea1) ?_
                refine e_steps 5 (σ' := (144, [(7, .int (nI 0)), (0, .ref 0), (1, .int (nI m)), (2, .int (nI s)), (3, .int (nI fr)), (4, .int (nI j)), (5, .int (nI (8 * fr + j))), (6, .int (nI k))], [.int (nI (8 * fr + j)), .ref 9, .long (lN a1), .int (nI (8 * fr + k)), .int (nI m), .ref 0], (MH g kept was isKept tape fed pos tlen flt ranking paper written pairs ab be isDone dist rowv rowMany lsz itm weakAbove weakBelow))) rfl ?_
                refine e_lal (lN b1) rfl rfl (by first | assumption | omega | rfl | trivial) (by decide) (eb1) ?_
                refine e_steps 0 (σ' := (145, [(7, .int (nI 0)), (0, .ref 0), (1, .int (nI m)), (2, .int (nI s)), (3, .int (nI fr)), (4, .int (nI j)), (5, .int (nI (8 * fr + j))), (6, .int (nI k))], [.long (lN b1), .long (lN a1), .int (nI (8 * fr + k)), .int (nI m), .ref 0], (MH g kept was isKept tape fed pos tlen flt ranking paper written pairs ab be isDone dist rowv rowMany lsz itm weakAbove weakBelow))) rfl ?_
                refine e_call (y := 180) (av := [.ref 0, .int (nI m), .int (nI (8 * fr + k)), .long (lN a1), .long (lN b1)]) (rest := []) rfl (c_X6_takes (d + 0) (k := (z_rel k fr D (z_LS m s F) j K k)) (by exact l2 k (by omega)) (by first | assumption | omega | rfl | trivial) (by first | assumption | omega | rfl | trivial) (by first | assumption | omega | rfl | trivial) (by first | assumption | omega | rfl | trivial)) (fun r_13 h_13 p_13 => ?_)
                obtain ⟨above_13, below_13, rfl, rfl, q_13⟩ := p_13
                refine e_steps 0 (σ' := (148, [(7, .int (nI 0)), (0, .ref 0), (1, .int (nI m)), (2, .int (nI s)), (3, .int (nI fr)), (4, .int (nI j)), (5, .int (nI (8 * fr + j))), (6, .int (nI k))], [], (MH g kept was isKept tape fed pos tlen flt ranking paper written pairs above_13 below_13 isDone dist rowv rowMany lsz itm weakAbove weakBelow))) rfl ?_
                refine e_inc (n := 1) rfl rfl rfl (k + 1) (by rfl) [(6, .int (nI (k + 1))), (7, .int (nI 0)), (0, .ref 0), (1, .int (nI m)), (2, .int (nI s)), (3, .int (nI fr)), (4, .int (nI j)), (5, .int (nI (8 * fr + j)))] rfl ?_
                refine e_steps 1 (σ' := (12, [(6, .int (nI (k + 1))), (7, .int (nI 0)), (0, .ref 0), (1, .int (nI m)), (2, .int (nI s)), (3, .int (nI fr)), (4, .int (nI j)), (5, .int (nI (8 * fr + j)))], [], (MH g kept was isKept tape fed pos tlen flt ranking paper written pairs above_13 below_13 isDone dist rowv rowMany lsz itm weakAbove weakBelow))) rfl ?_
                refine e_sub [2, 3, 4, 5, 6, 7, 0] rfl ?_
                exact ih_1 (k + 1) above_13 below_13 (by omega) (by first | exact ⟨by omega, fun c hc => by rw [z_rel_skip (Or.inr (Or.inl (by omega)))]; exact l2 c hc, l3⟩ | exact ⟨by omega, fun c hc => by rw [z_rel_skip (Or.inr (Or.inr (z_LS_no (by assumption))))]; exact l2 c hc, l3⟩ | exact ⟨by omega, z_rel_step l2 q_12.1 q_12.2 (by omega) (by omega) (by rw [z_LS_yes o_6]; exact (Nat.min_eq_right (Nat.le_of_lt (by rw [ek1]; exact o_9))).symm), fun x hx => ⟨(q_12.2 x (by omega)).1.trans (l3 x hx).1, (q_12.2 x (by omega)).2.trans (l3 x hx).2⟩⟩ | exact ⟨by omega, z_rel_step l2 q_13.1 q_13.2 (by omega) (by omega) (by rw [z_LS_yes o_6, ← ek1]; exact (Nat.min_eq_left (by rw [ek1]; exact Nat.not_lt.mp o_9)).symm), fun x hx => ⟨(q_13.2 x (by omega)).1.trans (l3 x hx).1, (q_13.2 x (by omega)).2.trans (l3 x hx).2⟩⟩ | exact ⟨by omega, fun c hc => by rw [z_rel_skip (Or.inl (by omega))]; exact l2 c hc, l3⟩)
            · skip
              refine e_steps 2 (σ' := (148, [(0, .ref 0), (1, .int (nI m)), (2, .int (nI s)), (3, .int (nI fr)), (4, .int (nI j)), (5, .int (nI (8 * fr + j))), (6, .int (nI k))], [], (MH g kept was isKept tape fed pos tlen flt ranking paper written pairs ab be isDone dist rowv rowMany lsz itm weakAbove weakBelow))) rfl ?_
              refine e_inc (n := 1) rfl rfl rfl (k + 1) (by rfl) [(6, .int (nI (k + 1))), (0, .ref 0), (1, .int (nI m)), (2, .int (nI s)), (3, .int (nI fr)), (4, .int (nI j)), (5, .int (nI (8 * fr + j)))] rfl ?_
              refine e_steps 1 (σ' := (12, [(6, .int (nI (k + 1))), (0, .ref 0), (1, .int (nI m)), (2, .int (nI s)), (3, .int (nI fr)), (4, .int (nI j)), (5, .int (nI (8 * fr + j)))], [], (MH g kept was isKept tape fed pos tlen flt ranking paper written pairs ab be isDone dist rowv rowMany lsz itm weakAbove weakBelow))) rfl ?_
              refine e_sub [1, 2, 3, 4, 5, 6, 0] rfl ?_
              exact ih_1 (k + 1) ab be (by omega) (by first | exact ⟨by omega, fun c hc => by rw [z_rel_skip (Or.inr (Or.inl (by omega)))]; exact l2 c hc, l3⟩ | exact ⟨by omega, fun c hc => by rw [z_rel_skip (Or.inr (Or.inr (z_LS_no (by assumption))))]; exact l2 c hc, l3⟩ | exact ⟨by omega, z_rel_step l2 q_12.1 q_12.2 (by omega) (by omega) (by rw [z_LS_yes o_6]; exact (Nat.min_eq_right (Nat.le_of_lt (by rw [ek1]; exact o_9))).symm), fun x hx => ⟨(q_12.2 x (by omega)).1.trans (l3 x hx).1, (q_12.2 x (by omega)).2.trans (l3 x hx).2⟩⟩ | exact ⟨by omega, z_rel_step l2 q_13.1 q_13.2 (by omega) (by omega) (by rw [z_LS_yes o_6, ← ek1]; exact (Nat.min_eq_left (by rw [ek1]; exact Nat.not_lt.mp o_9)).symm), fun x hx => ⟨(q_13.2 x (by omega)).1.trans (l3 x hx).1, (q_13.2 x (by omega)).2.trans (l3 x hx).2⟩⟩ | exact ⟨by omega, fun c hc => by rw [z_rel_skip (Or.inl (by omega))]; exact l2 c hc, l3⟩)
  refine e_sub [2, 3, 4, 5, 6, 1, 0] rfl ?_
  exact loop_1 _ 0 above below (Nat.lt_succ_self _) (by exact ⟨by omega, fun c hc => by rw [z_rel_zero]; exact hA c hc, fun x _ => ⟨rfl, rfl⟩⟩)
theorem c_X6_grows (d : Nat) {g : Nat → Int32} {kept : Nat → Int32} {was : Nat → Int32} {isKept : Int32} {tape : Nat → Int32} {fed : Int32} {pos : Int32} {tlen : Int32} {flt : Int32} {ranking : Nat → Int32} {paper : Nat → Int32} {written : Int32} {pairs : Nat → Int64} {above : Nat → Int64} {below : Nat → Int64} {isDone : Nat → Int32} {dist : Nat → Int32} {rowv : Nat → Int32} {rowMany : Int32} {lsz : Nat → Int32} {itm : Nat → Int64} {weakAbove : Int64} {weakBelow : Int64} {m : Nat} {s : Nat} {fr : Nat} {n : Nat} {outs : Nat} {bm : Nat} {ms : Nat} {dr : Nat → Nat} {cn : Nat → Nat} {pl : Nat → Nat → Nat} {F : Nat → Nat → Nat} (hG : z_GI g n outs bm ms dr cn pl) (hfr : fr < n) (hm : m < 4) (hP : z_PR pairs n F) (hs : s < 256) : z_CAL (d + 4) 183 [.ref 0, .int (nI m), .int (nI s), .int (nI fr)] (MH g kept was isKept tape fed pos tlen flt ranking paper written pairs above below isDone dist rowv rowMany lsz itm weakAbove weakBelow) (fun r h2 => ∃ (ab2 : Nat → Int64) (be2 : Nat → Int64) (dn2 : Nat → Int32), r = none ∧ h2 = (MH g kept was isKept tape fed pos tlen flt ranking paper written pairs ab2 be2 dn2 dist rowv rowMany lsz itm weakAbove weakBelow) ∧ ((∃ K, z_row (z_LS m s F) n fr K ∧ (∀ c, c < 8 → z_AB1 m (ab2 (8 * fr + c)) (be2 (8 * fr + c)) (K c))) ∧ (∀ x, (x < 8 * fr ∨ 8 * fr + 8 ≤ x) → ab2 x = above x ∧ be2 x = below x))) := by
  refine e_of2 (q := zmX6_grows) rfl rfl (fun R hR => ?_)
  obtain ⟨⟨hn0, hn2, hn8⟩, ⟨ho0, ho8, hin⟩, ⟨hb0, hb40⟩, ⟨hm0, hm4⟩, ⟨hdr, hdl, hdc⟩, hcn, hpl⟩ := id hG; have hp8 := z_p2 hn8; have ho256 : outs < 256 := (by omega); have hi256 : z_dif (2 ^ n - 1) outs < 256 := (by have := z_dif_le (s := 2 ^ n - 1) (t := outs); omega)
  refine e_steps 2 (σ' := (3, [(4, .int (nI 0)), (0, .ref 0), (1, .int (nI m)), (2, .int (nI s)), (3, .int (nI fr))], [], (MH g kept was isKept tape fed pos tlen flt ranking paper written pairs above below isDone dist rowv rowMany lsz itm weakAbove weakBelow))) rfl ?_
  have loop_1 : ∀ (z_1 : Nat) (j : Nat) (ab : Nat → Int64) (dn : Nat → Int32), 8 - j < z_1 → (j ≤ 8 ∧ (∀ c, c < j → ab (8 * fr + c) = -lN 1 ∧ dn c = nI 0) ∧ (∀ x, (x < 8 * fr ∨ 8 * fr + 8 ≤ x) → ab x = above x)) → z_EV (d + 3) zmX6_grows R (3, [(0, .ref 0), (1, .int (nI m)), (2, .int (nI s)), (3, .int (nI fr)), (4, .int (nI j))], [], (MH g kept was isKept tape fed pos tlen flt ranking paper written pairs ab below dn dist rowv rowMany lsz itm weakAbove weakBelow)) := by
    intro z_1
    induction z_1 with
    | zero => intro j ab dn hm_1 _; exact absurd hm_1 (Nat.not_lt_zero _)
    | succ z_1 ih_1 =>
      intro j ab dn hm_1 hi_1
      obtain ⟨l1, l2, l3⟩ := hi_1
      refine e_steps 2 (σ' := (7, [(0, .ref 0), (1, .int (nI m)), (2, .int (nI s)), (3, .int (nI fr)), (4, .int (nI j))], [.int (nI 8), .int (nI j)], (MH g kept was isKept tape fed pos tlen flt ranking paper written pairs ab below dn dist rowv rowMany lsz itm weakAbove weakBelow))) rfl ?_
      refine e_if (c := nI 8 ≤ nI j) rfl (fun c_2 => ?_) (fun c_2 => ?_)
      · skip
        rw [nI_leI (by omega) (by omega)] at c_2
        refine e_steps 4 (σ' := (45, [(0, .ref 0), (1, .int (nI m)), (2, .int (nI s)), (3, .int (nI fr)), (4, .int (nI j))], [.int (nI 1), .int (nI fr), .ref 10], (MH g kept was isKept tape fed pos tlen flt ranking paper written pairs ab below dn dist rowv rowMany lsz itm weakAbove weakBelow))) rfl ?_
        refine e_bas (MH g kept was isKept tape fed pos tlen flt ranking paper written pairs ab below (upd dn fr (nI 1)) dist rowv rowMany lsz itm weakAbove weakBelow) rfl rfl (by first | assumption | omega | rfl | trivial) (by decide) (by first | assumption | omega | rfl | trivial) rfl ?_
        refine e_steps 2 (σ' := (49, [(4, .int (nI 0)), (0, .ref 0), (1, .int (nI m)), (2, .int (nI s)), (3, .int (nI fr))], [], (MH g kept was isKept tape fed pos tlen flt ranking paper written pairs ab below (upd dn fr (nI 1)) dist rowv rowMany lsz itm weakAbove weakBelow))) rfl ?_
        have loop_3 : ∀ (z_3 : Nat) (j : Nat) (ab1 : Nat → Int64) (be1 : Nat → Int64), n - j < z_3 → (j ≤ n ∧ (∀ c, c < 8 → z_AB1 m (ab1 (8 * fr + c)) (be1 (8 * fr + c)) (if c < j ∧ c ≠ fr then z_LS m s F fr c else 0)) ∧ (∀ x, (x < 8 * fr ∨ 8 * fr + 8 ≤ x) → ab1 x = above x ∧ be1 x = below x)) → z_EV (d + 3) zmX6_grows R (49, [(0, .ref 0), (1, .int (nI m)), (2, .int (nI s)), (3, .int (nI fr)), (4, .int (nI j))], [], (MH g kept was isKept tape fed pos tlen flt ranking paper written pairs ab1 be1 (upd dn fr (nI 1)) dist rowv rowMany lsz itm weakAbove weakBelow)) := by
          intro z_3
          induction z_3 with
          | zero => intro j ab1 be1 hm_3 _; exact absurd hm_3 (Nat.not_lt_zero _)
          | succ z_3 ih_3 =>
            intro j ab1 be1 hm_3 hi_3
            obtain ⟨m1, m2, m3⟩ := hi_3
            refine e_steps 4 (σ' := (56, [(0, .ref 0), (1, .int (nI m)), (2, .int (nI s)), (3, .int (nI fr)), (4, .int (nI j))], [.int (nI 0), .ref 1, .int (nI j)], (MH g kept was isKept tape fed pos tlen flt ranking paper written pairs ab1 be1 (upd dn fr (nI 1)) dist rowv rowMany lsz itm weakAbove weakBelow))) rfl ?_
            refine e_ial (nI n) rfl rfl (by first | assumption | omega | rfl | trivial) (by decide) (hn0) ?_
            refine e_steps 0 (σ' := (57, [(0, .ref 0), (1, .int (nI m)), (2, .int (nI s)), (3, .int (nI fr)), (4, .int (nI j))], [.int (nI n), .int (nI j)], (MH g kept was isKept tape fed pos tlen flt ranking paper written pairs ab1 be1 (upd dn fr (nI 1)) dist rowv rowMany lsz itm weakAbove weakBelow))) rfl ?_
            refine e_if (c := nI n ≤ nI j) rfl (fun c_4 => ?_) (fun c_4 => ?_)
            · skip
              rw [nI_leI (by omega) (by omega)] at c_4
              refine e_steps 3 (σ' := (106, [(0, .ref 0), (1, .int (nI m)), (2, .int (nI s)), (3, .int (nI fr)), (4, .int (nI j))], [.int (nI fr), .int (nI m), .ref 0], (MH g kept was isKept tape fed pos tlen flt ranking paper written pairs ab1 be1 (upd dn fr (nI 1)) dist rowv rowMany lsz itm weakAbove weakBelow))) rfl ?_
              refine e_call (y := 181) (av := [.ref 0, .int (nI m), .int (nI fr)]) (rest := []) rfl (c_X6_strongestLeft (d + 0) (n := n) (outs := outs) (bm := bm) (ms := ms) (dr := dr) (cn := cn) (pl := pl) (K := (fun c => if c < n ∧ c ≠ fr then z_LS m s F fr c else 0)) (D := (fun c => if c = fr then 1 else 0)) (by first | assumption | omega | rfl | trivial) (by first | assumption | omega | rfl | trivial) (by first | assumption | omega | rfl | trivial) (by first | assumption | omega | rfl | trivial) (by first | assumption | omega | rfl | trivial)) (fun r_5 h_5 p_5 => ?_)
              obtain ⟨rfl, o_5⟩ := p_5
              rcases o_5 with ⟨bst_5, rfl, o_5⟩ | ⟨rfl, o_5⟩
              · skip
                refine e_steps 1 (σ' := (111, [(4, .int (nI bst_5)), (0, .ref 0), (1, .int (nI m)), (2, .int (nI s)), (3, .int (nI fr))], [], (MH g kept was isKept tape fed pos tlen flt ranking paper written pairs ab1 be1 (upd dn fr (nI 1)) dist rowv rowMany lsz itm weakAbove weakBelow))) rfl ?_
                have loop_6 : ∀ (z_6 : Nat) (best : Int32) (ab3 : Nat → Int64) (be3 : Nat → Int64) (dn3 : Nat → Int32) (K : Nat → Nat) (D : Nat → Nat), z_ct n (fun c => decide (D c = 0)) < z_6 → (z_GR (z_LS m s F) n fr K D ∧ (∀ c, c < 8 → z_AB1 m (ab3 (8 * fr + c)) (be3 (8 * fr + c)) (K c)) ∧ (∀ c, c < 8 → dn3 c = nI (D c) ∧ D c < 2) ∧ (∀ x, (x < 8 * fr ∨ 8 * fr + 8 ≤ x) → ab3 x = above x ∧ be3 x = below x) ∧ ((∃ q, best = nI q ∧ q < n ∧ D q = 0 ∧ 0 < K q ∧ ∀ c, c < n → D c = 0 → K c ≤ K q) ∨ (best = -nI 1 ∧ ∀ c, c < n → D c = 0 → K c = 0))) → z_EV (d + 3) zmX6_grows R (111, [(0, .ref 0), (1, .int (nI m)), (2, .int (nI s)), (3, .int (nI fr)), (4, .int best)], [], (MH g kept was isKept tape fed pos tlen flt ranking paper written pairs ab3 be3 dn3 dist rowv rowMany lsz itm weakAbove weakBelow)) := by
                  intro z_6
                  induction z_6 with
                  | zero => intro best ab3 be3 dn3 K D hm_6 _; exact absurd hm_6 (Nat.not_lt_zero _)
                  | succ z_6 ih_6 =>
                    intro best ab3 be3 dn3 K D hm_6 hi_6
                    obtain ⟨w1, w2, w3, w4, w5⟩ := hi_6
                    refine e_steps 1 (σ' := (113, [(0, .ref 0), (1, .int (nI m)), (2, .int (nI s)), (3, .int (nI fr)), (4, .int best)], [.int best], (MH g kept was isKept tape fed pos tlen flt ranking paper written pairs ab3 be3 dn3 dist rowv rowMany lsz itm weakAbove weakBelow))) rfl ?_
                    refine e_if (c := best < 0) rfl (fun c_7 => ?_) (fun c_7 => ?_)
                    · skip
                      refine e_steps 0 (σ' := (144, [(0, .ref 0), (1, .int (nI m)), (2, .int (nI s)), (3, .int (nI fr)), (4, .int best)], [], (MH g kept was isKept tape fed pos tlen flt ranking paper written pairs ab3 be3 dn3 dist rowv rowMany lsz itm weakAbove weakBelow))) rfl ?_
                      exact e_ret rfl (trivial) (hR _ _ ⟨ab3, be3, dn3, rfl, rfl, (by first | assumption | omega | rfl | trivial)⟩)
                    · skip
                      obtain ⟨best_8, hbest_8, ebest_8⟩ := nI_of c_7
                      subst ebest_8
                      refine e_steps 0 (σ' := (116, [(0, .ref 0), (1, .int (nI m)), (2, .int (nI s)), (3, .int (nI fr)), (4, .int (nI best_8))], [], (MH g kept was isKept tape fed pos tlen flt ranking paper written pairs ab3 be3 dn3 dist rowv rowMany lsz itm weakAbove weakBelow))) rfl ?_
                      obtain ⟨q, e_q, hq1, hq2, hq3, hq4⟩ := z_best w5 (by assumption); have hd2q : (fun c => if c = q then 1 else D c) q ≠ 0 := (by show (if q = q then 1 else D q) ≠ 0; rw [if_pos rfl]; exact Nat.one_ne_zero); have hd2 : ∀ c, c ≠ q → (fun c => if c = q then 1 else D c) c = D c := (fun c hc => if_neg hc)
                      refine e_steps 3 (σ' := (122, [(0, .ref 0), (1, .int (nI m)), (2, .int (nI s)), (3, .int (nI fr)), (4, .int (nI best_8))], [.int (nI best_8), .ref 10], (MH g kept was isKept tape fed pos tlen flt ranking paper written pairs ab3 be3 dn3 dist rowv rowMany lsz itm weakAbove weakBelow))) rfl ?_
                      have er_9 : nI best_8 = nI q := e_q
                      rw [er_9]
                      refine e_steps 1 (σ' := (123, [(0, .ref 0), (1, .int (nI m)), (2, .int (nI s)), (3, .int (nI fr)), (4, .int (nI q))], [.int (nI 1), .int (nI q), .ref 10], (MH g kept was isKept tape fed pos tlen flt ranking paper written pairs ab3 be3 dn3 dist rowv rowMany lsz itm weakAbove weakBelow))) rfl ?_
                      refine e_bas (MH g kept was isKept tape fed pos tlen flt ranking paper written pairs ab3 be3 (upd dn3 q (nI 1)) dist rowv rowMany lsz itm weakAbove weakBelow) rfl rfl (by first | assumption | omega | rfl | trivial) (by decide) (by first | assumption | omega | rfl | trivial) rfl ?_
                      refine e_steps 5 (σ' := (130, [(0, .ref 0), (1, .int (nI m)), (2, .int (nI s)), (3, .int (nI fr)), (4, .int (nI q))], [.int (nI q), .int (nI fr), .int (nI s), .int (nI m), .ref 0], (MH g kept was isKept tape fed pos tlen flt ranking paper written pairs ab3 be3 (upd dn3 q (nI 1)) dist rowv rowMany lsz itm weakAbove weakBelow))) rfl ?_
                      refine e_call (y := 182) (av := [.ref 0, .int (nI m), .int (nI s), .int (nI fr), .int (nI q)]) (rest := []) rfl (c_X6_goesOn (d + 0) (n := n) (outs := outs) (bm := bm) (ms := ms) (dr := dr) (cn := cn) (pl := pl) (K := K) (D := (fun c => if c = q then 1 else D c)) (F := F) (by first | assumption | omega | rfl | trivial) (by first | assumption | omega | rfl | trivial) (by first | assumption | omega | rfl | trivial) (by first | assumption | omega | rfl | trivial) (by first | assumption | omega | rfl | trivial) (by first | assumption | omega | rfl | trivial) (by first | assumption | omega | rfl | trivial) (by first | assumption | omega | rfl | trivial) (by first | assumption | omega | rfl | trivial) (by first | assumption | omega | rfl | trivial)) (fun r_10 h_10 p_10 => ?_)
                      obtain ⟨above_10, below_10, rfl, rfl, q_10⟩ := p_10
                      refine e_steps 3 (σ' := (136, [(0, .ref 0), (1, .int (nI m)), (2, .int (nI s)), (3, .int (nI fr)), (4, .int (nI q))], [.int (nI fr), .int (nI m), .ref 0], (MH g kept was isKept tape fed pos tlen flt ranking paper written pairs above_10 below_10 (upd dn3 q (nI 1)) dist rowv rowMany lsz itm weakAbove weakBelow))) rfl ?_
                      refine e_call (y := 181) (av := [.ref 0, .int (nI m), .int (nI fr)]) (rest := []) rfl (c_X6_strongestLeft (d + 0) (n := n) (outs := outs) (bm := bm) (ms := ms) (dr := dr) (cn := cn) (pl := pl) (K := (z_rel n fr (fun c => if c = q then 1 else D c) (z_LS m s F) q K)) (D := (fun c => if c = q then 1 else D c)) (by first | assumption | omega | rfl | trivial) (by first | assumption | omega | rfl | trivial) (by first | assumption | omega | rfl | trivial) (by first | assumption | omega | rfl | trivial) (by first | assumption | omega | rfl | trivial)) (fun r_11 h_11 p_11 => ?_)
                      obtain ⟨rfl, o_11⟩ := p_11
                      rcases o_11 with ⟨bst_11, rfl, o_11⟩ | ⟨rfl, o_11⟩
                      · skip
                        refine e_steps 2 (σ' := (111, [(4, .int (nI bst_11)), (0, .ref 0), (1, .int (nI m)), (2, .int (nI s)), (3, .int (nI fr))], [], (MH g kept was isKept tape fed pos tlen flt ranking paper written pairs above_10 below_10 (upd dn3 q (nI 1)) dist rowv rowMany lsz itm weakAbove weakBelow))) rfl ?_
                        refine e_sub [1, 2, 3, 4, 0] rfl ?_
                        exact ih_6 (nI bst_11) above_10 below_10 (upd dn3 q (nI 1)) ((z_rel n fr (fun c => if c = q then 1 else D c) (z_LS m s F) q K)) ((fun c => if c = q then 1 else D c)) (by omega) (by first | assumption | omega | rfl | trivial)
                      · skip
                        refine e_steps 2 (σ' := (111, [(4, .int ((-nI 1))), (0, .ref 0), (1, .int (nI m)), (2, .int (nI s)), (3, .int (nI fr))], [], (MH g kept was isKept tape fed pos tlen flt ranking paper written pairs above_10 below_10 (upd dn3 q (nI 1)) dist rowv rowMany lsz itm weakAbove weakBelow))) rfl ?_
                        refine e_sub [1, 2, 3, 4, 0] rfl ?_
                        exact ih_6 ((-nI 1)) above_10 below_10 (upd dn3 q (nI 1)) ((z_rel n fr (fun c => if c = q then 1 else D c) (z_LS m s F) q K)) ((fun c => if c = q then 1 else D c)) (by omega) (by first | assumption | omega | rfl | trivial)
                refine e_sub [1, 2, 3, 4, 0] rfl ?_
                exact loop_6 _ (nI bst_5) ab1 be1 (upd dn fr (nI 1)) ((fun c => if c < n ∧ c ≠ fr then z_LS m s F fr c else 0)) ((fun c => if c = fr then 1 else 0)) (Nat.lt_succ_self _) (by first | assumption | omega | rfl | trivial)
              · skip
                refine e_steps 1 (σ' := (111, [(4, .int ((-nI 1))), (0, .ref 0), (1, .int (nI m)), (2, .int (nI s)), (3, .int (nI fr))], [], (MH g kept was isKept tape fed pos tlen flt ranking paper written pairs ab1 be1 (upd dn fr (nI 1)) dist rowv rowMany lsz itm weakAbove weakBelow))) rfl ?_
                have loop_12 : ∀ (z_12 : Nat) (best : Int32) (ab3 : Nat → Int64) (be3 : Nat → Int64) (dn3 : Nat → Int32) (K : Nat → Nat) (D : Nat → Nat), z_ct n (fun c => decide (D c = 0)) < z_12 → (z_GR (z_LS m s F) n fr K D ∧ (∀ c, c < 8 → z_AB1 m (ab3 (8 * fr + c)) (be3 (8 * fr + c)) (K c)) ∧ (∀ c, c < 8 → dn3 c = nI (D c) ∧ D c < 2) ∧ (∀ x, (x < 8 * fr ∨ 8 * fr + 8 ≤ x) → ab3 x = above x ∧ be3 x = below x) ∧ ((∃ q, best = nI q ∧ q < n ∧ D q = 0 ∧ 0 < K q ∧ ∀ c, c < n → D c = 0 → K c ≤ K q) ∨ (best = -nI 1 ∧ ∀ c, c < n → D c = 0 → K c = 0))) → z_EV (d + 3) zmX6_grows R (111, [(0, .ref 0), (1, .int (nI m)), (2, .int (nI s)), (3, .int (nI fr)), (4, .int best)], [], (MH g kept was isKept tape fed pos tlen flt ranking paper written pairs ab3 be3 dn3 dist rowv rowMany lsz itm weakAbove weakBelow)) := by
                  intro z_12
                  induction z_12 with
                  | zero => intro best ab3 be3 dn3 K D hm_12 _; exact absurd hm_12 (Nat.not_lt_zero _)
                  | succ z_12 ih_12 =>
                    intro best ab3 be3 dn3 K D hm_12 hi_12
                    obtain ⟨w1, w2, w3, w4, w5⟩ := hi_12
                    refine e_steps 1 (σ' := (113, [(0, .ref 0), (1, .int (nI m)), (2, .int (nI s)), (3, .int (nI fr)), (4, .int best)], [.int best], (MH g kept was isKept tape fed pos tlen flt ranking paper written pairs ab3 be3 dn3 dist rowv rowMany lsz itm weakAbove weakBelow))) rfl ?_
                    refine e_if (c := best < 0) rfl (fun c_13 => ?_) (fun c_13 => ?_)
                    · skip
                      refine e_steps 0 (σ' := (144, [(0, .ref 0), (1, .int (nI m)), (2, .int (nI s)), (3, .int (nI fr)), (4, .int best)], [], (MH g kept was isKept tape fed pos tlen flt ranking paper written pairs ab3 be3 dn3 dist rowv rowMany lsz itm weakAbove weakBelow))) rfl ?_
                      exact e_ret rfl (trivial) (hR _ _ ⟨ab3, be3, dn3, rfl, rfl, (by first | assumption | omega | rfl | trivial)⟩)
                    · skip
                      obtain ⟨best_14, hbest_14, ebest_14⟩ := nI_of c_13
                      subst ebest_14
                      refine e_steps 0 (σ' := (116, [(0, .ref 0), (1, .int (nI m)), (2, .int (nI s)), (3, .int (nI fr)), (4, .int (nI best_14))], [], (MH g kept was isKept tape fed pos tlen flt ranking paper written pairs ab3 be3 dn3 dist rowv rowMany lsz itm weakAbove weakBelow))) rfl ?_
                      obtain ⟨q, e_q, hq1, hq2, hq3, hq4⟩ := z_best w5 (by assumption); have hd2q : (fun c => if c = q then 1 else D c) q ≠ 0 := (by show (if q = q then 1 else D q) ≠ 0; rw [if_pos rfl]; exact Nat.one_ne_zero); have hd2 : ∀ c, c ≠ q → (fun c => if c = q then 1 else D c) c = D c := (fun c hc => if_neg hc)
                      refine e_steps 3 (σ' := (122, [(0, .ref 0), (1, .int (nI m)), (2, .int (nI s)), (3, .int (nI fr)), (4, .int (nI best_14))], [.int (nI best_14), .ref 10], (MH g kept was isKept tape fed pos tlen flt ranking paper written pairs ab3 be3 dn3 dist rowv rowMany lsz itm weakAbove weakBelow))) rfl ?_
                      have er_15 : nI best_14 = nI q := e_q
                      rw [er_15]
                      refine e_steps 1 (σ' := (123, [(0, .ref 0), (1, .int (nI m)), (2, .int (nI s)), (3, .int (nI fr)), (4, .int (nI q))], [.int (nI 1), .int (nI q), .ref 10], (MH g kept was isKept tape fed pos tlen flt ranking paper written pairs ab3 be3 dn3 dist rowv rowMany lsz itm weakAbove weakBelow))) rfl ?_
                      refine e_bas (MH g kept was isKept tape fed pos tlen flt ranking paper written pairs ab3 be3 (upd dn3 q (nI 1)) dist rowv rowMany lsz itm weakAbove weakBelow) rfl rfl (by first | assumption | omega | rfl | trivial) (by decide) (by first | assumption | omega | rfl | trivial) rfl ?_
                      refine e_steps 5 (σ' := (130, [(0, .ref 0), (1, .int (nI m)), (2, .int (nI s)), (3, .int (nI fr)), (4, .int (nI q))], [.int (nI q), .int (nI fr), .int (nI s), .int (nI m), .ref 0], (MH g kept was isKept tape fed pos tlen flt ranking paper written pairs ab3 be3 (upd dn3 q (nI 1)) dist rowv rowMany lsz itm weakAbove weakBelow))) rfl ?_
                      refine e_call (y := 182) (av := [.ref 0, .int (nI m), .int (nI s), .int (nI fr), .int (nI q)]) (rest := []) rfl (c_X6_goesOn (d + 0) (n := n) (outs := outs) (bm := bm) (ms := ms) (dr := dr) (cn := cn) (pl := pl) (K := K) (D := (fun c => if c = q then 1 else D c)) (F := F) (by first | assumption | omega | rfl | trivial) (by first | assumption | omega | rfl | trivial) (by first | assumption | omega | rfl | trivial) (by first | assumption | omega | rfl | trivial) (by first | assumption | omega | rfl | trivial) (by first | assumption | omega | rfl | trivial) (by first | assumption | omega | rfl | trivial) (by first | assumption | omega | rfl | trivial) (by first | assumption | omega | rfl | trivial) (by first | assumption | omega | rfl | trivial)) (fun r_16 h_16 p_16 => ?_)
                      obtain ⟨above_16, below_16, rfl, rfl, q_16⟩ := p_16
                      refine e_steps 3 (σ' := (136, [(0, .ref 0), (1, .int (nI m)), (2, .int (nI s)), (3, .int (nI fr)), (4, .int (nI q))], [.int (nI fr), .int (nI m), .ref 0], (MH g kept was isKept tape fed pos tlen flt ranking paper written pairs above_16 below_16 (upd dn3 q (nI 1)) dist rowv rowMany lsz itm weakAbove weakBelow))) rfl ?_
                      refine e_call (y := 181) (av := [.ref 0, .int (nI m), .int (nI fr)]) (rest := []) rfl (c_X6_strongestLeft (d + 0) (n := n) (outs := outs) (bm := bm) (ms := ms) (dr := dr) (cn := cn) (pl := pl) (K := (z_rel n fr (fun c => if c = q then 1 else D c) (z_LS m s F) q K)) (D := (fun c => if c = q then 1 else D c)) (by first | assumption | omega | rfl | trivial) (by first | assumption | omega | rfl | trivial) (by first | assumption | omega | rfl | trivial) (by first | assumption | omega | rfl | trivial) (by first | assumption | omega | rfl | trivial)) (fun r_17 h_17 p_17 => ?_)
                      obtain ⟨rfl, o_17⟩ := p_17
                      rcases o_17 with ⟨bst_17, rfl, o_17⟩ | ⟨rfl, o_17⟩
                      · skip
                        refine e_steps 2 (σ' := (111, [(4, .int (nI bst_17)), (0, .ref 0), (1, .int (nI m)), (2, .int (nI s)), (3, .int (nI fr))], [], (MH g kept was isKept tape fed pos tlen flt ranking paper written pairs above_16 below_16 (upd dn3 q (nI 1)) dist rowv rowMany lsz itm weakAbove weakBelow))) rfl ?_
                        refine e_sub [1, 2, 3, 4, 0] rfl ?_
                        exact ih_12 (nI bst_17) above_16 below_16 (upd dn3 q (nI 1)) ((z_rel n fr (fun c => if c = q then 1 else D c) (z_LS m s F) q K)) ((fun c => if c = q then 1 else D c)) (by omega) (by first | assumption | omega | rfl | trivial)
                      · skip
                        refine e_steps 2 (σ' := (111, [(4, .int ((-nI 1))), (0, .ref 0), (1, .int (nI m)), (2, .int (nI s)), (3, .int (nI fr))], [], (MH g kept was isKept tape fed pos tlen flt ranking paper written pairs above_16 below_16 (upd dn3 q (nI 1)) dist rowv rowMany lsz itm weakAbove weakBelow))) rfl ?_
                        refine e_sub [1, 2, 3, 4, 0] rfl ?_
                        exact ih_12 ((-nI 1)) above_16 below_16 (upd dn3 q (nI 1)) ((z_rel n fr (fun c => if c = q then 1 else D c) (z_LS m s F) q K)) ((fun c => if c = q then 1 else D c)) (by omega) (by first | assumption | omega | rfl | trivial)
                refine e_sub [1, 2, 3, 4, 0] rfl ?_
                exact loop_12 _ ((-nI 1)) ab1 be1 (upd dn fr (nI 1)) ((fun c => if c < n ∧ c ≠ fr then z_LS m s F fr c else 0)) ((fun c => if c = fr then 1 else 0)) (Nat.lt_succ_self _) (by first | assumption | omega | rfl | trivial)
            · skip
              rw [nI_leI (by omega) (by omega)] at c_4
              refine e_steps 4 (σ' := (65, [(0, .ref 0), (1, .int (nI m)), (2, .int (nI s)), (3, .int (nI fr)), (4, .int (nI j))], [.int (nI j), .int (nI fr), .int (nI s), .ref 0], (MH g kept was isKept tape fed pos tlen flt ranking paper written pairs ab1 be1 (upd dn fr (nI 1)) dist rowv rowMany lsz itm weakAbove weakBelow))) rfl ?_
              refine e_call (y := 176) (av := [.ref 0, .int (nI s), .int (nI fr), .int (nI j)]) (rest := []) rfl (c_X6_isLink (d + 1) (n := n) (outs := outs) (bm := bm) (ms := ms) (dr := dr) (cn := cn) (pl := pl) (F := F) (by first | assumption | omega | rfl | trivial) (by first | assumption | omega | rfl | trivial) (by first | assumption | omega | rfl | trivial) (by first | assumption | omega | rfl | trivial) (by first | assumption | omega | rfl | trivial)) (fun r_18 h_18 p_18 => ?_)
              obtain ⟨rfl, o_18⟩ := p_18
              rcases o_18 with ⟨rfl, o_18⟩ | ⟨rfl, o_18⟩
              · skip
                refine e_steps 5 (σ' := (76, [(0, .ref 0), (1, .int (nI m)), (2, .int (nI s)), (3, .int (nI fr)), (4, .int (nI j))], [.int (nI fr), .int (nI 8), .int (nI m), .ref 0], (MH g kept was isKept tape fed pos tlen flt ranking paper written pairs ab1 be1 (upd dn fr (nI 1)) dist rowv rowMany lsz itm weakAbove weakBelow))) rfl ?_
                refine e_mul (8 * fr) rfl (by first | rfl | omega | simp) ?_
                refine e_steps 1 (σ' := (79, [(0, .ref 0), (1, .int (nI m)), (2, .int (nI s)), (3, .int (nI fr)), (4, .int (nI j))], [.int (nI j), .int (nI (8 * fr)), .int (nI m), .ref 0], (MH g kept was isKept tape fed pos tlen flt ranking paper written pairs ab1 be1 (upd dn fr (nI 1)) dist rowv rowMany lsz itm weakAbove weakBelow))) rfl ?_
                refine e_add (8 * fr + j) rfl (by first | rfl | omega) ?_
                refine e_steps 3 (σ' := (84, [(0, .ref 0), (1, .int (nI m)), (2, .int (nI s)), (3, .int (nI fr)), (4, .int (nI j))], [.int (nI j), .int (nI fr), .ref 0, .int (nI (8 * fr + j)), .int (nI m), .ref 0], (MH g kept was isKept tape fed pos tlen flt ranking paper written pairs ab1 be1 (upd dn fr (nI 1)) dist rowv rowMany lsz itm weakAbove weakBelow))) rfl ?_
                refine e_call (y := 174) (av := [.ref 0, .int (nI fr), .int (nI j)]) (rest := [.int (nI (8 * fr + j)), .int (nI m), .ref 0]) rfl (c_X6_over (d + 2) (n := n) (outs := outs) (bm := bm) (ms := ms) (dr := dr) (cn := cn) (pl := pl) (F := F) (by first | assumption | omega | rfl | trivial) (by first | assumption | omega | rfl | trivial) (by first | assumption | omega | rfl | trivial) (by first | assumption | omega | rfl | trivial)) (fun r_19 h_19 p_19 => ?_)
                obtain ⟨rfl, rfl⟩ := p_19
                refine e_steps 3 (σ' := (91, [(0, .ref 0), (1, .int (nI m)), (2, .int (nI s)), (3, .int (nI fr)), (4, .int (nI j))], [.int (nI fr), .int (nI j), .ref 0, .long (lN (F fr j)), .int (nI (8 * fr + j)), .int (nI m), .ref 0], (MH g kept was isKept tape fed pos tlen flt ranking paper written pairs ab1 be1 (upd dn fr (nI 1)) dist rowv rowMany lsz itm weakAbove weakBelow))) rfl ?_
                refine e_call (y := 174) (av := [.ref 0, .int (nI j), .int (nI fr)]) (rest := [.long (lN (F fr j)), .int (nI (8 * fr + j)), .int (nI m), .ref 0]) rfl (c_X6_over (d + 2) (n := n) (outs := outs) (bm := bm) (ms := ms) (dr := dr) (cn := cn) (pl := pl) (F := F) (by first | assumption | omega | rfl | trivial) (by first | assumption | omega | rfl | trivial) (by first | assumption | omega | rfl | trivial) (by first | assumption | omega | rfl | trivial)) (fun r_20 h_20 p_20 => ?_)
                obtain ⟨rfl, rfl⟩ := p_20
                refine e_steps 0 (σ' := (94, [(0, .ref 0), (1, .int (nI m)), (2, .int (nI s)), (3, .int (nI fr)), (4, .int (nI j))], [.long (lN (F j fr)), .long (lN (F fr j)), .int (nI (8 * fr + j)), .int (nI m), .ref 0], (MH g kept was isKept tape fed pos tlen flt ranking paper written pairs ab1 be1 (upd dn fr (nI 1)) dist rowv rowMany lsz itm weakAbove weakBelow))) rfl ?_
                refine e_call (y := 180) (av := [.ref 0, .int (nI m), .int (nI (8 * fr + j)), .long (lN (F fr j)), .long (lN (F j fr))]) (rest := []) rfl (c_X6_takes (d + 1) (k := 0) (by first | assumption | omega | rfl | trivial) (by first | assumption | omega | rfl | trivial) (by first | assumption | omega | rfl | trivial) (by first | assumption | omega | rfl | trivial) (by first | assumption | omega | rfl | trivial)) (fun r_21 h_21 p_21 => ?_)
                obtain ⟨above_21, below_21, rfl, rfl, q_21⟩ := p_21
                refine e_steps 0 (σ' := (97, [(0, .ref 0), (1, .int (nI m)), (2, .int (nI s)), (3, .int (nI fr)), (4, .int (nI j))], [], (MH g kept was isKept tape fed pos tlen flt ranking paper written pairs above_21 below_21 (upd dn fr (nI 1)) dist rowv rowMany lsz itm weakAbove weakBelow))) rfl ?_
                refine e_inc (n := 1) rfl rfl rfl (j + 1) (by rfl) [(4, .int (nI (j + 1))), (0, .ref 0), (1, .int (nI m)), (2, .int (nI s)), (3, .int (nI fr))] rfl ?_
                refine e_steps 1 (σ' := (49, [(4, .int (nI (j + 1))), (0, .ref 0), (1, .int (nI m)), (2, .int (nI s)), (3, .int (nI fr))], [], (MH g kept was isKept tape fed pos tlen flt ranking paper written pairs above_21 below_21 (upd dn fr (nI 1)) dist rowv rowMany lsz itm weakAbove weakBelow))) rfl ?_
                refine e_sub [1, 2, 3, 4, 0] rfl ?_
                exact ih_3 (j + 1) above_21 below_21 (by omega) (by first | assumption | omega | rfl | trivial)
              · skip
                refine e_steps 1 (σ' := (97, [(0, .ref 0), (1, .int (nI m)), (2, .int (nI s)), (3, .int (nI fr)), (4, .int (nI j))], [], (MH g kept was isKept tape fed pos tlen flt ranking paper written pairs ab1 be1 (upd dn fr (nI 1)) dist rowv rowMany lsz itm weakAbove weakBelow))) rfl ?_
                refine e_inc (n := 1) rfl rfl rfl (j + 1) (by rfl) [(4, .int (nI (j + 1))), (0, .ref 0), (1, .int (nI m)), (2, .int (nI s)), (3, .int (nI fr))] rfl ?_
                refine e_steps 1 (σ' := (49, [(4, .int (nI (j + 1))), (0, .ref 0), (1, .int (nI m)), (2, .int (nI s)), (3, .int (nI fr))], [], (MH g kept was isKept tape fed pos tlen flt ranking paper written pairs ab1 be1 (upd dn fr (nI 1)) dist rowv rowMany lsz itm weakAbove weakBelow))) rfl ?_
                refine e_sub [1, 2, 3, 4, 0] rfl ?_
                exact ih_3 (j + 1) ab1 be1 (by omega) (by first | assumption | omega | rfl | trivial)
        refine e_sub [1, 2, 3, 4, 0] rfl ?_
        exact loop_3 _ 0 ab below (Nat.lt_succ_self _) (by first | assumption | omega | rfl | trivial)
      · skip
        rw [nI_leI (by omega) (by omega)] at c_2
        refine e_steps 4 (σ' := (17, [(0, .ref 0), (1, .int (nI m)), (2, .int (nI s)), (3, .int (nI fr)), (4, .int (nI j))], [.int (nI fr), .int (nI 8), .ref 8], (MH g kept was isKept tape fed pos tlen flt ranking paper written pairs ab below dn dist rowv rowMany lsz itm weakAbove weakBelow))) rfl ?_
        refine e_mul (8 * fr) rfl (by first | rfl | omega | simp) ?_
        refine e_steps 1 (σ' := (20, [(0, .ref 0), (1, .int (nI m)), (2, .int (nI s)), (3, .int (nI fr)), (4, .int (nI j))], [.int (nI j), .int (nI (8 * fr)), .ref 8], (MH g kept was isKept tape fed pos tlen flt ranking paper written pairs ab below dn dist rowv rowMany lsz itm weakAbove weakBelow))) rfl ?_
        refine e_add (8 * fr + j) rfl (by first | rfl | omega) ?_
        refine e_steps 1 (σ' := (24, [(0, .ref 0), (1, .int (nI m)), (2, .int (nI s)), (3, .int (nI fr)), (4, .int (nI j))], [.long ((-lN 1)), .int (nI (8 * fr + j)), .ref 8], (MH g kept was isKept tape fed pos tlen flt ranking paper written pairs ab below dn dist rowv rowMany lsz itm weakAbove weakBelow))) rfl ?_
        refine e_las (MH g kept was isKept tape fed pos tlen flt ranking paper written pairs (vp_updL ab (8 * fr + j) ((-lN 1))) below dn dist rowv rowMany lsz itm weakAbove weakBelow) rfl rfl (by first | assumption | omega | rfl | trivial) (by decide) rfl ?_
        refine e_steps 4 (σ' := (32, [(0, .ref 0), (1, .int (nI m)), (2, .int (nI s)), (3, .int (nI fr)), (4, .int (nI j))], [.int (nI 0), .int (nI j), .ref 10], (MH g kept was isKept tape fed pos tlen flt ranking paper written pairs (vp_updL ab (8 * fr + j) ((-lN 1))) below dn dist rowv rowMany lsz itm weakAbove weakBelow))) rfl ?_
        refine e_bas (MH g kept was isKept tape fed pos tlen flt ranking paper written pairs (vp_updL ab (8 * fr + j) ((-lN 1))) below (upd dn j (nI 0)) dist rowv rowMany lsz itm weakAbove weakBelow) rfl rfl (by first | assumption | omega | rfl | trivial) (by decide) (by first | assumption | omega | rfl | trivial) rfl ?_
        refine e_steps 0 (σ' := (33, [(0, .ref 0), (1, .int (nI m)), (2, .int (nI s)), (3, .int (nI fr)), (4, .int (nI j))], [], (MH g kept was isKept tape fed pos tlen flt ranking paper written pairs (vp_updL ab (8 * fr + j) ((-lN 1))) below (upd dn j (nI 0)) dist rowv rowMany lsz itm weakAbove weakBelow))) rfl ?_
        refine e_inc (n := 1) rfl rfl rfl (j + 1) (by rfl) [(4, .int (nI (j + 1))), (0, .ref 0), (1, .int (nI m)), (2, .int (nI s)), (3, .int (nI fr))] rfl ?_
        refine e_steps 1 (σ' := (3, [(4, .int (nI (j + 1))), (0, .ref 0), (1, .int (nI m)), (2, .int (nI s)), (3, .int (nI fr))], [], (MH g kept was isKept tape fed pos tlen flt ranking paper written pairs (vp_updL ab (8 * fr + j) ((-lN 1))) below (upd dn j (nI 0)) dist rowv rowMany lsz itm weakAbove weakBelow))) rfl ?_
        refine e_sub [1, 2, 3, 4, 0] rfl ?_
        exact ih_1 (j + 1) (vp_updL ab (8 * fr + j) ((-lN 1))) (upd dn j (nI 0)) (by omega) (by first | assumption | omega | rfl | trivial)
  refine e_sub [1, 2, 3, 4, 0] rfl ?_
  exact loop_1 _ 0 above isDone (Nat.lt_succ_self _) (by exact ⟨by omega, fun c hc => absurd hc (Nat.not_lt_zero c), fun _ _ => rfl⟩)
