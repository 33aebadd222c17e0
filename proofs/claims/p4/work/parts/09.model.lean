/-! the reference: its methods over the pure machine -/
def MH (g : Nat → Int32) (kept : Nat → Int32) (was : Nat → Int32) (isKept : Int32) (tape : Nat → Int32) (fed : Int32) (pos : Int32) (tlen : Int32) (flt : Int32) (ranking : Nat → Int32) (paper : Nat → Int32) (written : Int32) (pairs : Nat → Int64) (above : Nat → Int64) (below : Nat → Int64) (isDone : Nat → Int32) (dist : Nat → Int32) (rowv : Nat → Int32) (rowMany : Int32) (lsz : Nat → Int32) (itm : Nat → Int64) (weakAbove : Int64) (weakBelow : Int64) : List z_E := [.inr (6, [.ref 1, .ref 2, .ref 3, .int isKept, .ref 4, .int fed, .int pos, .int tlen, .int flt, .ref 5, .ref 6, .int written, .ref 7, .ref 8, .ref 9, .ref 10, .ref 11, .ref 12, .int rowMany, .ref 13, .ref 14, .long weakAbove, .long weakBelow]), .inl (0, 372, .inl g), .inl (0, 372, .inl kept), .inl (0, 372, .inl was), .inl (0, 120, .inl tape), .inl (0, 8, .inl ranking), .inl (0, 16, .inl paper), .inl (1, 64, .inr (.inl pairs)), .inl (1, 64, .inr (.inl above)), .inl (1, 64, .inr (.inl below)), .inl (2, 8, .inl isDone), .inl (0, 8, .inl dist), .inl (0, 8, .inl rowv), .inl (0, 4, .inl lsz), .inl (1, 160, .inr (.inl itm))]
theorem c_X6_isIn (d : Nat) {g : Nat → Int32} {kept : Nat → Int32} {was : Nat → Int32} {isKept : Int32} {tape : Nat → Int32} {fed : Int32} {pos : Int32} {tlen : Int32} {flt : Int32} {ranking : Nat → Int32} {paper : Nat → Int32} {written : Int32} {pairs : Nat → Int64} {above : Nat → Int64} {below : Nat → Int64} {isDone : Nat → Int32} {dist : Nat → Int32} {rowv : Nat → Int32} {rowMany : Int32} {lsz : Nat → Int32} {itm : Nat → Int64} {weakAbove : Int64} {weakBelow : Int64} {v : Int64} {least : Int64} {most : Int64}  : z_CAL (d + 1) 129 [.long v, .long least, .long most] (MH g kept was isKept tape fed pos tlen flt ranking paper written pairs above below isDone dist rowv rowMany lsz itm weakAbove weakBelow) (fun r h2 => h2 = (MH g kept was isKept tape fed pos tlen flt ranking paper written pairs above below isDone dist rowv rowMany lsz itm weakAbove weakBelow) ∧ ((r = some (.int (nI 1)) ∧ (least ≤ v ∧ v ≤ most)) ∨ (r = some (.int (nI 0)) ∧ (¬ (least ≤ v ∧ v ≤ most))))) := by
  refine e_of2 (q := zmX6_isIn) rfl rfl (fun R hR => ?_)
  refine e_steps 3 (σ' := (3, [(0, .long v), (2, .long least), (4, .long most)], [.int ((lg_cmp v least))], (MH g kept was isKept tape fed pos tlen flt ranking paper written pairs above below isDone dist rowv rowMany lsz itm weakAbove weakBelow))) rfl ?_
  refine e_if (c := lg_cmp v least < 0) rfl (fun c_1 => ?_) (fun c_1 => ?_)
  · rw [lg_cmp_lt] at c_1
    refine e_steps 1 (σ' := (18, [(0, .long v), (2, .long least), (4, .long most)], [.int (nI 0)], (MH g kept was isKept tape fed pos tlen flt ranking paper written pairs above below isDone dist rowv rowMany lsz itm weakAbove weakBelow))) rfl ?_
    exact e_ret rfl (Or.inl rfl) (hR _ _ ⟨rfl, Or.inr ⟨rfl, (by exact fun q => Int64.not_lt.mpr q.1 c_1)⟩⟩)
  · rw [lg_cmp_lt] at c_1
    refine e_steps 3 (σ' := (10, [(0, .long v), (2, .long least), (4, .long most)], [.int ((lg_cmp v most))], (MH g kept was isKept tape fed pos tlen flt ranking paper written pairs above below isDone dist rowv rowMany lsz itm weakAbove weakBelow))) rfl ?_
    refine e_if (c := 0 < lg_cmp v most) rfl (fun c_2 => ?_) (fun c_2 => ?_)
    · rw [lg_cmp_gt] at c_2
      refine e_steps 1 (σ' := (18, [(0, .long v), (2, .long least), (4, .long most)], [.int (nI 0)], (MH g kept was isKept tape fed pos tlen flt ranking paper written pairs above below isDone dist rowv rowMany lsz itm weakAbove weakBelow))) rfl ?_
      exact e_ret rfl (Or.inl rfl) (hR _ _ ⟨rfl, Or.inr ⟨rfl, (by exact fun q => Int64.not_lt.mpr q.2 c_2)⟩⟩)
    · rw [lg_cmp_gt] at c_2
      refine e_steps 2 (σ' := (18, [(0, .long v), (2, .long least), (4, .long most)], [.int (nI 1)], (MH g kept was isKept tape fed pos tlen flt ranking paper written pairs above below isDone dist rowv rowMany lsz itm weakAbove weakBelow))) rfl ?_
      exact e_ret rfl (Or.inr rfl) (hR _ _ ⟨rfl, Or.inl ⟨rfl, (by exact ⟨Int64.not_lt.mp c_1, Int64.not_lt.mp c_2⟩)⟩⟩)
theorem c_X6_isIn_N (d : Nat) {g : Nat → Int32} {kept : Nat → Int32} {was : Nat → Int32} {isKept : Int32} {tape : Nat → Int32} {fed : Int32} {pos : Int32} {tlen : Int32} {flt : Int32} {ranking : Nat → Int32} {paper : Nat → Int32} {written : Int32} {pairs : Nat → Int64} {above : Nat → Int64} {below : Nat → Int64} {isDone : Nat → Int32} {dist : Nat → Int32} {rowv : Nat → Int32} {rowMany : Int32} {lsz : Nat → Int32} {itm : Nat → Int64} {weakAbove : Int64} {weakBelow : Int64} {v : Nat} {least : Nat} {most : Nat} (hv : v < 2 ^ 31) (hl : least < 2 ^ 31) (hm : most < 2 ^ 31) : z_CAL (d + 1) 129 [.long (lN v), .long (lN least), .long (lN most)] (MH g kept was isKept tape fed pos tlen flt ranking paper written pairs above below isDone dist rowv rowMany lsz itm weakAbove weakBelow) (fun r h2 => h2 = (MH g kept was isKept tape fed pos tlen flt ranking paper written pairs above below isDone dist rowv rowMany lsz itm weakAbove weakBelow) ∧ ((r = some (.int (nI 1)) ∧ (least ≤ v ∧ v ≤ most)) ∨ (r = some (.int (nI 0)) ∧ (¬ (least ≤ v ∧ v ≤ most))))) := by
  refine e_of2 (q := zmX6_isIn) rfl rfl (fun R hR => ?_)
  refine e_steps 3 (σ' := (3, [(0, .long (lN v)), (2, .long (lN least)), (4, .long (lN most))], [.int ((lg_cmp (lN v) (lN least)))], (MH g kept was isKept tape fed pos tlen flt ranking paper written pairs above below isDone dist rowv rowMany lsz itm weakAbove weakBelow))) rfl ?_
  refine e_if (c := lg_cmp (lN v) (lN least) < 0) rfl (fun c_1 => ?_) (fun c_1 => ?_)
  · rw [lg_cmp_lt] at c_1
    rw [pk_lLT (by omega) (by omega)] at c_1
    refine e_steps 1 (σ' := (18, [(0, .long (lN v)), (2, .long (lN least)), (4, .long (lN most))], [.int (nI 0)], (MH g kept was isKept tape fed pos tlen flt ranking paper written pairs above below isDone dist rowv rowMany lsz itm weakAbove weakBelow))) rfl ?_
    exact e_ret rfl (Or.inl rfl) (hR _ _ ⟨rfl, Or.inr ⟨rfl, (by first | assumption | omega | rfl | trivial)⟩⟩)
  · rw [lg_cmp_lt] at c_1
    rw [pk_lLT (by omega) (by omega)] at c_1
    refine e_steps 3 (σ' := (10, [(0, .long (lN v)), (2, .long (lN least)), (4, .long (lN most))], [.int ((lg_cmp (lN v) (lN most)))], (MH g kept was isKept tape fed pos tlen flt ranking paper written pairs above below isDone dist rowv rowMany lsz itm weakAbove weakBelow))) rfl ?_
    refine e_if (c := 0 < lg_cmp (lN v) (lN most)) rfl (fun c_2 => ?_) (fun c_2 => ?_)
    · rw [lg_cmp_gt] at c_2
      rw [pk_lLT (by omega) (by omega)] at c_2
      refine e_steps 1 (σ' := (18, [(0, .long (lN v)), (2, .long (lN least)), (4, .long (lN most))], [.int (nI 0)], (MH g kept was isKept tape fed pos tlen flt ranking paper written pairs above below isDone dist rowv rowMany lsz itm weakAbove weakBelow))) rfl ?_
      exact e_ret rfl (Or.inl rfl) (hR _ _ ⟨rfl, Or.inr ⟨rfl, (by first | assumption | omega | rfl | trivial)⟩⟩)
    · rw [lg_cmp_gt] at c_2
      rw [pk_lLT (by omega) (by omega)] at c_2
      refine e_steps 2 (σ' := (18, [(0, .long (lN v)), (2, .long (lN least)), (4, .long (lN most))], [.int (nI 1)], (MH g kept was isKept tape fed pos tlen flt ranking paper written pairs above below isDone dist rowv rowMany lsz itm weakAbove weakBelow))) rfl ?_
      exact e_ret rfl (Or.inr rfl) (hR _ _ ⟨rfl, Or.inl ⟨rfl, (by first | assumption | omega | rfl | trivial)⟩⟩)
theorem c_X6_has (d : Nat) {g : Nat → Int32} {kept : Nat → Int32} {was : Nat → Int32} {isKept : Int32} {tape : Nat → Int32} {fed : Int32} {pos : Int32} {tlen : Int32} {flt : Int32} {ranking : Nat → Int32} {paper : Nat → Int32} {written : Int32} {pairs : Nat → Int64} {above : Nat → Int64} {below : Nat → Int64} {isDone : Nat → Int32} {dist : Nat → Int32} {rowv : Nat → Int32} {rowMany : Int32} {lsz : Nat → Int32} {itm : Nat → Int64} {weakAbove : Int64} {weakBelow : Int64} {s : Nat} {k : Nat} (hs : s < 256) (hk : k < 8) : z_CAL (d + 1) 131 [.int (nI s), .int (nI k)] (MH g kept was isKept tape fed pos tlen flt ranking paper written pairs above below isDone dist rowv rowMany lsz itm weakAbove weakBelow) (fun r h2 => h2 = (MH g kept was isKept tape fed pos tlen flt ranking paper written pairs above below isDone dist rowv rowMany lsz itm weakAbove weakBelow) ∧ ((r = some (.int (nI 1)) ∧ (s.testBit k = true)) ∨ (r = some (.int (nI 0)) ∧ (s.testBit k = false)))) := by
  refine e_of2 (q := zmX6_has) rfl rfl (fun R hR => ?_)
  refine e_steps 6 (σ' := (6, [(0, .int (nI s)), (1, .int (nI k))], [.int (nI 1), .int (((((nI s) >>> ((nI k) &&& 31))) &&& (nI 1)))], (MH g kept was isKept tape fed pos tlen flt ranking paper written pairs above below isDone dist rowv rowMany lsz itm weakAbove weakBelow))) rfl ?_
  refine e_if (c := ¬ ((((nI s) >>> ((nI k) &&& 31))) &&& (nI 1)) = nI 1) rfl (fun c_1 => ?_) (fun c_1 => ?_)
  · skip
    refine e_steps 1 (σ' := (14, [(0, .int (nI s)), (1, .int (nI k))], [.int (nI 0)], (MH g kept was isKept tape fed pos tlen flt ranking paper written pairs above below isDone dist rowv rowMany lsz itm weakAbove weakBelow))) rfl ?_
    exact e_ret rfl (Or.inl rfl) (hR _ _ ⟨rfl, Or.inr ⟨rfl, (by rw [z_has hs hk] at c_1; simpa using c_1)⟩⟩)
  · skip
    refine e_steps 2 (σ' := (14, [(0, .int (nI s)), (1, .int (nI k))], [.int (nI 1)], (MH g kept was isKept tape fed pos tlen flt ranking paper written pairs above below isDone dist rowv rowMany lsz itm weakAbove weakBelow))) rfl ?_
    exact e_ret rfl (Or.inr rfl) (hR _ _ ⟨rfl, Or.inl ⟨rfl, (by rw [z_has hs hk] at c_1; simpa using c_1)⟩⟩)
theorem c_X6_copies_gw (d : Nat) {g : Nat → Int32} {kept : Nat → Int32} {was : Nat → Int32} {isKept : Int32} {tape : Nat → Int32} {fed : Int32} {pos : Int32} {tlen : Int32} {flt : Int32} {ranking : Nat → Int32} {paper : Nat → Int32} {written : Int32} {pairs : Nat → Int64} {above : Nat → Int64} {below : Nat → Int64} {isDone : Nat → Int32} {dist : Nat → Int32} {rowv : Nat → Int32} {rowMany : Int32} {lsz : Nat → Int32} {itm : Nat → Int64} {weakAbove : Int64} {weakBelow : Int64}  : z_CAL (d + 1) 130 [.ref 1, .ref 3] (MH g kept was isKept tape fed pos tlen flt ranking paper written pairs above below isDone dist rowv rowMany lsz itm weakAbove weakBelow) (fun r h2 => ∃ (was2 : Nat → Int32), r = none ∧ h2 = (MH g kept was2 isKept tape fed pos tlen flt ranking paper written pairs above below isDone dist rowv rowMany lsz itm weakAbove weakBelow) ∧ (∀ k, k < 372 → was2 k = g k)) := by
  refine e_of2 (q := zmX6_copies) rfl rfl (fun R hR => ?_)
  refine e_steps 2 (σ' := (2, [(2, .int (nI 0)), (0, .ref 1), (1, .ref 3)], [], (MH g kept was isKept tape fed pos tlen flt ranking paper written pairs above below isDone dist rowv rowMany lsz itm weakAbove weakBelow))) rfl ?_
  have loop_1 : ∀ (z_1 : Nat) (k : Nat) (wasl : Nat → Int32), 372 - k < z_1 → (k ≤ 372 ∧ ∀ i, i < k → wasl i = g i) → z_EV (d + 0) zmX6_copies R (2, [(0, .ref 1), (1, .ref 3), (2, .int (nI k))], [], (MH g kept wasl isKept tape fed pos tlen flt ranking paper written pairs above below isDone dist rowv rowMany lsz itm weakAbove weakBelow)) := by
    intro z_1
    induction z_1 with
    | zero => intro k wasl hm_1 _; exact absurd hm_1 (Nat.not_lt_zero _)
    | succ z_1 ih_1 =>
      intro k wasl hm_1 hi_1
      obtain ⟨hk1, hk2⟩ := hi_1
      refine e_steps 2 (σ' := (6, [(0, .ref 1), (1, .ref 3), (2, .int (nI k))], [.int (nI 372), .int (nI k)], (MH g kept wasl isKept tape fed pos tlen flt ranking paper written pairs above below isDone dist rowv rowMany lsz itm weakAbove weakBelow))) rfl ?_
      refine e_if (c := nI 372 ≤ nI k) rfl (fun c_2 => ?_) (fun c_2 => ?_)
      · skip
        rw [nI_leI (by omega) (by omega)] at c_2
        refine e_steps 0 (σ' := (21, [(0, .ref 1), (1, .ref 3), (2, .int (nI k))], [], (MH g kept wasl isKept tape fed pos tlen flt ranking paper written pairs above below isDone dist rowv rowMany lsz itm weakAbove weakBelow))) rfl ?_
        exact e_ret rfl (trivial) (hR _ _ ⟨wasl, rfl, rfl, (by exact fun k hk => hk2 k (by omega))⟩)
      · skip
        rw [nI_leI (by omega) (by omega)] at c_2
        refine e_steps 4 (σ' := (13, [(0, .ref 1), (1, .ref 3), (2, .int (nI k))], [.int (nI k), .ref 1, .int (nI k), .ref 3], (MH g kept wasl isKept tape fed pos tlen flt ranking paper written pairs above below isDone dist rowv rowMany lsz itm weakAbove weakBelow))) rfl ?_
        refine e_ial (g k) rfl rfl (by first | assumption | omega | rfl | trivial) (by decide) (rfl) ?_
        refine e_steps 0 (σ' := (14, [(0, .ref 1), (1, .ref 3), (2, .int (nI k))], [.int ((g k)), .int (nI k), .ref 3], (MH g kept wasl isKept tape fed pos tlen flt ranking paper written pairs above below isDone dist rowv rowMany lsz itm weakAbove weakBelow))) rfl ?_
        refine e_ias (MH g kept (upd wasl k ((g k))) isKept tape fed pos tlen flt ranking paper written pairs above below isDone dist rowv rowMany lsz itm weakAbove weakBelow) rfl rfl (by first | assumption | omega | rfl | trivial) (by decide) rfl ?_
        refine e_steps 0 (σ' := (15, [(0, .ref 1), (1, .ref 3), (2, .int (nI k))], [], (MH g kept (upd wasl k ((g k))) isKept tape fed pos tlen flt ranking paper written pairs above below isDone dist rowv rowMany lsz itm weakAbove weakBelow))) rfl ?_
        refine e_inc (n := 1) rfl rfl rfl (k + 1) (by rfl) [(2, .int (nI (k + 1))), (0, .ref 1), (1, .ref 3)] rfl ?_
        refine e_steps 1 (σ' := (2, [(2, .int (nI (k + 1))), (0, .ref 1), (1, .ref 3)], [], (MH g kept (upd wasl k ((g k))) isKept tape fed pos tlen flt ranking paper written pairs above below isDone dist rowv rowMany lsz itm weakAbove weakBelow))) rfl ?_
        refine e_sub [1, 2, 0] rfl ?_
        exact ih_1 (k + 1) (upd wasl k ((g k))) (by omega) (by exact ⟨by omega, fun i hi => by unfold upd; split <;> first | (rename_i q; rw [q]) | exact hk2 i (by omega)⟩)
  refine e_sub [1, 2, 0] rfl ?_
  exact loop_1 _ 0 was (Nat.lt_succ_self _) (by exact ⟨by omega, fun i hi => absurd hi (Nat.not_lt_zero i)⟩)
theorem c_X6_copies_wg (d : Nat) {g : Nat → Int32} {kept : Nat → Int32} {was : Nat → Int32} {isKept : Int32} {tape : Nat → Int32} {fed : Int32} {pos : Int32} {tlen : Int32} {flt : Int32} {ranking : Nat → Int32} {paper : Nat → Int32} {written : Int32} {pairs : Nat → Int64} {above : Nat → Int64} {below : Nat → Int64} {isDone : Nat → Int32} {dist : Nat → Int32} {rowv : Nat → Int32} {rowMany : Int32} {lsz : Nat → Int32} {itm : Nat → Int64} {weakAbove : Int64} {weakBelow : Int64}  : z_CAL (d + 1) 130 [.ref 3, .ref 1] (MH g kept was isKept tape fed pos tlen flt ranking paper written pairs above below isDone dist rowv rowMany lsz itm weakAbove weakBelow) (fun r h2 => ∃ (new2 : Nat → Int32), r = none ∧ h2 = (MH new2 kept was isKept tape fed pos tlen flt ranking paper written pairs above below isDone dist rowv rowMany lsz itm weakAbove weakBelow) ∧ (∀ k, k < 372 → new2 k = was k)) := by
  refine e_of2 (q := zmX6_copies) rfl rfl (fun R hR => ?_)
  refine e_steps 2 (σ' := (2, [(2, .int (nI 0)), (0, .ref 3), (1, .ref 1)], [], (MH g kept was isKept tape fed pos tlen flt ranking paper written pairs above below isDone dist rowv rowMany lsz itm weakAbove weakBelow))) rfl ?_
  have loop_1 : ∀ (z_1 : Nat) (k : Nat) (newl : Nat → Int32), 372 - k < z_1 → (k ≤ 372 ∧ ∀ i, i < k → newl i = was i) → z_EV (d + 0) zmX6_copies R (2, [(0, .ref 3), (1, .ref 1), (2, .int (nI k))], [], (MH newl kept was isKept tape fed pos tlen flt ranking paper written pairs above below isDone dist rowv rowMany lsz itm weakAbove weakBelow)) := by
    intro z_1
    induction z_1 with
    | zero => intro k newl hm_1 _; exact absurd hm_1 (Nat.not_lt_zero _)
    | succ z_1 ih_1 =>
      intro k newl hm_1 hi_1
      obtain ⟨hk1, hk2⟩ := hi_1
      refine e_steps 2 (σ' := (6, [(0, .ref 3), (1, .ref 1), (2, .int (nI k))], [.int (nI 372), .int (nI k)], (MH newl kept was isKept tape fed pos tlen flt ranking paper written pairs above below isDone dist rowv rowMany lsz itm weakAbove weakBelow))) rfl ?_
      refine e_if (c := nI 372 ≤ nI k) rfl (fun c_2 => ?_) (fun c_2 => ?_)
      · skip
        rw [nI_leI (by omega) (by omega)] at c_2
        refine e_steps 0 (σ' := (21, [(0, .ref 3), (1, .ref 1), (2, .int (nI k))], [], (MH newl kept was isKept tape fed pos tlen flt ranking paper written pairs above below isDone dist rowv rowMany lsz itm weakAbove weakBelow))) rfl ?_
        exact e_ret rfl (trivial) (hR _ _ ⟨newl, rfl, rfl, (by exact fun k hk => hk2 k (by omega))⟩)
      · skip
        rw [nI_leI (by omega) (by omega)] at c_2
        refine e_steps 4 (σ' := (13, [(0, .ref 3), (1, .ref 1), (2, .int (nI k))], [.int (nI k), .ref 3, .int (nI k), .ref 1], (MH newl kept was isKept tape fed pos tlen flt ranking paper written pairs above below isDone dist rowv rowMany lsz itm weakAbove weakBelow))) rfl ?_
        refine e_ial (was k) rfl rfl (by first | assumption | omega | rfl | trivial) (by decide) (rfl) ?_
        refine e_steps 0 (σ' := (14, [(0, .ref 3), (1, .ref 1), (2, .int (nI k))], [.int ((was k)), .int (nI k), .ref 1], (MH newl kept was isKept tape fed pos tlen flt ranking paper written pairs above below isDone dist rowv rowMany lsz itm weakAbove weakBelow))) rfl ?_
        refine e_ias (MH (upd newl k ((was k))) kept was isKept tape fed pos tlen flt ranking paper written pairs above below isDone dist rowv rowMany lsz itm weakAbove weakBelow) rfl rfl (by first | assumption | omega | rfl | trivial) (by decide) rfl ?_
        refine e_steps 0 (σ' := (15, [(0, .ref 3), (1, .ref 1), (2, .int (nI k))], [], (MH (upd newl k ((was k))) kept was isKept tape fed pos tlen flt ranking paper written pairs above below isDone dist rowv rowMany lsz itm weakAbove weakBelow))) rfl ?_
        refine e_inc (n := 1) rfl rfl rfl (k + 1) (by rfl) [(2, .int (nI (k + 1))), (0, .ref 3), (1, .ref 1)] rfl ?_
        refine e_steps 1 (σ' := (2, [(2, .int (nI (k + 1))), (0, .ref 3), (1, .ref 1)], [], (MH (upd newl k ((was k))) kept was isKept tape fed pos tlen flt ranking paper written pairs above below isDone dist rowv rowMany lsz itm weakAbove weakBelow))) rfl ?_
        refine e_sub [1, 2, 0] rfl ?_
        exact ih_1 (k + 1) (upd newl k ((was k))) (by omega) (by exact ⟨by omega, fun i hi => by unfold upd; split <;> first | (rename_i q; rw [q]) | exact hk2 i (by omega)⟩)
  refine e_sub [1, 2, 0] rfl ?_
  exact loop_1 _ 0 g (Nat.lt_succ_self _) (by exact ⟨by omega, fun i hi => absurd hi (Nat.not_lt_zero i)⟩)
theorem c_X6_copies_gk (d : Nat) {g : Nat → Int32} {kept : Nat → Int32} {was : Nat → Int32} {isKept : Int32} {tape : Nat → Int32} {fed : Int32} {pos : Int32} {tlen : Int32} {flt : Int32} {ranking : Nat → Int32} {paper : Nat → Int32} {written : Int32} {pairs : Nat → Int64} {above : Nat → Int64} {below : Nat → Int64} {isDone : Nat → Int32} {dist : Nat → Int32} {rowv : Nat → Int32} {rowMany : Int32} {lsz : Nat → Int32} {itm : Nat → Int64} {weakAbove : Int64} {weakBelow : Int64}  : z_CAL (d + 1) 130 [.ref 1, .ref 2] (MH g kept was isKept tape fed pos tlen flt ranking paper written pairs above below isDone dist rowv rowMany lsz itm weakAbove weakBelow) (fun r h2 => ∃ (new2 : Nat → Int32), r = none ∧ h2 = (MH g new2 was isKept tape fed pos tlen flt ranking paper written pairs above below isDone dist rowv rowMany lsz itm weakAbove weakBelow) ∧ (∀ k, k < 372 → new2 k = g k)) := by
  refine e_of2 (q := zmX6_copies) rfl rfl (fun R hR => ?_)
  refine e_steps 2 (σ' := (2, [(2, .int (nI 0)), (0, .ref 1), (1, .ref 2)], [], (MH g kept was isKept tape fed pos tlen flt ranking paper written pairs above below isDone dist rowv rowMany lsz itm weakAbove weakBelow))) rfl ?_
  have loop_1 : ∀ (z_1 : Nat) (k : Nat) (newl : Nat → Int32), 372 - k < z_1 → (k ≤ 372 ∧ ∀ i, i < k → newl i = g i) → z_EV (d + 0) zmX6_copies R (2, [(0, .ref 1), (1, .ref 2), (2, .int (nI k))], [], (MH g newl was isKept tape fed pos tlen flt ranking paper written pairs above below isDone dist rowv rowMany lsz itm weakAbove weakBelow)) := by
    intro z_1
    induction z_1 with
    | zero => intro k newl hm_1 _; exact absurd hm_1 (Nat.not_lt_zero _)
    | succ z_1 ih_1 =>
      intro k newl hm_1 hi_1
      obtain ⟨hk1, hk2⟩ := hi_1
      refine e_steps 2 (σ' := (6, [(0, .ref 1), (1, .ref 2), (2, .int (nI k))], [.int (nI 372), .int (nI k)], (MH g newl was isKept tape fed pos tlen flt ranking paper written pairs above below isDone dist rowv rowMany lsz itm weakAbove weakBelow))) rfl ?_
      refine e_if (c := nI 372 ≤ nI k) rfl (fun c_2 => ?_) (fun c_2 => ?_)
      · skip
        rw [nI_leI (by omega) (by omega)] at c_2
        refine e_steps 0 (σ' := (21, [(0, .ref 1), (1, .ref 2), (2, .int (nI k))], [], (MH g newl was isKept tape fed pos tlen flt ranking paper written pairs above below isDone dist rowv rowMany lsz itm weakAbove weakBelow))) rfl ?_
        exact e_ret rfl (trivial) (hR _ _ ⟨newl, rfl, rfl, (by exact fun k hk => hk2 k (by omega))⟩)
      · skip
        rw [nI_leI (by omega) (by omega)] at c_2
        refine e_steps 4 (σ' := (13, [(0, .ref 1), (1, .ref 2), (2, .int (nI k))], [.int (nI k), .ref 1, .int (nI k), .ref 2], (MH g newl was isKept tape fed pos tlen flt ranking paper written pairs above below isDone dist rowv rowMany lsz itm weakAbove weakBelow))) rfl ?_
        refine e_ial (g k) rfl rfl (by first | assumption | omega | rfl | trivial) (by decide) (rfl) ?_
        refine e_steps 0 (σ' := (14, [(0, .ref 1), (1, .ref 2), (2, .int (nI k))], [.int ((g k)), .int (nI k), .ref 2], (MH g newl was isKept tape fed pos tlen flt ranking paper written pairs above below isDone dist rowv rowMany lsz itm weakAbove weakBelow))) rfl ?_
        refine e_ias (MH g (upd newl k ((g k))) was isKept tape fed pos tlen flt ranking paper written pairs above below isDone dist rowv rowMany lsz itm weakAbove weakBelow) rfl rfl (by first | assumption | omega | rfl | trivial) (by decide) rfl ?_
        refine e_steps 0 (σ' := (15, [(0, .ref 1), (1, .ref 2), (2, .int (nI k))], [], (MH g (upd newl k ((g k))) was isKept tape fed pos tlen flt ranking paper written pairs above below isDone dist rowv rowMany lsz itm weakAbove weakBelow))) rfl ?_
        refine e_inc (n := 1) rfl rfl rfl (k + 1) (by rfl) [(2, .int (nI (k + 1))), (0, .ref 1), (1, .ref 2)] rfl ?_
        refine e_steps 1 (σ' := (2, [(2, .int (nI (k + 1))), (0, .ref 1), (1, .ref 2)], [], (MH g (upd newl k ((g k))) was isKept tape fed pos tlen flt ranking paper written pairs above below isDone dist rowv rowMany lsz itm weakAbove weakBelow))) rfl ?_
        refine e_sub [1, 2, 0] rfl ?_
        exact ih_1 (k + 1) (upd newl k ((g k))) (by omega) (by exact ⟨by omega, fun i hi => by unfold upd; split <;> first | (rename_i q; rw [q]) | exact hk2 i (by omega)⟩)
  refine e_sub [1, 2, 0] rfl ?_
  exact loop_1 _ 0 kept (Nat.lt_succ_self _) (by exact ⟨by omega, fun i hi => absurd hi (Nat.not_lt_zero i)⟩)
theorem c_X6_copies_kg (d : Nat) {g : Nat → Int32} {kept : Nat → Int32} {was : Nat → Int32} {isKept : Int32} {tape : Nat → Int32} {fed : Int32} {pos : Int32} {tlen : Int32} {flt : Int32} {ranking : Nat → Int32} {paper : Nat → Int32} {written : Int32} {pairs : Nat → Int64} {above : Nat → Int64} {below : Nat → Int64} {isDone : Nat → Int32} {dist : Nat → Int32} {rowv : Nat → Int32} {rowMany : Int32} {lsz : Nat → Int32} {itm : Nat → Int64} {weakAbove : Int64} {weakBelow : Int64}  : z_CAL (d + 1) 130 [.ref 2, .ref 1] (MH g kept was isKept tape fed pos tlen flt ranking paper written pairs above below isDone dist rowv rowMany lsz itm weakAbove weakBelow) (fun r h2 => ∃ (new2 : Nat → Int32), r = none ∧ h2 = (MH new2 kept was isKept tape fed pos tlen flt ranking paper written pairs above below isDone dist rowv rowMany lsz itm weakAbove weakBelow) ∧ (∀ k, k < 372 → new2 k = kept k)) := by
  refine e_of2 (q := zmX6_copies) rfl rfl (fun R hR => ?_)
  refine e_steps 2 (σ' := (2, [(2, .int (nI 0)), (0, .ref 2), (1, .ref 1)], [], (MH g kept was isKept tape fed pos tlen flt ranking paper written pairs above below isDone dist rowv rowMany lsz itm weakAbove weakBelow))) rfl ?_
  have loop_1 : ∀ (z_1 : Nat) (k : Nat) (newl : Nat → Int32), 372 - k < z_1 → (k ≤ 372 ∧ ∀ i, i < k → newl i = kept i) → z_EV (d + 0) zmX6_copies R (2, [(0, .ref 2), (1, .ref 1), (2, .int (nI k))], [], (MH newl kept was isKept tape fed pos tlen flt ranking paper written pairs above below isDone dist rowv rowMany lsz itm weakAbove weakBelow)) := by
    intro z_1
    induction z_1 with
    | zero => intro k newl hm_1 _; exact absurd hm_1 (Nat.not_lt_zero _)
    | succ z_1 ih_1 =>
      intro k newl hm_1 hi_1
      obtain ⟨hk1, hk2⟩ := hi_1
      refine e_steps 2 (σ' := (6, [(0, .ref 2), (1, .ref 1), (2, .int (nI k))], [.int (nI 372), .int (nI k)], (MH newl kept was isKept tape fed pos tlen flt ranking paper written pairs above below isDone dist rowv rowMany lsz itm weakAbove weakBelow))) rfl ?_
      refine e_if (c := nI 372 ≤ nI k) rfl (fun c_2 => ?_) (fun c_2 => ?_)
      · skip
        rw [nI_leI (by omega) (by omega)] at c_2
        refine e_steps 0 (σ' := (21, [(0, .ref 2), (1, .ref 1), (2, .int (nI k))], [], (MH newl kept was isKept tape fed pos tlen flt ranking paper written pairs above below isDone dist rowv rowMany lsz itm weakAbove weakBelow))) rfl ?_
        exact e_ret rfl (trivial) (hR _ _ ⟨newl, rfl, rfl, (by exact fun k hk => hk2 k (by omega))⟩)
      · skip
        rw [nI_leI (by omega) (by omega)] at c_2
        refine e_steps 4 (σ' := (13, [(0, .ref 2), (1, .ref 1), (2, .int (nI k))], [.int (nI k), .ref 2, .int (nI k), .ref 1], (MH newl kept was isKept tape fed pos tlen flt ranking paper written pairs above below isDone dist rowv rowMany lsz itm weakAbove weakBelow))) rfl ?_
        refine e_ial (kept k) rfl rfl (by first | assumption | omega | rfl | trivial) (by decide) (rfl) ?_
        refine e_steps 0 (σ' := (14, [(0, .ref 2), (1, .ref 1), (2, .int (nI k))], [.int ((kept k)), .int (nI k), .ref 1], (MH newl kept was isKept tape fed pos tlen flt ranking paper written pairs above below isDone dist rowv rowMany lsz itm weakAbove weakBelow))) rfl ?_
        refine e_ias (MH (upd newl k ((kept k))) kept was isKept tape fed pos tlen flt ranking paper written pairs above below isDone dist rowv rowMany lsz itm weakAbove weakBelow) rfl rfl (by first | assumption | omega | rfl | trivial) (by decide) rfl ?_
        refine e_steps 0 (σ' := (15, [(0, .ref 2), (1, .ref 1), (2, .int (nI k))], [], (MH (upd newl k ((kept k))) kept was isKept tape fed pos tlen flt ranking paper written pairs above below isDone dist rowv rowMany lsz itm weakAbove weakBelow))) rfl ?_
        refine e_inc (n := 1) rfl rfl rfl (k + 1) (by rfl) [(2, .int (nI (k + 1))), (0, .ref 2), (1, .ref 1)] rfl ?_
        refine e_steps 1 (σ' := (2, [(2, .int (nI (k + 1))), (0, .ref 2), (1, .ref 1)], [], (MH (upd newl k ((kept k))) kept was isKept tape fed pos tlen flt ranking paper written pairs above below isDone dist rowv rowMany lsz itm weakAbove weakBelow))) rfl ?_
        refine e_sub [1, 2, 0] rfl ?_
        exact ih_1 (k + 1) (upd newl k ((kept k))) (by omega) (by exact ⟨by omega, fun i hi => by unfold upd; split <;> first | (rename_i q; rw [q]) | exact hk2 i (by omega)⟩)
  refine e_sub [1, 2, 0] rfl ?_
  exact loop_1 _ 0 g (Nat.lt_succ_self _) (by exact ⟨by omega, fun i hi => absurd hi (Nat.not_lt_zero i)⟩)
theorem c_X6_bits (d : Nat) {g : Nat → Int32} {kept : Nat → Int32} {was : Nat → Int32} {isKept : Int32} {tape : Nat → Int32} {fed : Int32} {pos : Int32} {tlen : Int32} {flt : Int32} {ranking : Nat → Int32} {paper : Nat → Int32} {written : Int32} {pairs : Nat → Int64} {above : Nat → Int64} {below : Nat → Int64} {isDone : Nat → Int32} {dist : Nat → Int32} {rowv : Nat → Int32} {rowMany : Int32} {lsz : Nat → Int32} {itm : Nat → Int64} {weakAbove : Int64} {weakBelow : Int64} {s : Nat} (hs : s < 256) : z_CAL (d + 1) 132 [.int (nI s)] (MH g kept was isKept tape fed pos tlen flt ranking paper written pairs above below isDone dist rowv rowMany lsz itm weakAbove weakBelow) (fun r h2 => r = some (.int (nI (z_pc s))) ∧ h2 = (MH g kept was isKept tape fed pos tlen flt ranking paper written pairs above below isDone dist rowv rowMany lsz itm weakAbove weakBelow)) := by
  refine e_of2 (q := zmX6_bits) rfl rfl (fun R hR => ?_)
  refine e_steps 4 (σ' := (4, [(2, .int (nI s)), (1, .int (nI 0)), (0, .int (nI s))], [], (MH g kept was isKept tape fed pos tlen flt ranking paper written pairs above below isDone dist rowv rowMany lsz itm weakAbove weakBelow))) rfl ?_
  have loop_1 : ∀ (z_1 : Nat) (cnt : Nat) (lf : Nat), lf < z_1 → (lf < 256 ∧ cnt + z_pc lf = z_pc s ∧ cnt ≤ 8) → z_EV (d + 0) zmX6_bits R (4, [(0, .int (nI s)), (1, .int (nI cnt)), (2, .int (nI lf))], [], (MH g kept was isKept tape fed pos tlen flt ranking paper written pairs above below isDone dist rowv rowMany lsz itm weakAbove weakBelow)) := by
    intro z_1
    induction z_1 with
    | zero => intro cnt lf hm_1 _; exact absurd hm_1 (Nat.not_lt_zero _)
    | succ z_1 ih_1 =>
      intro cnt lf hm_1 hi_1
      obtain ⟨h1, h2, h3⟩ := hi_1
      refine e_steps 1 (σ' := (5, [(0, .int (nI s)), (1, .int (nI cnt)), (2, .int (nI lf))], [.int (nI lf)], (MH g kept was isKept tape fed pos tlen flt ranking paper written pairs above below isDone dist rowv rowMany lsz itm weakAbove weakBelow))) rfl ?_
      refine e_if (c := nI lf = 0) rfl (fun c_2 => ?_) (fun c_2 => ?_)
      · skip
        rw [z0_eq (by omega)] at c_2
        refine e_steps 1 (σ' := (21, [(0, .int (nI s)), (1, .int (nI cnt)), (2, .int (nI lf))], [.int (nI cnt)], (MH g kept was isKept tape fed pos tlen flt ranking paper written pairs above below isDone dist rowv rowMany lsz itm weakAbove weakBelow))) rfl ?_
        exact e_ret rfl (trivial) (hR _ _ ⟨(by have e : z_pc lf = 0 := (by rw [c_2]; rfl); exact congrArg (fun v => some (Value.int (nI v))) (by omega)), rfl⟩)
      · skip
        rw [z0_eq (by omega)] at c_2
        refine e_steps 0 (σ' := (8, [(0, .int (nI s)), (1, .int (nI cnt)), (2, .int (nI lf))], [], (MH g kept was isKept tape fed pos tlen flt ranking paper written pairs above below isDone dist rowv rowMany lsz itm weakAbove weakBelow))) rfl ?_
        refine e_inc (n := 1) rfl rfl rfl (cnt + 1) (by rfl) [(1, .int (nI (cnt + 1))), (0, .int (nI s)), (2, .int (nI lf))] rfl ?_
        refine e_steps 3 (σ' := (14, [(1, .int (nI (cnt + 1))), (0, .int (nI s)), (2, .int (nI lf))], [.int (nI 1), .int (nI lf), .int (nI lf)], (MH g kept was isKept tape fed pos tlen flt ranking paper written pairs above below isDone dist rowv rowMany lsz itm weakAbove weakBelow))) rfl ?_
        refine e_sbt (lf - 1) rfl (by first | assumption | omega | rfl | trivial) (by first | rfl | omega) ?_
        refine e_steps 0 (σ' := (15, [(1, .int (nI (cnt + 1))), (0, .int (nI s)), (2, .int (nI lf))], [.int (nI (lf - 1)), .int (nI lf)], (MH g kept was isKept tape fed pos tlen flt ranking paper written pairs above below isDone dist rowv rowMany lsz itm weakAbove weakBelow))) rfl ?_
        refine e_and (lf &&& (lf - 1)) rfl (by first | rfl | decide) ?_
        refine e_steps 2 (σ' := (4, [(2, .int (nI (lf &&& (lf - 1)))), (1, .int (nI (cnt + 1))), (0, .int (nI s))], [], (MH g kept was isKept tape fed pos tlen flt ranking paper written pairs above below isDone dist rowv rowMany lsz itm weakAbove weakBelow))) rfl ?_
        refine e_sub [2, 1, 0] rfl ?_
        exact ih_1 (cnt + 1) (lf &&& (lf - 1)) (by have e := z_pc_low h1 c_2; omega) (by have e := z_pc_low h1 c_2; have e2 := z_pc_le (lf &&& (lf - 1)); exact ⟨by omega, by omega, by have := z_pc_le s; omega⟩)
  refine e_sub [2, 1, 0] rfl ?_
  exact loop_1 _ 0 s (Nat.lt_succ_self _) (by exact ⟨hs, by omega, by omega⟩)
theorem c_X6_everyone (d : Nat) {g : Nat → Int32} {kept : Nat → Int32} {was : Nat → Int32} {isKept : Int32} {tape : Nat → Int32} {fed : Int32} {pos : Int32} {tlen : Int32} {flt : Int32} {ranking : Nat → Int32} {paper : Nat → Int32} {written : Int32} {pairs : Nat → Int64} {above : Nat → Int64} {below : Nat → Int64} {isDone : Nat → Int32} {dist : Nat → Int32} {rowv : Nat → Int32} {rowMany : Int32} {lsz : Nat → Int32} {itm : Nat → Int64} {weakAbove : Int64} {weakBelow : Int64} {n : Nat} {outs : Nat} {bm : Nat} {ms : Nat} {dr : Nat → Nat} {cn : Nat → Nat} {pl : Nat → Nat → Nat} (hG : z_GI g n outs bm ms dr cn pl) : z_CAL (d + 1) 133 [.ref 0] (MH g kept was isKept tape fed pos tlen flt ranking paper written pairs above below isDone dist rowv rowMany lsz itm weakAbove weakBelow) (fun r h2 => r = some (.int (nI (2 ^ n - 1))) ∧ h2 = (MH g kept was isKept tape fed pos tlen flt ranking paper written pairs above below isDone dist rowv rowMany lsz itm weakAbove weakBelow)) := by
  refine e_of2 (q := zmX6_everyone) rfl rfl (fun R hR => ?_)
  obtain ⟨⟨hn0, hn2, hn8⟩, ⟨ho0, ho8, hin⟩, ⟨hb0, hb40⟩, ⟨hm0, hm4⟩, ⟨hdr, hdl, hdc⟩, hcn, hpl⟩ := id hG; have hp8 := z_p2 hn8; have ho256 : outs < 256 := (by omega); have hi256 : z_dif (2 ^ n - 1) outs < 256 := (by have := z_dif_le (s := 2 ^ n - 1) (t := outs); omega)
  refine e_steps 4 (σ' := (6, [(0, .ref 0)], [.int (nI 0), .ref 1, .int (nI 1)], (MH g kept was isKept tape fed pos tlen flt ranking paper written pairs above below isDone dist rowv rowMany lsz itm weakAbove weakBelow))) rfl ?_
  refine e_ial (nI n) rfl rfl (by first | assumption | omega | rfl | trivial) (by decide) (hn0) ?_
  refine e_steps 0 (σ' := (7, [(0, .ref 0)], [.int (nI n), .int (nI 1)], (MH g kept was isKept tape fed pos tlen flt ranking paper written pairs above below isDone dist rowv rowMany lsz itm weakAbove weakBelow))) rfl ?_
  refine e_shl rfl (by first | assumption | omega | rfl | trivial) ?_
  refine e_steps 1 (σ' := (9, [(0, .ref 0)], [.int (nI 1), .int (nI (2 ^ n))], (MH g kept was isKept tape fed pos tlen flt ranking paper written pairs above below isDone dist rowv rowMany lsz itm weakAbove weakBelow))) rfl ?_
  refine e_sbt ((2 ^ n) - 1) rfl (by first | assumption | omega | rfl | trivial) (by first | rfl | omega) ?_
  refine e_steps 0 (σ' := (10, [(0, .ref 0)], [.int (nI ((2 ^ n) - 1))], (MH g kept was isKept tape fed pos tlen flt ranking paper written pairs above below isDone dist rowv rowMany lsz itm weakAbove weakBelow))) rfl ?_
  exact e_ret rfl (trivial) (hR _ _ ⟨(by rfl), rfl⟩)
theorem c_X6_ins (d : Nat) {g : Nat → Int32} {kept : Nat → Int32} {was : Nat → Int32} {isKept : Int32} {tape : Nat → Int32} {fed : Int32} {pos : Int32} {tlen : Int32} {flt : Int32} {ranking : Nat → Int32} {paper : Nat → Int32} {written : Int32} {pairs : Nat → Int64} {above : Nat → Int64} {below : Nat → Int64} {isDone : Nat → Int32} {dist : Nat → Int32} {rowv : Nat → Int32} {rowMany : Int32} {lsz : Nat → Int32} {itm : Nat → Int64} {weakAbove : Int64} {weakBelow : Int64} {n : Nat} {outs : Nat} {bm : Nat} {ms : Nat} {dr : Nat → Nat} {cn : Nat → Nat} {pl : Nat → Nat → Nat} (hG : z_GI g n outs bm ms dr cn pl) : z_CAL (d + 2) 134 [.ref 0] (MH g kept was isKept tape fed pos tlen flt ranking paper written pairs above below isDone dist rowv rowMany lsz itm weakAbove weakBelow) (fun r h2 => r = some (.int (nI (z_dif (2 ^ n - 1) outs))) ∧ h2 = (MH g kept was isKept tape fed pos tlen flt ranking paper written pairs above below isDone dist rowv rowMany lsz itm weakAbove weakBelow)) := by
  refine e_of2 (q := zmX6_ins) rfl rfl (fun R hR => ?_)
  obtain ⟨⟨hn0, hn2, hn8⟩, ⟨ho0, ho8, hin⟩, ⟨hb0, hb40⟩, ⟨hm0, hm4⟩, ⟨hdr, hdl, hdc⟩, hcn, hpl⟩ := id hG; have hp8 := z_p2 hn8; have ho256 : outs < 256 := (by omega); have hi256 : z_dif (2 ^ n - 1) outs < 256 := (by have := z_dif_le (s := 2 ^ n - 1) (t := outs); omega)
  refine e_steps 1 (σ' := (1, [(0, .ref 0)], [.ref 0], (MH g kept was isKept tape fed pos tlen flt ranking paper written pairs above below isDone dist rowv rowMany lsz itm weakAbove weakBelow))) rfl ?_
  refine e_call (y := 133) (av := [.ref 0]) (rest := []) rfl (c_X6_everyone (d + 0) (n := n) (outs := outs) (bm := bm) (ms := ms) (dr := dr) (cn := cn) (pl := pl) (by first | assumption | omega | rfl | trivial)) (fun r_1 h_1 p_1 => ?_)
  obtain ⟨rfl, rfl⟩ := p_1
  refine e_steps 3 (σ' := (9, [(0, .ref 0)], [.int (nI 1), .ref 1, .int (nI (2 ^ n - 1))], (MH g kept was isKept tape fed pos tlen flt ranking paper written pairs above below isDone dist rowv rowMany lsz itm weakAbove weakBelow))) rfl ?_
  refine e_ial (nI outs) rfl rfl (by first | assumption | omega | rfl | trivial) (by decide) (ho0) ?_
  refine e_steps 2 (σ' := (12, [(0, .ref 0)], [.int (((nI outs) ^^^ ((-nI 1)))), .int (nI (2 ^ n - 1))], (MH g kept was isKept tape fed pos tlen flt ranking paper written pairs above below isDone dist rowv rowMany lsz itm weakAbove weakBelow))) rfl ?_
  refine e_dif rfl (by first | assumption | omega | rfl | trivial) (by first | assumption | omega | rfl | trivial) ?_
  refine e_steps 0 (σ' := (13, [(0, .ref 0)], [.int (nI (z_dif (2 ^ n - 1) outs))], (MH g kept was isKept tape fed pos tlen flt ranking paper written pairs above below isDone dist rowv rowMany lsz itm weakAbove weakBelow))) rfl ?_
  exact e_ret rfl (trivial) (hR _ _ ⟨(by rfl), rfl⟩)
theorem c_X6_isOne (d : Nat) {g : Nat → Int32} {kept : Nat → Int32} {was : Nat → Int32} {isKept : Int32} {tape : Nat → Int32} {fed : Int32} {pos : Int32} {tlen : Int32} {flt : Int32} {ranking : Nat → Int32} {paper : Nat → Int32} {written : Int32} {pairs : Nat → Int64} {above : Nat → Int64} {below : Nat → Int64} {isDone : Nat → Int32} {dist : Nat → Int32} {rowv : Nat → Int32} {rowMany : Int32} {lsz : Nat → Int32} {itm : Nat → Int64} {weakAbove : Int64} {weakBelow : Int64} {c : Int32} {n : Nat} {outs : Nat} {bm : Nat} {ms : Nat} {dr : Nat → Nat} {cn : Nat → Nat} {pl : Nat → Nat → Nat} (hG : z_GI g n outs bm ms dr cn pl) : z_CAL (d + 2) 135 [.ref 0, .int c] (MH g kept was isKept tape fed pos tlen flt ranking paper written pairs above below isDone dist rowv rowMany lsz itm weakAbove weakBelow) (fun r h2 => h2 = (MH g kept was isKept tape fed pos tlen flt ranking paper written pairs above below isDone dist rowv rowMany lsz itm weakAbove weakBelow) ∧ ((r = some (.int (nI 1)) ∧ (∃ k, k < n ∧ c = nI k)) ∨ (r = some (.int (nI 0)) ∧ (¬ ∃ k, k < n ∧ c = nI k)))) := by
  refine e_of2 (q := zmX6_isOne) rfl rfl (fun R hR => ?_)
  obtain ⟨⟨hn0, hn2, hn8⟩, ⟨ho0, ho8, hin⟩, ⟨hb0, hb40⟩, ⟨hm0, hm4⟩, ⟨hdr, hdl, hdc⟩, hcn, hpl⟩ := id hG; have hp8 := z_p2 hn8; have ho256 : outs < 256 := (by omega); have hi256 : z_dif (2 ^ n - 1) outs < 256 := (by have := z_dif_le (s := 2 ^ n - 1) (t := outs); omega)
  refine e_steps 6 (σ' := (8, [(0, .ref 0), (1, .int c)], [.int (nI 0), .ref 1, .long (lN 0), .long c.toInt64], (MH g kept was isKept tape fed pos tlen flt ranking paper written pairs above below isDone dist rowv rowMany lsz itm weakAbove weakBelow))) rfl ?_
  refine e_ial (nI n) rfl rfl (by first | assumption | omega | rfl | trivial) (by decide) (hn0) ?_
  refine e_steps 1 (σ' := (10, [(0, .ref 0), (1, .int c)], [.int (nI 1), .int (nI n), .long (lN 0), .long c.toInt64], (MH g kept was isKept tape fed pos tlen flt ranking paper written pairs above below isDone dist rowv rowMany lsz itm weakAbove weakBelow))) rfl ?_
  refine e_sbt (n - 1) rfl (by first | assumption | omega | rfl | trivial) (by first | rfl | omega) ?_
  refine e_steps 0 (σ' := (11, [(0, .ref 0), (1, .int c)], [.int (nI (n - 1)), .long (lN 0), .long c.toInt64], (MH g kept was isKept tape fed pos tlen flt ranking paper written pairs above below isDone dist rowv rowMany lsz itm weakAbove weakBelow))) rfl ?_
  refine e_i2l rfl (by omega) ?_
  refine e_steps 0 (σ' := (12, [(0, .ref 0), (1, .int c)], [.long (lN (n - 1)), .long (lN 0), .long c.toInt64], (MH g kept was isKept tape fed pos tlen flt ranking paper written pairs above below isDone dist rowv rowMany lsz itm weakAbove weakBelow))) rfl ?_
  refine e_call (y := 129) (av := [.long c.toInt64, .long (lN 0), .long (lN (n - 1))]) (rest := []) rfl (c_X6_isIn (d + 0) ) (fun r_1 h_1 p_1 => ?_)
  obtain ⟨rfl, o_1⟩ := p_1
  rcases o_1 with ⟨rfl, o_1⟩ | ⟨rfl, o_1⟩
  · skip
    refine e_steps 0 (σ' := (15, [(0, .ref 0), (1, .int c)], [.int (nI 1)], (MH g kept was isKept tape fed pos tlen flt ranking paper written pairs above below isDone dist rowv rowMany lsz itm weakAbove weakBelow))) rfl ?_
    exact e_ret rfl (Or.inr rfl) (hR _ _ ⟨rfl, Or.inl ⟨rfl, (by obtain ⟨k, hk, rfl⟩ := z_in_nat (by omega) o_1; exact ⟨k, by omega, rfl⟩)⟩⟩)
  · skip
    refine e_steps 0 (σ' := (15, [(0, .ref 0), (1, .int c)], [.int (nI 0)], (MH g kept was isKept tape fed pos tlen flt ranking paper written pairs above below isDone dist rowv rowMany lsz itm weakAbove weakBelow))) rfl ?_
    exact e_ret rfl (Or.inl rfl) (hR _ _ ⟨rfl, Or.inr ⟨rfl, (by rintro ⟨k, hk, rfl⟩; exact o_1 (z_nat_in (by omega) (by omega)))⟩⟩)
theorem c_X6_isOne_N (d : Nat) {g : Nat → Int32} {kept : Nat → Int32} {was : Nat → Int32} {isKept : Int32} {tape : Nat → Int32} {fed : Int32} {pos : Int32} {tlen : Int32} {flt : Int32} {ranking : Nat → Int32} {paper : Nat → Int32} {written : Int32} {pairs : Nat → Int64} {above : Nat → Int64} {below : Nat → Int64} {isDone : Nat → Int32} {dist : Nat → Int32} {rowv : Nat → Int32} {rowMany : Int32} {lsz : Nat → Int32} {itm : Nat → Int64} {weakAbove : Int64} {weakBelow : Int64} {c : Nat} {n : Nat} {outs : Nat} {bm : Nat} {ms : Nat} {dr : Nat → Nat} {cn : Nat → Nat} {pl : Nat → Nat → Nat} (hG : z_GI g n outs bm ms dr cn pl) (hc : c < 2 ^ 31) : z_CAL (d + 2) 135 [.ref 0, .int (nI c)] (MH g kept was isKept tape fed pos tlen flt ranking paper written pairs above below isDone dist rowv rowMany lsz itm weakAbove weakBelow) (fun r h2 => h2 = (MH g kept was isKept tape fed pos tlen flt ranking paper written pairs above below isDone dist rowv rowMany lsz itm weakAbove weakBelow) ∧ ((r = some (.int (nI 1)) ∧ (c < n)) ∨ (r = some (.int (nI 0)) ∧ (¬ c < n)))) := by
  refine e_of2 (q := zmX6_isOne) rfl rfl (fun R hR => ?_)
  obtain ⟨⟨hn0, hn2, hn8⟩, ⟨ho0, ho8, hin⟩, ⟨hb0, hb40⟩, ⟨hm0, hm4⟩, ⟨hdr, hdl, hdc⟩, hcn, hpl⟩ := id hG; have hp8 := z_p2 hn8; have ho256 : outs < 256 := (by omega); have hi256 : z_dif (2 ^ n - 1) outs < 256 := (by have := z_dif_le (s := 2 ^ n - 1) (t := outs); omega)
  refine e_steps 1 (σ' := (1, [(0, .ref 0), (1, .int (nI c))], [.int (nI c)], (MH g kept was isKept tape fed pos tlen flt ranking paper written pairs above below isDone dist rowv rowMany lsz itm weakAbove weakBelow))) rfl ?_
  refine e_i2l rfl (by omega) ?_
  refine e_steps 4 (σ' := (8, [(0, .ref 0), (1, .int (nI c))], [.int (nI 0), .ref 1, .long (lN 0), .long (lN c)], (MH g kept was isKept tape fed pos tlen flt ranking paper written pairs above below isDone dist rowv rowMany lsz itm weakAbove weakBelow))) rfl ?_
  refine e_ial (nI n) rfl rfl (by first | assumption | omega | rfl | trivial) (by decide) (hn0) ?_
  refine e_steps 1 (σ' := (10, [(0, .ref 0), (1, .int (nI c))], [.int (nI 1), .int (nI n), .long (lN 0), .long (lN c)], (MH g kept was isKept tape fed pos tlen flt ranking paper written pairs above below isDone dist rowv rowMany lsz itm weakAbove weakBelow))) rfl ?_
  refine e_sbt (n - 1) rfl (by first | assumption | omega | rfl | trivial) (by first | rfl | omega) ?_
  refine e_steps 0 (σ' := (11, [(0, .ref 0), (1, .int (nI c))], [.int (nI (n - 1)), .long (lN 0), .long (lN c)], (MH g kept was isKept tape fed pos tlen flt ranking paper written pairs above below isDone dist rowv rowMany lsz itm weakAbove weakBelow))) rfl ?_
  refine e_i2l rfl (by omega) ?_
  refine e_steps 0 (σ' := (12, [(0, .ref 0), (1, .int (nI c))], [.long (lN (n - 1)), .long (lN 0), .long (lN c)], (MH g kept was isKept tape fed pos tlen flt ranking paper written pairs above below isDone dist rowv rowMany lsz itm weakAbove weakBelow))) rfl ?_
  refine e_call (y := 129) (av := [.long (lN c), .long (lN 0), .long (lN (n - 1))]) (rest := []) rfl (c_X6_isIn_N (d + 0) (by first | assumption | omega | rfl | trivial) (by first | assumption | omega | rfl | trivial) (by first | assumption | omega | rfl | trivial)) (fun r_1 h_1 p_1 => ?_)
  obtain ⟨rfl, o_1⟩ := p_1
  rcases o_1 with ⟨rfl, o_1⟩ | ⟨rfl, o_1⟩
  · skip
    refine e_steps 0 (σ' := (15, [(0, .ref 0), (1, .int (nI c))], [.int (nI 1)], (MH g kept was isKept tape fed pos tlen flt ranking paper written pairs above below isDone dist rowv rowMany lsz itm weakAbove weakBelow))) rfl ?_
    exact e_ret rfl (Or.inr rfl) (hR _ _ ⟨rfl, Or.inl ⟨rfl, (by first | assumption | omega | rfl | trivial)⟩⟩)
  · skip
    refine e_steps 0 (σ' := (15, [(0, .ref 0), (1, .int (nI c))], [.int (nI 0)], (MH g kept was isKept tape fed pos tlen flt ranking paper written pairs above below isDone dist rowv rowMany lsz itm weakAbove weakBelow))) rfl ?_
    exact e_ret rfl (Or.inl rfl) (hR _ _ ⟨rfl, Or.inr ⟨rfl, (by first | assumption | omega | rfl | trivial)⟩⟩)
theorem c_X6_areTwo (d : Nat) {g : Nat → Int32} {kept : Nat → Int32} {was : Nat → Int32} {isKept : Int32} {tape : Nat → Int32} {fed : Int32} {pos : Int32} {tlen : Int32} {flt : Int32} {ranking : Nat → Int32} {paper : Nat → Int32} {written : Int32} {pairs : Nat → Int64} {above : Nat → Int64} {below : Nat → Int64} {isDone : Nat → Int32} {dist : Nat → Int32} {rowv : Nat → Int32} {rowMany : Int32} {lsz : Nat → Int32} {itm : Nat → Int64} {weakAbove : Int64} {weakBelow : Int64} {i : Int32} {j : Int32} {n : Nat} {outs : Nat} {bm : Nat} {ms : Nat} {dr : Nat → Nat} {cn : Nat → Nat} {pl : Nat → Nat → Nat} (hG : z_GI g n outs bm ms dr cn pl) : z_CAL (d + 3) 136 [.ref 0, .int i, .int j] (MH g kept was isKept tape fed pos tlen flt ranking paper written pairs above below isDone dist rowv rowMany lsz itm weakAbove weakBelow) (fun r h2 => h2 = (MH g kept was isKept tape fed pos tlen flt ranking paper written pairs above below isDone dist rowv rowMany lsz itm weakAbove weakBelow) ∧ ((r = some (.int (nI 1)) ∧ (∃ a b, a < n ∧ b < n ∧ a ≠ b ∧ i = nI a ∧ j = nI b)) ∨ (r = some (.int (nI 0)) ∧ (¬ ∃ a b, a < n ∧ b < n ∧ a ≠ b ∧ i = nI a ∧ j = nI b)))) := by
  refine e_of2 (q := zmX6_areTwo) rfl rfl (fun R hR => ?_)
  obtain ⟨⟨hn0, hn2, hn8⟩, ⟨ho0, ho8, hin⟩, ⟨hb0, hb40⟩, ⟨hm0, hm4⟩, ⟨hdr, hdl, hdc⟩, hcn, hpl⟩ := id hG; have hp8 := z_p2 hn8; have ho256 : outs < 256 := (by omega); have hi256 : z_dif (2 ^ n - 1) outs < 256 := (by have := z_dif_le (s := 2 ^ n - 1) (t := outs); omega)
  refine e_steps 2 (σ' := (2, [(0, .ref 0), (1, .int i), (2, .int j)], [.int i, .ref 0], (MH g kept was isKept tape fed pos tlen flt ranking paper written pairs above below isDone dist rowv rowMany lsz itm weakAbove weakBelow))) rfl ?_
  refine e_call (y := 135) (av := [.ref 0, .int i]) (rest := []) rfl (c_X6_isOne (d + 0) (n := n) (outs := outs) (bm := bm) (ms := ms) (dr := dr) (cn := cn) (pl := pl) (by first | assumption | omega | rfl | trivial)) (fun r_1 h_1 p_1 => ?_)
  obtain ⟨rfl, o_1⟩ := p_1
  rcases o_1 with ⟨rfl, o_1⟩ | ⟨rfl, o_1⟩
  · skip
    obtain ⟨k_2, hk_1, ek_2⟩ := o_1
    subst ek_2
    refine e_steps 3 (σ' := (10, [(0, .ref 0), (1, .int (nI k_2)), (2, .int j)], [.int j, .ref 0], (MH g kept was isKept tape fed pos tlen flt ranking paper written pairs above below isDone dist rowv rowMany lsz itm weakAbove weakBelow))) rfl ?_
    refine e_call (y := 135) (av := [.ref 0, .int j]) (rest := []) rfl (c_X6_isOne (d + 0) (n := n) (outs := outs) (bm := bm) (ms := ms) (dr := dr) (cn := cn) (pl := pl) (by first | assumption | omega | rfl | trivial)) (fun r_3 h_3 p_3 => ?_)
    obtain ⟨rfl, o_3⟩ := p_3
    rcases o_3 with ⟨rfl, o_3⟩ | ⟨rfl, o_3⟩
    · skip
      obtain ⟨k_4, hk_3, ek_4⟩ := o_3
      subst ek_4
      refine e_steps 3 (σ' := (18, [(0, .ref 0), (1, .int (nI k_2)), (2, .int (nI k_4))], [.int (nI k_4), .int (nI k_2)], (MH g kept was isKept tape fed pos tlen flt ranking paper written pairs above below isDone dist rowv rowMany lsz itm weakAbove weakBelow))) rfl ?_
      refine e_if (c := nI k_2 = nI k_4) rfl (fun c_5 => ?_) (fun c_5 => ?_)
      · skip
        rw [nI_eq (by omega) (by omega)] at c_5
        refine e_steps 1 (σ' := (26, [(0, .ref 0), (1, .int (nI k_2)), (2, .int (nI k_4))], [.int (nI 0)], (MH g kept was isKept tape fed pos tlen flt ranking paper written pairs above below isDone dist rowv rowMany lsz itm weakAbove weakBelow))) rfl ?_
        exact e_ret rfl (Or.inl rfl) (hR _ _ ⟨rfl, Or.inr ⟨rfl, (by rintro ⟨a, b, ha, hb, hab, ea, eb⟩; rw [nI_eq (by omega) (by omega)] at ea eb; omega)⟩⟩)
      · skip
        rw [nI_eq (by omega) (by omega)] at c_5
        refine e_steps 2 (σ' := (26, [(0, .ref 0), (1, .int (nI k_2)), (2, .int (nI k_4))], [.int (nI 1)], (MH g kept was isKept tape fed pos tlen flt ranking paper written pairs above below isDone dist rowv rowMany lsz itm weakAbove weakBelow))) rfl ?_
        exact e_ret rfl (Or.inr rfl) (hR _ _ ⟨rfl, Or.inl ⟨rfl, (by exact ⟨k_2, k_4, hk_1, hk_3, c_5, rfl, rfl⟩)⟩⟩)
    · skip
      refine e_steps 2 (σ' := (26, [(0, .ref 0), (1, .int (nI k_2)), (2, .int j)], [.int (nI 0)], (MH g kept was isKept tape fed pos tlen flt ranking paper written pairs above below isDone dist rowv rowMany lsz itm weakAbove weakBelow))) rfl ?_
      exact e_ret rfl (Or.inl rfl) (hR _ _ ⟨rfl, Or.inr ⟨rfl, (by rintro ⟨a, b, ha, hb, hab, ea, eb⟩; exact o_3 ⟨b, hb, eb⟩)⟩⟩)
  · skip
    refine e_steps 2 (σ' := (26, [(0, .ref 0), (1, .int i), (2, .int j)], [.int (nI 0)], (MH g kept was isKept tape fed pos tlen flt ranking paper written pairs above below isDone dist rowv rowMany lsz itm weakAbove weakBelow))) rfl ?_
    exact e_ret rfl (Or.inl rfl) (hR _ _ ⟨rfl, Or.inr ⟨rfl, (by rintro ⟨a, b, ha, hb, hab, ea, eb⟩; exact o_1 ⟨a, ha, ea⟩)⟩⟩)
theorem c_X6_areIn (d : Nat) {g : Nat → Int32} {kept : Nat → Int32} {was : Nat → Int32} {isKept : Int32} {tape : Nat → Int32} {fed : Int32} {pos : Int32} {tlen : Int32} {flt : Int32} {ranking : Nat → Int32} {paper : Nat → Int32} {written : Int32} {pairs : Nat → Int64} {above : Nat → Int64} {below : Nat → Int64} {isDone : Nat → Int32} {dist : Nat → Int32} {rowv : Nat → Int32} {rowMany : Int32} {lsz : Nat → Int32} {itm : Nat → Int64} {weakAbove : Int64} {weakBelow : Int64} {i : Nat} {j : Nat} {n : Nat} {outs : Nat} {bm : Nat} {ms : Nat} {dr : Nat → Nat} {cn : Nat → Nat} {pl : Nat → Nat → Nat} (hG : z_GI g n outs bm ms dr cn pl) (hi : i < n) (hj : j < n) : z_CAL (d + 3) 137 [.ref 0, .int (nI i), .int (nI j)] (MH g kept was isKept tape fed pos tlen flt ranking paper written pairs above below isDone dist rowv rowMany lsz itm weakAbove weakBelow) (fun r h2 => h2 = (MH g kept was isKept tape fed pos tlen flt ranking paper written pairs above below isDone dist rowv rowMany lsz itm weakAbove weakBelow) ∧ ((r = some (.int (nI 1)) ∧ ((z_dif (2 ^ n - 1) outs).testBit i = true ∧ (z_dif (2 ^ n - 1) outs).testBit j = true)) ∨ (r = some (.int (nI 0)) ∧ (¬ ((z_dif (2 ^ n - 1) outs).testBit i = true ∧ (z_dif (2 ^ n - 1) outs).testBit j = true))))) := by
  refine e_of2 (q := zmX6_areIn) rfl rfl (fun R hR => ?_)
  obtain ⟨⟨hn0, hn2, hn8⟩, ⟨ho0, ho8, hin⟩, ⟨hb0, hb40⟩, ⟨hm0, hm4⟩, ⟨hdr, hdl, hdc⟩, hcn, hpl⟩ := id hG; have hp8 := z_p2 hn8; have ho256 : outs < 256 := (by omega); have hi256 : z_dif (2 ^ n - 1) outs < 256 := (by have := z_dif_le (s := 2 ^ n - 1) (t := outs); omega)
  refine e_steps 1 (σ' := (1, [(0, .ref 0), (1, .int (nI i)), (2, .int (nI j))], [.ref 0], (MH g kept was isKept tape fed pos tlen flt ranking paper written pairs above below isDone dist rowv rowMany lsz itm weakAbove weakBelow))) rfl ?_
  refine e_call (y := 134) (av := [.ref 0]) (rest := []) rfl (c_X6_ins (d + 0) (n := n) (outs := outs) (bm := bm) (ms := ms) (dr := dr) (cn := cn) (pl := pl) (by first | assumption | omega | rfl | trivial | exact ⟨by assumption, by assumption⟩ | simp_all)) (fun r_1 h_1 p_1 => ?_)
  obtain ⟨rfl, rfl⟩ := p_1
  refine e_steps 1 (σ' := (5, [(0, .ref 0), (1, .int (nI i)), (2, .int (nI j))], [.int (nI i), .int (nI (z_dif (2 ^ n - 1) outs))], (MH g kept was isKept tape fed pos tlen flt ranking paper written pairs above below isDone dist rowv rowMany lsz itm weakAbove weakBelow))) rfl ?_
  refine e_call (y := 131) (av := [.int (nI (z_dif (2 ^ n - 1) outs)), .int (nI i)]) (rest := []) rfl (c_X6_has (d + 1) (by first | assumption | omega | rfl | trivial | exact ⟨by assumption, by assumption⟩ | simp_all) (by first | assumption | omega | rfl | trivial | exact ⟨by assumption, by assumption⟩ | simp_all)) (fun r_2 h_2 p_2 => ?_)
  obtain ⟨rfl, o_2⟩ := p_2
  rcases o_2 with ⟨rfl, o_2⟩ | ⟨rfl, o_2⟩
  · skip
    refine e_steps 2 (σ' := (12, [(0, .ref 0), (1, .int (nI i)), (2, .int (nI j))], [.ref 0], (MH g kept was isKept tape fed pos tlen flt ranking paper written pairs above below isDone dist rowv rowMany lsz itm weakAbove weakBelow))) rfl ?_
    refine e_call (y := 134) (av := [.ref 0]) (rest := []) rfl (c_X6_ins (d + 0) (n := n) (outs := outs) (bm := bm) (ms := ms) (dr := dr) (cn := cn) (pl := pl) (by first | assumption | omega | rfl | trivial | exact ⟨by assumption, by assumption⟩ | simp_all)) (fun r_3 h_3 p_3 => ?_)
    obtain ⟨rfl, rfl⟩ := p_3
    refine e_steps 1 (σ' := (16, [(0, .ref 0), (1, .int (nI i)), (2, .int (nI j))], [.int (nI j), .int (nI (z_dif (2 ^ n - 1) outs))], (MH g kept was isKept tape fed pos tlen flt ranking paper written pairs above below isDone dist rowv rowMany lsz itm weakAbove weakBelow))) rfl ?_
    refine e_call (y := 131) (av := [.int (nI (z_dif (2 ^ n - 1) outs)), .int (nI j)]) (rest := []) rfl (c_X6_has (d + 1) (by first | assumption | omega | rfl | trivial | exact ⟨by assumption, by assumption⟩ | simp_all) (by first | assumption | omega | rfl | trivial | exact ⟨by assumption, by assumption⟩ | simp_all)) (fun r_4 h_4 p_4 => ?_)
    obtain ⟨rfl, o_4⟩ := p_4
    rcases o_4 with ⟨rfl, o_4⟩ | ⟨rfl, o_4⟩
    · skip
      refine e_steps 3 (σ' := (27, [(0, .ref 0), (1, .int (nI i)), (2, .int (nI j))], [.int (nI 1)], (MH g kept was isKept tape fed pos tlen flt ranking paper written pairs above below isDone dist rowv rowMany lsz itm weakAbove weakBelow))) rfl ?_
      exact e_ret rfl (Or.inr rfl) (hR _ _ ⟨rfl, Or.inl ⟨rfl, (by first | assumption | omega | rfl | trivial | exact ⟨by assumption, by assumption⟩ | simp_all)⟩⟩)
    · skip
      refine e_steps 2 (σ' := (27, [(0, .ref 0), (1, .int (nI i)), (2, .int (nI j))], [.int (nI 0)], (MH g kept was isKept tape fed pos tlen flt ranking paper written pairs above below isDone dist rowv rowMany lsz itm weakAbove weakBelow))) rfl ?_
      exact e_ret rfl (Or.inl rfl) (hR _ _ ⟨rfl, Or.inr ⟨rfl, (by first | assumption | omega | rfl | trivial | exact ⟨by assumption, by assumption⟩ | simp_all)⟩⟩)
  · skip
    refine e_steps 2 (σ' := (27, [(0, .ref 0), (1, .int (nI i)), (2, .int (nI j))], [.int (nI 0)], (MH g kept was isKept tape fed pos tlen flt ranking paper written pairs above below isDone dist rowv rowMany lsz itm weakAbove weakBelow))) rfl ?_
    exact e_ret rfl (Or.inl rfl) (hR _ _ ⟨rfl, Or.inr ⟨rfl, (by first | assumption | omega | rfl | trivial | exact ⟨by assumption, by assumption⟩ | simp_all)⟩⟩)
theorem c_X6_isBallot (d : Nat) {g : Nat → Int32} {kept : Nat → Int32} {was : Nat → Int32} {isKept : Int32} {tape : Nat → Int32} {fed : Int32} {pos : Int32} {tlen : Int32} {flt : Int32} {ranking : Nat → Int32} {paper : Nat → Int32} {written : Int32} {pairs : Nat → Int64} {above : Nat → Int64} {below : Nat → Int64} {isDone : Nat → Int32} {dist : Nat → Int32} {rowv : Nat → Int32} {rowMany : Int32} {lsz : Nat → Int32} {itm : Nat → Int64} {weakAbove : Int64} {weakBelow : Int64} {b : Int32} {n : Nat} {outs : Nat} {bm : Nat} {ms : Nat} {dr : Nat → Nat} {cn : Nat → Nat} {pl : Nat → Nat → Nat} (hG : z_GI g n outs bm ms dr cn pl) : z_CAL (d + 2) 138 [.ref 0, .int b] (MH g kept was isKept tape fed pos tlen flt ranking paper written pairs above below isDone dist rowv rowMany lsz itm weakAbove weakBelow) (fun r h2 => h2 = (MH g kept was isKept tape fed pos tlen flt ranking paper written pairs above below isDone dist rowv rowMany lsz itm weakAbove weakBelow) ∧ ((r = some (.int (nI 1)) ∧ (∃ k, k < bm ∧ b = nI k)) ∨ (r = some (.int (nI 0)) ∧ (¬ ∃ k, k < bm ∧ b = nI k)))) := by
  refine e_of2 (q := zmX6_isBallot) rfl rfl (fun R hR => ?_)
  obtain ⟨⟨hn0, hn2, hn8⟩, ⟨ho0, ho8, hin⟩, ⟨hb0, hb40⟩, ⟨hm0, hm4⟩, ⟨hdr, hdl, hdc⟩, hcn, hpl⟩ := id hG; have hp8 := z_p2 hn8; have ho256 : outs < 256 := (by omega); have hi256 : z_dif (2 ^ n - 1) outs < 256 := (by have := z_dif_le (s := 2 ^ n - 1) (t := outs); omega)
  refine e_steps 6 (σ' := (8, [(0, .ref 0), (1, .int b)], [.int (nI 2), .ref 1, .long (lN 0), .long b.toInt64], (MH g kept was isKept tape fed pos tlen flt ranking paper written pairs above below isDone dist rowv rowMany lsz itm weakAbove weakBelow))) rfl ?_
  refine e_ial (nI bm) rfl rfl (by first | assumption | omega | rfl | trivial) (by decide) (hb0) ?_
  refine e_steps 3 (σ' := (12, [(0, .ref 0), (1, .int b)], [.long ((((nI bm) - (nI 1))).toInt64), .long (lN 0), .long b.toInt64], (MH g kept was isKept tape fed pos tlen flt ranking paper written pairs above below isDone dist rowv rowMany lsz itm weakAbove weakBelow))) rfl ?_
  refine e_call (y := 129) (av := [.long b.toInt64, .long (lN 0), .long ((((nI bm) - (nI 1))).toInt64)]) (rest := []) rfl (c_X6_isIn (d + 0) ) (fun r_1 h_1 p_1 => ?_)
  obtain ⟨rfl, o_1⟩ := p_1
  rcases o_1 with ⟨rfl, o_1⟩ | ⟨rfl, o_1⟩
  · skip
    refine e_steps 0 (σ' := (15, [(0, .ref 0), (1, .int b)], [.int (nI 1)], (MH g kept was isKept tape fed pos tlen flt ranking paper written pairs above below isDone dist rowv rowMany lsz itm weakAbove weakBelow))) rfl ?_
    exact e_ret rfl (Or.inr rfl) (hR _ _ ⟨rfl, Or.inl ⟨rfl, (by exact (z_in_nat1 (by omega)).mp o_1)⟩⟩)
  · skip
    refine e_steps 0 (σ' := (15, [(0, .ref 0), (1, .int b)], [.int (nI 0)], (MH g kept was isKept tape fed pos tlen flt ranking paper written pairs above below isDone dist rowv rowMany lsz itm weakAbove weakBelow))) rfl ?_
    exact e_ret rfl (Or.inl rfl) (hR _ _ ⟨rfl, Or.inr ⟨rfl, (by exact fun h => o_1 ((z_in_nat1 (by omega)).mpr h))⟩⟩)
theorem c_X6_placeOf (d : Nat) {g : Nat → Int32} {kept : Nat → Int32} {was : Nat → Int32} {isKept : Int32} {tape : Nat → Int32} {fed : Int32} {pos : Int32} {tlen : Int32} {flt : Int32} {ranking : Nat → Int32} {paper : Nat → Int32} {written : Int32} {pairs : Nat → Int64} {above : Nat → Int64} {below : Nat → Int64} {isDone : Nat → Int32} {dist : Nat → Int32} {rowv : Nat → Int32} {rowMany : Int32} {lsz : Nat → Int32} {itm : Nat → Int64} {weakAbove : Int64} {weakBelow : Int64} {b : Nat} {c : Nat} {n : Nat} {outs : Nat} {bm : Nat} {ms : Nat} {dr : Nat → Nat} {cn : Nat → Nat} {pl : Nat → Nat → Nat} (hG : z_GI g n outs bm ms dr cn pl) (hb : b < bm) (hc : c < n) : z_CAL (d + 1) 139 [.ref 0, .int (nI b), .int (nI c)] (MH g kept was isKept tape fed pos tlen flt ranking paper written pairs above below isDone dist rowv rowMany lsz itm weakAbove weakBelow) (fun r h2 => r = some (.int (nI (pl b c))) ∧ h2 = (MH g kept was isKept tape fed pos tlen flt ranking paper written pairs above below isDone dist rowv rowMany lsz itm weakAbove weakBelow)) := by
  refine e_of2 (q := zmX6_placeOf) rfl rfl (fun R hR => ?_)
  obtain ⟨⟨hn0, hn2, hn8⟩, ⟨ho0, ho8, hin⟩, ⟨hb0, hb40⟩, ⟨hm0, hm4⟩, ⟨hdr, hdl, hdc⟩, hcn, hpl⟩ := id hG; have hp8 := z_p2 hn8; have ho256 : outs < 256 := (by omega); have hi256 : z_dif (2 ^ n - 1) outs < 256 := (by have := z_dif_le (s := 2 ^ n - 1) (t := outs); omega)
  refine e_steps 5 (σ' := (9, [(0, .ref 0), (1, .int (nI b)), (2, .int (nI c))], [.int (nI b), .int (nI 8), .int (nI 52), .ref 1], (MH g kept was isKept tape fed pos tlen flt ranking paper written pairs above below isDone dist rowv rowMany lsz itm weakAbove weakBelow))) rfl ?_
  refine e_mul (8 * b) rfl (by first | rfl | omega | simp) ?_
  refine e_steps 0 (σ' := (10, [(0, .ref 0), (1, .int (nI b)), (2, .int (nI c))], [.int (nI (8 * b)), .int (nI 52), .ref 1], (MH g kept was isKept tape fed pos tlen flt ranking paper written pairs above below isDone dist rowv rowMany lsz itm weakAbove weakBelow))) rfl ?_
  refine e_add (52 + 8 * b) rfl (by first | rfl | omega) ?_
  refine e_steps 1 (σ' := (12, [(0, .ref 0), (1, .int (nI b)), (2, .int (nI c))], [.int (nI c), .int (nI (52 + 8 * b)), .ref 1], (MH g kept was isKept tape fed pos tlen flt ranking paper written pairs above below isDone dist rowv rowMany lsz itm weakAbove weakBelow))) rfl ?_
  refine e_add (52 + 8 * b + c) rfl (by first | rfl | omega) ?_
  refine e_steps 0 (σ' := (13, [(0, .ref 0), (1, .int (nI b)), (2, .int (nI c))], [.int (nI (52 + 8 * b + c)), .ref 1], (MH g kept was isKept tape fed pos tlen flt ranking paper written pairs above below isDone dist rowv rowMany lsz itm weakAbove weakBelow))) rfl ?_
  refine e_ial (nI (pl b c)) rfl rfl (by first | assumption | omega | rfl | trivial) (by decide) ((hpl _ (by omega)).1 _ (by omega)) ?_
  have hv_1 := (hpl b (by omega)).2.1 c (by omega)
  refine e_steps 0 (σ' := (14, [(0, .ref 0), (1, .int (nI b)), (2, .int (nI c))], [.int (nI (pl b c))], (MH g kept was isKept tape fed pos tlen flt ranking paper written pairs above below isDone dist rowv rowMany lsz itm weakAbove weakBelow))) rfl ?_
  exact e_ret rfl (trivial) (hR _ _ ⟨(by rfl), rfl⟩)
theorem c_X6_begins (d : Nat) {g : Nat → Int32} {kept : Nat → Int32} {was : Nat → Int32} {isKept : Int32} {tape : Nat → Int32} {fed : Int32} {pos : Int32} {tlen : Int32} {flt : Int32} {ranking : Nat → Int32} {paper : Nat → Int32} {written : Int32} {pairs : Nat → Int64} {above : Nat → Int64} {below : Nat → Int64} {isDone : Nat → Int32} {dist : Nat → Int32} {rowv : Nat → Int32} {rowMany : Int32} {lsz : Nat → Int32} {itm : Nat → Int64} {weakAbove : Int64} {weakBelow : Int64} {m : Nat} {ms : Nat} (h2 : 2 ≤ m) (h8 : m ≤ 8) (hm0 : g 3 = nI ms) (hm4 : ms < 4) : z_CAL (d + 1) 140 [.ref 0, .int (nI m)] (MH g kept was isKept tape fed pos tlen flt ranking paper written pairs above below isDone dist rowv rowMany lsz itm weakAbove weakBelow) (fun r h2 => ∃ (g2 : Nat → Int32), r = none ∧ h2 = (MH g2 kept was isKept tape fed pos tlen flt ranking paper written pairs above below isDone dist rowv rowMany lsz itm weakAbove weakBelow) ∧ (∀ cn pl, z_GI g2 m 0 0 ms (fun k => k) cn pl)) := by
  refine e_of2 (q := zmX6_begins) rfl rfl (fun R hR => ?_)
  refine e_steps 4 (σ' := (6, [(0, .ref 0), (1, .int (nI m))], [.int (nI m), .int (nI 0), .ref 1], (MH g kept was isKept tape fed pos tlen flt ranking paper written pairs above below isDone dist rowv rowMany lsz itm weakAbove weakBelow))) rfl ?_
  refine e_ias (MH (upd g 0 (nI m)) kept was isKept tape fed pos tlen flt ranking paper written pairs above below isDone dist rowv rowMany lsz itm weakAbove weakBelow) rfl rfl (by first | assumption | omega | rfl | trivial) (by decide) rfl ?_
  refine e_steps 4 (σ' := (13, [(0, .ref 0), (1, .int (nI m))], [.int (nI 0), .int (nI 1), .ref 1], (MH (upd g 0 (nI m)) kept was isKept tape fed pos tlen flt ranking paper written pairs above below isDone dist rowv rowMany lsz itm weakAbove weakBelow))) rfl ?_
  refine e_ias (MH (upd (upd g 0 (nI m)) 1 (nI 0)) kept was isKept tape fed pos tlen flt ranking paper written pairs above below isDone dist rowv rowMany lsz itm weakAbove weakBelow) rfl rfl (by first | assumption | omega | rfl | trivial) (by decide) rfl ?_
  refine e_steps 4 (σ' := (20, [(0, .ref 0), (1, .int (nI m))], [.int (nI 0), .int (nI 2), .ref 1], (MH (upd (upd g 0 (nI m)) 1 (nI 0)) kept was isKept tape fed pos tlen flt ranking paper written pairs above below isDone dist rowv rowMany lsz itm weakAbove weakBelow))) rfl ?_
  refine e_ias (MH (upd (upd (upd g 0 (nI m)) 1 (nI 0)) 2 (nI 0)) kept was isKept tape fed pos tlen flt ranking paper written pairs above below isDone dist rowv rowMany lsz itm weakAbove weakBelow) rfl rfl (by first | assumption | omega | rfl | trivial) (by decide) rfl ?_
  refine e_steps 2 (σ' := (23, [(2, .int (nI 0)), (0, .ref 0), (1, .int (nI m))], [], (MH (upd (upd (upd g 0 (nI m)) 1 (nI 0)) 2 (nI 0)) kept was isKept tape fed pos tlen flt ranking paper written pairs above below isDone dist rowv rowMany lsz itm weakAbove weakBelow))) rfl ?_
  have loop_1 : ∀ (z_1 : Nat) (k : Nat) (gl : Nat → Int32), 8 - k < z_1 → (k ≤ 8 ∧ (∀ i, i < k → gl (4 + i) = nI i) ∧ gl 0 = nI m ∧ gl 1 = nI 0 ∧ gl 2 = nI 0 ∧ gl 3 = nI ms) → z_EV (d + 0) zmX6_begins R (23, [(0, .ref 0), (1, .int (nI m)), (2, .int (nI k))], [], (MH gl kept was isKept tape fed pos tlen flt ranking paper written pairs above below isDone dist rowv rowMany lsz itm weakAbove weakBelow)) := by
    intro z_1
    induction z_1 with
    | zero => intro k gl hm_1 _; exact absurd hm_1 (Nat.not_lt_zero _)
    | succ z_1 ih_1 =>
      intro k gl hm_1 hi_1
      obtain ⟨l1, l2, l3, l4, l5, l6⟩ := hi_1
      refine e_steps 2 (σ' := (26, [(0, .ref 0), (1, .int (nI m)), (2, .int (nI k))], [.int (nI 8), .int (nI k)], (MH gl kept was isKept tape fed pos tlen flt ranking paper written pairs above below isDone dist rowv rowMany lsz itm weakAbove weakBelow))) rfl ?_
      refine e_if (c := nI 8 ≤ nI k) rfl (fun c_2 => ?_) (fun c_2 => ?_)
      · skip
        rw [nI_leI (by omega) (by omega)] at c_2
        refine e_steps 0 (σ' := (44, [(0, .ref 0), (1, .int (nI m)), (2, .int (nI k))], [], (MH gl kept was isKept tape fed pos tlen flt ranking paper written pairs above below isDone dist rowv rowMany lsz itm weakAbove weakBelow))) rfl ?_
        exact e_ret rfl (trivial) (hR _ _ ⟨gl, rfl, rfl, (by exact fun cn pl => z_GI_new h2 h8 l3 l4 l5 l6 hm4 (fun i hi => l2 i (by omega)))⟩)
      · skip
        rw [nI_leI (by omega) (by omega)] at c_2
        refine e_steps 4 (σ' := (35, [(0, .ref 0), (1, .int (nI m)), (2, .int (nI k))], [.int (nI k), .int (nI 4), .ref 1], (MH gl kept was isKept tape fed pos tlen flt ranking paper written pairs above below isDone dist rowv rowMany lsz itm weakAbove weakBelow))) rfl ?_
        refine e_add (4 + k) rfl (by first | rfl | omega) ?_
        refine e_steps 1 (σ' := (37, [(0, .ref 0), (1, .int (nI m)), (2, .int (nI k))], [.int (nI k), .int (nI (4 + k)), .ref 1], (MH gl kept was isKept tape fed pos tlen flt ranking paper written pairs above below isDone dist rowv rowMany lsz itm weakAbove weakBelow))) rfl ?_
        refine e_ias (MH (upd gl (4 + k) (nI k)) kept was isKept tape fed pos tlen flt ranking paper written pairs above below isDone dist rowv rowMany lsz itm weakAbove weakBelow) rfl rfl (by first | assumption | omega | rfl | trivial) (by decide) rfl ?_
        refine e_steps 0 (σ' := (38, [(0, .ref 0), (1, .int (nI m)), (2, .int (nI k))], [], (MH (upd gl (4 + k) (nI k)) kept was isKept tape fed pos tlen flt ranking paper written pairs above below isDone dist rowv rowMany lsz itm weakAbove weakBelow))) rfl ?_
        refine e_inc (n := 1) rfl rfl rfl (k + 1) (by rfl) [(2, .int (nI (k + 1))), (0, .ref 0), (1, .int (nI m))] rfl ?_
        refine e_steps 1 (σ' := (23, [(2, .int (nI (k + 1))), (0, .ref 0), (1, .int (nI m))], [], (MH (upd gl (4 + k) (nI k)) kept was isKept tape fed pos tlen flt ranking paper written pairs above below isDone dist rowv rowMany lsz itm weakAbove weakBelow))) rfl ?_
        refine e_sub [1, 2, 0] rfl ?_
        exact ih_1 (k + 1) (upd gl (4 + k) (nI k)) (by omega) (by exact ⟨by omega, z_up1 l2 rfl, by rw [z_un (by omega)]; exact l3, by rw [z_un (by omega)]; exact l4, by rw [z_un (by omega)]; exact l5, by rw [z_un (by omega)]; exact l6⟩)
  refine e_sub [1, 2, 0] rfl ?_
  exact loop_1 _ 0 (upd (upd (upd g 0 (nI m)) 1 (nI 0)) 2 (nI 0)) (Nat.lt_succ_self _) (by exact ⟨by omega, fun i hi => absurd hi (Nat.not_lt_zero i), rfl, rfl, rfl, hm0⟩)
theorem c_X6_begin (d : Nat) {g : Nat → Int32} {kept : Nat → Int32} {was : Nat → Int32} {isKept : Int32} {tape : Nat → Int32} {fed : Int32} {pos : Int32} {tlen : Int32} {flt : Int32} {ranking : Nat → Int32} {paper : Nat → Int32} {written : Int32} {pairs : Nat → Int64} {above : Nat → Int64} {below : Nat → Int64} {isDone : Nat → Int32} {dist : Nat → Int32} {rowv : Nat → Int32} {rowMany : Int32} {lsz : Nat → Int32} {itm : Nat → Int64} {weakAbove : Int64} {weakBelow : Int64} {nn : Int32} {n : Nat} {outs : Nat} {bm : Nat} {ms : Nat} {dr : Nat → Nat} {cn : Nat → Nat} {pl : Nat → Nat → Nat} (hG : z_GI g n outs bm ms dr cn pl) : z_CAL (d + 2) 141 [.ref 0, .int nn] (MH g kept was isKept tape fed pos tlen flt ranking paper written pairs above below isDone dist rowv rowMany lsz itm weakAbove weakBelow) (fun r h2 => ∃ (g2 : Nat → Int32) (v : Int32), r = some (.int v) ∧ h2 = (MH g2 kept was isKept tape fed pos tlen flt ranking paper written pairs above below isDone dist rowv rowMany lsz itm weakAbove weakBelow) ∧ ((¬ (∃ k, 2 ≤ k ∧ k ≤ 8 ∧ nn = nI k) ∧ v = -nI 2 ∧ g2 = g) ∨ (∃ k, 2 ≤ k ∧ k ≤ 8 ∧ nn = nI k ∧ v = nI n ∧ ∀ cn pl, z_GI g2 k 0 0 ms (fun k => k) cn pl))) := by
  refine e_of2 (q := zmX6_begin) rfl rfl (fun R hR => ?_)
  obtain ⟨⟨hn0, hn2, hn8⟩, ⟨ho0, ho8, hin⟩, ⟨hb0, hb40⟩, ⟨hm0, hm4⟩, ⟨hdr, hdl, hdc⟩, hcn, hpl⟩ := id hG; have hp8 := z_p2 hn8; have ho256 : outs < 256 := (by omega); have hi256 : z_dif (2 ^ n - 1) outs < 256 := (by have := z_dif_le (s := 2 ^ n - 1) (t := outs); omega)
  refine e_steps 4 (σ' := (8, [(0, .ref 0), (1, .int nn)], [.long (lN 8), .long (lN 2), .long nn.toInt64], (MH g kept was isKept tape fed pos tlen flt ranking paper written pairs above below isDone dist rowv rowMany lsz itm weakAbove weakBelow))) rfl ?_
  refine e_call (y := 129) (av := [.long nn.toInt64, .long (lN 2), .long (lN 8)]) (rest := []) rfl (c_X6_isIn (d + 0) ) (fun r_1 h_1 p_1 => ?_)
  obtain ⟨rfl, o_1⟩ := p_1
  rcases o_1 with ⟨rfl, o_1⟩ | ⟨rfl, o_1⟩
  · skip
    obtain ⟨kk, hk2, hk8, ek⟩ := z_in_nat2 (by omega) o_1; subst ek
    refine e_steps 4 (σ' := (22, [(0, .ref 0), (1, .int (nI kk))], [.int (nI 0), .ref 1], (MH g kept was isKept tape fed pos tlen flt ranking paper written pairs above below isDone dist rowv rowMany lsz itm weakAbove weakBelow))) rfl ?_
    refine e_ial (nI n) rfl rfl (by first | assumption | omega | rfl | trivial) (by decide) (hn0) ?_
    refine e_steps 3 (σ' := (26, [(2, .int (nI n)), (0, .ref 0), (1, .int (nI kk))], [.int (nI kk), .ref 0], (MH g kept was isKept tape fed pos tlen flt ranking paper written pairs above below isDone dist rowv rowMany lsz itm weakAbove weakBelow))) rfl ?_
    refine e_call (y := 140) (av := [.ref 0, .int (nI kk)]) (rest := []) rfl (c_X6_begins (d + 0) (ms := ms) (by first | assumption | omega | rfl | trivial) (by first | assumption | omega | rfl | trivial) (by first | assumption | omega | rfl | trivial) (by first | assumption | omega | rfl | trivial)) (fun r_2 h_2 p_2 => ?_)
    obtain ⟨g_2, rfl, rfl, q_2⟩ := p_2
    refine e_steps 1 (σ' := (30, [(2, .int (nI n)), (0, .ref 0), (1, .int (nI kk))], [.int (nI n)], (MH g_2 kept was isKept tape fed pos tlen flt ranking paper written pairs above below isDone dist rowv rowMany lsz itm weakAbove weakBelow))) rfl ?_
    exact e_ret rfl (trivial) (hR _ _ ⟨g_2, (nI n), rfl, rfl, (by exact Or.inr ⟨kk, hk2, hk8, rfl, rfl, q_2⟩)⟩)
  · skip
    refine e_steps 2 (σ' := (16, [(0, .ref 0), (1, .int nn)], [.int ((-nI 2))], (MH g kept was isKept tape fed pos tlen flt ranking paper written pairs above below isDone dist rowv rowMany lsz itm weakAbove weakBelow))) rfl ?_
    exact e_ret rfl (trivial) (hR _ _ ⟨g, ((-nI 2)), rfl, rfl, (by exact Or.inl ⟨fun ⟨k, h2, h8, e⟩ => o_1 (by rw [e]; exact z_nat_in2 (by omega) h2 h8), rfl, rfl⟩)⟩)
theorem c_X6_measure (d : Nat) {g : Nat → Int32} {kept : Nat → Int32} {was : Nat → Int32} {isKept : Int32} {tape : Nat → Int32} {fed : Int32} {pos : Int32} {tlen : Int32} {flt : Int32} {ranking : Nat → Int32} {paper : Nat → Int32} {written : Int32} {pairs : Nat → Int64} {above : Nat → Int64} {below : Nat → Int64} {isDone : Nat → Int32} {dist : Nat → Int32} {rowv : Nat → Int32} {rowMany : Int32} {lsz : Nat → Int32} {itm : Nat → Int64} {weakAbove : Int64} {weakBelow : Int64} {m : Int32} {n : Nat} {outs : Nat} {bm : Nat} {ms : Nat} {dr : Nat → Nat} {cn : Nat → Nat} {pl : Nat → Nat → Nat} (hG : z_GI g n outs bm ms dr cn pl) : z_CAL (d + 2) 143 [.ref 0, .int m] (MH g kept was isKept tape fed pos tlen flt ranking paper written pairs above below isDone dist rowv rowMany lsz itm weakAbove weakBelow) (fun r h2 => ∃ (g2 : Nat → Int32) (v : Int32), r = some (.int v) ∧ h2 = (MH g2 kept was isKept tape fed pos tlen flt ranking paper written pairs above below isDone dist rowv rowMany lsz itm weakAbove weakBelow) ∧ ((¬ (∃ k, k < 4 ∧ m = nI k) ∧ v = -nI 1 ∧ g2 = g) ∨ (∃ k, k < 4 ∧ m = nI k ∧ v = nI ms ∧ z_GI g2 n outs bm k dr cn pl))) := by
  refine e_of2 (q := zmX6_measure) rfl rfl (fun R hR => ?_)
  obtain ⟨⟨hn0, hn2, hn8⟩, ⟨ho0, ho8, hin⟩, ⟨hb0, hb40⟩, ⟨hm0, hm4⟩, ⟨hdr, hdl, hdc⟩, hcn, hpl⟩ := id hG; have hp8 := z_p2 hn8; have ho256 : outs < 256 := (by omega); have hi256 : z_dif (2 ^ n - 1) outs < 256 := (by have := z_dif_le (s := 2 ^ n - 1) (t := outs); omega)
  refine e_steps 4 (σ' := (6, [(0, .ref 0), (1, .int m)], [.long (lN 3), .long (lN 0), .long m.toInt64], (MH g kept was isKept tape fed pos tlen flt ranking paper written pairs above below isDone dist rowv rowMany lsz itm weakAbove weakBelow))) rfl ?_
  refine e_call (y := 129) (av := [.long m.toInt64, .long (lN 0), .long (lN 3)]) (rest := []) rfl (c_X6_isIn (d + 0) ) (fun r_1 h_1 p_1 => ?_)
  obtain ⟨rfl, o_1⟩ := p_1
  rcases o_1 with ⟨rfl, o_1⟩ | ⟨rfl, o_1⟩
  · skip
    obtain ⟨kk, hk8, ek⟩ := z_in_nat (by omega) o_1; subst ek
    refine e_steps 4 (σ' := (19, [(0, .ref 0), (1, .int (nI kk))], [.int (nI 3), .ref 1], (MH g kept was isKept tape fed pos tlen flt ranking paper written pairs above below isDone dist rowv rowMany lsz itm weakAbove weakBelow))) rfl ?_
    refine e_ial (nI ms) rfl rfl (by first | assumption | omega | rfl | trivial) (by decide) (hm0) ?_
    refine e_steps 5 (σ' := (27, [(2, .int (nI ms)), (0, .ref 0), (1, .int (nI kk))], [.int (nI kk), .int (nI 3), .ref 1], (MH g kept was isKept tape fed pos tlen flt ranking paper written pairs above below isDone dist rowv rowMany lsz itm weakAbove weakBelow))) rfl ?_
    refine e_ias (MH (upd g 3 (nI kk)) kept was isKept tape fed pos tlen flt ranking paper written pairs above below isDone dist rowv rowMany lsz itm weakAbove weakBelow) rfl rfl (by first | assumption | omega | rfl | trivial) (by decide) rfl ?_
    refine e_steps 1 (σ' := (29, [(2, .int (nI ms)), (0, .ref 0), (1, .int (nI kk))], [.int (nI ms)], (MH (upd g 3 (nI kk)) kept was isKept tape fed pos tlen flt ranking paper written pairs above below isDone dist rowv rowMany lsz itm weakAbove weakBelow))) rfl ?_
    exact e_ret rfl (trivial) (hR _ _ ⟨upd g 3 (nI kk), (nI ms), rfl, rfl, (by exact Or.inr ⟨kk, by omega, rfl, rfl, z_GI_ms hG (by omega)⟩)⟩)
  · skip
    refine e_steps 2 (σ' := (13, [(0, .ref 0), (1, .int m)], [.int ((-nI 1))], (MH g kept was isKept tape fed pos tlen flt ranking paper written pairs above below isDone dist rowv rowMany lsz itm weakAbove weakBelow))) rfl ?_
    exact e_ret rfl (trivial) (hR _ _ ⟨g, ((-nI 1)), rfl, rfl, (by exact Or.inl ⟨fun ⟨k, h4, e⟩ => o_1 (by rw [e]; exact z_nat_in (by omega) (by omega)), rfl, rfl⟩)⟩)
theorem c_X6_drawOf (d : Nat) {g : Nat → Int32} {kept : Nat → Int32} {was : Nat → Int32} {isKept : Int32} {tape : Nat → Int32} {fed : Int32} {pos : Int32} {tlen : Int32} {flt : Int32} {ranking : Nat → Int32} {paper : Nat → Int32} {written : Int32} {pairs : Nat → Int64} {above : Nat → Int64} {below : Nat → Int64} {isDone : Nat → Int32} {dist : Nat → Int32} {rowv : Nat → Int32} {rowMany : Int32} {lsz : Nat → Int32} {itm : Nat → Int64} {weakAbove : Int64} {weakBelow : Int64} {c : Nat} {n : Nat} {outs : Nat} {bm : Nat} {ms : Nat} {dr : Nat → Nat} {cn : Nat → Nat} {pl : Nat → Nat → Nat} (hG : z_GI g n outs bm ms dr cn pl) (hc : c < n) : z_CAL (d + 1) 144 [.ref 0, .int (nI c)] (MH g kept was isKept tape fed pos tlen flt ranking paper written pairs above below isDone dist rowv rowMany lsz itm weakAbove weakBelow) (fun r h2 => ∃ (v : Nat), r = some (.int (nI v)) ∧ h2 = (MH g kept was isKept tape fed pos tlen flt ranking paper written pairs above below isDone dist rowv rowMany lsz itm weakAbove weakBelow) ∧ (v < n ∧ dr v = c ∧ ∀ i, i < v → dr i ≠ c)) := by
  refine e_of2 (q := zmX6_drawOf) rfl rfl (fun R hR => ?_)
  obtain ⟨⟨hn0, hn2, hn8⟩, ⟨ho0, ho8, hin⟩, ⟨hb0, hb40⟩, ⟨hm0, hm4⟩, ⟨hdr, hdl, hdc⟩, hcn, hpl⟩ := id hG; have hp8 := z_p2 hn8; have ho256 : outs < 256 := (by omega); have hi256 : z_dif (2 ^ n - 1) outs < 256 := (by have := z_dif_le (s := 2 ^ n - 1) (t := outs); omega)
  refine e_steps 2 (σ' := (2, [(2, .int (nI 0)), (0, .ref 0), (1, .int (nI c))], [], (MH g kept was isKept tape fed pos tlen flt ranking paper written pairs above below isDone dist rowv rowMany lsz itm weakAbove weakBelow))) rfl ?_
  have loop_1 : ∀ (z_1 : Nat) (k : Nat), n - k < z_1 → ((∃ j, k ≤ j ∧ j < n ∧ dr j = c) ∧ ∀ i, i < k → dr i ≠ c) → z_EV (d + 0) zmX6_drawOf R (2, [(0, .ref 0), (1, .int (nI c)), (2, .int (nI k))], [], (MH g kept was isKept tape fed pos tlen flt ranking paper written pairs above below isDone dist rowv rowMany lsz itm weakAbove weakBelow)) := by
    intro z_1
    induction z_1 with
    | zero => intro k hm_1 _; exact absurd hm_1 (Nat.not_lt_zero _)
    | succ z_1 ih_1 =>
      intro k hm_1 hi_1
      obtain ⟨⟨jj, hj1, hj2, hj3⟩, hk2⟩ := hi_1; have hkl := hdl k (by omega)
      refine e_steps 4 (σ' := (8, [(0, .ref 0), (1, .int (nI c)), (2, .int (nI k))], [.int (nI k), .int (nI 4), .ref 1], (MH g kept was isKept tape fed pos tlen flt ranking paper written pairs above below isDone dist rowv rowMany lsz itm weakAbove weakBelow))) rfl ?_
      refine e_add (4 + k) rfl (by first | rfl | omega) ?_
      refine e_steps 0 (σ' := (9, [(0, .ref 0), (1, .int (nI c)), (2, .int (nI k))], [.int (nI (4 + k)), .ref 1], (MH g kept was isKept tape fed pos tlen flt ranking paper written pairs above below isDone dist rowv rowMany lsz itm weakAbove weakBelow))) rfl ?_
      refine e_ial (nI (dr k)) rfl rfl (by first | assumption | omega | rfl | trivial) (by decide) (hdr _ (by omega)) ?_
      refine e_steps 1 (σ' := (11, [(0, .ref 0), (1, .int (nI c)), (2, .int (nI k))], [.int (nI c), .int (nI (dr k))], (MH g kept was isKept tape fed pos tlen flt ranking paper written pairs above below isDone dist rowv rowMany lsz itm weakAbove weakBelow))) rfl ?_
      refine e_if (c := nI (dr k) = nI c) rfl (fun c_2 => ?_) (fun c_2 => ?_)
      · skip
        rw [nI_eq (by omega) (by omega)] at c_2
        refine e_steps 1 (σ' := (21, [(0, .ref 0), (1, .int (nI c)), (2, .int (nI k))], [.int (nI k)], (MH g kept was isKept tape fed pos tlen flt ranking paper written pairs above below isDone dist rowv rowMany lsz itm weakAbove weakBelow))) rfl ?_
        exact e_ret rfl (trivial) (hR _ _ ⟨k, rfl, rfl, (by exact ⟨by omega, c_2, hk2⟩)⟩)
      · skip
        rw [nI_eq (by omega) (by omega)] at c_2
        refine e_steps 0 (σ' := (14, [(0, .ref 0), (1, .int (nI c)), (2, .int (nI k))], [], (MH g kept was isKept tape fed pos tlen flt ranking paper written pairs above below isDone dist rowv rowMany lsz itm weakAbove weakBelow))) rfl ?_
        refine e_inc (n := 1) rfl rfl rfl (k + 1) (by rfl) [(2, .int (nI (k + 1))), (0, .ref 0), (1, .int (nI c))] rfl ?_
        refine e_steps 1 (σ' := (2, [(2, .int (nI (k + 1))), (0, .ref 0), (1, .int (nI c))], [], (MH g kept was isKept tape fed pos tlen flt ranking paper written pairs above below isDone dist rowv rowMany lsz itm weakAbove weakBelow))) rfl ?_
        refine e_sub [1, 2, 0] rfl ?_
        exact ih_1 (k + 1) (by omega) (by exact ⟨⟨jj, by (have : jj ≠ k := fun e => c_2 (e ▸ hj3)); omega, hj2, hj3⟩, fun i hi => by rcases (by omega : i < k ∨ i = k) with h | h; exact hk2 i h; exact h ▸ c_2⟩)
  refine e_sub [1, 2, 0] rfl ?_
  exact loop_1 _ 0 (Nat.lt_succ_self _) (by obtain ⟨j, h1, h2⟩ := hdc c hc; exact ⟨⟨j, by omega, h1, h2⟩, fun i hi => absurd hi (Nat.not_lt_zero i)⟩)
theorem c_X6_drawn (d : Nat) {g : Nat → Int32} {kept : Nat → Int32} {was : Nat → Int32} {isKept : Int32} {tape : Nat → Int32} {fed : Int32} {pos : Int32} {tlen : Int32} {flt : Int32} {ranking : Nat → Int32} {paper : Nat → Int32} {written : Int32} {pairs : Nat → Int64} {above : Nat → Int64} {below : Nat → Int64} {isDone : Nat → Int32} {dist : Nat → Int32} {rowv : Nat → Int32} {rowMany : Int32} {lsz : Nat → Int32} {itm : Nat → Int64} {weakAbove : Int64} {weakBelow : Int64} {k : Int32} {n : Nat} {outs : Nat} {bm : Nat} {ms : Nat} {dr : Nat → Nat} {cn : Nat → Nat} {pl : Nat → Nat → Nat} (hG : z_GI g n outs bm ms dr cn pl) : z_CAL (d + 3) 147 [.ref 0, .int k] (MH g kept was isKept tape fed pos tlen flt ranking paper written pairs above below isDone dist rowv rowMany lsz itm weakAbove weakBelow) (fun r h2 => ∃ (v : Int32), r = some (.int v) ∧ h2 = (MH g kept was isKept tape fed pos tlen flt ranking paper written pairs above below isDone dist rowv rowMany lsz itm weakAbove weakBelow) ∧ ((¬ (∃ k2, k2 < n ∧ k = nI k2) ∧ v = -nI 1) ∨ (∃ k2, k2 < n ∧ k = nI k2 ∧ v = nI (dr k2)))) := by
  refine e_of2 (q := zmX6_drawn) rfl rfl (fun R hR => ?_)
  obtain ⟨⟨hn0, hn2, hn8⟩, ⟨ho0, ho8, hin⟩, ⟨hb0, hb40⟩, ⟨hm0, hm4⟩, ⟨hdr, hdl, hdc⟩, hcn, hpl⟩ := id hG; have hp8 := z_p2 hn8; have ho256 : outs < 256 := (by omega); have hi256 : z_dif (2 ^ n - 1) outs < 256 := (by have := z_dif_le (s := 2 ^ n - 1) (t := outs); omega)
  refine e_steps 2 (σ' := (2, [(0, .ref 0), (1, .int k)], [.int k, .ref 0], (MH g kept was isKept tape fed pos tlen flt ranking paper written pairs above below isDone dist rowv rowMany lsz itm weakAbove weakBelow))) rfl ?_
  refine e_call (y := 135) (av := [.ref 0, .int k]) (rest := []) rfl (c_X6_isOne (d + 0) (n := n) (outs := outs) (bm := bm) (ms := ms) (dr := dr) (cn := cn) (pl := pl) (by first | assumption | omega | rfl | trivial)) (fun r_1 h_1 p_1 => ?_)
  obtain ⟨rfl, o_1⟩ := p_1
  rcases o_1 with ⟨rfl, o_1⟩ | ⟨rfl, o_1⟩
  · skip
    obtain ⟨k_2, hk_1, ek_2⟩ := o_1
    subst ek_2
    refine e_steps 5 (σ' := (14, [(0, .ref 0), (1, .int (nI k_2))], [.int (nI k_2), .int (nI 4), .ref 1], (MH g kept was isKept tape fed pos tlen flt ranking paper written pairs above below isDone dist rowv rowMany lsz itm weakAbove weakBelow))) rfl ?_
    refine e_add (4 + k_2) rfl (by first | rfl | omega) ?_
    refine e_steps 0 (σ' := (15, [(0, .ref 0), (1, .int (nI k_2))], [.int (nI (4 + k_2)), .ref 1], (MH g kept was isKept tape fed pos tlen flt ranking paper written pairs above below isDone dist rowv rowMany lsz itm weakAbove weakBelow))) rfl ?_
    refine e_ial (nI (dr k_2)) rfl rfl (by first | assumption | omega | rfl | trivial) (by decide) (hdr _ (by omega)) ?_
    refine e_steps 1 (σ' := (20, [(0, .ref 0), (1, .int (nI k_2))], [.int (nI (dr k_2))], (MH g kept was isKept tape fed pos tlen flt ranking paper written pairs above below isDone dist rowv rowMany lsz itm weakAbove weakBelow))) rfl ?_
    exact e_ret rfl (trivial) (hR _ _ ⟨(nI (dr k_2)), rfl, rfl, (by exact Or.inr ⟨_, hk_1, rfl, rfl⟩)⟩)
  · skip
    refine e_steps 2 (σ' := (20, [(0, .ref 0), (1, .int k)], [.int ((-nI 1))], (MH g kept was isKept tape fed pos tlen flt ranking paper written pairs above below isDone dist rowv rowMany lsz itm weakAbove weakBelow))) rfl ?_
    exact e_ret rfl (trivial) (hR _ _ ⟨((-nI 1)), rfl, rfl, (by exact Or.inl ⟨o_1, rfl⟩)⟩)
