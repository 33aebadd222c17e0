/-! the reference: its methods over the pure machine -/
def MH (g : Nat → Int32) (kept : Nat → Int32) (was : Nat → Int32) (isKept : Int32) (tape : Nat → Int32) (fed : Int32) (pos : Int32) (tlen : Int32) (flt : Int32) (ranking : Nat → Int32) (paper : Nat → Int32) (written : Int32) (pairs : Nat → Int64) (above : Nat → Int64) (below : Nat → Int64) (isDone : Nat → Int32) (dist : Nat → Int32) (rowv : Nat → Int32) (rowMany : Int32) (lsz : Nat → Int32) (itm : Nat → Int64) (weakAbove : Int64) (weakBelow : Int64) : List z_E := [.inr (6, [.ref 1, .ref 2, .ref 3, .int isKept, .ref 4, .int fed, .int pos, .int tlen, .int flt, .ref 5, .ref 6, .int written, .ref 7, .ref 8, .ref 9, .ref 10, .ref 11, .ref 12, .int rowMany, .ref 13, .ref 14, .long weakAbove, .long weakBelow]), .inl (0, 372, .inl g), .inl (0, 372, .inl kept), .inl (0, 372, .inl was), .inl (0, 120, .inl tape), .inl (0, 8, .inl ranking), .inl (0, 16, .inl paper), .inl (1, 64, .inr (.inl pairs)), .inl (1, 64, .inr (.inl above)), .inl (1, 64, .inr (.inl below)), .inl (2, 8, .inl isDone), .inl (0, 8, .inl dist), .inl (0, 8, .inl rowv), .inl (0, 4, .inl lsz), .inl (1, 160, .inr (.inl itm))]
theorem c_J9_max_7cf53_N (d : Nat) {h : List z_E} {a : Nat} {b : Nat} (ha : a < 2 ^ 31) (hb : b < 2 ^ 31) : z_CAL (d + 1) 240 [.int (nI a), .int (nI b)] h (fun r h2 => r = some (.int (nI (max a b))) ∧ h2 = h) := by
  refine e_of2 (q := zmJ9_max_7cf53) rfl rfl (fun R hR => ?_)
  refine e_steps 2 (σ' := (2, [(0, .int (nI a)), (1, .int (nI b))], [.int (nI b), .int (nI a)], h)) rfl ?_
  refine e_if (c := nI a < nI b) rfl (fun c_1 => ?_) (fun c_1 => ?_)
  · skip
    rw [nI_ltI (by omega) (by omega)] at c_1
    refine e_steps 1 (σ' := (10, [(0, .int (nI a)), (1, .int (nI b))], [.int (nI b)], h)) rfl ?_
    exact e_ret rfl (trivial) (hR _ _ ⟨(by exact congrArg (fun v => some (Value.int (nI v))) (by omega)), rfl⟩)
  · skip
    rw [nI_ltI (by omega) (by omega)] at c_1
    refine e_steps 2 (σ' := (10, [(0, .int (nI a)), (1, .int (nI b))], [.int (nI a)], h)) rfl ?_
    exact e_ret rfl (trivial) (hR _ _ ⟨(by exact congrArg (fun v => some (Value.int (nI v))) (by omega)), rfl⟩)
theorem c_J9_min_7cf53_N (d : Nat) {h : List z_E} {a : Nat} {b : Nat} (ha : a < 2 ^ 31) (hb : b < 2 ^ 31) : z_CAL (d + 1) 242 [.int (nI a), .int (nI b)] h (fun r h2 => r = some (.int (nI (min a b))) ∧ h2 = h) := by
  refine e_of2 (q := zmJ9_min_7cf53) rfl rfl (fun R hR => ?_)
  refine e_steps 2 (σ' := (2, [(0, .int (nI a)), (1, .int (nI b))], [.int (nI b), .int (nI a)], h)) rfl ?_
  refine e_if (c := nI b < nI a) rfl (fun c_1 => ?_) (fun c_1 => ?_)
  · skip
    rw [nI_ltI (by omega) (by omega)] at c_1
    refine e_steps 1 (σ' := (10, [(0, .int (nI a)), (1, .int (nI b))], [.int (nI b)], h)) rfl ?_
    exact e_ret rfl (trivial) (hR _ _ ⟨(by exact congrArg (fun v => some (Value.int (nI v))) (by omega)), rfl⟩)
  · skip
    rw [nI_ltI (by omega) (by omega)] at c_1
    refine e_steps 2 (σ' := (10, [(0, .int (nI a)), (1, .int (nI b))], [.int (nI a)], h)) rfl ?_
    exact e_ret rfl (trivial) (hR _ _ ⟨(by exact congrArg (fun v => some (Value.int (nI v))) (by omega)), rfl⟩)
theorem c_X6_isIn (d : Nat) {g : Nat → Int32} {kept : Nat → Int32} {was : Nat → Int32} {isKept : Int32} {tape : Nat → Int32} {fed : Int32} {pos : Int32} {tlen : Int32} {flt : Int32} {ranking : Nat → Int32} {paper : Nat → Int32} {written : Int32} {pairs : Nat → Int64} {above : Nat → Int64} {below : Nat → Int64} {isDone : Nat → Int32} {dist : Nat → Int32} {rowv : Nat → Int32} {rowMany : Int32} {lsz : Nat → Int32} {itm : Nat → Int64} {weakAbove : Int64} {weakBelow : Int64} {v : Int64} {least : Int64} {most : Int64}  : z_CAL (d + 1) 129 [.long v, .long least, .long most] (MH g kept was isKept tape fed pos tlen flt ranking paper written pairs above below isDone dist rowv rowMany lsz itm weakAbove weakBelow) (fun r h2 => h2 = (MH g kept was isKept tape fed pos tlen flt ranking paper written pairs above below isDone dist rowv rowMany lsz itm weakAbove weakBelow) ∧ ((r = some (.int (nI 1)) ∧ (least ≤ v ∧ v ≤ most)) ∨ (r = some (.int (nI 0)) ∧ (¬ (least ≤ v ∧ v ≤ most))))) := by
  refine e_of2 (q := zmX6_isIn) rfl rfl (fun R hR => ?_)
  refine e_steps 3 (σ' := (3, [(0, .long v), (2, .long least), (4, .long most)], [.int ((lg_cmp v least))], (MH g kept was isKept tape fed pos tlen flt ranking paper written pairs above below isDone dist rowv rowMany lsz itm weakAbove weakBelow))) rfl ?_
  refine e_if (c := lg_cmp v least < 0) rfl (fun c_1 => ?_) (fun c_1 => ?_)
  · rw [lg_cmp_lt] at c_1
    refine e_steps 1 (σ' := (18, [(0, .long v), (2, .long least), (4, .long most)], [.int (nI 0)], (MH g kept was isKept tape fed pos tlen flt ranking paper written pairs above below isDone dist rowv rowMany lsz itm weakAbove weakBelow))) rfl ?_
    exact e_ret rfl (Or.inl rfl) (hR _ _ ⟨rfl, Or.inr ⟨rfl, (by exact fun q => Int64.not_lt.mpr q.1 c_1)⟩⟩)
  · rw [lg_cmp_lt] at c_1
    refine e_steps 3 (σ' := (10, [(0, .long v), (2, .long least), (4, .long most)], [.int ((lg_cmp v most))], (MH g kept was isKept tape fed pos tlen flt ranking paper written pairs above below isDone dist rowv rowMany lsz itm weakAbove weakBelow))) rfl ?_
    refine e_if (c := 0 < lg_cmp v most) rfl (fun c_2 => ?_) (fun c_2 => ?_)
    · rw [lg_cmp_gt] at c_2
      refine e_steps 1 (σ' := (18, [(0, .long v), (2, .long least), (4, .long most)], [.int (nI 0)], (MH g kept was isKept tape fed pos tlen flt ranking paper written pairs above below isDone dist rowv rowMany lsz itm weakAbove weakBelow))) rfl ?_
      exact e_ret rfl (Or.inl rfl) (hR _ _ ⟨rfl, Or.inr ⟨rfl, (by exact fun q => Int64.not_lt.mpr q.2 c_2)⟩⟩)
    · rw [lg_cmp_gt] at c_2
      refine e_steps 2 (σ' := (18, [(0, .long v), (2, .long least), (4, .long most)], [.int (nI 1)], (MH g kept was isKept tape fed pos tlen flt ranking paper written pairs above below isDone dist rowv rowMany lsz itm weakAbove weakBelow))) rfl ?_
      exact e_ret rfl (Or.inr rfl) (hR _ _ ⟨rfl, Or.inl ⟨rfl, (by exact ⟨Int64.not_lt.mp c_1, Int64.not_lt.mp c_2⟩)⟩⟩)
theorem c_X6_isIn_N (d : Nat) {g : Nat → Int32} {kept : Nat → Int32} {was : Nat → Int32} {isKept : Int32} {tape : Nat → Int32} {fed : Int32} {pos : Int32} {tlen : Int32} {flt : Int32} {ranking : Nat → Int32} {paper : Nat → Int32} {written : Int32} {pairs : Nat → Int64} {above : Nat → Int64} {below : Nat → Int64} {isDone : Nat → Int32} {dist : Nat → Int32} {rowv : Nat → Int32} {rowMany : Int32} {lsz : Nat → Int32} {itm : Nat → Int64} {weakAbove : Int64} {weakBelow : Int64} {v : Nat} {least : Nat} {most : Nat} (hv : v < 2 ^ 31) (hl : least < 2 ^ 31) (hm : most < 2 ^ 31) : z_CAL (d + 1) 129 [.long (lN v), .long (lN least), .long (lN most)] (MH g kept was isKept tape fed pos tlen flt ranking paper written pairs above below isDone dist rowv rowMany lsz itm weakAbove weakBelow) (fun r h2 => h2 = (MH g kept was isKept tape fed pos tlen flt ranking paper written pairs above below isDone dist rowv rowMany lsz itm weakAbove weakBelow) ∧ ((r = some (.int (nI 1)) ∧ (least ≤ v ∧ v ≤ most)) ∨ (r = some (.int (nI 0)) ∧ (¬ (least ≤ v ∧ v ≤ most))))) := by
  refine e_of2 (q := zmX6_isIn) rfl rfl (fun R hR => ?_)
  refine e_steps 3 (σ' := (3, [(0, .long (lN v)), (2, .long (lN least)), (4, .long (lN most))], [.int ((lg_cmp (lN v) (lN least)))], (MH g kept was isKept tape fed pos tlen flt ranking paper written pairs above below isDone dist rowv rowMany lsz itm weakAbove weakBelow))) rfl ?_
  refine e_if (c := lg_cmp (lN v) (lN least) < 0) rfl (fun c_1 => ?_) (fun c_1 => ?_)
  · rw [lg_cmp_lt] at c_1
    rw [pk_lLT (by omega) (by omega)] at c_1
    refine e_steps 1 (σ' := (18, [(0, .long (lN v)), (2, .long (lN least)), (4, .long (lN most))], [.int (nI 0)], (MH g kept was isKept tape fed pos tlen flt ranking paper written pairs above below isDone dist rowv rowMany lsz itm weakAbove weakBelow))) rfl ?_
    exact e_ret rfl (Or.inl rfl) (hR _ _ ⟨rfl, Or.inr ⟨rfl, (by first | assumption | omega | rfl | trivial)⟩⟩)
  · rw [lg_cmp_lt] at c_1
    rw [pk_lLT (by omega) (by omega)] at c_1
    refine e_steps 3 (σ' := (10, [(0, .long (lN v)), (2, .long (lN least)), (4, .long (lN most))], [.int ((lg_cmp (lN v) (lN most)))], (MH g kept was isKept tape fed pos tlen flt ranking paper written pairs above below isDone dist rowv rowMany lsz itm weakAbove weakBelow))) rfl ?_
    refine e_if (c := 0 < lg_cmp (lN v) (lN most)) rfl (fun c_2 => ?_) (fun c_2 => ?_)
    · rw [lg_cmp_gt] at c_2
      rw [pk_lLT (by omega) (by omega)] at c_2
      refine e_steps 1 (σ' := (18, [(0, .long (lN v)), (2, .long (lN least)), (4, .long (lN most))], [.int (nI 0)], (MH g kept was isKept tape fed pos tlen flt ranking paper written pairs above below isDone dist rowv rowMany lsz itm weakAbove weakBelow))) rfl ?_
      exact e_ret rfl (Or.inl rfl) (hR _ _ ⟨rfl, Or.inr ⟨rfl, (by first | assumption | omega | rfl | trivial)⟩⟩)
    · rw [lg_cmp_gt] at c_2
      rw [pk_lLT (by omega) (by omega)] at c_2
      refine e_steps 2 (σ' := (18, [(0, .long (lN v)), (2, .long (lN least)), (4, .long (lN most))], [.int (nI 1)], (MH g kept was isKept tape fed pos tlen flt ranking paper written pairs above below isDone dist rowv rowMany lsz itm weakAbove weakBelow))) rfl ?_
      exact e_ret rfl (Or.inr rfl) (hR _ _ ⟨rfl, Or.inl ⟨rfl, (by first | assumption | omega | rfl | trivial)⟩⟩)
theorem c_X6_has (d : Nat) {g : Nat → Int32} {kept : Nat → Int32} {was : Nat → Int32} {isKept : Int32} {tape : Nat → Int32} {fed : Int32} {pos : Int32} {tlen : Int32} {flt : Int32} {ranking : Nat → Int32} {paper : Nat → Int32} {written : Int32} {pairs : Nat → Int64} {above : Nat → Int64} {below : Nat → Int64} {isDone : Nat → Int32} {dist : Nat → Int32} {rowv : Nat → Int32} {rowMany : Int32} {lsz : Nat → Int32} {itm : Nat → Int64} {weakAbove : Int64} {weakBelow : Int64} {s : Nat} {k : Nat} (hs : s < 256) (hk : k < 8) : z_CAL (d + 1) 131 [.int (nI s), .int (nI k)] (MH g kept was isKept tape fed pos tlen flt ranking paper written pairs above below isDone dist rowv rowMany lsz itm weakAbove weakBelow) (fun r h2 => h2 = (MH g kept was isKept tape fed pos tlen flt ranking paper written pairs above below isDone dist rowv rowMany lsz itm weakAbove weakBelow) ∧ ((r = some (.int (nI 1)) ∧ (s.testBit k = true)) ∨ (r = some (.int (nI 0)) ∧ (s.testBit k = false)))) := by
  refine e_of2 (q := zmX6_has) rfl rfl (fun R hR => ?_)
  refine e_steps 6 (σ' := (6, [(0, .int (nI s)), (1, .int (nI k))], [.int (nI 1), .int (((((nI s) >>> ((nI k) &&& 31))) &&& (nI 1)))], (MH g kept was isKept tape fed pos tlen flt ranking paper written pairs above below isDone dist rowv rowMany lsz itm weakAbove weakBelow))) rfl ?_
  refine e_if (c := ¬ ((((nI s) >>> ((nI k) &&& 31))) &&& (nI 1)) = nI 1) rfl (fun c_1 => ?_) (fun c_1 => ?_)
  · skip
    refine e_steps 1 (σ' := (14, [(0, .int (nI s)), (1, .int (nI k))], [.int (nI 0)], (MH g kept was isKept tape fed pos tlen flt ranking paper written pairs above below isDone dist rowv rowMany lsz itm weakAbove weakBelow))) rfl ?_
    exact e_ret rfl (Or.inl rfl) (hR _ _ ⟨rfl, Or.inr ⟨rfl, (by rw [z_has hs hk] at c_1; simpa using c_1)⟩⟩)
  · skip
    replace c_1 := Decidable.not_not.mp c_1
    refine e_steps 2 (σ' := (14, [(0, .int (nI s)), (1, .int (nI k))], [.int (nI 1)], (MH g kept was isKept tape fed pos tlen flt ranking paper written pairs above below isDone dist rowv rowMany lsz itm weakAbove weakBelow))) rfl ?_
    exact e_ret rfl (Or.inr rfl) (hR _ _ ⟨rfl, Or.inl ⟨rfl, (by rw [z_has hs hk] at c_1; simpa using c_1)⟩⟩)
theorem c_X6_copies_gw (d : Nat) {g : Nat → Int32} {kept : Nat → Int32} {was : Nat → Int32} {isKept : Int32} {tape : Nat → Int32} {fed : Int32} {pos : Int32} {tlen : Int32} {flt : Int32} {ranking : Nat → Int32} {paper : Nat → Int32} {written : Int32} {pairs : Nat → Int64} {above : Nat → Int64} {below : Nat → Int64} {isDone : Nat → Int32} {dist : Nat → Int32} {rowv : Nat → Int32} {rowMany : Int32} {lsz : Nat → Int32} {itm : Nat → Int64} {weakAbove : Int64} {weakBelow : Int64}  : z_CAL (d + 1) 130 [.ref 1, .ref 3] (MH g kept was isKept tape fed pos tlen flt ranking paper written pairs above below isDone dist rowv rowMany lsz itm weakAbove weakBelow) (fun r h2 => ∃ (was2 : Nat → Int32), r = none ∧ h2 = (MH g kept was2 isKept tape fed pos tlen flt ranking paper written pairs above below isDone dist rowv rowMany lsz itm weakAbove weakBelow) ∧ (∀ k, k < 372 → was2 k = g k)) := by
  refine e_of2 (q := zmX6_copies) rfl rfl (fun R hR => ?_)
  refine e_steps 2 (σ' := (2, [(2, .int (nI 0)), (0, .ref 1), (1, .ref 3)], [], (MH g kept was isKept tape fed pos tlen flt ranking paper written pairs above below isDone dist rowv rowMany lsz itm weakAbove weakBelow))) rfl ?_
  have loop_1 : ∀ (z_1 : Nat) (k : Nat) (wasl : Nat → Int32), 372 - k < z_1 → (k ≤ 372 ∧ ∀ i, i < k → wasl i = g i) → z_EV (d + 0) zmX6_copies R (2, [(0, .ref 1), (1, .ref 3), (2, .int (nI k))], [], (MH g kept wasl isKept tape fed pos tlen flt ranking paper written pairs above below isDone dist rowv rowMany lsz itm weakAbove weakBelow)) := by
    intro z_1
    induction z_1 with
    | zero => intro k wasl hm_1 _; exact absurd hm_1 (Nat.not_lt_zero _)
    | succ z_1 ih_1 =>
      intro k wasl hm_1 hi_1
      obtain ⟨hk1, hk2⟩ := hi_1
      refine e_steps 2 (σ' := (6, [(0, .ref 1), (1, .ref 3), (2, .int (nI k))], [.int (nI 372), .int (nI k)], (MH g kept wasl isKept tape fed pos tlen flt ranking paper written pairs above below isDone dist rowv rowMany lsz itm weakAbove weakBelow))) rfl ?_
      refine e_if (c := nI 372 ≤ nI k) rfl (fun c_2 => ?_) (fun c_2 => ?_)
      · skip
        rw [nI_leI (by omega) (by omega)] at c_2
        refine e_steps 0 (σ' := (21, [(0, .ref 1), (1, .ref 3), (2, .int (nI k))], [], (MH g kept wasl isKept tape fed pos tlen flt ranking paper written pairs above below isDone dist rowv rowMany lsz itm weakAbove weakBelow))) rfl ?_
        exact e_ret rfl (trivial) (hR _ _ ⟨wasl, rfl, rfl, (by exact fun k hk => hk2 k (by omega))⟩)
      · skip
        rw [nI_leI (by omega) (by omega)] at c_2
        refine e_steps 4 (σ' := (13, [(0, .ref 1), (1, .ref 3), (2, .int (nI k))], [.int (nI k), .ref 1, .int (nI k), .ref 3], (MH g kept wasl isKept tape fed pos tlen flt ranking paper written pairs above below isDone dist rowv rowMany lsz itm weakAbove weakBelow))) rfl ?_
        refine e_ial (g k) rfl rfl (by first | assumption | omega | rfl | trivial) (by decide) (rfl) ?_
        refine e_steps 0 (σ' := (14, [(0, .ref 1), (1, .ref 3), (2, .int (nI k))], [.int ((g k)), .int (nI k), .ref 3], (MH g kept wasl isKept tape fed pos tlen flt ranking paper written pairs above below isDone dist rowv rowMany lsz itm weakAbove weakBelow))) rfl ?_
        refine e_ias (MH g kept (upd wasl k ((g k))) isKept tape fed pos tlen flt ranking paper written pairs above below isDone dist rowv rowMany lsz itm weakAbove weakBelow) rfl rfl (by first | assumption | omega | rfl | trivial) (by decide) rfl ?_
        refine e_steps 0 (σ' := (15, [(0, .ref 1), (1, .ref 3), (2, .int (nI k))], [], (MH g kept (upd wasl k ((g k))) isKept tape fed pos tlen flt ranking paper written pairs above below isDone dist rowv rowMany lsz itm weakAbove weakBelow))) rfl ?_
        refine e_inc (n := 1) rfl rfl rfl (k + 1) (by rfl) [(2, .int (nI (k + 1))), (0, .ref 1), (1, .ref 3)] rfl ?_
        refine e_steps 1 (σ' := (2, [(2, .int (nI (k + 1))), (0, .ref 1), (1, .ref 3)], [], (MH g kept (upd wasl k ((g k))) isKept tape fed pos tlen flt ranking paper written pairs above below isDone dist rowv rowMany lsz itm weakAbove weakBelow))) rfl ?_
        refine e_sub [1, 2, 0] rfl ?_
        exact ih_1 (k + 1) (upd wasl k ((g k))) (by omega) (by exact ⟨by omega, fun i hi => by unfold upd; split <;> first | (rename_i q; rw [q]) | exact hk2 i (by omega)⟩)
  refine e_sub [1, 2, 0] rfl ?_
  exact loop_1 _ 0 was (Nat.lt_succ_self _) (by exact ⟨by omega, fun i hi => absurd hi (Nat.not_lt_zero i)⟩)
theorem c_X6_copies_wg (d : Nat) {g : Nat → Int32} {kept : Nat → Int32} {was : Nat → Int32} {isKept : Int32} {tape : Nat → Int32} {fed : Int32} {pos : Int32} {tlen : Int32} {flt : Int32} {ranking : Nat → Int32} {paper : Nat → Int32} {written : Int32} {pairs : Nat → Int64} {above : Nat → Int64} {below : Nat → Int64} {isDone : Nat → Int32} {dist : Nat → Int32} {rowv : Nat → Int32} {rowMany : Int32} {lsz : Nat → Int32} {itm : Nat → Int64} {weakAbove : Int64} {weakBelow : Int64}  : z_CAL (d + 1) 130 [.ref 3, .ref 1] (MH g kept was isKept tape fed pos tlen flt ranking paper written pairs above below isDone dist rowv rowMany lsz itm weakAbove weakBelow) (fun r h2 => ∃ (new2 : Nat → Int32), r = none ∧ h2 = (MH new2 kept was isKept tape fed pos tlen flt ranking paper written pairs above below isDone dist rowv rowMany lsz itm weakAbove weakBelow) ∧ (∀ k, k < 372 → new2 k = was k)) := by
  refine e_of2 (q := zmX6_copies) rfl rfl (fun R hR => ?_)
  refine e_steps 2 (σ' := (2, [(2, .int (nI 0)), (0, .ref 3), (1, .ref 1)], [], (MH g kept was isKept tape fed pos tlen flt ranking paper written pairs above below isDone dist rowv rowMany lsz itm weakAbove weakBelow))) rfl ?_
  have loop_1 : ∀ (z_1 : Nat) (k : Nat) (newl : Nat → Int32), 372 - k < z_1 → (k ≤ 372 ∧ ∀ i, i < k → newl i = was i) → z_EV (d + 0) zmX6_copies R (2, [(0, .ref 3), (1, .ref 1), (2, .int (nI k))], [], (MH newl kept was isKept tape fed pos tlen flt ranking paper written pairs above below isDone dist rowv rowMany lsz itm weakAbove weakBelow)) := by
    intro z_1
    induction z_1 with
    | zero => intro k newl hm_1 _; exact absurd hm_1 (Nat.not_lt_zero _)
    | succ z_1 ih_1 =>
      intro k newl hm_1 hi_1
      obtain ⟨hk1, hk2⟩ := hi_1
      refine e_steps 2 (σ' := (6, [(0, .ref 3), (1, .ref 1), (2, .int (nI k))], [.int (nI 372), .int (nI k)], (MH newl kept was isKept tape fed pos tlen flt ranking paper written pairs above below isDone dist rowv rowMany lsz itm weakAbove weakBelow))) rfl ?_
      refine e_if (c := nI 372 ≤ nI k) rfl (fun c_2 => ?_) (fun c_2 => ?_)
      · skip
        rw [nI_leI (by omega) (by omega)] at c_2
        refine e_steps 0 (σ' := (21, [(0, .ref 3), (1, .ref 1), (2, .int (nI k))], [], (MH newl kept was isKept tape fed pos tlen flt ranking paper written pairs above below isDone dist rowv rowMany lsz itm weakAbove weakBelow))) rfl ?_
        exact e_ret rfl (trivial) (hR _ _ ⟨newl, rfl, rfl, (by exact fun k hk => hk2 k (by omega))⟩)
      · skip
        rw [nI_leI (by omega) (by omega)] at c_2
        refine e_steps 4 (σ' := (13, [(0, .ref 3), (1, .ref 1), (2, .int (nI k))], [.int (nI k), .ref 3, .int (nI k), .ref 1], (MH newl kept was isKept tape fed pos tlen flt ranking paper written pairs above below isDone dist rowv rowMany lsz itm weakAbove weakBelow))) rfl ?_
        refine e_ial (was k) rfl rfl (by first | assumption | omega | rfl | trivial) (by decide) (rfl) ?_
        refine e_steps 0 (σ' := (14, [(0, .ref 3), (1, .ref 1), (2, .int (nI k))], [.int ((was k)), .int (nI k), .ref 1], (MH newl kept was isKept tape fed pos tlen flt ranking paper written pairs above below isDone dist rowv rowMany lsz itm weakAbove weakBelow))) rfl ?_
        refine e_ias (MH (upd newl k ((was k))) kept was isKept tape fed pos tlen flt ranking paper written pairs above below isDone dist rowv rowMany lsz itm weakAbove weakBelow) rfl rfl (by first | assumption | omega | rfl | trivial) (by decide) rfl ?_
        refine e_steps 0 (σ' := (15, [(0, .ref 3), (1, .ref 1), (2, .int (nI k))], [], (MH (upd newl k ((was k))) kept was isKept tape fed pos tlen flt ranking paper written pairs above below isDone dist rowv rowMany lsz itm weakAbove weakBelow))) rfl ?_
        refine e_inc (n := 1) rfl rfl rfl (k + 1) (by rfl) [(2, .int (nI (k + 1))), (0, .ref 3), (1, .ref 1)] rfl ?_
        refine e_steps 1 (σ' := (2, [(2, .int (nI (k + 1))), (0, .ref 3), (1, .ref 1)], [], (MH (upd newl k ((was k))) kept was isKept tape fed pos tlen flt ranking paper written pairs above below isDone dist rowv rowMany lsz itm weakAbove weakBelow))) rfl ?_
        refine e_sub [1, 2, 0] rfl ?_
        exact ih_1 (k + 1) (upd newl k ((was k))) (by omega) (by exact ⟨by omega, fun i hi => by unfold upd; split <;> first | (rename_i q; rw [q]) | exact hk2 i (by omega)⟩)
  refine e_sub [1, 2, 0] rfl ?_
  exact loop_1 _ 0 g (Nat.lt_succ_self _) (by exact ⟨by omega, fun i hi => absurd hi (Nat.not_lt_zero i)⟩)
theorem c_X6_copies_gk (d : Nat) {g : Nat → Int32} {kept : Nat → Int32} {was : Nat → Int32} {isKept : Int32} {tape : Nat → Int32} {fed : Int32} {pos : Int32} {tlen : Int32} {flt : Int32} {ranking : Nat → Int32} {paper : Nat → Int32} {written : Int32} {pairs : Nat → Int64} {above : Nat → Int64} {below : Nat → Int64} {isDone : Nat → Int32} {dist : Nat → Int32} {rowv : Nat → Int32} {rowMany : Int32} {lsz : Nat → Int32} {itm : Nat → Int64} {weakAbove : Int64} {weakBelow : Int64}  : z_CAL (d + 1) 130 [.ref 1, .ref 2] (MH g kept was isKept tape fed pos tlen flt ranking paper written pairs above below isDone dist rowv rowMany lsz itm weakAbove weakBelow) (fun r h2 => ∃ (new2 : Nat → Int32), r = none ∧ h2 = (MH g new2 was isKept tape fed pos tlen flt ranking paper written pairs above below isDone dist rowv rowMany lsz itm weakAbove weakBelow) ∧ (∀ k, k < 372 → new2 k = g k)) := by
  refine e_of2 (q := zmX6_copies) rfl rfl (fun R hR => ?_)
  refine e_steps 2 (σ' := (2, [(2, .int (nI 0)), (0, .ref 1), (1, .ref 2)], [], (MH g kept was isKept tape fed pos tlen flt ranking paper written pairs above below isDone dist rowv rowMany lsz itm weakAbove weakBelow))) rfl ?_
  have loop_1 : ∀ (z_1 : Nat) (k : Nat) (newl : Nat → Int32), 372 - k < z_1 → (k ≤ 372 ∧ ∀ i, i < k → newl i = g i) → z_EV (d + 0) zmX6_copies R (2, [(0, .ref 1), (1, .ref 2), (2, .int (nI k))], [], (MH g newl was isKept tape fed pos tlen flt ranking paper written pairs above below isDone dist rowv rowMany lsz itm weakAbove weakBelow)) := by
    intro z_1
    induction z_1 with
    | zero => intro k newl hm_1 _; exact absurd hm_1 (Nat.not_lt_zero _)
    | succ z_1 ih_1 =>
      intro k newl hm_1 hi_1
      obtain ⟨hk1, hk2⟩ := hi_1
      refine e_steps 2 (σ' := (6, [(0, .ref 1), (1, .ref 2), (2, .int (nI k))], [.int (nI 372), .int (nI k)], (MH g newl was isKept tape fed pos tlen flt ranking paper written pairs above below isDone dist rowv rowMany lsz itm weakAbove weakBelow))) rfl ?_
      refine e_if (c := nI 372 ≤ nI k) rfl (fun c_2 => ?_) (fun c_2 => ?_)
      · skip
        rw [nI_leI (by omega) (by omega)] at c_2
        refine e_steps 0 (σ' := (21, [(0, .ref 1), (1, .ref 2), (2, .int (nI k))], [], (MH g newl was isKept tape fed pos tlen flt ranking paper written pairs above below isDone dist rowv rowMany lsz itm weakAbove weakBelow))) rfl ?_
        exact e_ret rfl (trivial) (hR _ _ ⟨newl, rfl, rfl, (by exact fun k hk => hk2 k (by omega))⟩)
      · skip
        rw [nI_leI (by omega) (by omega)] at c_2
        refine e_steps 4 (σ' := (13, [(0, .ref 1), (1, .ref 2), (2, .int (nI k))], [.int (nI k), .ref 1, .int (nI k), .ref 2], (MH g newl was isKept tape fed pos tlen flt ranking paper written pairs above below isDone dist rowv rowMany lsz itm weakAbove weakBelow))) rfl ?_
        refine e_ial (g k) rfl rfl (by first | assumption | omega | rfl | trivial) (by decide) (rfl) ?_
        refine e_steps 0 (σ' := (14, [(0, .ref 1), (1, .ref 2), (2, .int (nI k))], [.int ((g k)), .int (nI k), .ref 2], (MH g newl was isKept tape fed pos tlen flt ranking paper written pairs above below isDone dist rowv rowMany lsz itm weakAbove weakBelow))) rfl ?_
        refine e_ias (MH g (upd newl k ((g k))) was isKept tape fed pos tlen flt ranking paper written pairs above below isDone dist rowv rowMany lsz itm weakAbove weakBelow) rfl rfl (by first | assumption | omega | rfl | trivial) (by decide) rfl ?_
        refine e_steps 0 (σ' := (15, [(0, .ref 1), (1, .ref 2), (2, .int (nI k))], [], (MH g (upd newl k ((g k))) was isKept tape fed pos tlen flt ranking paper written pairs above below isDone dist rowv rowMany lsz itm weakAbove weakBelow))) rfl ?_
        refine e_inc (n := 1) rfl rfl rfl (k + 1) (by rfl) [(2, .int (nI (k + 1))), (0, .ref 1), (1, .ref 2)] rfl ?_
        refine e_steps 1 (σ' := (2, [(2, .int (nI (k + 1))), (0, .ref 1), (1, .ref 2)], [], (MH g (upd newl k ((g k))) was isKept tape fed pos tlen flt ranking paper written pairs above below isDone dist rowv rowMany lsz itm weakAbove weakBelow))) rfl ?_
        refine e_sub [1, 2, 0] rfl ?_
        exact ih_1 (k + 1) (upd newl k ((g k))) (by omega) (by exact ⟨by omega, fun i hi => by unfold upd; split <;> first | (rename_i q; rw [q]) | exact hk2 i (by omega)⟩)
  refine e_sub [1, 2, 0] rfl ?_
  exact loop_1 _ 0 kept (Nat.lt_succ_self _) (by exact ⟨by omega, fun i hi => absurd hi (Nat.not_lt_zero i)⟩)
theorem c_X6_copies_kg (d : Nat) {g : Nat → Int32} {kept : Nat → Int32} {was : Nat → Int32} {isKept : Int32} {tape : Nat → Int32} {fed : Int32} {pos : Int32} {tlen : Int32} {flt : Int32} {ranking : Nat → Int32} {paper : Nat → Int32} {written : Int32} {pairs : Nat → Int64} {above : Nat → Int64} {below : Nat → Int64} {isDone : Nat → Int32} {dist : Nat → Int32} {rowv : Nat → Int32} {rowMany : Int32} {lsz : Nat → Int32} {itm : Nat → Int64} {weakAbove : Int64} {weakBelow : Int64}  : z_CAL (d + 1) 130 [.ref 2, .ref 1] (MH g kept was isKept tape fed pos tlen flt ranking paper written pairs above below isDone dist rowv rowMany lsz itm weakAbove weakBelow) (fun r h2 => ∃ (new2 : Nat → Int32), r = none ∧ h2 = (MH new2 kept was isKept tape fed pos tlen flt ranking paper written pairs above below isDone dist rowv rowMany lsz itm weakAbove weakBelow) ∧ (∀ k, k < 372 → new2 k = kept k)) := by
  refine e_of2 (q := zmX6_copies) rfl rfl (fun R hR => ?_)
  refine e_steps 2 (σ' := (2, [(2, .int (nI 0)), (0, .ref 2), (1, .ref 1)], [], (MH g kept was isKept tape fed pos tlen flt ranking paper written pairs above below isDone dist rowv rowMany lsz itm weakAbove weakBelow))) rfl ?_
  have loop_1 : ∀ (z_1 : Nat) (k : Nat) (newl : Nat → Int32), 372 - k < z_1 → (k ≤ 372 ∧ ∀ i, i < k → newl i = kept i) → z_EV (d + 0) zmX6_copies R (2, [(0, .ref 2), (1, .ref 1), (2, .int (nI k))], [], (MH newl kept was isKept tape fed pos tlen flt ranking paper written pairs above below isDone dist rowv rowMany lsz itm weakAbove weakBelow)) := by
    intro z_1
    induction z_1 with
    | zero => intro k newl hm_1 _; exact absurd hm_1 (Nat.not_lt_zero _)
    | succ z_1 ih_1 =>
      intro k newl hm_1 hi_1
      obtain ⟨hk1, hk2⟩ := hi_1
      refine e_steps 2 (σ' := (6, [(0, .ref 2), (1, .ref 1), (2, .int (nI k))], [.int (nI 372), .int (nI k)], (MH newl kept was isKept tape fed pos tlen flt ranking paper written pairs above below isDone dist rowv rowMany lsz itm weakAbove weakBelow))) rfl ?_
      refine e_if (c := nI 372 ≤ nI k) rfl (fun c_2 => ?_) (fun c_2 => ?_)
      · skip
        rw [nI_leI (by omega) (by omega)] at c_2
        refine e_steps 0 (σ' := (21, [(0, .ref 2), (1, .ref 1), (2, .int (nI k))], [], (MH newl kept was isKept tape fed pos tlen flt ranking paper written pairs above below isDone dist rowv rowMany lsz itm weakAbove weakBelow))) rfl ?_
        exact e_ret rfl (trivial) (hR _ _ ⟨newl, rfl, rfl, (by exact fun k hk => hk2 k (by omega))⟩)
      · skip
        rw [nI_leI (by omega) (by omega)] at c_2
        refine e_steps 4 (σ' := (13, [(0, .ref 2), (1, .ref 1), (2, .int (nI k))], [.int (nI k), .ref 2, .int (nI k), .ref 1], (MH newl kept was isKept tape fed pos tlen flt ranking paper written pairs above below isDone dist rowv rowMany lsz itm weakAbove weakBelow))) rfl ?_
        refine e_ial (kept k) rfl rfl (by first | assumption | omega | rfl | trivial) (by decide) (rfl) ?_
        refine e_steps 0 (σ' := (14, [(0, .ref 2), (1, .ref 1), (2, .int (nI k))], [.int ((kept k)), .int (nI k), .ref 1], (MH newl kept was isKept tape fed pos tlen flt ranking paper written pairs above below isDone dist rowv rowMany lsz itm weakAbove weakBelow))) rfl ?_
        refine e_ias (MH (upd newl k ((kept k))) kept was isKept tape fed pos tlen flt ranking paper written pairs above below isDone dist rowv rowMany lsz itm weakAbove weakBelow) rfl rfl (by first | assumption | omega | rfl | trivial) (by decide) rfl ?_
        refine e_steps 0 (σ' := (15, [(0, .ref 2), (1, .ref 1), (2, .int (nI k))], [], (MH (upd newl k ((kept k))) kept was isKept tape fed pos tlen flt ranking paper written pairs above below isDone dist rowv rowMany lsz itm weakAbove weakBelow))) rfl ?_
        refine e_inc (n := 1) rfl rfl rfl (k + 1) (by rfl) [(2, .int (nI (k + 1))), (0, .ref 2), (1, .ref 1)] rfl ?_
        refine e_steps 1 (σ' := (2, [(2, .int (nI (k + 1))), (0, .ref 2), (1, .ref 1)], [], (MH (upd newl k ((kept k))) kept was isKept tape fed pos tlen flt ranking paper written pairs above below isDone dist rowv rowMany lsz itm weakAbove weakBelow))) rfl ?_
        refine e_sub [1, 2, 0] rfl ?_
        exact ih_1 (k + 1) (upd newl k ((kept k))) (by omega) (by exact ⟨by omega, fun i hi => by unfold upd; split <;> first | (rename_i q; rw [q]) | exact hk2 i (by omega)⟩)
  refine e_sub [1, 2, 0] rfl ?_
  exact loop_1 _ 0 g (Nat.lt_succ_self _) (by exact ⟨by omega, fun i hi => absurd hi (Nat.not_lt_zero i)⟩)
theorem c_X6_bits (d : Nat) {g : Nat → Int32} {kept : Nat → Int32} {was : Nat → Int32} {isKept : Int32} {tape : Nat → Int32} {fed : Int32} {pos : Int32} {tlen : Int32} {flt : Int32} {ranking : Nat → Int32} {paper : Nat → Int32} {written : Int32} {pairs : Nat → Int64} {above : Nat → Int64} {below : Nat → Int64} {isDone : Nat → Int32} {dist : Nat → Int32} {rowv : Nat → Int32} {rowMany : Int32} {lsz : Nat → Int32} {itm : Nat → Int64} {weakAbove : Int64} {weakBelow : Int64} {s : Nat} (hs : s < 256) : z_CAL (d + 1) 132 [.int (nI s)] (MH g kept was isKept tape fed pos tlen flt ranking paper written pairs above below isDone dist rowv rowMany lsz itm weakAbove weakBelow) (fun r h2 => r = some (.int (nI (z_pc s))) ∧ h2 = (MH g kept was isKept tape fed pos tlen flt ranking paper written pairs above below isDone dist rowv rowMany lsz itm weakAbove weakBelow)) := by
  refine e_of2 (q := zmX6_bits) rfl rfl (fun R hR => ?_)
  refine e_steps 4 (σ' := (4, [(2, .int (nI s)), (1, .int (nI 0)), (0, .int (nI s))], [], (MH g kept was isKept tape fed pos tlen flt ranking paper written pairs above below isDone dist rowv rowMany lsz itm weakAbove weakBelow))) rfl ?_
  have loop_1 : ∀ (z_1 : Nat) (cnt : Nat) (lf : Nat), lf < z_1 → (lf < 256 ∧ cnt + z_pc lf = z_pc s ∧ cnt ≤ 8) → z_EV (d + 0) zmX6_bits R (4, [(0, .int (nI s)), (1, .int (nI cnt)), (2, .int (nI lf))], [], (MH g kept was isKept tape fed pos tlen flt ranking paper written pairs above below isDone dist rowv rowMany lsz itm weakAbove weakBelow)) := by
    intro z_1
    induction z_1 with
    | zero => intro cnt lf hm_1 _; exact absurd hm_1 (Nat.not_lt_zero _)
    | succ z_1 ih_1 =>
      intro cnt lf hm_1 hi_1
      obtain ⟨h1, h2, h3⟩ := hi_1
      refine e_steps 1 (σ' := (5, [(0, .int (nI s)), (1, .int (nI cnt)), (2, .int (nI lf))], [.int (nI lf)], (MH g kept was isKept tape fed pos tlen flt ranking paper written pairs above below isDone dist rowv rowMany lsz itm weakAbove weakBelow))) rfl ?_
      refine e_if (c := nI lf = 0) rfl (fun c_2 => ?_) (fun c_2 => ?_)
      · skip
        rw [z0_eq (by omega)] at c_2
        refine e_steps 1 (σ' := (21, [(0, .int (nI s)), (1, .int (nI cnt)), (2, .int (nI lf))], [.int (nI cnt)], (MH g kept was isKept tape fed pos tlen flt ranking paper written pairs above below isDone dist rowv rowMany lsz itm weakAbove weakBelow))) rfl ?_
        exact e_ret rfl (trivial) (hR _ _ ⟨(by have e : z_pc lf = 0 := (by rw [c_2]; rfl); exact congrArg (fun v => some (Value.int (nI v))) (by omega)), rfl⟩)
      · skip
        rw [z0_eq (by omega)] at c_2
        refine e_steps 0 (σ' := (8, [(0, .int (nI s)), (1, .int (nI cnt)), (2, .int (nI lf))], [], (MH g kept was isKept tape fed pos tlen flt ranking paper written pairs above below isDone dist rowv rowMany lsz itm weakAbove weakBelow))) rfl ?_
        refine e_inc (n := 1) rfl rfl rfl (cnt + 1) (by rfl) [(1, .int (nI (cnt + 1))), (0, .int (nI s)), (2, .int (nI lf))] rfl ?_
        refine e_steps 3 (σ' := (14, [(1, .int (nI (cnt + 1))), (0, .int (nI s)), (2, .int (nI lf))], [.int (nI 1), .int (nI lf), .int (nI lf)], (MH g kept was isKept tape fed pos tlen flt ranking paper written pairs above below isDone dist rowv rowMany lsz itm weakAbove weakBelow))) rfl ?_
        refine e_sbt (lf - 1) rfl (by first | assumption | omega | rfl | trivial) (by first | rfl | omega) ?_
        refine e_steps 0 (σ' := (15, [(1, .int (nI (cnt + 1))), (0, .int (nI s)), (2, .int (nI lf))], [.int (nI (lf - 1)), .int (nI lf)], (MH g kept was isKept tape fed pos tlen flt ranking paper written pairs above below isDone dist rowv rowMany lsz itm weakAbove weakBelow))) rfl ?_
        refine e_and (lf &&& (lf - 1)) rfl (by first | rfl | decide) ?_
        refine e_steps 2 (σ' := (4, [(2, .int (nI (lf &&& (lf - 1)))), (1, .int (nI (cnt + 1))), (0, .int (nI s))], [], (MH g kept was isKept tape fed pos tlen flt ranking paper written pairs above below isDone dist rowv rowMany lsz itm weakAbove weakBelow))) rfl ?_
        refine e_sub [2, 1, 0] rfl ?_
        exact ih_1 (cnt + 1) (lf &&& (lf - 1)) (by have e := z_pc_low h1 c_2; omega) (by have e := z_pc_low h1 c_2; have e2 := z_pc_le (lf &&& (lf - 1)); exact ⟨by omega, by omega, by have := z_pc_le s; omega⟩)
  refine e_sub [2, 1, 0] rfl ?_
  exact loop_1 _ 0 s (Nat.lt_succ_self _) (by exact ⟨hs, by omega, by omega⟩)
theorem c_X6_everyone (d : Nat) {g : Nat → Int32} {kept : Nat → Int32} {was : Nat → Int32} {isKept : Int32} {tape : Nat → Int32} {fed : Int32} {pos : Int32} {tlen : Int32} {flt : Int32} {ranking : Nat → Int32} {paper : Nat → Int32} {written : Int32} {pairs : Nat → Int64} {above : Nat → Int64} {below : Nat → Int64} {isDone : Nat → Int32} {dist : Nat → Int32} {rowv : Nat → Int32} {rowMany : Int32} {lsz : Nat → Int32} {itm : Nat → Int64} {weakAbove : Int64} {weakBelow : Int64} {n : Nat} {outs : Nat} {bm : Nat} {ms : Nat} {dr : Nat → Nat} {cn : Nat → Nat} {pl : Nat → Nat → Nat} (hG : z_GI g n outs bm ms dr cn pl) : z_CAL (d + 1) 133 [.ref 0] (MH g kept was isKept tape fed pos tlen flt ranking paper written pairs above below isDone dist rowv rowMany lsz itm weakAbove weakBelow) (fun r h2 => r = some (.int (nI (2 ^ n - 1))) ∧ h2 = (MH g kept was isKept tape fed pos tlen flt ranking paper written pairs above below isDone dist rowv rowMany lsz itm weakAbove weakBelow)) := by
  refine e_of2 (q := zmX6_everyone) rfl rfl (fun R hR => ?_)
  obtain ⟨⟨hn0, hn2, hn8⟩, ⟨ho0, ho8, hin⟩, ⟨hb0, hb40⟩, ⟨hm0, hm4⟩, ⟨hdr, hdl, hdc⟩, hcn, hpl⟩ := id hG; have hp8 := z_p2 hn8; have ho256 : outs < 256 := (by omega); have hi256 : z_dif (2 ^ n - 1) outs < 256 := (by have := z_dif_le (s := 2 ^ n - 1) (t := outs); omega)
  refine e_steps 4 (σ' := (6, [(0, .ref 0)], [.int (nI 0), .ref 1, .int (nI 1)], (MH g kept was isKept tape fed pos tlen flt ranking paper written pairs above below isDone dist rowv rowMany lsz itm weakAbove weakBelow))) rfl ?_
  refine e_ial (nI n) rfl rfl (by first | assumption | omega | rfl | trivial) (by decide) (hn0) ?_
  refine e_steps 0 (σ' := (7, [(0, .ref 0)], [.int (nI n), .int (nI 1)], (MH g kept was isKept tape fed pos tlen flt ranking paper written pairs above below isDone dist rowv rowMany lsz itm weakAbove weakBelow))) rfl ?_
  refine e_shl rfl (by first | assumption | omega | rfl | trivial) ?_
  refine e_steps 1 (σ' := (9, [(0, .ref 0)], [.int (nI 1), .int (nI (2 ^ n))], (MH g kept was isKept tape fed pos tlen flt ranking paper written pairs above below isDone dist rowv rowMany lsz itm weakAbove weakBelow))) rfl ?_
  refine e_sbt ((2 ^ n) - 1) rfl (by first | assumption | omega | rfl | trivial) (by first | rfl | omega) ?_
  refine e_steps 0 (σ' := (10, [(0, .ref 0)], [.int (nI ((2 ^ n) - 1))], (MH g kept was isKept tape fed pos tlen flt ranking paper written pairs above below isDone dist rowv rowMany lsz itm weakAbove weakBelow))) rfl ?_
  exact e_ret rfl (trivial) (hR _ _ ⟨(by rfl), rfl⟩)
theorem c_X6_ins (d : Nat) {g : Nat → Int32} {kept : Nat → Int32} {was : Nat → Int32} {isKept : Int32} {tape : Nat → Int32} {fed : Int32} {pos : Int32} {tlen : Int32} {flt : Int32} {ranking : Nat → Int32} {paper : Nat → Int32} {written : Int32} {pairs : Nat → Int64} {above : Nat → Int64} {below : Nat → Int64} {isDone : Nat → Int32} {dist : Nat → Int32} {rowv : Nat → Int32} {rowMany : Int32} {lsz : Nat → Int32} {itm : Nat → Int64} {weakAbove : Int64} {weakBelow : Int64} {n : Nat} {outs : Nat} {bm : Nat} {ms : Nat} {dr : Nat → Nat} {cn : Nat → Nat} {pl : Nat → Nat → Nat} (hG : z_GI g n outs bm ms dr cn pl) : z_CAL (d + 2) 134 [.ref 0] (MH g kept was isKept tape fed pos tlen flt ranking paper written pairs above below isDone dist rowv rowMany lsz itm weakAbove weakBelow) (fun r h2 => r = some (.int (nI (z_dif (2 ^ n - 1) outs))) ∧ h2 = (MH g kept was isKept tape fed pos tlen flt ranking paper written pairs above below isDone dist rowv rowMany lsz itm weakAbove weakBelow)) := by
  refine e_of2 (q := zmX6_ins) rfl rfl (fun R hR => ?_)
  obtain ⟨⟨hn0, hn2, hn8⟩, ⟨ho0, ho8, hin⟩, ⟨hb0, hb40⟩, ⟨hm0, hm4⟩, ⟨hdr, hdl, hdc⟩, hcn, hpl⟩ := id hG; have hp8 := z_p2 hn8; have ho256 : outs < 256 := (by omega); have hi256 : z_dif (2 ^ n - 1) outs < 256 := (by have := z_dif_le (s := 2 ^ n - 1) (t := outs); omega)
  refine e_steps 1 (σ' := (1, [(0, .ref 0)], [.ref 0], (MH g kept was isKept tape fed pos tlen flt ranking paper written pairs above below isDone dist rowv rowMany lsz itm weakAbove weakBelow))) rfl ?_
  refine e_call (y := 133) (av := [.ref 0]) (rest := []) rfl (c_X6_everyone (d + 0) (n := n) (outs := outs) (bm := bm) (ms := ms) (dr := dr) (cn := cn) (pl := pl) (by first | assumption | omega | rfl | trivial)) (fun r_1 h_1 p_1 => ?_)
  obtain ⟨rfl, rfl⟩ := p_1
  refine e_steps 3 (σ' := (9, [(0, .ref 0)], [.int (nI 1), .ref 1, .int (nI (2 ^ n - 1))], (MH g kept was isKept tape fed pos tlen flt ranking paper written pairs above below isDone dist rowv rowMany lsz itm weakAbove weakBelow))) rfl ?_
  refine e_ial (nI outs) rfl rfl (by first | assumption | omega | rfl | trivial) (by decide) (ho0) ?_
  refine e_steps 2 (σ' := (12, [(0, .ref 0)], [.int (((nI outs) ^^^ ((-nI 1)))), .int (nI (2 ^ n - 1))], (MH g kept was isKept tape fed pos tlen flt ranking paper written pairs above below isDone dist rowv rowMany lsz itm weakAbove weakBelow))) rfl ?_
  refine e_dif rfl (by first | assumption | omega | rfl | trivial) (by first | assumption | omega | rfl | trivial) ?_
  refine e_steps 0 (σ' := (13, [(0, .ref 0)], [.int (nI (z_dif (2 ^ n - 1) outs))], (MH g kept was isKept tape fed pos tlen flt ranking paper written pairs above below isDone dist rowv rowMany lsz itm weakAbove weakBelow))) rfl ?_
  exact e_ret rfl (trivial) (hR _ _ ⟨(by rfl), rfl⟩)
theorem c_X6_isOne (d : Nat) {g : Nat → Int32} {kept : Nat → Int32} {was : Nat → Int32} {isKept : Int32} {tape : Nat → Int32} {fed : Int32} {pos : Int32} {tlen : Int32} {flt : Int32} {ranking : Nat → Int32} {paper : Nat → Int32} {written : Int32} {pairs : Nat → Int64} {above : Nat → Int64} {below : Nat → Int64} {isDone : Nat → Int32} {dist : Nat → Int32} {rowv : Nat → Int32} {rowMany : Int32} {lsz : Nat → Int32} {itm : Nat → Int64} {weakAbove : Int64} {weakBelow : Int64} {c : Int32} {n : Nat} {outs : Nat} {bm : Nat} {ms : Nat} {dr : Nat → Nat} {cn : Nat → Nat} {pl : Nat → Nat → Nat} (hG : z_GI g n outs bm ms dr cn pl) : z_CAL (d + 2) 135 [.ref 0, .int c] (MH g kept was isKept tape fed pos tlen flt ranking paper written pairs above below isDone dist rowv rowMany lsz itm weakAbove weakBelow) (fun r h2 => h2 = (MH g kept was isKept tape fed pos tlen flt ranking paper written pairs above below isDone dist rowv rowMany lsz itm weakAbove weakBelow) ∧ ((r = some (.int (nI 1)) ∧ (∃ k, k < n ∧ c = nI k)) ∨ (r = some (.int (nI 0)) ∧ (¬ ∃ k, k < n ∧ c = nI k)))) := by
  refine e_of2 (q := zmX6_isOne) rfl rfl (fun R hR => ?_)
  obtain ⟨⟨hn0, hn2, hn8⟩, ⟨ho0, ho8, hin⟩, ⟨hb0, hb40⟩, ⟨hm0, hm4⟩, ⟨hdr, hdl, hdc⟩, hcn, hpl⟩ := id hG; have hp8 := z_p2 hn8; have ho256 : outs < 256 := (by omega); have hi256 : z_dif (2 ^ n - 1) outs < 256 := (by have := z_dif_le (s := 2 ^ n - 1) (t := outs); omega)
  refine e_steps 6 (σ' := (8, [(0, .ref 0), (1, .int c)], [.int (nI 0), .ref 1, .long (lN 0), .long c.toInt64], (MH g kept was isKept tape fed pos tlen flt ranking paper written pairs above below isDone dist rowv rowMany lsz itm weakAbove weakBelow))) rfl ?_
  refine e_ial (nI n) rfl rfl (by first | assumption | omega | rfl | trivial) (by decide) (hn0) ?_
  refine e_steps 1 (σ' := (10, [(0, .ref 0), (1, .int c)], [.int (nI 1), .int (nI n), .long (lN 0), .long c.toInt64], (MH g kept was isKept tape fed pos tlen flt ranking paper written pairs above below isDone dist rowv rowMany lsz itm weakAbove weakBelow))) rfl ?_
  refine e_sbt (n - 1) rfl (by first | assumption | omega | rfl | trivial) (by first | rfl | omega) ?_
  refine e_steps 0 (σ' := (11, [(0, .ref 0), (1, .int c)], [.int (nI (n - 1)), .long (lN 0), .long c.toInt64], (MH g kept was isKept tape fed pos tlen flt ranking paper written pairs above below isDone dist rowv rowMany lsz itm weakAbove weakBelow))) rfl ?_
  refine e_i2l rfl (by omega) ?_
  refine e_steps 0 (σ' := (12, [(0, .ref 0), (1, .int c)], [.long (lN (n - 1)), .long (lN 0), .long c.toInt64], (MH g kept was isKept tape fed pos tlen flt ranking paper written pairs above below isDone dist rowv rowMany lsz itm weakAbove weakBelow))) rfl ?_
  refine e_call (y := 129) (av := [.long c.toInt64, .long (lN 0), .long (lN (n - 1))]) (rest := []) rfl (c_X6_isIn (d + 0) ) (fun r_1 h_1 p_1 => ?_)
  obtain ⟨rfl, o_1⟩ := p_1
  rcases o_1 with ⟨rfl, o_1⟩ | ⟨rfl, o_1⟩
  · skip
    refine e_steps 0 (σ' := (15, [(0, .ref 0), (1, .int c)], [.int (nI 1)], (MH g kept was isKept tape fed pos tlen flt ranking paper written pairs above below isDone dist rowv rowMany lsz itm weakAbove weakBelow))) rfl ?_
    exact e_ret rfl (Or.inr rfl) (hR _ _ ⟨rfl, Or.inl ⟨rfl, (by obtain ⟨k, hk, rfl⟩ := z_in_nat (by omega) o_1; exact ⟨k, by omega, rfl⟩)⟩⟩)
  · skip
    refine e_steps 0 (σ' := (15, [(0, .ref 0), (1, .int c)], [.int (nI 0)], (MH g kept was isKept tape fed pos tlen flt ranking paper written pairs above below isDone dist rowv rowMany lsz itm weakAbove weakBelow))) rfl ?_
    exact e_ret rfl (Or.inl rfl) (hR _ _ ⟨rfl, Or.inr ⟨rfl, (by rintro ⟨k, hk, rfl⟩; exact o_1 (z_nat_in (by omega) (by omega)))⟩⟩)
theorem c_X6_isOne_N (d : Nat) {g : Nat → Int32} {kept : Nat → Int32} {was : Nat → Int32} {isKept : Int32} {tape : Nat → Int32} {fed : Int32} {pos : Int32} {tlen : Int32} {flt : Int32} {ranking : Nat → Int32} {paper : Nat → Int32} {written : Int32} {pairs : Nat → Int64} {above : Nat → Int64} {below : Nat → Int64} {isDone : Nat → Int32} {dist : Nat → Int32} {rowv : Nat → Int32} {rowMany : Int32} {lsz : Nat → Int32} {itm : Nat → Int64} {weakAbove : Int64} {weakBelow : Int64} {c : Nat} {n : Nat} {outs : Nat} {bm : Nat} {ms : Nat} {dr : Nat → Nat} {cn : Nat → Nat} {pl : Nat → Nat → Nat} (hG : z_GI g n outs bm ms dr cn pl) (hc : c < 2 ^ 31) : z_CAL (d + 2) 135 [.ref 0, .int (nI c)] (MH g kept was isKept tape fed pos tlen flt ranking paper written pairs above below isDone dist rowv rowMany lsz itm weakAbove weakBelow) (fun r h2 => h2 = (MH g kept was isKept tape fed pos tlen flt ranking paper written pairs above below isDone dist rowv rowMany lsz itm weakAbove weakBelow) ∧ ((r = some (.int (nI 1)) ∧ (c < n)) ∨ (r = some (.int (nI 0)) ∧ (¬ c < n)))) := by
  refine e_of2 (q := zmX6_isOne) rfl rfl (fun R hR => ?_)
  obtain ⟨⟨hn0, hn2, hn8⟩, ⟨ho0, ho8, hin⟩, ⟨hb0, hb40⟩, ⟨hm0, hm4⟩, ⟨hdr, hdl, hdc⟩, hcn, hpl⟩ := id hG; have hp8 := z_p2 hn8; have ho256 : outs < 256 := (by omega); have hi256 : z_dif (2 ^ n - 1) outs < 256 := (by have := z_dif_le (s := 2 ^ n - 1) (t := outs); omega)
  refine e_steps 1 (σ' := (1, [(0, .ref 0), (1, .int (nI c))], [.int (nI c)], (MH g kept was isKept tape fed pos tlen flt ranking paper written pairs above below isDone dist rowv rowMany lsz itm weakAbove weakBelow))) rfl ?_
  refine e_i2l rfl (by omega) ?_
  refine e_steps 4 (σ' := (8, [(0, .ref 0), (1, .int (nI c))], [.int (nI 0), .ref 1, .long (lN 0), .long (lN c)], (MH g kept was isKept tape fed pos tlen flt ranking paper written pairs above below isDone dist rowv rowMany lsz itm weakAbove weakBelow))) rfl ?_
  refine e_ial (nI n) rfl rfl (by first | assumption | omega | rfl | trivial) (by decide) (hn0) ?_
  refine e_steps 1 (σ' := (10, [(0, .ref 0), (1, .int (nI c))], [.int (nI 1), .int (nI n), .long (lN 0), .long (lN c)], (MH g kept was isKept tape fed pos tlen flt ranking paper written pairs above below isDone dist rowv rowMany lsz itm weakAbove weakBelow))) rfl ?_
  refine e_sbt (n - 1) rfl (by first | assumption | omega | rfl | trivial) (by first | rfl | omega) ?_
  refine e_steps 0 (σ' := (11, [(0, .ref 0), (1, .int (nI c))], [.int (nI (n - 1)), .long (lN 0), .long (lN c)], (MH g kept was isKept tape fed pos tlen flt ranking paper written pairs above below isDone dist rowv rowMany lsz itm weakAbove weakBelow))) rfl ?_
  refine e_i2l rfl (by omega) ?_
  refine e_steps 0 (σ' := (12, [(0, .ref 0), (1, .int (nI c))], [.long (lN (n - 1)), .long (lN 0), .long (lN c)], (MH g kept was isKept tape fed pos tlen flt ranking paper written pairs above below isDone dist rowv rowMany lsz itm weakAbove weakBelow))) rfl ?_
  refine e_call (y := 129) (av := [.long (lN c), .long (lN 0), .long (lN (n - 1))]) (rest := []) rfl (c_X6_isIn_N (d + 0) (by first | assumption | omega | rfl | trivial) (by first | assumption | omega | rfl | trivial) (by first | assumption | omega | rfl | trivial)) (fun r_1 h_1 p_1 => ?_)
  obtain ⟨rfl, o_1⟩ := p_1
  rcases o_1 with ⟨rfl, o_1⟩ | ⟨rfl, o_1⟩
  · skip
    refine e_steps 0 (σ' := (15, [(0, .ref 0), (1, .int (nI c))], [.int (nI 1)], (MH g kept was isKept tape fed pos tlen flt ranking paper written pairs above below isDone dist rowv rowMany lsz itm weakAbove weakBelow))) rfl ?_
    exact e_ret rfl (Or.inr rfl) (hR _ _ ⟨rfl, Or.inl ⟨rfl, (by first | assumption | omega | rfl | trivial)⟩⟩)
  · skip
    refine e_steps 0 (σ' := (15, [(0, .ref 0), (1, .int (nI c))], [.int (nI 0)], (MH g kept was isKept tape fed pos tlen flt ranking paper written pairs above below isDone dist rowv rowMany lsz itm weakAbove weakBelow))) rfl ?_
    exact e_ret rfl (Or.inl rfl) (hR _ _ ⟨rfl, Or.inr ⟨rfl, (by first | assumption | omega | rfl | trivial)⟩⟩)
theorem c_X6_areTwo (d : Nat) {g : Nat → Int32} {kept : Nat → Int32} {was : Nat → Int32} {isKept : Int32} {tape : Nat → Int32} {fed : Int32} {pos : Int32} {tlen : Int32} {flt : Int32} {ranking : Nat → Int32} {paper : Nat → Int32} {written : Int32} {pairs : Nat → Int64} {above : Nat → Int64} {below : Nat → Int64} {isDone : Nat → Int32} {dist : Nat → Int32} {rowv : Nat → Int32} {rowMany : Int32} {lsz : Nat → Int32} {itm : Nat → Int64} {weakAbove : Int64} {weakBelow : Int64} {i : Int32} {j : Int32} {n : Nat} {outs : Nat} {bm : Nat} {ms : Nat} {dr : Nat → Nat} {cn : Nat → Nat} {pl : Nat → Nat → Nat} (hG : z_GI g n outs bm ms dr cn pl) : z_CAL (d + 3) 136 [.ref 0, .int i, .int j] (MH g kept was isKept tape fed pos tlen flt ranking paper written pairs above below isDone dist rowv rowMany lsz itm weakAbove weakBelow) (fun r h2 => h2 = (MH g kept was isKept tape fed pos tlen flt ranking paper written pairs above below isDone dist rowv rowMany lsz itm weakAbove weakBelow) ∧ ((r = some (.int (nI 1)) ∧ (∃ a b, a < n ∧ b < n ∧ a ≠ b ∧ i = nI a ∧ j = nI b)) ∨ (r = some (.int (nI 0)) ∧ (¬ ∃ a b, a < n ∧ b < n ∧ a ≠ b ∧ i = nI a ∧ j = nI b)))) := by
  refine e_of2 (q := zmX6_areTwo) rfl rfl (fun R hR => ?_)
  obtain ⟨⟨hn0, hn2, hn8⟩, ⟨ho0, ho8, hin⟩, ⟨hb0, hb40⟩, ⟨hm0, hm4⟩, ⟨hdr, hdl, hdc⟩, hcn, hpl⟩ := id hG; have hp8 := z_p2 hn8; have ho256 : outs < 256 := (by omega); have hi256 : z_dif (2 ^ n - 1) outs < 256 := (by have := z_dif_le (s := 2 ^ n - 1) (t := outs); omega)
  refine e_steps 2 (σ' := (2, [(0, .ref 0), (1, .int i), (2, .int j)], [.int i, .ref 0], (MH g kept was isKept tape fed pos tlen flt ranking paper written pairs above below isDone dist rowv rowMany lsz itm weakAbove weakBelow))) rfl ?_
  refine e_call (y := 135) (av := [.ref 0, .int i]) (rest := []) rfl (c_X6_isOne (d + 0) (n := n) (outs := outs) (bm := bm) (ms := ms) (dr := dr) (cn := cn) (pl := pl) (by first | assumption | omega | rfl | trivial)) (fun r_1 h_1 p_1 => ?_)
  obtain ⟨rfl, o_1⟩ := p_1
  rcases o_1 with ⟨rfl, o_1⟩ | ⟨rfl, o_1⟩
  · skip
    obtain ⟨k_2, hk_1, ek_2⟩ := o_1
    subst ek_2
    refine e_steps 3 (σ' := (10, [(0, .ref 0), (1, .int (nI k_2)), (2, .int j)], [.int j, .ref 0], (MH g kept was isKept tape fed pos tlen flt ranking paper written pairs above below isDone dist rowv rowMany lsz itm weakAbove weakBelow))) rfl ?_
    refine e_call (y := 135) (av := [.ref 0, .int j]) (rest := []) rfl (c_X6_isOne (d + 0) (n := n) (outs := outs) (bm := bm) (ms := ms) (dr := dr) (cn := cn) (pl := pl) (by first | assumption | omega | rfl | trivial)) (fun r_3 h_3 p_3 => ?_)
    obtain ⟨rfl, o_3⟩ := p_3
    rcases o_3 with ⟨rfl, o_3⟩ | ⟨rfl, o_3⟩
    · skip
      obtain ⟨k_4, hk_3, ek_4⟩ := o_3
      subst ek_4
      refine e_steps 3 (σ' := (18, [(0, .ref 0), (1, .int (nI k_2)), (2, .int (nI k_4))], [.int (nI k_4), .int (nI k_2)], (MH g kept was isKept tape fed pos tlen flt ranking paper written pairs above below isDone dist rowv rowMany lsz itm weakAbove weakBelow))) rfl ?_
      refine e_if (c := nI k_2 = nI k_4) rfl (fun c_5 => ?_) (fun c_5 => ?_)
      · skip
        rw [nI_eq (by omega) (by omega)] at c_5
        refine e_steps 1 (σ' := (26, [(0, .ref 0), (1, .int (nI k_2)), (2, .int (nI k_4))], [.int (nI 0)], (MH g kept was isKept tape fed pos tlen flt ranking paper written pairs above below isDone dist rowv rowMany lsz itm weakAbove weakBelow))) rfl ?_
        exact e_ret rfl (Or.inl rfl) (hR _ _ ⟨rfl, Or.inr ⟨rfl, (by rintro ⟨a, b, ha, hb, hab, ea, eb⟩; rw [nI_eq (by omega) (by omega)] at ea eb; omega)⟩⟩)
      · skip
        rw [nI_eq (by omega) (by omega)] at c_5
        refine e_steps 2 (σ' := (26, [(0, .ref 0), (1, .int (nI k_2)), (2, .int (nI k_4))], [.int (nI 1)], (MH g kept was isKept tape fed pos tlen flt ranking paper written pairs above below isDone dist rowv rowMany lsz itm weakAbove weakBelow))) rfl ?_
        exact e_ret rfl (Or.inr rfl) (hR _ _ ⟨rfl, Or.inl ⟨rfl, (by exact ⟨k_2, k_4, hk_1, hk_3, c_5, rfl, rfl⟩)⟩⟩)
    · skip
      refine e_steps 2 (σ' := (26, [(0, .ref 0), (1, .int (nI k_2)), (2, .int j)], [.int (nI 0)], (MH g kept was isKept tape fed pos tlen flt ranking paper written pairs above below isDone dist rowv rowMany lsz itm weakAbove weakBelow))) rfl ?_
      exact e_ret rfl (Or.inl rfl) (hR _ _ ⟨rfl, Or.inr ⟨rfl, (by rintro ⟨a, b, ha, hb, hab, ea, eb⟩; exact o_3 ⟨b, hb, eb⟩)⟩⟩)
  · skip
    refine e_steps 2 (σ' := (26, [(0, .ref 0), (1, .int i), (2, .int j)], [.int (nI 0)], (MH g kept was isKept tape fed pos tlen flt ranking paper written pairs above below isDone dist rowv rowMany lsz itm weakAbove weakBelow))) rfl ?_
    exact e_ret rfl (Or.inl rfl) (hR _ _ ⟨rfl, Or.inr ⟨rfl, (by rintro ⟨a, b, ha, hb, hab, ea, eb⟩; exact o_1 ⟨a, ha, ea⟩)⟩⟩)
theorem c_X6_areIn (d : Nat) {g : Nat → Int32} {kept : Nat → Int32} {was : Nat → Int32} {isKept : Int32} {tape : Nat → Int32} {fed : Int32} {pos : Int32} {tlen : Int32} {flt : Int32} {ranking : Nat → Int32} {paper : Nat → Int32} {written : Int32} {pairs : Nat → Int64} {above : Nat → Int64} {below : Nat → Int64} {isDone : Nat → Int32} {dist : Nat → Int32} {rowv : Nat → Int32} {rowMany : Int32} {lsz : Nat → Int32} {itm : Nat → Int64} {weakAbove : Int64} {weakBelow : Int64} {i : Nat} {j : Nat} {n : Nat} {outs : Nat} {bm : Nat} {ms : Nat} {dr : Nat → Nat} {cn : Nat → Nat} {pl : Nat → Nat → Nat} (hG : z_GI g n outs bm ms dr cn pl) (hi : i < n) (hj : j < n) : z_CAL (d + 3) 137 [.ref 0, .int (nI i), .int (nI j)] (MH g kept was isKept tape fed pos tlen flt ranking paper written pairs above below isDone dist rowv rowMany lsz itm weakAbove weakBelow) (fun r h2 => h2 = (MH g kept was isKept tape fed pos tlen flt ranking paper written pairs above below isDone dist rowv rowMany lsz itm weakAbove weakBelow) ∧ ((r = some (.int (nI 1)) ∧ ((z_dif (2 ^ n - 1) outs).testBit i = true ∧ (z_dif (2 ^ n - 1) outs).testBit j = true)) ∨ (r = some (.int (nI 0)) ∧ (¬ ((z_dif (2 ^ n - 1) outs).testBit i = true ∧ (z_dif (2 ^ n - 1) outs).testBit j = true))))) := by
  refine e_of2 (q := zmX6_areIn) rfl rfl (fun R hR => ?_)
  obtain ⟨⟨hn0, hn2, hn8⟩, ⟨ho0, ho8, hin⟩, ⟨hb0, hb40⟩, ⟨hm0, hm4⟩, ⟨hdr, hdl, hdc⟩, hcn, hpl⟩ := id hG; have hp8 := z_p2 hn8; have ho256 : outs < 256 := (by omega); have hi256 : z_dif (2 ^ n - 1) outs < 256 := (by have := z_dif_le (s := 2 ^ n - 1) (t := outs); omega)
  refine e_steps 1 (σ' := (1, [(0, .ref 0), (1, .int (nI i)), (2, .int (nI j))], [.ref 0], (MH g kept was isKept tape fed pos tlen flt ranking paper written pairs above below isDone dist rowv rowMany lsz itm weakAbove weakBelow))) rfl ?_
  refine e_call (y := 134) (av := [.ref 0]) (rest := []) rfl (c_X6_ins (d + 0) (n := n) (outs := outs) (bm := bm) (ms := ms) (dr := dr) (cn := cn) (pl := pl) (by first | assumption | omega | rfl | trivial | exact ⟨by assumption, by assumption⟩ | simp_all)) (fun r_1 h_1 p_1 => ?_)
  obtain ⟨rfl, rfl⟩ := p_1
  refine e_steps 1 (σ' := (5, [(0, .ref 0), (1, .int (nI i)), (2, .int (nI j))], [.int (nI i), .int (nI (z_dif (2 ^ n - 1) outs))], (MH g kept was isKept tape fed pos tlen flt ranking paper written pairs above below isDone dist rowv rowMany lsz itm weakAbove weakBelow))) rfl ?_
  refine e_call (y := 131) (av := [.int (nI (z_dif (2 ^ n - 1) outs)), .int (nI i)]) (rest := []) rfl (c_X6_has (d + 1) (by first | assumption | omega | rfl | trivial | exact ⟨by assumption, by assumption⟩ | simp_all) (by first | assumption | omega | rfl | trivial | exact ⟨by assumption, by assumption⟩ | simp_all)) (fun r_2 h_2 p_2 => ?_)
  obtain ⟨rfl, o_2⟩ := p_2
  rcases o_2 with ⟨rfl, o_2⟩ | ⟨rfl, o_2⟩
  · skip
    refine e_steps 2 (σ' := (12, [(0, .ref 0), (1, .int (nI i)), (2, .int (nI j))], [.ref 0], (MH g kept was isKept tape fed pos tlen flt ranking paper written pairs above below isDone dist rowv rowMany lsz itm weakAbove weakBelow))) rfl ?_
    refine e_call (y := 134) (av := [.ref 0]) (rest := []) rfl (c_X6_ins (d + 0) (n := n) (outs := outs) (bm := bm) (ms := ms) (dr := dr) (cn := cn) (pl := pl) (by first | assumption | omega | rfl | trivial | exact ⟨by assumption, by assumption⟩ | simp_all)) (fun r_3 h_3 p_3 => ?_)
    obtain ⟨rfl, rfl⟩ := p_3
    refine e_steps 1 (σ' := (16, [(0, .ref 0), (1, .int (nI i)), (2, .int (nI j))], [.int (nI j), .int (nI (z_dif (2 ^ n - 1) outs))], (MH g kept was isKept tape fed pos tlen flt ranking paper written pairs above below isDone dist rowv rowMany lsz itm weakAbove weakBelow))) rfl ?_
    refine e_call (y := 131) (av := [.int (nI (z_dif (2 ^ n - 1) outs)), .int (nI j)]) (rest := []) rfl (c_X6_has (d + 1) (by first | assumption | omega | rfl | trivial | exact ⟨by assumption, by assumption⟩ | simp_all) (by first | assumption | omega | rfl | trivial | exact ⟨by assumption, by assumption⟩ | simp_all)) (fun r_4 h_4 p_4 => ?_)
    obtain ⟨rfl, o_4⟩ := p_4
    rcases o_4 with ⟨rfl, o_4⟩ | ⟨rfl, o_4⟩
    · skip
      refine e_steps 3 (σ' := (27, [(0, .ref 0), (1, .int (nI i)), (2, .int (nI j))], [.int (nI 1)], (MH g kept was isKept tape fed pos tlen flt ranking paper written pairs above below isDone dist rowv rowMany lsz itm weakAbove weakBelow))) rfl ?_
      exact e_ret rfl (Or.inr rfl) (hR _ _ ⟨rfl, Or.inl ⟨rfl, (by first | assumption | omega | rfl | trivial | exact ⟨by assumption, by assumption⟩ | simp_all)⟩⟩)
    · skip
      refine e_steps 2 (σ' := (27, [(0, .ref 0), (1, .int (nI i)), (2, .int (nI j))], [.int (nI 0)], (MH g kept was isKept tape fed pos tlen flt ranking paper written pairs above below isDone dist rowv rowMany lsz itm weakAbove weakBelow))) rfl ?_
      exact e_ret rfl (Or.inl rfl) (hR _ _ ⟨rfl, Or.inr ⟨rfl, (by first | assumption | omega | rfl | trivial | exact ⟨by assumption, by assumption⟩ | simp_all)⟩⟩)
  · skip
    refine e_steps 2 (σ' := (27, [(0, .ref 0), (1, .int (nI i)), (2, .int (nI j))], [.int (nI 0)], (MH g kept was isKept tape fed pos tlen flt ranking paper written pairs above below isDone dist rowv rowMany lsz itm weakAbove weakBelow))) rfl ?_
    exact e_ret rfl (Or.inl rfl) (hR _ _ ⟨rfl, Or.inr ⟨rfl, (by first | assumption | omega | rfl | trivial | exact ⟨by assumption, by assumption⟩ | simp_all)⟩⟩)
theorem c_X6_isBallot (d : Nat) {g : Nat → Int32} {kept : Nat → Int32} {was : Nat → Int32} {isKept : Int32} {tape : Nat → Int32} {fed : Int32} {pos : Int32} {tlen : Int32} {flt : Int32} {ranking : Nat → Int32} {paper : Nat → Int32} {written : Int32} {pairs : Nat → Int64} {above : Nat → Int64} {below : Nat → Int64} {isDone : Nat → Int32} {dist : Nat → Int32} {rowv : Nat → Int32} {rowMany : Int32} {lsz : Nat → Int32} {itm : Nat → Int64} {weakAbove : Int64} {weakBelow : Int64} {b : Int32} {n : Nat} {outs : Nat} {bm : Nat} {ms : Nat} {dr : Nat → Nat} {cn : Nat → Nat} {pl : Nat → Nat → Nat} (hG : z_GI g n outs bm ms dr cn pl) : z_CAL (d + 2) 138 [.ref 0, .int b] (MH g kept was isKept tape fed pos tlen flt ranking paper written pairs above below isDone dist rowv rowMany lsz itm weakAbove weakBelow) (fun r h2 => h2 = (MH g kept was isKept tape fed pos tlen flt ranking paper written pairs above below isDone dist rowv rowMany lsz itm weakAbove weakBelow) ∧ ((r = some (.int (nI 1)) ∧ (∃ k, k < bm ∧ b = nI k)) ∨ (r = some (.int (nI 0)) ∧ (¬ ∃ k, k < bm ∧ b = nI k)))) := by
  refine e_of2 (q := zmX6_isBallot) rfl rfl (fun R hR => ?_)
  obtain ⟨⟨hn0, hn2, hn8⟩, ⟨ho0, ho8, hin⟩, ⟨hb0, hb40⟩, ⟨hm0, hm4⟩, ⟨hdr, hdl, hdc⟩, hcn, hpl⟩ := id hG; have hp8 := z_p2 hn8; have ho256 : outs < 256 := (by omega); have hi256 : z_dif (2 ^ n - 1) outs < 256 := (by have := z_dif_le (s := 2 ^ n - 1) (t := outs); omega)
  refine e_steps 6 (σ' := (8, [(0, .ref 0), (1, .int b)], [.int (nI 2), .ref 1, .long (lN 0), .long b.toInt64], (MH g kept was isKept tape fed pos tlen flt ranking paper written pairs above below isDone dist rowv rowMany lsz itm weakAbove weakBelow))) rfl ?_
  refine e_ial (nI bm) rfl rfl (by first | assumption | omega | rfl | trivial) (by decide) (hb0) ?_
  refine e_steps 3 (σ' := (12, [(0, .ref 0), (1, .int b)], [.long ((((nI bm) - (nI 1))).toInt64), .long (lN 0), .long b.toInt64], (MH g kept was isKept tape fed pos tlen flt ranking paper written pairs above below isDone dist rowv rowMany lsz itm weakAbove weakBelow))) rfl ?_
  refine e_call (y := 129) (av := [.long b.toInt64, .long (lN 0), .long ((((nI bm) - (nI 1))).toInt64)]) (rest := []) rfl (c_X6_isIn (d + 0) ) (fun r_1 h_1 p_1 => ?_)
  obtain ⟨rfl, o_1⟩ := p_1
  rcases o_1 with ⟨rfl, o_1⟩ | ⟨rfl, o_1⟩
  · skip
    refine e_steps 0 (σ' := (15, [(0, .ref 0), (1, .int b)], [.int (nI 1)], (MH g kept was isKept tape fed pos tlen flt ranking paper written pairs above below isDone dist rowv rowMany lsz itm weakAbove weakBelow))) rfl ?_
    exact e_ret rfl (Or.inr rfl) (hR _ _ ⟨rfl, Or.inl ⟨rfl, (by exact (z_in_nat1 (by omega)).mp o_1)⟩⟩)
  · skip
    refine e_steps 0 (σ' := (15, [(0, .ref 0), (1, .int b)], [.int (nI 0)], (MH g kept was isKept tape fed pos tlen flt ranking paper written pairs above below isDone dist rowv rowMany lsz itm weakAbove weakBelow))) rfl ?_
    exact e_ret rfl (Or.inl rfl) (hR _ _ ⟨rfl, Or.inr ⟨rfl, (by exact fun h => o_1 ((z_in_nat1 (by omega)).mpr h))⟩⟩)
theorem c_X6_placeOf (d : Nat) {g : Nat → Int32} {kept : Nat → Int32} {was : Nat → Int32} {isKept : Int32} {tape : Nat → Int32} {fed : Int32} {pos : Int32} {tlen : Int32} {flt : Int32} {ranking : Nat → Int32} {paper : Nat → Int32} {written : Int32} {pairs : Nat → Int64} {above : Nat → Int64} {below : Nat → Int64} {isDone : Nat → Int32} {dist : Nat → Int32} {rowv : Nat → Int32} {rowMany : Int32} {lsz : Nat → Int32} {itm : Nat → Int64} {weakAbove : Int64} {weakBelow : Int64} {b : Nat} {c : Nat} {n : Nat} {outs : Nat} {bm : Nat} {ms : Nat} {dr : Nat → Nat} {cn : Nat → Nat} {pl : Nat → Nat → Nat} (hG : z_GI g n outs bm ms dr cn pl) (hb : b < bm) (hc : c < n) : z_CAL (d + 1) 139 [.ref 0, .int (nI b), .int (nI c)] (MH g kept was isKept tape fed pos tlen flt ranking paper written pairs above below isDone dist rowv rowMany lsz itm weakAbove weakBelow) (fun r h2 => r = some (.int (nI (pl b c))) ∧ h2 = (MH g kept was isKept tape fed pos tlen flt ranking paper written pairs above below isDone dist rowv rowMany lsz itm weakAbove weakBelow)) := by
  refine e_of2 (q := zmX6_placeOf) rfl rfl (fun R hR => ?_)
  obtain ⟨⟨hn0, hn2, hn8⟩, ⟨ho0, ho8, hin⟩, ⟨hb0, hb40⟩, ⟨hm0, hm4⟩, ⟨hdr, hdl, hdc⟩, hcn, hpl⟩ := id hG; have hp8 := z_p2 hn8; have ho256 : outs < 256 := (by omega); have hi256 : z_dif (2 ^ n - 1) outs < 256 := (by have := z_dif_le (s := 2 ^ n - 1) (t := outs); omega)
  refine e_steps 5 (σ' := (9, [(0, .ref 0), (1, .int (nI b)), (2, .int (nI c))], [.int (nI b), .int (nI 8), .int (nI 52), .ref 1], (MH g kept was isKept tape fed pos tlen flt ranking paper written pairs above below isDone dist rowv rowMany lsz itm weakAbove weakBelow))) rfl ?_
  refine e_mul (8 * b) rfl (by first | rfl | omega | simp) ?_
  refine e_steps 0 (σ' := (10, [(0, .ref 0), (1, .int (nI b)), (2, .int (nI c))], [.int (nI (8 * b)), .int (nI 52), .ref 1], (MH g kept was isKept tape fed pos tlen flt ranking paper written pairs above below isDone dist rowv rowMany lsz itm weakAbove weakBelow))) rfl ?_
  refine e_add (52 + 8 * b) rfl (by first | rfl | omega) ?_
  refine e_steps 1 (σ' := (12, [(0, .ref 0), (1, .int (nI b)), (2, .int (nI c))], [.int (nI c), .int (nI (52 + 8 * b)), .ref 1], (MH g kept was isKept tape fed pos tlen flt ranking paper written pairs above below isDone dist rowv rowMany lsz itm weakAbove weakBelow))) rfl ?_
  refine e_add (52 + 8 * b + c) rfl (by first | rfl | omega) ?_
  refine e_steps 0 (σ' := (13, [(0, .ref 0), (1, .int (nI b)), (2, .int (nI c))], [.int (nI (52 + 8 * b + c)), .ref 1], (MH g kept was isKept tape fed pos tlen flt ranking paper written pairs above below isDone dist rowv rowMany lsz itm weakAbove weakBelow))) rfl ?_
  refine e_ial (nI (pl b c)) rfl rfl (by first | assumption | omega | rfl | trivial) (by decide) ((hpl _ (by omega)).1 _ (by omega)) ?_
  have hv_1 := (hpl b (by omega)).2.1 c (by omega)
  refine e_steps 0 (σ' := (14, [(0, .ref 0), (1, .int (nI b)), (2, .int (nI c))], [.int (nI (pl b c))], (MH g kept was isKept tape fed pos tlen flt ranking paper written pairs above below isDone dist rowv rowMany lsz itm weakAbove weakBelow))) rfl ?_
  exact e_ret rfl (trivial) (hR _ _ ⟨(by rfl), rfl⟩)
theorem c_X6_begins (d : Nat) {g : Nat → Int32} {kept : Nat → Int32} {was : Nat → Int32} {isKept : Int32} {tape : Nat → Int32} {fed : Int32} {pos : Int32} {tlen : Int32} {flt : Int32} {ranking : Nat → Int32} {paper : Nat → Int32} {written : Int32} {pairs : Nat → Int64} {above : Nat → Int64} {below : Nat → Int64} {isDone : Nat → Int32} {dist : Nat → Int32} {rowv : Nat → Int32} {rowMany : Int32} {lsz : Nat → Int32} {itm : Nat → Int64} {weakAbove : Int64} {weakBelow : Int64} {m : Nat} {ms : Nat} (h2 : 2 ≤ m) (h8 : m ≤ 8) (hm0 : g 3 = nI ms) (hm4 : ms < 4) : z_CAL (d + 1) 140 [.ref 0, .int (nI m)] (MH g kept was isKept tape fed pos tlen flt ranking paper written pairs above below isDone dist rowv rowMany lsz itm weakAbove weakBelow) (fun r h2 => ∃ (g2 : Nat → Int32), r = none ∧ h2 = (MH g2 kept was isKept tape fed pos tlen flt ranking paper written pairs above below isDone dist rowv rowMany lsz itm weakAbove weakBelow) ∧ (∀ cn pl, z_GI g2 m 0 0 ms (fun k => k) cn pl)) := by
  refine e_of2 (q := zmX6_begins) rfl rfl (fun R hR => ?_)
  refine e_steps 4 (σ' := (6, [(0, .ref 0), (1, .int (nI m))], [.int (nI m), .int (nI 0), .ref 1], (MH g kept was isKept tape fed pos tlen flt ranking paper written pairs above below isDone dist rowv rowMany lsz itm weakAbove weakBelow))) rfl ?_
  refine e_ias (MH (upd g 0 (nI m)) kept was isKept tape fed pos tlen flt ranking paper written pairs above below isDone dist rowv rowMany lsz itm weakAbove weakBelow) rfl rfl (by first | assumption | omega | rfl | trivial) (by decide) rfl ?_
  refine e_steps 4 (σ' := (13, [(0, .ref 0), (1, .int (nI m))], [.int (nI 0), .int (nI 1), .ref 1], (MH (upd g 0 (nI m)) kept was isKept tape fed pos tlen flt ranking paper written pairs above below isDone dist rowv rowMany lsz itm weakAbove weakBelow))) rfl ?_
  refine e_ias (MH (upd (upd g 0 (nI m)) 1 (nI 0)) kept was isKept tape fed pos tlen flt ranking paper written pairs above below isDone dist rowv rowMany lsz itm weakAbove weakBelow) rfl rfl (by first | assumption | omega | rfl | trivial) (by decide) rfl ?_
  refine e_steps 4 (σ' := (20, [(0, .ref 0), (1, .int (nI m))], [.int (nI 0), .int (nI 2), .ref 1], (MH (upd (upd g 0 (nI m)) 1 (nI 0)) kept was isKept tape fed pos tlen flt ranking paper written pairs above below isDone dist rowv rowMany lsz itm weakAbove weakBelow))) rfl ?_
  refine e_ias (MH (upd (upd (upd g 0 (nI m)) 1 (nI 0)) 2 (nI 0)) kept was isKept tape fed pos tlen flt ranking paper written pairs above below isDone dist rowv rowMany lsz itm weakAbove weakBelow) rfl rfl (by first | assumption | omega | rfl | trivial) (by decide) rfl ?_
  refine e_steps 2 (σ' := (23, [(2, .int (nI 0)), (0, .ref 0), (1, .int (nI m))], [], (MH (upd (upd (upd g 0 (nI m)) 1 (nI 0)) 2 (nI 0)) kept was isKept tape fed pos tlen flt ranking paper written pairs above below isDone dist rowv rowMany lsz itm weakAbove weakBelow))) rfl ?_
  have loop_1 : ∀ (z_1 : Nat) (k : Nat) (gl : Nat → Int32), 8 - k < z_1 → (k ≤ 8 ∧ (∀ i, i < k → gl (4 + i) = nI i) ∧ gl 0 = nI m ∧ gl 1 = nI 0 ∧ gl 2 = nI 0 ∧ gl 3 = nI ms) → z_EV (d + 0) zmX6_begins R (23, [(0, .ref 0), (1, .int (nI m)), (2, .int (nI k))], [], (MH gl kept was isKept tape fed pos tlen flt ranking paper written pairs above below isDone dist rowv rowMany lsz itm weakAbove weakBelow)) := by
    intro z_1
    induction z_1 with
    | zero => intro k gl hm_1 _; exact absurd hm_1 (Nat.not_lt_zero _)
    | succ z_1 ih_1 =>
      intro k gl hm_1 hi_1
      obtain ⟨l1, l2, l3, l4, l5, l6⟩ := hi_1
      refine e_steps 2 (σ' := (26, [(0, .ref 0), (1, .int (nI m)), (2, .int (nI k))], [.int (nI 8), .int (nI k)], (MH gl kept was isKept tape fed pos tlen flt ranking paper written pairs above below isDone dist rowv rowMany lsz itm weakAbove weakBelow))) rfl ?_
      refine e_if (c := nI 8 ≤ nI k) rfl (fun c_2 => ?_) (fun c_2 => ?_)
      · skip
        rw [nI_leI (by omega) (by omega)] at c_2
        refine e_steps 0 (σ' := (44, [(0, .ref 0), (1, .int (nI m)), (2, .int (nI k))], [], (MH gl kept was isKept tape fed pos tlen flt ranking paper written pairs above below isDone dist rowv rowMany lsz itm weakAbove weakBelow))) rfl ?_
        exact e_ret rfl (trivial) (hR _ _ ⟨gl, rfl, rfl, (by exact fun cn pl => z_GI_new h2 h8 l3 l4 l5 l6 hm4 (fun i hi => l2 i (by omega)))⟩)
      · skip
        rw [nI_leI (by omega) (by omega)] at c_2
        refine e_steps 4 (σ' := (35, [(0, .ref 0), (1, .int (nI m)), (2, .int (nI k))], [.int (nI k), .int (nI 4), .ref 1], (MH gl kept was isKept tape fed pos tlen flt ranking paper written pairs above below isDone dist rowv rowMany lsz itm weakAbove weakBelow))) rfl ?_
        refine e_add (4 + k) rfl (by first | rfl | omega) ?_
        refine e_steps 1 (σ' := (37, [(0, .ref 0), (1, .int (nI m)), (2, .int (nI k))], [.int (nI k), .int (nI (4 + k)), .ref 1], (MH gl kept was isKept tape fed pos tlen flt ranking paper written pairs above below isDone dist rowv rowMany lsz itm weakAbove weakBelow))) rfl ?_
        refine e_ias (MH (upd gl (4 + k) (nI k)) kept was isKept tape fed pos tlen flt ranking paper written pairs above below isDone dist rowv rowMany lsz itm weakAbove weakBelow) rfl rfl (by first | assumption | omega | rfl | trivial) (by decide) rfl ?_
        refine e_steps 0 (σ' := (38, [(0, .ref 0), (1, .int (nI m)), (2, .int (nI k))], [], (MH (upd gl (4 + k) (nI k)) kept was isKept tape fed pos tlen flt ranking paper written pairs above below isDone dist rowv rowMany lsz itm weakAbove weakBelow))) rfl ?_
        refine e_inc (n := 1) rfl rfl rfl (k + 1) (by rfl) [(2, .int (nI (k + 1))), (0, .ref 0), (1, .int (nI m))] rfl ?_
        refine e_steps 1 (σ' := (23, [(2, .int (nI (k + 1))), (0, .ref 0), (1, .int (nI m))], [], (MH (upd gl (4 + k) (nI k)) kept was isKept tape fed pos tlen flt ranking paper written pairs above below isDone dist rowv rowMany lsz itm weakAbove weakBelow))) rfl ?_
        refine e_sub [1, 2, 0] rfl ?_
        exact ih_1 (k + 1) (upd gl (4 + k) (nI k)) (by omega) (by exact ⟨by omega, z_up1 l2 rfl, by rw [z_un (by omega)]; exact l3, by rw [z_un (by omega)]; exact l4, by rw [z_un (by omega)]; exact l5, by rw [z_un (by omega)]; exact l6⟩)
  refine e_sub [1, 2, 0] rfl ?_
  exact loop_1 _ 0 (upd (upd (upd g 0 (nI m)) 1 (nI 0)) 2 (nI 0)) (Nat.lt_succ_self _) (by exact ⟨by omega, fun i hi => absurd hi (Nat.not_lt_zero i), rfl, rfl, rfl, hm0⟩)
theorem c_X6_begin (d : Nat) {g : Nat → Int32} {kept : Nat → Int32} {was : Nat → Int32} {isKept : Int32} {tape : Nat → Int32} {fed : Int32} {pos : Int32} {tlen : Int32} {flt : Int32} {ranking : Nat → Int32} {paper : Nat → Int32} {written : Int32} {pairs : Nat → Int64} {above : Nat → Int64} {below : Nat → Int64} {isDone : Nat → Int32} {dist : Nat → Int32} {rowv : Nat → Int32} {rowMany : Int32} {lsz : Nat → Int32} {itm : Nat → Int64} {weakAbove : Int64} {weakBelow : Int64} {nn : Int32} {n : Nat} {outs : Nat} {bm : Nat} {ms : Nat} {dr : Nat → Nat} {cn : Nat → Nat} {pl : Nat → Nat → Nat} (hG : z_GI g n outs bm ms dr cn pl) : z_CAL (d + 2) 141 [.ref 0, .int nn] (MH g kept was isKept tape fed pos tlen flt ranking paper written pairs above below isDone dist rowv rowMany lsz itm weakAbove weakBelow) (fun r h2 => ∃ (g2 : Nat → Int32) (v : Int32), r = some (.int v) ∧ h2 = (MH g2 kept was isKept tape fed pos tlen flt ranking paper written pairs above below isDone dist rowv rowMany lsz itm weakAbove weakBelow) ∧ ((¬ (∃ k, 2 ≤ k ∧ k ≤ 8 ∧ nn = nI k) ∧ v = -nI 2 ∧ g2 = g) ∨ (∃ k, 2 ≤ k ∧ k ≤ 8 ∧ nn = nI k ∧ v = nI n ∧ ∀ cn pl, z_GI g2 k 0 0 ms (fun k => k) cn pl))) := by
  refine e_of2 (q := zmX6_begin) rfl rfl (fun R hR => ?_)
  obtain ⟨⟨hn0, hn2, hn8⟩, ⟨ho0, ho8, hin⟩, ⟨hb0, hb40⟩, ⟨hm0, hm4⟩, ⟨hdr, hdl, hdc⟩, hcn, hpl⟩ := id hG; have hp8 := z_p2 hn8; have ho256 : outs < 256 := (by omega); have hi256 : z_dif (2 ^ n - 1) outs < 256 := (by have := z_dif_le (s := 2 ^ n - 1) (t := outs); omega)
  refine e_steps 4 (σ' := (8, [(0, .ref 0), (1, .int nn)], [.long (lN 8), .long (lN 2), .long nn.toInt64], (MH g kept was isKept tape fed pos tlen flt ranking paper written pairs above below isDone dist rowv rowMany lsz itm weakAbove weakBelow))) rfl ?_
  refine e_call (y := 129) (av := [.long nn.toInt64, .long (lN 2), .long (lN 8)]) (rest := []) rfl (c_X6_isIn (d + 0) ) (fun r_1 h_1 p_1 => ?_)
  obtain ⟨rfl, o_1⟩ := p_1
  rcases o_1 with ⟨rfl, o_1⟩ | ⟨rfl, o_1⟩
  · skip
    obtain ⟨kk, hk2, hk8, ek⟩ := z_in_nat2 (by omega) o_1; subst ek
    refine e_steps 4 (σ' := (22, [(0, .ref 0), (1, .int (nI kk))], [.int (nI 0), .ref 1], (MH g kept was isKept tape fed pos tlen flt ranking paper written pairs above below isDone dist rowv rowMany lsz itm weakAbove weakBelow))) rfl ?_
    refine e_ial (nI n) rfl rfl (by first | assumption | omega | rfl | trivial) (by decide) (hn0) ?_
    refine e_steps 3 (σ' := (26, [(2, .int (nI n)), (0, .ref 0), (1, .int (nI kk))], [.int (nI kk), .ref 0], (MH g kept was isKept tape fed pos tlen flt ranking paper written pairs above below isDone dist rowv rowMany lsz itm weakAbove weakBelow))) rfl ?_
    refine e_call (y := 140) (av := [.ref 0, .int (nI kk)]) (rest := []) rfl (c_X6_begins (d + 0) (ms := ms) (by first | assumption | omega | rfl | trivial) (by first | assumption | omega | rfl | trivial) (by first | assumption | omega | rfl | trivial) (by first | assumption | omega | rfl | trivial)) (fun r_2 h_2 p_2 => ?_)
    obtain ⟨g_2, rfl, rfl, q_2⟩ := p_2
    refine e_steps 1 (σ' := (30, [(2, .int (nI n)), (0, .ref 0), (1, .int (nI kk))], [.int (nI n)], (MH g_2 kept was isKept tape fed pos tlen flt ranking paper written pairs above below isDone dist rowv rowMany lsz itm weakAbove weakBelow))) rfl ?_
    exact e_ret rfl (trivial) (hR _ _ ⟨g_2, (nI n), rfl, rfl, (by exact Or.inr ⟨kk, hk2, hk8, rfl, rfl, q_2⟩)⟩)
  · skip
    refine e_steps 2 (σ' := (16, [(0, .ref 0), (1, .int nn)], [.int ((-nI 2))], (MH g kept was isKept tape fed pos tlen flt ranking paper written pairs above below isDone dist rowv rowMany lsz itm weakAbove weakBelow))) rfl ?_
    exact e_ret rfl (trivial) (hR _ _ ⟨g, ((-nI 2)), rfl, rfl, (by exact Or.inl ⟨fun ⟨k, h2, h8, e⟩ => o_1 (by rw [e]; exact z_nat_in2 (by omega) h2 h8), rfl, rfl⟩)⟩)
theorem c_X6_measure (d : Nat) {g : Nat → Int32} {kept : Nat → Int32} {was : Nat → Int32} {isKept : Int32} {tape : Nat → Int32} {fed : Int32} {pos : Int32} {tlen : Int32} {flt : Int32} {ranking : Nat → Int32} {paper : Nat → Int32} {written : Int32} {pairs : Nat → Int64} {above : Nat → Int64} {below : Nat → Int64} {isDone : Nat → Int32} {dist : Nat → Int32} {rowv : Nat → Int32} {rowMany : Int32} {lsz : Nat → Int32} {itm : Nat → Int64} {weakAbove : Int64} {weakBelow : Int64} {m : Int32} {n : Nat} {outs : Nat} {bm : Nat} {ms : Nat} {dr : Nat → Nat} {cn : Nat → Nat} {pl : Nat → Nat → Nat} (hG : z_GI g n outs bm ms dr cn pl) : z_CAL (d + 2) 143 [.ref 0, .int m] (MH g kept was isKept tape fed pos tlen flt ranking paper written pairs above below isDone dist rowv rowMany lsz itm weakAbove weakBelow) (fun r h2 => ∃ (g2 : Nat → Int32) (v : Int32), r = some (.int v) ∧ h2 = (MH g2 kept was isKept tape fed pos tlen flt ranking paper written pairs above below isDone dist rowv rowMany lsz itm weakAbove weakBelow) ∧ ((¬ (∃ k, k < 4 ∧ m = nI k) ∧ v = -nI 1 ∧ g2 = g) ∨ (∃ k, k < 4 ∧ m = nI k ∧ v = nI ms ∧ z_GI g2 n outs bm k dr cn pl))) := by
  refine e_of2 (q := zmX6_measure) rfl rfl (fun R hR => ?_)
  obtain ⟨⟨hn0, hn2, hn8⟩, ⟨ho0, ho8, hin⟩, ⟨hb0, hb40⟩, ⟨hm0, hm4⟩, ⟨hdr, hdl, hdc⟩, hcn, hpl⟩ := id hG; have hp8 := z_p2 hn8; have ho256 : outs < 256 := (by omega); have hi256 : z_dif (2 ^ n - 1) outs < 256 := (by have := z_dif_le (s := 2 ^ n - 1) (t := outs); omega)
  refine e_steps 4 (σ' := (6, [(0, .ref 0), (1, .int m)], [.long (lN 3), .long (lN 0), .long m.toInt64], (MH g kept was isKept tape fed pos tlen flt ranking paper written pairs above below isDone dist rowv rowMany lsz itm weakAbove weakBelow))) rfl ?_
  refine e_call (y := 129) (av := [.long m.toInt64, .long (lN 0), .long (lN 3)]) (rest := []) rfl (c_X6_isIn (d + 0) ) (fun r_1 h_1 p_1 => ?_)
  obtain ⟨rfl, o_1⟩ := p_1
  rcases o_1 with ⟨rfl, o_1⟩ | ⟨rfl, o_1⟩
  · skip
    obtain ⟨kk, hk8, ek⟩ := z_in_nat (by omega) o_1; subst ek
    refine e_steps 4 (σ' := (19, [(0, .ref 0), (1, .int (nI kk))], [.int (nI 3), .ref 1], (MH g kept was isKept tape fed pos tlen flt ranking paper written pairs above below isDone dist rowv rowMany lsz itm weakAbove weakBelow))) rfl ?_
    refine e_ial (nI ms) rfl rfl (by first | assumption | omega | rfl | trivial) (by decide) (hm0) ?_
    refine e_steps 5 (σ' := (27, [(2, .int (nI ms)), (0, .ref 0), (1, .int (nI kk))], [.int (nI kk), .int (nI 3), .ref 1], (MH g kept was isKept tape fed pos tlen flt ranking paper written pairs above below isDone dist rowv rowMany lsz itm weakAbove weakBelow))) rfl ?_
    refine e_ias (MH (upd g 3 (nI kk)) kept was isKept tape fed pos tlen flt ranking paper written pairs above below isDone dist rowv rowMany lsz itm weakAbove weakBelow) rfl rfl (by first | assumption | omega | rfl | trivial) (by decide) rfl ?_
    refine e_steps 1 (σ' := (29, [(2, .int (nI ms)), (0, .ref 0), (1, .int (nI kk))], [.int (nI ms)], (MH (upd g 3 (nI kk)) kept was isKept tape fed pos tlen flt ranking paper written pairs above below isDone dist rowv rowMany lsz itm weakAbove weakBelow))) rfl ?_
    exact e_ret rfl (trivial) (hR _ _ ⟨upd g 3 (nI kk), (nI ms), rfl, rfl, (by exact Or.inr ⟨kk, by omega, rfl, rfl, z_GI_ms hG (by omega)⟩)⟩)
  · skip
    refine e_steps 2 (σ' := (13, [(0, .ref 0), (1, .int m)], [.int ((-nI 1))], (MH g kept was isKept tape fed pos tlen flt ranking paper written pairs above below isDone dist rowv rowMany lsz itm weakAbove weakBelow))) rfl ?_
    exact e_ret rfl (trivial) (hR _ _ ⟨g, ((-nI 1)), rfl, rfl, (by exact Or.inl ⟨fun ⟨k, h4, e⟩ => o_1 (by rw [e]; exact z_nat_in (by omega) (by omega)), rfl, rfl⟩)⟩)
theorem c_X6_drawOf (d : Nat) {g : Nat → Int32} {kept : Nat → Int32} {was : Nat → Int32} {isKept : Int32} {tape : Nat → Int32} {fed : Int32} {pos : Int32} {tlen : Int32} {flt : Int32} {ranking : Nat → Int32} {paper : Nat → Int32} {written : Int32} {pairs : Nat → Int64} {above : Nat → Int64} {below : Nat → Int64} {isDone : Nat → Int32} {dist : Nat → Int32} {rowv : Nat → Int32} {rowMany : Int32} {lsz : Nat → Int32} {itm : Nat → Int64} {weakAbove : Int64} {weakBelow : Int64} {c : Nat} {n : Nat} {outs : Nat} {bm : Nat} {ms : Nat} {dr : Nat → Nat} {cn : Nat → Nat} {pl : Nat → Nat → Nat} (hG : z_GI g n outs bm ms dr cn pl) (hc : c < n) : z_CAL (d + 1) 144 [.ref 0, .int (nI c)] (MH g kept was isKept tape fed pos tlen flt ranking paper written pairs above below isDone dist rowv rowMany lsz itm weakAbove weakBelow) (fun r h2 => ∃ (v : Nat), r = some (.int (nI v)) ∧ h2 = (MH g kept was isKept tape fed pos tlen flt ranking paper written pairs above below isDone dist rowv rowMany lsz itm weakAbove weakBelow) ∧ (v < n ∧ dr v = c ∧ ∀ i, i < v → dr i ≠ c)) := by
  refine e_of2 (q := zmX6_drawOf) rfl rfl (fun R hR => ?_)
  obtain ⟨⟨hn0, hn2, hn8⟩, ⟨ho0, ho8, hin⟩, ⟨hb0, hb40⟩, ⟨hm0, hm4⟩, ⟨hdr, hdl, hdc⟩, hcn, hpl⟩ := id hG; have hp8 := z_p2 hn8; have ho256 : outs < 256 := (by omega); have hi256 : z_dif (2 ^ n - 1) outs < 256 := (by have := z_dif_le (s := 2 ^ n - 1) (t := outs); omega)
  refine e_steps 2 (σ' := (2, [(2, .int (nI 0)), (0, .ref 0), (1, .int (nI c))], [], (MH g kept was isKept tape fed pos tlen flt ranking paper written pairs above below isDone dist rowv rowMany lsz itm weakAbove weakBelow))) rfl ?_
  have loop_1 : ∀ (z_1 : Nat) (k : Nat), n - k < z_1 → ((∃ j, k ≤ j ∧ j < n ∧ dr j = c) ∧ ∀ i, i < k → dr i ≠ c) → z_EV (d + 0) zmX6_drawOf R (2, [(0, .ref 0), (1, .int (nI c)), (2, .int (nI k))], [], (MH g kept was isKept tape fed pos tlen flt ranking paper written pairs above below isDone dist rowv rowMany lsz itm weakAbove weakBelow)) := by
    intro z_1
    induction z_1 with
    | zero => intro k hm_1 _; exact absurd hm_1 (Nat.not_lt_zero _)
    | succ z_1 ih_1 =>
      intro k hm_1 hi_1
      obtain ⟨⟨jj, hj1, hj2, hj3⟩, hk2⟩ := hi_1; have hkl := hdl k (by omega)
      refine e_steps 4 (σ' := (8, [(0, .ref 0), (1, .int (nI c)), (2, .int (nI k))], [.int (nI k), .int (nI 4), .ref 1], (MH g kept was isKept tape fed pos tlen flt ranking paper written pairs above below isDone dist rowv rowMany lsz itm weakAbove weakBelow))) rfl ?_
      refine e_add (4 + k) rfl (by first | rfl | omega) ?_
      refine e_steps 0 (σ' := (9, [(0, .ref 0), (1, .int (nI c)), (2, .int (nI k))], [.int (nI (4 + k)), .ref 1], (MH g kept was isKept tape fed pos tlen flt ranking paper written pairs above below isDone dist rowv rowMany lsz itm weakAbove weakBelow))) rfl ?_
      refine e_ial (nI (dr k)) rfl rfl (by first | assumption | omega | rfl | trivial) (by decide) (hdr _ (by omega)) ?_
      refine e_steps 1 (σ' := (11, [(0, .ref 0), (1, .int (nI c)), (2, .int (nI k))], [.int (nI c), .int (nI (dr k))], (MH g kept was isKept tape fed pos tlen flt ranking paper written pairs above below isDone dist rowv rowMany lsz itm weakAbove weakBelow))) rfl ?_
      refine e_if (c := nI (dr k) = nI c) rfl (fun c_2 => ?_) (fun c_2 => ?_)
      · skip
        rw [nI_eq (by omega) (by omega)] at c_2
        refine e_steps 1 (σ' := (21, [(0, .ref 0), (1, .int (nI c)), (2, .int (nI k))], [.int (nI k)], (MH g kept was isKept tape fed pos tlen flt ranking paper written pairs above below isDone dist rowv rowMany lsz itm weakAbove weakBelow))) rfl ?_
        exact e_ret rfl (trivial) (hR _ _ ⟨k, rfl, rfl, (by exact ⟨by omega, c_2, hk2⟩)⟩)
      · skip
        rw [nI_eq (by omega) (by omega)] at c_2
        refine e_steps 0 (σ' := (14, [(0, .ref 0), (1, .int (nI c)), (2, .int (nI k))], [], (MH g kept was isKept tape fed pos tlen flt ranking paper written pairs above below isDone dist rowv rowMany lsz itm weakAbove weakBelow))) rfl ?_
        refine e_inc (n := 1) rfl rfl rfl (k + 1) (by rfl) [(2, .int (nI (k + 1))), (0, .ref 0), (1, .int (nI c))] rfl ?_
        refine e_steps 1 (σ' := (2, [(2, .int (nI (k + 1))), (0, .ref 0), (1, .int (nI c))], [], (MH g kept was isKept tape fed pos tlen flt ranking paper written pairs above below isDone dist rowv rowMany lsz itm weakAbove weakBelow))) rfl ?_
        refine e_sub [1, 2, 0] rfl ?_
        exact ih_1 (k + 1) (by omega) (by exact ⟨⟨jj, by (have : jj ≠ k := fun e => c_2 (e ▸ hj3)); omega, hj2, hj3⟩, fun i hi => by rcases (by omega : i < k ∨ i = k) with h | h; exact hk2 i h; exact h ▸ c_2⟩)
  refine e_sub [1, 2, 0] rfl ?_
  exact loop_1 _ 0 (Nat.lt_succ_self _) (by obtain ⟨j, h1, h2⟩ := hdc c hc; exact ⟨⟨j, by omega, h1, h2⟩, fun i hi => absurd hi (Nat.not_lt_zero i)⟩)
theorem c_X6_drawn (d : Nat) {g : Nat → Int32} {kept : Nat → Int32} {was : Nat → Int32} {isKept : Int32} {tape : Nat → Int32} {fed : Int32} {pos : Int32} {tlen : Int32} {flt : Int32} {ranking : Nat → Int32} {paper : Nat → Int32} {written : Int32} {pairs : Nat → Int64} {above : Nat → Int64} {below : Nat → Int64} {isDone : Nat → Int32} {dist : Nat → Int32} {rowv : Nat → Int32} {rowMany : Int32} {lsz : Nat → Int32} {itm : Nat → Int64} {weakAbove : Int64} {weakBelow : Int64} {k : Int32} {n : Nat} {outs : Nat} {bm : Nat} {ms : Nat} {dr : Nat → Nat} {cn : Nat → Nat} {pl : Nat → Nat → Nat} (hG : z_GI g n outs bm ms dr cn pl) : z_CAL (d + 3) 147 [.ref 0, .int k] (MH g kept was isKept tape fed pos tlen flt ranking paper written pairs above below isDone dist rowv rowMany lsz itm weakAbove weakBelow) (fun r h2 => ∃ (v : Int32), r = some (.int v) ∧ h2 = (MH g kept was isKept tape fed pos tlen flt ranking paper written pairs above below isDone dist rowv rowMany lsz itm weakAbove weakBelow) ∧ ((¬ (∃ k2, k2 < n ∧ k = nI k2) ∧ v = -nI 1) ∨ (∃ k2, k2 < n ∧ k = nI k2 ∧ v = nI (dr k2)))) := by
  refine e_of2 (q := zmX6_drawn) rfl rfl (fun R hR => ?_)
  obtain ⟨⟨hn0, hn2, hn8⟩, ⟨ho0, ho8, hin⟩, ⟨hb0, hb40⟩, ⟨hm0, hm4⟩, ⟨hdr, hdl, hdc⟩, hcn, hpl⟩ := id hG; have hp8 := z_p2 hn8; have ho256 : outs < 256 := (by omega); have hi256 : z_dif (2 ^ n - 1) outs < 256 := (by have := z_dif_le (s := 2 ^ n - 1) (t := outs); omega)
  refine e_steps 2 (σ' := (2, [(0, .ref 0), (1, .int k)], [.int k, .ref 0], (MH g kept was isKept tape fed pos tlen flt ranking paper written pairs above below isDone dist rowv rowMany lsz itm weakAbove weakBelow))) rfl ?_
  refine e_call (y := 135) (av := [.ref 0, .int k]) (rest := []) rfl (c_X6_isOne (d + 0) (n := n) (outs := outs) (bm := bm) (ms := ms) (dr := dr) (cn := cn) (pl := pl) (by first | assumption | omega | rfl | trivial)) (fun r_1 h_1 p_1 => ?_)
  obtain ⟨rfl, o_1⟩ := p_1
  rcases o_1 with ⟨rfl, o_1⟩ | ⟨rfl, o_1⟩
  · skip
    obtain ⟨k_2, hk_1, ek_2⟩ := o_1
    subst ek_2
    refine e_steps 5 (σ' := (14, [(0, .ref 0), (1, .int (nI k_2))], [.int (nI k_2), .int (nI 4), .ref 1], (MH g kept was isKept tape fed pos tlen flt ranking paper written pairs above below isDone dist rowv rowMany lsz itm weakAbove weakBelow))) rfl ?_
    refine e_add (4 + k_2) rfl (by first | rfl | omega) ?_
    refine e_steps 0 (σ' := (15, [(0, .ref 0), (1, .int (nI k_2))], [.int (nI (4 + k_2)), .ref 1], (MH g kept was isKept tape fed pos tlen flt ranking paper written pairs above below isDone dist rowv rowMany lsz itm weakAbove weakBelow))) rfl ?_
    refine e_ial (nI (dr k_2)) rfl rfl (by first | assumption | omega | rfl | trivial) (by decide) (hdr _ (by omega)) ?_
    refine e_steps 1 (σ' := (20, [(0, .ref 0), (1, .int (nI k_2))], [.int (nI (dr k_2))], (MH g kept was isKept tape fed pos tlen flt ranking paper written pairs above below isDone dist rowv rowMany lsz itm weakAbove weakBelow))) rfl ?_
    exact e_ret rfl (trivial) (hR _ _ ⟨(nI (dr k_2)), rfl, rfl, (by exact Or.inr ⟨_, hk_1, rfl, rfl⟩)⟩)
  · skip
    refine e_steps 2 (σ' := (20, [(0, .ref 0), (1, .int k)], [.int ((-nI 1))], (MH g kept was isKept tape fed pos tlen flt ranking paper written pairs above below isDone dist rowv rowMany lsz itm weakAbove weakBelow))) rfl ?_
    exact e_ret rfl (trivial) (hR _ _ ⟨((-nI 1)), rfl, rfl, (by exact Or.inl ⟨o_1, rfl⟩)⟩)
theorem c_X6_out (d : Nat) {g : Nat → Int32} {kept : Nat → Int32} {was : Nat → Int32} {isKept : Int32} {tape : Nat → Int32} {fed : Int32} {pos : Int32} {tlen : Int32} {flt : Int32} {ranking : Nat → Int32} {paper : Nat → Int32} {written : Int32} {pairs : Nat → Int64} {above : Nat → Int64} {below : Nat → Int64} {isDone : Nat → Int32} {dist : Nat → Int32} {rowv : Nat → Int32} {rowMany : Int32} {lsz : Nat → Int32} {itm : Nat → Int64} {weakAbove : Int64} {weakBelow : Int64} {c : Int32} {is : Int32} {n : Nat} {outs : Nat} {bm : Nat} {ms : Nat} {dr : Nat → Nat} {cn : Nat → Nat} {pl : Nat → Nat → Nat} (hG : z_GI g n outs bm ms dr cn pl) : z_CAL (d + 3) 142 [.ref 0, .int c, .int is] (MH g kept was isKept tape fed pos tlen flt ranking paper written pairs above below isDone dist rowv rowMany lsz itm weakAbove weakBelow) (fun r h2 => ∃ (g2 : Nat → Int32) (v : Int32), r = some (.int v) ∧ h2 = (MH g2 kept was isKept tape fed pos tlen flt ranking paper written pairs above below isDone dist rowv rowMany lsz itm weakAbove weakBelow) ∧ ((¬ ((∃ k, k < n ∧ c = nI k) ∧ (is = nI 0 ∨ is = nI 1)) ∧ v = -nI 1 ∧ g2 = g) ∨ (∃ k, k < n ∧ c = nI k ∧ ((is = nI 1 ∧ z_dif (2 ^ n - 1) outs = 2 ^ k ∧ v = -nI 3 ∧ g2 = g) ∨ (is = nI 1 ∧ z_dif (2 ^ n - 1) outs ≠ 2 ^ k ∧ v = nI (if outs.testBit k = true then 1 else 0) ∧ z_GI g2 n (outs ||| 2 ^ k) bm ms dr cn pl) ∨ (is = nI 0 ∧ v = nI (if outs.testBit k = true then 1 else 0) ∧ z_GI g2 n (z_dif outs (2 ^ k)) bm ms dr cn pl))))) := by
  refine e_of2 (q := zmX6_out) rfl rfl (fun R hR => ?_)
  obtain ⟨⟨hn0, hn2, hn8⟩, ⟨ho0, ho8, hin⟩, ⟨hb0, hb40⟩, ⟨hm0, hm4⟩, ⟨hdr, hdl, hdc⟩, hcn, hpl⟩ := id hG; have hp8 := z_p2 hn8; have ho256 : outs < 256 := (by omega); have hi256 : z_dif (2 ^ n - 1) outs < 256 := (by have := z_dif_le (s := 2 ^ n - 1) (t := outs); omega)
  refine e_steps 2 (σ' := (2, [(0, .ref 0), (1, .int c), (2, .int is)], [.int c, .ref 0], (MH g kept was isKept tape fed pos tlen flt ranking paper written pairs above below isDone dist rowv rowMany lsz itm weakAbove weakBelow))) rfl ?_
  refine e_call (y := 135) (av := [.ref 0, .int c]) (rest := []) rfl (c_X6_isOne (d + 0) (n := n) (outs := outs) (bm := bm) (ms := ms) (dr := dr) (cn := cn) (pl := pl) (by first | assumption | omega | rfl | trivial | (have := z_p8 (k := k_2) (by omega); omega))) (fun r_1 h_1 p_1 => ?_)
  obtain ⟨rfl, o_1⟩ := p_1
  rcases o_1 with ⟨rfl, o_1⟩ | ⟨rfl, o_1⟩
  · skip
    obtain ⟨k_2, hk_1, ek_2⟩ := o_1
    subst ek_2
    refine e_steps 5 (σ' := (12, [(0, .ref 0), (1, .int (nI k_2)), (2, .int is)], [.long (lN 1), .long (lN 0), .long is.toInt64], (MH g kept was isKept tape fed pos tlen flt ranking paper written pairs above below isDone dist rowv rowMany lsz itm weakAbove weakBelow))) rfl ?_
    refine e_call (y := 129) (av := [.long is.toInt64, .long (lN 0), .long (lN 1)]) (rest := []) rfl (c_X6_isIn (d + 1) ) (fun r_3 h_3 p_3 => ?_)
    obtain ⟨rfl, o_3⟩ := p_3
    rcases o_3 with ⟨rfl, o_3⟩ | ⟨rfl, o_3⟩
    · skip
      obtain ⟨kb, hkb, ek⟩ := z_in_nat (by omega) o_3; subst ek
      refine e_steps 3 (σ' := (22, [(0, .ref 0), (1, .int (nI k_2)), (2, .int (nI kb))], [.int (nI 1), .int (nI kb)], (MH g kept was isKept tape fed pos tlen flt ranking paper written pairs above below isDone dist rowv rowMany lsz itm weakAbove weakBelow))) rfl ?_
      refine e_if (c := ¬ nI kb = nI 1) rfl (fun c_4 => ?_) (fun c_4 => ?_)
      · skip
        rw [nI_eq (by omega) (by omega)] at c_4
        skip
        refine e_steps 3 (σ' := (43, [(0, .ref 0), (1, .int (nI k_2)), (2, .int (nI kb))], [.int (nI 1), .ref 1], (MH g kept was isKept tape fed pos tlen flt ranking paper written pairs above below isDone dist rowv rowMany lsz itm weakAbove weakBelow))) rfl ?_
        refine e_ial (nI outs) rfl rfl (by first | assumption | omega | rfl | trivial | (have := z_p8 (k := k_2) (by omega); omega)) (by decide) (ho0) ?_
        refine e_steps 1 (σ' := (45, [(0, .ref 0), (1, .int (nI k_2)), (2, .int (nI kb))], [.int (nI k_2), .int (nI outs)], (MH g kept was isKept tape fed pos tlen flt ranking paper written pairs above below isDone dist rowv rowMany lsz itm weakAbove weakBelow))) rfl ?_
        refine e_call (y := 131) (av := [.int (nI outs), .int (nI k_2)]) (rest := []) rfl (c_X6_has (d + 1) (by first | assumption | omega | rfl | trivial | (have := z_p8 (k := k_2) (by omega); omega)) (by first | assumption | omega | rfl | trivial | (have := z_p8 (k := k_2) (by omega); omega))) (fun r_5 h_5 p_5 => ?_)
        obtain ⟨rfl, o_5⟩ := p_5
        rcases o_5 with ⟨rfl, o_5⟩ | ⟨rfl, o_5⟩
        · skip
          refine e_steps 9 (σ' := (64, [(3, .int (nI 1)), (0, .ref 0), (1, .int (nI k_2)), (2, .int (nI kb))], [.int (nI 1), .int (nI kb), .int (nI 1), .ref 1], (MH g kept was isKept tape fed pos tlen flt ranking paper written pairs above below isDone dist rowv rowMany lsz itm weakAbove weakBelow))) rfl ?_
          refine e_if (c := ¬ nI kb = nI 1) rfl (fun c_6 => ?_) (fun c_6 => ?_)
          · skip
            rw [nI_eq (by omega) (by omega)] at c_6
            skip
            refine e_steps 3 (σ' := (85, [(3, .int (nI 1)), (0, .ref 0), (1, .int (nI k_2)), (2, .int (nI kb))], [.int (nI 1), .ref 1, .int (nI 1), .ref 1], (MH g kept was isKept tape fed pos tlen flt ranking paper written pairs above below isDone dist rowv rowMany lsz itm weakAbove weakBelow))) rfl ?_
            refine e_ial (nI outs) rfl rfl (by first | assumption | omega | rfl | trivial | (have := z_p8 (k := k_2) (by omega); omega)) (by decide) (ho0) ?_
            refine e_steps 2 (σ' := (88, [(3, .int (nI 1)), (0, .ref 0), (1, .int (nI k_2)), (2, .int (nI kb))], [.int (nI k_2), .int (nI 1), .int (nI outs), .int (nI 1), .ref 1], (MH g kept was isKept tape fed pos tlen flt ranking paper written pairs above below isDone dist rowv rowMany lsz itm weakAbove weakBelow))) rfl ?_
            refine e_shl rfl (by first | assumption | omega | rfl | trivial | (have := z_p8 (k := k_2) (by omega); omega)) ?_
            refine e_steps 2 (σ' := (91, [(3, .int (nI 1)), (0, .ref 0), (1, .int (nI k_2)), (2, .int (nI kb))], [.int (((nI (2 ^ k_2)) ^^^ ((-nI 1)))), .int (nI outs), .int (nI 1), .ref 1], (MH g kept was isKept tape fed pos tlen flt ranking paper written pairs above below isDone dist rowv rowMany lsz itm weakAbove weakBelow))) rfl ?_
            refine e_dif rfl (by first | assumption | omega | rfl | trivial | (have := z_p8 (k := k_2) (by omega); omega)) (by first | assumption | omega | rfl | trivial | (have := z_p8 (k := k_2) (by omega); omega)) ?_
            refine e_steps 0 (σ' := (92, [(3, .int (nI 1)), (0, .ref 0), (1, .int (nI k_2)), (2, .int (nI kb))], [.int (nI (z_dif outs (2 ^ k_2))), .int (nI 1), .ref 1], (MH g kept was isKept tape fed pos tlen flt ranking paper written pairs above below isDone dist rowv rowMany lsz itm weakAbove weakBelow))) rfl ?_
            refine e_ias (MH (upd g 1 (nI (z_dif outs (2 ^ k_2)))) kept was isKept tape fed pos tlen flt ranking paper written pairs above below isDone dist rowv rowMany lsz itm weakAbove weakBelow) rfl rfl (by first | assumption | omega | rfl | trivial | (have := z_p8 (k := k_2) (by omega); omega)) (by decide) rfl ?_
            refine e_steps 1 (σ' := (94, [(3, .int (nI 1)), (0, .ref 0), (1, .int (nI k_2)), (2, .int (nI kb))], [.int (nI 1)], (MH (upd g 1 (nI (z_dif outs (2 ^ k_2)))) kept was isKept tape fed pos tlen flt ranking paper written pairs above below isDone dist rowv rowMany lsz itm weakAbove weakBelow))) rfl ?_
            exact e_ret rfl (trivial) (hR _ _ ⟨upd g 1 (nI (z_dif outs (2 ^ k_2))), (nI 1), rfl, rfl, (by first | exact Or.inr ⟨k_2, hk_1, rfl, Or.inl ⟨by rw [show kb = 1 by omega], by assumption, rfl, rfl⟩⟩ | exact Or.inr ⟨k_2, hk_1, rfl, Or.inr (Or.inl ⟨by rw [show kb = 1 by omega], by assumption, by simp [*], z_GI_outs hG (Nat.or_lt_two_pow ho8 (Nat.pow_lt_pow_right (by decide) hk_1)) (z_outs_add hn8 hin (by assumption))⟩)⟩ | exact Or.inr ⟨k_2, hk_1, rfl, Or.inr (Or.inr ⟨by rw [show kb = 0 by omega], by simp [*], z_GI_outs hG (by have := z_dif_le (s := outs) (t := 2 ^ k_2); omega) (z_outs_del hn8 hk_1 ho256)⟩)⟩ | exact Or.inl ⟨fun h => absurd h.1 (by assumption), rfl, rfl⟩ | exact Or.inl ⟨fun h => absurd (show lN 0 ≤ is.toInt64 ∧ is.toInt64 ≤ lN 1 from by rcases h.2 with q | q <;> rw [q] <;> exact z_nat_in (by omega) (by omega)) (by assumption), rfl, rfl⟩)⟩)
          · skip
            rw [nI_eq (by omega) (by omega)] at c_6
            replace c_6 := Decidable.not_not.mp c_6
            exact absurd c_6 c_4
        · skip
          refine e_steps 8 (σ' := (64, [(3, .int (nI 0)), (0, .ref 0), (1, .int (nI k_2)), (2, .int (nI kb))], [.int (nI 1), .int (nI kb), .int (nI 1), .ref 1], (MH g kept was isKept tape fed pos tlen flt ranking paper written pairs above below isDone dist rowv rowMany lsz itm weakAbove weakBelow))) rfl ?_
          refine e_if (c := ¬ nI kb = nI 1) rfl (fun c_7 => ?_) (fun c_7 => ?_)
          · skip
            rw [nI_eq (by omega) (by omega)] at c_7
            skip
            refine e_steps 3 (σ' := (85, [(3, .int (nI 0)), (0, .ref 0), (1, .int (nI k_2)), (2, .int (nI kb))], [.int (nI 1), .ref 1, .int (nI 1), .ref 1], (MH g kept was isKept tape fed pos tlen flt ranking paper written pairs above below isDone dist rowv rowMany lsz itm weakAbove weakBelow))) rfl ?_
            refine e_ial (nI outs) rfl rfl (by first | assumption | omega | rfl | trivial | (have := z_p8 (k := k_2) (by omega); omega)) (by decide) (ho0) ?_
            refine e_steps 2 (σ' := (88, [(3, .int (nI 0)), (0, .ref 0), (1, .int (nI k_2)), (2, .int (nI kb))], [.int (nI k_2), .int (nI 1), .int (nI outs), .int (nI 1), .ref 1], (MH g kept was isKept tape fed pos tlen flt ranking paper written pairs above below isDone dist rowv rowMany lsz itm weakAbove weakBelow))) rfl ?_
            refine e_shl rfl (by first | assumption | omega | rfl | trivial | (have := z_p8 (k := k_2) (by omega); omega)) ?_
            refine e_steps 2 (σ' := (91, [(3, .int (nI 0)), (0, .ref 0), (1, .int (nI k_2)), (2, .int (nI kb))], [.int (((nI (2 ^ k_2)) ^^^ ((-nI 1)))), .int (nI outs), .int (nI 1), .ref 1], (MH g kept was isKept tape fed pos tlen flt ranking paper written pairs above below isDone dist rowv rowMany lsz itm weakAbove weakBelow))) rfl ?_
            refine e_dif rfl (by first | assumption | omega | rfl | trivial | (have := z_p8 (k := k_2) (by omega); omega)) (by first | assumption | omega | rfl | trivial | (have := z_p8 (k := k_2) (by omega); omega)) ?_
            refine e_steps 0 (σ' := (92, [(3, .int (nI 0)), (0, .ref 0), (1, .int (nI k_2)), (2, .int (nI kb))], [.int (nI (z_dif outs (2 ^ k_2))), .int (nI 1), .ref 1], (MH g kept was isKept tape fed pos tlen flt ranking paper written pairs above below isDone dist rowv rowMany lsz itm weakAbove weakBelow))) rfl ?_
            refine e_ias (MH (upd g 1 (nI (z_dif outs (2 ^ k_2)))) kept was isKept tape fed pos tlen flt ranking paper written pairs above below isDone dist rowv rowMany lsz itm weakAbove weakBelow) rfl rfl (by first | assumption | omega | rfl | trivial | (have := z_p8 (k := k_2) (by omega); omega)) (by decide) rfl ?_
            refine e_steps 1 (σ' := (94, [(3, .int (nI 0)), (0, .ref 0), (1, .int (nI k_2)), (2, .int (nI kb))], [.int (nI 0)], (MH (upd g 1 (nI (z_dif outs (2 ^ k_2)))) kept was isKept tape fed pos tlen flt ranking paper written pairs above below isDone dist rowv rowMany lsz itm weakAbove weakBelow))) rfl ?_
            exact e_ret rfl (trivial) (hR _ _ ⟨upd g 1 (nI (z_dif outs (2 ^ k_2))), (nI 0), rfl, rfl, (by first | exact Or.inr ⟨k_2, hk_1, rfl, Or.inl ⟨by rw [show kb = 1 by omega], by assumption, rfl, rfl⟩⟩ | exact Or.inr ⟨k_2, hk_1, rfl, Or.inr (Or.inl ⟨by rw [show kb = 1 by omega], by assumption, by simp [*], z_GI_outs hG (Nat.or_lt_two_pow ho8 (Nat.pow_lt_pow_right (by decide) hk_1)) (z_outs_add hn8 hin (by assumption))⟩)⟩ | exact Or.inr ⟨k_2, hk_1, rfl, Or.inr (Or.inr ⟨by rw [show kb = 0 by omega], by simp [*], z_GI_outs hG (by have := z_dif_le (s := outs) (t := 2 ^ k_2); omega) (z_outs_del hn8 hk_1 ho256)⟩)⟩ | exact Or.inl ⟨fun h => absurd h.1 (by assumption), rfl, rfl⟩ | exact Or.inl ⟨fun h => absurd (show lN 0 ≤ is.toInt64 ∧ is.toInt64 ≤ lN 1 from by rcases h.2 with q | q <;> rw [q] <;> exact z_nat_in (by omega) (by omega)) (by assumption), rfl, rfl⟩)⟩)
          · skip
            rw [nI_eq (by omega) (by omega)] at c_7
            replace c_7 := Decidable.not_not.mp c_7
            exact absurd c_7 c_4
      · skip
        rw [nI_eq (by omega) (by omega)] at c_4
        replace c_4 := Decidable.not_not.mp c_4
        refine e_steps 1 (σ' := (26, [(0, .ref 0), (1, .int (nI k_2)), (2, .int (nI kb))], [.ref 0], (MH g kept was isKept tape fed pos tlen flt ranking paper written pairs above below isDone dist rowv rowMany lsz itm weakAbove weakBelow))) rfl ?_
        refine e_call (y := 134) (av := [.ref 0]) (rest := []) rfl (c_X6_ins (d + 0) (n := n) (outs := outs) (bm := bm) (ms := ms) (dr := dr) (cn := cn) (pl := pl) (by first | assumption | omega | rfl | trivial | (have := z_p8 (k := k_2) (by omega); omega))) (fun r_8 h_8 p_8 => ?_)
        obtain ⟨rfl, rfl⟩ := p_8
        refine e_steps 2 (σ' := (31, [(0, .ref 0), (1, .int (nI k_2)), (2, .int (nI kb))], [.int (nI k_2), .int (nI 1), .int (nI (z_dif (2 ^ n - 1) outs))], (MH g kept was isKept tape fed pos tlen flt ranking paper written pairs above below isDone dist rowv rowMany lsz itm weakAbove weakBelow))) rfl ?_
        refine e_shl rfl (by first | assumption | omega | rfl | trivial | (have := z_p8 (k := k_2) (by omega); omega)) ?_
        refine e_steps 0 (σ' := (32, [(0, .ref 0), (1, .int (nI k_2)), (2, .int (nI kb))], [.int (nI (2 ^ k_2)), .int (nI (z_dif (2 ^ n - 1) outs))], (MH g kept was isKept tape fed pos tlen flt ranking paper written pairs above below isDone dist rowv rowMany lsz itm weakAbove weakBelow))) rfl ?_
        refine e_if (c := ¬ nI (z_dif (2 ^ n - 1) outs) = nI (2 ^ k_2)) rfl (fun c_9 => ?_) (fun c_9 => ?_)
        · skip
          rw [nI_eq (by first | omega | (have := z_p8 (k := k_2) (by omega); omega)) (by first | omega | (have := z_p8 (k := k_2) (by omega); omega))] at c_9
          skip
          refine e_steps 3 (σ' := (43, [(0, .ref 0), (1, .int (nI k_2)), (2, .int (nI kb))], [.int (nI 1), .ref 1], (MH g kept was isKept tape fed pos tlen flt ranking paper written pairs above below isDone dist rowv rowMany lsz itm weakAbove weakBelow))) rfl ?_
          refine e_ial (nI outs) rfl rfl (by first | assumption | omega | rfl | trivial | (have := z_p8 (k := k_2) (by omega); omega)) (by decide) (ho0) ?_
          refine e_steps 1 (σ' := (45, [(0, .ref 0), (1, .int (nI k_2)), (2, .int (nI kb))], [.int (nI k_2), .int (nI outs)], (MH g kept was isKept tape fed pos tlen flt ranking paper written pairs above below isDone dist rowv rowMany lsz itm weakAbove weakBelow))) rfl ?_
          refine e_call (y := 131) (av := [.int (nI outs), .int (nI k_2)]) (rest := []) rfl (c_X6_has (d + 1) (by first | assumption | omega | rfl | trivial | (have := z_p8 (k := k_2) (by omega); omega)) (by first | assumption | omega | rfl | trivial | (have := z_p8 (k := k_2) (by omega); omega))) (fun r_10 h_10 p_10 => ?_)
          obtain ⟨rfl, o_10⟩ := p_10
          rcases o_10 with ⟨rfl, o_10⟩ | ⟨rfl, o_10⟩
          · skip
            refine e_steps 9 (σ' := (64, [(3, .int (nI 1)), (0, .ref 0), (1, .int (nI k_2)), (2, .int (nI kb))], [.int (nI 1), .int (nI kb), .int (nI 1), .ref 1], (MH g kept was isKept tape fed pos tlen flt ranking paper written pairs above below isDone dist rowv rowMany lsz itm weakAbove weakBelow))) rfl ?_
            refine e_if (c := ¬ nI kb = nI 1) rfl (fun c_11 => ?_) (fun c_11 => ?_)
            · skip
              rw [nI_eq (by omega) (by omega)] at c_11
              skip
              exact absurd c_4 c_11
            · skip
              rw [nI_eq (by omega) (by omega)] at c_11
              replace c_11 := Decidable.not_not.mp c_11
              refine e_steps 3 (σ' := (72, [(3, .int (nI 1)), (0, .ref 0), (1, .int (nI k_2)), (2, .int (nI kb))], [.int (nI 1), .ref 1, .int (nI 1), .ref 1], (MH g kept was isKept tape fed pos tlen flt ranking paper written pairs above below isDone dist rowv rowMany lsz itm weakAbove weakBelow))) rfl ?_
              refine e_ial (nI outs) rfl rfl (by first | assumption | omega | rfl | trivial | (have := z_p8 (k := k_2) (by omega); omega)) (by decide) (ho0) ?_
              refine e_steps 2 (σ' := (75, [(3, .int (nI 1)), (0, .ref 0), (1, .int (nI k_2)), (2, .int (nI kb))], [.int (nI k_2), .int (nI 1), .int (nI outs), .int (nI 1), .ref 1], (MH g kept was isKept tape fed pos tlen flt ranking paper written pairs above below isDone dist rowv rowMany lsz itm weakAbove weakBelow))) rfl ?_
              refine e_shl rfl (by first | assumption | omega | rfl | trivial | (have := z_p8 (k := k_2) (by omega); omega)) ?_
              refine e_steps 0 (σ' := (76, [(3, .int (nI 1)), (0, .ref 0), (1, .int (nI k_2)), (2, .int (nI kb))], [.int (nI (2 ^ k_2)), .int (nI outs), .int (nI 1), .ref 1], (MH g kept was isKept tape fed pos tlen flt ranking paper written pairs above below isDone dist rowv rowMany lsz itm weakAbove weakBelow))) rfl ?_
              refine e_or (outs ||| (2 ^ k_2)) rfl (by first | rfl | decide) ?_
              refine e_steps 1 (σ' := (92, [(3, .int (nI 1)), (0, .ref 0), (1, .int (nI k_2)), (2, .int (nI kb))], [.int (nI (outs ||| (2 ^ k_2))), .int (nI 1), .ref 1], (MH g kept was isKept tape fed pos tlen flt ranking paper written pairs above below isDone dist rowv rowMany lsz itm weakAbove weakBelow))) rfl ?_
              refine e_ias (MH (upd g 1 (nI (outs ||| (2 ^ k_2)))) kept was isKept tape fed pos tlen flt ranking paper written pairs above below isDone dist rowv rowMany lsz itm weakAbove weakBelow) rfl rfl (by first | assumption | omega | rfl | trivial | (have := z_p8 (k := k_2) (by omega); omega)) (by decide) rfl ?_
              refine e_steps 1 (σ' := (94, [(3, .int (nI 1)), (0, .ref 0), (1, .int (nI k_2)), (2, .int (nI kb))], [.int (nI 1)], (MH (upd g 1 (nI (outs ||| (2 ^ k_2)))) kept was isKept tape fed pos tlen flt ranking paper written pairs above below isDone dist rowv rowMany lsz itm weakAbove weakBelow))) rfl ?_
              exact e_ret rfl (trivial) (hR _ _ ⟨upd g 1 (nI (outs ||| (2 ^ k_2))), (nI 1), rfl, rfl, (by first | exact Or.inr ⟨k_2, hk_1, rfl, Or.inl ⟨by rw [show kb = 1 by omega], by assumption, rfl, rfl⟩⟩ | exact Or.inr ⟨k_2, hk_1, rfl, Or.inr (Or.inl ⟨by rw [show kb = 1 by omega], by assumption, by simp [*], z_GI_outs hG (Nat.or_lt_two_pow ho8 (Nat.pow_lt_pow_right (by decide) hk_1)) (z_outs_add hn8 hin (by assumption))⟩)⟩ | exact Or.inr ⟨k_2, hk_1, rfl, Or.inr (Or.inr ⟨by rw [show kb = 0 by omega], by simp [*], z_GI_outs hG (by have := z_dif_le (s := outs) (t := 2 ^ k_2); omega) (z_outs_del hn8 hk_1 ho256)⟩)⟩ | exact Or.inl ⟨fun h => absurd h.1 (by assumption), rfl, rfl⟩ | exact Or.inl ⟨fun h => absurd (show lN 0 ≤ is.toInt64 ∧ is.toInt64 ≤ lN 1 from by rcases h.2 with q | q <;> rw [q] <;> exact z_nat_in (by omega) (by omega)) (by assumption), rfl, rfl⟩)⟩)
          · skip
            refine e_steps 8 (σ' := (64, [(3, .int (nI 0)), (0, .ref 0), (1, .int (nI k_2)), (2, .int (nI kb))], [.int (nI 1), .int (nI kb), .int (nI 1), .ref 1], (MH g kept was isKept tape fed pos tlen flt ranking paper written pairs above below isDone dist rowv rowMany lsz itm weakAbove weakBelow))) rfl ?_
            refine e_if (c := ¬ nI kb = nI 1) rfl (fun c_12 => ?_) (fun c_12 => ?_)
            · skip
              rw [nI_eq (by omega) (by omega)] at c_12
              skip
              exact absurd c_4 c_12
            · skip
              rw [nI_eq (by omega) (by omega)] at c_12
              replace c_12 := Decidable.not_not.mp c_12
              refine e_steps 3 (σ' := (72, [(3, .int (nI 0)), (0, .ref 0), (1, .int (nI k_2)), (2, .int (nI kb))], [.int (nI 1), .ref 1, .int (nI 1), .ref 1], (MH g kept was isKept tape fed pos tlen flt ranking paper written pairs above below isDone dist rowv rowMany lsz itm weakAbove weakBelow))) rfl ?_
              refine e_ial (nI outs) rfl rfl (by first | assumption | omega | rfl | trivial | (have := z_p8 (k := k_2) (by omega); omega)) (by decide) (ho0) ?_
              refine e_steps 2 (σ' := (75, [(3, .int (nI 0)), (0, .ref 0), (1, .int (nI k_2)), (2, .int (nI kb))], [.int (nI k_2), .int (nI 1), .int (nI outs), .int (nI 1), .ref 1], (MH g kept was isKept tape fed pos tlen flt ranking paper written pairs above below isDone dist rowv rowMany lsz itm weakAbove weakBelow))) rfl ?_
              refine e_shl rfl (by first | assumption | omega | rfl | trivial | (have := z_p8 (k := k_2) (by omega); omega)) ?_
              refine e_steps 0 (σ' := (76, [(3, .int (nI 0)), (0, .ref 0), (1, .int (nI k_2)), (2, .int (nI kb))], [.int (nI (2 ^ k_2)), .int (nI outs), .int (nI 1), .ref 1], (MH g kept was isKept tape fed pos tlen flt ranking paper written pairs above below isDone dist rowv rowMany lsz itm weakAbove weakBelow))) rfl ?_
              refine e_or (outs ||| (2 ^ k_2)) rfl (by first | rfl | decide) ?_
              refine e_steps 1 (σ' := (92, [(3, .int (nI 0)), (0, .ref 0), (1, .int (nI k_2)), (2, .int (nI kb))], [.int (nI (outs ||| (2 ^ k_2))), .int (nI 1), .ref 1], (MH g kept was isKept tape fed pos tlen flt ranking paper written pairs above below isDone dist rowv rowMany lsz itm weakAbove weakBelow))) rfl ?_
              refine e_ias (MH (upd g 1 (nI (outs ||| (2 ^ k_2)))) kept was isKept tape fed pos tlen flt ranking paper written pairs above below isDone dist rowv rowMany lsz itm weakAbove weakBelow) rfl rfl (by first | assumption | omega | rfl | trivial | (have := z_p8 (k := k_2) (by omega); omega)) (by decide) rfl ?_
              refine e_steps 1 (σ' := (94, [(3, .int (nI 0)), (0, .ref 0), (1, .int (nI k_2)), (2, .int (nI kb))], [.int (nI 0)], (MH (upd g 1 (nI (outs ||| (2 ^ k_2)))) kept was isKept tape fed pos tlen flt ranking paper written pairs above below isDone dist rowv rowMany lsz itm weakAbove weakBelow))) rfl ?_
              exact e_ret rfl (trivial) (hR _ _ ⟨upd g 1 (nI (outs ||| (2 ^ k_2))), (nI 0), rfl, rfl, (by first | exact Or.inr ⟨k_2, hk_1, rfl, Or.inl ⟨by rw [show kb = 1 by omega], by assumption, rfl, rfl⟩⟩ | exact Or.inr ⟨k_2, hk_1, rfl, Or.inr (Or.inl ⟨by rw [show kb = 1 by omega], by assumption, by simp [*], z_GI_outs hG (Nat.or_lt_two_pow ho8 (Nat.pow_lt_pow_right (by decide) hk_1)) (z_outs_add hn8 hin (by assumption))⟩)⟩ | exact Or.inr ⟨k_2, hk_1, rfl, Or.inr (Or.inr ⟨by rw [show kb = 0 by omega], by simp [*], z_GI_outs hG (by have := z_dif_le (s := outs) (t := 2 ^ k_2); omega) (z_outs_del hn8 hk_1 ho256)⟩)⟩ | exact Or.inl ⟨fun h => absurd h.1 (by assumption), rfl, rfl⟩ | exact Or.inl ⟨fun h => absurd (show lN 0 ≤ is.toInt64 ∧ is.toInt64 ≤ lN 1 from by rcases h.2 with q | q <;> rw [q] <;> exact z_nat_in (by omega) (by omega)) (by assumption), rfl, rfl⟩)⟩)
        · skip
          rw [nI_eq (by first | omega | (have := z_p8 (k := k_2) (by omega); omega)) (by first | omega | (have := z_p8 (k := k_2) (by omega); omega))] at c_9
          replace c_9 := Decidable.not_not.mp c_9
          refine e_steps 1 (σ' := (37, [(0, .ref 0), (1, .int (nI k_2)), (2, .int (nI kb))], [.int ((-nI 3))], (MH g kept was isKept tape fed pos tlen flt ranking paper written pairs above below isDone dist rowv rowMany lsz itm weakAbove weakBelow))) rfl ?_
          exact e_ret rfl (trivial) (hR _ _ ⟨g, ((-nI 3)), rfl, rfl, (by first | exact Or.inr ⟨k_2, hk_1, rfl, Or.inl ⟨by rw [show kb = 1 by omega], by assumption, rfl, rfl⟩⟩ | exact Or.inr ⟨k_2, hk_1, rfl, Or.inr (Or.inl ⟨by rw [show kb = 1 by omega], by assumption, by simp [*], z_GI_outs hG (Nat.or_lt_two_pow ho8 (Nat.pow_lt_pow_right (by decide) hk_1)) (z_outs_add hn8 hin (by assumption))⟩)⟩ | exact Or.inr ⟨k_2, hk_1, rfl, Or.inr (Or.inr ⟨by rw [show kb = 0 by omega], by simp [*], z_GI_outs hG (by have := z_dif_le (s := outs) (t := 2 ^ k_2); omega) (z_outs_del hn8 hk_1 ho256)⟩)⟩ | exact Or.inl ⟨fun h => absurd h.1 (by assumption), rfl, rfl⟩ | exact Or.inl ⟨fun h => absurd (show lN 0 ≤ is.toInt64 ∧ is.toInt64 ≤ lN 1 from by rcases h.2 with q | q <;> rw [q] <;> exact z_nat_in (by omega) (by omega)) (by assumption), rfl, rfl⟩)⟩)
    · skip
      refine e_steps 2 (σ' := (19, [(0, .ref 0), (1, .int (nI k_2)), (2, .int is)], [.int ((-nI 1))], (MH g kept was isKept tape fed pos tlen flt ranking paper written pairs above below isDone dist rowv rowMany lsz itm weakAbove weakBelow))) rfl ?_
      exact e_ret rfl (trivial) (hR _ _ ⟨g, ((-nI 1)), rfl, rfl, (by first | exact Or.inr ⟨k_2, hk_1, rfl, Or.inl ⟨by rw [show kb = 1 by omega], by assumption, rfl, rfl⟩⟩ | exact Or.inr ⟨k_2, hk_1, rfl, Or.inr (Or.inl ⟨by rw [show kb = 1 by omega], by assumption, by simp [*], z_GI_outs hG (Nat.or_lt_two_pow ho8 (Nat.pow_lt_pow_right (by decide) hk_1)) (z_outs_add hn8 hin (by assumption))⟩)⟩ | exact Or.inr ⟨k_2, hk_1, rfl, Or.inr (Or.inr ⟨by rw [show kb = 0 by omega], by simp [*], z_GI_outs hG (by have := z_dif_le (s := outs) (t := 2 ^ k_2); omega) (z_outs_del hn8 hk_1 ho256)⟩)⟩ | exact Or.inl ⟨fun h => absurd h.1 (by assumption), rfl, rfl⟩ | exact Or.inl ⟨fun h => absurd (show lN 0 ≤ is.toInt64 ∧ is.toInt64 ≤ lN 1 from by rcases h.2 with q | q <;> rw [q] <;> exact z_nat_in (by omega) (by omega)) (by assumption), rfl, rfl⟩)⟩)
  · skip
    refine e_steps 2 (σ' := (19, [(0, .ref 0), (1, .int c), (2, .int is)], [.int ((-nI 1))], (MH g kept was isKept tape fed pos tlen flt ranking paper written pairs above below isDone dist rowv rowMany lsz itm weakAbove weakBelow))) rfl ?_
    exact e_ret rfl (trivial) (hR _ _ ⟨g, ((-nI 1)), rfl, rfl, (by first | exact Or.inr ⟨k_2, hk_1, rfl, Or.inl ⟨by rw [show kb = 1 by omega], by assumption, rfl, rfl⟩⟩ | exact Or.inr ⟨k_2, hk_1, rfl, Or.inr (Or.inl ⟨by rw [show kb = 1 by omega], by assumption, by simp [*], z_GI_outs hG (Nat.or_lt_two_pow ho8 (Nat.pow_lt_pow_right (by decide) hk_1)) (z_outs_add hn8 hin (by assumption))⟩)⟩ | exact Or.inr ⟨k_2, hk_1, rfl, Or.inr (Or.inr ⟨by rw [show kb = 0 by omega], by simp [*], z_GI_outs hG (by have := z_dif_le (s := outs) (t := 2 ^ k_2); omega) (z_outs_del hn8 hk_1 ho256)⟩)⟩ | exact Or.inl ⟨fun h => absurd h.1 (by assumption), rfl, rfl⟩ | exact Or.inl ⟨fun h => absurd (show lN 0 ≤ is.toInt64 ∧ is.toInt64 ≤ lN 1 from by rcases h.2 with q | q <;> rw [q] <;> exact z_nat_in (by omega) (by omega)) (by assumption), rfl, rfl⟩)⟩)
theorem c_X6_ahead (d : Nat) {g : Nat → Int32} {kept : Nat → Int32} {was : Nat → Int32} {isKept : Int32} {tape : Nat → Int32} {fed : Int32} {pos : Int32} {tlen : Int32} {flt : Int32} {ranking : Nat → Int32} {paper : Nat → Int32} {written : Int32} {pairs : Nat → Int64} {above : Nat → Int64} {below : Nat → Int64} {isDone : Nat → Int32} {dist : Nat → Int32} {rowv : Nat → Int32} {rowMany : Int32} {lsz : Nat → Int32} {itm : Nat → Int64} {weakAbove : Int64} {weakBelow : Int64} {c : Int32} {n : Nat} {outs : Nat} {bm : Nat} {ms : Nat} {dr : Nat → Nat} {cn : Nat → Nat} {pl : Nat → Nat → Nat} (hG : z_GI g n outs bm ms dr cn pl) : z_CAL (d + 3) 145 [.ref 0, .int c] (MH g kept was isKept tape fed pos tlen flt ranking paper written pairs above below isDone dist rowv rowMany lsz itm weakAbove weakBelow) (fun r h2 => ∃ (g2 : Nat → Int32) (v : Int32), r = some (.int v) ∧ h2 = (MH g2 kept was isKept tape fed pos tlen flt ranking paper written pairs above below isDone dist rowv rowMany lsz itm weakAbove weakBelow) ∧ ((¬ (∃ k, k < n ∧ c = nI k) ∧ v = -nI 1 ∧ g2 = g) ∨ (∃ k, k < n ∧ c = nI k ∧ ∃ w, w < n ∧ dr w = k ∧ (∀ i, i < w → dr i ≠ k) ∧ v = nI w ∧ z_GI g2 n outs bm ms (z_front dr w k) cn pl))) := by
  refine e_of2 (q := zmX6_ahead) rfl rfl (fun R hR => ?_)
  obtain ⟨⟨hn0, hn2, hn8⟩, ⟨ho0, ho8, hin⟩, ⟨hb0, hb40⟩, ⟨hm0, hm4⟩, ⟨hdr, hdl, hdc⟩, hcn, hpl⟩ := id hG; have hp8 := z_p2 hn8; have ho256 : outs < 256 := (by omega); have hi256 : z_dif (2 ^ n - 1) outs < 256 := (by have := z_dif_le (s := 2 ^ n - 1) (t := outs); omega)
  refine e_steps 2 (σ' := (2, [(0, .ref 0), (1, .int c)], [.int c, .ref 0], (MH g kept was isKept tape fed pos tlen flt ranking paper written pairs above below isDone dist rowv rowMany lsz itm weakAbove weakBelow))) rfl ?_
  refine e_call (y := 135) (av := [.ref 0, .int c]) (rest := []) rfl (c_X6_isOne (d + 0) (n := n) (outs := outs) (bm := bm) (ms := ms) (dr := dr) (cn := cn) (pl := pl) (by first | assumption | omega | rfl | trivial)) (fun r_1 h_1 p_1 => ?_)
  obtain ⟨rfl, o_1⟩ := p_1
  rcases o_1 with ⟨rfl, o_1⟩ | ⟨rfl, o_1⟩
  · skip
    obtain ⟨k_2, hk_1, ek_2⟩ := o_1
    subst ek_2
    refine e_steps 3 (σ' := (12, [(0, .ref 0), (1, .int (nI k_2))], [.int (nI k_2), .ref 0], (MH g kept was isKept tape fed pos tlen flt ranking paper written pairs above below isDone dist rowv rowMany lsz itm weakAbove weakBelow))) rfl ?_
    refine e_call (y := 144) (av := [.ref 0, .int (nI k_2)]) (rest := []) rfl (c_X6_drawOf (d + 1) (n := n) (outs := outs) (bm := bm) (ms := ms) (dr := dr) (cn := cn) (pl := pl) (by first | assumption | omega | rfl | trivial) (by first | assumption | omega | rfl | trivial)) (fun r_3 h_3 p_3 => ?_)
    obtain ⟨v_3, rfl, rfl, q_3⟩ := p_3
    refine e_steps 3 (σ' := (18, [(3, .int (nI v_3)), (2, .int (nI v_3)), (0, .ref 0), (1, .int (nI k_2))], [], (MH g kept was isKept tape fed pos tlen flt ranking paper written pairs above below isDone dist rowv rowMany lsz itm weakAbove weakBelow))) rfl ?_
    have loop_4 : ∀ (z_4 : Nat) (k : Nat) (gl : Nat → Int32), k < z_4 → (k ≤ v_3 ∧ (∀ i, i < 8 → gl (4 + i) = nI (if k < i ∧ i ≤ v_3 then dr (i - 1) else dr i)) ∧ ∀ i, (i < 4 ∨ 12 ≤ i) → gl i = g i) → z_EV (d + 2) zmX6_ahead R (18, [(0, .ref 0), (1, .int (nI k_2)), (2, .int (nI v_3)), (3, .int (nI k))], [], (MH gl kept was isKept tape fed pos tlen flt ranking paper written pairs above below isDone dist rowv rowMany lsz itm weakAbove weakBelow)) := by
      intro z_4
      induction z_4 with
      | zero => intro k gl hm_4 _; exact absurd hm_4 (Nat.not_lt_zero _)
      | succ z_4 ih_4 =>
        intro k gl hm_4 hi_4
        obtain ⟨l1, l2, l3⟩ := hi_4
        refine e_steps 1 (σ' := (19, [(0, .ref 0), (1, .int (nI k_2)), (2, .int (nI v_3)), (3, .int (nI k))], [.int (nI k)], (MH gl kept was isKept tape fed pos tlen flt ranking paper written pairs above below isDone dist rowv rowMany lsz itm weakAbove weakBelow))) rfl ?_
        refine e_if (c := nI k ≤ 0) rfl (fun c_5 => ?_) (fun c_5 => ?_)
        · skip
          rw [z0_le (by omega)] at c_5
          refine e_steps 4 (σ' := (52, [(0, .ref 0), (1, .int (nI k_2)), (2, .int (nI v_3)), (3, .int (nI k))], [.int (nI k_2), .int (nI 4), .ref 1], (MH gl kept was isKept tape fed pos tlen flt ranking paper written pairs above below isDone dist rowv rowMany lsz itm weakAbove weakBelow))) rfl ?_
          refine e_ias (MH (upd gl 4 (nI k_2)) kept was isKept tape fed pos tlen flt ranking paper written pairs above below isDone dist rowv rowMany lsz itm weakAbove weakBelow) rfl rfl (by first | assumption | omega | rfl | trivial) (by decide) rfl ?_
          refine e_steps 1 (σ' := (54, [(0, .ref 0), (1, .int (nI k_2)), (2, .int (nI v_3)), (3, .int (nI k))], [.int (nI v_3)], (MH (upd gl 4 (nI k_2)) kept was isKept tape fed pos tlen flt ranking paper written pairs above below isDone dist rowv rowMany lsz itm weakAbove weakBelow))) rfl ?_
          exact e_ret rfl (trivial) (hR _ _ ⟨upd gl 4 (nI k_2), (nI v_3), rfl, rfl, (by exact Or.inr ⟨k_2, hk_1, rfl, v_3, q_3.1, q_3.2.1, q_3.2.2, rfl, z_GI_dr hG (fun i hi => by rw [z_un (by omega)]; exact l3 i hi) (z_front_fin (by subst c_5; exact l2)) (z_perm_front (z_GI_perm hG) q_3.1 q_3.2.1)⟩)⟩)
        · skip
          rw [z0_le (by omega)] at c_5
          refine e_steps 4 (σ' := (28, [(0, .ref 0), (1, .int (nI k_2)), (2, .int (nI v_3)), (3, .int (nI k))], [.int (nI k), .int (nI 4), .ref 1], (MH gl kept was isKept tape fed pos tlen flt ranking paper written pairs above below isDone dist rowv rowMany lsz itm weakAbove weakBelow))) rfl ?_
          refine e_add (4 + k) rfl (by first | rfl | omega) ?_
          refine e_steps 4 (σ' := (35, [(0, .ref 0), (1, .int (nI k_2)), (2, .int (nI v_3)), (3, .int (nI k))], [.int (nI k), .int (nI 4), .ref 1, .int (nI (4 + k)), .ref 1], (MH gl kept was isKept tape fed pos tlen flt ranking paper written pairs above below isDone dist rowv rowMany lsz itm weakAbove weakBelow))) rfl ?_
          refine e_add (4 + k) rfl (by first | rfl | omega) ?_
          refine e_steps 1 (σ' := (37, [(0, .ref 0), (1, .int (nI k_2)), (2, .int (nI v_3)), (3, .int (nI k))], [.int (nI 1), .int (nI (4 + k)), .ref 1, .int (nI (4 + k)), .ref 1], (MH gl kept was isKept tape fed pos tlen flt ranking paper written pairs above below isDone dist rowv rowMany lsz itm weakAbove weakBelow))) rfl ?_
          refine e_sbt (3 + k) rfl (by first | assumption | omega | rfl | trivial) (by first | rfl | omega) ?_
          refine e_steps 0 (σ' := (38, [(0, .ref 0), (1, .int (nI k_2)), (2, .int (nI v_3)), (3, .int (nI k))], [.int (nI (3 + k)), .ref 1, .int (nI (4 + k)), .ref 1], (MH gl kept was isKept tape fed pos tlen flt ranking paper written pairs above below isDone dist rowv rowMany lsz itm weakAbove weakBelow))) rfl ?_
          refine e_ial (gl (3 + k)) rfl rfl (by first | assumption | omega | rfl | trivial) (by decide) (rfl) ?_
          refine e_steps 0 (σ' := (39, [(0, .ref 0), (1, .int (nI k_2)), (2, .int (nI v_3)), (3, .int (nI k))], [.int ((gl (3 + k))), .int (nI (4 + k)), .ref 1], (MH gl kept was isKept tape fed pos tlen flt ranking paper written pairs above below isDone dist rowv rowMany lsz itm weakAbove weakBelow))) rfl ?_
          refine e_ias (MH (upd gl (4 + k) ((gl (3 + k)))) kept was isKept tape fed pos tlen flt ranking paper written pairs above below isDone dist rowv rowMany lsz itm weakAbove weakBelow) rfl rfl (by first | assumption | omega | rfl | trivial) (by decide) rfl ?_
          refine e_steps 0 (σ' := (40, [(0, .ref 0), (1, .int (nI k_2)), (2, .int (nI v_3)), (3, .int (nI k))], [], (MH (upd gl (4 + k) ((gl (3 + k)))) kept was isKept tape fed pos tlen flt ranking paper written pairs above below isDone dist rowv rowMany lsz itm weakAbove weakBelow))) rfl ?_
          refine e_dec (n := 0) rfl rfl rfl (k - 1) (by first | assumption | omega | rfl | trivial) (by first | assumption | omega | rfl | trivial) [(3, .int (nI (k - 1))), (0, .ref 0), (1, .int (nI k_2)), (2, .int (nI v_3))] rfl ?_
          refine e_steps 1 (σ' := (18, [(3, .int (nI (k - 1))), (0, .ref 0), (1, .int (nI k_2)), (2, .int (nI v_3))], [], (MH (upd gl (4 + k) ((gl (3 + k)))) kept was isKept tape fed pos tlen flt ranking paper written pairs above below isDone dist rowv rowMany lsz itm weakAbove weakBelow))) rfl ?_
          refine e_sub [1, 2, 3, 0] rfl ?_
          exact ih_4 (k - 1) (upd gl (4 + k) ((gl (3 + k)))) (by omega) (by exact ⟨by omega, z_front_step c_5 l1 (by omega) l2, fun i hi => by rw [z_un (by omega)]; exact l3 i hi⟩)
    refine e_sub [2, 3, 1, 0] rfl ?_
    exact loop_4 _ v_3 g (Nat.lt_succ_self _) (by exact ⟨Nat.le_refl _, fun i hi => by rw [if_neg (by omega)]; exact hdr i hi, fun i _ => rfl⟩)
  · skip
    refine e_steps 2 (σ' := (9, [(0, .ref 0), (1, .int c)], [.int ((-nI 1))], (MH g kept was isKept tape fed pos tlen flt ranking paper written pairs above below isDone dist rowv rowMany lsz itm weakAbove weakBelow))) rfl ?_
    exact e_ret rfl (trivial) (hR _ _ ⟨g, ((-nI 1)), rfl, rfl, (by exact Or.inl ⟨o_1, rfl, rfl⟩)⟩)
theorem c_X6_shuffle (d : Nat) {g : Nat → Int32} {kept : Nat → Int32} {was : Nat → Int32} {isKept : Int32} {tape : Nat → Int32} {fed : Int32} {pos : Int32} {tlen : Int32} {flt : Int32} {ranking : Nat → Int32} {paper : Nat → Int32} {written : Int32} {pairs : Nat → Int64} {above : Nat → Int64} {below : Nat → Int64} {isDone : Nat → Int32} {dist : Nat → Int32} {rowv : Nat → Int32} {rowMany : Int32} {lsz : Nat → Int32} {itm : Nat → Int64} {weakAbove : Int64} {weakBelow : Int64} {seed : Int32} {n : Nat} {outs : Nat} {bm : Nat} {ms : Nat} {dr : Nat → Nat} {cn : Nat → Nat} {pl : Nat → Nat → Nat} (hG : z_GI g n outs bm ms dr cn pl) : z_CAL (d + 1) 146 [.ref 0, .int seed] (MH g kept was isKept tape fed pos tlen flt ranking paper written pairs above below isDone dist rowv rowMany lsz itm weakAbove weakBelow) (fun r h2 => ∃ (g2 : Nat → Int32) (v : Int32), r = some (.int v) ∧ h2 = (MH g2 kept was isKept tape fed pos tlen flt ranking paper written pairs above below isDone dist rowv rowMany lsz itm weakAbove weakBelow) ∧ (v = nI (z_shf (n - 1) seed (fun i => if i < n then i else dr i) 0) ∧ z_GI g2 n outs bm ms (z_shf (n - 1) seed (fun i => if i < n then i else dr i)) cn pl)) := by
  refine e_of2 (q := zmX6_shuffle) rfl rfl (fun R hR => ?_)
  obtain ⟨⟨hn0, hn2, hn8⟩, ⟨ho0, ho8, hin⟩, ⟨hb0, hb40⟩, ⟨hm0, hm4⟩, ⟨hdr, hdl, hdc⟩, hcn, hpl⟩ := id hG; have hp8 := z_p2 hn8; have ho256 : outs < 256 := (by omega); have hi256 : z_dif (2 ^ n - 1) outs < 256 := (by have := z_dif_le (s := 2 ^ n - 1) (t := outs); omega)
  refine e_steps 4 (σ' := (4, [(3, .int (nI 0)), (2, .int seed), (0, .ref 0), (1, .int seed)], [], (MH g kept was isKept tape fed pos tlen flt ranking paper written pairs above below isDone dist rowv rowMany lsz itm weakAbove weakBelow))) rfl ?_
  have loop_1 : ∀ (z_1 : Nat) (k : Nat) (gl : Nat → Int32), n - k < z_1 → (k ≤ n ∧ (∀ i, i < 8 → gl (4 + i) = nI (if i < k then i else dr i)) ∧ ∀ i, (i < 4 ∨ 12 ≤ i) → gl i = g i) → z_EV (d + 0) zmX6_shuffle R (4, [(0, .ref 0), (1, .int seed), (2, .int seed), (3, .int (nI k))], [], (MH gl kept was isKept tape fed pos tlen flt ranking paper written pairs above below isDone dist rowv rowMany lsz itm weakAbove weakBelow)) := by
    intro z_1
    induction z_1 with
    | zero => intro k gl hm_1 _; exact absurd hm_1 (Nat.not_lt_zero _)
    | succ z_1 ih_1 =>
      intro k gl hm_1 hi_1
      obtain ⟨l1, l2, l3⟩ := hi_1; have hl0 : gl 0 = nI n := (l3 0 (by omega)).trans hn0
      refine e_steps 4 (σ' := (10, [(0, .ref 0), (1, .int seed), (2, .int seed), (3, .int (nI k))], [.int (nI 0), .ref 1, .int (nI k)], (MH gl kept was isKept tape fed pos tlen flt ranking paper written pairs above below isDone dist rowv rowMany lsz itm weakAbove weakBelow))) rfl ?_
      refine e_ial (nI n) rfl rfl (by first | assumption | omega | rfl | trivial) (by decide) (hl0) ?_
      refine e_steps 0 (σ' := (11, [(0, .ref 0), (1, .int seed), (2, .int seed), (3, .int (nI k))], [.int (nI n), .int (nI k)], (MH gl kept was isKept tape fed pos tlen flt ranking paper written pairs above below isDone dist rowv rowMany lsz itm weakAbove weakBelow))) rfl ?_
      refine e_if (c := nI n ≤ nI k) rfl (fun c_2 => ?_) (fun c_2 => ?_)
      · skip
        rw [nI_leI (by omega) (by omega)] at c_2
        refine e_steps 3 (σ' := (34, [(0, .ref 0), (1, .int seed), (2, .int seed), (3, .int (nI k))], [.int (nI 0), .ref 1], (MH gl kept was isKept tape fed pos tlen flt ranking paper written pairs above below isDone dist rowv rowMany lsz itm weakAbove weakBelow))) rfl ?_
        refine e_ial (nI n) rfl rfl (by first | assumption | omega | rfl | trivial) (by decide) (hl0) ?_
        refine e_steps 1 (σ' := (36, [(0, .ref 0), (1, .int seed), (2, .int seed), (3, .int (nI k))], [.int (nI 1), .int (nI n)], (MH gl kept was isKept tape fed pos tlen flt ranking paper written pairs above below isDone dist rowv rowMany lsz itm weakAbove weakBelow))) rfl ?_
        refine e_sbt (n - 1) rfl (by first | assumption | omega | rfl | trivial) (by first | rfl | omega) ?_
        refine e_steps 1 (σ' := (38, [(3, .int (nI (n - 1))), (0, .ref 0), (1, .int seed), (2, .int seed)], [], (MH gl kept was isKept tape fed pos tlen flt ranking paper written pairs above below isDone dist rowv rowMany lsz itm weakAbove weakBelow))) rfl ?_
        have loop_3 : ∀ (z_3 : Nat) (z : Int32) (k : Nat) (gm : Nat → Int32) (D : Nat → Nat), k < z_3 → (k < n ∧ (∀ i, i < 8 → gm (4 + i) = nI (D i)) ∧ (∀ i, (i < 4 ∨ 12 ≤ i) → gm i = g i) ∧ z_perm n D ∧ z_shf k z D = z_shf (n - 1) seed (fun i => if i < n then i else dr i)) → z_EV (d + 0) zmX6_shuffle R (38, [(0, .ref 0), (1, .int seed), (2, .int z), (3, .int (nI k))], [], (MH gm kept was isKept tape fed pos tlen flt ranking paper written pairs above below isDone dist rowv rowMany lsz itm weakAbove weakBelow)) := by
          intro z_3
          induction z_3 with
          | zero => intro z k gm D hm_3 _; exact absurd hm_3 (Nat.not_lt_zero _)
          | succ z_3 ih_3 =>
            intro z k gm D hm_3 hi_3
            obtain ⟨l1b, hm2, l3b, hm4a, l5b⟩ := hi_3; have hdw := z_dw_le (z * nI 1103515245 + nI 12345) k
            refine e_steps 1 (σ' := (39, [(0, .ref 0), (1, .int seed), (2, .int z), (3, .int (nI k))], [.int (nI k)], (MH gm kept was isKept tape fed pos tlen flt ranking paper written pairs above below isDone dist rowv rowMany lsz itm weakAbove weakBelow))) rfl ?_
            refine e_if (c := nI k ≤ 0) rfl (fun c_4 => ?_) (fun c_4 => ?_)
            · skip
              rw [z0_le (by omega)] at c_4
              refine e_steps 3 (σ' := (110, [(0, .ref 0), (1, .int seed), (2, .int z), (3, .int (nI k))], [.int (nI 4), .ref 1], (MH gm kept was isKept tape fed pos tlen flt ranking paper written pairs above below isDone dist rowv rowMany lsz itm weakAbove weakBelow))) rfl ?_
              refine e_ial (nI (D 0)) rfl rfl (by first | assumption | omega | rfl | trivial) (by decide) (hm2 0 (by omega)) ?_
              refine e_steps 0 (σ' := (111, [(0, .ref 0), (1, .int seed), (2, .int z), (3, .int (nI k))], [.int (nI (D 0))], (MH gm kept was isKept tape fed pos tlen flt ranking paper written pairs above below isDone dist rowv rowMany lsz itm weakAbove weakBelow))) rfl ?_
              exact e_ret rfl (trivial) (hR _ _ ⟨gm, (nI (D 0)), rfl, rfl, (by (have e : D = z_shf (n - 1) seed (fun i => if i < n then i else dr i) := (by subst c_4; exact l5b)); exact ⟨congrArg (fun f => nI (f 0)) e, z_GI_dr hG l3b (by rw [← e]; exact hm2) (by rw [← e]; exact hm4a)⟩)⟩)
            · skip
              rw [z0_le (by omega)] at c_4
              refine e_steps 11 (σ' := (57, [(2, .int ((((z * (nI 1103515245))) + (nI 12345)))), (0, .ref 0), (1, .int seed), (3, .int (nI k))], [.int (nI 1), .int (nI k), .int (((((((z * (nI 1103515245))) + (nI 12345)))).toUInt32 >>> (((nI 9)).toUInt32 &&& Int32.toUInt32 31)).toInt32)], (MH gm kept was isKept tape fed pos tlen flt ranking paper written pairs above below isDone dist rowv rowMany lsz itm weakAbove weakBelow))) rfl ?_
              refine e_add (k + 1) rfl (by first | rfl | omega) ?_
              refine e_steps 0 (σ' := (58, [(2, .int ((((z * (nI 1103515245))) + (nI 12345)))), (0, .ref 0), (1, .int seed), (3, .int (nI k))], [.int (nI (k + 1)), .int (((((((z * (nI 1103515245))) + (nI 12345)))).toUInt32 >>> (((nI 9)).toUInt32 &&& Int32.toUInt32 31)).toInt32)], (MH gm kept was isKept tape fed pos tlen flt ranking paper written pairs above below isDone dist rowv rowMany lsz itm weakAbove weakBelow))) rfl ?_
              refine e_gd (c := ¬ (nI (k + 1)) = 0) rfl (by exact fun q => absurd ((z0_eq (by omega)).mp q) (by omega)) ?_
              refine e_steps 0 (σ' := (59, [(2, .int ((((z * (nI 1103515245))) + (nI 12345)))), (0, .ref 0), (1, .int seed), (3, .int (nI k))], [.int (((((((((z * (nI 1103515245))) + (nI 12345)))).toUInt32 >>> (((nI 9)).toUInt32 &&& Int32.toUInt32 31)).toInt32) - (((((((z * (nI 1103515245))) + (nI 12345)))).toUInt32 >>> (((nI 9)).toUInt32 &&& Int32.toUInt32 31)).toInt32) / (nI (k + 1)) * (nI (k + 1))))], (MH gm kept was isKept tape fed pos tlen flt ranking paper written pairs above below isDone dist rowv rowMany lsz itm weakAbove weakBelow))) rfl ?_
              have er_5 : ((((((((z * (nI 1103515245))) + (nI 12345)))).toUInt32 >>> (((nI 9)).toUInt32 &&& Int32.toUInt32 31)).toInt32) - (((((((z * (nI 1103515245))) + (nI 12345)))).toUInt32 >>> (((nI 9)).toUInt32 &&& Int32.toUInt32 31)).toInt32) / (nI (k + 1)) * (nI (k + 1))) = nI (z_dw (z * nI 1103515245 + nI 12345) k) := z_dw_eq _ _ (by omega)
              rw [er_5]
              refine e_steps 5 (σ' := (67, [(4, .int (nI (z_dw (z * nI 1103515245 + nI 12345) k))), (2, .int ((((z * (nI 1103515245))) + (nI 12345)))), (0, .ref 0), (1, .int seed), (3, .int (nI k))], [.int (nI k), .int (nI 4), .ref 1], (MH gm kept was isKept tape fed pos tlen flt ranking paper written pairs above below isDone dist rowv rowMany lsz itm weakAbove weakBelow))) rfl ?_
              refine e_add (4 + k) rfl (by first | rfl | omega) ?_
              refine e_steps 0 (σ' := (68, [(4, .int (nI (z_dw (z * nI 1103515245 + nI 12345) k))), (2, .int ((((z * (nI 1103515245))) + (nI 12345)))), (0, .ref 0), (1, .int seed), (3, .int (nI k))], [.int (nI (4 + k)), .ref 1], (MH gm kept was isKept tape fed pos tlen flt ranking paper written pairs above below isDone dist rowv rowMany lsz itm weakAbove weakBelow))) rfl ?_
              refine e_ial (nI (D k)) rfl rfl (by first | assumption | omega | rfl | trivial) (by decide) (hm2 _ (by omega)) ?_
              have hv_6 := z_D8 hm4a k (by omega)
              refine e_steps 5 (σ' := (77, [(5, .int (nI (D k))), (4, .int (nI (z_dw (z * nI 1103515245 + nI 12345) k))), (2, .int ((((z * (nI 1103515245))) + (nI 12345)))), (0, .ref 0), (1, .int seed), (3, .int (nI k))], [.int (nI k), .int (nI 4), .ref 1], (MH gm kept was isKept tape fed pos tlen flt ranking paper written pairs above below isDone dist rowv rowMany lsz itm weakAbove weakBelow))) rfl ?_
              refine e_add (4 + k) rfl (by first | rfl | omega) ?_
              refine e_steps 4 (σ' := (85, [(5, .int (nI (D k))), (4, .int (nI (z_dw (z * nI 1103515245 + nI 12345) k))), (2, .int ((((z * (nI 1103515245))) + (nI 12345)))), (0, .ref 0), (1, .int seed), (3, .int (nI k))], [.int (nI (z_dw (z * nI 1103515245 + nI 12345) k)), .int (nI 4), .ref 1, .int (nI (4 + k)), .ref 1], (MH gm kept was isKept tape fed pos tlen flt ranking paper written pairs above below isDone dist rowv rowMany lsz itm weakAbove weakBelow))) rfl ?_
              refine e_add (4 + z_dw (z * nI 1103515245 + nI 12345) k) rfl (by first | rfl | omega) ?_
              refine e_steps 0 (σ' := (86, [(5, .int (nI (D k))), (4, .int (nI (z_dw (z * nI 1103515245 + nI 12345) k))), (2, .int ((((z * (nI 1103515245))) + (nI 12345)))), (0, .ref 0), (1, .int seed), (3, .int (nI k))], [.int (nI (4 + z_dw (z * nI 1103515245 + nI 12345) k)), .ref 1, .int (nI (4 + k)), .ref 1], (MH gm kept was isKept tape fed pos tlen flt ranking paper written pairs above below isDone dist rowv rowMany lsz itm weakAbove weakBelow))) rfl ?_
              refine e_ial (nI (D (z_dw (z * nI 1103515245 + nI 12345) k))) rfl rfl (by first | assumption | omega | rfl | trivial) (by decide) (hm2 _ (by omega)) ?_
              have hv_7 := z_D8 hm4a (z_dw (z * nI 1103515245 + nI 12345) k) (by omega)
              refine e_steps 0 (σ' := (87, [(5, .int (nI (D k))), (4, .int (nI (z_dw (z * nI 1103515245 + nI 12345) k))), (2, .int ((((z * (nI 1103515245))) + (nI 12345)))), (0, .ref 0), (1, .int seed), (3, .int (nI k))], [.int (nI (D (z_dw (z * nI 1103515245 + nI 12345) k))), .int (nI (4 + k)), .ref 1], (MH gm kept was isKept tape fed pos tlen flt ranking paper written pairs above below isDone dist rowv rowMany lsz itm weakAbove weakBelow))) rfl ?_
              refine e_ias (MH (upd gm (4 + k) (nI (D (z_dw (z * nI 1103515245 + nI 12345) k)))) kept was isKept tape fed pos tlen flt ranking paper written pairs above below isDone dist rowv rowMany lsz itm weakAbove weakBelow) rfl rfl (by first | assumption | omega | rfl | trivial) (by decide) rfl ?_
              refine e_steps 4 (σ' := (95, [(5, .int (nI (D k))), (4, .int (nI (z_dw (z * nI 1103515245 + nI 12345) k))), (2, .int ((((z * (nI 1103515245))) + (nI 12345)))), (0, .ref 0), (1, .int seed), (3, .int (nI k))], [.int (nI (z_dw (z * nI 1103515245 + nI 12345) k)), .int (nI 4), .ref 1], (MH (upd gm (4 + k) (nI (D (z_dw (z * nI 1103515245 + nI 12345) k)))) kept was isKept tape fed pos tlen flt ranking paper written pairs above below isDone dist rowv rowMany lsz itm weakAbove weakBelow))) rfl ?_
              refine e_add (4 + z_dw (z * nI 1103515245 + nI 12345) k) rfl (by first | rfl | omega) ?_
              refine e_steps 1 (σ' := (98, [(5, .int (nI (D k))), (4, .int (nI (z_dw (z * nI 1103515245 + nI 12345) k))), (2, .int ((((z * (nI 1103515245))) + (nI 12345)))), (0, .ref 0), (1, .int seed), (3, .int (nI k))], [.int (nI (D k)), .int (nI (4 + z_dw (z * nI 1103515245 + nI 12345) k)), .ref 1], (MH (upd gm (4 + k) (nI (D (z_dw (z * nI 1103515245 + nI 12345) k)))) kept was isKept tape fed pos tlen flt ranking paper written pairs above below isDone dist rowv rowMany lsz itm weakAbove weakBelow))) rfl ?_
              refine e_ias (MH (upd (upd gm (4 + k) (nI (D (z_dw (z * nI 1103515245 + nI 12345) k)))) (4 + z_dw (z * nI 1103515245 + nI 12345) k) (nI (D k))) kept was isKept tape fed pos tlen flt ranking paper written pairs above below isDone dist rowv rowMany lsz itm weakAbove weakBelow) rfl rfl (by first | assumption | omega | rfl | trivial) (by decide) rfl ?_
              refine e_steps 0 (σ' := (99, [(5, .int (nI (D k))), (4, .int (nI (z_dw (z * nI 1103515245 + nI 12345) k))), (2, .int ((((z * (nI 1103515245))) + (nI 12345)))), (0, .ref 0), (1, .int seed), (3, .int (nI k))], [], (MH (upd (upd gm (4 + k) (nI (D (z_dw (z * nI 1103515245 + nI 12345) k)))) (4 + z_dw (z * nI 1103515245 + nI 12345) k) (nI (D k))) kept was isKept tape fed pos tlen flt ranking paper written pairs above below isDone dist rowv rowMany lsz itm weakAbove weakBelow))) rfl ?_
              refine e_dec (n := 0) rfl rfl rfl (k - 1) (by first | assumption | omega | rfl | trivial) (by first | assumption | omega | rfl | trivial) [(3, .int (nI (k - 1))), (5, .int (nI (D k))), (4, .int (nI (z_dw (z * nI 1103515245 + nI 12345) k))), (2, .int ((((z * (nI 1103515245))) + (nI 12345)))), (0, .ref 0), (1, .int seed)] rfl ?_
              refine e_steps 1 (σ' := (38, [(3, .int (nI (k - 1))), (5, .int (nI (D k))), (4, .int (nI (z_dw (z * nI 1103515245 + nI 12345) k))), (2, .int ((((z * (nI 1103515245))) + (nI 12345)))), (0, .ref 0), (1, .int seed)], [], (MH (upd (upd gm (4 + k) (nI (D (z_dw (z * nI 1103515245 + nI 12345) k)))) (4 + z_dw (z * nI 1103515245 + nI 12345) k) (nI (D k))) kept was isKept tape fed pos tlen flt ranking paper written pairs above below isDone dist rowv rowMany lsz itm weakAbove weakBelow))) rfl ?_
              refine e_sub [4, 5, 3, 0] rfl ?_
              exact ih_3 ((((z * (nI 1103515245))) + (nI 12345))) (k - 1) (upd (upd gm (4 + k) (nI (D (z_dw (z * nI 1103515245 + nI 12345) k)))) (4 + z_dw (z * nI 1103515245 + nI 12345) k) (nI (D k))) (z_swap D k (z_dw (z * nI 1103515245 + nI 12345) k)) (by omega) (by exact ⟨by omega, z_swap_step hm2, fun i hi => by rw [z_un (by omega), z_un (by omega)]; exact l3b i hi, z_perm_swap hm4a l1b (by omega), (z_shf_step z D (by assumption)).trans l5b⟩)
        refine e_sub [1, 2, 3, 0] rfl ?_
        exact loop_3 _ seed (n - 1) gl ((fun i => if i < n then i else dr i)) (Nat.lt_succ_self _) (by exact ⟨by omega, (by have hk : k = n := (by omega); subst hk; exact l2), l3, z_perm_init n dr, rfl⟩)
      · skip
        rw [nI_leI (by omega) (by omega)] at c_2
        refine e_steps 4 (σ' := (20, [(0, .ref 0), (1, .int seed), (2, .int seed), (3, .int (nI k))], [.int (nI k), .int (nI 4), .ref 1], (MH gl kept was isKept tape fed pos tlen flt ranking paper written pairs above below isDone dist rowv rowMany lsz itm weakAbove weakBelow))) rfl ?_
        refine e_add (4 + k) rfl (by first | rfl | omega) ?_
        refine e_steps 1 (σ' := (22, [(0, .ref 0), (1, .int seed), (2, .int seed), (3, .int (nI k))], [.int (nI k), .int (nI (4 + k)), .ref 1], (MH gl kept was isKept tape fed pos tlen flt ranking paper written pairs above below isDone dist rowv rowMany lsz itm weakAbove weakBelow))) rfl ?_
        refine e_ias (MH (upd gl (4 + k) (nI k)) kept was isKept tape fed pos tlen flt ranking paper written pairs above below isDone dist rowv rowMany lsz itm weakAbove weakBelow) rfl rfl (by first | assumption | omega | rfl | trivial) (by decide) rfl ?_
        refine e_steps 0 (σ' := (23, [(0, .ref 0), (1, .int seed), (2, .int seed), (3, .int (nI k))], [], (MH (upd gl (4 + k) (nI k)) kept was isKept tape fed pos tlen flt ranking paper written pairs above below isDone dist rowv rowMany lsz itm weakAbove weakBelow))) rfl ?_
        refine e_inc (n := 1) rfl rfl rfl (k + 1) (by rfl) [(3, .int (nI (k + 1))), (0, .ref 0), (1, .int seed), (2, .int seed)] rfl ?_
        refine e_steps 1 (σ' := (4, [(3, .int (nI (k + 1))), (0, .ref 0), (1, .int seed), (2, .int seed)], [], (MH (upd gl (4 + k) (nI k)) kept was isKept tape fed pos tlen flt ranking paper written pairs above below isDone dist rowv rowMany lsz itm weakAbove weakBelow))) rfl ?_
        refine e_sub [1, 2, 3, 0] rfl ?_
        exact ih_1 (k + 1) (upd gl (4 + k) (nI k)) (by omega) (by exact ⟨by omega, z_ini_step l2, fun i hi => by rw [z_un (by omega)]; exact l3 i hi⟩)
  refine e_sub [2, 3, 1, 0] rfl ?_
  exact loop_1 _ 0 g (Nat.lt_succ_self _) (by exact ⟨by omega, fun i hi => by rw [if_neg (by omega)]; exact hdr i hi, fun i _ => rfl⟩)
theorem c_X6_feed (d : Nat) {g : Nat → Int32} {kept : Nat → Int32} {was : Nat → Int32} {isKept : Int32} {tape : Nat → Int32} {fd : Nat} {ps : Nat} {tl : Nat} {flt : Int32} {ranking : Nat → Int32} {paper : Nat → Int32} {written : Int32} {pairs : Nat → Int64} {above : Nat → Int64} {below : Nat → Int64} {isDone : Nat → Int32} {dist : Nat → Int32} {rowv : Nat → Int32} {rowMany : Int32} {lsz : Nat → Int32} {itm : Nat → Int64} {weakAbove : Int64} {weakBelow : Int64} {letter : Int32} (hfd : fd ≤ 120) (hps : ps ≤ tl) (htl : tl ≤ 120) : z_CAL (d + 2) 148 [.ref 0, .int letter] (MH g kept was isKept tape (nI fd) (nI ps) (nI tl) flt ranking paper written pairs above below isDone dist rowv rowMany lsz itm weakAbove weakBelow) (fun r h2 => ∃ (tape2 : Nat → Int32) (fd2 : Nat) (v : Int32), r = some (.int v) ∧ h2 = (MH g kept was isKept tape2 (nI fd2) (nI ps) (nI tl) flt ranking paper written pairs above below isDone dist rowv rowMany lsz itm weakAbove weakBelow) ∧ (fd2 ≤ 120 ∧ ((¬ (∃ k, 1 ≤ k ∧ k ≤ 127 ∧ letter = nI k) ∧ v = -nI 2 ∧ fd2 = fd ∧ tape2 = tape) ∨ (∃ k, 1 ≤ k ∧ k ≤ 127 ∧ letter = nI k ∧ ((fd = 120 ∧ v = -nI 4 ∧ fd2 = fd ∧ tape2 = tape) ∨ (fd < 120 ∧ fd2 = fd + 1 ∧ v = nI fd2 ∧ tape2 = upd tape fd (nI k))))))) := by
  refine e_of2 (q := zmX6_feed) rfl rfl (fun R hR => ?_)
  refine e_steps 4 (σ' := (6, [(0, .ref 0), (1, .int letter)], [.long (lN 127), .long (lN 1), .long letter.toInt64], (MH g kept was isKept tape (nI fd) (nI ps) (nI tl) flt ranking paper written pairs above below isDone dist rowv rowMany lsz itm weakAbove weakBelow))) rfl ?_
  refine e_call (y := 129) (av := [.long letter.toInt64, .long (lN 1), .long (lN 127)]) (rest := []) rfl (c_X6_isIn (d + 0) ) (fun r_1 h_1 p_1 => ?_)
  obtain ⟨rfl, o_1⟩ := p_1
  rcases o_1 with ⟨rfl, o_1⟩ | ⟨rfl, o_1⟩
  · skip
    obtain ⟨kk, hk1, hk2, ek⟩ := z_in_nat2 (by omega) o_1; subst ek
    refine e_steps 4 (σ' := (21, [(0, .ref 0), (1, .int (nI kk))], [.int (nI 120), .int (nI fd)], (MH g kept was isKept tape (nI fd) (nI ps) (nI tl) flt ranking paper written pairs above below isDone dist rowv rowMany lsz itm weakAbove weakBelow))) rfl ?_
    refine e_if (c := ¬ nI fd = nI 120) rfl (fun c_2 => ?_) (fun c_2 => ?_)
    · skip
      rw [nI_eq (by omega) (by omega)] at c_2
      skip
      refine e_steps 5 (σ' := (36, [(0, .ref 0), (1, .int (nI kk))], [.int (nI kk), .int (nI fd), .ref 4], (MH g kept was isKept tape (nI fd) (nI ps) (nI tl) flt ranking paper written pairs above below isDone dist rowv rowMany lsz itm weakAbove weakBelow))) rfl ?_
      refine e_ias (MH g kept was isKept (upd tape fd (nI kk)) (nI fd) (nI ps) (nI tl) flt ranking paper written pairs above below isDone dist rowv rowMany lsz itm weakAbove weakBelow) rfl rfl (by first | assumption | omega | rfl | trivial) (by decide) rfl ?_
      refine e_steps 4 (σ' := (43, [(0, .ref 0), (1, .int (nI kk))], [.int (nI 1), .int (nI fd), .ref 0], (MH g kept was isKept (upd tape fd (nI kk)) (nI fd) (nI ps) (nI tl) flt ranking paper written pairs above below isDone dist rowv rowMany lsz itm weakAbove weakBelow))) rfl ?_
      refine e_add (fd + 1) rfl (by first | rfl | omega) ?_
      refine e_steps 3 (σ' := (51, [(0, .ref 0), (1, .int (nI kk))], [.int (nI (fd + 1))], (MH g kept was isKept (upd tape fd (nI kk)) (nI (fd + 1)) (nI ps) (nI tl) flt ranking paper written pairs above below isDone dist rowv rowMany lsz itm weakAbove weakBelow))) rfl ?_
      exact e_ret rfl (trivial) (hR _ _ ⟨upd tape fd (nI kk), fd + 1, (nI (fd + 1)), rfl, rfl, (by exact ⟨by omega, Or.inr ⟨kk, hk1, hk2, rfl, Or.inr ⟨by omega, rfl, rfl, rfl⟩⟩⟩)⟩)
    · skip
      rw [nI_eq (by omega) (by omega)] at c_2
      replace c_2 := Decidable.not_not.mp c_2
      refine e_steps 1 (σ' := (26, [(0, .ref 0), (1, .int (nI kk))], [.int ((-nI 4))], (MH g kept was isKept tape (nI fd) (nI ps) (nI tl) flt ranking paper written pairs above below isDone dist rowv rowMany lsz itm weakAbove weakBelow))) rfl ?_
      exact e_ret rfl (trivial) (hR _ _ ⟨tape, fd, ((-nI 4)), rfl, rfl, (by exact ⟨hfd, Or.inr ⟨kk, hk1, hk2, rfl, Or.inl ⟨by assumption, rfl, rfl, rfl⟩⟩⟩)⟩)
  · skip
    refine e_steps 2 (σ' := (14, [(0, .ref 0), (1, .int letter)], [.int ((-nI 2))], (MH g kept was isKept tape (nI fd) (nI ps) (nI tl) flt ranking paper written pairs above below isDone dist rowv rowMany lsz itm weakAbove weakBelow))) rfl ?_
    exact e_ret rfl (trivial) (hR _ _ ⟨tape, fd, ((-nI 2)), rfl, rfl, (by exact ⟨hfd, Or.inl ⟨fun ⟨k, h1, h2, e⟩ => o_1 (by rw [e]; exact z_nat_in2 (by omega) h1 h2), rfl, rfl, rfl⟩⟩)⟩)
theorem c_X6_clear (d : Nat) {g : Nat → Int32} {kept : Nat → Int32} {was : Nat → Int32} {isKept : Int32} {tape : Nat → Int32} {fd : Nat} {ps : Nat} {tl : Nat} {flt : Int32} {ranking : Nat → Int32} {paper : Nat → Int32} {written : Int32} {pairs : Nat → Int64} {above : Nat → Int64} {below : Nat → Int64} {isDone : Nat → Int32} {dist : Nat → Int32} {rowv : Nat → Int32} {rowMany : Int32} {lsz : Nat → Int32} {itm : Nat → Int64} {weakAbove : Int64} {weakBelow : Int64} (hfd : fd ≤ 120) (hps : ps ≤ tl) (htl : tl ≤ 120) : z_CAL (d + 1) 149 [.ref 0] (MH g kept was isKept tape (nI fd) (nI ps) (nI tl) flt ranking paper written pairs above below isDone dist rowv rowMany lsz itm weakAbove weakBelow) (fun r h2 => r = some (.int (nI fd)) ∧ h2 = (MH g kept was isKept tape (nI 0) (nI ps) (nI tl) flt ranking paper written pairs above below isDone dist rowv rowMany lsz itm weakAbove weakBelow)) := by
  refine e_of2 (q := zmX6_clear) rfl rfl (fun R hR => ?_)
  refine e_steps 7 (σ' := (11, [(1, .int (nI fd)), (0, .ref 0)], [.int (nI fd)], (MH g kept was isKept tape (nI 0) (nI ps) (nI tl) flt ranking paper written pairs above below isDone dist rowv rowMany lsz itm weakAbove weakBelow))) rfl ?_
  exact e_ret rfl (trivial) (hR _ _ ⟨(by rfl), rfl⟩)
theorem c_X6_reads (d : Nat) {g : Nat → Int32} {kept : Nat → Int32} {was : Nat → Int32} {isKept : Int32} {tape : Nat → Int32} {fd : Nat} {ps : Nat} {tl : Nat} {flt : Int32} {ranking : Nat → Int32} {paper : Nat → Int32} {written : Int32} {pairs : Nat → Int64} {above : Nat → Int64} {below : Nat → Int64} {isDone : Nat → Int32} {dist : Nat → Int32} {rowv : Nat → Int32} {rowMany : Int32} {lsz : Nat → Int32} {itm : Nat → Int64} {weakAbove : Int64} {weakBelow : Int64} (hfd : fd ≤ 120) (hps : ps ≤ tl) (htl : tl ≤ 120) : z_CAL (d + 1) 150 [.ref 0] (MH g kept was isKept tape (nI fd) (nI ps) (nI tl) flt ranking paper written pairs above below isDone dist rowv rowMany lsz itm weakAbove weakBelow) (fun r h2 => r = none ∧ h2 = (MH g kept was isKept tape (nI 0) (nI 0) (nI fd) ((-nI 1)) ranking paper written pairs above below isDone dist rowv rowMany lsz itm weakAbove weakBelow)) := by
  refine e_of2 (q := zmX6_reads) rfl rfl (fun R hR => ?_)
  refine e_steps 13 (σ' := (23, [(0, .ref 0)], [], (MH g kept was isKept tape (nI 0) (nI 0) (nI fd) ((-nI 1)) ranking paper written pairs above below isDone dist rowv rowMany lsz itm weakAbove weakBelow))) rfl ?_
  exact e_ret rfl (trivial) (hR _ _ ⟨rfl, rfl⟩)
theorem c_X6_goes (d : Nat) {gz : Nat → Int32} {kept : Nat → Int32} {was : Nat → Int32} {isKept : Int32} {tape : Nat → Int32} {fed : Int32} {pos : Int32} {tlen : Int32} {flt : Int32} {ranking : Nat → Int32} {paper : Nat → Int32} {written : Int32} {pairs : Nat → Int64} {above : Nat → Int64} {below : Nat → Int64} {isDone : Nat → Int32} {dist : Nat → Int32} {rowv : Nat → Int32} {rowMany : Int32} {lsz : Nat → Int32} {itm : Nat → Int64} {weakAbove : Int64} {weakBelow : Int64} {b : Nat} {n : Nat} {outs : Nat} {bm : Nat} {ms : Nat} {dr : Nat → Nat} {cn : Nat → Nat} {pl : Nat → Nat → Nat} {g : Nat → Int32} (hG : z_GI g n outs bm ms dr cn pl) (hb : b < bm) (he : ∀ i, i ≠ 12 + b → gz i = g i) : z_CAL (d + 1) 162 [.ref 0, .int (nI b)] (MH gz kept was isKept tape fed pos tlen flt ranking paper written pairs above below isDone dist rowv rowMany lsz itm weakAbove weakBelow) (fun r h2 => ∃ (g2 : Nat → Int32), r = none ∧ h2 = (MH g2 kept was isKept tape fed pos tlen flt ranking paper written pairs above below isDone dist rowv rowMany lsz itm weakAbove weakBelow) ∧ (z_GI g2 n outs (bm - 1) ms dr (fun x => if x < b then cn x else cn (x + 1)) (fun x => if x < b then pl x else pl (x + 1)))) := by
  refine e_of2 (q := zmX6_goes) rfl rfl (fun R hR => ?_)
  obtain ⟨⟨hn0, hn2, hn8⟩, ⟨ho0, ho8, hin⟩, ⟨hb0, hb40⟩, ⟨hm0, hm4⟩, ⟨hdr, hdl, hdc⟩, hcn, hpl⟩ := id hG; have hp8 := z_p2 hn8; have ho256 : outs < 256 := (by omega); have hi256 : z_dif (2 ^ n - 1) outs < 256 := (by have := z_dif_le (s := 2 ^ n - 1) (t := outs); omega)
  refine e_steps 2 (σ' := (2, [(2, .int (nI b)), (0, .ref 0), (1, .int (nI b))], [], (MH gz kept was isKept tape fed pos tlen flt ranking paper written pairs above below isDone dist rowv rowMany lsz itm weakAbove weakBelow))) rfl ?_
  have loop_1 : ∀ (z_1 : Nat) (k : Nat) (gl : Nat → Int32), bm - k < z_1 → (b ≤ k ∧ k < bm ∧ (∀ x, b ≤ x → x < k → gl (12 + x) = g (12 + (x + 1)) ∧ ∀ c, c < 8 → gl (52 + 8 * x + c) = g (52 + 8 * (x + 1) + c)) ∧ ∀ i, (i < 12 + b ∨ (12 + k < i ∧ i < 52 + 8 * b) ∨ 52 + 8 * k ≤ i) → gl i = g i) → z_EV (d + 0) zmX6_goes R (2, [(0, .ref 0), (1, .int (nI b)), (2, .int (nI k))], [], (MH gl kept was isKept tape fed pos tlen flt ranking paper written pairs above below isDone dist rowv rowMany lsz itm weakAbove weakBelow)) := by
    intro z_1
    induction z_1 with
    | zero => intro k gl hm_1 _; exact absurd hm_1 (Nat.not_lt_zero _)
    | succ z_1 ih_1 =>
      intro k gl hm_1 hi_1
      obtain ⟨l1, l2, l3, l4⟩ := hi_1; have hl2 : gl 2 = nI bm := (l4 2 (by omega)).trans hb0
      refine e_steps 4 (σ' := (8, [(0, .ref 0), (1, .int (nI b)), (2, .int (nI k))], [.int (nI 2), .ref 1, .int (nI k)], (MH gl kept was isKept tape fed pos tlen flt ranking paper written pairs above below isDone dist rowv rowMany lsz itm weakAbove weakBelow))) rfl ?_
      refine e_ial (nI bm) rfl rfl (by omega) (by decide) (hl2) ?_
      refine e_steps 1 (σ' := (10, [(0, .ref 0), (1, .int (nI b)), (2, .int (nI k))], [.int (nI 1), .int (nI bm), .int (nI k)], (MH gl kept was isKept tape fed pos tlen flt ranking paper written pairs above below isDone dist rowv rowMany lsz itm weakAbove weakBelow))) rfl ?_
      refine e_sbt (bm - 1) rfl (by first | assumption | omega | rfl | trivial) (by first | rfl | omega) ?_
      refine e_steps 0 (σ' := (11, [(0, .ref 0), (1, .int (nI b)), (2, .int (nI k))], [.int (nI (bm - 1)), .int (nI k)], (MH gl kept was isKept tape fed pos tlen flt ranking paper written pairs above below isDone dist rowv rowMany lsz itm weakAbove weakBelow))) rfl ?_
      refine e_if (c := nI (bm - 1) ≤ nI k) rfl (fun c_2 => ?_) (fun c_2 => ?_)
      · skip
        rw [nI_leI (by omega) (by omega)] at c_2
        refine e_steps 4 (σ' := (90, [(0, .ref 0), (1, .int (nI b)), (2, .int (nI k))], [.int (nI 2), .ref 1, .int (nI 2), .ref 1], (MH gl kept was isKept tape fed pos tlen flt ranking paper written pairs above below isDone dist rowv rowMany lsz itm weakAbove weakBelow))) rfl ?_
        refine e_ial (nI bm) rfl rfl (by first | assumption | omega | rfl | trivial) (by decide) (hl2) ?_
        refine e_steps 1 (σ' := (92, [(0, .ref 0), (1, .int (nI b)), (2, .int (nI k))], [.int (nI 1), .int (nI bm), .int (nI 2), .ref 1], (MH gl kept was isKept tape fed pos tlen flt ranking paper written pairs above below isDone dist rowv rowMany lsz itm weakAbove weakBelow))) rfl ?_
        refine e_sbt (bm - 1) rfl (by first | assumption | omega | rfl | trivial) (by first | rfl | omega) ?_
        refine e_steps 0 (σ' := (93, [(0, .ref 0), (1, .int (nI b)), (2, .int (nI k))], [.int (nI (bm - 1)), .int (nI 2), .ref 1], (MH gl kept was isKept tape fed pos tlen flt ranking paper written pairs above below isDone dist rowv rowMany lsz itm weakAbove weakBelow))) rfl ?_
        refine e_ias (MH (upd gl 2 (nI (bm - 1))) kept was isKept tape fed pos tlen flt ranking paper written pairs above below isDone dist rowv rowMany lsz itm weakAbove weakBelow) rfl rfl (by first | assumption | omega | rfl | trivial) (by decide) rfl ?_
        refine e_steps 0 (σ' := (94, [(0, .ref 0), (1, .int (nI b)), (2, .int (nI k))], [], (MH (upd gl 2 (nI (bm - 1))) kept was isKept tape fed pos tlen flt ranking paper written pairs above below isDone dist rowv rowMany lsz itm weakAbove weakBelow))) rfl ?_
        exact e_ret rfl (trivial) (hR _ _ ⟨upd gl 2 (nI (bm - 1)), rfl, rfl, (by exact z_GI_pop hG hb pk_us (fun x h1 h2 => by rw [z_un (by omega)]; exact ⟨(l3 x h1 (by omega)).1, fun c hc => by rw [z_un (by omega)]; exact (l3 x h1 (by omega)).2 c hc⟩) (fun i h1 h2 => by rw [z_un h1]; exact l4 i (by omega)))⟩)
      · skip
        rw [nI_leI (by omega) (by omega)] at c_2
        refine e_steps 4 (σ' := (21, [(0, .ref 0), (1, .int (nI b)), (2, .int (nI k))], [.int (nI k), .int (nI 12), .ref 1], (MH gl kept was isKept tape fed pos tlen flt ranking paper written pairs above below isDone dist rowv rowMany lsz itm weakAbove weakBelow))) rfl ?_
        refine e_add (12 + k) rfl (by first | rfl | omega) ?_
        refine e_steps 4 (σ' := (29, [(0, .ref 0), (1, .int (nI b)), (2, .int (nI k))], [.int (nI k), .int (nI 12), .ref 1, .int (nI (12 + k)), .ref 1], (MH gl kept was isKept tape fed pos tlen flt ranking paper written pairs above below isDone dist rowv rowMany lsz itm weakAbove weakBelow))) rfl ?_
        refine e_add (12 + k) rfl (by first | rfl | omega) ?_
        refine e_steps 1 (σ' := (31, [(0, .ref 0), (1, .int (nI b)), (2, .int (nI k))], [.int (nI 1), .int (nI (12 + k)), .ref 1, .int (nI (12 + k)), .ref 1], (MH gl kept was isKept tape fed pos tlen flt ranking paper written pairs above below isDone dist rowv rowMany lsz itm weakAbove weakBelow))) rfl ?_
        refine e_add (12 + k + 1) rfl (by first | rfl | omega) ?_
        refine e_steps 0 (σ' := (32, [(0, .ref 0), (1, .int (nI b)), (2, .int (nI k))], [.int (nI (12 + k + 1)), .ref 1, .int (nI (12 + k)), .ref 1], (MH gl kept was isKept tape fed pos tlen flt ranking paper written pairs above below isDone dist rowv rowMany lsz itm weakAbove weakBelow))) rfl ?_
        refine e_ial (gl (12 + k + 1)) rfl rfl (by first | assumption | omega | rfl | trivial) (by decide) (rfl) ?_
        refine e_steps 0 (σ' := (33, [(0, .ref 0), (1, .int (nI b)), (2, .int (nI k))], [.int ((gl (12 + k + 1))), .int (nI (12 + k)), .ref 1], (MH gl kept was isKept tape fed pos tlen flt ranking paper written pairs above below isDone dist rowv rowMany lsz itm weakAbove weakBelow))) rfl ?_
        refine e_ias (MH (upd gl (12 + k) ((gl (12 + k + 1)))) kept was isKept tape fed pos tlen flt ranking paper written pairs above below isDone dist rowv rowMany lsz itm weakAbove weakBelow) rfl rfl (by first | assumption | omega | rfl | trivial) (by decide) rfl ?_
        refine e_steps 2 (σ' := (36, [(3, .int (nI 0)), (0, .ref 0), (1, .int (nI b)), (2, .int (nI k))], [], (MH (upd gl (12 + k) ((gl (12 + k + 1)))) kept was isKept tape fed pos tlen flt ranking paper written pairs above below isDone dist rowv rowMany lsz itm weakAbove weakBelow))) rfl ?_
        have loop_3 : ∀ (z_3 : Nat) (c : Nat) (gm : Nat → Int32), 8 - c < z_3 → (c ≤ 8 ∧ (∀ i, i < c → gm (52 + 8 * k + i) = g (52 + 8 * (k + 1) + i)) ∧ gm (12 + k) = g (12 + (k + 1)) ∧ ∀ i, i ≠ 12 + k → (i < 52 + 8 * k ∨ 52 + 8 * k + 8 ≤ i) → gm i = gl i) → z_EV (d + 0) zmX6_goes R (36, [(0, .ref 0), (1, .int (nI b)), (2, .int (nI k)), (3, .int (nI c))], [], (MH gm kept was isKept tape fed pos tlen flt ranking paper written pairs above below isDone dist rowv rowMany lsz itm weakAbove weakBelow)) := by
          intro z_3
          induction z_3 with
          | zero => intro c gm hm_3 _; exact absurd hm_3 (Nat.not_lt_zero _)
          | succ z_3 ih_3 =>
            intro c gm hm_3 hi_3
            obtain ⟨m1, m2, m3, m4⟩ := hi_3
            refine e_steps 2 (σ' := (39, [(0, .ref 0), (1, .int (nI b)), (2, .int (nI k)), (3, .int (nI c))], [.int (nI 8), .int (nI c)], (MH gm kept was isKept tape fed pos tlen flt ranking paper written pairs above below isDone dist rowv rowMany lsz itm weakAbove weakBelow))) rfl ?_
            refine e_if (c := nI 8 ≤ nI c) rfl (fun c_4 => ?_) (fun c_4 => ?_)
            · skip
              rw [nI_leI (by omega) (by omega)] at c_4
              refine e_steps 0 (σ' := (78, [(0, .ref 0), (1, .int (nI b)), (2, .int (nI k)), (3, .int (nI c))], [], (MH gm kept was isKept tape fed pos tlen flt ranking paper written pairs above below isDone dist rowv rowMany lsz itm weakAbove weakBelow))) rfl ?_
              refine e_inc (n := 1) rfl rfl rfl (k + 1) (by rfl) [(2, .int (nI (k + 1))), (0, .ref 0), (1, .int (nI b)), (3, .int (nI c))] rfl ?_
              refine e_steps 1 (σ' := (2, [(2, .int (nI (k + 1))), (0, .ref 0), (1, .int (nI b)), (3, .int (nI c))], [], (MH gm kept was isKept tape fed pos tlen flt ranking paper written pairs above below isDone dist rowv rowMany lsz itm weakAbove weakBelow))) rfl ?_
              refine e_sub [1, 2, 0] rfl ?_
              exact ih_1 (k + 1) gm (by omega) (by refine ⟨by omega, by omega, fun x h1 h2 => ?_, fun i hi => ?_⟩; (rcases (by omega : x < k ∨ x = k) with h | h; (exact ⟨(m4 _ (by omega) (by omega)).trans (l3 x h1 h).1, fun c hc => (m4 _ (by omega) (by omega)).trans ((l3 x h1 h).2 c hc)⟩); (subst h; exact ⟨m3, fun c hc => m2 c (by omega)⟩)); (rw [m4 i (by omega) (by omega)]; exact l4 i (by omega)))
            · skip
              rw [nI_leI (by omega) (by omega)] at c_4
              refine e_steps 5 (σ' := (51, [(0, .ref 0), (1, .int (nI b)), (2, .int (nI k)), (3, .int (nI c))], [.int (nI k), .int (nI 8), .int (nI 52), .ref 1], (MH gm kept was isKept tape fed pos tlen flt ranking paper written pairs above below isDone dist rowv rowMany lsz itm weakAbove weakBelow))) rfl ?_
              refine e_mul (8 * k) rfl (by first | rfl | omega | simp) ?_
              refine e_steps 0 (σ' := (52, [(0, .ref 0), (1, .int (nI b)), (2, .int (nI k)), (3, .int (nI c))], [.int (nI (8 * k)), .int (nI 52), .ref 1], (MH gm kept was isKept tape fed pos tlen flt ranking paper written pairs above below isDone dist rowv rowMany lsz itm weakAbove weakBelow))) rfl ?_
              refine e_add (52 + 8 * k) rfl (by first | rfl | omega) ?_
              refine e_steps 1 (σ' := (54, [(0, .ref 0), (1, .int (nI b)), (2, .int (nI k)), (3, .int (nI c))], [.int (nI c), .int (nI (52 + 8 * k)), .ref 1], (MH gm kept was isKept tape fed pos tlen flt ranking paper written pairs above below isDone dist rowv rowMany lsz itm weakAbove weakBelow))) rfl ?_
              refine e_add (52 + 8 * k + c) rfl (by first | rfl | omega) ?_
              refine e_steps 6 (σ' := (65, [(0, .ref 0), (1, .int (nI b)), (2, .int (nI k)), (3, .int (nI c))], [.int (nI 1), .int (nI k), .int (nI 8), .int (nI 52), .ref 1, .int (nI (52 + 8 * k + c)), .ref 1], (MH gm kept was isKept tape fed pos tlen flt ranking paper written pairs above below isDone dist rowv rowMany lsz itm weakAbove weakBelow))) rfl ?_
              refine e_add (k + 1) rfl (by first | rfl | omega) ?_
              refine e_steps 0 (σ' := (66, [(0, .ref 0), (1, .int (nI b)), (2, .int (nI k)), (3, .int (nI c))], [.int (nI (k + 1)), .int (nI 8), .int (nI 52), .ref 1, .int (nI (52 + 8 * k + c)), .ref 1], (MH gm kept was isKept tape fed pos tlen flt ranking paper written pairs above below isDone dist rowv rowMany lsz itm weakAbove weakBelow))) rfl ?_
              refine e_mul (8 * (k + 1)) rfl (by first | rfl | omega | simp) ?_
              refine e_steps 0 (σ' := (67, [(0, .ref 0), (1, .int (nI b)), (2, .int (nI k)), (3, .int (nI c))], [.int (nI (8 * (k + 1))), .int (nI 52), .ref 1, .int (nI (52 + 8 * k + c)), .ref 1], (MH gm kept was isKept tape fed pos tlen flt ranking paper written pairs above below isDone dist rowv rowMany lsz itm weakAbove weakBelow))) rfl ?_
              refine e_add (52 + 8 * (k + 1)) rfl (by first | rfl | omega) ?_
              refine e_steps 1 (σ' := (69, [(0, .ref 0), (1, .int (nI b)), (2, .int (nI k)), (3, .int (nI c))], [.int (nI c), .int (nI (52 + 8 * (k + 1))), .ref 1, .int (nI (52 + 8 * k + c)), .ref 1], (MH gm kept was isKept tape fed pos tlen flt ranking paper written pairs above below isDone dist rowv rowMany lsz itm weakAbove weakBelow))) rfl ?_
              refine e_add (52 + 8 * (k + 1) + c) rfl (by first | rfl | omega) ?_
              refine e_steps 0 (σ' := (70, [(0, .ref 0), (1, .int (nI b)), (2, .int (nI k)), (3, .int (nI c))], [.int (nI (52 + 8 * (k + 1) + c)), .ref 1, .int (nI (52 + 8 * k + c)), .ref 1], (MH gm kept was isKept tape fed pos tlen flt ranking paper written pairs above below isDone dist rowv rowMany lsz itm weakAbove weakBelow))) rfl ?_
              refine e_ial (gm (52 + 8 * (k + 1) + c)) rfl rfl (by first | assumption | omega | rfl | trivial) (by decide) (rfl) ?_
              refine e_steps 0 (σ' := (71, [(0, .ref 0), (1, .int (nI b)), (2, .int (nI k)), (3, .int (nI c))], [.int ((gm (52 + 8 * (k + 1) + c))), .int (nI (52 + 8 * k + c)), .ref 1], (MH gm kept was isKept tape fed pos tlen flt ranking paper written pairs above below isDone dist rowv rowMany lsz itm weakAbove weakBelow))) rfl ?_
              refine e_ias (MH (upd gm (52 + 8 * k + c) ((gm (52 + 8 * (k + 1) + c)))) kept was isKept tape fed pos tlen flt ranking paper written pairs above below isDone dist rowv rowMany lsz itm weakAbove weakBelow) rfl rfl (by first | assumption | omega | rfl | trivial) (by decide) rfl ?_
              refine e_steps 0 (σ' := (72, [(0, .ref 0), (1, .int (nI b)), (2, .int (nI k)), (3, .int (nI c))], [], (MH (upd gm (52 + 8 * k + c) ((gm (52 + 8 * (k + 1) + c)))) kept was isKept tape fed pos tlen flt ranking paper written pairs above below isDone dist rowv rowMany lsz itm weakAbove weakBelow))) rfl ?_
              refine e_inc (n := 1) rfl rfl rfl (c + 1) (by rfl) [(3, .int (nI (c + 1))), (0, .ref 0), (1, .int (nI b)), (2, .int (nI k))] rfl ?_
              refine e_steps 1 (σ' := (36, [(3, .int (nI (c + 1))), (0, .ref 0), (1, .int (nI b)), (2, .int (nI k))], [], (MH (upd gm (52 + 8 * k + c) ((gm (52 + 8 * (k + 1) + c)))) kept was isKept tape fed pos tlen flt ranking paper written pairs above below isDone dist rowv rowMany lsz itm weakAbove weakBelow))) rfl ?_
              refine e_sub [1, 2, 3, 0] rfl ?_
              exact ih_3 (c + 1) (upd gm (52 + 8 * k + c) ((gm (52 + 8 * (k + 1) + c)))) (by omega) (by exact ⟨by omega, z_up1 m2 ((m4 _ (by omega) (by omega)).trans (l4 _ (by omega))), by rw [z_un (by omega)]; exact m3, fun i h1 h2 => by rw [z_un (by omega)]; exact m4 i h1 h2⟩)
        refine e_sub [1, 2, 3, 0] rfl ?_
        exact loop_3 _ 0 (upd gl (12 + k) ((gl (12 + k + 1)))) (Nat.lt_succ_self _) (by exact ⟨by omega, fun i hi => absurd hi (Nat.not_lt_zero i), by rw [pk_us]; exact l4 _ (by omega), fun i hi _ => z_un hi⟩)
  refine e_sub [1, 2, 0] rfl ?_
  exact loop_1 _ b gz (Nat.lt_succ_self _) (by exact ⟨Nat.le_refl _, hb, fun x h1 h2 => absurd h2 (by omega), fun i hi => he i (by omega)⟩)
theorem c_X6_places (d : Nat) {g : Nat → Int32} {kept : Nat → Int32} {was : Nat → Int32} {isKept : Int32} {tape : Nat → Int32} {fed : Int32} {pos : Int32} {tlen : Int32} {flt : Int32} {ranking : Nat → Int32} {paper : Nat → Int32} {written : Int32} {pairs : Nat → Int64} {above : Nat → Int64} {below : Nat → Int64} {isDone : Nat → Int32} {dist : Nat → Int32} {rowv : Nat → Int32} {rowMany : Int32} {lsz : Nat → Int32} {itm : Nat → Int64} {weakAbove : Int64} {weakBelow : Int64} {b : Nat} {n : Nat} {outs : Nat} {bm : Nat} {ms : Nat} {dr : Nat → Nat} {cn : Nat → Nat} {pl : Nat → Nat → Nat} (hG : z_GI g n outs bm ms dr cn pl) (hb : b < bm) : z_CAL (d + 2) 164 [.ref 0, .int (nI b)] (MH g kept was isKept tape fed pos tlen flt ranking paper written pairs above below isDone dist rowv rowMany lsz itm weakAbove weakBelow) (fun r h2 => r = some (.int (nI (z_mx n (pl b) + 1))) ∧ h2 = (MH g kept was isKept tape fed pos tlen flt ranking paper written pairs above below isDone dist rowv rowMany lsz itm weakAbove weakBelow)) := by
  refine e_of2 (q := zmX6_places) rfl rfl (fun R hR => ?_)
  obtain ⟨⟨hn0, hn2, hn8⟩, ⟨ho0, ho8, hin⟩, ⟨hb0, hb40⟩, ⟨hm0, hm4⟩, ⟨hdr, hdl, hdc⟩, hcn, hpl⟩ := id hG; have hp8 := z_p2 hn8; have ho256 : outs < 256 := (by omega); have hi256 : z_dif (2 ^ n - 1) outs < 256 := (by have := z_dif_le (s := 2 ^ n - 1) (t := outs); omega)
  refine e_steps 4 (σ' := (4, [(3, .int (nI 0)), (2, .int (nI 0)), (0, .ref 0), (1, .int (nI b))], [], (MH g kept was isKept tape fed pos tlen flt ranking paper written pairs above below isDone dist rowv rowMany lsz itm weakAbove weakBelow))) rfl ?_
  have loop_1 : ∀ (z_1 : Nat) (mo : Nat) (c : Nat), n - c < z_1 → (c ≤ n ∧ mo = z_mx c (pl b)) → z_EV (d + 1) zmX6_places R (4, [(0, .ref 0), (1, .int (nI b)), (2, .int (nI mo)), (3, .int (nI c))], [], (MH g kept was isKept tape fed pos tlen flt ranking paper written pairs above below isDone dist rowv rowMany lsz itm weakAbove weakBelow)) := by
    intro z_1
    induction z_1 with
    | zero => intro mo c hm_1 _; exact absurd hm_1 (Nat.not_lt_zero _)
    | succ z_1 ih_1 =>
      intro mo c hm_1 hi_1
      obtain ⟨l1, l2⟩ := hi_1; have hmx : mo ≤ 8 := (by rw [l2]; exact z_mx_le (fun i hi => by have := (hpl b hb).2.1 i (by omega); omega))
      refine e_steps 4 (σ' := (10, [(0, .ref 0), (1, .int (nI b)), (2, .int (nI mo)), (3, .int (nI c))], [.int (nI 0), .ref 1, .int (nI c)], (MH g kept was isKept tape fed pos tlen flt ranking paper written pairs above below isDone dist rowv rowMany lsz itm weakAbove weakBelow))) rfl ?_
      refine e_ial (nI n) rfl rfl (by first | assumption | omega | rfl | trivial) (by decide) (hn0) ?_
      refine e_steps 0 (σ' := (11, [(0, .ref 0), (1, .int (nI b)), (2, .int (nI mo)), (3, .int (nI c))], [.int (nI n), .int (nI c)], (MH g kept was isKept tape fed pos tlen flt ranking paper written pairs above below isDone dist rowv rowMany lsz itm weakAbove weakBelow))) rfl ?_
      refine e_if (c := nI n ≤ nI c) rfl (fun c_2 => ?_) (fun c_2 => ?_)
      · skip
        rw [nI_leI (by omega) (by omega)] at c_2
        refine e_steps 2 (σ' := (33, [(0, .ref 0), (1, .int (nI b)), (2, .int (nI mo)), (3, .int (nI c))], [.int (nI 1), .int (nI mo)], (MH g kept was isKept tape fed pos tlen flt ranking paper written pairs above below isDone dist rowv rowMany lsz itm weakAbove weakBelow))) rfl ?_
        refine e_add (mo + 1) rfl (by first | rfl | omega) ?_
        refine e_steps 0 (σ' := (34, [(0, .ref 0), (1, .int (nI b)), (2, .int (nI mo)), (3, .int (nI c))], [.int (nI (mo + 1))], (MH g kept was isKept tape fed pos tlen flt ranking paper written pairs above below isDone dist rowv rowMany lsz itm weakAbove weakBelow))) rfl ?_
        exact e_ret rfl (trivial) (hR _ _ ⟨(by (have e : c = n := (by omega)); subst e; rw [l2]), rfl⟩)
      · skip
        rw [nI_leI (by omega) (by omega)] at c_2
        refine e_steps 4 (σ' := (18, [(0, .ref 0), (1, .int (nI b)), (2, .int (nI mo)), (3, .int (nI c))], [.int (nI c), .int (nI b), .ref 0, .int (nI mo)], (MH g kept was isKept tape fed pos tlen flt ranking paper written pairs above below isDone dist rowv rowMany lsz itm weakAbove weakBelow))) rfl ?_
        refine e_call (y := 139) (av := [.ref 0, .int (nI b), .int (nI c)]) (rest := [.int (nI mo)]) rfl (c_X6_placeOf (d + 0) (n := n) (outs := outs) (bm := bm) (ms := ms) (dr := dr) (cn := cn) (pl := pl) (by first | assumption | omega | rfl | trivial) (by first | assumption | omega | rfl | trivial) (by first | assumption | omega | rfl | trivial)) (fun r_3 h_3 p_3 => ?_)
        obtain ⟨rfl, rfl⟩ := p_3
        refine e_steps 0 (σ' := (21, [(0, .ref 0), (1, .int (nI b)), (2, .int (nI mo)), (3, .int (nI c))], [.int (nI (pl b c)), .int (nI mo)], (MH g kept was isKept tape fed pos tlen flt ranking paper written pairs above below isDone dist rowv rowMany lsz itm weakAbove weakBelow))) rfl ?_
        have hpb := (hpl b hb).2.1 c (by omega)
        refine e_call (y := 240) (av := [.int (nI mo), .int (nI (pl b c))]) (rest := []) rfl (c_J9_max_7cf53_N (d + 0) (by first | assumption | omega | rfl | trivial) (by first | assumption | omega | rfl | trivial)) (fun r_4 h_4 p_4 => ?_)
        obtain ⟨rfl, rfl⟩ := p_4
        refine e_steps 1 (σ' := (25, [(2, .int (nI (max mo (pl b c)))), (0, .ref 0), (1, .int (nI b)), (3, .int (nI c))], [], (MH g kept was isKept tape fed pos tlen flt ranking paper written pairs above below isDone dist rowv rowMany lsz itm weakAbove weakBelow))) rfl ?_
        refine e_inc (n := 1) rfl rfl rfl (c + 1) (by rfl) [(3, .int (nI (c + 1))), (2, .int (nI (max mo (pl b c)))), (0, .ref 0), (1, .int (nI b))] rfl ?_
        refine e_steps 1 (σ' := (4, [(3, .int (nI (c + 1))), (2, .int (nI (max mo (pl b c)))), (0, .ref 0), (1, .int (nI b))], [], (MH g kept was isKept tape fed pos tlen flt ranking paper written pairs above below isDone dist rowv rowMany lsz itm weakAbove weakBelow))) rfl ?_
        refine e_sub [2, 3, 1, 0] rfl ?_
        exact ih_1 (max mo (pl b c)) (c + 1) (by omega) (by exact ⟨by omega, by rw [l2]; rfl⟩)
  refine e_sub [2, 3, 1, 0] rfl ?_
  exact loop_1 _ 0 0 (Nat.lt_succ_self _) (by exact ⟨by omega, rfl⟩)
