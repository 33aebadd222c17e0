/-! the reference: its methods over the pure machine -/
def MH (g : Nat → Int32) (kept : Nat → Int32) (was : Nat → Int32) (isKept : Int32) (tape : Nat → Int32) (fed : Int32) (pos : Int32) (tlen : Int32) (flt : Int32) (ranking : Nat → Int32) (paper : Nat → Int32) (written : Int32) (pairs : Nat → Int64) (above : Nat → Int64) (below : Nat → Int64) (isDone : Nat → Int32) (dist : Nat → Int32) (rowv : Nat → Int32) (rowMany : Int32) (lsz : Nat → Int32) (itm : Nat → Int64) (weakAbove : Int64) (weakBelow : Int64) : List z_E := [.inr (6, [.ref 1, .ref 2, .ref 3, .int isKept, .ref 4, .int fed, .int pos, .int tlen, .int flt, .ref 5, .ref 6, .int written, .ref 7, .ref 8, .ref 9, .ref 10, .ref 11, .ref 12, .int rowMany, .ref 13, .ref 14, .long weakAbove, .long weakBelow]), .inl (0, 372, .inl g), .inl (0, 372, .inl kept), .inl (0, 372, .inl was), .inl (0, 120, .inl tape), .inl (0, 8, .inl ranking), .inl (0, 16, .inl paper), .inl (1, 64, .inr (.inl pairs)), .inl (1, 64, .inr (.inl above)), .inl (1, 64, .inr (.inl below)), .inl (2, 8, .inl isDone), .inl (0, 8, .inl dist), .inl (0, 8, .inl rowv), .inl (0, 4, .inl lsz), .inl (1, 160, .inr (.inl itm))]
theorem c_X6_isIn (d : Nat) {g : Nat → Int32} {kept : Nat → Int32} {was : Nat → Int32} {isKept : Int32} {tape : Nat → Int32} {fed : Int32} {pos : Int32} {tlen : Int32} {flt : Int32} {ranking : Nat → Int32} {paper : Nat → Int32} {written : Int32} {pairs : Nat → Int64} {above : Nat → Int64} {below : Nat → Int64} {isDone : Nat → Int32} {dist : Nat → Int32} {rowv : Nat → Int32} {rowMany : Int32} {lsz : Nat → Int32} {itm : Nat → Int64} {weakAbove : Int64} {weakBelow : Int64} {v : Int64} {least : Int64} {most : Int64}  : z_CAL (d + 1) 129 [.long v, .long least, .long most] (MH g kept was isKept tape fed pos tlen flt ranking paper written pairs above below isDone dist rowv rowMany lsz itm weakAbove weakBelow) (fun r h2 => h2 = (MH g kept was isKept tape fed pos tlen flt ranking paper written pairs above below isDone dist rowv rowMany lsz itm weakAbove weakBelow) ∧ ((r = some (.int (nI 1)) ∧ (least ≤ v ∧ v ≤ most)) ∨ (r = some (.int (nI 0)) ∧ (¬ (least ≤ v ∧ v ≤ most))))) := by
  refine e_of (q := zmX6_isIn) rfl rfl ?_
  refine e_steps 3 (σ' := (3, [(0, .long v), (2, .long least), (4, .long most)], [.int ((lg_cmp v least))], (MH g kept was isKept tape fed pos tlen flt ranking paper written pairs above below isDone dist rowv rowMany lsz itm weakAbove weakBelow))) rfl ?_
  refine e_if (c := lg_cmp v least < 0) rfl (fun c_1 => ?_) (fun c_1 => ?_)
  · rw [lg_cmp_lt] at c_1
    refine e_steps 1 (σ' := (18, [(0, .long v), (2, .long least), (4, .long most)], [.int (nI 0)], (MH g kept was isKept tape fed pos tlen flt ranking paper written pairs above below isDone dist rowv rowMany lsz itm weakAbove weakBelow))) rfl ?_
    exact e_ret rfl (Or.inl rfl) ⟨rfl, Or.inr ⟨rfl, (by exact fun q => Int64.not_lt.mpr q.1 c_1)⟩⟩
  · rw [lg_cmp_lt] at c_1
    refine e_steps 3 (σ' := (10, [(0, .long v), (2, .long least), (4, .long most)], [.int ((lg_cmp v most))], (MH g kept was isKept tape fed pos tlen flt ranking paper written pairs above below isDone dist rowv rowMany lsz itm weakAbove weakBelow))) rfl ?_
    refine e_if (c := 0 < lg_cmp v most) rfl (fun c_2 => ?_) (fun c_2 => ?_)
    · rw [lg_cmp_gt] at c_2
      refine e_steps 1 (σ' := (18, [(0, .long v), (2, .long least), (4, .long most)], [.int (nI 0)], (MH g kept was isKept tape fed pos tlen flt ranking paper written pairs above below isDone dist rowv rowMany lsz itm weakAbove weakBelow))) rfl ?_
      exact e_ret rfl (Or.inl rfl) ⟨rfl, Or.inr ⟨rfl, (by exact fun q => Int64.not_lt.mpr q.2 c_2)⟩⟩
    · rw [lg_cmp_gt] at c_2
      refine e_steps 2 (σ' := (18, [(0, .long v), (2, .long least), (4, .long most)], [.int (nI 1)], (MH g kept was isKept tape fed pos tlen flt ranking paper written pairs above below isDone dist rowv rowMany lsz itm weakAbove weakBelow))) rfl ?_
      exact e_ret rfl (Or.inr rfl) ⟨rfl, Or.inl ⟨rfl, (by exact ⟨Int64.not_lt.mp c_1, Int64.not_lt.mp c_2⟩)⟩⟩
theorem c_X6_isIn_N (d : Nat) {g : Nat → Int32} {kept : Nat → Int32} {was : Nat → Int32} {isKept : Int32} {tape : Nat → Int32} {fed : Int32} {pos : Int32} {tlen : Int32} {flt : Int32} {ranking : Nat → Int32} {paper : Nat → Int32} {written : Int32} {pairs : Nat → Int64} {above : Nat → Int64} {below : Nat → Int64} {isDone : Nat → Int32} {dist : Nat → Int32} {rowv : Nat → Int32} {rowMany : Int32} {lsz : Nat → Int32} {itm : Nat → Int64} {weakAbove : Int64} {weakBelow : Int64} {v : Nat} {least : Nat} {most : Nat} (hv : v < 2 ^ 31) (hl : least < 2 ^ 31) (hm : most < 2 ^ 31) : z_CAL (d + 1) 129 [.long (lN v), .long (lN least), .long (lN most)] (MH g kept was isKept tape fed pos tlen flt ranking paper written pairs above below isDone dist rowv rowMany lsz itm weakAbove weakBelow) (fun r h2 => h2 = (MH g kept was isKept tape fed pos tlen flt ranking paper written pairs above below isDone dist rowv rowMany lsz itm weakAbove weakBelow) ∧ ((r = some (.int (nI 1)) ∧ (least ≤ v ∧ v ≤ most)) ∨ (r = some (.int (nI 0)) ∧ (¬ (least ≤ v ∧ v ≤ most))))) := by
  refine e_of (q := zmX6_isIn) rfl rfl ?_
  refine e_steps 3 (σ' := (3, [(0, .long (lN v)), (2, .long (lN least)), (4, .long (lN most))], [.int ((lg_cmp (lN v) (lN least)))], (MH g kept was isKept tape fed pos tlen flt ranking paper written pairs above below isDone dist rowv rowMany lsz itm weakAbove weakBelow))) rfl ?_
  refine e_if (c := lg_cmp (lN v) (lN least) < 0) rfl (fun c_1 => ?_) (fun c_1 => ?_)
  · rw [lg_cmp_lt] at c_1
    rw [pk_lLT (by omega) (by omega)] at c_1
    refine e_steps 1 (σ' := (18, [(0, .long (lN v)), (2, .long (lN least)), (4, .long (lN most))], [.int (nI 0)], (MH g kept was isKept tape fed pos tlen flt ranking paper written pairs above below isDone dist rowv rowMany lsz itm weakAbove weakBelow))) rfl ?_
    exact e_ret rfl (Or.inl rfl) ⟨rfl, Or.inr ⟨rfl, (by first | assumption | omega | rfl | trivial)⟩⟩
  · rw [lg_cmp_lt] at c_1
    rw [pk_lLT (by omega) (by omega)] at c_1
    refine e_steps 3 (σ' := (10, [(0, .long (lN v)), (2, .long (lN least)), (4, .long (lN most))], [.int ((lg_cmp (lN v) (lN most)))], (MH g kept was isKept tape fed pos tlen flt ranking paper written pairs above below isDone dist rowv rowMany lsz itm weakAbove weakBelow))) rfl ?_
    refine e_if (c := 0 < lg_cmp (lN v) (lN most)) rfl (fun c_2 => ?_) (fun c_2 => ?_)
    · rw [lg_cmp_gt] at c_2
      rw [pk_lLT (by omega) (by omega)] at c_2
      refine e_steps 1 (σ' := (18, [(0, .long (lN v)), (2, .long (lN least)), (4, .long (lN most))], [.int (nI 0)], (MH g kept was isKept tape fed pos tlen flt ranking paper written pairs above below isDone dist rowv rowMany lsz itm weakAbove weakBelow))) rfl ?_
      exact e_ret rfl (Or.inl rfl) ⟨rfl, Or.inr ⟨rfl, (by first | assumption | omega | rfl | trivial)⟩⟩
    · rw [lg_cmp_gt] at c_2
      rw [pk_lLT (by omega) (by omega)] at c_2
      refine e_steps 2 (σ' := (18, [(0, .long (lN v)), (2, .long (lN least)), (4, .long (lN most))], [.int (nI 1)], (MH g kept was isKept tape fed pos tlen flt ranking paper written pairs above below isDone dist rowv rowMany lsz itm weakAbove weakBelow))) rfl ?_
      exact e_ret rfl (Or.inr rfl) ⟨rfl, Or.inl ⟨rfl, (by first | assumption | omega | rfl | trivial)⟩⟩
theorem c_X6_has (d : Nat) {g : Nat → Int32} {kept : Nat → Int32} {was : Nat → Int32} {isKept : Int32} {tape : Nat → Int32} {fed : Int32} {pos : Int32} {tlen : Int32} {flt : Int32} {ranking : Nat → Int32} {paper : Nat → Int32} {written : Int32} {pairs : Nat → Int64} {above : Nat → Int64} {below : Nat → Int64} {isDone : Nat → Int32} {dist : Nat → Int32} {rowv : Nat → Int32} {rowMany : Int32} {lsz : Nat → Int32} {itm : Nat → Int64} {weakAbove : Int64} {weakBelow : Int64} {s : Nat} {k : Nat} (hs : s < 256) (hk : k < 8) : z_CAL (d + 1) 131 [.int (nI s), .int (nI k)] (MH g kept was isKept tape fed pos tlen flt ranking paper written pairs above below isDone dist rowv rowMany lsz itm weakAbove weakBelow) (fun r h2 => h2 = (MH g kept was isKept tape fed pos tlen flt ranking paper written pairs above below isDone dist rowv rowMany lsz itm weakAbove weakBelow) ∧ ((r = some (.int (nI 1)) ∧ (s.testBit k = true)) ∨ (r = some (.int (nI 0)) ∧ (s.testBit k = false)))) := by
  refine e_of (q := zmX6_has) rfl rfl ?_
  refine e_steps 6 (σ' := (6, [(0, .int (nI s)), (1, .int (nI k))], [.int (nI 1), .int (((((nI s) >>> ((nI k) &&& 31))) &&& (nI 1)))], (MH g kept was isKept tape fed pos tlen flt ranking paper written pairs above below isDone dist rowv rowMany lsz itm weakAbove weakBelow))) rfl ?_
  refine e_if (c := ¬ ((((nI s) >>> ((nI k) &&& 31))) &&& (nI 1)) = nI 1) rfl (fun c_1 => ?_) (fun c_1 => ?_)
  · skip
    refine e_steps 1 (σ' := (14, [(0, .int (nI s)), (1, .int (nI k))], [.int (nI 0)], (MH g kept was isKept tape fed pos tlen flt ranking paper written pairs above below isDone dist rowv rowMany lsz itm weakAbove weakBelow))) rfl ?_
    exact e_ret rfl (Or.inl rfl) ⟨rfl, Or.inr ⟨rfl, (by rw [z_has hs hk] at c_1; simpa using c_1)⟩⟩
  · skip
    refine e_steps 2 (σ' := (14, [(0, .int (nI s)), (1, .int (nI k))], [.int (nI 1)], (MH g kept was isKept tape fed pos tlen flt ranking paper written pairs above below isDone dist rowv rowMany lsz itm weakAbove weakBelow))) rfl ?_
    exact e_ret rfl (Or.inr rfl) ⟨rfl, Or.inl ⟨rfl, (by rw [z_has hs hk] at c_1; simpa using c_1)⟩⟩
theorem c_X6_everyone (d : Nat) {g : Nat → Int32} {kept : Nat → Int32} {was : Nat → Int32} {isKept : Int32} {tape : Nat → Int32} {fed : Int32} {pos : Int32} {tlen : Int32} {flt : Int32} {ranking : Nat → Int32} {paper : Nat → Int32} {written : Int32} {pairs : Nat → Int64} {above : Nat → Int64} {below : Nat → Int64} {isDone : Nat → Int32} {dist : Nat → Int32} {rowv : Nat → Int32} {rowMany : Int32} {lsz : Nat → Int32} {itm : Nat → Int64} {weakAbove : Int64} {weakBelow : Int64} {n : Nat} (hn0 : g 0 = nI n) (hn2 : 2 ≤ n) (hn8 : n ≤ 8) : z_CAL (d + 1) 133 [.ref 0] (MH g kept was isKept tape fed pos tlen flt ranking paper written pairs above below isDone dist rowv rowMany lsz itm weakAbove weakBelow) (fun r h2 => r = some (.int (nI (2 ^ n - 1))) ∧ h2 = (MH g kept was isKept tape fed pos tlen flt ranking paper written pairs above below isDone dist rowv rowMany lsz itm weakAbove weakBelow)) := by
  refine e_of (q := zmX6_everyone) rfl rfl ?_
  refine e_steps 4 (σ' := (6, [(0, .ref 0)], [.int (nI 0), .ref 1, .int (nI 1)], (MH g kept was isKept tape fed pos tlen flt ranking paper written pairs above below isDone dist rowv rowMany lsz itm weakAbove weakBelow))) rfl ?_
  refine e_ial (nI n) rfl rfl (by first | assumption | omega | rfl | trivial) (by decide) (hn0) ?_
  refine e_steps 3 (σ' := (10, [(0, .ref 0)], [.int (((((nI 1) <<< ((nI n) &&& 31))) - (nI 1)))], (MH g kept was isKept tape fed pos tlen flt ranking paper written pairs above below isDone dist rowv rowMany lsz itm weakAbove weakBelow))) rfl ?_
  exact e_ret rfl (trivial) ⟨(by rw [z_all_of (by omega)]), rfl⟩
theorem c_X6_ins (d : Nat) {g : Nat → Int32} {kept : Nat → Int32} {was : Nat → Int32} {isKept : Int32} {tape : Nat → Int32} {fed : Int32} {pos : Int32} {tlen : Int32} {flt : Int32} {ranking : Nat → Int32} {paper : Nat → Int32} {written : Int32} {pairs : Nat → Int64} {above : Nat → Int64} {below : Nat → Int64} {isDone : Nat → Int32} {dist : Nat → Int32} {rowv : Nat → Int32} {rowMany : Int32} {lsz : Nat → Int32} {itm : Nat → Int64} {weakAbove : Int64} {weakBelow : Int64} {n : Nat} {outs : Nat} (hn0 : g 0 = nI n) (hn2 : 2 ≤ n) (hn8 : n ≤ 8) (ho0 : g 1 = nI outs) (ho8 : outs < 256) : z_CAL (d + 2) 134 [.ref 0] (MH g kept was isKept tape fed pos tlen flt ranking paper written pairs above below isDone dist rowv rowMany lsz itm weakAbove weakBelow) (fun r h2 => r = some (.int (nI (z_dif (2 ^ n - 1) outs))) ∧ h2 = (MH g kept was isKept tape fed pos tlen flt ranking paper written pairs above below isDone dist rowv rowMany lsz itm weakAbove weakBelow)) := by
  refine e_of (q := zmX6_ins) rfl rfl ?_
  refine e_steps 1 (σ' := (1, [(0, .ref 0)], [.ref 0], (MH g kept was isKept tape fed pos tlen flt ranking paper written pairs above below isDone dist rowv rowMany lsz itm weakAbove weakBelow))) rfl ?_
  refine e_call (y := 133) (av := [.ref 0]) (rest := []) rfl (c_X6_everyone (d + 0) (n := n) (by first | assumption | omega | rfl | trivial) (by first | assumption | omega | rfl | trivial) (by first | assumption | omega | rfl | trivial)) (fun r_1 h_1 p_1 => ?_)
  obtain ⟨rfl, rfl⟩ := p_1
  refine e_steps 3 (σ' := (9, [(0, .ref 0)], [.int (nI 1), .ref 1, .int (nI (2 ^ n - 1))], (MH g kept was isKept tape fed pos tlen flt ranking paper written pairs above below isDone dist rowv rowMany lsz itm weakAbove weakBelow))) rfl ?_
  refine e_ial (nI outs) rfl rfl (by first | assumption | omega | rfl | trivial) (by decide) (ho0) ?_
  refine e_steps 3 (σ' := (13, [(0, .ref 0)], [.int (((nI (2 ^ n - 1)) &&& (((nI outs) ^^^ ((-nI 1))))))], (MH g kept was isKept tape fed pos tlen flt ranking paper written pairs above below isDone dist rowv rowMany lsz itm weakAbove weakBelow))) rfl ?_
  exact e_ret rfl (trivial) ⟨(by exact congrArg (fun v => some (Value.int v)) (z_dif_eq (by have := z_p2 hn8; omega) ho8)), rfl⟩
theorem c_X6_isOne (d : Nat) {g : Nat → Int32} {kept : Nat → Int32} {was : Nat → Int32} {isKept : Int32} {tape : Nat → Int32} {fed : Int32} {pos : Int32} {tlen : Int32} {flt : Int32} {ranking : Nat → Int32} {paper : Nat → Int32} {written : Int32} {pairs : Nat → Int64} {above : Nat → Int64} {below : Nat → Int64} {isDone : Nat → Int32} {dist : Nat → Int32} {rowv : Nat → Int32} {rowMany : Int32} {lsz : Nat → Int32} {itm : Nat → Int64} {weakAbove : Int64} {weakBelow : Int64} {c : Int32} {n : Nat} (hn0 : g 0 = nI n) (hn2 : 2 ≤ n) (hn8 : n ≤ 8) : z_CAL (d + 2) 135 [.ref 0, .int c] (MH g kept was isKept tape fed pos tlen flt ranking paper written pairs above below isDone dist rowv rowMany lsz itm weakAbove weakBelow) (fun r h2 => h2 = (MH g kept was isKept tape fed pos tlen flt ranking paper written pairs above below isDone dist rowv rowMany lsz itm weakAbove weakBelow) ∧ ((r = some (.int (nI 1)) ∧ (∃ k, k < n ∧ c = nI k)) ∨ (r = some (.int (nI 0)) ∧ (¬ ∃ k, k < n ∧ c = nI k)))) := by
  refine e_of (q := zmX6_isOne) rfl rfl ?_
  refine e_steps 6 (σ' := (8, [(0, .ref 0), (1, .int c)], [.int (nI 0), .ref 1, .long (lN 0), .long c.toInt64], (MH g kept was isKept tape fed pos tlen flt ranking paper written pairs above below isDone dist rowv rowMany lsz itm weakAbove weakBelow))) rfl ?_
  refine e_ial (nI n) rfl rfl (by first | assumption | omega | rfl | trivial) (by decide) (hn0) ?_
  refine e_steps 1 (σ' := (10, [(0, .ref 0), (1, .int c)], [.int (nI 1), .int (nI n), .long (lN 0), .long c.toInt64], (MH g kept was isKept tape fed pos tlen flt ranking paper written pairs above below isDone dist rowv rowMany lsz itm weakAbove weakBelow))) rfl ?_
  refine e_sbt (n - 1) rfl (by first | assumption | omega | rfl | trivial) (by first | rfl | omega) ?_
  refine e_steps 0 (σ' := (11, [(0, .ref 0), (1, .int c)], [.int (nI (n - 1)), .long (lN 0), .long c.toInt64], (MH g kept was isKept tape fed pos tlen flt ranking paper written pairs above below isDone dist rowv rowMany lsz itm weakAbove weakBelow))) rfl ?_
  refine e_i2l rfl (by omega) ?_
  refine e_steps 0 (σ' := (12, [(0, .ref 0), (1, .int c)], [.long (lN (n - 1)), .long (lN 0), .long c.toInt64], (MH g kept was isKept tape fed pos tlen flt ranking paper written pairs above below isDone dist rowv rowMany lsz itm weakAbove weakBelow))) rfl ?_
  refine e_call (y := 129) (av := [.long c.toInt64, .long (lN 0), .long (lN (n - 1))]) (rest := []) rfl (c_X6_isIn (d + 0) ) (fun r_1 h_1 p_1 => ?_)
  obtain ⟨rfl, o_1⟩ := p_1
  rcases o_1 with ⟨rfl, o_1⟩ | ⟨rfl, o_1⟩
  · skip
    refine e_steps 0 (σ' := (15, [(0, .ref 0), (1, .int c)], [.int (nI 1)], (MH g kept was isKept tape fed pos tlen flt ranking paper written pairs above below isDone dist rowv rowMany lsz itm weakAbove weakBelow))) rfl ?_
    exact e_ret rfl (Or.inr rfl) ⟨rfl, Or.inl ⟨rfl, (by obtain ⟨k, hk, rfl⟩ := z_in_nat (by omega) o_1; exact ⟨k, by omega, rfl⟩)⟩⟩
  · skip
    refine e_steps 0 (σ' := (15, [(0, .ref 0), (1, .int c)], [.int (nI 0)], (MH g kept was isKept tape fed pos tlen flt ranking paper written pairs above below isDone dist rowv rowMany lsz itm weakAbove weakBelow))) rfl ?_
    exact e_ret rfl (Or.inl rfl) ⟨rfl, Or.inr ⟨rfl, (by rintro ⟨k, hk, rfl⟩; exact o_1 (z_nat_in (by omega) (by omega)))⟩⟩
theorem c_X6_isOne_N (d : Nat) {g : Nat → Int32} {kept : Nat → Int32} {was : Nat → Int32} {isKept : Int32} {tape : Nat → Int32} {fed : Int32} {pos : Int32} {tlen : Int32} {flt : Int32} {ranking : Nat → Int32} {paper : Nat → Int32} {written : Int32} {pairs : Nat → Int64} {above : Nat → Int64} {below : Nat → Int64} {isDone : Nat → Int32} {dist : Nat → Int32} {rowv : Nat → Int32} {rowMany : Int32} {lsz : Nat → Int32} {itm : Nat → Int64} {weakAbove : Int64} {weakBelow : Int64} {c : Nat} {n : Nat} (hn0 : g 0 = nI n) (hn2 : 2 ≤ n) (hn8 : n ≤ 8) (hc : c < 2 ^ 31) : z_CAL (d + 2) 135 [.ref 0, .int (nI c)] (MH g kept was isKept tape fed pos tlen flt ranking paper written pairs above below isDone dist rowv rowMany lsz itm weakAbove weakBelow) (fun r h2 => h2 = (MH g kept was isKept tape fed pos tlen flt ranking paper written pairs above below isDone dist rowv rowMany lsz itm weakAbove weakBelow) ∧ ((r = some (.int (nI 1)) ∧ (c < n)) ∨ (r = some (.int (nI 0)) ∧ (¬ c < n)))) := by
  refine e_of (q := zmX6_isOne) rfl rfl ?_
  refine e_steps 1 (σ' := (1, [(0, .ref 0), (1, .int (nI c))], [.int (nI c)], (MH g kept was isKept tape fed pos tlen flt ranking paper written pairs above below isDone dist rowv rowMany lsz itm weakAbove weakBelow))) rfl ?_
  refine e_i2l rfl (by omega) ?_
  refine e_steps 4 (σ' := (8, [(0, .ref 0), (1, .int (nI c))], [.int (nI 0), .ref 1, .long (lN 0), .long (lN c)], (MH g kept was isKept tape fed pos tlen flt ranking paper written pairs above below isDone dist rowv rowMany lsz itm weakAbove weakBelow))) rfl ?_
  refine e_ial (nI n) rfl rfl (by first | assumption | omega | rfl | trivial) (by decide) (hn0) ?_
  refine e_steps 1 (σ' := (10, [(0, .ref 0), (1, .int (nI c))], [.int (nI 1), .int (nI n), .long (lN 0), .long (lN c)], (MH g kept was isKept tape fed pos tlen flt ranking paper written pairs above below isDone dist rowv rowMany lsz itm weakAbove weakBelow))) rfl ?_
  refine e_sbt (n - 1) rfl (by first | assumption | omega | rfl | trivial) (by first | rfl | omega) ?_
  refine e_steps 0 (σ' := (11, [(0, .ref 0), (1, .int (nI c))], [.int (nI (n - 1)), .long (lN 0), .long (lN c)], (MH g kept was isKept tape fed pos tlen flt ranking paper written pairs above below isDone dist rowv rowMany lsz itm weakAbove weakBelow))) rfl ?_
  refine e_i2l rfl (by omega) ?_
  refine e_steps 0 (σ' := (12, [(0, .ref 0), (1, .int (nI c))], [.long (lN (n - 1)), .long (lN 0), .long (lN c)], (MH g kept was isKept tape fed pos tlen flt ranking paper written pairs above below isDone dist rowv rowMany lsz itm weakAbove weakBelow))) rfl ?_
  refine e_call (y := 129) (av := [.long (lN c), .long (lN 0), .long (lN (n - 1))]) (rest := []) rfl (c_X6_isIn_N (d + 0) (by first | assumption | omega | rfl | trivial) (by first | assumption | omega | rfl | trivial) (by first | assumption | omega | rfl | trivial)) (fun r_1 h_1 p_1 => ?_)
  obtain ⟨rfl, o_1⟩ := p_1
  rcases o_1 with ⟨rfl, o_1⟩ | ⟨rfl, o_1⟩
  · skip
    refine e_steps 0 (σ' := (15, [(0, .ref 0), (1, .int (nI c))], [.int (nI 1)], (MH g kept was isKept tape fed pos tlen flt ranking paper written pairs above below isDone dist rowv rowMany lsz itm weakAbove weakBelow))) rfl ?_
    exact e_ret rfl (Or.inr rfl) ⟨rfl, Or.inl ⟨rfl, (by first | assumption | omega | rfl | trivial)⟩⟩
  · skip
    refine e_steps 0 (σ' := (15, [(0, .ref 0), (1, .int (nI c))], [.int (nI 0)], (MH g kept was isKept tape fed pos tlen flt ranking paper written pairs above below isDone dist rowv rowMany lsz itm weakAbove weakBelow))) rfl ?_
    exact e_ret rfl (Or.inl rfl) ⟨rfl, Or.inr ⟨rfl, (by first | assumption | omega | rfl | trivial)⟩⟩
