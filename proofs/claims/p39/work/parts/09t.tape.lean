/-! the reference: its tape and paper -/
def z_allb : Nat → (Nat → Bool) → Bool
  | 0, _ => true
  | n + 1, p => z_allb n p && p n
theorem z_allb_iff {p : Nat → Bool} : ∀ {n : Nat}, z_allb n p = true ↔ ∀ i, i < n → p i = true
  | 0 => ⟨fun _ i hi => absurd hi (Nat.not_lt_zero i), fun _ => rfl⟩
  | n + 1 => by
    show (z_allb n p && p n) = true ↔ _
    rw [Bool.and_eq_true, z_allb_iff (n := n)]
    constructor
    · rintro ⟨h1, h2⟩ i hi
      rcases (by omega : i < n ∨ i = n) with e | e
      · exact h1 i e
      · rw [e]; exact h2
    · intro h
      exact ⟨fun i hi => h i (by omega), h n (by omega)⟩
theorem z_allb_congr {p q : Nat → Bool} : ∀ {n : Nat}, (∀ i, i < n → p i = q i) → z_allb n p = z_allb n q
  | 0, _ => rfl
  | n + 1, h => by
    show (z_allb n p && p n) = (z_allb n q && q n)
    rw [z_allb_congr (fun i hi => h i (by omega)), h n (by omega)]
theorem z_tn_lt (b : Bool) : b.toNat < 2 := by cases b <;> decide
theorem z_tn1 (b : Bool) : b.toNat &&& 1 = b.toNat := by cases b <;> rfl
theorem z_tn0 (b : Bool) : b.toNat &&& 0 = 0 := by cases b <;> rfl
theorem z_tn_ne {b : Bool} (h : ¬ b.toNat = 0) : b = true := by cases b with
  | true => rfl
  | false => exact absurd rfl h
theorem z_tn_eq {b : Bool} (h : b.toNat = 0) : b = false := by cases b with
  | true => cases h
  | false => rfl
theorem z_is_T {b : Bool} {i v : Nat} {p : Nat → Bool} (h : v = (b && z_allb i p).toNat) (hp : p i = true) : v &&& 1 = (b && z_allb (i + 1) p).toNat := by
  rw [h, z_tn1]
  show _ = (b && (z_allb i p && p i)).toNat
  rw [hp, Bool.and_true]
theorem z_is_F {b : Bool} {i v : Nat} {p : Nat → Bool} (h : v = (b && z_allb i p).toNat) (hp : p i = false) : v &&& 0 = (b && z_allb (i + 1) p).toNat := by
  rw [h, z_tn0]
  show _ = (b && (z_allb i p && p i)).toNat
  rw [hp, Bool.and_false, Bool.and_false]
  rfl
theorem z_bor_yes {n b v : Nat} {pl : Nat → Nat → Nat} {q : Nat → Nat} (h : v = (true && z_allb n (fun c => decide (pl b c = q c))).toNat) (h0 : ¬ v = 0) : z_same n pl q b := by
  rw [h] at h0
  have h1 := z_tn_ne h0
  rw [Bool.true_and, z_allb_iff] at h1
  exact fun c hc => of_decide_eq_true (h1 c hc)
theorem z_bor_no {n b v : Nat} {pl : Nat → Nat → Nat} {q : Nat → Nat} (h : v = (true && z_allb n (fun c => decide (pl b c = q c))).toNat) (h0 : v = 0) : ¬ z_same n pl q b := by
  intro hs
  rw [h] at h0
  have h1 := z_tn_eq h0
  rw [Bool.true_and, z_allb_iff.mpr (fun c hc => decide_eq_true (hs c hc))] at h1
  cases h1
theorem z_me0 {fd a b mo z : Nat} (h : a + 2 ≤ b) (h0 : ¬ mo = 0) (hz : 2 * (fd - a) + mo < z + 1) : 2 * (fd - b) + 0 < z := by omega
theorem c_X6_here (d : Nat) {g : Nat → Int32} {kept : Nat → Int32} {was : Nat → Int32} {isKept : Int32} {tape : Nat → Int32} {fd : Nat} {ps : Nat} {tl : Nat} {flt : Int32} {ranking : Nat → Int32} {paper : Nat → Int32} {written : Int32} {pairs : Nat → Int64} {above : Nat → Int64} {below : Nat → Int64} {isDone : Nat → Int32} {dist : Nat → Int32} {rowv : Nat → Int32} {rowMany : Int32} {lsz : Nat → Int32} {itm : Nat → Int64} {weakAbove : Int64} {weakBelow : Int64} {tp : Nat → Nat} (hfd : fd ≤ 120) (hps : ps ≤ tl) (htl : tl ≤ 120) (htp : ∀ k, k < tl → tape k = nI (tp k) ∧ 1 ≤ tp k ∧ tp k ≤ 127) : z_CAL (d + 1) 151 [.ref 0] (MH g kept was isKept tape (nI fd) (nI ps) (nI tl) flt ranking paper written pairs above below isDone dist rowv rowMany lsz itm weakAbove weakBelow) (fun r h2 => h2 = (MH g kept was isKept tape (nI fd) (nI ps) (nI tl) flt ranking paper written pairs above below isDone dist rowv rowMany lsz itm weakAbove weakBelow) ∧ ((r = some (.int (nI (tp ps))) ∧ (ps < tl ∧ 1 ≤ tp ps ∧ tp ps < 128)) ∨ (r = some (.int ((-nI 1))) ∧ (ps = tl)))) := by
  refine e_of2 (q := zmX6_here) rfl rfl (fun R hR => ?_)
  refine e_steps 4 (σ' := (8, [(0, .ref 0)], [.int (nI tl), .int (nI ps)], (MH g kept was isKept tape (nI fd) (nI ps) (nI tl) flt ranking paper written pairs above below isDone dist rowv rowMany lsz itm weakAbove weakBelow))) rfl ?_
  refine e_if (c := nI tl ≤ nI ps) rfl (fun c_8 => ?_) (fun c_8 => ?_)
  · skip
    rw [nI_leI (by omega) (by omega)] at c_8
    refine e_steps 1 (σ' := (24, [(0, .ref 0)], [.int ((-nI 1))], (MH g kept was isKept tape (nI fd) (nI ps) (nI tl) flt ranking paper written pairs above below isDone dist rowv rowMany lsz itm weakAbove weakBelow))) rfl ?_
    exact e_ret rfl (trivial) (hR _ _ ⟨rfl, (by first | exact Or.inl ⟨rfl, by omega, by omega, by omega⟩ | exact Or.inr ⟨rfl, by omega⟩)⟩)
  · skip
    rw [nI_leI (by omega) (by omega)] at c_8
    refine e_steps 4 (σ' := (19, [(0, .ref 0)], [.int (nI ps), .ref 4], (MH g kept was isKept tape (nI fd) (nI ps) (nI tl) flt ranking paper written pairs above below isDone dist rowv rowMany lsz itm weakAbove weakBelow))) rfl ?_
    refine e_ial (nI (tp ps)) rfl rfl (by first | assumption | omega | rfl | trivial) (by decide) ((htp _ (by omega)).1) ?_
    have hv_19 := (htp ps (by omega)).2
    refine e_steps 1 (σ' := (24, [(0, .ref 0)], [.int (nI (tp ps))], (MH g kept was isKept tape (nI fd) (nI ps) (nI tl) flt ranking paper written pairs above below isDone dist rowv rowMany lsz itm weakAbove weakBelow))) rfl ?_
    exact e_ret rfl (trivial) (hR _ _ ⟨rfl, (by first | exact Or.inl ⟨rfl, by omega, by omega, by omega⟩ | exact Or.inr ⟨rfl, by omega⟩)⟩)
theorem c_X6_isDigit (d : Nat) {g : Nat → Int32} {kept : Nat → Int32} {was : Nat → Int32} {isKept : Int32} {tape : Nat → Int32} {fd : Nat} {ps : Nat} {tl : Nat} {flt : Int32} {ranking : Nat → Int32} {paper : Nat → Int32} {written : Int32} {pairs : Nat → Int64} {above : Nat → Int64} {below : Nat → Int64} {isDone : Nat → Int32} {dist : Nat → Int32} {rowv : Nat → Int32} {rowMany : Int32} {lsz : Nat → Int32} {itm : Nat → Int64} {weakAbove : Int64} {weakBelow : Int64} {tp : Nat → Nat} (hfd : fd ≤ 120) (hps : ps ≤ tl) (htl : tl ≤ 120) (htp : ∀ k, k < tl → tape k = nI (tp k) ∧ 1 ≤ tp k ∧ tp k ≤ 127) : z_CAL (d + 2) 152 [.ref 0] (MH g kept was isKept tape (nI fd) (nI ps) (nI tl) flt ranking paper written pairs above below isDone dist rowv rowMany lsz itm weakAbove weakBelow) (fun r h2 => h2 = (MH g kept was isKept tape (nI fd) (nI ps) (nI tl) flt ranking paper written pairs above below isDone dist rowv rowMany lsz itm weakAbove weakBelow) ∧ ((r = some (.int (nI 1)) ∧ (ps < tl ∧ 48 ≤ tp ps ∧ tp ps ≤ 57)) ∨ (r = some (.int (nI 0)) ∧ (¬ (ps < tl ∧ 48 ≤ tp ps ∧ tp ps ≤ 57))))) := by
  refine e_of2 (q := zmX6_isDigit) rfl rfl (fun R hR => ?_)
  refine e_steps 1 (σ' := (1, [(0, .ref 0)], [.ref 0], (MH g kept was isKept tape (nI fd) (nI ps) (nI tl) flt ranking paper written pairs above below isDone dist rowv rowMany lsz itm weakAbove weakBelow))) rfl ?_
  refine e_call (y := 151) (av := [.ref 0]) (rest := []) rfl (c_X6_here (d + 0) (tp := tp) (by first | assumption | omega | rfl | trivial) (by first | assumption | omega | rfl | trivial) (by first | assumption | omega | rfl | trivial) (by first | assumption | omega | rfl | trivial)) (fun r_1 h_1 p_1 => ?_)
  obtain ⟨rfl, o_1⟩ := p_1
  rcases o_1 with ⟨rfl, o_1⟩ | ⟨rfl, o_1⟩
  · skip
    refine e_steps 0 (σ' := (4, [(0, .ref 0)], [.int (nI (tp ps))], (MH g kept was isKept tape (nI fd) (nI ps) (nI tl) flt ranking paper written pairs above below isDone dist rowv rowMany lsz itm weakAbove weakBelow))) rfl ?_
    refine e_i2l rfl (by omega) ?_
    refine e_steps 2 (σ' := (11, [(0, .ref 0)], [.long (lN 57), .long (lN 48), .long (lN (tp ps))], (MH g kept was isKept tape (nI fd) (nI ps) (nI tl) flt ranking paper written pairs above below isDone dist rowv rowMany lsz itm weakAbove weakBelow))) rfl ?_
    refine e_call (y := 129) (av := [.long (lN (tp ps)), .long (lN 48), .long (lN 57)]) (rest := []) rfl (c_X6_isIn_N (d + 0) (by first | assumption | omega | rfl | trivial) (by first | assumption | omega | rfl | trivial) (by first | assumption | omega | rfl | trivial)) (fun r_11 h_11 p_11 => ?_)
    obtain ⟨rfl, o_11⟩ := p_11
    rcases o_11 with ⟨rfl, o_11⟩ | ⟨rfl, o_11⟩
    · skip
      refine e_steps 0 (σ' := (14, [(0, .ref 0)], [.int (nI 1)], (MH g kept was isKept tape (nI fd) (nI ps) (nI tl) flt ranking paper written pairs above below isDone dist rowv rowMany lsz itm weakAbove weakBelow))) rfl ?_
      exact e_ret rfl (Or.inr rfl) (hR _ _ ⟨rfl, Or.inl ⟨rfl, (by first | exact ⟨o_1.1, o_11.1, o_11.2⟩ | exact absurd o_11.1 (by decide +kernel))⟩⟩)
    · skip
      refine e_steps 0 (σ' := (14, [(0, .ref 0)], [.int (nI 0)], (MH g kept was isKept tape (nI fd) (nI ps) (nI tl) flt ranking paper written pairs above below isDone dist rowv rowMany lsz itm weakAbove weakBelow))) rfl ?_
      exact e_ret rfl (Or.inl rfl) (hR _ _ ⟨rfl, Or.inr ⟨rfl, (by exact fun q => by omega)⟩⟩)
  · skip
    refine e_steps 3 (σ' := (11, [(0, .ref 0)], [.long (lN 57), .long (lN 48), .long (((-nI 1)).toInt64)], (MH g kept was isKept tape (nI fd) (nI ps) (nI tl) flt ranking paper written pairs above below isDone dist rowv rowMany lsz itm weakAbove weakBelow))) rfl ?_
    refine e_call (y := 129) (av := [.long (((-nI 1)).toInt64), .long (lN 48), .long (lN 57)]) (rest := []) rfl (c_X6_isIn (d + 0) ) (fun r_11 h_11 p_11 => ?_)
    obtain ⟨rfl, o_11⟩ := p_11
    rcases o_11 with ⟨rfl, o_11⟩ | ⟨rfl, o_11⟩
    · skip
      refine e_steps 0 (σ' := (14, [(0, .ref 0)], [.int (nI 1)], (MH g kept was isKept tape (nI fd) (nI ps) (nI tl) flt ranking paper written pairs above below isDone dist rowv rowMany lsz itm weakAbove weakBelow))) rfl ?_
      exact e_ret rfl (Or.inr rfl) (hR _ _ ⟨rfl, Or.inl ⟨rfl, (by first | exact ⟨o_1.1, o_11.1, o_11.2⟩ | exact absurd o_11.1 (by decide +kernel))⟩⟩)
    · skip
      refine e_steps 0 (σ' := (14, [(0, .ref 0)], [.int (nI 0)], (MH g kept was isKept tape (nI fd) (nI ps) (nI tl) flt ranking paper written pairs above below isDone dist rowv rowMany lsz itm weakAbove weakBelow))) rfl ?_
      exact e_ret rfl (Or.inl rfl) (hR _ _ ⟨rfl, Or.inr ⟨rfl, (by exact fun q => by omega)⟩⟩)
theorem c_X6_fails (d : Nat) {g : Nat → Int32} {kept : Nat → Int32} {was : Nat → Int32} {isKept : Int32} {tape : Nat → Int32} {fed : Int32} {pos : Int32} {tlen : Int32} {ranking : Nat → Int32} {paper : Nat → Int32} {written : Int32} {pairs : Nat → Int64} {above : Nat → Int64} {below : Nat → Int64} {isDone : Nat → Int32} {dist : Nat → Int32} {rowv : Nat → Int32} {rowMany : Int32} {lsz : Nat → Int32} {itm : Nat → Int64} {weakAbove : Int64} {weakBelow : Int64} {place : Int32}  : z_CAL (d + 1) 153 [.ref 0, .int place] (MH g kept was isKept tape fed pos tlen ((-nI 1)) ranking paper written pairs above below isDone dist rowv rowMany lsz itm weakAbove weakBelow) (fun r h2 => r = some (.int (nI 0)) ∧ h2 = (MH g kept was isKept tape fed pos tlen place ranking paper written pairs above below isDone dist rowv rowMany lsz itm weakAbove weakBelow)) := by
  refine e_of2 (q := zmX6_fails) rfl rfl (fun R hR => ?_)
  refine e_steps 7 (σ' := (13, [(0, .ref 0), (1, .int place)], [.int (nI 0)], (MH g kept was isKept tape fed pos tlen place ranking paper written pairs above below isDone dist rowv rowMany lsz itm weakAbove weakBelow))) rfl ?_
  exact e_ret rfl (Or.inl rfl) (hR _ _ ⟨(by rfl), rfl⟩)
theorem c_X6_isSign (d : Nat) {g : Nat → Int32} {kept : Nat → Int32} {was : Nat → Int32} {isKept : Int32} {tape : Nat → Int32} {fd : Nat} {ps : Nat} {tl : Nat} {ranking : Nat → Int32} {paper : Nat → Int32} {written : Int32} {pairs : Nat → Int64} {above : Nat → Int64} {below : Nat → Int64} {isDone : Nat → Int32} {dist : Nat → Int32} {rowv : Nat → Int32} {rowMany : Int32} {lsz : Nat → Int32} {itm : Nat → Int64} {weakAbove : Int64} {weakBelow : Int64} {c : Nat} {tp : Nat → Nat} (hfd : fd ≤ 120) (hps : ps ≤ tl) (htl : tl ≤ 120) (htp : ∀ k, k < tl → tape k = nI (tp k) ∧ 1 ≤ tp k ∧ tp k ≤ 127) (hc : c < 128) (hc1 : 1 ≤ c) : z_CAL (d + 2) 154 [.ref 0, .int (nI c)] (MH g kept was isKept tape (nI fd) (nI ps) (nI tl) ((-nI 1)) ranking paper written pairs above below isDone dist rowv rowMany lsz itm weakAbove weakBelow) (fun r h2 => ∃ (ps2 : Nat) (ft2 : Int32), h2 = (MH g kept was isKept tape (nI fd) (nI ps2) (nI tl) ft2 ranking paper written pairs above below isDone dist rowv rowMany lsz itm weakAbove weakBelow) ∧ ((r = some (.int (nI 1)) ∧ ((ps < tl ∧ tp ps = c) ∧ ps2 = ps + 1 ∧ ft2 = -nI 1)) ∨ (r = some (.int (nI 0)) ∧ (¬ (ps < tl ∧ tp ps = c) ∧ ps2 = ps ∧ ft2 = nI ps)))) := by
  refine e_of2 (q := zmX6_isSign) rfl rfl (fun R hR => ?_)
  refine e_steps 1 (σ' := (1, [(0, .ref 0), (1, .int (nI c))], [.ref 0], (MH g kept was isKept tape (nI fd) (nI ps) (nI tl) ((-nI 1)) ranking paper written pairs above below isDone dist rowv rowMany lsz itm weakAbove weakBelow))) rfl ?_
  refine e_call (y := 151) (av := [.ref 0]) (rest := []) rfl (c_X6_here (d + 0) (tp := tp) (by first | assumption | omega | rfl | trivial) (by first | assumption | omega | rfl | trivial) (by first | assumption | omega | rfl | trivial) (by first | assumption | omega | rfl | trivial)) (fun r_1 h_1 p_1 => ?_)
  obtain ⟨rfl, o_1⟩ := p_1
  rcases o_1 with ⟨rfl, o_1⟩ | ⟨rfl, o_1⟩
  · skip
    refine e_steps 1 (σ' := (5, [(0, .ref 0), (1, .int (nI c))], [.int (nI c), .int (nI (tp ps))], (MH g kept was isKept tape (nI fd) (nI ps) (nI tl) ((-nI 1)) ranking paper written pairs above below isDone dist rowv rowMany lsz itm weakAbove weakBelow))) rfl ?_
    refine e_if (c := nI (tp ps) = nI c) rfl (fun c_5 => ?_) (fun c_5 => ?_)
    · skip
      rw [nI_eq (by omega) (by omega)] at c_5
      refine e_steps 4 (σ' := (23, [(0, .ref 0), (1, .int (nI c))], [.int (nI 1), .int (nI ps), .ref 0], (MH g kept was isKept tape (nI fd) (nI ps) (nI tl) ((-nI 1)) ranking paper written pairs above below isDone dist rowv rowMany lsz itm weakAbove weakBelow))) rfl ?_
      refine e_add (ps + 1) rfl (by first | rfl | omega) ?_
      refine e_steps 2 (σ' := (28, [(0, .ref 0), (1, .int (nI c))], [.int (nI 1)], (MH g kept was isKept tape (nI fd) (nI (ps + 1)) (nI tl) ((-nI 1)) ranking paper written pairs above below isDone dist rowv rowMany lsz itm weakAbove weakBelow))) rfl ?_
      exact e_ret rfl (Or.inr rfl) (hR _ _ ⟨ps + 1, (-nI 1), rfl, Or.inl ⟨rfl, (by first | exact absurd c_5 (z_m1_ne (by omega)) | exact ⟨⟨o_1.1, c_5⟩, rfl, rfl⟩)⟩⟩)
    · skip
      rw [nI_eq (by omega) (by omega)] at c_5
      refine e_steps 3 (σ' := (13, [(0, .ref 0), (1, .int (nI c))], [.int (nI ps), .ref 0], (MH g kept was isKept tape (nI fd) (nI ps) (nI tl) ((-nI 1)) ranking paper written pairs above below isDone dist rowv rowMany lsz itm weakAbove weakBelow))) rfl ?_
      refine e_call (y := 153) (av := [.ref 0, .int (nI ps)]) (rest := []) rfl (c_X6_fails (d + 0) ) (fun r_13 h_13 p_13 => ?_)
      obtain ⟨rfl, rfl⟩ := p_13
      refine e_steps 0 (σ' := (16, [(0, .ref 0), (1, .int (nI c))], [.int (nI 0)], (MH g kept was isKept tape (nI fd) (nI ps) (nI tl) (nI ps) ranking paper written pairs above below isDone dist rowv rowMany lsz itm weakAbove weakBelow))) rfl ?_
      exact e_ret rfl (Or.inl rfl) (hR _ _ ⟨ps, nI ps, rfl, Or.inr ⟨rfl, (by exact ⟨fun q => by omega, rfl, rfl⟩)⟩⟩)
  · skip
    refine e_steps 1 (σ' := (5, [(0, .ref 0), (1, .int (nI c))], [.int (nI c), .int ((-nI 1))], (MH g kept was isKept tape (nI fd) (nI ps) (nI tl) ((-nI 1)) ranking paper written pairs above below isDone dist rowv rowMany lsz itm weakAbove weakBelow))) rfl ?_
    refine e_if (c := (-nI 1) = nI c) rfl (fun c_5 => ?_) (fun c_5 => ?_)
    · skip
      refine e_steps 4 (σ' := (23, [(0, .ref 0), (1, .int (nI c))], [.int (nI 1), .int (nI ps), .ref 0], (MH g kept was isKept tape (nI fd) (nI ps) (nI tl) ((-nI 1)) ranking paper written pairs above below isDone dist rowv rowMany lsz itm weakAbove weakBelow))) rfl ?_
      refine e_add (ps + 1) rfl (by first | rfl | omega) ?_
      refine e_steps 2 (σ' := (28, [(0, .ref 0), (1, .int (nI c))], [.int (nI 1)], (MH g kept was isKept tape (nI fd) (nI (ps + 1)) (nI tl) ((-nI 1)) ranking paper written pairs above below isDone dist rowv rowMany lsz itm weakAbove weakBelow))) rfl ?_
      exact e_ret rfl (Or.inr rfl) (hR _ _ ⟨ps + 1, (-nI 1), rfl, Or.inl ⟨rfl, (by first | exact absurd c_5 (z_m1_ne (by omega)) | exact ⟨⟨o_1.1, c_5⟩, rfl, rfl⟩)⟩⟩)
    · skip
      refine e_steps 3 (σ' := (13, [(0, .ref 0), (1, .int (nI c))], [.int (nI ps), .ref 0], (MH g kept was isKept tape (nI fd) (nI ps) (nI tl) ((-nI 1)) ranking paper written pairs above below isDone dist rowv rowMany lsz itm weakAbove weakBelow))) rfl ?_
      refine e_call (y := 153) (av := [.ref 0, .int (nI ps)]) (rest := []) rfl (c_X6_fails (d + 0) ) (fun r_13 h_13 p_13 => ?_)
      obtain ⟨rfl, rfl⟩ := p_13
      refine e_steps 0 (σ' := (16, [(0, .ref 0), (1, .int (nI c))], [.int (nI 0)], (MH g kept was isKept tape (nI fd) (nI ps) (nI tl) (nI ps) ranking paper written pairs above below isDone dist rowv rowMany lsz itm weakAbove weakBelow))) rfl ?_
      exact e_ret rfl (Or.inl rfl) (hR _ _ ⟨ps, nI ps, rfl, Or.inr ⟨rfl, (by exact ⟨fun q => by omega, rfl, rfl⟩)⟩⟩)
theorem c_X6_isTold (d : Nat) {g : Nat → Int32} {kept : Nat → Int32} {was : Nat → Int32} {isKept : Int32} {tape : Nat → Int32} {fd : Nat} {ps : Nat} {tl : Nat} {ranking : Nat → Int32} {paper : Nat → Int32} {written : Int32} {pairs : Nat → Int64} {above : Nat → Int64} {below : Nat → Int64} {isDone : Nat → Int32} {dist : Nat → Int32} {rowv : Nat → Int32} {rowMany : Int32} {lsz : Nat → Int32} {itm : Nat → Int64} {weakAbove : Int64} {weakBelow : Int64} {td : Nat} {place : Nat} {n : Nat} {outs : Nat} {bm : Nat} {ms : Nat} {dr : Nat → Nat} {cn : Nat → Nat} {pl : Nat → Nat → Nat} {tp : Nat → Nat} (hG : z_GI g n outs bm ms dr cn pl) (hfd : fd ≤ 120) (hps : ps ≤ tl) (htl : tl ≤ 120) (htp : ∀ k, k < tl → tape k = nI (tp k) ∧ 1 ≤ tp k ∧ tp k ≤ 127) (htd : td < 256) : z_CAL (d + 3) 155 [.ref 0, .int (nI td), .int (nI place)] (MH g kept was isKept tape (nI fd) (nI ps) (nI tl) ((-nI 1)) ranking paper written pairs above below isDone dist rowv rowMany lsz itm weakAbove weakBelow) (fun r h2 => ∃ (ranking2 : Nat → Int32) (ps2 : Nat) (ft2 : Int32), h2 = (MH g kept was isKept tape (nI fd) (nI ps2) (nI tl) ft2 ranking2 paper written pairs above below isDone dist rowv rowMany lsz itm weakAbove weakBelow) ∧ ((r = some (.int (nI 1)) ∧ (∃ c, c < n ∧ td.testBit c = false ∧ ps < tl ∧ tp ps = 48 + c ∧ ps2 = ps + 1 ∧ ranking2 = upd ranking c (nI place) ∧ ft2 = -nI 1)) ∨ (r = some (.int (nI 0)) ∧ (ps2 = ps ∧ ft2 = nI ps ∧ ¬ (ps < tl ∧ 48 ≤ tp ps ∧ tp ps ≤ 57 ∧ tp ps - 48 < n ∧ td.testBit (tp ps - 48) = false))))) := by
  refine e_of2 (q := zmX6_isTold) rfl rfl (fun R hR => ?_)
  obtain ⟨⟨hn0, hn2, hn8⟩, ⟨ho0, ho8, hin⟩, ⟨hb0, hb40⟩, ⟨hm0, hm4⟩, ⟨hdr, hdl, hdc⟩, hcn, hpl⟩ := id hG; have hp8 := z_p2 hn8; have ho256 : outs < 256 := (by omega); have hi256 : z_dif (2 ^ n - 1) outs < 256 := (by have := z_dif_le (s := 2 ^ n - 1) (t := outs); omega)
  refine e_steps 1 (σ' := (1, [(0, .ref 0), (1, .int (nI td)), (2, .int (nI place))], [.ref 0], (MH g kept was isKept tape (nI fd) (nI ps) (nI tl) ((-nI 1)) ranking paper written pairs above below isDone dist rowv rowMany lsz itm weakAbove weakBelow))) rfl ?_
  refine e_call (y := 152) (av := [.ref 0]) (rest := []) rfl (c_X6_isDigit (d + 0) (tp := tp) (by first | assumption | omega | rfl | trivial) (by first | assumption | omega | rfl | trivial) (by first | assumption | omega | rfl | trivial) (by first | assumption | omega | rfl | trivial)) (fun r_1 h_1 p_1 => ?_)
  obtain ⟨rfl, o_1⟩ := p_1
  rcases o_1 with ⟨rfl, o_1⟩ | ⟨rfl, o_1⟩
  · skip
    refine e_steps 2 (σ' := (17, [(0, .ref 0), (1, .int (nI td)), (2, .int (nI place))], [.ref 0], (MH g kept was isKept tape (nI fd) (nI ps) (nI tl) ((-nI 1)) ranking paper written pairs above below isDone dist rowv rowMany lsz itm weakAbove weakBelow))) rfl ?_
    refine e_call (y := 151) (av := [.ref 0]) (rest := []) rfl (c_X6_here (d + 1) (tp := tp) (by first | assumption | omega | rfl | trivial) (by first | assumption | omega | rfl | trivial) (by first | assumption | omega | rfl | trivial) (by first | assumption | omega | rfl | trivial)) (fun r_17 h_17 p_17 => ?_)
    obtain ⟨rfl, o_17⟩ := p_17
    rcases o_17 with ⟨rfl, o_17⟩ | ⟨rfl, o_17⟩
    · skip
      refine e_steps 1 (σ' := (22, [(0, .ref 0), (1, .int (nI td)), (2, .int (nI place))], [.int (nI 48), .int (nI (tp ps))], (MH g kept was isKept tape (nI fd) (nI ps) (nI tl) ((-nI 1)) ranking paper written pairs above below isDone dist rowv rowMany lsz itm weakAbove weakBelow))) rfl ?_
      refine e_sbt ((tp ps) - 48) rfl (by first | assumption | omega | rfl | trivial) (by first | rfl | omega) ?_
      refine e_steps 3 (σ' := (26, [(3, .int (nI ((tp ps) - 48))), (0, .ref 0), (1, .int (nI td)), (2, .int (nI place))], [.int (nI ((tp ps) - 48)), .ref 0], (MH g kept was isKept tape (nI fd) (nI ps) (nI tl) ((-nI 1)) ranking paper written pairs above below isDone dist rowv rowMany lsz itm weakAbove weakBelow))) rfl ?_
      refine e_call (y := 135) (av := [.ref 0, .int (nI ((tp ps) - 48))]) (rest := []) rfl (c_X6_isOne_N (d + 0) (n := n) (outs := outs) (bm := bm) (ms := ms) (dr := dr) (cn := cn) (pl := pl) (by first | assumption | omega | rfl | trivial) (by first | assumption | omega | rfl | trivial)) (fun r_26 h_26 p_26 => ?_)
      obtain ⟨rfl, o_26⟩ := p_26
      rcases o_26 with ⟨rfl, o_26⟩ | ⟨rfl, o_26⟩
      · skip
        refine e_steps 3 (σ' := (34, [(3, .int (nI ((tp ps) - 48))), (0, .ref 0), (1, .int (nI td)), (2, .int (nI place))], [.int (nI ((tp ps) - 48)), .int (nI td)], (MH g kept was isKept tape (nI fd) (nI ps) (nI tl) ((-nI 1)) ranking paper written pairs above below isDone dist rowv rowMany lsz itm weakAbove weakBelow))) rfl ?_
        refine e_call (y := 131) (av := [.int (nI td), .int (nI ((tp ps) - 48))]) (rest := []) rfl (c_X6_has (d + 1) (by first | assumption | omega | rfl | trivial) (by first | assumption | omega | rfl | trivial)) (fun r_34 h_34 p_34 => ?_)
        obtain ⟨rfl, o_34⟩ := p_34
        rcases o_34 with ⟨rfl, o_34⟩ | ⟨rfl, o_34⟩
        · skip
          refine e_steps 4 (σ' := (45, [(3, .int (nI ((tp ps) - 48))), (0, .ref 0), (1, .int (nI td)), (2, .int (nI place))], [.int (nI ps), .ref 0], (MH g kept was isKept tape (nI fd) (nI ps) (nI tl) ((-nI 1)) ranking paper written pairs above below isDone dist rowv rowMany lsz itm weakAbove weakBelow))) rfl ?_
          refine e_call (y := 153) (av := [.ref 0, .int (nI ps)]) (rest := []) rfl (c_X6_fails (d + 1) ) (fun r_45 h_45 p_45 => ?_)
          obtain ⟨rfl, rfl⟩ := p_45
          refine e_steps 0 (σ' := (48, [(3, .int (nI ((tp ps) - 48))), (0, .ref 0), (1, .int (nI td)), (2, .int (nI place))], [.int (nI 0)], (MH g kept was isKept tape (nI fd) (nI ps) (nI tl) (nI ps) ranking paper written pairs above below isDone dist rowv rowMany lsz itm weakAbove weakBelow))) rfl ?_
          exact e_ret rfl (Or.inl rfl) (hR _ _ ⟨ranking, ps, nI ps, rfl, Or.inr ⟨rfl, (by first | exact ⟨rfl, rfl, fun q => absurd (o_34.symm.trans q.2.2.2.2) (by decide)⟩ | exact ⟨rfl, rfl, fun q => by omega⟩)⟩⟩)
        · skip
          refine e_steps 5 (σ' := (55, [(3, .int (nI ((tp ps) - 48))), (0, .ref 0), (1, .int (nI td)), (2, .int (nI place))], [.int (nI place), .int (nI ((tp ps) - 48)), .ref 5], (MH g kept was isKept tape (nI fd) (nI ps) (nI tl) ((-nI 1)) ranking paper written pairs above below isDone dist rowv rowMany lsz itm weakAbove weakBelow))) rfl ?_
          refine e_ias (MH g kept was isKept tape (nI fd) (nI ps) (nI tl) ((-nI 1)) (upd ranking ((tp ps) - 48) (nI place)) paper written pairs above below isDone dist rowv rowMany lsz itm weakAbove weakBelow) rfl rfl (by first | assumption | omega | rfl | trivial) (by decide) rfl ?_
          refine e_steps 4 (σ' := (62, [(3, .int (nI ((tp ps) - 48))), (0, .ref 0), (1, .int (nI td)), (2, .int (nI place))], [.int (nI 1), .int (nI ps), .ref 0], (MH g kept was isKept tape (nI fd) (nI ps) (nI tl) ((-nI 1)) (upd ranking ((tp ps) - 48) (nI place)) paper written pairs above below isDone dist rowv rowMany lsz itm weakAbove weakBelow))) rfl ?_
          refine e_add (ps + 1) rfl (by first | rfl | omega) ?_
          refine e_steps 2 (σ' := (67, [(3, .int (nI ((tp ps) - 48))), (0, .ref 0), (1, .int (nI td)), (2, .int (nI place))], [.int (nI 1)], (MH g kept was isKept tape (nI fd) (nI (ps + 1)) (nI tl) ((-nI 1)) (upd ranking ((tp ps) - 48) (nI place)) paper written pairs above below isDone dist rowv rowMany lsz itm weakAbove weakBelow))) rfl ?_
          exact e_ret rfl (Or.inr rfl) (hR _ _ ⟨upd ranking ((tp ps) - 48) (nI place), ps + 1, (-nI 1), rfl, Or.inl ⟨rfl, (by exact ⟨tp ps - 48, o_26, o_34, o_1.1, by omega, rfl, rfl, rfl⟩)⟩⟩)
      · skip
        refine e_steps 4 (σ' := (45, [(3, .int (nI ((tp ps) - 48))), (0, .ref 0), (1, .int (nI td)), (2, .int (nI place))], [.int (nI ps), .ref 0], (MH g kept was isKept tape (nI fd) (nI ps) (nI tl) ((-nI 1)) ranking paper written pairs above below isDone dist rowv rowMany lsz itm weakAbove weakBelow))) rfl ?_
        refine e_call (y := 153) (av := [.ref 0, .int (nI ps)]) (rest := []) rfl (c_X6_fails (d + 1) ) (fun r_45 h_45 p_45 => ?_)
        obtain ⟨rfl, rfl⟩ := p_45
        refine e_steps 0 (σ' := (48, [(3, .int (nI ((tp ps) - 48))), (0, .ref 0), (1, .int (nI td)), (2, .int (nI place))], [.int (nI 0)], (MH g kept was isKept tape (nI fd) (nI ps) (nI tl) (nI ps) ranking paper written pairs above below isDone dist rowv rowMany lsz itm weakAbove weakBelow))) rfl ?_
        exact e_ret rfl (Or.inl rfl) (hR _ _ ⟨ranking, ps, nI ps, rfl, Or.inr ⟨rfl, (by first | exact ⟨rfl, rfl, fun q => absurd (o_34.symm.trans q.2.2.2.2) (by decide)⟩ | exact ⟨rfl, rfl, fun q => by omega⟩)⟩⟩)
    · skip
      omega
  · skip
    refine e_steps 4 (σ' := (12, [(0, .ref 0), (1, .int (nI td)), (2, .int (nI place))], [.int (nI ps), .ref 0], (MH g kept was isKept tape (nI fd) (nI ps) (nI tl) ((-nI 1)) ranking paper written pairs above below isDone dist rowv rowMany lsz itm weakAbove weakBelow))) rfl ?_
    refine e_call (y := 153) (av := [.ref 0, .int (nI ps)]) (rest := []) rfl (c_X6_fails (d + 1) ) (fun r_12 h_12 p_12 => ?_)
    obtain ⟨rfl, rfl⟩ := p_12
    refine e_steps 0 (σ' := (15, [(0, .ref 0), (1, .int (nI td)), (2, .int (nI place))], [.int (nI 0)], (MH g kept was isKept tape (nI fd) (nI ps) (nI tl) (nI ps) ranking paper written pairs above below isDone dist rowv rowMany lsz itm weakAbove weakBelow))) rfl ?_
    exact e_ret rfl (Or.inl rfl) (hR _ _ ⟨ranking, ps, nI ps, rfl, Or.inr ⟨rfl, (by first | exact ⟨rfl, rfl, fun q => absurd (o_34.symm.trans q.2.2.2.2) (by decide)⟩ | exact ⟨rfl, rfl, fun q => by omega⟩)⟩⟩)
theorem c_X6_isRanking (d : Nat) {g : Nat → Int32} {kept : Nat → Int32} {was : Nat → Int32} {isKept : Int32} {tape : Nat → Int32} {fd : Nat} {ps : Nat} {tl : Nat} {ranking : Nat → Int32} {paper : Nat → Int32} {written : Int32} {pairs : Nat → Int64} {above : Nat → Int64} {below : Nat → Int64} {isDone : Nat → Int32} {dist : Nat → Int32} {rowv : Nat → Int32} {rowMany : Int32} {lsz : Nat → Int32} {itm : Nat → Int64} {weakAbove : Int64} {weakBelow : Int64} {n : Nat} {outs : Nat} {bm : Nat} {ms : Nat} {dr : Nat → Nat} {cn : Nat → Nat} {pl : Nat → Nat → Nat} {tp : Nat → Nat} (hG : z_GI g n outs bm ms dr cn pl) (hfd : fd ≤ 120) (hps : ps ≤ tl) (htl : tl ≤ 120) (htp : ∀ k, k < tl → tape k = nI (tp k) ∧ 1 ≤ tp k ∧ tp k ≤ 127) : z_CAL (d + 4) 156 [.ref 0] (MH g kept was isKept tape (nI fd) (nI ps) (nI tl) ((-nI 1)) ranking paper written pairs above below isDone dist rowv rowMany lsz itm weakAbove weakBelow) (fun r h2 => ∃ (ranking2 : Nat → Int32) (ps2 : Nat) (ft2 : Int32), h2 = (MH g kept was isKept tape (nI fd) (nI ps2) (nI tl) ft2 ranking2 paper written pairs above below isDone dist rowv rowMany lsz itm weakAbove weakBelow) ∧ ((r = some (.int (nI 1)) ∧ (∃ q, z_rp n tp tl 8 0 0 (fun _ => 0) ps = (true, ps2, q) ∧ (∀ c, c < n → ranking2 c = nI (q c)) ∧ ft2 = -nI 1)) ∨ (r = some (.int (nI 0)) ∧ (∃ q, z_rp n tp tl 8 0 0 (fun _ => 0) ps = (false, ps2, q) ∧ ft2 = nI ps2)))) := by
  refine e_of2 (q := zmX6_isRanking) rfl rfl (fun R hR => ?_)
  obtain ⟨⟨hn0, hn2, hn8⟩, ⟨ho0, ho8, hin⟩, ⟨hb0, hb40⟩, ⟨hm0, hm4⟩, ⟨hdr, hdl, hdc⟩, hcn, hpl⟩ := id hG; have hp8 := z_p2 hn8; have ho256 : outs < 256 := (by omega); have hi256 : z_dif (2 ^ n - 1) outs < 256 := (by have := z_dif_le (s := 2 ^ n - 1) (t := outs); omega)
  refine e_steps 5 (σ' := (5, [(1, .int (nI 0)), (0, .ref 0)], [.int (nI 0), .int (nI 0), .ref 0], (MH g kept was isKept tape (nI fd) (nI ps) (nI tl) ((-nI 1)) ranking paper written pairs above below isDone dist rowv rowMany lsz itm weakAbove weakBelow))) rfl ?_
  refine e_call (y := 155) (av := [.ref 0, .int (nI 0), .int (nI 0)]) (rest := []) rfl (c_X6_isTold (d + 0) (n := n) (outs := outs) (bm := bm) (ms := ms) (dr := dr) (cn := cn) (pl := pl) (tp := tp) (by first | assumption | omega | rfl | trivial) (by first | assumption | omega | rfl | trivial) (by first | assumption | omega | rfl | trivial) (by first | assumption | omega | rfl | trivial) (by first | assumption | omega | rfl | trivial) (by first | assumption | omega | rfl | trivial)) (fun r_5 h_5 p_5 => ?_)
  obtain ⟨ranking_5, pos_5, flt_5, rfl, o_5⟩ := p_5
  rcases o_5 with ⟨rfl, o_5⟩ | ⟨rfl, o_5⟩
  · skip
    obtain ⟨c1, hc1, hb1, hlt1, et1, ep1, er1, ef1⟩ := o_5; subst ep1 er1 ef1
    refine e_steps 7 (σ' := (23, [(1, .int (nI 0)), (0, .ref 0)], [.int (nI 1), .int (nI (ps + 1)), .ref 4, .int (nI 1)], (MH g kept was isKept tape (nI fd) (nI (ps + 1)) (nI tl) ((-nI 1)) ((upd ranking c1 (nI 0))) paper written pairs above below isDone dist rowv rowMany lsz itm weakAbove weakBelow))) rfl ?_
    refine e_sbt (ps) rfl (by first | assumption | omega | rfl | trivial) (by first | rfl | omega) ?_
    refine e_steps 0 (σ' := (24, [(1, .int (nI 0)), (0, .ref 0)], [.int (nI ps), .ref 4, .int (nI 1)], (MH g kept was isKept tape (nI fd) (nI (ps + 1)) (nI tl) ((-nI 1)) ((upd ranking c1 (nI 0))) paper written pairs above below isDone dist rowv rowMany lsz itm weakAbove weakBelow))) rfl ?_
    refine e_ial (nI (48 + c1)) rfl rfl (by first | assumption | omega | rfl | trivial) (by decide) (((htp _ (by omega)).1.trans (congrArg nI et1))) ?_
    refine e_steps 1 (σ' := (27, [(1, .int (nI 0)), (0, .ref 0)], [.int (nI 48), .int (nI (48 + c1)), .int (nI 1)], (MH g kept was isKept tape (nI fd) (nI (ps + 1)) (nI tl) ((-nI 1)) ((upd ranking c1 (nI 0))) paper written pairs above below isDone dist rowv rowMany lsz itm weakAbove weakBelow))) rfl ?_
    refine e_sbt (c1) rfl (by first | assumption | omega | rfl | trivial) (by first | rfl | omega) ?_
    refine e_steps 0 (σ' := (28, [(1, .int (nI 0)), (0, .ref 0)], [.int (nI c1), .int (nI 1)], (MH g kept was isKept tape (nI fd) (nI (ps + 1)) (nI tl) ((-nI 1)) ((upd ranking c1 (nI 0))) paper written pairs above below isDone dist rowv rowMany lsz itm weakAbove weakBelow))) rfl ?_
    refine e_shl rfl (by first | assumption | omega | rfl | trivial) ?_
    refine e_steps 1 (σ' := (30, [(2, .int (nI (2 ^ c1))), (1, .int (nI 0)), (0, .ref 0)], [], (MH g kept was isKept tape (nI fd) (nI (ps + 1)) (nI tl) ((-nI 1)) ((upd ranking c1 (nI 0))) paper written pairs above below isDone dist rowv rowMany lsz itm weakAbove weakBelow))) rfl ?_
    have loop_30 : ∀ (z_30 : Nat) (p : Nat) (td : Nat) (rk : Nat → Int32) (ps3 : Nat) (q : Nat → Nat) (f : Nat), tl - ps3 < z_30 → (z_rp n tp tl 8 0 0 (fun _ => 0) ps = z_rq n tp tl f td p q ps3 ∧ z_pc td + f = 8 ∧ td < 2 ^ n ∧ (∀ c, c < n → td.testBit c = true → rk c = nI (q c)) ∧ ps3 ≤ tl ∧ p < ps3) → z_EV (d + 3) zmX6_isRanking R (30, [(0, .ref 0), (1, .int (nI p)), (2, .int (nI td))], [], (MH g kept was isKept tape (nI fd) (nI ps3) (nI tl) ((-nI 1)) rk paper written pairs above below isDone dist rowv rowMany lsz itm weakAbove weakBelow)) := by
      intro z_30
      induction z_30 with
      | zero => intro p td rk ps3 q f hm_30 _; exact absurd hm_30 (Nat.not_lt_zero _)
      | succ z_30 ih_30 =>
        intro p td rk ps3 q f hm_30 hi_30
        obtain ⟨l1, l2, l3, l4, l5, l6⟩ := hi_30; have htd : td < 256 := (by omega)
        refine e_steps 1 (σ' := (31, [(0, .ref 0), (1, .int (nI p)), (2, .int (nI td))], [.ref 0], (MH g kept was isKept tape (nI fd) (nI ps3) (nI tl) ((-nI 1)) rk paper written pairs above below isDone dist rowv rowMany lsz itm weakAbove weakBelow))) rfl ?_
        refine e_call (y := 151) (av := [.ref 0]) (rest := []) rfl (c_X6_here (d + 2) (tp := tp) (by first | assumption | omega | rfl | trivial) (by first | assumption | omega | rfl | trivial) (by first | assumption | omega | rfl | trivial) (by first | assumption | omega | rfl | trivial)) (fun r_31 h_31 p_31 => ?_)
        obtain ⟨rfl, o_31⟩ := p_31
        rcases o_31 with ⟨rfl, o_31⟩ | ⟨rfl, o_31⟩
        · skip
          refine e_steps 1 (σ' := (36, [(0, .ref 0), (1, .int (nI p)), (2, .int (nI td))], [.int (nI 62), .int (nI (tp ps3))], (MH g kept was isKept tape (nI fd) (nI ps3) (nI tl) ((-nI 1)) rk paper written pairs above below isDone dist rowv rowMany lsz itm weakAbove weakBelow))) rfl ?_
          refine e_if (c := nI (tp ps3) = nI 62) rfl (fun c_36 => ?_) (fun c_36 => ?_)
          · skip
            rw [nI_eq (by omega) (by omega)] at c_36
            refine e_steps 2 (σ' := (50, [(0, .ref 0), (1, .int (nI p)), (2, .int (nI td))], [.ref 0, .int (nI p)], (MH g kept was isKept tape (nI fd) (nI ps3) (nI tl) ((-nI 1)) rk paper written pairs above below isDone dist rowv rowMany lsz itm weakAbove weakBelow))) rfl ?_
            refine e_call (y := 151) (av := [.ref 0]) (rest := [.int (nI p)]) rfl (c_X6_here (d + 2) (tp := tp) (by first | assumption | omega | rfl | trivial) (by first | assumption | omega | rfl | trivial) (by first | assumption | omega | rfl | trivial) (by first | assumption | omega | rfl | trivial)) (fun r_50 h_50 p_50 => ?_)
            obtain ⟨rfl, o_50⟩ := p_50
            rcases o_50 with ⟨rfl, o_50⟩ | ⟨rfl, o_50⟩
            · skip
              refine e_steps 1 (σ' := (55, [(0, .ref 0), (1, .int (nI p)), (2, .int (nI td))], [.int (nI 62), .int (nI (tp ps3)), .int (nI p)], (MH g kept was isKept tape (nI fd) (nI ps3) (nI tl) ((-nI 1)) rk paper written pairs above below isDone dist rowv rowMany lsz itm weakAbove weakBelow))) rfl ?_
              refine e_if (c := ¬ nI (tp ps3) = nI 62) rfl (fun c_55 => ?_) (fun c_55 => ?_)
              · skip
                rw [nI_eq (by omega) (by omega)] at c_55
                skip
                exact absurd c_36 c_55
              · skip
                rw [nI_eq (by omega) (by omega)] at c_55
                replace c_55 := Decidable.not_not.mp c_55
                refine e_steps 2 (σ' := (63, [(0, .ref 0), (1, .int (nI p)), (2, .int (nI td))], [.int (nI 1), .int (nI p)], (MH g kept was isKept tape (nI fd) (nI ps3) (nI tl) ((-nI 1)) rk paper written pairs above below isDone dist rowv rowMany lsz itm weakAbove weakBelow))) rfl ?_
                refine e_add (p + 1) rfl (by first | rfl | omega) ?_
                refine e_steps 5 (σ' := (71, [(1, .int (nI (p + 1))), (0, .ref 0), (2, .int (nI td))], [.int (nI 1), .int (nI ps3), .ref 0], (MH g kept was isKept tape (nI fd) (nI ps3) (nI tl) ((-nI 1)) rk paper written pairs above below isDone dist rowv rowMany lsz itm weakAbove weakBelow))) rfl ?_
                refine e_add (ps3 + 1) rfl (by first | rfl | omega) ?_
                refine e_steps 4 (σ' := (78, [(1, .int (nI (p + 1))), (0, .ref 0), (2, .int (nI td))], [.int (nI (p + 1)), .int (nI td), .ref 0], (MH g kept was isKept tape (nI fd) (nI (ps3 + 1)) (nI tl) ((-nI 1)) rk paper written pairs above below isDone dist rowv rowMany lsz itm weakAbove weakBelow))) rfl ?_
                refine e_call (y := 155) (av := [.ref 0, .int (nI td), .int (nI (p + 1))]) (rest := []) rfl (c_X6_isTold (d + 0) (n := n) (outs := outs) (bm := bm) (ms := ms) (dr := dr) (cn := cn) (pl := pl) (tp := tp) (by first | assumption | omega | rfl | trivial) (by first | assumption | omega | rfl | trivial) (by first | assumption | omega | rfl | trivial) (by first | assumption | omega | rfl | trivial) (by first | assumption | omega | rfl | trivial) (by first | assumption | omega | rfl | trivial)) (fun r_78 h_78 p_78 => ?_)
                obtain ⟨ranking_78, pos_78, flt_78, rfl, o_78⟩ := p_78
                rcases o_78 with ⟨rfl, o_78⟩ | ⟨rfl, o_78⟩
                · skip
                  obtain ⟨c2, hc2, hb2, hlt2, et2, ep2, er2, ef2⟩ := o_78; subst ep2 er2 ef2; have hpo := z_pc_or htd (show c2 < 8 by omega) hb2; have hpl := z_pc_le (td ||| 2 ^ c2)
                  refine e_steps 8 (σ' := (97, [(1, .int (nI (p + 1))), (0, .ref 0), (2, .int (nI td))], [.int (nI 1), .int (nI (ps3 + 1 + 1)), .ref 4, .int (nI 1), .int (nI td)], (MH g kept was isKept tape (nI fd) (nI (ps3 + 1 + 1)) (nI tl) ((-nI 1)) ((upd rk c2 (nI (p + 1)))) paper written pairs above below isDone dist rowv rowMany lsz itm weakAbove weakBelow))) rfl ?_
                  refine e_sbt (ps3 + 1) rfl (by first | assumption | omega | rfl | trivial) (by first | rfl | omega) ?_
                  refine e_steps 0 (σ' := (98, [(1, .int (nI (p + 1))), (0, .ref 0), (2, .int (nI td))], [.int (nI (ps3 + 1)), .ref 4, .int (nI 1), .int (nI td)], (MH g kept was isKept tape (nI fd) (nI (ps3 + 1 + 1)) (nI tl) ((-nI 1)) ((upd rk c2 (nI (p + 1)))) paper written pairs above below isDone dist rowv rowMany lsz itm weakAbove weakBelow))) rfl ?_
                  refine e_ial (nI (48 + c2)) rfl rfl (by first | assumption | omega | rfl | trivial) (by decide) (((htp _ (by omega)).1.trans (congrArg nI et2))) ?_
                  refine e_steps 1 (σ' := (101, [(1, .int (nI (p + 1))), (0, .ref 0), (2, .int (nI td))], [.int (nI 48), .int (nI (48 + c2)), .int (nI 1), .int (nI td)], (MH g kept was isKept tape (nI fd) (nI (ps3 + 1 + 1)) (nI tl) ((-nI 1)) ((upd rk c2 (nI (p + 1)))) paper written pairs above below isDone dist rowv rowMany lsz itm weakAbove weakBelow))) rfl ?_
                  refine e_sbt (c2) rfl (by first | assumption | omega | rfl | trivial) (by first | rfl | omega) ?_
                  refine e_steps 0 (σ' := (102, [(1, .int (nI (p + 1))), (0, .ref 0), (2, .int (nI td))], [.int (nI c2), .int (nI 1), .int (nI td)], (MH g kept was isKept tape (nI fd) (nI (ps3 + 1 + 1)) (nI tl) ((-nI 1)) ((upd rk c2 (nI (p + 1)))) paper written pairs above below isDone dist rowv rowMany lsz itm weakAbove weakBelow))) rfl ?_
                  refine e_shl rfl (by first | assumption | omega | rfl | trivial) ?_
                  refine e_steps 0 (σ' := (103, [(1, .int (nI (p + 1))), (0, .ref 0), (2, .int (nI td))], [.int (nI (2 ^ c2)), .int (nI td)], (MH g kept was isKept tape (nI fd) (nI (ps3 + 1 + 1)) (nI tl) ((-nI 1)) ((upd rk c2 (nI (p + 1)))) paper written pairs above below isDone dist rowv rowMany lsz itm weakAbove weakBelow))) rfl ?_
                  refine e_or (td ||| (2 ^ c2)) rfl (by first | rfl | decide) ?_
                  refine e_steps 2 (σ' := (30, [(2, .int (nI (td ||| (2 ^ c2)))), (1, .int (nI (p + 1))), (0, .ref 0)], [], (MH g kept was isKept tape (nI fd) (nI (ps3 + 1 + 1)) (nI tl) ((-nI 1)) ((upd rk c2 (nI (p + 1)))) paper written pairs above below isDone dist rowv rowMany lsz itm weakAbove weakBelow))) rfl ?_
                  refine e_sub [2, 1, 0] rfl ?_
                  exact ih_30 (p + 1) (td ||| (2 ^ c2)) ((upd rk c2 (nI (p + 1)))) (ps3 + 1 + 1) ((fun x => if x = c2 then p + 1 else q x)) ((f - 1)) (by omega) (by refine ⟨?_, by omega, Nat.or_lt_two_pow l3 (Nat.pow_lt_pow_right (by decide) hc2), fun c hc hb => ?_, by omega, by omega⟩; (rw [l1]; first | rw [z_rq_g (by omega) (by omega)] | rw [z_rq_e (by omega) (by omega)]); (rw [show f = (f - 1) + 1 by omega, z_rp_q hlt2 et2 hc2 hn8 hb2]; rfl); (by_cases e : c = c2; (subst e; rw [if_pos rfl]; exact pk_us); (rw [if_neg e, z_un e]; exact l4 c hc (by rw [Nat.testBit_or, z_p2bit, decide_eq_false (fun q => e q.symm), Bool.or_false] at hb; exact hb))))
                · skip
                  obtain ⟨ep1, ef1, hno⟩ := o_78; replace ep1 := ep1.symm; subst ep1; replace ef1 := ef1.symm; subst ef1
                  refine e_steps 2 (σ' := (85, [(1, .int (nI (p + 1))), (0, .ref 0), (2, .int (nI td))], [.int (nI 0)], (MH g kept was isKept tape (nI fd) (nI (ps3 + 1)) (nI tl) ((nI (ps3 + 1))) ranking_78 paper written pairs above below isDone dist rowv rowMany lsz itm weakAbove weakBelow))) rfl ?_
                  exact e_ret rfl (Or.inl rfl) (hR _ _ ⟨ranking_78, ps3 + 1, (nI (ps3 + 1)), rfl, Or.inr ⟨rfl, (by first | exact ⟨(fun _ => 0), z_rp_no hno, rfl⟩ | exact ⟨q, l1.trans ((z_rq_g (by omega) (by omega)).trans (z_rp_no hno)), rfl⟩ | exact ⟨q, l1.trans ((z_rq_e (by omega) (by omega)).trans (z_rp_no hno)), rfl⟩)⟩⟩)
            · skip
              omega
          · skip
            rw [nI_eq (by omega) (by omega)] at c_36
            refine e_steps 1 (σ' := (40, [(0, .ref 0), (1, .int (nI p)), (2, .int (nI td))], [.ref 0], (MH g kept was isKept tape (nI fd) (nI ps3) (nI tl) ((-nI 1)) rk paper written pairs above below isDone dist rowv rowMany lsz itm weakAbove weakBelow))) rfl ?_
            refine e_call (y := 151) (av := [.ref 0]) (rest := []) rfl (c_X6_here (d + 2) (tp := tp) (by first | assumption | omega | rfl | trivial) (by first | assumption | omega | rfl | trivial) (by first | assumption | omega | rfl | trivial) (by first | assumption | omega | rfl | trivial)) (fun r_40 h_40 p_40 => ?_)
            obtain ⟨rfl, o_40⟩ := p_40
            rcases o_40 with ⟨rfl, o_40⟩ | ⟨rfl, o_40⟩
            · skip
              refine e_steps 1 (σ' := (45, [(0, .ref 0), (1, .int (nI p)), (2, .int (nI td))], [.int (nI 61), .int (nI (tp ps3))], (MH g kept was isKept tape (nI fd) (nI ps3) (nI tl) ((-nI 1)) rk paper written pairs above below isDone dist rowv rowMany lsz itm weakAbove weakBelow))) rfl ?_
              refine e_if (c := ¬ nI (tp ps3) = nI 61) rfl (fun c_45 => ?_) (fun c_45 => ?_)
              · skip
                rw [nI_eq (by omega) (by omega)] at c_45
                skip
                refine e_steps 2 (σ' := (110, [(3, .int (nI 0)), (0, .ref 0), (1, .int (nI p)), (2, .int (nI td))], [], (MH g kept was isKept tape (nI fd) (nI ps3) (nI tl) ((-nI 1)) rk paper written pairs above below isDone dist rowv rowMany lsz itm weakAbove weakBelow))) rfl ?_
                have loop_110 : ∀ (z_110 : Nat) (c : Nat) (rkl : Nat → Int32), n - c < z_110 → (c ≤ n ∧ (∀ i, i < n → td.testBit i = true → rkl i = nI (q i)) ∧ ∀ i, i < c → td.testBit i = false → rkl i = nI (p + 1)) → z_EV (d + 3) zmX6_isRanking R (110, [(0, .ref 0), (1, .int (nI p)), (2, .int (nI td)), (3, .int (nI c))], [], (MH g kept was isKept tape (nI fd) (nI ps3) (nI tl) ((-nI 1)) rkl paper written pairs above below isDone dist rowv rowMany lsz itm weakAbove weakBelow)) := by
                  intro z_110
                  induction z_110 with
                  | zero => intro c rkl hm_110 _; exact absurd hm_110 (Nat.not_lt_zero _)
                  | succ z_110 ih_110 =>
                    intro c rkl hm_110 hi_110
                    obtain ⟨m1, m2, m3⟩ := hi_110
                    refine e_steps 4 (σ' := (116, [(0, .ref 0), (1, .int (nI p)), (2, .int (nI td)), (3, .int (nI c))], [.int (nI 0), .ref 1, .int (nI c)], (MH g kept was isKept tape (nI fd) (nI ps3) (nI tl) ((-nI 1)) rkl paper written pairs above below isDone dist rowv rowMany lsz itm weakAbove weakBelow))) rfl ?_
                    refine e_ial (nI n) rfl rfl (by first | assumption | omega | rfl | trivial) (by decide) (hn0) ?_
                    refine e_steps 0 (σ' := (117, [(0, .ref 0), (1, .int (nI p)), (2, .int (nI td)), (3, .int (nI c))], [.int (nI n), .int (nI c)], (MH g kept was isKept tape (nI fd) (nI ps3) (nI tl) ((-nI 1)) rkl paper written pairs above below isDone dist rowv rowMany lsz itm weakAbove weakBelow))) rfl ?_
                    refine e_if (c := nI n ≤ nI c) rfl (fun c_117 => ?_) (fun c_117 => ?_)
                    · skip
                      rw [nI_leI (by omega) (by omega)] at c_117
                      refine e_steps 1 (σ' := (144, [(0, .ref 0), (1, .int (nI p)), (2, .int (nI td)), (3, .int (nI c))], [.int (nI 1)], (MH g kept was isKept tape (nI fd) (nI ps3) (nI tl) ((-nI 1)) rkl paper written pairs above below isDone dist rowv rowMany lsz itm weakAbove weakBelow))) rfl ?_
                      exact e_ret rfl (Or.inr rfl) (hR _ _ ⟨rkl, ps3, (-nI 1), rfl, Or.inl ⟨rfl, (by exact ⟨_, l1.trans (z_rq_end (by omega) (by omega)), fun x hx => by cases hb : td.testBit x with | true => (rw [if_pos rfl]; exact m2 x hx hb) | false => (rw [if_neg (by decide)]; exact m3 x (by omega) hb), rfl⟩)⟩⟩)
                    · skip
                      rw [nI_leI (by omega) (by omega)] at c_117
                      refine e_steps 2 (σ' := (122, [(0, .ref 0), (1, .int (nI p)), (2, .int (nI td)), (3, .int (nI c))], [.int (nI c), .int (nI td)], (MH g kept was isKept tape (nI fd) (nI ps3) (nI tl) ((-nI 1)) rkl paper written pairs above below isDone dist rowv rowMany lsz itm weakAbove weakBelow))) rfl ?_
                      refine e_call (y := 131) (av := [.int (nI td), .int (nI c)]) (rest := []) rfl (c_X6_has (d + 2) (by first | assumption | omega | rfl | trivial) (by first | assumption | omega | rfl | trivial)) (fun r_122 h_122 p_122 => ?_)
                      obtain ⟨rfl, o_122⟩ := p_122
                      rcases o_122 with ⟨rfl, o_122⟩ | ⟨rfl, o_122⟩
                      · skip
                        refine e_steps 1 (σ' := (137, [(0, .ref 0), (1, .int (nI p)), (2, .int (nI td)), (3, .int (nI c))], [], (MH g kept was isKept tape (nI fd) (nI ps3) (nI tl) ((-nI 1)) rkl paper written pairs above below isDone dist rowv rowMany lsz itm weakAbove weakBelow))) rfl ?_
                        refine e_inc (n := 1) rfl rfl rfl (c + 1) (by rfl) [(3, .int (nI (c + 1))), (0, .ref 0), (1, .int (nI p)), (2, .int (nI td))] rfl ?_
                        refine e_steps 1 (σ' := (110, [(3, .int (nI (c + 1))), (0, .ref 0), (1, .int (nI p)), (2, .int (nI td))], [], (MH g kept was isKept tape (nI fd) (nI ps3) (nI tl) ((-nI 1)) rkl paper written pairs above below isDone dist rowv rowMany lsz itm weakAbove weakBelow))) rfl ?_
                        refine e_sub [1, 2, 3, 0] rfl ?_
                        exact ih_110 (c + 1) rkl (by omega) (by first | exact ⟨by omega, fun i hi hb => by rw [z_un (fun q => by subst q; rw [o_122] at hb; cases hb)]; exact m2 i hi hb, fun i hi hb => by (by_cases e : i = c; subst e; exact pk_us; rw [z_un e]; exact m3 i (by omega) hb)⟩ | exact ⟨by omega, m2, fun i hi hb => by (by_cases e : i = c; (subst e; rw [o_122] at hb; cases hb); exact m3 i (by omega) hb)⟩)
                      · skip
                        refine e_steps 6 (σ' := (135, [(0, .ref 0), (1, .int (nI p)), (2, .int (nI td)), (3, .int (nI c))], [.int (nI 1), .int (nI p), .int (nI c), .ref 5], (MH g kept was isKept tape (nI fd) (nI ps3) (nI tl) ((-nI 1)) rkl paper written pairs above below isDone dist rowv rowMany lsz itm weakAbove weakBelow))) rfl ?_
                        refine e_add (p + 1) rfl (by first | rfl | omega) ?_
                        refine e_steps 0 (σ' := (136, [(0, .ref 0), (1, .int (nI p)), (2, .int (nI td)), (3, .int (nI c))], [.int (nI (p + 1)), .int (nI c), .ref 5], (MH g kept was isKept tape (nI fd) (nI ps3) (nI tl) ((-nI 1)) rkl paper written pairs above below isDone dist rowv rowMany lsz itm weakAbove weakBelow))) rfl ?_
                        refine e_ias (MH g kept was isKept tape (nI fd) (nI ps3) (nI tl) ((-nI 1)) (upd rkl c (nI (p + 1))) paper written pairs above below isDone dist rowv rowMany lsz itm weakAbove weakBelow) rfl rfl (by first | assumption | omega | rfl | trivial) (by decide) rfl ?_
                        refine e_steps 0 (σ' := (137, [(0, .ref 0), (1, .int (nI p)), (2, .int (nI td)), (3, .int (nI c))], [], (MH g kept was isKept tape (nI fd) (nI ps3) (nI tl) ((-nI 1)) (upd rkl c (nI (p + 1))) paper written pairs above below isDone dist rowv rowMany lsz itm weakAbove weakBelow))) rfl ?_
                        refine e_inc (n := 1) rfl rfl rfl (c + 1) (by rfl) [(3, .int (nI (c + 1))), (0, .ref 0), (1, .int (nI p)), (2, .int (nI td))] rfl ?_
                        refine e_steps 1 (σ' := (110, [(3, .int (nI (c + 1))), (0, .ref 0), (1, .int (nI p)), (2, .int (nI td))], [], (MH g kept was isKept tape (nI fd) (nI ps3) (nI tl) ((-nI 1)) (upd rkl c (nI (p + 1))) paper written pairs above below isDone dist rowv rowMany lsz itm weakAbove weakBelow))) rfl ?_
                        refine e_sub [1, 2, 3, 0] rfl ?_
                        exact ih_110 (c + 1) (upd rkl c (nI (p + 1))) (by omega) (by first | exact ⟨by omega, fun i hi hb => by rw [z_un (fun q => by subst q; rw [o_122] at hb; cases hb)]; exact m2 i hi hb, fun i hi hb => by (by_cases e : i = c; subst e; exact pk_us; rw [z_un e]; exact m3 i (by omega) hb)⟩ | exact ⟨by omega, m2, fun i hi hb => by (by_cases e : i = c; (subst e; rw [o_122] at hb; cases hb); exact m3 i (by omega) hb)⟩)
                refine e_sub [1, 2, 3, 0] rfl ?_
                exact loop_110 _ 0 rk (Nat.lt_succ_self _) (by exact ⟨by omega, l4, fun i hi => absurd hi (Nat.not_lt_zero i)⟩)
              · skip
                rw [nI_eq (by omega) (by omega)] at c_45
                replace c_45 := Decidable.not_not.mp c_45
                refine e_steps 2 (σ' := (50, [(0, .ref 0), (1, .int (nI p)), (2, .int (nI td))], [.ref 0, .int (nI p)], (MH g kept was isKept tape (nI fd) (nI ps3) (nI tl) ((-nI 1)) rk paper written pairs above below isDone dist rowv rowMany lsz itm weakAbove weakBelow))) rfl ?_
                refine e_call (y := 151) (av := [.ref 0]) (rest := [.int (nI p)]) rfl (c_X6_here (d + 2) (tp := tp) (by first | assumption | omega | rfl | trivial) (by first | assumption | omega | rfl | trivial) (by first | assumption | omega | rfl | trivial) (by first | assumption | omega | rfl | trivial)) (fun r_50 h_50 p_50 => ?_)
                obtain ⟨rfl, o_50⟩ := p_50
                rcases o_50 with ⟨rfl, o_50⟩ | ⟨rfl, o_50⟩
                · skip
                  refine e_steps 1 (σ' := (55, [(0, .ref 0), (1, .int (nI p)), (2, .int (nI td))], [.int (nI 62), .int (nI (tp ps3)), .int (nI p)], (MH g kept was isKept tape (nI fd) (nI ps3) (nI tl) ((-nI 1)) rk paper written pairs above below isDone dist rowv rowMany lsz itm weakAbove weakBelow))) rfl ?_
                  refine e_if (c := ¬ nI (tp ps3) = nI 62) rfl (fun c_55 => ?_) (fun c_55 => ?_)
                  · skip
                    rw [nI_eq (by omega) (by omega)] at c_55
                    skip
                    refine e_steps 1 (σ' := (63, [(0, .ref 0), (1, .int (nI p)), (2, .int (nI td))], [.int (nI 0), .int (nI p)], (MH g kept was isKept tape (nI fd) (nI ps3) (nI tl) ((-nI 1)) rk paper written pairs above below isDone dist rowv rowMany lsz itm weakAbove weakBelow))) rfl ?_
                    refine e_add (p) rfl (by first | rfl | omega) ?_
                    refine e_steps 5 (σ' := (71, [(1, .int (nI p)), (0, .ref 0), (2, .int (nI td))], [.int (nI 1), .int (nI ps3), .ref 0], (MH g kept was isKept tape (nI fd) (nI ps3) (nI tl) ((-nI 1)) rk paper written pairs above below isDone dist rowv rowMany lsz itm weakAbove weakBelow))) rfl ?_
                    refine e_add (ps3 + 1) rfl (by first | rfl | omega) ?_
                    refine e_steps 4 (σ' := (78, [(1, .int (nI p)), (0, .ref 0), (2, .int (nI td))], [.int (nI p), .int (nI td), .ref 0], (MH g kept was isKept tape (nI fd) (nI (ps3 + 1)) (nI tl) ((-nI 1)) rk paper written pairs above below isDone dist rowv rowMany lsz itm weakAbove weakBelow))) rfl ?_
                    refine e_call (y := 155) (av := [.ref 0, .int (nI td), .int (nI p)]) (rest := []) rfl (c_X6_isTold (d + 0) (n := n) (outs := outs) (bm := bm) (ms := ms) (dr := dr) (cn := cn) (pl := pl) (tp := tp) (by first | assumption | omega | rfl | trivial) (by first | assumption | omega | rfl | trivial) (by first | assumption | omega | rfl | trivial) (by first | assumption | omega | rfl | trivial) (by first | assumption | omega | rfl | trivial) (by first | assumption | omega | rfl | trivial)) (fun r_78 h_78 p_78 => ?_)
                    obtain ⟨ranking_78, pos_78, flt_78, rfl, o_78⟩ := p_78
                    rcases o_78 with ⟨rfl, o_78⟩ | ⟨rfl, o_78⟩
                    · skip
                      obtain ⟨c2, hc2, hb2, hlt2, et2, ep2, er2, ef2⟩ := o_78; subst ep2 er2 ef2; have hpo := z_pc_or htd (show c2 < 8 by omega) hb2; have hpl := z_pc_le (td ||| 2 ^ c2)
                      refine e_steps 8 (σ' := (97, [(1, .int (nI p)), (0, .ref 0), (2, .int (nI td))], [.int (nI 1), .int (nI (ps3 + 1 + 1)), .ref 4, .int (nI 1), .int (nI td)], (MH g kept was isKept tape (nI fd) (nI (ps3 + 1 + 1)) (nI tl) ((-nI 1)) ((upd rk c2 (nI p))) paper written pairs above below isDone dist rowv rowMany lsz itm weakAbove weakBelow))) rfl ?_
                      refine e_sbt (ps3 + 1) rfl (by first | assumption | omega | rfl | trivial) (by first | rfl | omega) ?_
                      refine e_steps 0 (σ' := (98, [(1, .int (nI p)), (0, .ref 0), (2, .int (nI td))], [.int (nI (ps3 + 1)), .ref 4, .int (nI 1), .int (nI td)], (MH g kept was isKept tape (nI fd) (nI (ps3 + 1 + 1)) (nI tl) ((-nI 1)) ((upd rk c2 (nI p))) paper written pairs above below isDone dist rowv rowMany lsz itm weakAbove weakBelow))) rfl ?_
                      refine e_ial (nI (48 + c2)) rfl rfl (by first | assumption | omega | rfl | trivial) (by decide) (((htp _ (by omega)).1.trans (congrArg nI et2))) ?_
                      refine e_steps 1 (σ' := (101, [(1, .int (nI p)), (0, .ref 0), (2, .int (nI td))], [.int (nI 48), .int (nI (48 + c2)), .int (nI 1), .int (nI td)], (MH g kept was isKept tape (nI fd) (nI (ps3 + 1 + 1)) (nI tl) ((-nI 1)) ((upd rk c2 (nI p))) paper written pairs above below isDone dist rowv rowMany lsz itm weakAbove weakBelow))) rfl ?_
                      refine e_sbt (c2) rfl (by first | assumption | omega | rfl | trivial) (by first | rfl | omega) ?_
                      refine e_steps 0 (σ' := (102, [(1, .int (nI p)), (0, .ref 0), (2, .int (nI td))], [.int (nI c2), .int (nI 1), .int (nI td)], (MH g kept was isKept tape (nI fd) (nI (ps3 + 1 + 1)) (nI tl) ((-nI 1)) ((upd rk c2 (nI p))) paper written pairs above below isDone dist rowv rowMany lsz itm weakAbove weakBelow))) rfl ?_
                      refine e_shl rfl (by first | assumption | omega | rfl | trivial) ?_
                      refine e_steps 0 (σ' := (103, [(1, .int (nI p)), (0, .ref 0), (2, .int (nI td))], [.int (nI (2 ^ c2)), .int (nI td)], (MH g kept was isKept tape (nI fd) (nI (ps3 + 1 + 1)) (nI tl) ((-nI 1)) ((upd rk c2 (nI p))) paper written pairs above below isDone dist rowv rowMany lsz itm weakAbove weakBelow))) rfl ?_
                      refine e_or (td ||| (2 ^ c2)) rfl (by first | rfl | decide) ?_
                      refine e_steps 2 (σ' := (30, [(2, .int (nI (td ||| (2 ^ c2)))), (1, .int (nI p)), (0, .ref 0)], [], (MH g kept was isKept tape (nI fd) (nI (ps3 + 1 + 1)) (nI tl) ((-nI 1)) ((upd rk c2 (nI p))) paper written pairs above below isDone dist rowv rowMany lsz itm weakAbove weakBelow))) rfl ?_
                      refine e_sub [2, 1, 0] rfl ?_
                      exact ih_30 p (td ||| (2 ^ c2)) ((upd rk c2 (nI p))) (ps3 + 1 + 1) ((fun x => if x = c2 then p else q x)) ((f - 1)) (by omega) (by refine ⟨?_, by omega, Nat.or_lt_two_pow l3 (Nat.pow_lt_pow_right (by decide) hc2), fun c hc hb => ?_, by omega, by omega⟩; (rw [l1]; first | rw [z_rq_g (by omega) (by omega)] | rw [z_rq_e (by omega) (by omega)]); (rw [show f = (f - 1) + 1 by omega, z_rp_q hlt2 et2 hc2 hn8 hb2]; rfl); (by_cases e : c = c2; (subst e; rw [if_pos rfl]; exact pk_us); (rw [if_neg e, z_un e]; exact l4 c hc (by rw [Nat.testBit_or, z_p2bit, decide_eq_false (fun q => e q.symm), Bool.or_false] at hb; exact hb))))
                    · skip
                      obtain ⟨ep1, ef1, hno⟩ := o_78; replace ep1 := ep1.symm; subst ep1; replace ef1 := ef1.symm; subst ef1
                      refine e_steps 2 (σ' := (85, [(1, .int (nI p)), (0, .ref 0), (2, .int (nI td))], [.int (nI 0)], (MH g kept was isKept tape (nI fd) (nI (ps3 + 1)) (nI tl) ((nI (ps3 + 1))) ranking_78 paper written pairs above below isDone dist rowv rowMany lsz itm weakAbove weakBelow))) rfl ?_
                      exact e_ret rfl (Or.inl rfl) (hR _ _ ⟨ranking_78, ps3 + 1, (nI (ps3 + 1)), rfl, Or.inr ⟨rfl, (by first | exact ⟨(fun _ => 0), z_rp_no hno, rfl⟩ | exact ⟨q, l1.trans ((z_rq_g (by omega) (by omega)).trans (z_rp_no hno)), rfl⟩ | exact ⟨q, l1.trans ((z_rq_e (by omega) (by omega)).trans (z_rp_no hno)), rfl⟩)⟩⟩)
                  · skip
                    rw [nI_eq (by omega) (by omega)] at c_55
                    replace c_55 := Decidable.not_not.mp c_55
                    exact absurd c_55 c_36
                · skip
                  omega
            · skip
              omega
        · skip
          refine e_steps 3 (σ' := (40, [(0, .ref 0), (1, .int (nI p)), (2, .int (nI td))], [.ref 0], (MH g kept was isKept tape (nI fd) (nI ps3) (nI tl) ((-nI 1)) rk paper written pairs above below isDone dist rowv rowMany lsz itm weakAbove weakBelow))) rfl ?_
          refine e_call (y := 151) (av := [.ref 0]) (rest := []) rfl (c_X6_here (d + 2) (tp := tp) (by first | assumption | omega | rfl | trivial) (by first | assumption | omega | rfl | trivial) (by first | assumption | omega | rfl | trivial) (by first | assumption | omega | rfl | trivial)) (fun r_40 h_40 p_40 => ?_)
          obtain ⟨rfl, o_40⟩ := p_40
          rcases o_40 with ⟨rfl, o_40⟩ | ⟨rfl, o_40⟩
          · skip
            omega
          · skip
            refine e_steps 4 (σ' := (110, [(3, .int (nI 0)), (0, .ref 0), (1, .int (nI p)), (2, .int (nI td))], [], (MH g kept was isKept tape (nI fd) (nI ps3) (nI tl) ((-nI 1)) rk paper written pairs above below isDone dist rowv rowMany lsz itm weakAbove weakBelow))) rfl ?_
            have loop_110 : ∀ (z_110 : Nat) (c : Nat) (rkl : Nat → Int32), n - c < z_110 → (c ≤ n ∧ (∀ i, i < n → td.testBit i = true → rkl i = nI (q i)) ∧ ∀ i, i < c → td.testBit i = false → rkl i = nI (p + 1)) → z_EV (d + 3) zmX6_isRanking R (110, [(0, .ref 0), (1, .int (nI p)), (2, .int (nI td)), (3, .int (nI c))], [], (MH g kept was isKept tape (nI fd) (nI ps3) (nI tl) ((-nI 1)) rkl paper written pairs above below isDone dist rowv rowMany lsz itm weakAbove weakBelow)) := by
              intro z_110
              induction z_110 with
              | zero => intro c rkl hm_110 _; exact absurd hm_110 (Nat.not_lt_zero _)
              | succ z_110 ih_110 =>
                intro c rkl hm_110 hi_110
                obtain ⟨m1, m2, m3⟩ := hi_110
                refine e_steps 4 (σ' := (116, [(0, .ref 0), (1, .int (nI p)), (2, .int (nI td)), (3, .int (nI c))], [.int (nI 0), .ref 1, .int (nI c)], (MH g kept was isKept tape (nI fd) (nI ps3) (nI tl) ((-nI 1)) rkl paper written pairs above below isDone dist rowv rowMany lsz itm weakAbove weakBelow))) rfl ?_
                refine e_ial (nI n) rfl rfl (by first | assumption | omega | rfl | trivial) (by decide) (hn0) ?_
                refine e_steps 0 (σ' := (117, [(0, .ref 0), (1, .int (nI p)), (2, .int (nI td)), (3, .int (nI c))], [.int (nI n), .int (nI c)], (MH g kept was isKept tape (nI fd) (nI ps3) (nI tl) ((-nI 1)) rkl paper written pairs above below isDone dist rowv rowMany lsz itm weakAbove weakBelow))) rfl ?_
                refine e_if (c := nI n ≤ nI c) rfl (fun c_117 => ?_) (fun c_117 => ?_)
                · skip
                  rw [nI_leI (by omega) (by omega)] at c_117
                  refine e_steps 1 (σ' := (144, [(0, .ref 0), (1, .int (nI p)), (2, .int (nI td)), (3, .int (nI c))], [.int (nI 1)], (MH g kept was isKept tape (nI fd) (nI ps3) (nI tl) ((-nI 1)) rkl paper written pairs above below isDone dist rowv rowMany lsz itm weakAbove weakBelow))) rfl ?_
                  exact e_ret rfl (Or.inr rfl) (hR _ _ ⟨rkl, ps3, (-nI 1), rfl, Or.inl ⟨rfl, (by exact ⟨_, l1.trans (z_rq_end (by omega) (by omega)), fun x hx => by cases hb : td.testBit x with | true => (rw [if_pos rfl]; exact m2 x hx hb) | false => (rw [if_neg (by decide)]; exact m3 x (by omega) hb), rfl⟩)⟩⟩)
                · skip
                  rw [nI_leI (by omega) (by omega)] at c_117
                  refine e_steps 2 (σ' := (122, [(0, .ref 0), (1, .int (nI p)), (2, .int (nI td)), (3, .int (nI c))], [.int (nI c), .int (nI td)], (MH g kept was isKept tape (nI fd) (nI ps3) (nI tl) ((-nI 1)) rkl paper written pairs above below isDone dist rowv rowMany lsz itm weakAbove weakBelow))) rfl ?_
                  refine e_call (y := 131) (av := [.int (nI td), .int (nI c)]) (rest := []) rfl (c_X6_has (d + 2) (by first | assumption | omega | rfl | trivial) (by first | assumption | omega | rfl | trivial)) (fun r_122 h_122 p_122 => ?_)
                  obtain ⟨rfl, o_122⟩ := p_122
                  rcases o_122 with ⟨rfl, o_122⟩ | ⟨rfl, o_122⟩
                  · skip
                    refine e_steps 1 (σ' := (137, [(0, .ref 0), (1, .int (nI p)), (2, .int (nI td)), (3, .int (nI c))], [], (MH g kept was isKept tape (nI fd) (nI ps3) (nI tl) ((-nI 1)) rkl paper written pairs above below isDone dist rowv rowMany lsz itm weakAbove weakBelow))) rfl ?_
                    refine e_inc (n := 1) rfl rfl rfl (c + 1) (by rfl) [(3, .int (nI (c + 1))), (0, .ref 0), (1, .int (nI p)), (2, .int (nI td))] rfl ?_
                    refine e_steps 1 (σ' := (110, [(3, .int (nI (c + 1))), (0, .ref 0), (1, .int (nI p)), (2, .int (nI td))], [], (MH g kept was isKept tape (nI fd) (nI ps3) (nI tl) ((-nI 1)) rkl paper written pairs above below isDone dist rowv rowMany lsz itm weakAbove weakBelow))) rfl ?_
                    refine e_sub [1, 2, 3, 0] rfl ?_
                    exact ih_110 (c + 1) rkl (by omega) (by first | exact ⟨by omega, fun i hi hb => by rw [z_un (fun q => by subst q; rw [o_122] at hb; cases hb)]; exact m2 i hi hb, fun i hi hb => by (by_cases e : i = c; subst e; exact pk_us; rw [z_un e]; exact m3 i (by omega) hb)⟩ | exact ⟨by omega, m2, fun i hi hb => by (by_cases e : i = c; (subst e; rw [o_122] at hb; cases hb); exact m3 i (by omega) hb)⟩)
                  · skip
                    refine e_steps 6 (σ' := (135, [(0, .ref 0), (1, .int (nI p)), (2, .int (nI td)), (3, .int (nI c))], [.int (nI 1), .int (nI p), .int (nI c), .ref 5], (MH g kept was isKept tape (nI fd) (nI ps3) (nI tl) ((-nI 1)) rkl paper written pairs above below isDone dist rowv rowMany lsz itm weakAbove weakBelow))) rfl ?_
                    refine e_add (p + 1) rfl (by first | rfl | omega) ?_
                    refine e_steps 0 (σ' := (136, [(0, .ref 0), (1, .int (nI p)), (2, .int (nI td)), (3, .int (nI c))], [.int (nI (p + 1)), .int (nI c), .ref 5], (MH g kept was isKept tape (nI fd) (nI ps3) (nI tl) ((-nI 1)) rkl paper written pairs above below isDone dist rowv rowMany lsz itm weakAbove weakBelow))) rfl ?_
                    refine e_ias (MH g kept was isKept tape (nI fd) (nI ps3) (nI tl) ((-nI 1)) (upd rkl c (nI (p + 1))) paper written pairs above below isDone dist rowv rowMany lsz itm weakAbove weakBelow) rfl rfl (by first | assumption | omega | rfl | trivial) (by decide) rfl ?_
                    refine e_steps 0 (σ' := (137, [(0, .ref 0), (1, .int (nI p)), (2, .int (nI td)), (3, .int (nI c))], [], (MH g kept was isKept tape (nI fd) (nI ps3) (nI tl) ((-nI 1)) (upd rkl c (nI (p + 1))) paper written pairs above below isDone dist rowv rowMany lsz itm weakAbove weakBelow))) rfl ?_
                    refine e_inc (n := 1) rfl rfl rfl (c + 1) (by rfl) [(3, .int (nI (c + 1))), (0, .ref 0), (1, .int (nI p)), (2, .int (nI td))] rfl ?_
                    refine e_steps 1 (σ' := (110, [(3, .int (nI (c + 1))), (0, .ref 0), (1, .int (nI p)), (2, .int (nI td))], [], (MH g kept was isKept tape (nI fd) (nI ps3) (nI tl) ((-nI 1)) (upd rkl c (nI (p + 1))) paper written pairs above below isDone dist rowv rowMany lsz itm weakAbove weakBelow))) rfl ?_
                    refine e_sub [1, 2, 3, 0] rfl ?_
                    exact ih_110 (c + 1) (upd rkl c (nI (p + 1))) (by omega) (by first | exact ⟨by omega, fun i hi hb => by rw [z_un (fun q => by subst q; rw [o_122] at hb; cases hb)]; exact m2 i hi hb, fun i hi hb => by (by_cases e : i = c; subst e; exact pk_us; rw [z_un e]; exact m3 i (by omega) hb)⟩ | exact ⟨by omega, m2, fun i hi hb => by (by_cases e : i = c; (subst e; rw [o_122] at hb; cases hb); exact m3 i (by omega) hb)⟩)
            refine e_sub [1, 2, 3, 0] rfl ?_
            exact loop_110 _ 0 rk (Nat.lt_succ_self _) (by exact ⟨by omega, l4, fun i hi => absurd hi (Nat.not_lt_zero i)⟩)
    refine e_sub [2, 1, 0] rfl ?_
    exact loop_30 _ 0 (2 ^ c1) ((upd ranking c1 (nI 0))) (ps + 1) ((fun x => if x = c1 then 0 else (fun _ => 0) x)) 7 (Nat.lt_succ_self _) (by exact ⟨by rw [z_rp_q hlt1 et1 hc1 hn8 hb1, Nat.zero_or], by rw [← Nat.zero_or (2 ^ c1), z_pc_or (by omega) (by omega) hb1]; rfl, Nat.pow_lt_pow_right (by decide) hc1, fun c hc hb => by rw [z_p2bit] at hb; have e : c1 = c := of_decide_eq_true hb; subst e; rw [if_pos rfl]; exact pk_us, by omega, by omega⟩)
  · skip
    obtain ⟨ep1, ef1, hno⟩ := o_5; replace ep1 := ep1.symm; subst ep1; replace ef1 := ef1.symm; subst ef1
    refine e_steps 2 (σ' := (12, [(1, .int (nI 0)), (0, .ref 0)], [.int (nI 0)], (MH g kept was isKept tape (nI fd) (nI ps) (nI tl) ((nI ps)) ranking_5 paper written pairs above below isDone dist rowv rowMany lsz itm weakAbove weakBelow))) rfl ?_
    exact e_ret rfl (Or.inl rfl) (hR _ _ ⟨ranking_5, ps, (nI ps), rfl, Or.inr ⟨rfl, (by first | exact ⟨(fun _ => 0), z_rp_no hno, rfl⟩ | exact ⟨q, l1.trans ((z_rq_g (by omega) (by omega)).trans (z_rp_no hno)), rfl⟩ | exact ⟨q, l1.trans ((z_rq_e (by omega) (by omega)).trans (z_rp_no hno)), rfl⟩)⟩⟩)
theorem c_X6_isWholeRanking (d : Nat) {g : Nat → Int32} {kept : Nat → Int32} {was : Nat → Int32} {isKept : Int32} {tape : Nat → Int32} {fd : Nat} {ps : Nat} {tl : Nat} {ranking : Nat → Int32} {paper : Nat → Int32} {written : Int32} {pairs : Nat → Int64} {above : Nat → Int64} {below : Nat → Int64} {isDone : Nat → Int32} {dist : Nat → Int32} {rowv : Nat → Int32} {rowMany : Int32} {lsz : Nat → Int32} {itm : Nat → Int64} {weakAbove : Int64} {weakBelow : Int64} {n : Nat} {outs : Nat} {bm : Nat} {ms : Nat} {dr : Nat → Nat} {cn : Nat → Nat} {pl : Nat → Nat → Nat} {tp : Nat → Nat} (hG : z_GI g n outs bm ms dr cn pl) (hfd : fd ≤ 120) (hps : ps ≤ tl) (htl : tl ≤ 120) (htp : ∀ k, k < tl → tape k = nI (tp k) ∧ 1 ≤ tp k ∧ tp k ≤ 127) : z_CAL (d + 5) 157 [.ref 0] (MH g kept was isKept tape (nI fd) (nI ps) (nI tl) ((-nI 1)) ranking paper written pairs above below isDone dist rowv rowMany lsz itm weakAbove weakBelow) (fun r h2 => ∃ (ranking2 : Nat → Int32) (ps2 : Nat) (ft2 : Int32), h2 = (MH g kept was isKept tape (nI fd) (nI ps2) (nI tl) ft2 ranking2 paper written pairs above below isDone dist rowv rowMany lsz itm weakAbove weakBelow) ∧ ((r = some (.int (nI 1)) ∧ (∃ q, z_rp n tp tl 8 0 0 (fun _ => 0) ps = (true, tl, q) ∧ (∀ c, c < n → ranking2 c = nI (q c)) ∧ ps2 = tl ∧ ft2 = -nI 1)) ∨ (r = some (.int (nI 0)) ∧ (∃ b p q, z_rp n tp tl 8 0 0 (fun _ => 0) ps = (b, p, q) ∧ (b = false ∨ p ≠ tl) ∧ p ≤ tl ∧ ps2 = p ∧ ft2 = nI p)))) := by
  refine e_of2 (q := zmX6_isWholeRanking) rfl rfl (fun R hR => ?_)
  obtain ⟨⟨hn0, hn2, hn8⟩, ⟨ho0, ho8, hin⟩, ⟨hb0, hb40⟩, ⟨hm0, hm4⟩, ⟨hdr, hdl, hdc⟩, hcn, hpl⟩ := id hG; have hp8 := z_p2 hn8; have ho256 : outs < 256 := (by omega); have hi256 : z_dif (2 ^ n - 1) outs < 256 := (by have := z_dif_le (s := 2 ^ n - 1) (t := outs); omega)
  refine e_steps 1 (σ' := (1, [(0, .ref 0)], [.ref 0], (MH g kept was isKept tape (nI fd) (nI ps) (nI tl) ((-nI 1)) ranking paper written pairs above below isDone dist rowv rowMany lsz itm weakAbove weakBelow))) rfl ?_
  refine e_call (y := 156) (av := [.ref 0]) (rest := []) rfl (c_X6_isRanking (d + 0) (n := n) (outs := outs) (bm := bm) (ms := ms) (dr := dr) (cn := cn) (pl := pl) (tp := tp) (by first | assumption | omega | rfl | trivial) (by first | assumption | omega | rfl | trivial) (by first | assumption | omega | rfl | trivial) (by first | assumption | omega | rfl | trivial) (by first | assumption | omega | rfl | trivial)) (fun r_1 h_1 p_1 => ?_)
  obtain ⟨ranking_1, pos_1, flt_1, rfl, o_1⟩ := p_1
  rcases o_1 with ⟨rfl, o_1⟩ | ⟨rfl, o_1⟩
  · skip
    obtain ⟨q, w1, w2, ef1⟩ := o_1; subst ef1; have w3 := z_rp_ok hn8 w1 ⟨fun c _ hb => Bool.noConfusion ((Nat.zero_testBit c).symm.trans hb), fun x hx => absurd hx (Nat.not_lt_zero x)⟩
    refine e_steps 5 (σ' := (15, [(0, .ref 0)], [.int (nI tl), .int (nI pos_1)], (MH g kept was isKept tape (nI fd) (nI pos_1) (nI tl) ((-nI 1)) ranking_1 paper written pairs above below isDone dist rowv rowMany lsz itm weakAbove weakBelow))) rfl ?_
    refine e_if (c := nI pos_1 = nI tl) rfl (fun c_15 => ?_) (fun c_15 => ?_)
    · skip
      rw [nI_eq (by omega) (by omega)] at c_15
      refine e_steps 2 (σ' := (34, [(0, .ref 0)], [.int (nI 1)], (MH g kept was isKept tape (nI fd) (nI pos_1) (nI tl) ((-nI 1)) ranking_1 paper written pairs above below isDone dist rowv rowMany lsz itm weakAbove weakBelow))) rfl ?_
      exact e_ret rfl (Or.inr rfl) (hR _ _ ⟨ranking_1, pos_1, (-nI 1), rfl, Or.inl ⟨rfl, (by exact ⟨q, w1.trans (by rw [c_15]), w2, c_15, rfl⟩)⟩⟩)
    · skip
      rw [nI_eq (by omega) (by omega)] at c_15
      refine e_steps 3 (σ' := (23, [(0, .ref 0)], [.int (nI pos_1), .ref 0], (MH g kept was isKept tape (nI fd) (nI pos_1) (nI tl) ((-nI 1)) ranking_1 paper written pairs above below isDone dist rowv rowMany lsz itm weakAbove weakBelow))) rfl ?_
      refine e_call (y := 153) (av := [.ref 0, .int (nI pos_1)]) (rest := []) rfl (c_X6_fails (d + 3) ) (fun r_23 h_23 p_23 => ?_)
      obtain ⟨rfl, rfl⟩ := p_23
      refine e_steps 2 (σ' := (34, [(0, .ref 0)], [.int (nI 0)], (MH g kept was isKept tape (nI fd) (nI pos_1) (nI tl) (nI pos_1) ranking_1 paper written pairs above below isDone dist rowv rowMany lsz itm weakAbove weakBelow))) rfl ?_
      exact e_ret rfl (Or.inl rfl) (hR _ _ ⟨ranking_1, pos_1, nI pos_1, rfl, Or.inr ⟨rfl, (by first | exact ⟨true, _, q, w1, Or.inr (by assumption), w3.2.1, rfl, rfl⟩ | exact ⟨false, _, q, w1, Or.inl rfl, w3.2, rfl, rfl⟩)⟩⟩)
  · skip
    obtain ⟨q, w1, ef1⟩ := o_1; subst ef1; have w3 := z_rp_le w1 hps
    refine e_steps 2 (σ' := (34, [(0, .ref 0)], [.int (nI 0)], (MH g kept was isKept tape (nI fd) (nI pos_1) (nI tl) ((nI pos_1)) ranking_1 paper written pairs above below isDone dist rowv rowMany lsz itm weakAbove weakBelow))) rfl ?_
    exact e_ret rfl (Or.inl rfl) (hR _ _ ⟨ranking_1, pos_1, (nI pos_1), rfl, Or.inr ⟨rfl, (by first | exact ⟨true, _, q, w1, Or.inr (by assumption), w3.2.1, rfl, rfl⟩ | exact ⟨false, _, q, w1, Or.inl rfl, w3.2, rfl, rfl⟩)⟩⟩)
theorem c_X6_ballotOfRanking (d : Nat) {g : Nat → Int32} {kept : Nat → Int32} {was : Nat → Int32} {isKept : Int32} {tape : Nat → Int32} {fed : Int32} {pos : Int32} {tlen : Int32} {flt : Int32} {ranking : Nat → Int32} {paper : Nat → Int32} {written : Int32} {pairs : Nat → Int64} {above : Nat → Int64} {below : Nat → Int64} {isDone : Nat → Int32} {dist : Nat → Int32} {rowv : Nat → Int32} {rowMany : Int32} {lsz : Nat → Int32} {itm : Nat → Int64} {weakAbove : Int64} {weakBelow : Int64} {n : Nat} {outs : Nat} {bm : Nat} {ms : Nat} {dr : Nat → Nat} {cn : Nat → Nat} {pl : Nat → Nat → Nat} {q : Nat → Nat} (hG : z_GI g n outs bm ms dr cn pl) (hr : ∀ c, c < n → ranking c = nI (q c)) (hq : z_RK n q) : z_CAL (d + 2) 158 [.ref 0] (MH g kept was isKept tape fed pos tlen flt ranking paper written pairs above below isDone dist rowv rowMany lsz itm weakAbove weakBelow) (fun r h2 => h2 = (MH g kept was isKept tape fed pos tlen flt ranking paper written pairs above below isDone dist rowv rowMany lsz itm weakAbove weakBelow) ∧ ((∃ (bb : Nat), r = some (.int (nI bb)) ∧ (bb < bm ∧ z_same n pl q bb ∧ ∀ x, x < bb → ¬ z_same n pl q x)) ∨ (r = some (.int ((-nI 5))) ∧ (∀ x, x < bm → ¬ z_same n pl q x)))) := by
  refine e_of2 (q := zmX6_ballotOfRanking) rfl rfl (fun R hR => ?_)
  obtain ⟨⟨hn0, hn2, hn8⟩, ⟨ho0, ho8, hin⟩, ⟨hb0, hb40⟩, ⟨hm0, hm4⟩, ⟨hdr, hdl, hdc⟩, hcn, hpl⟩ := id hG; have hp8 := z_p2 hn8; have ho256 : outs < 256 := (by omega); have hi256 : z_dif (2 ^ n - 1) outs < 256 := (by have := z_dif_le (s := 2 ^ n - 1) (t := outs); omega)
  refine e_steps 2 (σ' := (2, [(1, .int (nI 0)), (0, .ref 0)], [], (MH g kept was isKept tape fed pos tlen flt ranking paper written pairs above below isDone dist rowv rowMany lsz itm weakAbove weakBelow))) rfl ?_
  have loop_2 : ∀ (z_2 : Nat) (b : Nat), bm - b < z_2 → (b ≤ bm ∧ ∀ x, x < b → ¬ z_same n pl q x) → z_EV (d + 1) zmX6_ballotOfRanking R (2, [(0, .ref 0), (1, .int (nI b))], [], (MH g kept was isKept tape fed pos tlen flt ranking paper written pairs above below isDone dist rowv rowMany lsz itm weakAbove weakBelow)) := by
    intro z_2
    induction z_2 with
    | zero => intro b hm_2 _; exact absurd hm_2 (Nat.not_lt_zero _)
    | succ z_2 ih_2 =>
      intro b hm_2 hi_2
      obtain ⟨l1, l2⟩ := hi_2
      refine e_steps 4 (σ' := (8, [(0, .ref 0), (1, .int (nI b))], [.int (nI 2), .ref 1, .int (nI b)], (MH g kept was isKept tape fed pos tlen flt ranking paper written pairs above below isDone dist rowv rowMany lsz itm weakAbove weakBelow))) rfl ?_
      refine e_ial (nI bm) rfl rfl (by first | assumption | omega | rfl | trivial) (by decide) (hb0) ?_
      refine e_steps 0 (σ' := (9, [(0, .ref 0), (1, .int (nI b))], [.int (nI bm), .int (nI b)], (MH g kept was isKept tape fed pos tlen flt ranking paper written pairs above below isDone dist rowv rowMany lsz itm weakAbove weakBelow))) rfl ?_
      refine e_if (c := nI bm ≤ nI b) rfl (fun c_9 => ?_) (fun c_9 => ?_)
      · skip
        rw [nI_leI (by omega) (by omega)] at c_9
        refine e_steps 1 (σ' := (69, [(0, .ref 0), (1, .int (nI b))], [.int ((-nI 5))], (MH g kept was isKept tape fed pos tlen flt ranking paper written pairs above below isDone dist rowv rowMany lsz itm weakAbove weakBelow))) rfl ?_
        exact e_ret rfl (trivial) (hR _ _ ⟨rfl, (by first | exact Or.inl ⟨b, rfl, by omega, z_bor_yes (v := isv) (by rw [show c = n by omega] at m2; exact m2) (by assumption), l2⟩ | exact Or.inr ⟨rfl, fun x hx => l2 x (by omega)⟩)⟩)
      · skip
        rw [nI_leI (by omega) (by omega)] at c_9
        refine e_steps 4 (σ' := (16, [(3, .int (nI 0)), (2, .int (nI 1)), (0, .ref 0), (1, .int (nI b))], [], (MH g kept was isKept tape fed pos tlen flt ranking paper written pairs above below isDone dist rowv rowMany lsz itm weakAbove weakBelow))) rfl ?_
        have loop_16 : ∀ (z_16 : Nat) (isv : Nat) (c : Nat), n - c < z_16 → (c ≤ n ∧ isv = (true && z_allb c (fun c => decide (pl b c = q c))).toNat) → z_EV (d + 1) zmX6_ballotOfRanking R (16, [(0, .ref 0), (1, .int (nI b)), (2, .int (nI isv)), (3, .int (nI c))], [], (MH g kept was isKept tape fed pos tlen flt ranking paper written pairs above below isDone dist rowv rowMany lsz itm weakAbove weakBelow)) := by
          intro z_16
          induction z_16 with
          | zero => intro isv c hm_16 _; exact absurd hm_16 (Nat.not_lt_zero _)
          | succ z_16 ih_16 =>
            intro isv c hm_16 hi_16
            obtain ⟨m1, m2⟩ := hi_16; have m3 : isv < 2 := (by rw [m2]; exact z_tn_lt _)
            refine e_steps 4 (σ' := (22, [(0, .ref 0), (1, .int (nI b)), (2, .int (nI isv)), (3, .int (nI c))], [.int (nI 0), .ref 1, .int (nI c)], (MH g kept was isKept tape fed pos tlen flt ranking paper written pairs above below isDone dist rowv rowMany lsz itm weakAbove weakBelow))) rfl ?_
            refine e_ial (nI n) rfl rfl (by first | assumption | omega | rfl | trivial) (by decide) (hn0) ?_
            refine e_steps 0 (σ' := (23, [(0, .ref 0), (1, .int (nI b)), (2, .int (nI isv)), (3, .int (nI c))], [.int (nI n), .int (nI c)], (MH g kept was isKept tape fed pos tlen flt ranking paper written pairs above below isDone dist rowv rowMany lsz itm weakAbove weakBelow))) rfl ?_
            refine e_if (c := nI n ≤ nI c) rfl (fun c_23 => ?_) (fun c_23 => ?_)
            · skip
              rw [nI_leI (by omega) (by omega)] at c_23
              refine e_steps 1 (σ' := (56, [(0, .ref 0), (1, .int (nI b)), (2, .int (nI isv)), (3, .int (nI c))], [.int (nI isv)], (MH g kept was isKept tape fed pos tlen flt ranking paper written pairs above below isDone dist rowv rowMany lsz itm weakAbove weakBelow))) rfl ?_
              refine e_if (c := nI isv = 0) rfl (fun c_56 => ?_) (fun c_56 => ?_)
              · skip
                rw [z0_eq (by omega)] at c_56
                refine e_steps 0 (σ' := (61, [(0, .ref 0), (1, .int (nI b)), (2, .int (nI isv)), (3, .int (nI c))], [], (MH g kept was isKept tape fed pos tlen flt ranking paper written pairs above below isDone dist rowv rowMany lsz itm weakAbove weakBelow))) rfl ?_
                refine e_inc (n := 1) rfl rfl rfl (b + 1) (by rfl) [(1, .int (nI (b + 1))), (0, .ref 0), (2, .int (nI isv)), (3, .int (nI c))] rfl ?_
                refine e_steps 1 (σ' := (2, [(1, .int (nI (b + 1))), (0, .ref 0), (2, .int (nI isv)), (3, .int (nI c))], [], (MH g kept was isKept tape fed pos tlen flt ranking paper written pairs above below isDone dist rowv rowMany lsz itm weakAbove weakBelow))) rfl ?_
                refine e_sub [1, 0] rfl ?_
                exact ih_2 (b + 1) (by omega) (by exact ⟨by omega, fun x hx => by rcases (by omega : x < b ∨ x = b) with e | e; exact l2 x e; (subst e; exact z_bor_no (v := isv) (by rw [show c = n by omega] at m2; exact m2) (by assumption))⟩)
              · skip
                rw [z0_eq (by omega)] at c_56
                refine e_steps 1 (σ' := (60, [(0, .ref 0), (1, .int (nI b)), (2, .int (nI isv)), (3, .int (nI c))], [.int (nI b)], (MH g kept was isKept tape fed pos tlen flt ranking paper written pairs above below isDone dist rowv rowMany lsz itm weakAbove weakBelow))) rfl ?_
                exact e_ret rfl (trivial) (hR _ _ ⟨rfl, (by first | exact Or.inl ⟨b, rfl, by omega, z_bor_yes (v := isv) (by rw [show c = n by omega] at m2; exact m2) (by assumption), l2⟩ | exact Or.inr ⟨rfl, fun x hx => l2 x (by omega)⟩)⟩)
            · skip
              rw [nI_leI (by omega) (by omega)] at c_23
              refine e_steps 4 (σ' := (30, [(0, .ref 0), (1, .int (nI b)), (2, .int (nI isv)), (3, .int (nI c))], [.int (nI c), .int (nI b), .ref 0, .int (nI isv)], (MH g kept was isKept tape fed pos tlen flt ranking paper written pairs above below isDone dist rowv rowMany lsz itm weakAbove weakBelow))) rfl ?_
              refine e_call (y := 139) (av := [.ref 0, .int (nI b), .int (nI c)]) (rest := [.int (nI isv)]) rfl (c_X6_placeOf (d + 0) (n := n) (outs := outs) (bm := bm) (ms := ms) (dr := dr) (cn := cn) (pl := pl) (by first | assumption | omega | rfl | trivial) (by first | assumption | omega | rfl | trivial) (by first | assumption | omega | rfl | trivial)) (fun r_30 h_30 p_30 => ?_)
              obtain ⟨rfl, rfl⟩ := p_30
              refine e_steps 0 (σ' := (33, [(0, .ref 0), (1, .int (nI b)), (2, .int (nI isv)), (3, .int (nI c))], [.int (nI (pl b c)), .int (nI isv)], (MH g kept was isKept tape fed pos tlen flt ranking paper written pairs above below isDone dist rowv rowMany lsz itm weakAbove weakBelow))) rfl ?_
              have hpb := (hpl b (by omega)).2.1 c (by omega)
              refine e_steps 3 (σ' := (38, [(0, .ref 0), (1, .int (nI b)), (2, .int (nI isv)), (3, .int (nI c))], [.int (nI c), .ref 5, .int (nI (pl b c)), .int (nI isv)], (MH g kept was isKept tape fed pos tlen flt ranking paper written pairs above below isDone dist rowv rowMany lsz itm weakAbove weakBelow))) rfl ?_
              refine e_ial (nI (q c)) rfl rfl (by first | assumption | omega | rfl | trivial) (by decide) (hr _ (by omega)) ?_
              have hv_38 := hq.1 c (by omega)
              refine e_steps 0 (σ' := (39, [(0, .ref 0), (1, .int (nI b)), (2, .int (nI isv)), (3, .int (nI c))], [.int (nI (q c)), .int (nI (pl b c)), .int (nI isv)], (MH g kept was isKept tape fed pos tlen flt ranking paper written pairs above below isDone dist rowv rowMany lsz itm weakAbove weakBelow))) rfl ?_
              refine e_if (c := ¬ nI (pl b c) = nI (q c)) rfl (fun c_39 => ?_) (fun c_39 => ?_)
              · skip
                rw [nI_eq (by omega) (by omega)] at c_39
                skip
                refine e_steps 1 (σ' := (47, [(0, .ref 0), (1, .int (nI b)), (2, .int (nI isv)), (3, .int (nI c))], [.int (nI 0), .int (nI isv)], (MH g kept was isKept tape fed pos tlen flt ranking paper written pairs above below isDone dist rowv rowMany lsz itm weakAbove weakBelow))) rfl ?_
                refine e_and (isv &&& 0) rfl (by first | rfl | decide) ?_
                refine e_steps 1 (σ' := (49, [(2, .int (nI (isv &&& 0))), (0, .ref 0), (1, .int (nI b)), (3, .int (nI c))], [], (MH g kept was isKept tape fed pos tlen flt ranking paper written pairs above below isDone dist rowv rowMany lsz itm weakAbove weakBelow))) rfl ?_
                refine e_inc (n := 1) rfl rfl rfl (c + 1) (by rfl) [(3, .int (nI (c + 1))), (2, .int (nI (isv &&& 0))), (0, .ref 0), (1, .int (nI b))] rfl ?_
                refine e_steps 1 (σ' := (16, [(3, .int (nI (c + 1))), (2, .int (nI (isv &&& 0))), (0, .ref 0), (1, .int (nI b))], [], (MH g kept was isKept tape fed pos tlen flt ranking paper written pairs above below isDone dist rowv rowMany lsz itm weakAbove weakBelow))) rfl ?_
                refine e_sub [2, 3, 1, 0] rfl ?_
                exact ih_16 (isv &&& 0) (c + 1) (by omega) (by first | exact ⟨by omega, z_is_F (b := true) m2 (by show decide (pl b c = q c) = false; exact decide_eq_false (by assumption))⟩ | exact ⟨by omega, z_is_T (b := true) m2 (by show decide (pl b c = q c) = true; exact decide_eq_true (by assumption))⟩)
              · skip
                rw [nI_eq (by omega) (by omega)] at c_39
                replace c_39 := Decidable.not_not.mp c_39
                refine e_steps 2 (σ' := (47, [(0, .ref 0), (1, .int (nI b)), (2, .int (nI isv)), (3, .int (nI c))], [.int (nI 1), .int (nI isv)], (MH g kept was isKept tape fed pos tlen flt ranking paper written pairs above below isDone dist rowv rowMany lsz itm weakAbove weakBelow))) rfl ?_
                refine e_and (isv &&& 1) rfl (by first | rfl | decide) ?_
                refine e_steps 1 (σ' := (49, [(2, .int (nI (isv &&& 1))), (0, .ref 0), (1, .int (nI b)), (3, .int (nI c))], [], (MH g kept was isKept tape fed pos tlen flt ranking paper written pairs above below isDone dist rowv rowMany lsz itm weakAbove weakBelow))) rfl ?_
                refine e_inc (n := 1) rfl rfl rfl (c + 1) (by rfl) [(3, .int (nI (c + 1))), (2, .int (nI (isv &&& 1))), (0, .ref 0), (1, .int (nI b))] rfl ?_
                refine e_steps 1 (σ' := (16, [(3, .int (nI (c + 1))), (2, .int (nI (isv &&& 1))), (0, .ref 0), (1, .int (nI b))], [], (MH g kept was isKept tape fed pos tlen flt ranking paper written pairs above below isDone dist rowv rowMany lsz itm weakAbove weakBelow))) rfl ?_
                refine e_sub [2, 3, 1, 0] rfl ?_
                exact ih_16 (isv &&& 1) (c + 1) (by omega) (by first | exact ⟨by omega, z_is_F (b := true) m2 (by show decide (pl b c = q c) = false; exact decide_eq_false (by assumption))⟩ | exact ⟨by omega, z_is_T (b := true) m2 (by show decide (pl b c = q c) = true; exact decide_eq_true (by assumption))⟩)
        refine e_sub [2, 3, 1, 0] rfl ?_
        exact loop_16 _ 1 0 (Nat.lt_succ_self _) (by exact ⟨by omega, rfl⟩)
  refine e_sub [1, 0] rfl ?_
  exact loop_2 _ 0 (Nat.lt_succ_self _) (by exact ⟨by omega, fun x hx => absurd hx (Nat.not_lt_zero x)⟩)
theorem c_X6_comes (d : Nat) {g : Nat → Int32} {kept : Nat → Int32} {was : Nat → Int32} {isKept : Int32} {tape : Nat → Int32} {fed : Int32} {pos : Int32} {tlen : Int32} {ranking : Nat → Int32} {paper : Nat → Int32} {written : Int32} {pairs : Nat → Int64} {above : Nat → Int64} {below : Nat → Int64} {isDone : Nat → Int32} {dist : Nat → Int32} {rowv : Nat → Int32} {rowMany : Int32} {lsz : Nat → Int32} {itm : Nat → Int64} {weakAbove : Int64} {weakBelow : Int64} {count : Nat} {begun : Nat} {n : Nat} {outs : Nat} {bm : Nat} {ms : Nat} {dr : Nat → Nat} {cn : Nat → Nat} {pl : Nat → Nat → Nat} {q : Nat → Nat} (hG : z_GI g n outs bm ms dr cn pl) (h1 : 1 ≤ count) (h2 : count ≤ 1000000) (hr : ∀ c, c < n → ranking c = nI (q c)) (hq : z_RK n q) : z_CAL (d + 3) 159 [.ref 0, .int (nI count), .int (nI begun)] (MH g kept was isKept tape fed pos tlen ((-nI 1)) ranking paper written pairs above below isDone dist rowv rowMany lsz itm weakAbove weakBelow) (fun r h2 => ∃ (g2 : Nat → Int32) (ft2 : Int32), h2 = (MH g2 kept was isKept tape fed pos tlen ft2 ranking paper written pairs above below isDone dist rowv rowMany lsz itm weakAbove weakBelow) ∧ ((r = some (.int (nI 1)) ∧ (∃ bm2 cn2 pl2, z_addS n bm cn pl q count bm2 cn2 pl2 ∧ z_GI g2 n outs bm2 ms dr cn2 pl2 ∧ ft2 = -nI 1)) ∨ (r = some (.int (nI 0)) ∧ (z_addF n bm cn pl q count ∧ g2 = g ∧ ft2 = nI begun)))) := by
  refine e_of2 (q := zmX6_comes) rfl rfl (fun R hR => ?_)
  obtain ⟨⟨hn0, hn2, hn8⟩, ⟨ho0, ho8, hin⟩, ⟨hb0, hb40⟩, ⟨hm0, hm4⟩, ⟨hdr, hdl, hdc⟩, hcn, hpl⟩ := id hG; have hp8 := z_p2 hn8; have ho256 : outs < 256 := (by omega); have hi256 : z_dif (2 ^ n - 1) outs < 256 := (by have := z_dif_le (s := 2 ^ n - 1) (t := outs); omega)
  refine e_steps 1 (σ' := (1, [(0, .ref 0), (1, .int (nI count)), (2, .int (nI begun))], [.ref 0], (MH g kept was isKept tape fed pos tlen ((-nI 1)) ranking paper written pairs above below isDone dist rowv rowMany lsz itm weakAbove weakBelow))) rfl ?_
  refine e_call (y := 158) (av := [.ref 0]) (rest := []) rfl (c_X6_ballotOfRanking (d + 0) (n := n) (outs := outs) (bm := bm) (ms := ms) (dr := dr) (cn := cn) (pl := pl) (q := q) (by first | assumption | omega | rfl | trivial) (by first | assumption | omega | rfl | trivial) (by first | assumption | omega | rfl | trivial)) (fun r_1 h_1 p_1 => ?_)
  obtain ⟨rfl, o_1⟩ := p_1
  rcases o_1 with ⟨bb_1, rfl, o_1⟩ | ⟨rfl, o_1⟩
  · skip
    obtain ⟨g1, g2, g3⟩ := o_1; have hcb := hcn bb_1 g1
    refine e_steps 2 (σ' := (6, [(3, .int (nI bb_1)), (0, .ref 0), (1, .int (nI count)), (2, .int (nI begun))], [.int (nI bb_1)], (MH g kept was isKept tape fed pos tlen ((-nI 1)) ranking paper written pairs above below isDone dist rowv rowMany lsz itm weakAbove weakBelow))) rfl ?_
    refine e_ifT (c := 0 ≤ nI bb_1) rfl (nI_pos' (by omega)) ?_
    refine e_steps 4 (σ' := (30, [(3, .int (nI bb_1)), (0, .ref 0), (1, .int (nI count)), (2, .int (nI begun))], [.int (nI bb_1), .int (nI 12), .ref 1], (MH g kept was isKept tape fed pos tlen ((-nI 1)) ranking paper written pairs above below isDone dist rowv rowMany lsz itm weakAbove weakBelow))) rfl ?_
    refine e_add (12 + bb_1) rfl (by first | rfl | omega) ?_
    refine e_steps 0 (σ' := (31, [(3, .int (nI bb_1)), (0, .ref 0), (1, .int (nI count)), (2, .int (nI begun))], [.int (nI (12 + bb_1)), .ref 1], (MH g kept was isKept tape fed pos tlen ((-nI 1)) ranking paper written pairs above below isDone dist rowv rowMany lsz itm weakAbove weakBelow))) rfl ?_
    refine e_ial (nI (cn bb_1)) rfl rfl (by first | assumption | omega | rfl | trivial) (by decide) ((hcn _ (by omega)).1) ?_
    have hv_31 := (hcn bb_1 (by omega)).2
    refine e_steps 1 (σ' := (33, [(3, .int (nI bb_1)), (0, .ref 0), (1, .int (nI count)), (2, .int (nI begun))], [.int (nI count), .int (nI (cn bb_1))], (MH g kept was isKept tape fed pos tlen ((-nI 1)) ranking paper written pairs above below isDone dist rowv rowMany lsz itm weakAbove weakBelow))) rfl ?_
    refine e_add (cn bb_1 + count) rfl (by first | rfl | omega) ?_
    refine e_steps 1 (σ' := (36, [(3, .int (nI bb_1)), (0, .ref 0), (1, .int (nI count)), (2, .int (nI begun))], [.int (nI 1000000), .int (nI (cn bb_1 + count))], (MH g kept was isKept tape fed pos tlen ((-nI 1)) ranking paper written pairs above below isDone dist rowv rowMany lsz itm weakAbove weakBelow))) rfl ?_
    refine e_if (c := nI (cn bb_1 + count) ≤ nI 1000000) rfl (fun c_36 => ?_) (fun c_36 => ?_)
    · skip
      rw [nI_leI (by omega) (by omega)] at c_36
      refine e_steps 1 (σ' := (46, [(3, .int (nI bb_1)), (0, .ref 0), (1, .int (nI count)), (2, .int (nI begun))], [.int (nI bb_1)], (MH g kept was isKept tape fed pos tlen ((-nI 1)) ranking paper written pairs above below isDone dist rowv rowMany lsz itm weakAbove weakBelow))) rfl ?_
      refine e_ifF (c := nI bb_1 < 0) rfl (nI_pos (by omega)) ?_
      refine e_steps 4 (σ' := (56, [(3, .int (nI bb_1)), (0, .ref 0), (1, .int (nI count)), (2, .int (nI begun))], [.int (nI bb_1), .int (nI 12), .ref 1], (MH g kept was isKept tape fed pos tlen ((-nI 1)) ranking paper written pairs above below isDone dist rowv rowMany lsz itm weakAbove weakBelow))) rfl ?_
      refine e_add (12 + bb_1) rfl (by first | rfl | omega) ?_
      refine e_steps 1 (σ' := (58, [(3, .int (nI bb_1)), (0, .ref 0), (1, .int (nI count)), (2, .int (nI begun))], [.int (nI (12 + bb_1)), .ref 1, .int (nI (12 + bb_1)), .ref 1], (MH g kept was isKept tape fed pos tlen ((-nI 1)) ranking paper written pairs above below isDone dist rowv rowMany lsz itm weakAbove weakBelow))) rfl ?_
      refine e_ial (nI (cn bb_1)) rfl rfl (by first | assumption | omega | rfl | trivial) (by decide) ((hcn _ (by omega)).1) ?_
      have hv_58 := (hcn bb_1 (by omega)).2
      refine e_steps 1 (σ' := (60, [(3, .int (nI bb_1)), (0, .ref 0), (1, .int (nI count)), (2, .int (nI begun))], [.int (nI count), .int (nI (cn bb_1)), .int (nI (12 + bb_1)), .ref 1], (MH g kept was isKept tape fed pos tlen ((-nI 1)) ranking paper written pairs above below isDone dist rowv rowMany lsz itm weakAbove weakBelow))) rfl ?_
      refine e_add (cn bb_1 + count) rfl (by first | rfl | omega) ?_
      refine e_steps 0 (σ' := (61, [(3, .int (nI bb_1)), (0, .ref 0), (1, .int (nI count)), (2, .int (nI begun))], [.int (nI (cn bb_1 + count)), .int (nI (12 + bb_1)), .ref 1], (MH g kept was isKept tape fed pos tlen ((-nI 1)) ranking paper written pairs above below isDone dist rowv rowMany lsz itm weakAbove weakBelow))) rfl ?_
      refine e_ias (MH (upd g (12 + bb_1) (nI (cn bb_1 + count))) kept was isKept tape fed pos tlen ((-nI 1)) ranking paper written pairs above below isDone dist rowv rowMany lsz itm weakAbove weakBelow) rfl rfl (by first | assumption | omega | rfl | trivial) (by decide) rfl ?_
      refine e_steps 1 (σ' := (63, [(3, .int (nI bb_1)), (0, .ref 0), (1, .int (nI count)), (2, .int (nI begun))], [.int (nI 1)], (MH (upd g (12 + bb_1) (nI (cn bb_1 + count))) kept was isKept tape fed pos tlen ((-nI 1)) ranking paper written pairs above below isDone dist rowv rowMany lsz itm weakAbove weakBelow))) rfl ?_
      exact e_ret rfl (Or.inr rfl) (hR _ _ ⟨upd g (12 + bb_1) (nI (cn bb_1 + count)), (-nI 1), rfl, Or.inl ⟨rfl, (by first | exact ⟨bm, _, pl, Or.inl ⟨bb_1, g1, g2, g3, by omega, rfl, rfl, rfl⟩, z_GI_cn hG g1 (by omega) (by omega), rfl⟩ | exact ⟨bm + 1, _, _, Or.inr ⟨o_1, by omega, rfl, rfl, rfl⟩, z_GI_push hG (by omega) h1 h2 hq pk_us (by rw [z_un (by omega)]; exact m2) (fun i hi => by rw [z_un (by omega)]; exact m3 i (by omega)) (fun i a1 a2 a3 => by rw [z_un a1]; exact m4 i a2 a3), rfl⟩)⟩⟩)
    · skip
      rw [nI_leI (by omega) (by omega)] at c_36
      refine e_steps 2 (σ' := (41, [(3, .int (nI bb_1)), (0, .ref 0), (1, .int (nI count)), (2, .int (nI begun))], [.int (nI begun), .ref 0], (MH g kept was isKept tape fed pos tlen ((-nI 1)) ranking paper written pairs above below isDone dist rowv rowMany lsz itm weakAbove weakBelow))) rfl ?_
      refine e_call (y := 153) (av := [.ref 0, .int (nI begun)]) (rest := []) rfl (c_X6_fails (d + 1) ) (fun r_41 h_41 p_41 => ?_)
      obtain ⟨rfl, rfl⟩ := p_41
      refine e_steps 0 (σ' := (44, [(3, .int (nI bb_1)), (0, .ref 0), (1, .int (nI count)), (2, .int (nI begun))], [.int (nI 0)], (MH g kept was isKept tape fed pos tlen (nI begun) ranking paper written pairs above below isDone dist rowv rowMany lsz itm weakAbove weakBelow))) rfl ?_
      exact e_ret rfl (Or.inl rfl) (hR _ _ ⟨g, nI begun, rfl, Or.inr ⟨rfl, (by first | exact ⟨Or.inl ⟨bb_1, g1, g2, g3, by omega⟩, rfl, rfl⟩ | exact ⟨Or.inr ⟨o_1, by omega⟩, rfl, rfl⟩)⟩⟩)
  · skip
    refine e_steps 6 (σ' := (14, [(3, .int ((-nI 5))), (0, .ref 0), (1, .int (nI count)), (2, .int (nI begun))], [.int (nI 2), .ref 1], (MH g kept was isKept tape fed pos tlen ((-nI 1)) ranking paper written pairs above below isDone dist rowv rowMany lsz itm weakAbove weakBelow))) rfl ?_
    refine e_ial (nI bm) rfl rfl (by first | assumption | omega | rfl | trivial) (by decide) (hb0) ?_
    refine e_steps 1 (σ' := (17, [(3, .int ((-nI 5))), (0, .ref 0), (1, .int (nI count)), (2, .int (nI begun))], [.int (nI 40), .int (nI bm)], (MH g kept was isKept tape fed pos tlen ((-nI 1)) ranking paper written pairs above below isDone dist rowv rowMany lsz itm weakAbove weakBelow))) rfl ?_
    refine e_if (c := ¬ nI bm = nI 40) rfl (fun c_17 => ?_) (fun c_17 => ?_)
    · skip
      rw [nI_eq (by omega) (by omega)] at c_17
      skip
      refine e_steps 5 (σ' := (69, [(3, .int ((-nI 5))), (0, .ref 0), (1, .int (nI count)), (2, .int (nI begun))], [.int (nI 2), .ref 1], (MH g kept was isKept tape fed pos tlen ((-nI 1)) ranking paper written pairs above below isDone dist rowv rowMany lsz itm weakAbove weakBelow))) rfl ?_
      refine e_ial (nI bm) rfl rfl (by first | assumption | omega | rfl | trivial) (by decide) (hb0) ?_
      refine e_steps 5 (σ' := (78, [(3, .int (nI bm)), (0, .ref 0), (1, .int (nI count)), (2, .int (nI begun))], [.int (nI bm), .int (nI 12), .ref 1], (MH g kept was isKept tape fed pos tlen ((-nI 1)) ranking paper written pairs above below isDone dist rowv rowMany lsz itm weakAbove weakBelow))) rfl ?_
      refine e_add (12 + bm) rfl (by first | rfl | omega) ?_
      refine e_steps 1 (σ' := (80, [(3, .int (nI bm)), (0, .ref 0), (1, .int (nI count)), (2, .int (nI begun))], [.int (nI count), .int (nI (12 + bm)), .ref 1], (MH g kept was isKept tape fed pos tlen ((-nI 1)) ranking paper written pairs above below isDone dist rowv rowMany lsz itm weakAbove weakBelow))) rfl ?_
      refine e_ias (MH (upd g (12 + bm) (nI count)) kept was isKept tape fed pos tlen ((-nI 1)) ranking paper written pairs above below isDone dist rowv rowMany lsz itm weakAbove weakBelow) rfl rfl (by first | assumption | omega | rfl | trivial) (by decide) rfl ?_
      refine e_steps 2 (σ' := (84, [(4, .int (nI 0)), (3, .int (nI bm)), (0, .ref 0), (1, .int (nI count)), (2, .int (nI begun))], [], (MH (upd g (12 + bm) (nI count)) kept was isKept tape fed pos tlen ((-nI 1)) ranking paper written pairs above below isDone dist rowv rowMany lsz itm weakAbove weakBelow))) rfl ?_
      have loop_84 : ∀ (z_84 : Nat) (c : Nat) (gl : Nat → Int32), n - c < z_84 → (c ≤ n ∧ gl (12 + bm) = nI count ∧ (∀ i, i < c → gl (52 + 8 * bm + i) = nI (q i)) ∧ ∀ i, i ≠ 12 + bm → (i < 52 + 8 * bm ∨ 52 + 8 * bm + 8 ≤ i) → gl i = g i) → z_EV (d + 2) zmX6_comes R (84, [(0, .ref 0), (1, .int (nI count)), (2, .int (nI begun)), (3, .int (nI bm)), (4, .int (nI c))], [], (MH gl kept was isKept tape fed pos tlen ((-nI 1)) ranking paper written pairs above below isDone dist rowv rowMany lsz itm weakAbove weakBelow)) := by
        intro z_84
        induction z_84 with
        | zero => intro c gl hm_84 _; exact absurd hm_84 (Nat.not_lt_zero _)
        | succ z_84 ih_84 =>
          intro c gl hm_84 hi_84
          obtain ⟨m1, m2, m3, m4⟩ := hi_84; have hl0 : gl 0 = nI n := (m4 0 (by omega) (by omega)).trans hn0; have hl2 : gl 2 = nI bm := (m4 2 (by omega) (by omega)).trans hb0
          refine e_steps 4 (σ' := (91, [(0, .ref 0), (1, .int (nI count)), (2, .int (nI begun)), (3, .int (nI bm)), (4, .int (nI c))], [.int (nI 0), .ref 1, .int (nI c)], (MH gl kept was isKept tape fed pos tlen ((-nI 1)) ranking paper written pairs above below isDone dist rowv rowMany lsz itm weakAbove weakBelow))) rfl ?_
          refine e_ial (nI n) rfl rfl (by first | assumption | omega | rfl | trivial) (by decide) (hl0) ?_
          refine e_steps 0 (σ' := (92, [(0, .ref 0), (1, .int (nI count)), (2, .int (nI begun)), (3, .int (nI bm)), (4, .int (nI c))], [.int (nI n), .int (nI c)], (MH gl kept was isKept tape fed pos tlen ((-nI 1)) ranking paper written pairs above below isDone dist rowv rowMany lsz itm weakAbove weakBelow))) rfl ?_
          refine e_if (c := nI n ≤ nI c) rfl (fun c_92 => ?_) (fun c_92 => ?_)
          · skip
            rw [nI_leI (by omega) (by omega)] at c_92
            refine e_steps 4 (σ' := (129, [(0, .ref 0), (1, .int (nI count)), (2, .int (nI begun)), (3, .int (nI bm)), (4, .int (nI c))], [.int (nI 2), .ref 1, .int (nI 2), .ref 1], (MH gl kept was isKept tape fed pos tlen ((-nI 1)) ranking paper written pairs above below isDone dist rowv rowMany lsz itm weakAbove weakBelow))) rfl ?_
            refine e_ial (nI bm) rfl rfl (by first | assumption | omega | rfl | trivial) (by decide) (hl2) ?_
            refine e_steps 1 (σ' := (131, [(0, .ref 0), (1, .int (nI count)), (2, .int (nI begun)), (3, .int (nI bm)), (4, .int (nI c))], [.int (nI 1), .int (nI bm), .int (nI 2), .ref 1], (MH gl kept was isKept tape fed pos tlen ((-nI 1)) ranking paper written pairs above below isDone dist rowv rowMany lsz itm weakAbove weakBelow))) rfl ?_
            refine e_add (bm + 1) rfl (by first | rfl | omega) ?_
            refine e_steps 0 (σ' := (132, [(0, .ref 0), (1, .int (nI count)), (2, .int (nI begun)), (3, .int (nI bm)), (4, .int (nI c))], [.int (nI (bm + 1)), .int (nI 2), .ref 1], (MH gl kept was isKept tape fed pos tlen ((-nI 1)) ranking paper written pairs above below isDone dist rowv rowMany lsz itm weakAbove weakBelow))) rfl ?_
            refine e_ias (MH (upd gl 2 (nI (bm + 1))) kept was isKept tape fed pos tlen ((-nI 1)) ranking paper written pairs above below isDone dist rowv rowMany lsz itm weakAbove weakBelow) rfl rfl (by first | assumption | omega | rfl | trivial) (by decide) rfl ?_
            refine e_steps 1 (σ' := (134, [(0, .ref 0), (1, .int (nI count)), (2, .int (nI begun)), (3, .int (nI bm)), (4, .int (nI c))], [.int (nI 1)], (MH (upd gl 2 (nI (bm + 1))) kept was isKept tape fed pos tlen ((-nI 1)) ranking paper written pairs above below isDone dist rowv rowMany lsz itm weakAbove weakBelow))) rfl ?_
            exact e_ret rfl (Or.inr rfl) (hR _ _ ⟨upd gl 2 (nI (bm + 1)), (-nI 1), rfl, Or.inl ⟨rfl, (by first | exact ⟨bm, _, pl, Or.inl ⟨bb_1, g1, g2, g3, by omega, rfl, rfl, rfl⟩, z_GI_cn hG g1 (by omega) (by omega), rfl⟩ | exact ⟨bm + 1, _, _, Or.inr ⟨o_1, by omega, rfl, rfl, rfl⟩, z_GI_push hG (by omega) h1 h2 hq pk_us (by rw [z_un (by omega)]; exact m2) (fun i hi => by rw [z_un (by omega)]; exact m3 i (by omega)) (fun i a1 a2 a3 => by rw [z_un a1]; exact m4 i a2 a3), rfl⟩)⟩⟩)
          · skip
            rw [nI_leI (by omega) (by omega)] at c_92
            refine e_steps 5 (σ' := (104, [(0, .ref 0), (1, .int (nI count)), (2, .int (nI begun)), (3, .int (nI bm)), (4, .int (nI c))], [.int (nI bm), .int (nI 8), .int (nI 52), .ref 1], (MH gl kept was isKept tape fed pos tlen ((-nI 1)) ranking paper written pairs above below isDone dist rowv rowMany lsz itm weakAbove weakBelow))) rfl ?_
            refine e_mul (8 * bm) rfl (by first | rfl | omega | simp) ?_
            refine e_steps 0 (σ' := (105, [(0, .ref 0), (1, .int (nI count)), (2, .int (nI begun)), (3, .int (nI bm)), (4, .int (nI c))], [.int (nI (8 * bm)), .int (nI 52), .ref 1], (MH gl kept was isKept tape fed pos tlen ((-nI 1)) ranking paper written pairs above below isDone dist rowv rowMany lsz itm weakAbove weakBelow))) rfl ?_
            refine e_add (52 + 8 * bm) rfl (by first | rfl | omega) ?_
            refine e_steps 1 (σ' := (108, [(0, .ref 0), (1, .int (nI count)), (2, .int (nI begun)), (3, .int (nI bm)), (4, .int (nI c))], [.int (nI c), .int (nI (52 + 8 * bm)), .ref 1], (MH gl kept was isKept tape fed pos tlen ((-nI 1)) ranking paper written pairs above below isDone dist rowv rowMany lsz itm weakAbove weakBelow))) rfl ?_
            refine e_add (52 + 8 * bm + c) rfl (by first | rfl | omega) ?_
            refine e_steps 3 (σ' := (115, [(0, .ref 0), (1, .int (nI count)), (2, .int (nI begun)), (3, .int (nI bm)), (4, .int (nI c))], [.int (nI c), .ref 5, .int (nI (52 + 8 * bm + c)), .ref 1], (MH gl kept was isKept tape fed pos tlen ((-nI 1)) ranking paper written pairs above below isDone dist rowv rowMany lsz itm weakAbove weakBelow))) rfl ?_
            refine e_ial (nI (q c)) rfl rfl (by first | assumption | omega | rfl | trivial) (by decide) (hr _ (by omega)) ?_
            have hv_115 := hq.1 c (by omega)
            refine e_steps 0 (σ' := (116, [(0, .ref 0), (1, .int (nI count)), (2, .int (nI begun)), (3, .int (nI bm)), (4, .int (nI c))], [.int (nI (q c)), .int (nI (52 + 8 * bm + c)), .ref 1], (MH gl kept was isKept tape fed pos tlen ((-nI 1)) ranking paper written pairs above below isDone dist rowv rowMany lsz itm weakAbove weakBelow))) rfl ?_
            refine e_ias (MH (upd gl (52 + 8 * bm + c) (nI (q c))) kept was isKept tape fed pos tlen ((-nI 1)) ranking paper written pairs above below isDone dist rowv rowMany lsz itm weakAbove weakBelow) rfl rfl (by first | assumption | omega | rfl | trivial) (by decide) rfl ?_
            refine e_steps 0 (σ' := (117, [(0, .ref 0), (1, .int (nI count)), (2, .int (nI begun)), (3, .int (nI bm)), (4, .int (nI c))], [], (MH (upd gl (52 + 8 * bm + c) (nI (q c))) kept was isKept tape fed pos tlen ((-nI 1)) ranking paper written pairs above below isDone dist rowv rowMany lsz itm weakAbove weakBelow))) rfl ?_
            refine e_inc (n := 1) rfl rfl rfl (c + 1) (by rfl) [(4, .int (nI (c + 1))), (0, .ref 0), (1, .int (nI count)), (2, .int (nI begun)), (3, .int (nI bm))] rfl ?_
            refine e_steps 1 (σ' := (84, [(4, .int (nI (c + 1))), (0, .ref 0), (1, .int (nI count)), (2, .int (nI begun)), (3, .int (nI bm))], [], (MH (upd gl (52 + 8 * bm + c) (nI (q c))) kept was isKept tape fed pos tlen ((-nI 1)) ranking paper written pairs above below isDone dist rowv rowMany lsz itm weakAbove weakBelow))) rfl ?_
            refine e_sub [1, 2, 3, 4, 0] rfl ?_
            exact ih_84 (c + 1) (upd gl (52 + 8 * bm + c) (nI (q c))) (by omega) (by exact ⟨by omega, by rw [z_un (by omega)]; exact m2, z_up1 m3 rfl, fun i hi1 hi2 => by rw [z_un (by omega)]; exact m4 i hi1 hi2⟩)
      refine e_sub [2, 3, 4, 1, 0] rfl ?_
      exact loop_84 _ 0 (upd g (12 + bm) (nI count)) (Nat.lt_succ_self _) (by exact ⟨by omega, pk_us, fun i hi => absurd hi (Nat.not_lt_zero i), fun i hi _ => z_un hi⟩)
    · skip
      rw [nI_eq (by omega) (by omega)] at c_17
      replace c_17 := Decidable.not_not.mp c_17
      refine e_steps 3 (σ' := (41, [(3, .int ((-nI 5))), (0, .ref 0), (1, .int (nI count)), (2, .int (nI begun))], [.int (nI begun), .ref 0], (MH g kept was isKept tape fed pos tlen ((-nI 1)) ranking paper written pairs above below isDone dist rowv rowMany lsz itm weakAbove weakBelow))) rfl ?_
      refine e_call (y := 153) (av := [.ref 0, .int (nI begun)]) (rest := []) rfl (c_X6_fails (d + 1) ) (fun r_41 h_41 p_41 => ?_)
      obtain ⟨rfl, rfl⟩ := p_41
      refine e_steps 0 (σ' := (44, [(3, .int ((-nI 5))), (0, .ref 0), (1, .int (nI count)), (2, .int (nI begun))], [.int (nI 0)], (MH g kept was isKept tape fed pos tlen (nI begun) ranking paper written pairs above below isDone dist rowv rowMany lsz itm weakAbove weakBelow))) rfl ?_
      exact e_ret rfl (Or.inl rfl) (hR _ _ ⟨g, nI begun, rfl, Or.inr ⟨rfl, (by first | exact ⟨Or.inl ⟨bb_1, g1, g2, g3, by omega⟩, rfl, rfl⟩ | exact ⟨Or.inr ⟨o_1, by omega⟩, rfl, rfl⟩)⟩⟩)
theorem c_X6_isPart (d : Nat) {g : Nat → Int32} {kept : Nat → Int32} {was : Nat → Int32} {isKept : Int32} {tape : Nat → Int32} {fd : Nat} {ps : Nat} {tl : Nat} {ranking : Nat → Int32} {paper : Nat → Int32} {written : Int32} {pairs : Nat → Int64} {above : Nat → Int64} {below : Nat → Int64} {isDone : Nat → Int32} {dist : Nat → Int32} {rowv : Nat → Int32} {rowMany : Int32} {lsz : Nat → Int32} {itm : Nat → Int64} {weakAbove : Int64} {weakBelow : Int64} {n : Nat} {outs : Nat} {bm : Nat} {ms : Nat} {dr : Nat → Nat} {cn : Nat → Nat} {pl : Nat → Nat → Nat} {tp : Nat → Nat} (hG : z_GI g n outs bm ms dr cn pl) (hfd : fd ≤ 120) (hps : ps ≤ tl) (htl : tl ≤ 120) (htp : ∀ k, k < tl → tape k = nI (tp k) ∧ 1 ≤ tp k ∧ tp k ≤ 127) : z_CAL (d + 5) 160 [.ref 0] (MH g kept was isKept tape (nI fd) (nI ps) (nI tl) ((-nI 1)) ranking paper written pairs above below isDone dist rowv rowMany lsz itm weakAbove weakBelow) (fun r h2 => ∃ (g2 : Nat → Int32) (ranking2 : Nat → Int32) (ps2 : Nat) (ft2 : Int32), h2 = (MH g2 kept was isKept tape (nI fd) (nI ps2) (nI tl) ft2 ranking2 paper written pairs above below isDone dist rowv rowMany lsz itm weakAbove weakBelow) ∧ ((r = some (.int (nI 1)) ∧ (∃ v q bm2 cn2 pl2, z_p1S n tp tl ps v q ps2 ∧ z_addS n bm cn pl q v bm2 cn2 pl2 ∧ z_GI g2 n outs bm2 ms dr cn2 pl2 ∧ ft2 = -nI 1)) ∨ (r = some (.int (nI 0)) ∧ ((g2 = g ∧ ((∃ ft, z_p1F n tp tl ps ft ∧ ft2 = nI ft) ∨ ∃ v q p2, z_p1S n tp tl ps v q p2 ∧ z_addF n bm cn pl q v ∧ ft2 = nI ps)) ∧ ps ≤ ps2 ∧ ps2 ≤ tl)))) := by
  refine e_of2 (q := zmX6_isPart) rfl rfl (fun R hR => ?_)
  obtain ⟨⟨hn0, hn2, hn8⟩, ⟨ho0, ho8, hin⟩, ⟨hb0, hb40⟩, ⟨hm0, hm4⟩, ⟨hdr, hdl, hdc⟩, hcn, hpl⟩ := id hG; have hp8 := z_p2 hn8; have ho256 : outs < 256 := (by omega); have hi256 : z_dif (2 ^ n - 1) outs < 256 := (by have := z_dif_le (s := 2 ^ n - 1) (t := outs); omega)
  refine e_steps 6 (σ' := (8, [(2, .int (nI 0)), (1, .int (nI ps)), (0, .ref 0)], [.ref 0], (MH g kept was isKept tape (nI fd) (nI ps) (nI tl) ((-nI 1)) ranking paper written pairs above below isDone dist rowv rowMany lsz itm weakAbove weakBelow))) rfl ?_
  refine e_call (y := 152) (av := [.ref 0]) (rest := []) rfl (c_X6_isDigit (d + 2) (tp := tp) (by first | assumption | omega | rfl | trivial) (by first | assumption | omega | rfl | trivial) (by first | assumption | omega | rfl | trivial) (by first | assumption | omega | rfl | trivial)) (fun r_8 h_8 p_8 => ?_)
  obtain ⟨rfl, o_8⟩ := p_8
  rcases o_8 with ⟨rfl, o_8⟩ | ⟨rfl, o_8⟩
  · skip
    refine e_steps 3 (σ' := (25, [(3, .int (nI 0)), (2, .int (nI 0)), (1, .int (nI ps)), (0, .ref 0)], [], (MH g kept was isKept tape (nI fd) (nI ps) (nI tl) ((-nI 1)) ranking paper written pairs above below isDone dist rowv rowMany lsz itm weakAbove weakBelow))) rfl ?_
    have loop_25 : ∀ (z_25 : Nat) (v : Nat) (k : Nat) (ps3 : Nat), 7 - k < z_25 → (ps ≤ ps3 ∧ ps3 ≤ tl ∧ k ≤ 7 ∧ v < 10 ^ k ∧ z_nm tp tl 7 0 ps = z_nm tp tl (7 - k) v ps3) → z_EV (d + 4) zmX6_isPart R (25, [(0, .ref 0), (1, .int (nI ps)), (2, .int (nI v)), (3, .int (nI k))], [], (MH g kept was isKept tape (nI fd) (nI ps3) (nI tl) ((-nI 1)) ranking paper written pairs above below isDone dist rowv rowMany lsz itm weakAbove weakBelow)) := by
      intro z_25
      induction z_25 with
      | zero => intro v k ps3 hm_25 _; exact absurd hm_25 (Nat.not_lt_zero _)
      | succ z_25 ih_25 =>
        intro v k ps3 hm_25 hi_25
        obtain ⟨l1, l2, l3, l4, l5⟩ := hi_25; have hv7 : v < 10000000 := Nat.lt_of_lt_of_le l4 (Nat.pow_le_pow_right (n := 10) (i := k) (j := 7) (by decide) l3)
        refine e_steps 2 (σ' := (28, [(0, .ref 0), (1, .int (nI ps)), (2, .int (nI v)), (3, .int (nI k))], [.int (nI 7), .int (nI k)], (MH g kept was isKept tape (nI fd) (nI ps3) (nI tl) ((-nI 1)) ranking paper written pairs above below isDone dist rowv rowMany lsz itm weakAbove weakBelow))) rfl ?_
        refine e_if (c := nI 7 ≤ nI k) rfl (fun c_28 => ?_) (fun c_28 => ?_)
        · skip
          rw [nI_leI (by omega) (by omega)] at c_28
          refine e_steps 0 (σ' := (67, [(0, .ref 0), (1, .int (nI ps)), (2, .int (nI v)), (3, .int (nI k))], [], (MH g kept was isKept tape (nI fd) (nI ps3) (nI tl) ((-nI 1)) ranking paper written pairs above below isDone dist rowv rowMany lsz itm weakAbove weakBelow))) rfl ?_
          have hnm : z_nm tp tl 7 0 ps = (v, ps3) := (by rw [l5]; first | exact z_nm_no (by omega) | (rw [show 7 - k = 0 by omega]; rfl))
          refine e_steps 1 (σ' := (68, [(0, .ref 0), (1, .int (nI ps)), (2, .int (nI v)), (3, .int (nI k))], [.int (nI v)], (MH g kept was isKept tape (nI fd) (nI ps3) (nI tl) ((-nI 1)) ranking paper written pairs above below isDone dist rowv rowMany lsz itm weakAbove weakBelow))) rfl ?_
          refine e_i2l rfl (by omega) ?_
          refine e_steps 2 (σ' := (73, [(0, .ref 0), (1, .int (nI ps)), (2, .int (nI v)), (3, .int (nI k))], [.long (lN 1000000), .long (lN 1), .long (lN v)], (MH g kept was isKept tape (nI fd) (nI ps3) (nI tl) ((-nI 1)) ranking paper written pairs above below isDone dist rowv rowMany lsz itm weakAbove weakBelow))) rfl ?_
          refine e_call (y := 129) (av := [.long (lN v), .long (lN 1), .long (lN 1000000)]) (rest := []) rfl (c_X6_isIn_N (d + 3) (by first | assumption | omega | rfl | trivial) (by first | assumption | omega | rfl | trivial) (by first | assumption | omega | rfl | trivial)) (fun r_73 h_73 p_73 => ?_)
          obtain ⟨rfl, o_73⟩ := p_73
          rcases o_73 with ⟨rfl, o_73⟩ | ⟨rfl, o_73⟩
          · skip
            refine e_steps 3 (σ' := (88, [(0, .ref 0), (1, .int (nI ps)), (2, .int (nI v)), (3, .int (nI k))], [.int (nI 58), .ref 0], (MH g kept was isKept tape (nI fd) (nI ps3) (nI tl) ((-nI 1)) ranking paper written pairs above below isDone dist rowv rowMany lsz itm weakAbove weakBelow))) rfl ?_
            refine e_call (y := 154) (av := [.ref 0, .int (nI 58)]) (rest := []) rfl (c_X6_isSign (d + 2) (tp := tp) (by first | assumption | omega | rfl | trivial) (by first | assumption | omega | rfl | trivial) (by first | assumption | omega | rfl | trivial) (by first | assumption | omega | rfl | trivial) (by first | assumption | omega | rfl | trivial) (by first | assumption | omega | rfl | trivial)) (fun r_88 h_88 p_88 => ?_)
            obtain ⟨pos_88, flt_88, rfl, o_88⟩ := p_88
            rcases o_88 with ⟨rfl, o_88⟩ | ⟨rfl, o_88⟩
            · skip
              obtain ⟨⟨s1, s2⟩, s3, s4⟩ := o_88; replace s3 := s3.symm; subst s3; replace s4 := s4.symm; subst s4
              refine e_steps 2 (σ' := (95, [(0, .ref 0), (1, .int (nI ps)), (2, .int (nI v)), (3, .int (nI k))], [.ref 0], (MH g kept was isKept tape (nI fd) (nI (ps3 + 1)) (nI tl) ((-nI 1)) ranking paper written pairs above below isDone dist rowv rowMany lsz itm weakAbove weakBelow))) rfl ?_
              refine e_call (y := 156) (av := [.ref 0]) (rest := []) rfl (c_X6_isRanking (d + 0) (n := n) (outs := outs) (bm := bm) (ms := ms) (dr := dr) (cn := cn) (pl := pl) (tp := tp) (by first | assumption | omega | rfl | trivial) (by first | assumption | omega | rfl | trivial) (by first | assumption | omega | rfl | trivial) (by first | assumption | omega | rfl | trivial) (by first | assumption | omega | rfl | trivial)) (fun r_95 h_95 p_95 => ?_)
              obtain ⟨ranking_95, pos_95, flt_95, rfl, o_95⟩ := p_95
              rcases o_95 with ⟨rfl, o_95⟩ | ⟨rfl, o_95⟩
              · skip
                obtain ⟨qq, w1, w2, w3⟩ := o_95; subst w3; have w4 := z_rp_ok hn8 w1 ⟨fun c _ hb => Bool.noConfusion ((Nat.zero_testBit c).symm.trans hb), fun x hx => absurd hx (Nat.not_lt_zero x)⟩
                refine e_steps 4 (σ' := (104, [(0, .ref 0), (1, .int (nI ps)), (2, .int (nI v)), (3, .int (nI k))], [.int (nI ps), .int (nI v), .ref 0], (MH g kept was isKept tape (nI fd) (nI pos_95) (nI tl) ((-nI 1)) ranking_95 paper written pairs above below isDone dist rowv rowMany lsz itm weakAbove weakBelow))) rfl ?_
                refine e_call (y := 159) (av := [.ref 0, .int (nI v), .int (nI ps)]) (rest := []) rfl (c_X6_comes (d + 1) (n := n) (outs := outs) (bm := bm) (ms := ms) (dr := dr) (cn := cn) (pl := pl) (q := qq) (by first | assumption | omega | rfl | trivial) (by first | assumption | omega | rfl | trivial) (by first | assumption | omega | rfl | trivial) (by exact w2) (by exact w4.2.2)) (fun r_104 h_104 p_104 => ?_)
                obtain ⟨g_104, flt_104, rfl, o_104⟩ := p_104
                rcases o_104 with ⟨rfl, o_104⟩ | ⟨rfl, o_104⟩
                · skip
                  obtain ⟨bm2, cn2, pl2, a1, a2, a3⟩ := o_104; subst a3
                  refine e_steps 3 (σ' := (115, [(0, .ref 0), (1, .int (nI ps)), (2, .int (nI v)), (3, .int (nI k))], [.int (nI 1)], (MH g_104 kept was isKept tape (nI fd) (nI pos_95) (nI tl) ((-nI 1)) ranking_95 paper written pairs above below isDone dist rowv rowMany lsz itm weakAbove weakBelow))) rfl ?_
                  exact e_ret rfl (Or.inr rfl) (hR _ _ ⟨g_104, ranking_95, pos_95, (-nI 1), rfl, Or.inl ⟨rfl, (by exact ⟨v, qq, bm2, cn2, pl2, ⟨ps3, hnm, o_73, ⟨s1, s2⟩, w1⟩, a1, a2, rfl⟩)⟩⟩)
                · skip
                  obtain ⟨a1, a2, a3⟩ := o_104; replace a2 := a2.symm; subst a2; replace a3 := a3.symm; subst a3
                  refine e_steps 2 (σ' := (115, [(0, .ref 0), (1, .int (nI ps)), (2, .int (nI v)), (3, .int (nI k))], [.int (nI 0)], (MH g kept was isKept tape (nI fd) (nI pos_95) (nI tl) ((nI ps)) ranking_95 paper written pairs above below isDone dist rowv rowMany lsz itm weakAbove weakBelow))) rfl ?_
                  exact e_ret rfl (Or.inl rfl) (hR _ _ ⟨g, ranking_95, pos_95, (nI ps), rfl, Or.inr ⟨rfl, (by first | exact ⟨⟨rfl, Or.inr ⟨v, qq, _, ⟨ps3, hnm, o_73, ⟨s1, s2⟩, w1⟩, a1, rfl⟩⟩, by omega, by omega⟩ | exact ⟨⟨rfl, Or.inl ⟨_, ⟨v, ps3, hnm, Or.inr ⟨o_73, Or.inr ⟨⟨s1, s2⟩, qq, w1⟩⟩⟩, rfl⟩⟩, by omega, by omega⟩ | exact ⟨⟨rfl, Or.inl ⟨_, ⟨v, ps3, hnm, Or.inr ⟨o_73, Or.inl ⟨s1, rfl⟩⟩⟩, rfl⟩⟩, by omega, by omega⟩ | exact ⟨⟨rfl, Or.inl ⟨_, ⟨v, ps3, hnm, Or.inl ⟨o_73, rfl⟩⟩, rfl⟩⟩, by omega, by omega⟩ | exact ⟨⟨rfl, Or.inl ⟨_, ⟨0, ps, z_nm_no o_8, Or.inl ⟨by omega, rfl⟩⟩, rfl⟩⟩, by omega, by omega⟩)⟩⟩)
              · skip
                obtain ⟨qq, w1, w3⟩ := o_95; subst w3; have w4 := z_rp_le w1 (by omega)
                refine e_steps 2 (σ' := (115, [(0, .ref 0), (1, .int (nI ps)), (2, .int (nI v)), (3, .int (nI k))], [.int (nI 0)], (MH g kept was isKept tape (nI fd) (nI pos_95) (nI tl) ((nI pos_95)) ranking_95 paper written pairs above below isDone dist rowv rowMany lsz itm weakAbove weakBelow))) rfl ?_
                exact e_ret rfl (Or.inl rfl) (hR _ _ ⟨g, ranking_95, pos_95, (nI pos_95), rfl, Or.inr ⟨rfl, (by first | exact ⟨⟨rfl, Or.inr ⟨v, qq, _, ⟨ps3, hnm, o_73, ⟨s1, s2⟩, w1⟩, a1, rfl⟩⟩, by omega, by omega⟩ | exact ⟨⟨rfl, Or.inl ⟨_, ⟨v, ps3, hnm, Or.inr ⟨o_73, Or.inr ⟨⟨s1, s2⟩, qq, w1⟩⟩⟩, rfl⟩⟩, by omega, by omega⟩ | exact ⟨⟨rfl, Or.inl ⟨_, ⟨v, ps3, hnm, Or.inr ⟨o_73, Or.inl ⟨s1, rfl⟩⟩⟩, rfl⟩⟩, by omega, by omega⟩ | exact ⟨⟨rfl, Or.inl ⟨_, ⟨v, ps3, hnm, Or.inl ⟨o_73, rfl⟩⟩, rfl⟩⟩, by omega, by omega⟩ | exact ⟨⟨rfl, Or.inl ⟨_, ⟨0, ps, z_nm_no o_8, Or.inl ⟨by omega, rfl⟩⟩, rfl⟩⟩, by omega, by omega⟩)⟩⟩)
            · skip
              obtain ⟨s1, s3, s4⟩ := o_88; replace s3 := s3.symm; subst s3; replace s4 := s4.symm; subst s4
              refine e_steps 2 (σ' := (115, [(0, .ref 0), (1, .int (nI ps)), (2, .int (nI v)), (3, .int (nI k))], [.int (nI 0)], (MH g kept was isKept tape (nI fd) (nI ps3) (nI tl) ((nI ps3)) ranking paper written pairs above below isDone dist rowv rowMany lsz itm weakAbove weakBelow))) rfl ?_
              exact e_ret rfl (Or.inl rfl) (hR _ _ ⟨g, ranking, ps3, (nI ps3), rfl, Or.inr ⟨rfl, (by first | exact ⟨⟨rfl, Or.inr ⟨v, qq, _, ⟨ps3, hnm, o_73, ⟨s1, s2⟩, w1⟩, a1, rfl⟩⟩, by omega, by omega⟩ | exact ⟨⟨rfl, Or.inl ⟨_, ⟨v, ps3, hnm, Or.inr ⟨o_73, Or.inr ⟨⟨s1, s2⟩, qq, w1⟩⟩⟩, rfl⟩⟩, by omega, by omega⟩ | exact ⟨⟨rfl, Or.inl ⟨_, ⟨v, ps3, hnm, Or.inr ⟨o_73, Or.inl ⟨s1, rfl⟩⟩⟩, rfl⟩⟩, by omega, by omega⟩ | exact ⟨⟨rfl, Or.inl ⟨_, ⟨v, ps3, hnm, Or.inl ⟨o_73, rfl⟩⟩, rfl⟩⟩, by omega, by omega⟩ | exact ⟨⟨rfl, Or.inl ⟨_, ⟨0, ps, z_nm_no o_8, Or.inl ⟨by omega, rfl⟩⟩, rfl⟩⟩, by omega, by omega⟩)⟩⟩)
          · skip
            refine e_steps 3 (σ' := (81, [(0, .ref 0), (1, .int (nI ps)), (2, .int (nI v)), (3, .int (nI k))], [.int (nI ps), .ref 0], (MH g kept was isKept tape (nI fd) (nI ps3) (nI tl) ((-nI 1)) ranking paper written pairs above below isDone dist rowv rowMany lsz itm weakAbove weakBelow))) rfl ?_
            refine e_call (y := 153) (av := [.ref 0, .int (nI ps)]) (rest := []) rfl (c_X6_fails (d + 3) ) (fun r_81 h_81 p_81 => ?_)
            obtain ⟨rfl, rfl⟩ := p_81
            refine e_steps 0 (σ' := (84, [(0, .ref 0), (1, .int (nI ps)), (2, .int (nI v)), (3, .int (nI k))], [.int (nI 0)], (MH g kept was isKept tape (nI fd) (nI ps3) (nI tl) (nI ps) ranking paper written pairs above below isDone dist rowv rowMany lsz itm weakAbove weakBelow))) rfl ?_
            exact e_ret rfl (Or.inl rfl) (hR _ _ ⟨g, ranking, ps3, nI ps, rfl, Or.inr ⟨rfl, (by first | exact ⟨⟨rfl, Or.inr ⟨v, qq, _, ⟨ps3, hnm, o_73, ⟨s1, s2⟩, w1⟩, a1, rfl⟩⟩, by omega, by omega⟩ | exact ⟨⟨rfl, Or.inl ⟨_, ⟨v, ps3, hnm, Or.inr ⟨o_73, Or.inr ⟨⟨s1, s2⟩, qq, w1⟩⟩⟩, rfl⟩⟩, by omega, by omega⟩ | exact ⟨⟨rfl, Or.inl ⟨_, ⟨v, ps3, hnm, Or.inr ⟨o_73, Or.inl ⟨s1, rfl⟩⟩⟩, rfl⟩⟩, by omega, by omega⟩ | exact ⟨⟨rfl, Or.inl ⟨_, ⟨v, ps3, hnm, Or.inl ⟨o_73, rfl⟩⟩, rfl⟩⟩, by omega, by omega⟩ | exact ⟨⟨rfl, Or.inl ⟨_, ⟨0, ps, z_nm_no o_8, Or.inl ⟨by omega, rfl⟩⟩, rfl⟩⟩, by omega, by omega⟩)⟩⟩)
        · skip
          rw [nI_leI (by omega) (by omega)] at c_28
          refine e_steps 1 (σ' := (32, [(0, .ref 0), (1, .int (nI ps)), (2, .int (nI v)), (3, .int (nI k))], [.ref 0], (MH g kept was isKept tape (nI fd) (nI ps3) (nI tl) ((-nI 1)) ranking paper written pairs above below isDone dist rowv rowMany lsz itm weakAbove weakBelow))) rfl ?_
          refine e_call (y := 152) (av := [.ref 0]) (rest := []) rfl (c_X6_isDigit (d + 2) (tp := tp) (by first | assumption | omega | rfl | trivial) (by first | assumption | omega | rfl | trivial) (by first | assumption | omega | rfl | trivial) (by first | assumption | omega | rfl | trivial)) (fun r_32 h_32 p_32 => ?_)
          obtain ⟨rfl, o_32⟩ := p_32
          rcases o_32 with ⟨rfl, o_32⟩ | ⟨rfl, o_32⟩
          · skip
            refine e_steps 3 (σ' := (41, [(0, .ref 0), (1, .int (nI ps)), (2, .int (nI v)), (3, .int (nI k))], [.int (nI v), .int (nI 10)], (MH g kept was isKept tape (nI fd) (nI ps3) (nI tl) ((-nI 1)) ranking paper written pairs above below isDone dist rowv rowMany lsz itm weakAbove weakBelow))) rfl ?_
            refine e_mul (10 * v) rfl (by first | rfl | omega | simp) ?_
            refine e_steps 1 (σ' := (43, [(0, .ref 0), (1, .int (nI ps)), (2, .int (nI v)), (3, .int (nI k))], [.ref 0, .int (nI (10 * v))], (MH g kept was isKept tape (nI fd) (nI ps3) (nI tl) ((-nI 1)) ranking paper written pairs above below isDone dist rowv rowMany lsz itm weakAbove weakBelow))) rfl ?_
            refine e_call (y := 151) (av := [.ref 0]) (rest := [.int (nI (10 * v))]) rfl (c_X6_here (d + 3) (tp := tp) (by first | assumption | omega | rfl | trivial) (by first | assumption | omega | rfl | trivial) (by first | assumption | omega | rfl | trivial) (by first | assumption | omega | rfl | trivial)) (fun r_43 h_43 p_43 => ?_)
            obtain ⟨rfl, o_43⟩ := p_43
            rcases o_43 with ⟨rfl, o_43⟩ | ⟨rfl, o_43⟩
            · skip
              refine e_steps 0 (σ' := (46, [(0, .ref 0), (1, .int (nI ps)), (2, .int (nI v)), (3, .int (nI k))], [.int (nI (tp ps3)), .int (nI (10 * v))], (MH g kept was isKept tape (nI fd) (nI ps3) (nI tl) ((-nI 1)) ranking paper written pairs above below isDone dist rowv rowMany lsz itm weakAbove weakBelow))) rfl ?_
              refine e_add (10 * v + tp ps3) rfl (by first | rfl | omega) ?_
              refine e_steps 1 (σ' := (49, [(0, .ref 0), (1, .int (nI ps)), (2, .int (nI v)), (3, .int (nI k))], [.int (nI 48), .int (nI (10 * v + tp ps3))], (MH g kept was isKept tape (nI fd) (nI ps3) (nI tl) ((-nI 1)) ranking paper written pairs above below isDone dist rowv rowMany lsz itm weakAbove weakBelow))) rfl ?_
              refine e_sbt ((10 * v + tp ps3) - 48) rfl (by omega) (by first | rfl | omega) ?_
              refine e_steps 5 (σ' := (57, [(2, .int (nI ((10 * v + tp ps3) - 48))), (0, .ref 0), (1, .int (nI ps)), (3, .int (nI k))], [.int (nI 1), .int (nI ps3), .ref 0], (MH g kept was isKept tape (nI fd) (nI ps3) (nI tl) ((-nI 1)) ranking paper written pairs above below isDone dist rowv rowMany lsz itm weakAbove weakBelow))) rfl ?_
              refine e_add (ps3 + 1) rfl (by first | rfl | omega) ?_
              refine e_steps 1 (σ' := (61, [(2, .int (nI ((10 * v + tp ps3) - 48))), (0, .ref 0), (1, .int (nI ps)), (3, .int (nI k))], [], (MH g kept was isKept tape (nI fd) (nI (ps3 + 1)) (nI tl) ((-nI 1)) ranking paper written pairs above below isDone dist rowv rowMany lsz itm weakAbove weakBelow))) rfl ?_
              refine e_inc (n := 1) rfl rfl rfl (k + 1) (by rfl) [(3, .int (nI (k + 1))), (2, .int (nI ((10 * v + tp ps3) - 48))), (0, .ref 0), (1, .int (nI ps))] rfl ?_
              refine e_steps 1 (σ' := (25, [(3, .int (nI (k + 1))), (2, .int (nI ((10 * v + tp ps3) - 48))), (0, .ref 0), (1, .int (nI ps))], [], (MH g kept was isKept tape (nI fd) (nI (ps3 + 1)) (nI tl) ((-nI 1)) ranking paper written pairs above below isDone dist rowv rowMany lsz itm weakAbove weakBelow))) rfl ?_
              refine e_sub [2, 3, 1, 0] rfl ?_
              exact ih_25 ((10 * v + tp ps3) - 48) (k + 1) (ps3 + 1) (by omega) (by exact ⟨by omega, by omega, by omega, by rw [Nat.pow_succ]; omega, by rw [l5, show 7 - k = (7 - (k + 1)) + 1 by omega, z_nm_c (k := tp ps3 - 48) (by omega) (by omega) (by omega)]; congr 1; omega⟩)
            · skip
              omega
          · skip
            refine e_steps 1 (σ' := (67, [(0, .ref 0), (1, .int (nI ps)), (2, .int (nI v)), (3, .int (nI k))], [], (MH g kept was isKept tape (nI fd) (nI ps3) (nI tl) ((-nI 1)) ranking paper written pairs above below isDone dist rowv rowMany lsz itm weakAbove weakBelow))) rfl ?_
            have hnm : z_nm tp tl 7 0 ps = (v, ps3) := (by rw [l5]; first | exact z_nm_no (by omega) | (rw [show 7 - k = 0 by omega]; rfl))
            refine e_steps 1 (σ' := (68, [(0, .ref 0), (1, .int (nI ps)), (2, .int (nI v)), (3, .int (nI k))], [.int (nI v)], (MH g kept was isKept tape (nI fd) (nI ps3) (nI tl) ((-nI 1)) ranking paper written pairs above below isDone dist rowv rowMany lsz itm weakAbove weakBelow))) rfl ?_
            refine e_i2l rfl (by omega) ?_
            refine e_steps 2 (σ' := (73, [(0, .ref 0), (1, .int (nI ps)), (2, .int (nI v)), (3, .int (nI k))], [.long (lN 1000000), .long (lN 1), .long (lN v)], (MH g kept was isKept tape (nI fd) (nI ps3) (nI tl) ((-nI 1)) ranking paper written pairs above below isDone dist rowv rowMany lsz itm weakAbove weakBelow))) rfl ?_
            refine e_call (y := 129) (av := [.long (lN v), .long (lN 1), .long (lN 1000000)]) (rest := []) rfl (c_X6_isIn_N (d + 3) (by first | assumption | omega | rfl | trivial) (by first | assumption | omega | rfl | trivial) (by first | assumption | omega | rfl | trivial)) (fun r_73 h_73 p_73 => ?_)
            obtain ⟨rfl, o_73⟩ := p_73
            rcases o_73 with ⟨rfl, o_73⟩ | ⟨rfl, o_73⟩
            · skip
              refine e_steps 3 (σ' := (88, [(0, .ref 0), (1, .int (nI ps)), (2, .int (nI v)), (3, .int (nI k))], [.int (nI 58), .ref 0], (MH g kept was isKept tape (nI fd) (nI ps3) (nI tl) ((-nI 1)) ranking paper written pairs above below isDone dist rowv rowMany lsz itm weakAbove weakBelow))) rfl ?_
              refine e_call (y := 154) (av := [.ref 0, .int (nI 58)]) (rest := []) rfl (c_X6_isSign (d + 2) (tp := tp) (by first | assumption | omega | rfl | trivial) (by first | assumption | omega | rfl | trivial) (by first | assumption | omega | rfl | trivial) (by first | assumption | omega | rfl | trivial) (by first | assumption | omega | rfl | trivial) (by first | assumption | omega | rfl | trivial)) (fun r_88 h_88 p_88 => ?_)
              obtain ⟨pos_88, flt_88, rfl, o_88⟩ := p_88
              rcases o_88 with ⟨rfl, o_88⟩ | ⟨rfl, o_88⟩
              · skip
                obtain ⟨⟨s1, s2⟩, s3, s4⟩ := o_88; replace s3 := s3.symm; subst s3; replace s4 := s4.symm; subst s4
                refine e_steps 2 (σ' := (95, [(0, .ref 0), (1, .int (nI ps)), (2, .int (nI v)), (3, .int (nI k))], [.ref 0], (MH g kept was isKept tape (nI fd) (nI (ps3 + 1)) (nI tl) ((-nI 1)) ranking paper written pairs above below isDone dist rowv rowMany lsz itm weakAbove weakBelow))) rfl ?_
                refine e_call (y := 156) (av := [.ref 0]) (rest := []) rfl (c_X6_isRanking (d + 0) (n := n) (outs := outs) (bm := bm) (ms := ms) (dr := dr) (cn := cn) (pl := pl) (tp := tp) (by first | assumption | omega | rfl | trivial) (by first | assumption | omega | rfl | trivial) (by first | assumption | omega | rfl | trivial) (by first | assumption | omega | rfl | trivial) (by first | assumption | omega | rfl | trivial)) (fun r_95 h_95 p_95 => ?_)
                obtain ⟨ranking_95, pos_95, flt_95, rfl, o_95⟩ := p_95
                rcases o_95 with ⟨rfl, o_95⟩ | ⟨rfl, o_95⟩
                · skip
                  obtain ⟨qq, w1, w2, w3⟩ := o_95; subst w3; have w4 := z_rp_ok hn8 w1 ⟨fun c _ hb => Bool.noConfusion ((Nat.zero_testBit c).symm.trans hb), fun x hx => absurd hx (Nat.not_lt_zero x)⟩
                  refine e_steps 4 (σ' := (104, [(0, .ref 0), (1, .int (nI ps)), (2, .int (nI v)), (3, .int (nI k))], [.int (nI ps), .int (nI v), .ref 0], (MH g kept was isKept tape (nI fd) (nI pos_95) (nI tl) ((-nI 1)) ranking_95 paper written pairs above below isDone dist rowv rowMany lsz itm weakAbove weakBelow))) rfl ?_
                  refine e_call (y := 159) (av := [.ref 0, .int (nI v), .int (nI ps)]) (rest := []) rfl (c_X6_comes (d + 1) (n := n) (outs := outs) (bm := bm) (ms := ms) (dr := dr) (cn := cn) (pl := pl) (q := qq) (by first | assumption | omega | rfl | trivial) (by first | assumption | omega | rfl | trivial) (by first | assumption | omega | rfl | trivial) (by exact w2) (by exact w4.2.2)) (fun r_104 h_104 p_104 => ?_)
                  obtain ⟨g_104, flt_104, rfl, o_104⟩ := p_104
                  rcases o_104 with ⟨rfl, o_104⟩ | ⟨rfl, o_104⟩
                  · skip
                    obtain ⟨bm2, cn2, pl2, a1, a2, a3⟩ := o_104; subst a3
                    refine e_steps 3 (σ' := (115, [(0, .ref 0), (1, .int (nI ps)), (2, .int (nI v)), (3, .int (nI k))], [.int (nI 1)], (MH g_104 kept was isKept tape (nI fd) (nI pos_95) (nI tl) ((-nI 1)) ranking_95 paper written pairs above below isDone dist rowv rowMany lsz itm weakAbove weakBelow))) rfl ?_
                    exact e_ret rfl (Or.inr rfl) (hR _ _ ⟨g_104, ranking_95, pos_95, (-nI 1), rfl, Or.inl ⟨rfl, (by exact ⟨v, qq, bm2, cn2, pl2, ⟨ps3, hnm, o_73, ⟨s1, s2⟩, w1⟩, a1, a2, rfl⟩)⟩⟩)
                  · skip
                    obtain ⟨a1, a2, a3⟩ := o_104; replace a2 := a2.symm; subst a2; replace a3 := a3.symm; subst a3
                    refine e_steps 2 (σ' := (115, [(0, .ref 0), (1, .int (nI ps)), (2, .int (nI v)), (3, .int (nI k))], [.int (nI 0)], (MH g kept was isKept tape (nI fd) (nI pos_95) (nI tl) ((nI ps)) ranking_95 paper written pairs above below isDone dist rowv rowMany lsz itm weakAbove weakBelow))) rfl ?_
                    exact e_ret rfl (Or.inl rfl) (hR _ _ ⟨g, ranking_95, pos_95, (nI ps), rfl, Or.inr ⟨rfl, (by first | exact ⟨⟨rfl, Or.inr ⟨v, qq, _, ⟨ps3, hnm, o_73, ⟨s1, s2⟩, w1⟩, a1, rfl⟩⟩, by omega, by omega⟩ | exact ⟨⟨rfl, Or.inl ⟨_, ⟨v, ps3, hnm, Or.inr ⟨o_73, Or.inr ⟨⟨s1, s2⟩, qq, w1⟩⟩⟩, rfl⟩⟩, by omega, by omega⟩ | exact ⟨⟨rfl, Or.inl ⟨_, ⟨v, ps3, hnm, Or.inr ⟨o_73, Or.inl ⟨s1, rfl⟩⟩⟩, rfl⟩⟩, by omega, by omega⟩ | exact ⟨⟨rfl, Or.inl ⟨_, ⟨v, ps3, hnm, Or.inl ⟨o_73, rfl⟩⟩, rfl⟩⟩, by omega, by omega⟩ | exact ⟨⟨rfl, Or.inl ⟨_, ⟨0, ps, z_nm_no o_8, Or.inl ⟨by omega, rfl⟩⟩, rfl⟩⟩, by omega, by omega⟩)⟩⟩)
                · skip
                  obtain ⟨qq, w1, w3⟩ := o_95; subst w3; have w4 := z_rp_le w1 (by omega)
                  refine e_steps 2 (σ' := (115, [(0, .ref 0), (1, .int (nI ps)), (2, .int (nI v)), (3, .int (nI k))], [.int (nI 0)], (MH g kept was isKept tape (nI fd) (nI pos_95) (nI tl) ((nI pos_95)) ranking_95 paper written pairs above below isDone dist rowv rowMany lsz itm weakAbove weakBelow))) rfl ?_
                  exact e_ret rfl (Or.inl rfl) (hR _ _ ⟨g, ranking_95, pos_95, (nI pos_95), rfl, Or.inr ⟨rfl, (by first | exact ⟨⟨rfl, Or.inr ⟨v, qq, _, ⟨ps3, hnm, o_73, ⟨s1, s2⟩, w1⟩, a1, rfl⟩⟩, by omega, by omega⟩ | exact ⟨⟨rfl, Or.inl ⟨_, ⟨v, ps3, hnm, Or.inr ⟨o_73, Or.inr ⟨⟨s1, s2⟩, qq, w1⟩⟩⟩, rfl⟩⟩, by omega, by omega⟩ | exact ⟨⟨rfl, Or.inl ⟨_, ⟨v, ps3, hnm, Or.inr ⟨o_73, Or.inl ⟨s1, rfl⟩⟩⟩, rfl⟩⟩, by omega, by omega⟩ | exact ⟨⟨rfl, Or.inl ⟨_, ⟨v, ps3, hnm, Or.inl ⟨o_73, rfl⟩⟩, rfl⟩⟩, by omega, by omega⟩ | exact ⟨⟨rfl, Or.inl ⟨_, ⟨0, ps, z_nm_no o_8, Or.inl ⟨by omega, rfl⟩⟩, rfl⟩⟩, by omega, by omega⟩)⟩⟩)
              · skip
                obtain ⟨s1, s3, s4⟩ := o_88; replace s3 := s3.symm; subst s3; replace s4 := s4.symm; subst s4
                refine e_steps 2 (σ' := (115, [(0, .ref 0), (1, .int (nI ps)), (2, .int (nI v)), (3, .int (nI k))], [.int (nI 0)], (MH g kept was isKept tape (nI fd) (nI ps3) (nI tl) ((nI ps3)) ranking paper written pairs above below isDone dist rowv rowMany lsz itm weakAbove weakBelow))) rfl ?_
                exact e_ret rfl (Or.inl rfl) (hR _ _ ⟨g, ranking, ps3, (nI ps3), rfl, Or.inr ⟨rfl, (by first | exact ⟨⟨rfl, Or.inr ⟨v, qq, _, ⟨ps3, hnm, o_73, ⟨s1, s2⟩, w1⟩, a1, rfl⟩⟩, by omega, by omega⟩ | exact ⟨⟨rfl, Or.inl ⟨_, ⟨v, ps3, hnm, Or.inr ⟨o_73, Or.inr ⟨⟨s1, s2⟩, qq, w1⟩⟩⟩, rfl⟩⟩, by omega, by omega⟩ | exact ⟨⟨rfl, Or.inl ⟨_, ⟨v, ps3, hnm, Or.inr ⟨o_73, Or.inl ⟨s1, rfl⟩⟩⟩, rfl⟩⟩, by omega, by omega⟩ | exact ⟨⟨rfl, Or.inl ⟨_, ⟨v, ps3, hnm, Or.inl ⟨o_73, rfl⟩⟩, rfl⟩⟩, by omega, by omega⟩ | exact ⟨⟨rfl, Or.inl ⟨_, ⟨0, ps, z_nm_no o_8, Or.inl ⟨by omega, rfl⟩⟩, rfl⟩⟩, by omega, by omega⟩)⟩⟩)
            · skip
              refine e_steps 3 (σ' := (81, [(0, .ref 0), (1, .int (nI ps)), (2, .int (nI v)), (3, .int (nI k))], [.int (nI ps), .ref 0], (MH g kept was isKept tape (nI fd) (nI ps3) (nI tl) ((-nI 1)) ranking paper written pairs above below isDone dist rowv rowMany lsz itm weakAbove weakBelow))) rfl ?_
              refine e_call (y := 153) (av := [.ref 0, .int (nI ps)]) (rest := []) rfl (c_X6_fails (d + 3) ) (fun r_81 h_81 p_81 => ?_)
              obtain ⟨rfl, rfl⟩ := p_81
              refine e_steps 0 (σ' := (84, [(0, .ref 0), (1, .int (nI ps)), (2, .int (nI v)), (3, .int (nI k))], [.int (nI 0)], (MH g kept was isKept tape (nI fd) (nI ps3) (nI tl) (nI ps) ranking paper written pairs above below isDone dist rowv rowMany lsz itm weakAbove weakBelow))) rfl ?_
              exact e_ret rfl (Or.inl rfl) (hR _ _ ⟨g, ranking, ps3, nI ps, rfl, Or.inr ⟨rfl, (by first | exact ⟨⟨rfl, Or.inr ⟨v, qq, _, ⟨ps3, hnm, o_73, ⟨s1, s2⟩, w1⟩, a1, rfl⟩⟩, by omega, by omega⟩ | exact ⟨⟨rfl, Or.inl ⟨_, ⟨v, ps3, hnm, Or.inr ⟨o_73, Or.inr ⟨⟨s1, s2⟩, qq, w1⟩⟩⟩, rfl⟩⟩, by omega, by omega⟩ | exact ⟨⟨rfl, Or.inl ⟨_, ⟨v, ps3, hnm, Or.inr ⟨o_73, Or.inl ⟨s1, rfl⟩⟩⟩, rfl⟩⟩, by omega, by omega⟩ | exact ⟨⟨rfl, Or.inl ⟨_, ⟨v, ps3, hnm, Or.inl ⟨o_73, rfl⟩⟩, rfl⟩⟩, by omega, by omega⟩ | exact ⟨⟨rfl, Or.inl ⟨_, ⟨0, ps, z_nm_no o_8, Or.inl ⟨by omega, rfl⟩⟩, rfl⟩⟩, by omega, by omega⟩)⟩⟩)
    refine e_sub [3, 2, 1, 0] rfl ?_
    exact loop_25 _ 0 0 ps (Nat.lt_succ_self _) (by exact ⟨by omega, by omega, by omega, by decide, rfl⟩)
  · skip
    refine e_steps 4 (σ' := (19, [(2, .int (nI 0)), (1, .int (nI ps)), (0, .ref 0)], [.int (nI ps), .ref 0], (MH g kept was isKept tape (nI fd) (nI ps) (nI tl) ((-nI 1)) ranking paper written pairs above below isDone dist rowv rowMany lsz itm weakAbove weakBelow))) rfl ?_
    refine e_call (y := 153) (av := [.ref 0, .int (nI ps)]) (rest := []) rfl (c_X6_fails (d + 3) ) (fun r_19 h_19 p_19 => ?_)
    obtain ⟨rfl, rfl⟩ := p_19
    refine e_steps 0 (σ' := (22, [(2, .int (nI 0)), (1, .int (nI ps)), (0, .ref 0)], [.int (nI 0)], (MH g kept was isKept tape (nI fd) (nI ps) (nI tl) (nI ps) ranking paper written pairs above below isDone dist rowv rowMany lsz itm weakAbove weakBelow))) rfl ?_
    exact e_ret rfl (Or.inl rfl) (hR _ _ ⟨g, ranking, ps, nI ps, rfl, Or.inr ⟨rfl, (by exact ⟨⟨rfl, Or.inl ⟨_, ⟨0, ps, z_nm_no o_8, Or.inl ⟨by omega, rfl⟩⟩, rfl⟩⟩, by omega, by omega⟩)⟩⟩)
theorem c_X6_ballots (d : Nat) {g : Nat → Int32} {kept : Nat → Int32} {was : Nat → Int32} {isKept : Int32} {tape : Nat → Int32} {fd : Nat} {ps : Nat} {tl : Nat} {flt : Int32} {ranking : Nat → Int32} {paper : Nat → Int32} {written : Int32} {pairs : Nat → Int64} {above : Nat → Int64} {below : Nat → Int64} {isDone : Nat → Int32} {dist : Nat → Int32} {rowv : Nat → Int32} {rowMany : Int32} {lsz : Nat → Int32} {itm : Nat → Int64} {weakAbove : Int64} {weakBelow : Int64} {n : Nat} {outs : Nat} {bm : Nat} {ms : Nat} {dr : Nat → Nat} {cn : Nat → Nat} {pl : Nat → Nat → Nat} {tp : Nat → Nat} (hG : z_GI g n outs bm ms dr cn pl) (hfd : fd ≤ 120) (hps : ps ≤ tl) (htl : tl ≤ 120) (htp : ∀ k, k < fd → tape k = nI (tp k) ∧ 1 ≤ tp k ∧ tp k ≤ 127) : z_CAL (d + 6) 161 [.ref 0] (MH g kept was isKept tape (nI fd) (nI ps) (nI tl) flt ranking paper written pairs above below isDone dist rowv rowMany lsz itm weakAbove weakBelow) (fun r h2 => ∃ (g2 : Nat → Int32) (was2 : Nat → Int32) (ranking2 : Nat → Int32) (ps2 : Nat) (ft2 : Int32) (v : Int32), r = some (.int v) ∧ h2 = (MH g2 kept was2 isKept tape (nI 0) (nI ps2) (nI fd) ft2 ranking2 paper written pairs above below isDone dist rowv rowMany lsz itm weakAbove weakBelow) ∧ (ps2 ≤ fd ∧ ∃ R, (∃ f, z_pts n tp fd f 0 0 bm cn pl R) ∧ ((∃ ft, R = .inl ft ∧ ft ≤ 120 ∧ v = -nI 100 - nI ft ∧ z_GI g2 n outs bm ms dr cn pl) ∨ ∃ k bm2 cn2 pl2, R = .inr (k, bm2, cn2, pl2) ∧ v = nI k ∧ z_GI g2 n outs bm2 ms dr cn2 pl2))) := by
  refine e_of2 (q := zmX6_ballots) rfl rfl (fun R hR => ?_)
  obtain ⟨⟨hn0, hn2, hn8⟩, ⟨ho0, ho8, hin⟩, ⟨hb0, hb40⟩, ⟨hm0, hm4⟩, ⟨hdr, hdl, hdc⟩, hcn, hpl⟩ := id hG; have hp8 := z_p2 hn8; have ho256 : outs < 256 := (by omega); have hi256 : z_dif (2 ^ n - 1) outs < 256 := (by have := z_dif_le (s := 2 ^ n - 1) (t := outs); omega)
  refine e_steps 1 (σ' := (1, [(0, .ref 0)], [.ref 0], (MH g kept was isKept tape (nI fd) (nI ps) (nI tl) flt ranking paper written pairs above below isDone dist rowv rowMany lsz itm weakAbove weakBelow))) rfl ?_
  refine e_call (y := 150) (av := [.ref 0]) (rest := []) rfl (c_X6_reads (d + 4) (by first | assumption | omega | rfl | trivial) (by first | assumption | omega | rfl | trivial) (by first | assumption | omega | rfl | trivial)) (fun r_1 h_1 p_1 => ?_)
  obtain ⟨rfl, rfl⟩ := p_1
  refine e_steps 4 (σ' := (12, [(0, .ref 0)], [.ref 3, .ref 1], (MH g kept was isKept tape (nI 0) (nI 0) (nI fd) ((-nI 1)) ranking paper written pairs above below isDone dist rowv rowMany lsz itm weakAbove weakBelow))) rfl ?_
  refine e_call (y := 130) (av := [.ref 1, .ref 3]) (rest := []) rfl (c_X6_copies_gw (d + 4) ) (fun r_12 h_12 p_12 => ?_)
  obtain ⟨was_12, rfl, rfl, q_12⟩ := p_12
  refine e_steps 4 (σ' := (19, [(2, .int (nI 1)), (1, .int (nI 0)), (0, .ref 0)], [], (MH g kept was_12 isKept tape (nI 0) (nI 0) (nI fd) ((-nI 1)) ranking paper written pairs above below isDone dist rowv rowMany lsz itm weakAbove weakBelow))) rfl ?_
  have loop_19 : ∀ (z_19 : Nat) (cnt : Nat) (mo : Nat) (gl : Nat → Int32) (rk : Nat → Int32) (ps3 : Nat) (ft3 : Int32), 2 * (fd - ps3) + mo < z_19 → (mo < 2 ∧ ps3 ≤ fd ∧ cnt ≤ ps3 + 1 ∧ ((mo = 1 ∧ cnt ≤ ps3 ∧ ft3 = -nI 1 ∧ ∃ bm2 cn2 pl2, z_GI gl n outs bm2 ms dr cn2 pl2 ∧ (∀ R, (∃ f, z_pts n tp fd f cnt ps3 bm2 cn2 pl2 R) → ∃ f, z_pts n tp fd f 0 0 bm cn pl R)) ∨ (mo = 0 ∧ ∃ ft, ft3 = nI ft ∧ ft ≤ 120 ∧ ∃ f, z_pts n tp fd f 0 0 bm cn pl (.inl ft)))) → z_EV (d + 5) zmX6_ballots R (19, [(0, .ref 0), (1, .int (nI cnt)), (2, .int (nI mo))], [], (MH gl kept was_12 isKept tape (nI 0) (nI ps3) (nI fd) ft3 rk paper written pairs above below isDone dist rowv rowMany lsz itm weakAbove weakBelow)) := by
    intro z_19
    induction z_19 with
    | zero => intro cnt mo gl rk ps3 ft3 hm_19 _; exact absurd hm_19 (Nat.not_lt_zero _)
    | succ z_19 ih_19 =>
      intro cnt mo gl rk ps3 ft3 hm_19 hi_19
      obtain ⟨l1, l2, l3, l4⟩ := hi_19
      refine e_steps 1 (σ' := (20, [(0, .ref 0), (1, .int (nI cnt)), (2, .int (nI mo))], [.int (nI mo)], (MH gl kept was_12 isKept tape (nI 0) (nI ps3) (nI fd) ft3 rk paper written pairs above below isDone dist rowv rowMany lsz itm weakAbove weakBelow))) rfl ?_
      refine e_if (c := nI mo = 0) rfl (fun c_20 => ?_) (fun c_20 => ?_)
      · skip
        rw [z0_eq (by omega)] at c_20
        refine e_steps 4 (σ' := (78, [(0, .ref 0), (1, .int (nI cnt)), (2, .int (nI mo))], [.ref 1, .ref 3], (MH gl kept was_12 isKept tape (nI 0) (nI ps3) (nI fd) ft3 rk paper written pairs above below isDone dist rowv rowMany lsz itm weakAbove weakBelow))) rfl ?_
        refine e_call (y := 130) (av := [.ref 3, .ref 1]) (rest := []) rfl (c_X6_copies_wg (d + 4) ) (fun r_78 h_78 p_78 => ?_)
        obtain ⟨g_78, rfl, rfl, q_78⟩ := p_78
        refine e_steps 0 (σ' := (81, [(0, .ref 0), (1, .int (nI cnt)), (2, .int (nI mo))], [], (MH g_78 kept was_12 isKept tape (nI 0) (nI ps3) (nI fd) ft3 rk paper written pairs above below isDone dist rowv rowMany lsz itm weakAbove weakBelow))) rfl ?_
        obtain ⟨ft, rfl, hft, hpts⟩ := (l4.resolve_left (fun q => by omega)).2
        · skip
          refine e_steps 4 (σ' := (88, [(0, .ref 0), (1, .int (nI cnt)), (2, .int (nI mo))], [.int ((((-nI 100)) - ((nI ft))))], (MH g_78 kept was_12 isKept tape (nI 0) (nI ps3) (nI fd) ((nI ft)) rk paper written pairs above below isDone dist rowv rowMany lsz itm weakAbove weakBelow))) rfl ?_
          exact e_ret rfl (trivial) (hR _ _ ⟨g_78, was_12, rk, ps3, (nI ft), ((((-nI 100)) - ((nI ft)))), rfl, rfl, (by first | exact ⟨a4.2.1, _, hco _ ⟨1, Or.inr ⟨vv, qq, _, a1, Or.inr ⟨bm3, cn3, pl3, a2, Or.inl ⟨by omega, rfl⟩⟩⟩⟩, Or.inr ⟨_, _, _, _, rfl, rfl, hG3⟩⟩ | exact ⟨l2, _, hpts, Or.inl ⟨ft, rfl, hft, rfl, z_GI_congr hG (fun i hi => (q_78 i hi).trans (q_12 i hi))⟩⟩)⟩)
      · skip
        rw [z0_eq (by omega)] at c_20
        refine e_steps 0 (σ' := (23, [(0, .ref 0), (1, .int (nI cnt)), (2, .int (nI mo))], [], (MH gl kept was_12 isKept tape (nI 0) (nI ps3) (nI fd) ft3 rk paper written pairs above below isDone dist rowv rowMany lsz itm weakAbove weakBelow))) rfl ?_
        obtain ⟨l5, rfl, bm2, cn2, pl2, hG2, hco⟩ := (l4.resolve_right (fun q => by omega)).2
        · skip
          refine e_steps 1 (σ' := (24, [(0, .ref 0), (1, .int (nI cnt)), (2, .int (nI mo))], [.ref 0], (MH gl kept was_12 isKept tape (nI 0) (nI ps3) (nI fd) ((-nI 1)) rk paper written pairs above below isDone dist rowv rowMany lsz itm weakAbove weakBelow))) rfl ?_
          refine e_call (y := 160) (av := [.ref 0]) (rest := []) rfl (c_X6_isPart (d + 0) (n := n) (outs := outs) (bm := bm2) (ms := ms) (dr := dr) (cn := cn2) (pl := pl2) (tp := tp) (by exact hG2) (by first | assumption | omega | rfl | trivial) (by first | assumption | omega | rfl | trivial) (by first | assumption | omega | rfl | trivial) (by first | assumption | omega | rfl | trivial)) (fun r_24 h_24 p_24 => ?_)
          obtain ⟨g_24, ranking_24, pos_24, flt_24, rfl, o_24⟩ := p_24
          rcases o_24 with ⟨rfl, o_24⟩ | ⟨rfl, o_24⟩
          · skip
            obtain ⟨vv, qq, bm3, cn3, pl3, a1, a2, hG3, a3⟩ := o_24; subst a3; have a4 := z_p1S_le hn8 l2 a1
            refine e_steps 1 (σ' := (28, [(2, .int (nI 1)), (0, .ref 0), (1, .int (nI cnt))], [], (MH g_24 kept was_12 isKept tape (nI 0) (nI pos_24) (nI fd) ((-nI 1)) ranking_24 paper written pairs above below isDone dist rowv rowMany lsz itm weakAbove weakBelow))) rfl ?_
            refine e_inc (n := 1) rfl rfl rfl (cnt + 1) (by rfl) [(1, .int (nI (cnt + 1))), (2, .int (nI 1)), (0, .ref 0)] rfl ?_
            refine e_steps 6 (σ' := (43, [(1, .int (nI (cnt + 1))), (2, .int (nI 1)), (0, .ref 0)], [.int (nI fd), .int (nI pos_24)], (MH g_24 kept was_12 isKept tape (nI 0) (nI pos_24) (nI fd) ((-nI 1)) ranking_24 paper written pairs above below isDone dist rowv rowMany lsz itm weakAbove weakBelow))) rfl ?_
            refine e_if (c := ¬ nI pos_24 = nI fd) rfl (fun c_43 => ?_) (fun c_43 => ?_)
            · skip
              rw [nI_eq (by omega) (by omega)] at c_43
              skip
              refine e_steps 4 (σ' := (55, [(1, .int (nI (cnt + 1))), (2, .int (nI 1)), (0, .ref 0)], [.int (nI 59), .ref 0], (MH g_24 kept was_12 isKept tape (nI 0) (nI pos_24) (nI fd) ((-nI 1)) ranking_24 paper written pairs above below isDone dist rowv rowMany lsz itm weakAbove weakBelow))) rfl ?_
              refine e_call (y := 154) (av := [.ref 0, .int (nI 59)]) (rest := []) rfl (c_X6_isSign (d + 3) (tp := tp) (by first | assumption | omega | rfl | trivial) (by first | assumption | omega | rfl | trivial) (by first | assumption | omega | rfl | trivial) (by first | assumption | omega | rfl | trivial) (by first | assumption | omega | rfl | trivial) (by first | assumption | omega | rfl | trivial)) (fun r_55 h_55 p_55 => ?_)
              obtain ⟨pos_55, flt_55, rfl, o_55⟩ := p_55
              rcases o_55 with ⟨rfl, o_55⟩ | ⟨rfl, o_55⟩
              · skip
                obtain ⟨⟨s1, s2⟩, s3, s4⟩ := o_55; replace s3 := s3.symm; subst s3; replace s4 := s4.symm; subst s4
                refine e_steps 5 (σ' := (19, [(2, .int (nI 1)), (1, .int (nI (cnt + 1))), (0, .ref 0)], [], (MH g_24 kept was_12 isKept tape (nI 0) (nI (pos_24 + 1)) (nI fd) ((-nI 1)) ranking_24 paper written pairs above below isDone dist rowv rowMany lsz itm weakAbove weakBelow))) rfl ?_
                refine e_sub [2, 1, 0] rfl ?_
                exact ih_19 (cnt + 1) 1 g_24 ranking_24 (pos_24 + 1) ((-nI 1)) (by first | exact z_me0 a4.1 c_20 hm_19 | omega) (by first | exact ⟨by omega, by omega, by omega, Or.inl ⟨rfl, by omega, rfl, bm3, cn3, pl3, hG3, fun R ⟨f, h⟩ => hco R ⟨f + 1, Or.inr ⟨vv, qq, _, a1, Or.inr ⟨bm3, cn3, pl3, a2, Or.inr (Or.inr ⟨⟨s1, s2⟩, h⟩)⟩⟩⟩⟩⟩ | exact ⟨by omega, by omega, by omega, Or.inr ⟨rfl, pos_24, rfl, by omega, hco _ ⟨1, Or.inr ⟨vv, qq, pos_24, a1, Or.inr ⟨bm3, cn3, pl3, a2, Or.inr (Or.inl ⟨by omega, s1, rfl⟩)⟩⟩⟩⟩⟩ | (rcases a2 with ⟨ft, b1, b2⟩ | ⟨v, q, p2, b1, b2, b3⟩; exact ⟨by omega, a3, by omega, Or.inr ⟨rfl, ft, b2, by have := z_p1F_le l2 b1; omega, hco _ ⟨1, Or.inl ⟨ft, b1, rfl⟩⟩⟩⟩; exact ⟨by omega, a3, by omega, Or.inr ⟨rfl, ps3, b3, by omega, hco _ ⟨1, Or.inr ⟨v, q, p2, b1, Or.inl ⟨b2, rfl⟩⟩⟩⟩⟩))
              · skip
                obtain ⟨s1, s3, s4⟩ := o_55; replace s3 := s3.symm; subst s3; replace s4 := s4.symm; subst s4
                refine e_steps 4 (σ' := (19, [(2, .int (nI 0)), (1, .int (nI (cnt + 1))), (0, .ref 0)], [], (MH g_24 kept was_12 isKept tape (nI 0) (nI pos_24) (nI fd) ((nI pos_24)) ranking_24 paper written pairs above below isDone dist rowv rowMany lsz itm weakAbove weakBelow))) rfl ?_
                refine e_sub [2, 1, 0] rfl ?_
                exact ih_19 (cnt + 1) 0 g_24 ranking_24 pos_24 ((nI pos_24)) (by first | exact z_me0 a4.1 c_20 hm_19 | omega) (by first | exact ⟨by omega, by omega, by omega, Or.inl ⟨rfl, by omega, rfl, bm3, cn3, pl3, hG3, fun R ⟨f, h⟩ => hco R ⟨f + 1, Or.inr ⟨vv, qq, _, a1, Or.inr ⟨bm3, cn3, pl3, a2, Or.inr (Or.inr ⟨⟨s1, s2⟩, h⟩)⟩⟩⟩⟩⟩ | exact ⟨by omega, by omega, by omega, Or.inr ⟨rfl, pos_24, rfl, by omega, hco _ ⟨1, Or.inr ⟨vv, qq, pos_24, a1, Or.inr ⟨bm3, cn3, pl3, a2, Or.inr (Or.inl ⟨by omega, s1, rfl⟩)⟩⟩⟩⟩⟩ | (rcases a2 with ⟨ft, b1, b2⟩ | ⟨v, q, p2, b1, b2, b3⟩; exact ⟨by omega, a3, by omega, Or.inr ⟨rfl, ft, b2, by have := z_p1F_le l2 b1; omega, hco _ ⟨1, Or.inl ⟨ft, b1, rfl⟩⟩⟩⟩; exact ⟨by omega, a3, by omega, Or.inr ⟨rfl, ps3, b3, by omega, hco _ ⟨1, Or.inr ⟨v, q, p2, b1, Or.inl ⟨b2, rfl⟩⟩⟩⟩⟩))
            · skip
              rw [nI_eq (by omega) (by omega)] at c_43
              replace c_43 := Decidable.not_not.mp c_43
              refine e_steps 1 (σ' := (47, [(1, .int (nI (cnt + 1))), (2, .int (nI 1)), (0, .ref 0)], [.int (nI (cnt + 1))], (MH g_24 kept was_12 isKept tape (nI 0) (nI pos_24) (nI fd) ((-nI 1)) ranking_24 paper written pairs above below isDone dist rowv rowMany lsz itm weakAbove weakBelow))) rfl ?_
              exact e_ret rfl (trivial) (hR _ _ ⟨g_24, was_12, ranking_24, pos_24, (-nI 1), (nI (cnt + 1)), rfl, rfl, (by exact ⟨a4.2.1, _, hco _ ⟨1, Or.inr ⟨vv, qq, _, a1, Or.inr ⟨bm3, cn3, pl3, a2, Or.inl ⟨by omega, rfl⟩⟩⟩⟩, Or.inr ⟨_, _, _, _, rfl, rfl, hG3⟩⟩)⟩)
          · skip
            obtain ⟨⟨a1, a2⟩, a4, a3⟩ := o_24
            refine e_steps 1 (σ' := (28, [(2, .int (nI 0)), (0, .ref 0), (1, .int (nI cnt))], [], (MH g_24 kept was_12 isKept tape (nI 0) (nI pos_24) (nI fd) flt_24 ranking_24 paper written pairs above below isDone dist rowv rowMany lsz itm weakAbove weakBelow))) rfl ?_
            refine e_inc (n := 1) rfl rfl rfl (cnt + 1) (by rfl) [(1, .int (nI (cnt + 1))), (2, .int (nI 0)), (0, .ref 0)] rfl ?_
            refine e_steps 7 (σ' := (19, [(2, .int (nI 0)), (1, .int (nI (cnt + 1))), (0, .ref 0)], [], (MH g_24 kept was_12 isKept tape (nI 0) (nI pos_24) (nI fd) flt_24 ranking_24 paper written pairs above below isDone dist rowv rowMany lsz itm weakAbove weakBelow))) rfl ?_
            refine e_sub [2, 1, 0] rfl ?_
            exact ih_19 (cnt + 1) 0 g_24 ranking_24 pos_24 flt_24 (by first | exact z_me0 a4.1 c_20 hm_19 | omega) (by first | exact ⟨by omega, by omega, by omega, Or.inl ⟨rfl, by omega, rfl, bm3, cn3, pl3, hG3, fun R ⟨f, h⟩ => hco R ⟨f + 1, Or.inr ⟨vv, qq, _, a1, Or.inr ⟨bm3, cn3, pl3, a2, Or.inr (Or.inr ⟨⟨s1, s2⟩, h⟩)⟩⟩⟩⟩⟩ | exact ⟨by omega, by omega, by omega, Or.inr ⟨rfl, pos_24, rfl, by omega, hco _ ⟨1, Or.inr ⟨vv, qq, pos_24, a1, Or.inr ⟨bm3, cn3, pl3, a2, Or.inr (Or.inl ⟨by omega, s1, rfl⟩)⟩⟩⟩⟩⟩ | (rcases a2 with ⟨ft, b1, b2⟩ | ⟨v, q, p2, b1, b2, b3⟩; exact ⟨by omega, a3, by omega, Or.inr ⟨rfl, ft, b2, by have := z_p1F_le l2 b1; omega, hco _ ⟨1, Or.inl ⟨ft, b1, rfl⟩⟩⟩⟩; exact ⟨by omega, a3, by omega, Or.inr ⟨rfl, ps3, b3, by omega, hco _ ⟨1, Or.inr ⟨v, q, p2, b1, Or.inl ⟨b2, rfl⟩⟩⟩⟩⟩))
  refine e_sub [2, 1, 0] rfl ?_
  exact loop_19 _ 0 1 g ranking 0 ((-nI 1)) (Nat.lt_succ_self _) (by exact ⟨by omega, by omega, by omega, Or.inl ⟨rfl, by omega, rfl, _, _, _, hG, fun R h => h⟩⟩)
theorem c_X6_find (d : Nat) {g : Nat → Int32} {kept : Nat → Int32} {was : Nat → Int32} {isKept : Int32} {tape : Nat → Int32} {fd : Nat} {ps : Nat} {tl : Nat} {flt : Int32} {ranking : Nat → Int32} {paper : Nat → Int32} {written : Int32} {pairs : Nat → Int64} {above : Nat → Int64} {below : Nat → Int64} {isDone : Nat → Int32} {dist : Nat → Int32} {rowv : Nat → Int32} {rowMany : Int32} {lsz : Nat → Int32} {itm : Nat → Int64} {weakAbove : Int64} {weakBelow : Int64} {n : Nat} {outs : Nat} {bm : Nat} {ms : Nat} {dr : Nat → Nat} {cn : Nat → Nat} {pl : Nat → Nat → Nat} {tp : Nat → Nat} (hG : z_GI g n outs bm ms dr cn pl) (hfd : fd ≤ 120) (hps : ps ≤ tl) (htl : tl ≤ 120) (htp : ∀ k, k < fd → tape k = nI (tp k) ∧ 1 ≤ tp k ∧ tp k ≤ 127) : z_CAL (d + 6) 166 [.ref 0] (MH g kept was isKept tape (nI fd) (nI ps) (nI tl) flt ranking paper written pairs above below isDone dist rowv rowMany lsz itm weakAbove weakBelow) (fun r h2 => ∃ (ranking2 : Nat → Int32) (ps2 : Nat) (ft2 : Int32) (v : Int32), r = some (.int v) ∧ h2 = (MH g kept was isKept tape (nI 0) (nI ps2) (nI fd) ft2 ranking2 paper written pairs above below isDone dist rowv rowMany lsz itm weakAbove weakBelow) ∧ (ps2 ≤ fd ∧ ((∃ b p q, z_rp n tp fd 8 0 0 (fun _ => 0) 0 = (b, p, q) ∧ (b = false ∨ p ≠ fd) ∧ p ≤ fd ∧ v = -nI 100 - nI p) ∨ ∃ q, z_rp n tp fd 8 0 0 (fun _ => 0) 0 = (true, fd, q) ∧ ((∃ b, b < bm ∧ z_same n pl q b ∧ (∀ x, x < b → ¬ z_same n pl q x) ∧ v = nI b) ∨ ((∀ x, x < bm → ¬ z_same n pl q x) ∧ v = -nI 5))))) := by
  refine e_of2 (q := zmX6_find) rfl rfl (fun R hR => ?_)
  obtain ⟨⟨hn0, hn2, hn8⟩, ⟨ho0, ho8, hin⟩, ⟨hb0, hb40⟩, ⟨hm0, hm4⟩, ⟨hdr, hdl, hdc⟩, hcn, hpl⟩ := id hG; have hp8 := z_p2 hn8; have ho256 : outs < 256 := (by omega); have hi256 : z_dif (2 ^ n - 1) outs < 256 := (by have := z_dif_le (s := 2 ^ n - 1) (t := outs); omega)
  refine e_steps 1 (σ' := (1, [(0, .ref 0)], [.ref 0], (MH g kept was isKept tape (nI fd) (nI ps) (nI tl) flt ranking paper written pairs above below isDone dist rowv rowMany lsz itm weakAbove weakBelow))) rfl ?_
  refine e_call (y := 150) (av := [.ref 0]) (rest := []) rfl (c_X6_reads (d + 4) (by first | assumption | omega | rfl | trivial) (by first | assumption | omega | rfl | trivial) (by first | assumption | omega | rfl | trivial)) (fun r_1 h_1 p_1 => ?_)
  obtain ⟨rfl, rfl⟩ := p_1
  refine e_steps 1 (σ' := (5, [(0, .ref 0)], [.ref 0], (MH g kept was isKept tape (nI 0) (nI 0) (nI fd) ((-nI 1)) ranking paper written pairs above below isDone dist rowv rowMany lsz itm weakAbove weakBelow))) rfl ?_
  refine e_call (y := 157) (av := [.ref 0]) (rest := []) rfl (c_X6_isWholeRanking (d + 0) (n := n) (outs := outs) (bm := bm) (ms := ms) (dr := dr) (cn := cn) (pl := pl) (tp := tp) (by first | assumption | omega | rfl | trivial) (by first | assumption | omega | rfl | trivial) (by first | assumption | omega | rfl | trivial) (by first | assumption | omega | rfl | trivial) (by first | assumption | omega | rfl | trivial)) (fun r_5 h_5 p_5 => ?_)
  obtain ⟨ranking_5, pos_5, flt_5, rfl, o_5⟩ := p_5
  rcases o_5 with ⟨rfl, o_5⟩ | ⟨rfl, o_5⟩
  · skip
    obtain ⟨q, w1, w2, w3, w4⟩ := o_5; replace w3 := w3.symm; subst w3; replace w4 := w4.symm; subst w4; have w5 := z_rp_ok hn8 w1 ⟨fun c _ hb => Bool.noConfusion ((Nat.zero_testBit c).symm.trans hb), fun x hx => absurd hx (Nat.not_lt_zero x)⟩
    refine e_steps 2 (σ' := (12, [(0, .ref 0)], [.ref 0], (MH g kept was isKept tape (nI 0) (nI fd) (nI fd) ((-nI 1)) ranking_5 paper written pairs above below isDone dist rowv rowMany lsz itm weakAbove weakBelow))) rfl ?_
    refine e_call (y := 158) (av := [.ref 0]) (rest := []) rfl (c_X6_ballotOfRanking (d + 3) (n := n) (outs := outs) (bm := bm) (ms := ms) (dr := dr) (cn := cn) (pl := pl) (q := q) (by first | assumption | omega | rfl | trivial) (by exact w2) (by exact w5.2.2)) (fun r_12 h_12 p_12 => ?_)
    obtain ⟨rfl, o_12⟩ := p_12
    rcases o_12 with ⟨bb_12, rfl, o_12⟩ | ⟨rfl, o_12⟩
    · skip
      refine e_steps 1 (σ' := (25, [(0, .ref 0)], [.int (nI bb_12)], (MH g kept was isKept tape (nI 0) (nI fd) (nI fd) ((-nI 1)) ranking_5 paper written pairs above below isDone dist rowv rowMany lsz itm weakAbove weakBelow))) rfl ?_
      exact e_ret rfl (trivial) (hR _ _ ⟨ranking_5, fd, (-nI 1), (nI bb_12), rfl, rfl, (by first | exact ⟨by omega, Or.inr ⟨q, w1, Or.inl ⟨bb_12, o_12.1, o_12.2.1, o_12.2.2, rfl⟩⟩⟩ | exact ⟨by omega, Or.inr ⟨q, w1, Or.inr ⟨o_12, rfl⟩⟩⟩ | exact ⟨by omega, Or.inl ⟨b, p, q, w1, w2, w3, rfl⟩⟩)⟩)
    · skip
      refine e_steps 1 (σ' := (25, [(0, .ref 0)], [.int ((-nI 5))], (MH g kept was isKept tape (nI 0) (nI fd) (nI fd) ((-nI 1)) ranking_5 paper written pairs above below isDone dist rowv rowMany lsz itm weakAbove weakBelow))) rfl ?_
      exact e_ret rfl (trivial) (hR _ _ ⟨ranking_5, fd, (-nI 1), ((-nI 5)), rfl, rfl, (by first | exact ⟨by omega, Or.inr ⟨q, w1, Or.inl ⟨bb_12, o_12.1, o_12.2.1, o_12.2.2, rfl⟩⟩⟩ | exact ⟨by omega, Or.inr ⟨q, w1, Or.inr ⟨o_12, rfl⟩⟩⟩ | exact ⟨by omega, Or.inl ⟨b, p, q, w1, w2, w3, rfl⟩⟩)⟩)
  · skip
    obtain ⟨b, p, q, w1, w2, w3, w4, w5⟩ := o_5; replace w4 := w4.symm; subst w4; replace w5 := w5.symm; subst w5
    refine e_steps 5 (σ' := (25, [(0, .ref 0)], [.int ((((-nI 100)) - ((nI p))))], (MH g kept was isKept tape (nI 0) (nI p) (nI fd) ((nI p)) ranking_5 paper written pairs above below isDone dist rowv rowMany lsz itm weakAbove weakBelow))) rfl ?_
    exact e_ret rfl (trivial) (hR _ _ ⟨ranking_5, p, (nI p), ((((-nI 100)) - ((nI p)))), rfl, rfl, (by exact ⟨by omega, Or.inl ⟨b, p, q, w1, w2, w3, rfl⟩⟩)⟩)
theorem c_X6_says (d : Nat) {g : Nat → Int32} {kept : Nat → Int32} {was : Nat → Int32} {isKept : Int32} {tape : Nat → Int32} {fed : Int32} {pos : Int32} {tlen : Int32} {flt : Int32} {ranking : Nat → Int32} {paper : Nat → Int32} {wr : Nat} {pairs : Nat → Int64} {above : Nat → Int64} {below : Nat → Int64} {isDone : Nat → Int32} {dist : Nat → Int32} {rowv : Nat → Int32} {rowMany : Int32} {lsz : Nat → Int32} {itm : Nat → Int64} {weakAbove : Int64} {weakBelow : Int64} {c : Int32} (hw : wr < 16) : z_CAL (d + 1) 167 [.ref 0, .int c] (MH g kept was isKept tape fed pos tlen flt ranking paper (nI wr) pairs above below isDone dist rowv rowMany lsz itm weakAbove weakBelow) (fun r h2 => ∃ (paper2 : Nat → Int32), r = none ∧ h2 = (MH g kept was isKept tape fed pos tlen flt ranking paper2 (nI (wr + 1)) pairs above below isDone dist rowv rowMany lsz itm weakAbove weakBelow) ∧ (paper2 = upd paper wr c)) := by
  refine e_of2 (q := zmX6_says) rfl rfl (fun R hR => ?_)
  refine e_steps 5 (σ' := (9, [(0, .ref 0), (1, .int c)], [.int c, .int (nI wr), .ref 6], (MH g kept was isKept tape fed pos tlen flt ranking paper (nI wr) pairs above below isDone dist rowv rowMany lsz itm weakAbove weakBelow))) rfl ?_
  refine e_ias (MH g kept was isKept tape fed pos tlen flt ranking (upd paper wr c) (nI wr) pairs above below isDone dist rowv rowMany lsz itm weakAbove weakBelow) rfl rfl (by first | assumption | omega | rfl | trivial) (by decide) rfl ?_
  refine e_steps 4 (σ' := (16, [(0, .ref 0), (1, .int c)], [.int (nI 1), .int (nI wr), .ref 0], (MH g kept was isKept tape fed pos tlen flt ranking (upd paper wr c) (nI wr) pairs above below isDone dist rowv rowMany lsz itm weakAbove weakBelow))) rfl ?_
  refine e_add (wr + 1) rfl (by first | rfl | omega) ?_
  refine e_steps 1 (σ' := (20, [(0, .ref 0), (1, .int c)], [], (MH g kept was isKept tape fed pos tlen flt ranking (upd paper wr c) (nI (wr + 1)) pairs above below isDone dist rowv rowMany lsz itm weakAbove weakBelow))) rfl ?_
  exact e_ret rfl (trivial) (hR _ _ ⟨upd paper wr c, rfl, rfl, (by rfl)⟩)
theorem c_X6_saysPlace (d : Nat) {g : Nat → Int32} {kept : Nat → Int32} {was : Nat → Int32} {isKept : Int32} {tape : Nat → Int32} {fed : Int32} {pos : Int32} {tlen : Int32} {flt : Int32} {ranking : Nat → Int32} {paper : Nat → Int32} {wr : Nat} {pairs : Nat → Int64} {above : Nat → Int64} {below : Nat → Int64} {isDone : Nat → Int32} {dist : Nat → Int32} {rowv : Nat → Int32} {rowMany : Int32} {lsz : Nat → Int32} {itm : Nat → Int64} {weakAbove : Int64} {weakBelow : Int64} {b : Nat} {place : Nat} {n : Nat} {outs : Nat} {bm : Nat} {ms : Nat} {dr : Nat → Nat} {cn : Nat → Nat} {pl : Nat → Nat → Nat} {L0 : List Nat} {M0 : List Nat} (hG : z_GI g n outs bm ms dr cn pl) (hb : b < bm) (hp : place < 9) (hPP : z_PP paper M0) (hM0 : M0 = L0 ++ (if L0 = [] then [] else [62])) (hwr : wr = M0.length) (hw : wr + (2 * z_ct n (fun c => decide (pl b c = place)) - 1) ≤ 16) : z_CAL (d + 2) 168 [.ref 0, .int (nI b), .int (nI place)] (MH g kept was isKept tape fed pos tlen flt ranking paper (nI wr) pairs above below isDone dist rowv rowMany lsz itm weakAbove weakBelow) (fun r h2 => ∃ (paper2 : Nat → Int32) (wr2 : Nat), r = none ∧ h2 = (MH g kept was isKept tape fed pos tlen flt ranking paper2 (nI wr2) pairs above below isDone dist rowv rowMany lsz itm weakAbove weakBelow) ∧ (wr2 = wr + (2 * z_ct n (fun c => decide (pl b c = place)) - 1) ∧ (0 < z_ct n (fun c => decide (pl b c = place)) → z_PP paper2 (z_sp1 (pl b) place n L0) ∧ wr2 = (z_sp1 (pl b) place n L0).length))) := by
  refine e_of2 (q := zmX6_saysPlace) rfl rfl (fun R hR => ?_)
  obtain ⟨⟨hn0, hn2, hn8⟩, ⟨ho0, ho8, hin⟩, ⟨hb0, hb40⟩, ⟨hm0, hm4⟩, ⟨hdr, hdl, hdc⟩, hcn, hpl⟩ := id hG; have hp8 := z_p2 hn8; have ho256 : outs < 256 := (by omega); have hi256 : z_dif (2 ^ n - 1) outs < 256 := (by have := z_dif_le (s := 2 ^ n - 1) (t := outs); omega)
  refine e_steps 4 (σ' := (5, [(4, .int (nI 0)), (3, .int (nI 1)), (0, .ref 0), (1, .int (nI b)), (2, .int (nI place))], [], (MH g kept was isKept tape fed pos tlen flt ranking paper (nI wr) pairs above below isDone dist rowv rowMany lsz itm weakAbove weakBelow))) rfl ?_
  have loop_5 : ∀ (z_5 : Nat) (fi : Nat) (c : Nat) (pp : Nat → Int32) (w2 : Nat) (M : List Nat), n - c < z_5 → (c ≤ n ∧ w2 = wr + (2 * z_ct c (fun c => decide (pl b c = place)) - 1) ∧ fi < 2 ∧ z_spq (pl b) place c fi L0 M ∧ z_PP pp M ∧ w2 = M.length) → z_EV (d + 1) zmX6_saysPlace R (5, [(0, .ref 0), (1, .int (nI b)), (2, .int (nI place)), (3, .int (nI fi)), (4, .int (nI c))], [], (MH g kept was isKept tape fed pos tlen flt ranking pp (nI w2) pairs above below isDone dist rowv rowMany lsz itm weakAbove weakBelow)) := by
    intro z_5
    induction z_5 with
    | zero => intro fi c pp w2 M hm_5 _; exact absurd hm_5 (Nat.not_lt_zero _)
    | succ z_5 ih_5 =>
      intro fi c pp w2 M hm_5 hi_5
      obtain ⟨l1, l2, l3, l4, l5, l6⟩ := hi_5
      refine e_steps 4 (σ' := (12, [(0, .ref 0), (1, .int (nI b)), (2, .int (nI place)), (3, .int (nI fi)), (4, .int (nI c))], [.int (nI 0), .ref 1, .int (nI c)], (MH g kept was isKept tape fed pos tlen flt ranking pp (nI w2) pairs above below isDone dist rowv rowMany lsz itm weakAbove weakBelow))) rfl ?_
      refine e_ial (nI n) rfl rfl (by first | assumption | omega | rfl | trivial) (by decide) (hn0) ?_
      refine e_steps 0 (σ' := (13, [(0, .ref 0), (1, .int (nI b)), (2, .int (nI place)), (3, .int (nI fi)), (4, .int (nI c))], [.int (nI n), .int (nI c)], (MH g kept was isKept tape fed pos tlen flt ranking pp (nI w2) pairs above below isDone dist rowv rowMany lsz itm weakAbove weakBelow))) rfl ?_
      refine e_if (c := nI n ≤ nI c) rfl (fun c_13 => ?_) (fun c_13 => ?_)
      · skip
        rw [nI_leI (by omega) (by omega)] at c_13
        refine e_steps 0 (σ' := (57, [(0, .ref 0), (1, .int (nI b)), (2, .int (nI place)), (3, .int (nI fi)), (4, .int (nI c))], [], (MH g kept was isKept tape fed pos tlen flt ranking pp (nI w2) pairs above below isDone dist rowv rowMany lsz itm weakAbove weakBelow))) rfl ?_
        exact e_ret rfl (trivial) (hR _ _ ⟨pp, w2, rfl, rfl, (by (have e : c = n := (by omega)); rw [e] at l2 l4; exact ⟨l2, fun h0 => by rcases l4 with q | q; omega; (rw [← q.2.2]; exact ⟨l5, l6⟩)⟩)⟩)
      · skip
        rw [nI_leI (by omega) (by omega)] at c_13
        refine e_steps 3 (σ' := (20, [(0, .ref 0), (1, .int (nI b)), (2, .int (nI place)), (3, .int (nI fi)), (4, .int (nI c))], [.int (nI c), .int (nI b), .ref 0], (MH g kept was isKept tape fed pos tlen flt ranking pp (nI w2) pairs above below isDone dist rowv rowMany lsz itm weakAbove weakBelow))) rfl ?_
        refine e_call (y := 139) (av := [.ref 0, .int (nI b), .int (nI c)]) (rest := []) rfl (c_X6_placeOf (d + 0) (n := n) (outs := outs) (bm := bm) (ms := ms) (dr := dr) (cn := cn) (pl := pl) (by first | assumption | omega | rfl | trivial) (by first | assumption | omega | rfl | trivial) (by first | assumption | omega | rfl | trivial)) (fun r_20 h_20 p_20 => ?_)
        obtain ⟨rfl, rfl⟩ := p_20
        refine e_steps 0 (σ' := (23, [(0, .ref 0), (1, .int (nI b)), (2, .int (nI place)), (3, .int (nI fi)), (4, .int (nI c))], [.int (nI (pl b c))], (MH g kept was isKept tape fed pos tlen flt ranking pp (nI w2) pairs above below isDone dist rowv rowMany lsz itm weakAbove weakBelow))) rfl ?_
        have hpb := (hpl b hb).2.1 c (by omega)
        refine e_steps 1 (σ' := (24, [(0, .ref 0), (1, .int (nI b)), (2, .int (nI place)), (3, .int (nI fi)), (4, .int (nI c))], [.int (nI place), .int (nI (pl b c))], (MH g kept was isKept tape fed pos tlen flt ranking pp (nI w2) pairs above below isDone dist rowv rowMany lsz itm weakAbove weakBelow))) rfl ?_
        refine e_if (c := nI (pl b c) = nI place) rfl (fun c_24 => ?_) (fun c_24 => ?_)
        · skip
          rw [nI_eq (by omega) (by omega)] at c_24
          have hk1 : z_ct (c + 1) (fun c => decide (pl b c = place)) = z_ct c (fun c => decide (pl b c = place)) + 1 := z_ct_T' (p := (fun c => decide (pl b c = place))) (i := c) (decide_eq_true c_24); have hk2 := z_ct_mono (fun c => decide (pl b c = place)) (m := c + 1) (n := n) (by omega)
          refine e_steps 1 (σ' := (31, [(0, .ref 0), (1, .int (nI b)), (2, .int (nI place)), (3, .int (nI fi)), (4, .int (nI c))], [.int (nI fi)], (MH g kept was isKept tape fed pos tlen flt ranking pp (nI w2) pairs above below isDone dist rowv rowMany lsz itm weakAbove weakBelow))) rfl ?_
          refine e_if (c := ¬ nI fi = 0) rfl (fun c_31 => ?_) (fun c_31 => ?_)
          · skip
            rw [z0_ne (by omega)] at c_31
            skip
            refine e_steps 3 (σ' := (45, [(0, .ref 0), (1, .int (nI b)), (2, .int (nI place)), (3, .int (nI fi)), (4, .int (nI c))], [.int (nI c), .int (nI 48), .ref 0], (MH g kept was isKept tape fed pos tlen flt ranking pp (nI w2) pairs above below isDone dist rowv rowMany lsz itm weakAbove weakBelow))) rfl ?_
            refine e_add (48 + c) rfl (by first | rfl | omega) ?_
            refine e_steps 0 (σ' := (46, [(0, .ref 0), (1, .int (nI b)), (2, .int (nI place)), (3, .int (nI fi)), (4, .int (nI c))], [.int (nI (48 + c)), .ref 0], (MH g kept was isKept tape fed pos tlen flt ranking pp (nI w2) pairs above below isDone dist rowv rowMany lsz itm weakAbove weakBelow))) rfl ?_
            refine e_call (y := 167) (av := [.ref 0, .int (nI (48 + c))]) (rest := []) rfl (c_X6_says (d + 0) (by rcases l4 with q | q; omega; (have := q.2.1; omega))) (fun r_46 h_46 p_46 => ?_)
            obtain ⟨paper_46, rfl, rfl, q_46⟩ := p_46
            refine e_steps 2 (σ' := (51, [(3, .int (nI 0)), (0, .ref 0), (1, .int (nI b)), (2, .int (nI place)), (4, .int (nI c))], [], (MH g kept was isKept tape fed pos tlen flt ranking paper_46 (nI (w2 + 1)) pairs above below isDone dist rowv rowMany lsz itm weakAbove weakBelow))) rfl ?_
            refine e_inc (n := 1) rfl rfl rfl (c + 1) (by rfl) [(4, .int (nI (c + 1))), (3, .int (nI 0)), (0, .ref 0), (1, .int (nI b)), (2, .int (nI place))] rfl ?_
            refine e_steps 1 (σ' := (5, [(4, .int (nI (c + 1))), (3, .int (nI 0)), (0, .ref 0), (1, .int (nI b)), (2, .int (nI place))], [], (MH g kept was isKept tape fed pos tlen flt ranking paper_46 (nI (w2 + 1)) pairs above below isDone dist rowv rowMany lsz itm weakAbove weakBelow))) rfl ?_
            refine e_sub [2, 3, 4, 1, 0] rfl ?_
            exact ih_5 0 (c + 1) paper_46 (w2 + 1) ((M ++ [48 + c])) (by omega) (by first | exact ⟨by omega, by omega, l3, z_spq_no l4 c_24, l5, l6⟩ | (have h0 : fi = 1 := (by omega); rw [h0] at l4; have h1 : z_ct c (fun c => decide (pl b c = place)) = 0 := (by rcases l4 with q | q; exact q.2.1; exact absurd q.1 (by decide)); exact ⟨by omega, by omega, by omega, z_spq_1 l4 c_24, by rw [q_46]; exact z_PP_push l5 l6, by simp only [List.length_append, List.length_singleton]; omega⟩))
          · skip
            rw [z0_ne (by omega)] at c_31
            replace c_31 := Decidable.not_not.mp c_31
            refine e_steps 2 (σ' := (37, [(0, .ref 0), (1, .int (nI b)), (2, .int (nI place)), (3, .int (nI fi)), (4, .int (nI c))], [.int (nI 61), .ref 0], (MH g kept was isKept tape fed pos tlen flt ranking pp (nI w2) pairs above below isDone dist rowv rowMany lsz itm weakAbove weakBelow))) rfl ?_
            refine e_call (y := 167) (av := [.ref 0, .int (nI 61)]) (rest := []) rfl (c_X6_says (d + 0) (by rcases l4 with q | q; omega; (have := q.2.1; omega))) (fun r_37 h_37 p_37 => ?_)
            obtain ⟨paper_37, rfl, rfl, q_37⟩ := p_37
            refine e_steps 3 (σ' := (45, [(0, .ref 0), (1, .int (nI b)), (2, .int (nI place)), (3, .int (nI fi)), (4, .int (nI c))], [.int (nI c), .int (nI 48), .ref 0], (MH g kept was isKept tape fed pos tlen flt ranking paper_37 (nI (w2 + 1)) pairs above below isDone dist rowv rowMany lsz itm weakAbove weakBelow))) rfl ?_
            refine e_add (48 + c) rfl (by first | rfl | omega) ?_
            refine e_steps 0 (σ' := (46, [(0, .ref 0), (1, .int (nI b)), (2, .int (nI place)), (3, .int (nI fi)), (4, .int (nI c))], [.int (nI (48 + c)), .ref 0], (MH g kept was isKept tape fed pos tlen flt ranking paper_37 (nI (w2 + 1)) pairs above below isDone dist rowv rowMany lsz itm weakAbove weakBelow))) rfl ?_
            refine e_call (y := 167) (av := [.ref 0, .int (nI (48 + c))]) (rest := []) rfl (c_X6_says (d + 0) (by rcases l4 with q | q; omega; (have := q.2.1; omega))) (fun r_46 h_46 p_46 => ?_)
            obtain ⟨paper_46, rfl, rfl, q_46⟩ := p_46
            refine e_steps 2 (σ' := (51, [(3, .int (nI 0)), (0, .ref 0), (1, .int (nI b)), (2, .int (nI place)), (4, .int (nI c))], [], (MH g kept was isKept tape fed pos tlen flt ranking paper_46 (nI ((w2 + 1) + 1)) pairs above below isDone dist rowv rowMany lsz itm weakAbove weakBelow))) rfl ?_
            refine e_inc (n := 1) rfl rfl rfl (c + 1) (by rfl) [(4, .int (nI (c + 1))), (3, .int (nI 0)), (0, .ref 0), (1, .int (nI b)), (2, .int (nI place))] rfl ?_
            refine e_steps 1 (σ' := (5, [(4, .int (nI (c + 1))), (3, .int (nI 0)), (0, .ref 0), (1, .int (nI b)), (2, .int (nI place))], [], (MH g kept was isKept tape fed pos tlen flt ranking paper_46 (nI ((w2 + 1) + 1)) pairs above below isDone dist rowv rowMany lsz itm weakAbove weakBelow))) rfl ?_
            refine e_sub [2, 3, 4, 1, 0] rfl ?_
            exact ih_5 0 (c + 1) paper_46 ((w2 + 1) + 1) ((M ++ [61] ++ [48 + c])) (by omega) (by first | exact ⟨by omega, by omega, l3, z_spq_no l4 c_24, l5, l6⟩ | (have h0 : fi = 0 := (by omega); rw [h0] at l4; have h1 : 0 < z_ct c (fun c => decide (pl b c = place)) := (by rcases l4 with q | q; exact absurd q.1 (by decide); exact q.2.1); exact ⟨by omega, by omega, by omega, z_spq_0 l4 c_24, by rw [q_46, q_37]; exact z_PP_push (z_PP_push l5 l6) (by rw [List.length_append, List.length_singleton]; omega), by simp only [List.length_append, List.length_singleton]; omega⟩) | (have h0 : fi = 1 := (by omega); rw [h0] at l4; have h1 : z_ct c (fun c => decide (pl b c = place)) = 0 := (by rcases l4 with q | q; exact q.2.1; exact absurd q.1 (by decide)); exact ⟨by omega, by omega, by omega, z_spq_1 l4 c_24, by rw [q_46]; exact z_PP_push l5 l6, by simp only [List.length_append, List.length_singleton]; omega⟩))
        · skip
          rw [nI_eq (by omega) (by omega)] at c_24
          have hk1 : z_ct (c + 1) (fun c => decide (pl b c = place)) = z_ct c (fun c => decide (pl b c = place)) := z_ct_F' (p := (fun c => decide (pl b c = place))) (i := c) (decide_eq_false c_24)
          refine e_steps 1 (σ' := (51, [(0, .ref 0), (1, .int (nI b)), (2, .int (nI place)), (3, .int (nI fi)), (4, .int (nI c))], [], (MH g kept was isKept tape fed pos tlen flt ranking pp (nI w2) pairs above below isDone dist rowv rowMany lsz itm weakAbove weakBelow))) rfl ?_
          refine e_inc (n := 1) rfl rfl rfl (c + 1) (by rfl) [(4, .int (nI (c + 1))), (0, .ref 0), (1, .int (nI b)), (2, .int (nI place)), (3, .int (nI fi))] rfl ?_
          refine e_steps 1 (σ' := (5, [(4, .int (nI (c + 1))), (0, .ref 0), (1, .int (nI b)), (2, .int (nI place)), (3, .int (nI fi))], [], (MH g kept was isKept tape fed pos tlen flt ranking pp (nI w2) pairs above below isDone dist rowv rowMany lsz itm weakAbove weakBelow))) rfl ?_
          refine e_sub [1, 2, 3, 4, 0] rfl ?_
          exact ih_5 fi (c + 1) pp w2 M (by omega) (by exact ⟨by omega, by omega, l3, z_spq_no l4 c_24, l5, l6⟩)
  refine e_sub [2, 3, 4, 1, 0] rfl ?_
  exact loop_5 _ 1 0 paper wr M0 (Nat.lt_succ_self _) (by exact ⟨by omega, rfl, by omega, Or.inl ⟨rfl, rfl, hM0⟩, hPP, hwr⟩)
theorem c_X6_spell (d : Nat) {g : Nat → Int32} {kept : Nat → Int32} {was : Nat → Int32} {isKept : Int32} {tape : Nat → Int32} {fed : Int32} {pos : Int32} {tlen : Int32} {flt : Int32} {ranking : Nat → Int32} {paper : Nat → Int32} {wr : Nat} {pairs : Nat → Int64} {above : Nat → Int64} {below : Nat → Int64} {isDone : Nat → Int32} {dist : Nat → Int32} {rowv : Nat → Int32} {rowMany : Int32} {lsz : Nat → Int32} {itm : Nat → Int64} {weakAbove : Int64} {weakBelow : Int64} {b : Int32} {n : Nat} {outs : Nat} {bm : Nat} {ms : Nat} {dr : Nat → Nat} {cn : Nat → Nat} {pl : Nat → Nat → Nat} (hG : z_GI g n outs bm ms dr cn pl) : z_CAL (d + 3) 169 [.ref 0, .int b] (MH g kept was isKept tape fed pos tlen flt ranking paper (nI wr) pairs above below isDone dist rowv rowMany lsz itm weakAbove weakBelow) (fun r h2 => ∃ (paper2 : Nat → Int32) (wr2 : Nat) (v : Int32), r = some (.int v) ∧ h2 = (MH g kept was isKept tape fed pos tlen flt ranking paper2 (nI wr2) pairs above below isDone dist rowv rowMany lsz itm weakAbove weakBelow) ∧ ((v = -nI 1 ∧ paper2 = paper ∧ wr2 = wr ∧ ¬ ∃ k, k < bm ∧ b = nI k) ∨ ∃ k, k < bm ∧ b = nI k ∧ z_PP paper2 (z_sp n (pl k) (max 1 (z_mx n (pl k)))) ∧ wr2 = (z_sp n (pl k) (max 1 (z_mx n (pl k)))).length ∧ wr2 ≤ 16 ∧ v = nI wr2)) := by
  refine e_of2 (q := zmX6_spell) rfl rfl (fun R hR => ?_)
  obtain ⟨⟨hn0, hn2, hn8⟩, ⟨ho0, ho8, hin⟩, ⟨hb0, hb40⟩, ⟨hm0, hm4⟩, ⟨hdr, hdl, hdc⟩, hcn, hpl⟩ := id hG; have hp8 := z_p2 hn8; have ho256 : outs < 256 := (by omega); have hi256 : z_dif (2 ^ n - 1) outs < 256 := (by have := z_dif_le (s := 2 ^ n - 1) (t := outs); omega)
  refine e_steps 2 (σ' := (2, [(0, .ref 0), (1, .int b)], [.int b, .ref 0], (MH g kept was isKept tape fed pos tlen flt ranking paper (nI wr) pairs above below isDone dist rowv rowMany lsz itm weakAbove weakBelow))) rfl ?_
  refine e_call (y := 138) (av := [.ref 0, .int b]) (rest := []) rfl (c_X6_isBallot (d + 0) (n := n) (outs := outs) (bm := bm) (ms := ms) (dr := dr) (cn := cn) (pl := pl) (by first | assumption | omega | rfl | trivial)) (fun r_2 h_2 p_2 => ?_)
  obtain ⟨rfl, o_2⟩ := p_2
  rcases o_2 with ⟨rfl, o_2⟩ | ⟨rfl, o_2⟩
  · skip
    obtain ⟨b_2, hb_2, eb_2⟩ := o_2
    subst eb_2
    have hmx8 : z_mx n (pl b_2) ≤ 8 := z_mx_le (fun i hi => by have := (hpl b_2 hb_2).2.1 i hi; omega)
    refine e_steps 7 (σ' := (18, [(0, .ref 0), (1, .int (nI b_2))], [.int (nI b_2), .ref 0, .int (nI 1)], (MH g kept was isKept tape fed pos tlen flt ranking paper (nI 0) pairs above below isDone dist rowv rowMany lsz itm weakAbove weakBelow))) rfl ?_
    refine e_call (y := 164) (av := [.ref 0, .int (nI b_2)]) (rest := [.int (nI 1)]) rfl (c_X6_places (d + 0) (n := n) (outs := outs) (bm := bm) (ms := ms) (dr := dr) (cn := cn) (pl := pl) (by first | assumption | omega | rfl | trivial) (by first | assumption | omega | rfl | trivial)) (fun r_18 h_18 p_18 => ?_)
    obtain ⟨rfl, rfl⟩ := p_18
    refine e_steps 1 (σ' := (22, [(0, .ref 0), (1, .int (nI b_2))], [.int (nI 1), .int (nI (z_mx n (pl b_2) + 1)), .int (nI 1)], (MH g kept was isKept tape fed pos tlen flt ranking paper (nI 0) pairs above below isDone dist rowv rowMany lsz itm weakAbove weakBelow))) rfl ?_
    refine e_sbt (z_mx n (pl b_2)) rfl (by first | assumption | omega | rfl | trivial) (by first | rfl | omega) ?_
    refine e_steps 0 (σ' := (23, [(0, .ref 0), (1, .int (nI b_2))], [.int (nI (z_mx n (pl b_2))), .int (nI 1)], (MH g kept was isKept tape fed pos tlen flt ranking paper (nI 0) pairs above below isDone dist rowv rowMany lsz itm weakAbove weakBelow))) rfl ?_
    refine e_call (y := 240) (av := [.int (nI 1), .int (nI (z_mx n (pl b_2)))]) (rest := []) rfl (c_J9_max_7cf53_N (d + 1) (by first | assumption | omega | rfl | trivial) (by first | assumption | omega | rfl | trivial)) (fun r_23 h_23 p_23 => ?_)
    obtain ⟨rfl, rfl⟩ := p_23
    refine e_steps 3 (σ' := (29, [(3, .int (nI 0)), (2, .int (nI (max 1 (z_mx n (pl b_2))))), (0, .ref 0), (1, .int (nI b_2))], [], (MH g kept was isKept tape fed pos tlen flt ranking paper (nI 0) pairs above below isDone dist rowv rowMany lsz itm weakAbove weakBelow))) rfl ?_
    have loop_29 : ∀ (z_29 : Nat) (p : Nat) (pp : Nat → Int32) (w2 : Nat), 9 - p < z_29 → (p ≤ max 1 (z_mx n (pl b_2) + 1 - 1) ∧ z_PP pp (z_sp n (pl b_2) p) ∧ w2 = (z_sp n (pl b_2) p).length) → z_EV (d + 2) zmX6_spell R (29, [(0, .ref 0), (1, .int (nI b_2)), (2, .int (nI (max 1 (z_mx n (pl b_2))))), (3, .int (nI p))], [], (MH g kept was isKept tape fed pos tlen flt ranking pp (nI w2) pairs above below isDone dist rowv rowMany lsz itm weakAbove weakBelow)) := by
      intro z_29
      induction z_29 with
      | zero => intro p pp w2 hm_29 _; exact absurd hm_29 (Nat.not_lt_zero _)
      | succ z_29 ih_29 =>
        intro p pp w2 hm_29 hi_29
        obtain ⟨l1, l2, l3⟩ := hi_29; have hk8 := z_ct_le (fun c => decide (pl b_2 c < p + 1)) n; have hk9 := z_ct_split (pl b_2) p n; have hln := z_sp_len hn2 (hpl b_2 hb_2).2 (p := p) (by omega); have hnl := z_sp_nil hn2 (hpl b_2 hb_2).2 (p := p) (by omega)
        refine e_steps 2 (σ' := (31, [(0, .ref 0), (1, .int (nI b_2)), (2, .int (nI (max 1 (z_mx n (pl b_2))))), (3, .int (nI p))], [.int (nI (max 1 (z_mx n (pl b_2)))), .int (nI p)], (MH g kept was isKept tape fed pos tlen flt ranking pp (nI w2) pairs above below isDone dist rowv rowMany lsz itm weakAbove weakBelow))) rfl ?_
        refine e_if (c := nI (max 1 (z_mx n (pl b_2))) ≤ nI p) rfl (fun c_31 => ?_) (fun c_31 => ?_)
        · skip
          rw [nI_leI (by omega) (by omega)] at c_31
          refine e_steps 2 (σ' := (60, [(0, .ref 0), (1, .int (nI b_2)), (2, .int (nI (max 1 (z_mx n (pl b_2))))), (3, .int (nI p))], [.int (nI w2)], (MH g kept was isKept tape fed pos tlen flt ranking pp (nI w2) pairs above below isDone dist rowv rowMany lsz itm weakAbove weakBelow))) rfl ?_
          exact e_ret rfl (trivial) (hR _ _ ⟨pp, w2, (nI w2), rfl, rfl, (by first | exact Or.inl ⟨rfl, rfl, rfl, o_2⟩ | (have ep : p = max 1 (z_mx n (pl b_2)) := (by omega); rw [ep] at l2 l3; exact Or.inr ⟨b_2, hb_2, rfl, l2, l3, by rw [← ep] at l3; omega, rfl⟩))⟩)
        · skip
          rw [nI_leI (by omega) (by omega)] at c_31
          have hK := z_ct_place hn2 (hpl b_2 hb_2).2 (p := p) (by omega); have hz0 : p = 0 → z_ct n (fun c => decide (pl b_2 c < p)) = 0 := (fun e => by subst e; exact z_ct_zero n)
          refine e_steps 1 (σ' := (35, [(0, .ref 0), (1, .int (nI b_2)), (2, .int (nI (max 1 (z_mx n (pl b_2))))), (3, .int (nI p))], [.int (nI p)], (MH g kept was isKept tape fed pos tlen flt ranking pp (nI w2) pairs above below isDone dist rowv rowMany lsz itm weakAbove weakBelow))) rfl ?_
          refine e_if (c := nI p ≤ 0) rfl (fun c_35 => ?_) (fun c_35 => ?_)
          · skip
            rw [z0_le (by omega)] at c_35
            refine e_steps 3 (σ' := (47, [(0, .ref 0), (1, .int (nI b_2)), (2, .int (nI (max 1 (z_mx n (pl b_2))))), (3, .int (nI p))], [.int (nI p), .int (nI b_2), .ref 0], (MH g kept was isKept tape fed pos tlen flt ranking pp (nI w2) pairs above below isDone dist rowv rowMany lsz itm weakAbove weakBelow))) rfl ?_
            refine e_call (y := 168) (av := [.ref 0, .int (nI b_2), .int (nI p)]) (rest := []) rfl (c_X6_saysPlace (d + 0) (n := n) (outs := outs) (bm := bm) (ms := ms) (dr := dr) (cn := cn) (pl := pl) (L0 := (z_sp n (pl b_2) p)) (M0 := (z_sp n (pl b_2) p)) (by first | assumption | omega | rfl | trivial) (by first | assumption | omega | rfl | trivial) (by first | assumption | omega | rfl | trivial) (by exact l2) (by first | (rw [if_neg (fun e => by have := hnl.mp e; omega)]) | (rw [if_pos (hnl.mpr (by omega)), List.append_nil])) (by first | (rw [List.length_append, List.length_singleton]; omega) | exact l3) (by omega)) (fun r_47 h_47 p_47 => ?_)
            obtain ⟨paper_47, written_47, rfl, rfl, q_47⟩ := p_47
            refine e_steps 0 (σ' := (50, [(0, .ref 0), (1, .int (nI b_2)), (2, .int (nI (max 1 (z_mx n (pl b_2))))), (3, .int (nI p))], [], (MH g kept was isKept tape fed pos tlen flt ranking paper_47 (nI written_47) pairs above below isDone dist rowv rowMany lsz itm weakAbove weakBelow))) rfl ?_
            refine e_inc (n := 1) rfl rfl rfl (p + 1) (by rfl) [(3, .int (nI (p + 1))), (0, .ref 0), (1, .int (nI b_2)), (2, .int (nI (max 1 (z_mx n (pl b_2)))))] rfl ?_
            refine e_steps 1 (σ' := (29, [(3, .int (nI (p + 1))), (0, .ref 0), (1, .int (nI b_2)), (2, .int (nI (max 1 (z_mx n (pl b_2)))))], [], (MH g kept was isKept tape fed pos tlen flt ranking paper_47 (nI written_47) pairs above below isDone dist rowv rowMany lsz itm weakAbove weakBelow))) rfl ?_
            refine e_sub [1, 2, 3, 0] rfl ?_
            exact ih_29 (p + 1) paper_47 written_47 (by omega) (by exact ⟨by omega, (q_47.2 hK).1, (q_47.2 hK).2⟩)
          · skip
            rw [z0_le (by omega)] at c_35
            refine e_steps 2 (σ' := (41, [(0, .ref 0), (1, .int (nI b_2)), (2, .int (nI (max 1 (z_mx n (pl b_2))))), (3, .int (nI p))], [.int (nI 62), .ref 0], (MH g kept was isKept tape fed pos tlen flt ranking pp (nI w2) pairs above below isDone dist rowv rowMany lsz itm weakAbove weakBelow))) rfl ?_
            refine e_call (y := 167) (av := [.ref 0, .int (nI 62)]) (rest := []) rfl (c_X6_says (d + 1) (by omega)) (fun r_41 h_41 p_41 => ?_)
            obtain ⟨paper_41, rfl, rfl, q_41⟩ := p_41
            refine e_steps 3 (σ' := (47, [(0, .ref 0), (1, .int (nI b_2)), (2, .int (nI (max 1 (z_mx n (pl b_2))))), (3, .int (nI p))], [.int (nI p), .int (nI b_2), .ref 0], (MH g kept was isKept tape fed pos tlen flt ranking paper_41 (nI (w2 + 1)) pairs above below isDone dist rowv rowMany lsz itm weakAbove weakBelow))) rfl ?_
            refine e_call (y := 168) (av := [.ref 0, .int (nI b_2), .int (nI p)]) (rest := []) rfl (c_X6_saysPlace (d + 0) (n := n) (outs := outs) (bm := bm) (ms := ms) (dr := dr) (cn := cn) (pl := pl) (L0 := (z_sp n (pl b_2) p)) (M0 := (z_sp n (pl b_2) p ++ [62])) (by first | assumption | omega | rfl | trivial) (by first | assumption | omega | rfl | trivial) (by first | assumption | omega | rfl | trivial) (by first | (rw [q_41]; exact z_PP_push l2 l3) | exact l2) (by first | (rw [if_neg (fun e => by have := hnl.mp e; omega)]) | (rw [if_pos (hnl.mpr (by omega)), List.append_nil])) (by first | (rw [List.length_append, List.length_singleton]; omega) | exact l3) (by omega)) (fun r_47 h_47 p_47 => ?_)
            obtain ⟨paper_47, written_47, rfl, rfl, q_47⟩ := p_47
            refine e_steps 0 (σ' := (50, [(0, .ref 0), (1, .int (nI b_2)), (2, .int (nI (max 1 (z_mx n (pl b_2))))), (3, .int (nI p))], [], (MH g kept was isKept tape fed pos tlen flt ranking paper_47 (nI written_47) pairs above below isDone dist rowv rowMany lsz itm weakAbove weakBelow))) rfl ?_
            refine e_inc (n := 1) rfl rfl rfl (p + 1) (by rfl) [(3, .int (nI (p + 1))), (0, .ref 0), (1, .int (nI b_2)), (2, .int (nI (max 1 (z_mx n (pl b_2)))))] rfl ?_
            refine e_steps 1 (σ' := (29, [(3, .int (nI (p + 1))), (0, .ref 0), (1, .int (nI b_2)), (2, .int (nI (max 1 (z_mx n (pl b_2)))))], [], (MH g kept was isKept tape fed pos tlen flt ranking paper_47 (nI written_47) pairs above below isDone dist rowv rowMany lsz itm weakAbove weakBelow))) rfl ?_
            refine e_sub [1, 2, 3, 0] rfl ?_
            exact ih_29 (p + 1) paper_47 written_47 (by omega) (by exact ⟨by omega, (q_47.2 hK).1, (q_47.2 hK).2⟩)
    refine e_sub [2, 3, 1, 0] rfl ?_
    exact loop_29 _ 0 paper 0 (Nat.lt_succ_self _) (by exact ⟨by omega, fun k hk => absurd hk (Nat.not_lt_zero k), rfl⟩)
  · skip
    refine e_steps 2 (σ' := (9, [(0, .ref 0), (1, .int b)], [.int ((-nI 1))], (MH g kept was isKept tape fed pos tlen flt ranking paper (nI wr) pairs above below isDone dist rowv rowMany lsz itm weakAbove weakBelow))) rfl ?_
    exact e_ret rfl (trivial) (hR _ _ ⟨paper, wr, ((-nI 1)), rfl, rfl, (by exact Or.inl ⟨rfl, rfl, rfl, o_2⟩)⟩)
theorem c_X6_paper (d : Nat) {g : Nat → Int32} {kept : Nat → Int32} {was : Nat → Int32} {isKept : Int32} {tape : Nat → Int32} {fed : Int32} {pos : Int32} {tlen : Int32} {flt : Int32} {ranking : Nat → Int32} {paper : Nat → Int32} {wr : Nat} {pairs : Nat → Int64} {above : Nat → Int64} {below : Nat → Int64} {isDone : Nat → Int32} {dist : Nat → Int32} {rowv : Nat → Int32} {rowMany : Int32} {lsz : Nat → Int32} {itm : Nat → Int64} {weakAbove : Int64} {weakBelow : Int64} {i : Int32} (hw : wr ≤ 16) : z_CAL (d + 2) 170 [.ref 0, .int i] (MH g kept was isKept tape fed pos tlen flt ranking paper (nI wr) pairs above below isDone dist rowv rowMany lsz itm weakAbove weakBelow) (fun r h2 => ∃ (v : Int32), r = some (.int v) ∧ h2 = (MH g kept was isKept tape fed pos tlen flt ranking paper (nI wr) pairs above below isDone dist rowv rowMany lsz itm weakAbove weakBelow) ∧ (((¬ ∃ q, q < wr ∧ i = nI q) ∧ v = -nI 1) ∨ ∃ q, q < wr ∧ i = nI q ∧ v = paper q)) := by
  refine e_of2 (q := zmX6_paper) rfl rfl (fun R hR => ?_)
  refine e_steps 8 (σ' := (10, [(0, .ref 0), (1, .int i)], [.long ((((nI wr) - (nI 1))).toInt64), .long (lN 0), .long i.toInt64], (MH g kept was isKept tape fed pos tlen flt ranking paper (nI wr) pairs above below isDone dist rowv rowMany lsz itm weakAbove weakBelow))) rfl ?_
  refine e_call (y := 129) (av := [.long i.toInt64, .long (lN 0), .long ((((nI wr) - (nI 1))).toInt64)]) (rest := []) rfl (c_X6_isIn (d + 0) ) (fun r_10 h_10 p_10 => ?_)
  obtain ⟨rfl, o_10⟩ := p_10
  rcases o_10 with ⟨rfl, o_10⟩ | ⟨rfl, o_10⟩
  · skip
    obtain ⟨ki, hki, ek⟩ := (z_in_nat1 (by omega)).mp o_10; subst ek
    refine e_steps 4 (σ' := (21, [(0, .ref 0), (1, .int (nI ki))], [.int (nI ki), .ref 6], (MH g kept was isKept tape fed pos tlen flt ranking paper (nI wr) pairs above below isDone dist rowv rowMany lsz itm weakAbove weakBelow))) rfl ?_
    refine e_ial (paper ki) rfl rfl (by first | assumption | omega | rfl | trivial) (by decide) (rfl) ?_
    refine e_steps 1 (σ' := (26, [(0, .ref 0), (1, .int (nI ki))], [.int ((paper ki))], (MH g kept was isKept tape fed pos tlen flt ranking paper (nI wr) pairs above below isDone dist rowv rowMany lsz itm weakAbove weakBelow))) rfl ?_
    exact e_ret rfl (trivial) (hR _ _ ⟨((paper ki)), rfl, rfl, (by first | exact Or.inr ⟨ki, hki, rfl, rfl⟩ | exact Or.inl ⟨fun h => o_10 ((z_in_nat1 (by omega)).mpr h), rfl⟩)⟩)
  · skip
    refine e_steps 2 (σ' := (26, [(0, .ref 0), (1, .int i)], [.int ((-nI 1))], (MH g kept was isKept tape fed pos tlen flt ranking paper (nI wr) pairs above below isDone dist rowv rowMany lsz itm weakAbove weakBelow))) rfl ?_
    exact e_ret rfl (trivial) (hR _ _ ⟨((-nI 1)), rfl, rfl, (by first | exact Or.inr ⟨ki, hki, rfl, rfl⟩ | exact Or.inl ⟨fun h => o_10 ((z_in_nat1 (by omega)).mpr h), rfl⟩)⟩)
theorem c_X6_remove (d : Nat) {g : Nat → Int32} {kept : Nat → Int32} {was : Nat → Int32} {isKept : Int32} {tape : Nat → Int32} {fed : Int32} {pos : Int32} {tlen : Int32} {flt : Int32} {ranking : Nat → Int32} {paper : Nat → Int32} {written : Int32} {pairs : Nat → Int64} {above : Nat → Int64} {below : Nat → Int64} {isDone : Nat → Int32} {dist : Nat → Int32} {rowv : Nat → Int32} {rowMany : Int32} {lsz : Nat → Int32} {itm : Nat → Int64} {weakAbove : Int64} {weakBelow : Int64} {b : Int32} {c : Int32} {n : Nat} {outs : Nat} {bm : Nat} {ms : Nat} {dr : Nat → Nat} {cn : Nat → Nat} {pl : Nat → Nat → Nat} (hG : z_GI g n outs bm ms dr cn pl) : z_CAL (d + 3) 163 [.ref 0, .int b, .int c] (MH g kept was isKept tape fed pos tlen flt ranking paper written pairs above below isDone dist rowv rowMany lsz itm weakAbove weakBelow) (fun r h2 => ∃ (g2 : Nat → Int32) (v : Int32), r = some (.int v) ∧ h2 = (MH g2 kept was isKept tape fed pos tlen flt ranking paper written pairs above below isDone dist rowv rowMany lsz itm weakAbove weakBelow) ∧ ((v = -nI 1 ∧ g2 = g ∧ ¬ ∃ k, k < bm ∧ b = nI k) ∨ ∃ k, k < bm ∧ b = nI k ∧ ((v = -nI 2 ∧ g2 = g ∧ ¬ ∃ q, 1 ≤ q ∧ q ≤ cn k ∧ c = nI q) ∨ ∃ q bm2 cn2 pl2, 1 ≤ q ∧ q ≤ cn k ∧ c = nI q ∧ v = nI (cn k - q) ∧ z_lesS bm cn pl k q bm2 cn2 pl2 ∧ z_GI g2 n outs bm2 ms dr cn2 pl2))) := by
  refine e_of2 (q := zmX6_remove) rfl rfl (fun R hR => ?_)
  obtain ⟨⟨hn0, hn2, hn8⟩, ⟨ho0, ho8, hin⟩, ⟨hb0, hb40⟩, ⟨hm0, hm4⟩, ⟨hdr, hdl, hdc⟩, hcn, hpl⟩ := id hG; have hp8 := z_p2 hn8; have ho256 : outs < 256 := (by omega); have hi256 : z_dif (2 ^ n - 1) outs < 256 := (by have := z_dif_le (s := 2 ^ n - 1) (t := outs); omega)
  refine e_steps 2 (σ' := (2, [(0, .ref 0), (1, .int b), (2, .int c)], [.int b, .ref 0], (MH g kept was isKept tape fed pos tlen flt ranking paper written pairs above below isDone dist rowv rowMany lsz itm weakAbove weakBelow))) rfl ?_
  refine e_call (y := 138) (av := [.ref 0, .int b]) (rest := []) rfl (c_X6_isBallot (d + 0) (n := n) (outs := outs) (bm := bm) (ms := ms) (dr := dr) (cn := cn) (pl := pl) (by first | assumption | omega | rfl | trivial)) (fun r_2 h_2 p_2 => ?_)
  obtain ⟨rfl, o_2⟩ := p_2
  rcases o_2 with ⟨rfl, o_2⟩ | ⟨rfl, o_2⟩
  · skip
    obtain ⟨b_2, hb_2, eb_2⟩ := o_2
    subst eb_2
    have hcb := hcn b_2 hb_2
    refine e_steps 8 (σ' := (20, [(0, .ref 0), (1, .int (nI b_2)), (2, .int c)], [.int (nI b_2), .int (nI 12), .ref 1, .long (lN 1), .long c.toInt64], (MH g kept was isKept tape fed pos tlen flt ranking paper written pairs above below isDone dist rowv rowMany lsz itm weakAbove weakBelow))) rfl ?_
    refine e_add (12 + b_2) rfl (by first | rfl | omega) ?_
    refine e_steps 0 (σ' := (21, [(0, .ref 0), (1, .int (nI b_2)), (2, .int c)], [.int (nI (12 + b_2)), .ref 1, .long (lN 1), .long c.toInt64], (MH g kept was isKept tape fed pos tlen flt ranking paper written pairs above below isDone dist rowv rowMany lsz itm weakAbove weakBelow))) rfl ?_
    refine e_ial (nI (cn b_2)) rfl rfl (by first | assumption | omega | rfl | trivial) (by decide) ((hcn _ (by omega)).1) ?_
    have hv_21 := (hcn b_2 (by omega)).2
    refine e_steps 0 (σ' := (22, [(0, .ref 0), (1, .int (nI b_2)), (2, .int c)], [.int (nI (cn b_2)), .long (lN 1), .long c.toInt64], (MH g kept was isKept tape fed pos tlen flt ranking paper written pairs above below isDone dist rowv rowMany lsz itm weakAbove weakBelow))) rfl ?_
    refine e_i2l rfl (by omega) ?_
    refine e_steps 0 (σ' := (23, [(0, .ref 0), (1, .int (nI b_2)), (2, .int c)], [.long (lN (cn b_2)), .long (lN 1), .long c.toInt64], (MH g kept was isKept tape fed pos tlen flt ranking paper written pairs above below isDone dist rowv rowMany lsz itm weakAbove weakBelow))) rfl ?_
    refine e_call (y := 129) (av := [.long c.toInt64, .long (lN 1), .long (lN (cn b_2))]) (rest := []) rfl (c_X6_isIn (d + 1) ) (fun r_23 h_23 p_23 => ?_)
    obtain ⟨rfl, o_23⟩ := p_23
    rcases o_23 with ⟨rfl, o_23⟩ | ⟨rfl, o_23⟩
    · skip
      obtain ⟨kc, hk1, hk2, ek⟩ := z_in_nat2 (by omega) o_23; subst ek
      refine e_steps 5 (σ' := (39, [(0, .ref 0), (1, .int (nI b_2)), (2, .int (nI kc))], [.int (nI b_2), .int (nI 12), .ref 1], (MH g kept was isKept tape fed pos tlen flt ranking paper written pairs above below isDone dist rowv rowMany lsz itm weakAbove weakBelow))) rfl ?_
      refine e_add (12 + b_2) rfl (by first | rfl | omega) ?_
      refine e_steps 1 (σ' := (41, [(0, .ref 0), (1, .int (nI b_2)), (2, .int (nI kc))], [.int (nI (12 + b_2)), .ref 1, .int (nI (12 + b_2)), .ref 1], (MH g kept was isKept tape fed pos tlen flt ranking paper written pairs above below isDone dist rowv rowMany lsz itm weakAbove weakBelow))) rfl ?_
      refine e_ial (nI (cn b_2)) rfl rfl (by first | assumption | omega | rfl | trivial) (by decide) ((hcn _ (by omega)).1) ?_
      have hv_41 := (hcn b_2 (by omega)).2
      refine e_steps 1 (σ' := (43, [(0, .ref 0), (1, .int (nI b_2)), (2, .int (nI kc))], [.int (nI kc), .int (nI (cn b_2)), .int (nI (12 + b_2)), .ref 1], (MH g kept was isKept tape fed pos tlen flt ranking paper written pairs above below isDone dist rowv rowMany lsz itm weakAbove weakBelow))) rfl ?_
      refine e_sbt ((cn b_2) - kc) rfl (by first | assumption | omega | rfl | trivial) (by first | rfl | omega) ?_
      refine e_steps 0 (σ' := (44, [(0, .ref 0), (1, .int (nI b_2)), (2, .int (nI kc))], [.int (nI ((cn b_2) - kc)), .int (nI (12 + b_2)), .ref 1], (MH g kept was isKept tape fed pos tlen flt ranking paper written pairs above below isDone dist rowv rowMany lsz itm weakAbove weakBelow))) rfl ?_
      refine e_ias (MH (upd g (12 + b_2) (nI ((cn b_2) - kc))) kept was isKept tape fed pos tlen flt ranking paper written pairs above below isDone dist rowv rowMany lsz itm weakAbove weakBelow) rfl rfl (by first | assumption | omega | rfl | trivial) (by decide) rfl ?_
      refine e_steps 4 (σ' := (52, [(0, .ref 0), (1, .int (nI b_2)), (2, .int (nI kc))], [.int (nI b_2), .int (nI 12), .ref 1], (MH (upd g (12 + b_2) (nI ((cn b_2) - kc))) kept was isKept tape fed pos tlen flt ranking paper written pairs above below isDone dist rowv rowMany lsz itm weakAbove weakBelow))) rfl ?_
      refine e_add (12 + b_2) rfl (by first | rfl | omega) ?_
      refine e_steps 0 (σ' := (53, [(0, .ref 0), (1, .int (nI b_2)), (2, .int (nI kc))], [.int (nI (12 + b_2)), .ref 1], (MH (upd g (12 + b_2) (nI ((cn b_2) - kc))) kept was isKept tape fed pos tlen flt ranking paper written pairs above below isDone dist rowv rowMany lsz itm weakAbove weakBelow))) rfl ?_
      refine e_ial (nI (cn b_2 - kc)) rfl rfl (by first | assumption | omega | rfl | trivial) (by decide) (pk_us) ?_
      refine e_steps 2 (σ' := (56, [(3, .int (nI (cn b_2 - kc))), (0, .ref 0), (1, .int (nI b_2)), (2, .int (nI kc))], [.int (nI (cn b_2 - kc))], (MH (upd g (12 + b_2) (nI ((cn b_2) - kc))) kept was isKept tape fed pos tlen flt ranking paper written pairs above below isDone dist rowv rowMany lsz itm weakAbove weakBelow))) rfl ?_
      refine e_if (c := ¬ nI (cn b_2 - kc) = 0) rfl (fun c_56 => ?_) (fun c_56 => ?_)
      · skip
        rw [z0_ne (by omega)] at c_56
        skip
        refine e_steps 1 (σ' := (65, [(3, .int (nI (cn b_2 - kc))), (0, .ref 0), (1, .int (nI b_2)), (2, .int (nI kc))], [.int (nI (cn b_2 - kc))], (MH (upd g (12 + b_2) (nI ((cn b_2) - kc))) kept was isKept tape fed pos tlen flt ranking paper written pairs above below isDone dist rowv rowMany lsz itm weakAbove weakBelow))) rfl ?_
        exact e_ret rfl (trivial) (hR _ _ ⟨upd g (12 + b_2) (nI ((cn b_2) - kc)), (nI (cn b_2 - kc)), rfl, rfl, (by first | exact Or.inl ⟨rfl, rfl, o_2⟩ | exact Or.inr ⟨_, hb_2, rfl, Or.inr ⟨kc, _, _, _, hk1, hk2, rfl, rfl, Or.inl ⟨by omega, rfl, rfl, rfl⟩, z_GI_cn hG hb_2 (by omega) (by omega)⟩⟩ | exact Or.inr ⟨_, hb_2, rfl, Or.inl ⟨rfl, rfl, fun ⟨q, h1, h2, h3⟩ => o_23 (by rw [h3]; exact z_nat_in2 (by omega) h1 h2)⟩⟩)⟩)
      · skip
        rw [z0_ne (by omega)] at c_56
        replace c_56 := Decidable.not_not.mp c_56
        refine e_steps 2 (σ' := (61, [(3, .int (nI (cn b_2 - kc))), (0, .ref 0), (1, .int (nI b_2)), (2, .int (nI kc))], [.int (nI b_2), .ref 0], (MH (upd g (12 + b_2) (nI ((cn b_2) - kc))) kept was isKept tape fed pos tlen flt ranking paper written pairs above below isDone dist rowv rowMany lsz itm weakAbove weakBelow))) rfl ?_
        refine e_call (y := 162) (av := [.ref 0, .int (nI b_2)]) (rest := []) rfl (c_X6_goes (d + 1) (n := n) (outs := outs) (bm := bm) (ms := ms) (dr := dr) (cn := cn) (pl := pl) (g := g) (by first | assumption | omega | rfl | trivial) (by first | assumption | omega | rfl | trivial) (by exact fun i hi => z_un hi)) (fun r_61 h_61 p_61 => ?_)
        obtain ⟨g_61, rfl, rfl, q_61⟩ := p_61
        refine e_steps 1 (σ' := (65, [(3, .int (nI (cn b_2 - kc))), (0, .ref 0), (1, .int (nI b_2)), (2, .int (nI kc))], [.int (nI (cn b_2 - kc))], (MH g_61 kept was isKept tape fed pos tlen flt ranking paper written pairs above below isDone dist rowv rowMany lsz itm weakAbove weakBelow))) rfl ?_
        exact e_ret rfl (trivial) (hR _ _ ⟨g_61, (nI (cn b_2 - kc)), rfl, rfl, (by first | exact Or.inl ⟨rfl, rfl, o_2⟩ | exact Or.inr ⟨_, hb_2, rfl, Or.inr ⟨kc, _, _, _, hk1, hk2, rfl, rfl, Or.inr ⟨by omega, rfl, rfl, rfl⟩, q_61⟩⟩ | exact Or.inr ⟨_, hb_2, rfl, Or.inr ⟨kc, _, _, _, hk1, hk2, rfl, rfl, Or.inl ⟨by omega, rfl, rfl, rfl⟩, z_GI_cn hG hb_2 (by omega) (by omega)⟩⟩ | exact Or.inr ⟨_, hb_2, rfl, Or.inl ⟨rfl, rfl, fun ⟨q, h1, h2, h3⟩ => o_23 (by rw [h3]; exact z_nat_in2 (by omega) h1 h2)⟩⟩)⟩)
    · skip
      refine e_steps 2 (σ' := (31, [(0, .ref 0), (1, .int (nI b_2)), (2, .int c)], [.int ((-nI 2))], (MH g kept was isKept tape fed pos tlen flt ranking paper written pairs above below isDone dist rowv rowMany lsz itm weakAbove weakBelow))) rfl ?_
      exact e_ret rfl (trivial) (hR _ _ ⟨g, ((-nI 2)), rfl, rfl, (by first | exact Or.inl ⟨rfl, rfl, o_2⟩ | exact Or.inr ⟨_, hb_2, rfl, Or.inr ⟨kc, _, _, _, hk1, hk2, rfl, rfl, Or.inl ⟨by omega, rfl, rfl, rfl⟩, z_GI_cn hG hb_2 (by omega) (by omega)⟩⟩ | exact Or.inr ⟨_, hb_2, rfl, Or.inl ⟨rfl, rfl, fun ⟨q, h1, h2, h3⟩ => o_23 (by rw [h3]; exact z_nat_in2 (by omega) h1 h2)⟩⟩)⟩)
  · skip
    refine e_steps 2 (σ' := (9, [(0, .ref 0), (1, .int b), (2, .int c)], [.int ((-nI 1))], (MH g kept was isKept tape fed pos tlen flt ranking paper written pairs above below isDone dist rowv rowMany lsz itm weakAbove weakBelow))) rfl ?_
    exact e_ret rfl (trivial) (hR _ _ ⟨g, ((-nI 1)), rfl, rfl, (by exact Or.inl ⟨rfl, rfl, o_2⟩)⟩)
theorem c_X6_ballot (d : Nat) {g : Nat → Int32} {kept : Nat → Int32} {was : Nat → Int32} {isKept : Int32} {tape : Nat → Int32} {fed : Int32} {pos : Int32} {tlen : Int32} {flt : Int32} {ranking : Nat → Int32} {paper : Nat → Int32} {written : Int32} {pairs : Nat → Int64} {above : Nat → Int64} {below : Nat → Int64} {isDone : Nat → Int32} {dist : Nat → Int32} {rowv : Nat → Int32} {rowMany : Int32} {lsz : Nat → Int32} {itm : Nat → Int64} {weakAbove : Int64} {weakBelow : Int64} {b : Int32} {what : Int32} {n : Nat} {outs : Nat} {bm : Nat} {ms : Nat} {dr : Nat → Nat} {cn : Nat → Nat} {pl : Nat → Nat → Nat} (hG : z_GI g n outs bm ms dr cn pl) : z_CAL (d + 3) 165 [.ref 0, .int b, .int what] (MH g kept was isKept tape fed pos tlen flt ranking paper written pairs above below isDone dist rowv rowMany lsz itm weakAbove weakBelow) (fun r h2 => ∃ (v : Int32), r = some (.int v) ∧ h2 = (MH g kept was isKept tape fed pos tlen flt ranking paper written pairs above below isDone dist rowv rowMany lsz itm weakAbove weakBelow) ∧ ((v = -nI 1 ∧ ¬ ∃ k w, k < bm ∧ b = nI k ∧ what = nI w ∧ (w ≤ 1 ∨ (10 ≤ w ∧ w < 10 + n))) ∨ ∃ k w, k < bm ∧ b = nI k ∧ what = nI w ∧ ((w = 0 ∧ v = nI (cn k)) ∨ (w = 1 ∧ v = nI (z_mx n (pl k) + 1)) ∨ (10 ≤ w ∧ w < 10 + n ∧ v = nI (pl k (w - 10)))))) := by
  refine e_of2 (q := zmX6_ballot) rfl rfl (fun R hR => ?_)
  obtain ⟨⟨hn0, hn2, hn8⟩, ⟨ho0, ho8, hin⟩, ⟨hb0, hb40⟩, ⟨hm0, hm4⟩, ⟨hdr, hdl, hdc⟩, hcn, hpl⟩ := id hG; have hp8 := z_p2 hn8; have ho256 : outs < 256 := (by omega); have hi256 : z_dif (2 ^ n - 1) outs < 256 := (by have := z_dif_le (s := 2 ^ n - 1) (t := outs); omega)
  refine e_steps 2 (σ' := (2, [(0, .ref 0), (1, .int b), (2, .int what)], [.int b, .ref 0], (MH g kept was isKept tape fed pos tlen flt ranking paper written pairs above below isDone dist rowv rowMany lsz itm weakAbove weakBelow))) rfl ?_
  refine e_call (y := 138) (av := [.ref 0, .int b]) (rest := []) rfl (c_X6_isBallot (d + 0) (n := n) (outs := outs) (bm := bm) (ms := ms) (dr := dr) (cn := cn) (pl := pl) (by first | assumption | omega | rfl | trivial)) (fun r_2 h_2 p_2 => ?_)
  obtain ⟨rfl, o_2⟩ := p_2
  rcases o_2 with ⟨rfl, o_2⟩ | ⟨rfl, o_2⟩
  · skip
    obtain ⟨b_2, hb_2, eb_2⟩ := o_2
    subst eb_2
    refine e_steps 5 (σ' := (14, [(0, .ref 0), (1, .int (nI b_2)), (2, .int what)], [.long (lN 1), .long (lN 0), .long what.toInt64], (MH g kept was isKept tape fed pos tlen flt ranking paper written pairs above below isDone dist rowv rowMany lsz itm weakAbove weakBelow))) rfl ?_
    refine e_call (y := 129) (av := [.long what.toInt64, .long (lN 0), .long (lN 1)]) (rest := []) rfl (c_X6_isIn (d + 1) ) (fun r_14 h_14 p_14 => ?_)
    obtain ⟨rfl, o_14⟩ := p_14
    rcases o_14 with ⟨rfl, o_14⟩ | ⟨rfl, o_14⟩
    · skip
      obtain ⟨kw, hk2, ek⟩ := z_in_nat (by omega) o_14; subst ek
      refine e_steps 2 (σ' := (21, [(0, .ref 0), (1, .int (nI b_2)), (2, .int (nI kw))], [.int (nI kw)], (MH g kept was isKept tape fed pos tlen flt ranking paper written pairs above below isDone dist rowv rowMany lsz itm weakAbove weakBelow))) rfl ?_
      refine e_if (c := ¬ nI kw = 0) rfl (fun c_21 => ?_) (fun c_21 => ?_)
      · skip
        rw [z0_ne (by omega)] at c_21
        skip
        refine e_steps 2 (σ' := (38, [(0, .ref 0), (1, .int (nI b_2)), (2, .int (nI kw))], [.int (nI b_2), .ref 0], (MH g kept was isKept tape fed pos tlen flt ranking paper written pairs above below isDone dist rowv rowMany lsz itm weakAbove weakBelow))) rfl ?_
        refine e_call (y := 164) (av := [.ref 0, .int (nI b_2)]) (rest := []) rfl (c_X6_places (d + 0) (n := n) (outs := outs) (bm := bm) (ms := ms) (dr := dr) (cn := cn) (pl := pl) (by first | assumption | omega | rfl | trivial) (by first | assumption | omega | rfl | trivial)) (fun r_38 h_38 p_38 => ?_)
        obtain ⟨rfl, rfl⟩ := p_38
        refine e_steps 0 (σ' := (41, [(0, .ref 0), (1, .int (nI b_2)), (2, .int (nI kw))], [.int (nI (z_mx n (pl b_2) + 1))], (MH g kept was isKept tape fed pos tlen flt ranking paper written pairs above below isDone dist rowv rowMany lsz itm weakAbove weakBelow))) rfl ?_
        exact e_ret rfl (trivial) (hR _ _ ⟨(nI (z_mx n (pl b_2) + 1)), rfl, rfl, (by first | exact Or.inl ⟨rfl, fun ⟨k, w, h1, h2, h3, h4⟩ => o_2 ⟨k, h1, h2⟩⟩ | exact Or.inr ⟨_, kw, hb_2, rfl, rfl, Or.inl ⟨by omega, rfl⟩⟩ | exact Or.inr ⟨_, kw, hb_2, rfl, rfl, Or.inr (Or.inl ⟨by omega, rfl⟩)⟩ | exact Or.inr ⟨_, kx, hb_2, rfl, rfl, Or.inr (Or.inr ⟨by omega, by omega, rfl⟩)⟩)⟩)
      · skip
        rw [z0_ne (by omega)] at c_21
        replace c_21 := Decidable.not_not.mp c_21
        refine e_steps 4 (σ' := (31, [(0, .ref 0), (1, .int (nI b_2)), (2, .int (nI kw))], [.int (nI b_2), .int (nI 12), .ref 1], (MH g kept was isKept tape fed pos tlen flt ranking paper written pairs above below isDone dist rowv rowMany lsz itm weakAbove weakBelow))) rfl ?_
        refine e_add (12 + b_2) rfl (by first | rfl | omega) ?_
        refine e_steps 0 (σ' := (32, [(0, .ref 0), (1, .int (nI b_2)), (2, .int (nI kw))], [.int (nI (12 + b_2)), .ref 1], (MH g kept was isKept tape fed pos tlen flt ranking paper written pairs above below isDone dist rowv rowMany lsz itm weakAbove weakBelow))) rfl ?_
        refine e_ial (nI (cn b_2)) rfl rfl (by first | assumption | omega | rfl | trivial) (by decide) ((hcn _ (by omega)).1) ?_
        have hv_32 := (hcn b_2 (by omega)).2
        refine e_steps 1 (σ' := (41, [(0, .ref 0), (1, .int (nI b_2)), (2, .int (nI kw))], [.int (nI (cn b_2))], (MH g kept was isKept tape fed pos tlen flt ranking paper written pairs above below isDone dist rowv rowMany lsz itm weakAbove weakBelow))) rfl ?_
        exact e_ret rfl (trivial) (hR _ _ ⟨(nI (cn b_2)), rfl, rfl, (by first | exact Or.inl ⟨rfl, fun ⟨k, w, h1, h2, h3, h4⟩ => o_2 ⟨k, h1, h2⟩⟩ | exact Or.inr ⟨_, kw, hb_2, rfl, rfl, Or.inl ⟨by omega, rfl⟩⟩ | exact Or.inr ⟨_, kw, hb_2, rfl, rfl, Or.inr (Or.inl ⟨by omega, rfl⟩)⟩ | exact Or.inr ⟨_, kx, hb_2, rfl, rfl, Or.inr (Or.inr ⟨by omega, by omega, rfl⟩)⟩)⟩)
    · skip
      refine e_steps 8 (σ' := (54, [(0, .ref 0), (1, .int (nI b_2)), (2, .int what)], [.int (nI 0), .ref 1, .int (nI 9), .long (lN 10), .long what.toInt64], (MH g kept was isKept tape fed pos tlen flt ranking paper written pairs above below isDone dist rowv rowMany lsz itm weakAbove weakBelow))) rfl ?_
      refine e_ial (nI n) rfl rfl (by first | assumption | omega | rfl | trivial) (by decide) (hn0) ?_
      refine e_steps 0 (σ' := (55, [(0, .ref 0), (1, .int (nI b_2)), (2, .int what)], [.int (nI n), .int (nI 9), .long (lN 10), .long what.toInt64], (MH g kept was isKept tape fed pos tlen flt ranking paper written pairs above below isDone dist rowv rowMany lsz itm weakAbove weakBelow))) rfl ?_
      refine e_add (9 + n) rfl (by first | rfl | omega) ?_
      refine e_steps 0 (σ' := (56, [(0, .ref 0), (1, .int (nI b_2)), (2, .int what)], [.int (nI (9 + n)), .long (lN 10), .long what.toInt64], (MH g kept was isKept tape fed pos tlen flt ranking paper written pairs above below isDone dist rowv rowMany lsz itm weakAbove weakBelow))) rfl ?_
      refine e_i2l rfl (by omega) ?_
      refine e_steps 0 (σ' := (57, [(0, .ref 0), (1, .int (nI b_2)), (2, .int what)], [.long (lN (9 + n)), .long (lN 10), .long what.toInt64], (MH g kept was isKept tape fed pos tlen flt ranking paper written pairs above below isDone dist rowv rowMany lsz itm weakAbove weakBelow))) rfl ?_
      refine e_call (y := 129) (av := [.long what.toInt64, .long (lN 10), .long (lN (9 + n))]) (rest := []) rfl (c_X6_isIn (d + 1) ) (fun r_57 h_57 p_57 => ?_)
      obtain ⟨rfl, o_57⟩ := p_57
      rcases o_57 with ⟨rfl, o_57⟩ | ⟨rfl, o_57⟩
      · skip
        obtain ⟨kx, hx1, hx2, ek⟩ := z_in_nat2 (by omega) o_57; subst ek
        refine e_steps 5 (σ' := (68, [(0, .ref 0), (1, .int (nI b_2)), (2, .int (nI kx))], [.int (nI 10), .int (nI kx), .int (nI b_2), .ref 0], (MH g kept was isKept tape fed pos tlen flt ranking paper written pairs above below isDone dist rowv rowMany lsz itm weakAbove weakBelow))) rfl ?_
        refine e_sbt (kx - 10) rfl (by first | assumption | omega | rfl | trivial) (by first | rfl | omega) ?_
        refine e_steps 0 (σ' := (69, [(0, .ref 0), (1, .int (nI b_2)), (2, .int (nI kx))], [.int (nI (kx - 10)), .int (nI b_2), .ref 0], (MH g kept was isKept tape fed pos tlen flt ranking paper written pairs above below isDone dist rowv rowMany lsz itm weakAbove weakBelow))) rfl ?_
        refine e_call (y := 139) (av := [.ref 0, .int (nI b_2), .int (nI (kx - 10))]) (rest := []) rfl (c_X6_placeOf (d + 1) (n := n) (outs := outs) (bm := bm) (ms := ms) (dr := dr) (cn := cn) (pl := pl) (by first | assumption | omega | rfl | trivial) (by first | assumption | omega | rfl | trivial) (by first | assumption | omega | rfl | trivial)) (fun r_69 h_69 p_69 => ?_)
        obtain ⟨rfl, rfl⟩ := p_69
        refine e_steps 1 (σ' := (76, [(0, .ref 0), (1, .int (nI b_2)), (2, .int (nI kx))], [.int (nI (pl b_2 (kx - 10)))], (MH g kept was isKept tape fed pos tlen flt ranking paper written pairs above below isDone dist rowv rowMany lsz itm weakAbove weakBelow))) rfl ?_
        exact e_ret rfl (trivial) (hR _ _ ⟨(nI (pl b_2 (kx - 10))), rfl, rfl, (by first | exact Or.inl ⟨rfl, fun ⟨k, w, h1, h2, h3, h4⟩ => o_2 ⟨k, h1, h2⟩⟩ | exact Or.inr ⟨_, kw, hb_2, rfl, rfl, Or.inl ⟨by omega, rfl⟩⟩ | exact Or.inr ⟨_, kw, hb_2, rfl, rfl, Or.inr (Or.inl ⟨by omega, rfl⟩)⟩ | exact Or.inr ⟨_, kx, hb_2, rfl, rfl, Or.inr (Or.inr ⟨by omega, by omega, rfl⟩)⟩ | exact Or.inl ⟨rfl, fun ⟨k, w, h1, h2, h3, h4⟩ => by rcases h4 with h4 | h4; exact o_14 (by rw [h3]; exact z_nat_in (by omega) (by omega)); exact o_57 (by rw [h3]; exact z_nat_in2 (by omega) (by omega) (by omega))⟩)⟩)
      · skip
        refine e_steps 2 (σ' := (76, [(0, .ref 0), (1, .int (nI b_2)), (2, .int what)], [.int ((-nI 1))], (MH g kept was isKept tape fed pos tlen flt ranking paper written pairs above below isDone dist rowv rowMany lsz itm weakAbove weakBelow))) rfl ?_
        exact e_ret rfl (trivial) (hR _ _ ⟨((-nI 1)), rfl, rfl, (by first | exact Or.inl ⟨rfl, fun ⟨k, w, h1, h2, h3, h4⟩ => o_2 ⟨k, h1, h2⟩⟩ | exact Or.inr ⟨_, kw, hb_2, rfl, rfl, Or.inl ⟨by omega, rfl⟩⟩ | exact Or.inr ⟨_, kw, hb_2, rfl, rfl, Or.inr (Or.inl ⟨by omega, rfl⟩)⟩ | exact Or.inr ⟨_, kx, hb_2, rfl, rfl, Or.inr (Or.inr ⟨by omega, by omega, rfl⟩)⟩ | exact Or.inl ⟨rfl, fun ⟨k, w, h1, h2, h3, h4⟩ => by rcases h4 with h4 | h4; exact o_14 (by rw [h3]; exact z_nat_in (by omega) (by omega)); exact o_57 (by rw [h3]; exact z_nat_in2 (by omega) (by omega) (by omega))⟩)⟩)
  · skip
    refine e_steps 2 (σ' := (9, [(0, .ref 0), (1, .int b), (2, .int what)], [.int ((-nI 1))], (MH g kept was isKept tape fed pos tlen flt ranking paper written pairs above below isDone dist rowv rowMany lsz itm weakAbove weakBelow))) rfl ?_
    exact e_ret rfl (trivial) (hR _ _ ⟨((-nI 1)), rfl, rfl, (by exact Or.inl ⟨rfl, fun ⟨k, w, h1, h2, h3, h4⟩ => o_2 ⟨k, h1, h2⟩⟩)⟩)
