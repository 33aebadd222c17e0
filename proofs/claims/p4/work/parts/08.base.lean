/-! numbers: small laws -/
theorem z0_eq {a : Nat} (h : a < 2 ^ 31) : nI a = 0 ↔ a = 0 := by
  constructor
  · intro q
    have := (nI_eq (b := 0) h (by decide)).mp q
    exact this
  · intro q; subst q; rfl
theorem z0_ne {a : Nat} (h : a < 2 ^ 31) : nI a = 0 ↔ a = 0 := z0_eq h
theorem z0_gt {a : Nat} (h : a < 2 ^ 31) : 0 < nI a ↔ 0 < a := (nI_ltI (a := 0) (by decide) h)
theorem z0_le {a : Nat} (h : a < 2 ^ 31) : nI a ≤ 0 ↔ a = 0 := by
  have := nI_leI (b := 0) h (by decide)
  exact this.trans (by omega)
theorem z_in_nat {c : Int32} {m : Nat} (hm : m < 2 ^ 31) (h : lN 0 ≤ c.toInt64 ∧ c.toInt64 ≤ lN m) : ∃ k : Nat, k ≤ m ∧ c = nI k := by
  obtain ⟨h1, h2⟩ := h
  have e : c.toInt64.toInt = c.toInt := Int32.toInt_toInt64 c
  rw [Int64.le_iff_toInt_le, pk_lT (by omega), e] at h1
  rw [Int64.le_iff_toInt_le, pk_lT (by omega), e] at h2
  refine ⟨c.toInt.toNat, by omega, ?_⟩
  have h3 : c.toInt = (nI c.toInt.toNat).toInt := by
    rw [nI_toInt (by omega)]
    omega
  exact Int32.toInt_inj.mp h3
theorem z_nat_in {k m : Nat} (hm : m < 2 ^ 31) (h : k ≤ m) : lN 0 ≤ (nI k).toInt64 ∧ (nI k).toInt64 ≤ lN m := by
  rw [nI_l (by omega)]
  exact ⟨(lN_le (by omega) (by omega)).mpr (Nat.zero_le _), (lN_le (by omega) (by omega)).mpr h⟩
theorem z_sw2 (x : Int32) : x = nI 0 ∨ x = nI 1 ∨ x = nI 2 ∨ (x.toInt < 0 ∨ 2 < x.toInt) := by
  have hh : ∀ k : Nat, k < 3 → x.toInt = (k : Int) → x = nI k := fun k hk h => by
    have : x.toInt = (nI k).toInt := by rw [nI_toInt (by omega)]; exact h
    exact Int32.toInt_inj.mp this
  rcases (by omega : x.toInt < 0 ∨ 0 ≤ x.toInt) with h | h
  · exact Or.inr (Or.inr (Or.inr (Or.inl h)))
  · rcases (by omega : 2 < x.toInt ∨ x.toInt ≤ 2) with h2 | h2
    · exact Or.inr (Or.inr (Or.inr (Or.inr h2)))
    · rcases (by omega : x.toInt = 0 ∨ x.toInt = 1 ∨ x.toInt = 2) with q | q | q
      · exact Or.inl (hh 0 (by omega) q)
      · exact Or.inr (Or.inl (hh 1 (by omega) q))
      · exact Or.inr (Or.inr (Or.inl (hh 2 (by omega) q)))
theorem z_sw8 (x : Int32) : x = nI 0 ∨ x = nI 1 ∨ x = nI 2 ∨ x = nI 3 ∨ x = nI 4 ∨ x = nI 5 ∨ x = nI 6 ∨ x = nI 7 ∨ x = nI 8 ∨ (x.toInt < 0 ∨ 8 < x.toInt) := by
  have hh : ∀ k : Nat, k < 9 → x.toInt = (k : Int) → x = nI k := fun k hk h => by
    have : x.toInt = (nI k).toInt := by rw [nI_toInt (by omega)]; exact h
    exact Int32.toInt_inj.mp this
  rcases (by omega : x.toInt < 0 ∨ 0 ≤ x.toInt) with h | h
  · simp [h]
  · rcases (by omega : 8 < x.toInt ∨ x.toInt ≤ 8) with h2 | h2
    · simp [h2]
    · rcases (by omega : x.toInt = 0 ∨ x.toInt = 1 ∨ x.toInt = 2 ∨ x.toInt = 3 ∨ x.toInt = 4 ∨ x.toInt = 5 ∨ x.toInt = 6 ∨ x.toInt = 7 ∨ x.toInt = 8) with q | q | q | q | q | q | q | q | q
      · have := hh 0 (by omega) q; simp [this]
      · have := hh 1 (by omega) q; simp [this]
      · have := hh 2 (by omega) q; simp [this]
      · have := hh 3 (by omega) q; simp [this]
      · have := hh 4 (by omega) q; simp [this]
      · have := hh 5 (by omega) q; simp [this]
      · have := hh 6 (by omega) q; simp [this]
      · have := hh 7 (by omega) q; simp [this]
      · have := hh 8 (by omega) q; simp [this]
/-- a switch beside its cases -/
theorem z_swd {q : z_M} {pc : Nat} {lv : z_L} {r : List Value} {h : List z_E} {x : Int32} {d lo hi : Int} {offs : Array Int} {t : Nat} (hF : z_F q pc = some (.tableswitch d lo hi offs)) (hx : x.toInt < lo ∨ hi < x.toInt) (ht : z_tgt pc d = some t) : z_stp q (pc, lv, .int x :: r, h) = some (t, lv, r, h) := by
  simp only [z_stp, hF, z_ins, if_pos hx, ht]
/-! sets as numbers below 256: all by looking -/
theorem z_all2 {P : Nat → Nat → Prop} [∀ a b, Decidable (P a b)] {m n : Nat} (h : (List.range m).all (fun a => (List.range n).all (fun b => decide (P a b))) = true) {a b : Nat} (ha : a < m) (hb : b < n) : P a b := by
  have h1 := List.all_eq_true.mp h a (List.mem_range.mpr ha)
  exact of_decide_eq_true (List.all_eq_true.mp h1 b (List.mem_range.mpr hb))
theorem z_all1 {P : Nat → Prop} [∀ a, Decidable (P a)] {m : Nat} (h : (List.range m).all (fun a => decide (P a)) = true) {a : Nat} (ha : a < m) : P a := of_decide_eq_true (List.all_eq_true.mp h a (List.mem_range.mpr ha))
theorem z_has {s k : Nat} (hs : s < 256) (hk : k < 8) : ((nI s >>> (nI k &&& 31)) &&& nI 1 = nI 1) ↔ s.testBit k = true := z_all2 (P := fun s k => ((nI s >>> (nI k &&& 31)) &&& nI 1 = nI 1) ↔ s.testBit k = true) (m := 256) (n := 8) (by decide +kernel) hs hk
theorem z_one {k : Nat} (hk : k < 16) : nI 1 <<< (nI k &&& 31) = nI (2 ^ k) := z_all1 (P := fun k => nI 1 <<< (nI k &&& 31) = nI (2 ^ k)) (m := 16) (by decide +kernel) hk
theorem z_all_of {n : Nat} (hn : n < 9) : (nI 1 <<< (nI n &&& 31)) - nI 1 = nI (2 ^ n - 1) := z_all1 (P := fun n => (nI 1 <<< (nI n &&& 31)) - nI 1 = nI (2 ^ n - 1)) (m := 9) (by decide +kernel) hn
/-- a set without what is of another -/
def z_dif (s t : Nat) : Nat := s &&& (t ^^^ 255)
def z_pc (s : Nat) : Nat := ((List.range 8).filter (fun k => s.testBit k)).length
theorem z_hi {s i : Nat} (hs : s < 256) (hi : 8 ≤ i) : s.testBit i = false := Nat.testBit_lt_two_pow (Nat.lt_of_lt_of_le hs (Nat.pow_le_pow_right (n := 2) (i := 8) (by decide) hi))
theorem z_dif_bit {s t i : Nat} (hs : s < 256) : (z_dif s t).testBit i = (s.testBit i && !t.testBit i) := by
  unfold z_dif
  rw [Nat.testBit_and, Nat.testBit_xor]
  rcases Nat.lt_or_ge i 8 with h | h
  · rw [show (255 : Nat).testBit i = true from z_all1 (P := fun i => (255 : Nat).testBit i = true) (m := 8) (by decide) h]
    cases t.testBit i <;> rfl
  · rw [z_hi hs h]; rfl
theorem z_dif_le {s t : Nat} : z_dif s t ≤ s := Nat.and_le_left
theorem z_dif_eq {s t : Nat} (hs : s < 256) (ht : t < 256) : nI s &&& (nI t ^^^ (-nI 1)) = nI (z_dif s t) := by
  apply Int32.toBitVec_inj.mp
  apply BitVec.eq_of_toNat_eq
  rw [Int32.toBitVec_and, Int32.toBitVec_xor, BitVec.toNat_and, BitVec.toNat_xor, pk_tn (by omega), pk_tn (by omega), pk_tn (n := z_dif s t) (by have := z_dif_le (s := s) (t := t); omega)]
  rw [show (-nI 1).toBitVec.toNat = 4294967295 by decide +kernel]
  apply Nat.eq_of_testBit_eq
  intro i
  rw [z_dif_bit hs, Nat.testBit_and, Nat.testBit_xor]
  rcases Nat.lt_or_ge i 8 with h | h
  · rw [show (4294967295 : Nat).testBit i = true from z_all1 (P := fun i => (4294967295 : Nat).testBit i = true) (m := 8) (by decide) h]
    cases t.testBit i <;> rfl
  · rw [z_hi hs h]; rfl
theorem z_p2 {n : Nat} (hn : n ≤ 8) : 2 ^ n ≤ 256 := Nat.pow_le_pow_right (by decide) hn
theorem nI_and (a b : Nat) : nI a &&& nI b = nI (a &&& b) := Int32.toBitVec_inj.mp (by rw [Int32.toBitVec_and]; exact BitVec.ofNat_and.symm)
theorem nI_or (a b : Nat) : nI a ||| nI b = nI (a ||| b) := Int32.toBitVec_inj.mp (by rw [Int32.toBitVec_or]; exact BitVec.ofNat_or.symm)
section ES
variable {d : Nat} {q : z_M} {R : z_T} {pc : Nat} {lv : z_L} {rest : List Value} {h : List z_E}
theorem e_and {a b : Nat} (c : Nat) (hs : z_F q pc = some .iand) (hc : a &&& b = c) (k : z_EV d q R (pc + 1, lv, .int (nI c) :: rest, h)) : z_EV d q R (pc, lv, .int (nI b) :: .int (nI a) :: rest, h) := by
  subst hc
  refine e_one (σ' := (pc + 1, lv, .int (nI a &&& nI b) :: rest, h)) ?_ (by rw [nI_and]; exact k)
  simp only [z_stp, hs, z_ins]
theorem e_or {a b : Nat} (c : Nat) (hs : z_F q pc = some .ior) (hc : a ||| b = c) (k : z_EV d q R (pc + 1, lv, .int (nI c) :: rest, h)) : z_EV d q R (pc, lv, .int (nI b) :: .int (nI a) :: rest, h) := by
  subst hc
  refine e_one (σ' := (pc + 1, lv, .int (nI a ||| nI b) :: rest, h)) ?_ (by rw [nI_or]; exact k)
  simp only [z_stp, hs, z_ins]
theorem e_shl {b : Nat} (hs : z_F q pc = some .ishl) (hb : b < 16) (k : z_EV d q R (pc + 1, lv, .int (nI (2 ^ b)) :: rest, h)) : z_EV d q R (pc, lv, .int (nI b) :: .int (nI 1) :: rest, h) := by
  refine e_one (σ' := (pc + 1, lv, .int (nI 1 <<< (nI b &&& 31)) :: rest, h)) ?_ (by rw [z_one hb]; exact k)
  simp only [z_stp, hs, z_ins]
theorem e_dif {a b : Nat} (hs : z_F q pc = some .iand) (ha : a < 256) (hb : b < 256) (k : z_EV d q R (pc + 1, lv, .int (nI (z_dif a b)) :: rest, h)) : z_EV d q R (pc, lv, .int (nI b ^^^ (-nI 1)) :: .int (nI a) :: rest, h) := by
  refine e_one (σ' := (pc + 1, lv, .int (nI a &&& (nI b ^^^ (-nI 1))) :: rest, h)) ?_ (by rw [z_dif_eq ha hb]; exact k)
  simp only [z_stp, hs, z_ins]
end ES
/-- c is among the first m -/
theorem z_in_nat1 {c : Int32} {m : Nat} (hm : m < 2 ^ 31) : (lN 0 ≤ c.toInt64 ∧ c.toInt64 ≤ (nI m - nI 1).toInt64) ↔ ∃ k : Nat, k < m ∧ c = nI k := by
  rcases Nat.eq_zero_or_pos m with rfl | h0
  · constructor
    · rintro ⟨h1, h2⟩
      have h3 := Int64.le_trans h1 h2
      exact absurd h3 (by decide +kernel)
    · rintro ⟨k, hk, _⟩
      exact absurd hk (Nat.not_lt_zero k)
  · have e : nI m - nI 1 = nI (m - 1) := pk_sub h0
    rw [e, nI_l (by omega)]
    constructor
    · intro h
      obtain ⟨k, hk, rfl⟩ := z_in_nat (by omega) h
      exact ⟨k, by omega, rfl⟩
    · rintro ⟨k, hk, rfl⟩
      exact z_nat_in (by omega) (by omega)
/-- the cells of the reference, as numbers: how many candidates, who is out, how many ballots, the measure; the draw, counts, places -/
def z_RK (n : Nat) (q : Nat → Nat) : Prop := (∀ c, c < n → q c < n) ∧ ∀ c, c < n → ∀ p, p < q c → ∃ c2, c2 < n ∧ q c2 = p
def z_GI (g : Nat → Int32) (n outs bm ms : Nat) (dr cn : Nat → Nat) (pl : Nat → Nat → Nat) : Prop :=
  (g 0 = nI n ∧ 2 ≤ n ∧ n ≤ 8) ∧ (g 1 = nI outs ∧ outs < 2 ^ n ∧ z_dif (2 ^ n - 1) outs ≠ 0) ∧ (g 2 = nI bm ∧ bm ≤ 40) ∧ (g 3 = nI ms ∧ ms < 4) ∧
  ((∀ k, k < 8 → g (4 + k) = nI (dr k)) ∧ (∀ k, k < n → dr k < n) ∧ ∀ c, c < n → ∃ k, k < n ∧ dr k = c) ∧
  (∀ b, b < bm → g (12 + b) = nI (cn b) ∧ 1 ≤ cn b ∧ cn b ≤ 1000000) ∧ (∀ b, b < bm → (∀ c, c < n → g (52 + 8 * b + c) = nI (pl b c)) ∧ z_RK n (pl b))
theorem z_pc_ok : (List.range 256).all (fun s => decide (s = 0 ∨ (z_pc (s &&& (s - 1)) + 1 = z_pc s ∧ s &&& (s - 1) < s))) = true := by decide +kernel
theorem z_pc_low {s : Nat} (h : s < 256) (h0 : ¬ s = 0) : z_pc (s &&& (s - 1)) + 1 = z_pc s ∧ s &&& (s - 1) < s := (z_all1 (P := fun s => s = 0 ∨ (z_pc (s &&& (s - 1)) + 1 = z_pc s ∧ s &&& (s - 1) < s)) z_pc_ok h).resolve_left h0
theorem z_pc_le (s : Nat) : z_pc s ≤ 8 := Nat.le_trans (List.length_filter_le _ _) (Nat.le_of_eq List.length_range)
theorem z_un {f : Nat → Int32} {k j : Nat} {x : Int32} (h : j ≠ k) : upd f k x j = f j := pk_un h
theorem z_up1 {f : Nat → Int32} {w : Nat → Int32} {a k : Nat} {x : Int32} (h : ∀ i, i < k → f (a + i) = w i) (hx : x = w k) : ∀ i, i < k + 1 → upd f (a + k) x (a + i) = w i := by
  intro i hi
  unfold upd
  by_cases e : i = k
  · subst e; rw [if_pos rfl]; exact hx
  · rw [if_neg (by omega)]; exact h i (by omega)
theorem z_in_nat2 {c : Int32} {a m : Nat} (hm : m < 2 ^ 31) (h : lN a ≤ c.toInt64 ∧ c.toInt64 ≤ lN m) (ha : a < 2 ^ 31 := by decide) : ∃ k : Nat, a ≤ k ∧ k ≤ m ∧ c = nI k := by
  obtain ⟨k, hk, rfl⟩ := z_in_nat hm ⟨Int64.le_trans ((lN_le (by omega) ha).mpr (Nat.zero_le a)) h.1, h.2⟩
  refine ⟨k, ?_, hk, rfl⟩
  have h1 := h.1
  rw [nI_l (by omega)] at h1
  exact (lN_le ha (by omega)).mp h1
theorem z_nat_in2 {k a m : Nat} (hm : m < 2 ^ 31) (h1 : a ≤ k) (h : k ≤ m) : lN a ≤ (nI k).toInt64 ∧ (nI k).toInt64 ≤ lN m := by
  rw [nI_l (by omega)]
  exact ⟨(lN_le (by omega) (by omega)).mpr h1, (lN_le (by omega) (by omega)).mpr h⟩
theorem z_dif_all : (List.range 9).all (fun m => decide (m = 0 ∨ z_dif (2 ^ m - 1) 0 ≠ 0)) = true := by decide +kernel
theorem z_GI_new {g : Nat → Int32} {m ms : Nat} {cn : Nat → Nat} {pl : Nat → Nat → Nat} (h2 : 2 ≤ m) (h8 : m ≤ 8) (e0 : g 0 = nI m) (e1 : g 1 = nI 0) (e2 : g 2 = nI 0) (e3 : g 3 = nI ms) (h4 : ms < 4) (hd : ∀ i, i < 8 → g (4 + i) = nI i) : z_GI g m 0 0 ms (fun k => k) cn pl :=
  ⟨⟨e0, h2, h8⟩, ⟨e1, Nat.pow_pos (by decide), (z_all1 (P := fun m => m = 0 ∨ z_dif (2 ^ m - 1) 0 ≠ 0) z_dif_all (by omega : m < 9)).resolve_left (by omega)⟩, ⟨e2, by omega⟩, ⟨e3, h4⟩, ⟨hd, fun k hk => hk, fun c hc => ⟨c, hc, rfl⟩⟩, fun b hb => absurd hb (Nat.not_lt_zero b), fun b hb => absurd hb (Nat.not_lt_zero b)⟩
theorem z_GI_ms {g : Nat → Int32} {n outs bm ms k : Nat} {dr cn : Nat → Nat} {pl : Nat → Nat → Nat} (h : z_GI g n outs bm ms dr cn pl) (hk : k < 4) : z_GI (upd g 3 (nI k)) n outs bm k dr cn pl := by
  obtain ⟨⟨hn0, hn2, hn8⟩, ⟨ho0, ho8, hin⟩, ⟨hb0, hb40⟩, ⟨hm0, hm4⟩, ⟨hdr, hdl, hdc⟩, hcn, hpl⟩ := h
  exact ⟨⟨by rw [z_un (by omega)]; exact hn0, hn2, hn8⟩, ⟨by rw [z_un (by omega)]; exact ho0, ho8, hin⟩, ⟨by rw [z_un (by omega)]; exact hb0, hb40⟩, ⟨pk_us, hk⟩, ⟨fun i hi => by rw [z_un (by omega)]; exact hdr i hi, hdl, hdc⟩, fun b hb => ⟨by rw [z_un (by omega)]; exact (hcn b hb).1, (hcn b hb).2⟩, fun b hb => ⟨fun c hc => by rw [z_un (by omega)]; exact (hpl b hb).1 c hc, (hpl b hb).2⟩⟩
