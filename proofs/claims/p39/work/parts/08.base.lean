/-! numbers: small laws -/
theorem z0_eq {a : Nat} (h : a < 2 ^ 31) : nI a = 0 ↔ a = 0 := by
  constructor
  · intro q
    have := (nI_eq (b := 0) h (by decide)).mp q
    exact this
  · intro q; subst q; rfl
theorem z0_ne {a : Nat} (h : a < 2 ^ 31) : nI a = 0 ↔ a = 0 := z0_eq h
theorem z0_gt {a : Nat} (h : a < 2 ^ 31) : 0 < nI a ↔ 0 < a := (nI_ltI (a := 0) (by decide) h)
theorem z0_le {a : Nat} (h : a < 2 ^ 31) : nI a ≤ 0 ↔ a = 0 := by
  have := nI_leI (b := 0) h (by decide)
  exact this.trans (by omega)
theorem z_in_nat {c : Int32} {m : Nat} (hm : m < 2 ^ 31) (h : lN 0 ≤ c.toInt64 ∧ c.toInt64 ≤ lN m) : ∃ k : Nat, k ≤ m ∧ c = nI k := by
  obtain ⟨h1, h2⟩ := h
  have e : c.toInt64.toInt = c.toInt := Int32.toInt_toInt64 c
  rw [Int64.le_iff_toInt_le, pk_lT (by omega), e] at h1
  rw [Int64.le_iff_toInt_le, pk_lT (by omega), e] at h2
  refine ⟨c.toInt.toNat, by omega, ?_⟩
  have h3 : c.toInt = (nI c.toInt.toNat).toInt := by
    rw [nI_toInt (by omega)]
    omega
  exact Int32.toInt_inj.mp h3
theorem z_nat_in {k m : Nat} (hm : m < 2 ^ 31) (h : k ≤ m) : lN 0 ≤ (nI k).toInt64 ∧ (nI k).toInt64 ≤ lN m := by
  rw [nI_l (by omega)]
  exact ⟨(lN_le (by omega) (by omega)).mpr (Nat.zero_le _), (lN_le (by omega) (by omega)).mpr h⟩
theorem z_sw2 (x : Int32) : x = nI 0 ∨ x = nI 1 ∨ x = nI 2 ∨ (x.toInt < 0 ∨ 2 < x.toInt) := by
  have hh : ∀ k : Nat, k < 3 → x.toInt = (k : Int) → x = nI k := fun k hk h => by
    have : x.toInt = (nI k).toInt := by rw [nI_toInt (by omega)]; exact h
    exact Int32.toInt_inj.mp this
  rcases (by omega : x.toInt < 0 ∨ 0 ≤ x.toInt) with h | h
  · exact Or.inr (Or.inr (Or.inr (Or.inl h)))
  · rcases (by omega : 2 < x.toInt ∨ x.toInt ≤ 2) with h2 | h2
    · exact Or.inr (Or.inr (Or.inr (Or.inr h2)))
    · rcases (by omega : x.toInt = 0 ∨ x.toInt = 1 ∨ x.toInt = 2) with q | q | q
      · exact Or.inl (hh 0 (by omega) q)
      · exact Or.inr (Or.inl (hh 1 (by omega) q))
      · exact Or.inr (Or.inr (Or.inl (hh 2 (by omega) q)))
theorem z_sw8 (x : Int32) : x = nI 0 ∨ x = nI 1 ∨ x = nI 2 ∨ x = nI 3 ∨ x = nI 4 ∨ x = nI 5 ∨ x = nI 6 ∨ x = nI 7 ∨ x = nI 8 ∨ (x.toInt < 0 ∨ 8 < x.toInt) := by
  have hh : ∀ k : Nat, k < 9 → x.toInt = (k : Int) → x = nI k := fun k hk h => by
    have : x.toInt = (nI k).toInt := by rw [nI_toInt (by omega)]; exact h
    exact Int32.toInt_inj.mp this
  rcases (by omega : x.toInt < 0 ∨ 0 ≤ x.toInt) with h | h
  · simp [h]
  · rcases (by omega : 8 < x.toInt ∨ x.toInt ≤ 8) with h2 | h2
    · simp [h2]
    · rcases (by omega : x.toInt = 0 ∨ x.toInt = 1 ∨ x.toInt = 2 ∨ x.toInt = 3 ∨ x.toInt = 4 ∨ x.toInt = 5 ∨ x.toInt = 6 ∨ x.toInt = 7 ∨ x.toInt = 8) with q | q | q | q | q | q | q | q | q
      · have := hh 0 (by omega) q; simp [this]
      · have := hh 1 (by omega) q; simp [this]
      · have := hh 2 (by omega) q; simp [this]
      · have := hh 3 (by omega) q; simp [this]
      · have := hh 4 (by omega) q; simp [this]
      · have := hh 5 (by omega) q; simp [this]
      · have := hh 6 (by omega) q; simp [this]
      · have := hh 7 (by omega) q; simp [this]
      · have := hh 8 (by omega) q; simp [this]
theorem z_swi {q : z_M} {pc : Nat} {lv : z_L} {r : List Value} {h : List z_E} {x : Int32} {d lo hi off : Int} {offs : Array Int} {t k : Nat} (hF : z_F q pc = some (.tableswitch d lo hi offs)) (hx : x = nI k) (hk : ¬ ((nI k).toInt < lo ∨ hi < (nI k).toInt)) (ho : offs[((nI k).toInt - lo).toNat]? = some off) (ht : z_tgt pc off = some t) : z_stp q (pc, lv, .int x :: r, h) = some (t, lv, r, h) := by
  subst hx
  simp only [z_stp, hF, z_ins, if_neg hk, ho, ht]
/-- a switch beside its cases -/
theorem z_swd {q : z_M} {pc : Nat} {lv : z_L} {r : List Value} {h : List z_E} {x : Int32} {d lo hi : Int} {offs : Array Int} {t : Nat} (hF : z_F q pc = some (.tableswitch d lo hi offs)) (hx : x.toInt < lo ∨ hi < x.toInt) (ht : z_tgt pc d = some t) : z_stp q (pc, lv, .int x :: r, h) = some (t, lv, r, h) := by
  simp only [z_stp, hF, z_ins, if_pos hx, ht]
/-! sets as numbers below 256: all by looking -/
theorem z_all2 {P : Nat → Nat → Prop} [∀ a b, Decidable (P a b)] {m n : Nat} (h : (List.range m).all (fun a => (List.range n).all (fun b => decide (P a b))) = true) {a b : Nat} (ha : a < m) (hb : b < n) : P a b := by
  have h1 := List.all_eq_true.mp h a (List.mem_range.mpr ha)
  exact of_decide_eq_true (List.all_eq_true.mp h1 b (List.mem_range.mpr hb))
theorem z_all1 {P : Nat → Prop} [∀ a, Decidable (P a)] {m : Nat} (h : (List.range m).all (fun a => decide (P a)) = true) {a : Nat} (ha : a < m) : P a := of_decide_eq_true (List.all_eq_true.mp h a (List.mem_range.mpr ha))
theorem z_has {s k : Nat} (hs : s < 256) (hk : k < 8) : ((nI s >>> (nI k &&& 31)) &&& nI 1 = nI 1) ↔ s.testBit k = true := z_all2 (P := fun s k => ((nI s >>> (nI k &&& 31)) &&& nI 1 = nI 1) ↔ s.testBit k = true) (m := 256) (n := 8) (by decide +kernel) hs hk
theorem z_one {k : Nat} (hk : k < 16) : nI 1 <<< (nI k &&& 31) = nI (2 ^ k) := z_all1 (P := fun k => nI 1 <<< (nI k &&& 31) = nI (2 ^ k)) (m := 16) (by decide +kernel) hk
theorem z_all_of {n : Nat} (hn : n < 9) : (nI 1 <<< (nI n &&& 31)) - nI 1 = nI (2 ^ n - 1) := z_all1 (P := fun n => (nI 1 <<< (nI n &&& 31)) - nI 1 = nI (2 ^ n - 1)) (m := 9) (by decide +kernel) hn
/-- a set without what is of another -/
def z_dif (s t : Nat) : Nat := s &&& (t ^^^ 255)
def z_pc (s : Nat) : Nat := ((List.range 8).filter (fun k => s.testBit k)).length
theorem z_hi {s i : Nat} (hs : s < 256) (hi : 8 ≤ i) : s.testBit i = false := Nat.testBit_lt_two_pow (Nat.lt_of_lt_of_le hs (Nat.pow_le_pow_right (n := 2) (i := 8) (by decide) hi))
theorem z_dif_bit {s t i : Nat} (hs : s < 256) : (z_dif s t).testBit i = (s.testBit i && !t.testBit i) := by
  unfold z_dif
  rw [Nat.testBit_and, Nat.testBit_xor]
  rcases Nat.lt_or_ge i 8 with h | h
  · rw [show (255 : Nat).testBit i = true from z_all1 (P := fun i => (255 : Nat).testBit i = true) (m := 8) (by decide) h]
    cases t.testBit i <;> rfl
  · rw [z_hi hs h]; rfl
theorem z_dif_le {s t : Nat} : z_dif s t ≤ s := Nat.and_le_left
theorem z_dif_eq {s t : Nat} (hs : s < 256) (ht : t < 256) : nI s &&& (nI t ^^^ (-nI 1)) = nI (z_dif s t) := by
  apply Int32.toBitVec_inj.mp
  apply BitVec.eq_of_toNat_eq
  rw [Int32.toBitVec_and, Int32.toBitVec_xor, BitVec.toNat_and, BitVec.toNat_xor, pk_tn (by omega), pk_tn (by omega), pk_tn (n := z_dif s t) (by have := z_dif_le (s := s) (t := t); omega)]
  rw [show (-nI 1).toBitVec.toNat = 4294967295 by decide +kernel]
  apply Nat.eq_of_testBit_eq
  intro i
  rw [z_dif_bit hs, Nat.testBit_and, Nat.testBit_xor]
  rcases Nat.lt_or_ge i 8 with h | h
  · rw [show (4294967295 : Nat).testBit i = true from z_all1 (P := fun i => (4294967295 : Nat).testBit i = true) (m := 8) (by decide) h]
    cases t.testBit i <;> rfl
  · rw [z_hi hs h]; rfl
theorem z_p2 {n : Nat} (hn : n ≤ 8) : 2 ^ n ≤ 256 := Nat.pow_le_pow_right (by decide) hn
theorem nI_and (a b : Nat) : nI a &&& nI b = nI (a &&& b) := Int32.toBitVec_inj.mp (by rw [Int32.toBitVec_and]; exact BitVec.ofNat_and.symm)
theorem nI_or (a b : Nat) : nI a ||| nI b = nI (a ||| b) := Int32.toBitVec_inj.mp (by rw [Int32.toBitVec_or]; exact BitVec.ofNat_or.symm)
section ES
variable {d : Nat} {q : z_M} {R : z_T} {pc : Nat} {lv : z_L} {rest : List Value} {h : List z_E}
theorem e_and {a b : Nat} (c : Nat) (hs : z_F q pc = some .iand) (hc : a &&& b = c) (k : z_EV d q R (pc + 1, lv, .int (nI c) :: rest, h)) : z_EV d q R (pc, lv, .int (nI b) :: .int (nI a) :: rest, h) := by
  subst hc
  refine e_one (σ' := (pc + 1, lv, .int (nI a &&& nI b) :: rest, h)) ?_ (by rw [nI_and]; exact k)
  simp only [z_stp, hs, z_ins]
theorem e_or {a b : Nat} (c : Nat) (hs : z_F q pc = some .ior) (hc : a ||| b = c) (k : z_EV d q R (pc + 1, lv, .int (nI c) :: rest, h)) : z_EV d q R (pc, lv, .int (nI b) :: .int (nI a) :: rest, h) := by
  subst hc
  refine e_one (σ' := (pc + 1, lv, .int (nI a ||| nI b) :: rest, h)) ?_ (by rw [nI_or]; exact k)
  simp only [z_stp, hs, z_ins]
theorem e_shl {b : Nat} (hs : z_F q pc = some .ishl) (hb : b < 16) (k : z_EV d q R (pc + 1, lv, .int (nI (2 ^ b)) :: rest, h)) : z_EV d q R (pc, lv, .int (nI b) :: .int (nI 1) :: rest, h) := by
  refine e_one (σ' := (pc + 1, lv, .int (nI 1 <<< (nI b &&& 31)) :: rest, h)) ?_ (by rw [z_one hb]; exact k)
  simp only [z_stp, hs, z_ins]
theorem e_dif {a b : Nat} (hs : z_F q pc = some .iand) (ha : a < 256) (hb : b < 256) (k : z_EV d q R (pc + 1, lv, .int (nI (z_dif a b)) :: rest, h)) : z_EV d q R (pc, lv, .int (nI b ^^^ (-nI 1)) :: .int (nI a) :: rest, h) := by
  refine e_one (σ' := (pc + 1, lv, .int (nI a &&& (nI b ^^^ (-nI 1))) :: rest, h)) ?_ (by rw [z_dif_eq ha hb]; exact k)
  simp only [z_stp, hs, z_ins]
end ES
/-- c is among the first m -/
theorem z_in_nat1 {c : Int32} {m : Nat} (hm : m < 2 ^ 31) : (lN 0 ≤ c.toInt64 ∧ c.toInt64 ≤ (nI m - nI 1).toInt64) ↔ ∃ k : Nat, k < m ∧ c = nI k := by
  rcases Nat.eq_zero_or_pos m with rfl | h0
  · constructor
    · rintro ⟨h1, h2⟩
      have h3 := Int64.le_trans h1 h2
      exact absurd h3 (by decide +kernel)
    · rintro ⟨k, hk, _⟩
      exact absurd hk (Nat.not_lt_zero k)
  · have e : nI m - nI 1 = nI (m - 1) := pk_sub h0
    rw [e, nI_l (by omega)]
    constructor
    · intro h
      obtain ⟨k, hk, rfl⟩ := z_in_nat (by omega) h
      exact ⟨k, by omega, rfl⟩
    · rintro ⟨k, hk, rfl⟩
      exact z_nat_in (by omega) (by omega)
/-- the cells of the reference, as numbers: how many candidates, who is out, how many ballots, the measure; the draw, counts, places -/
def z_RK (n : Nat) (q : Nat → Nat) : Prop := (∀ c, c < n → q c < n) ∧ ∀ c, c < n → ∀ p, p < q c → ∃ c2, c2 < n ∧ q c2 = p
def z_GI (g : Nat → Int32) (n outs bm ms : Nat) (dr cn : Nat → Nat) (pl : Nat → Nat → Nat) : Prop :=
  (g 0 = nI n ∧ 2 ≤ n ∧ n ≤ 8) ∧ (g 1 = nI outs ∧ outs < 2 ^ n ∧ z_dif (2 ^ n - 1) outs ≠ 0) ∧ (g 2 = nI bm ∧ bm ≤ 40) ∧ (g 3 = nI ms ∧ ms < 4) ∧
  ((∀ k, k < 8 → g (4 + k) = nI (dr k)) ∧ (∀ k, k < n → dr k < n) ∧ ∀ c, c < n → ∃ k, k < n ∧ dr k = c) ∧
  (∀ b, b < bm → g (12 + b) = nI (cn b) ∧ 1 ≤ cn b ∧ cn b ≤ 1000000) ∧ (∀ b, b < bm → (∀ c, c < n → g (52 + 8 * b + c) = nI (pl b c)) ∧ z_RK n (pl b))
theorem z_pc_ok : (List.range 256).all (fun s => decide (s = 0 ∨ (z_pc (s &&& (s - 1)) + 1 = z_pc s ∧ s &&& (s - 1) < s))) = true := by decide +kernel
theorem z_pc_low {s : Nat} (h : s < 256) (h0 : ¬ s = 0) : z_pc (s &&& (s - 1)) + 1 = z_pc s ∧ s &&& (s - 1) < s := (z_all1 (P := fun s => s = 0 ∨ (z_pc (s &&& (s - 1)) + 1 = z_pc s ∧ s &&& (s - 1) < s)) z_pc_ok h).resolve_left h0
theorem z_pc_le (s : Nat) : z_pc s ≤ 8 := Nat.le_trans (List.length_filter_le _ _) (Nat.le_of_eq List.length_range)
theorem z_un {f : Nat → Int32} {k j : Nat} {x : Int32} (h : j ≠ k) : upd f k x j = f j := pk_un h
theorem z_up1 {f : Nat → Int32} {w : Nat → Int32} {a k : Nat} {x : Int32} (h : ∀ i, i < k → f (a + i) = w i) (hx : x = w k) : ∀ i, i < k + 1 → upd f (a + k) x (a + i) = w i := by
  intro i hi
  unfold upd
  by_cases e : i = k
  · subst e; rw [if_pos rfl]; exact hx
  · rw [if_neg (by omega)]; exact h i (by omega)
theorem z_in_nat2 {c : Int32} {a m : Nat} (hm : m < 2 ^ 31) (h : lN a ≤ c.toInt64 ∧ c.toInt64 ≤ lN m) (ha : a < 2 ^ 31 := by decide) : ∃ k : Nat, a ≤ k ∧ k ≤ m ∧ c = nI k := by
  obtain ⟨k, hk, rfl⟩ := z_in_nat hm ⟨Int64.le_trans ((lN_le (by omega) ha).mpr (Nat.zero_le a)) h.1, h.2⟩
  refine ⟨k, ?_, hk, rfl⟩
  have h1 := h.1
  rw [nI_l (by omega)] at h1
  exact (lN_le ha (by omega)).mp h1
theorem z_nat_in2 {k a m : Nat} (hm : m < 2 ^ 31) (h1 : a ≤ k) (h : k ≤ m) : lN a ≤ (nI k).toInt64 ∧ (nI k).toInt64 ≤ lN m := by
  rw [nI_l (by omega)]
  exact ⟨(lN_le (by omega) (by omega)).mpr h1, (lN_le (by omega) (by omega)).mpr h⟩
theorem z_dif_all : (List.range 9).all (fun m => decide (m = 0 ∨ z_dif (2 ^ m - 1) 0 ≠ 0)) = true := by decide +kernel
theorem z_GI_new {g : Nat → Int32} {m ms : Nat} {cn : Nat → Nat} {pl : Nat → Nat → Nat} (h2 : 2 ≤ m) (h8 : m ≤ 8) (e0 : g 0 = nI m) (e1 : g 1 = nI 0) (e2 : g 2 = nI 0) (e3 : g 3 = nI ms) (h4 : ms < 4) (hd : ∀ i, i < 8 → g (4 + i) = nI i) : z_GI g m 0 0 ms (fun k => k) cn pl :=
  ⟨⟨e0, h2, h8⟩, ⟨e1, Nat.pow_pos (by decide), (z_all1 (P := fun m => m = 0 ∨ z_dif (2 ^ m - 1) 0 ≠ 0) z_dif_all (by omega : m < 9)).resolve_left (by omega)⟩, ⟨e2, by omega⟩, ⟨e3, h4⟩, ⟨hd, fun k hk => hk, fun c hc => ⟨c, hc, rfl⟩⟩, fun b hb => absurd hb (Nat.not_lt_zero b), fun b hb => absurd hb (Nat.not_lt_zero b)⟩
theorem z_GI_ms {g : Nat → Int32} {n outs bm ms k : Nat} {dr cn : Nat → Nat} {pl : Nat → Nat → Nat} (h : z_GI g n outs bm ms dr cn pl) (hk : k < 4) : z_GI (upd g 3 (nI k)) n outs bm k dr cn pl := by
  obtain ⟨⟨hn0, hn2, hn8⟩, ⟨ho0, ho8, hin⟩, ⟨hb0, hb40⟩, ⟨hm0, hm4⟩, ⟨hdr, hdl, hdc⟩, hcn, hpl⟩ := h
  exact ⟨⟨by rw [z_un (by omega)]; exact hn0, hn2, hn8⟩, ⟨by rw [z_un (by omega)]; exact ho0, ho8, hin⟩, ⟨by rw [z_un (by omega)]; exact hb0, hb40⟩, ⟨pk_us, hk⟩, ⟨fun i hi => by rw [z_un (by omega)]; exact hdr i hi, hdl, hdc⟩, fun b hb => ⟨by rw [z_un (by omega)]; exact (hcn b hb).1, (hcn b hb).2⟩, fun b hb => ⟨fun c hc => by rw [z_un (by omega)]; exact (hpl b hb).1 c hc, (hpl b hb).2⟩⟩
theorem z_p8 {k : Nat} (hk : k < 8) : 2 ^ k < 256 := Nat.pow_lt_pow_right (by decide) hk
/-! the draw -/
def z_front (dr : Nat → Nat) (w k : Nat) : Nat → Nat := fun i => if i = 0 then k else if i ≤ w then dr (i - 1) else dr i
def z_perm (n : Nat) (D : Nat → Nat) : Prop := (∀ k, k < n → D k < n) ∧ ∀ c, c < n → ∃ k, k < n ∧ D k = c
def z_swap (D : Nat → Nat) (k w : Nat) : Nat → Nat := fun i => if i = w then D k else if i = k then D w else D i
def z_dw (x : Int32) (k : Nat) : Nat := x.toBitVec.toNat / 2 ^ 9 % (k + 1)
theorem z_dw_le (x : Int32) (k : Nat) : z_dw x k ≤ k := Nat.lt_succ_iff.mp (Nat.mod_lt _ (Nat.succ_pos k))
theorem z_dw_eq (x : Int32) (k : Nat) (hk : k + 1 < 2 ^ 31) : (x.toUInt32 >>> ((nI 9).toUInt32 &&& Int32.toUInt32 31)).toInt32 - (x.toUInt32 >>> ((nI 9).toUInt32 &&& Int32.toUInt32 31)).toInt32 / nI (k + 1) * nI (k + 1) = nI (z_dw x k) := by
  have hlt : x.toBitVec.toNat / 2 ^ 9 < 2 ^ 31 := by
    have := x.toBitVec.isLt
    omega
  have e : (x.toUInt32 >>> ((nI 9).toUInt32 &&& Int32.toUInt32 31)).toInt32 = nI (x.toBitVec.toNat / 2 ^ 9) := by
    apply Int32.toBitVec_inj.mp
    apply BitVec.eq_of_toNat_eq
    rw [pk_ushr x (nI 9) 9 (by decide +kernel), pk_tn (by omega)]
  rw [e, pk_rem hlt (Nat.succ_pos k) hk]
  rfl
def z_shf : Nat → Int32 → (Nat → Nat) → (Nat → Nat)
  | 0, _, D => D
  | k + 1, z, D => z_shf k (z * nI 1103515245 + nI 12345) (z_swap D (k + 1) (z_dw (z * nI 1103515245 + nI 12345) (k + 1)))
theorem z_shf_step {k : Nat} (z : Int32) (D : Nat → Nat) (h : ¬ k = 0) : z_shf (k - 1) (z * nI 1103515245 + nI 12345) (z_swap D k (z_dw (z * nI 1103515245 + nI 12345) k)) = z_shf k z D := by
  obtain ⟨j, rfl⟩ : ∃ j, k = j + 1 := ⟨k - 1, by omega⟩
  rfl
theorem z_perm_swap {n k w : Nat} {D : Nat → Nat} (h : z_perm n D) (hk : k < n) (hw : w < n) : z_perm n (z_swap D k w) := by
  refine ⟨fun i hi => ?_, fun c hc => ?_⟩
  · unfold z_swap
    split
    · exact h.1 k hk
    · split
      · exact h.1 w hw
      · exact h.1 i hi
  · obtain ⟨j, hj, e⟩ := h.2 c hc
    by_cases h1 : j = k
    · refine ⟨w, hw, ?_⟩
      unfold z_swap
      rw [if_pos rfl, ← h1]; exact e
    · by_cases h2 : j = w
      · by_cases h3 : k = w
        · exact absurd (h2.trans h3.symm) h1
        · refine ⟨k, hk, ?_⟩
          unfold z_swap
          rw [if_neg h3, if_pos rfl, ← h2]; exact e
      · refine ⟨j, hj, ?_⟩
        unfold z_swap
        rw [if_neg h2, if_neg h1]; exact e
theorem z_perm_front {n w k : Nat} {D : Nat → Nat} (h : z_perm n D) (hw : w < n) (hk : D w = k) : z_perm n (z_front D w k) := by
  refine ⟨fun i hi => ?_, fun c hc => ?_⟩
  · unfold z_front
    split
    · rw [← hk]; exact h.1 w hw
    · split
      · exact h.1 _ (by omega)
      · exact h.1 i hi
  · obtain ⟨j, hj, e⟩ := h.2 c hc
    rcases (by omega : j < w ∨ j = w ∨ w < j) with q | q | q
    · refine ⟨j + 1, by omega, ?_⟩
      unfold z_front
      rw [if_neg (by omega), if_pos (by omega), Nat.add_sub_cancel]; exact e
    · refine ⟨0, by omega, ?_⟩
      unfold z_front
      rw [if_pos rfl, ← hk, ← q]; exact e
    · refine ⟨j, hj, ?_⟩
      unfold z_front
      rw [if_neg (by omega), if_neg (by omega)]; exact e
theorem z_perm_init (n : Nat) (dr : Nat → Nat) : z_perm n (fun i => if i < n then i else dr i) := ⟨fun k hk => by simp only [if_pos hk]; exact hk, fun c hc => ⟨c, hc, by simp only [if_pos hc]⟩⟩
theorem z_D8 {n : Nat} {D : Nat → Nat} (h : z_perm n D) (k : Nat) (hk : k < n) : D k < n := h.1 k hk
theorem z_GI_perm {g : Nat → Int32} {n outs bm ms : Nat} {dr cn : Nat → Nat} {pl : Nat → Nat → Nat} (h : z_GI g n outs bm ms dr cn pl) : z_perm n dr := ⟨h.2.2.2.2.1.2.1, h.2.2.2.2.1.2.2⟩
theorem z_GI_dr {g g2 : Nat → Int32} {n outs bm ms : Nat} {dr dr2 cn : Nat → Nat} {pl : Nat → Nat → Nat} (h : z_GI g n outs bm ms dr cn pl) (hf : ∀ i, (i < 4 ∨ 12 ≤ i) → g2 i = g i) (hd : ∀ i, i < 8 → g2 (4 + i) = nI (dr2 i)) (hp : z_perm n dr2) : z_GI g2 n outs bm ms dr2 cn pl := by
  obtain ⟨⟨hn0, hn2, hn8⟩, ⟨ho0, ho8, hin⟩, ⟨hb0, hb40⟩, ⟨hm0, hm4⟩, ⟨hdr, hdl, hdc⟩, hcn, hpl⟩ := h
  exact ⟨⟨by rw [hf _ (by omega)]; exact hn0, hn2, hn8⟩, ⟨by rw [hf _ (by omega)]; exact ho0, ho8, hin⟩, ⟨by rw [hf _ (by omega)]; exact hb0, hb40⟩, ⟨by rw [hf _ (by omega)]; exact hm0, hm4⟩, ⟨hd, hp.1, hp.2⟩, fun b hb => ⟨by rw [hf _ (by omega)]; exact (hcn b hb).1, (hcn b hb).2⟩, fun b hb => ⟨fun c hc => by rw [hf _ (by omega)]; exact (hpl b hb).1 c hc, (hpl b hb).2⟩⟩
theorem z_GI_outs {g : Nat → Int32} {n outs bm ms o2 : Nat} {dr cn : Nat → Nat} {pl : Nat → Nat → Nat} (h : z_GI g n outs bm ms dr cn pl) (h1 : o2 < 2 ^ n) (h2 : z_dif (2 ^ n - 1) o2 ≠ 0) : z_GI (upd g 1 (nI o2)) n o2 bm ms dr cn pl := by
  obtain ⟨⟨hn0, hn2, hn8⟩, ⟨ho0, ho8, hin⟩, ⟨hb0, hb40⟩, ⟨hm0, hm4⟩, ⟨hdr, hdl, hdc⟩, hcn, hpl⟩ := h
  exact ⟨⟨by rw [z_un (by omega)]; exact hn0, hn2, hn8⟩, ⟨pk_us, h1, h2⟩, ⟨by rw [z_un (by omega)]; exact hb0, hb40⟩, ⟨by rw [z_un (by omega)]; exact hm0, hm4⟩, ⟨fun i hi => by rw [z_un (by omega)]; exact hdr i hi, hdl, hdc⟩, fun b hb => ⟨by rw [z_un (by omega)]; exact (hcn b hb).1, (hcn b hb).2⟩, fun b hb => ⟨fun c hc => by rw [z_un (by omega)]; exact (hpl b hb).1 c hc, (hpl b hb).2⟩⟩
theorem z_GI_congr {g g2 : Nat → Int32} {n outs bm ms : Nat} {dr cn : Nat → Nat} {pl : Nat → Nat → Nat} (h : z_GI g n outs bm ms dr cn pl) (hf : ∀ i, i < 372 → g2 i = g i) : z_GI g2 n outs bm ms dr cn pl := by
  obtain ⟨⟨hn0, hn2, hn8⟩, ⟨ho0, ho8, hin⟩, ⟨hb0, hb40⟩, ⟨hm0, hm4⟩, ⟨hdr, hdl, hdc⟩, hcn, hpl⟩ := h
  exact ⟨⟨by rw [hf _ (by omega)]; exact hn0, hn2, hn8⟩, ⟨by rw [hf _ (by omega)]; exact ho0, ho8, hin⟩, ⟨by rw [hf _ (by omega)]; exact hb0, hb40⟩, ⟨by rw [hf _ (by omega)]; exact hm0, hm4⟩, ⟨fun i hi => by rw [hf _ (by omega)]; exact hdr i hi, hdl, hdc⟩, fun b hb => ⟨by rw [hf _ (by omega)]; exact (hcn b hb).1, (hcn b hb).2⟩, fun b hb => ⟨fun c hc => by rw [hf _ (by omega)]; exact (hpl b hb).1 c hc, (hpl b hb).2⟩⟩
theorem z_bit_all {n i : Nat} : (2 ^ n - 1).testBit i = decide (i < n) := Nat.testBit_two_pow_sub_one n i
theorem z_ins_bit {n outs i : Nat} (hn : n ≤ 8) : (z_dif (2 ^ n - 1) outs).testBit i = (decide (i < n) && !outs.testBit i) := by
  rw [z_dif_bit (by have := z_p2 hn; have := Nat.one_le_two_pow (n := n); omega), z_bit_all]
theorem z_ne0 {s i : Nat} (h : s.testBit i = true) : s ≠ 0 := by
  intro e
  rw [e, Nat.zero_testBit] at h
  cases h
theorem z_ex_bit {s : Nat} (h : s ≠ 0) : ∃ i, s.testBit i = true := Nat.exists_testBit_of_ne_zero h
theorem z_p2bit (k i : Nat) : (2 ^ k).testBit i = decide (k = i) := Nat.testBit_two_pow
theorem z_outs_add {n outs k : Nat} (hn : n ≤ 8) (h : z_dif (2 ^ n - 1) outs ≠ 0) (h1 : z_dif (2 ^ n - 1) outs ≠ 2 ^ k) : z_dif (2 ^ n - 1) (outs ||| 2 ^ k) ≠ 0 := by
  intro e
  have h0 : ∀ i, i < n → i ≠ k → outs.testBit i = true := by
    intro i hi hk
    have := z_ins_bit (n := n) (outs := outs ||| 2 ^ k) (i := i) hn
    rw [e, Nat.zero_testBit, Nat.testBit_or, z_p2bit] at this
    simp only [hi, decide_true, Bool.true_and] at this
    have hk' : decide (k = i) = false := decide_eq_false (fun q => hk q.symm)
    rw [hk'] at this
    simpa using this.symm
  obtain ⟨i, hi⟩ := z_ex_bit h
  have hik : i = k ∧ k < n := by
    rw [z_ins_bit hn] at hi
    simp only [Bool.and_eq_true, decide_eq_true_eq, Bool.not_eq_true'] at hi
    by_cases q : i = k
    · exact ⟨q, q ▸ hi.1⟩
    · rw [h0 i hi.1 q] at hi
      cases hi.2
  apply h1
  apply Nat.eq_of_testBit_eq
  intro j
  rw [z_p2bit]
  by_cases q : k = j
  · subst q
    rw [← hik.1, hi]; simp
  · rw [decide_eq_false q, z_ins_bit hn]
    by_cases hj : j < n
    · rw [h0 j hj (fun e => q e.symm)]; simp
    · simp [hj]
theorem z_outs_del {n outs k : Nat} (hn : n ≤ 8) (hk : k < n) (ho : outs < 256) : z_dif (2 ^ n - 1) (z_dif outs (2 ^ k)) ≠ 0 := by
  apply z_ne0 (i := k)
  rw [z_ins_bit hn, z_dif_bit ho, z_p2bit]
  simp [hk]
/-- places told one behind another are fewer than candidates -/
theorem z_pigeon : ∀ (m n : Nat) (q : Nat → Nat), (∀ p, p ≤ m → ∃ c, c < n ∧ q c = p) → m + 1 ≤ n
  | 0, n, q, h => by
    obtain ⟨c, hc, _⟩ := h 0 (Nat.le_refl 0)
    omega
  | m + 1, n, q, h => by
    obtain ⟨c0, hc0, e0⟩ := h (m + 1) (Nat.le_refl _)
    have := z_pigeon m (n - 1) (fun c => if c = c0 then q (n - 1) else q c) (fun p hp => by
      obtain ⟨c, hc, e⟩ := h p (by omega)
      have hne : c ≠ c0 := fun q => by rw [q, e0] at e; omega
      by_cases hl : c < n - 1
      · exact ⟨c, hl, by simp only [if_neg hne]; exact e⟩
      · have hc1 : c = n - 1 := by omega
        refine ⟨c0, by omega, ?_⟩
        simp only [if_pos]
        rw [← hc1]; exact e)
    omega
theorem z_RK_of {n : Nat} {q : Nat → Nat} (h : ∀ c, c < n → ∀ p, p < q c → ∃ c2, c2 < n ∧ q c2 = p) : z_RK n q := ⟨fun c hc => z_pigeon (q c) n q (fun p hp => by
  rcases Nat.lt_or_ge p (q c) with h1 | h1
  · exact h c hc p h1
  · exact ⟨c, hc, by omega⟩), h⟩
theorem z_m1_ne {c : Nat} (h : c < 2 ^ 31) : ¬ -nI 1 = nI c := by
  intro e
  have h1 : (nI c).toInt = (c : Int) := nI_toInt h
  rw [← e] at h1
  have h2 : (-nI 1).toInt = -1 := by decide +kernel
  omega
theorem z_front_fin {gl : Nat → Int32} {dr : Nat → Nat} {w k : Nat} (h : ∀ i, i < 8 → gl (4 + i) = nI (if 0 < i ∧ i ≤ w then dr (i - 1) else dr i)) : ∀ i, i < 8 → upd gl 4 (nI k) (4 + i) = nI (z_front dr w k i) := by
  intro i hi
  unfold upd z_front
  by_cases e : i = 0
  · subst e; rfl
  · rw [if_neg (by omega), if_neg e, h i hi]
    by_cases e2 : i ≤ w
    · rw [if_pos ⟨by omega, e2⟩, if_pos e2]
    · rw [if_neg (fun q => e2 q.2), if_neg e2]
theorem z_front_step {gl : Nat → Int32} {dr : Nat → Nat} {w k : Nat} (h0 : ¬ k = 0) (hk : k ≤ w) (hk8 : k < 8) (h : ∀ i, i < 8 → gl (4 + i) = nI (if k < i ∧ i ≤ w then dr (i - 1) else dr i)) : ∀ i, i < 8 → upd gl (4 + k) (gl (3 + k)) (4 + i) = nI (if k - 1 < i ∧ i ≤ w then dr (i - 1) else dr i) := by
  intro i hi
  unfold upd
  by_cases e : i = k
  · subst e
    have h1 := h (i - 1) (by omega)
    rw [show 4 + (i - 1) = 3 + i by omega, if_neg (by omega)] at h1
    rw [if_pos rfl, if_pos (by omega)]
    exact h1
  · rw [if_neg (by omega), h i hi]
    by_cases e2 : k < i ∧ i ≤ w
    · rw [if_pos e2, if_pos (by omega)]
    · rw [if_neg e2, if_neg (by omega)]
theorem z_ini_step {gl : Nat → Int32} {dr : Nat → Nat} {k : Nat} (h : ∀ i, i < 8 → gl (4 + i) = nI (if i < k then i else dr i)) : ∀ i, i < 8 → upd gl (4 + k) (nI k) (4 + i) = nI (if i < k + 1 then i else dr i) := by
  intro i hi
  unfold upd
  by_cases e : i = k
  · subst e; rw [if_pos rfl, if_pos (by omega)]
  · rw [if_neg (by omega), h i hi]
    by_cases e2 : i < k
    · rw [if_pos e2, if_pos (by omega)]
    · rw [if_neg e2, if_neg (by omega)]
theorem z_swap_step {gm : Nat → Int32} {D : Nat → Nat} {k w : Nat} (h : ∀ i, i < 8 → gm (4 + i) = nI (D i)) : ∀ i, i < 8 → upd (upd gm (4 + k) (nI (D w))) (4 + w) (nI (D k)) (4 + i) = nI (z_swap D k w i) := by
  intro i hi
  unfold upd z_swap
  by_cases e : i = w
  · rw [if_pos (by omega), if_pos e]
  · rw [if_neg (by omega), if_neg e]
    by_cases e2 : i = k
    · rw [if_pos (by omega), if_pos e2]
    · rw [if_neg (by omega), if_neg e2]; exact h i hi
/-- what is told so far of a ranking: the places of those told, none above p, each up to p met -/
def z_TK (n td p : Nat) (rk : Nat → Int32) : Prop := td < 2 ^ n ∧ (∀ c, c < n → td.testBit c = true → ∃ x, x ≤ p ∧ rk c = nI x) ∧ ∀ x, x ≤ p → ∃ c, c < n ∧ td.testBit c = true ∧ rk c = nI x
theorem z_TK_0 {n c : Nat} {rk : Nat → Int32} (hc : c < n) : z_TK n (2 ^ c) 0 (upd rk c (nI 0)) := by
  refine ⟨Nat.pow_lt_pow_right (by decide) hc, fun i hi hb => ?_, fun x hx => ?_⟩
  · rw [z_p2bit] at hb
    have : c = i := of_decide_eq_true hb
    subst this
    exact ⟨0, Nat.le_refl 0, pk_us⟩
  · obtain rfl : x = 0 := by omega
    exact ⟨c, hc, by rw [z_p2bit]; simp, pk_us⟩
theorem z_TK_step {n td p p2 c : Nat} {rk : Nat → Int32} (h : z_TK n td p rk) (hc : c < n) (hb : td.testBit c = false) (hp : p2 = p ∨ p2 = p + 1) : z_TK n (td ||| 2 ^ c) p2 (upd rk c (nI p2)) := by
  obtain ⟨h1, h2, h3⟩ := h
  refine ⟨Nat.or_lt_two_pow h1 (Nat.pow_lt_pow_right (by decide) hc), fun i hi hbi => ?_, fun x hx => ?_⟩
  · by_cases e : i = c
    · subst e; exact ⟨p2, Nat.le_refl _, pk_us⟩
    · rw [Nat.testBit_or, z_p2bit, decide_eq_false (fun q => e q.symm), Bool.or_false] at hbi
      obtain ⟨x, hx, e2⟩ := h2 i hi hbi
      exact ⟨x, by omega, by rw [z_un e]; exact e2⟩
  · by_cases e : x ≤ p
    · obtain ⟨i, hi, hbi, e2⟩ := h3 x e
      have hne : i ≠ c := fun q => by rw [q, hb] at hbi; cases hbi
      exact ⟨i, hi, by rw [Nat.testBit_or, hbi, Bool.true_or], by rw [z_un hne]; exact e2⟩
    · obtain rfl : x = p2 := by omega
      exact ⟨c, hc, by rw [Nat.testBit_or, z_p2bit]; simp, pk_us⟩
theorem z_TK_end {n td p : Nat} {rk rk2 : Nat → Int32} (hn : n ≤ 8) (hp : p < 1000) (h : z_TK n td p rk) (h1 : ∀ i, td.testBit i = true → rk2 i = rk i) (h2 : ∀ i, i < n → td.testBit i = false → rk2 i = nI (p + 1)) : ∃ q : Nat → Nat, (∀ c, c < n → rk2 c = nI (q c)) ∧ z_RK n q := by
  obtain ⟨h3, h4, h5⟩ := h
  have hx : ∀ c, c < n → ∃ x, rk2 c = nI x ∧ (td.testBit c = true → x ≤ p) ∧ (td.testBit c = false → x = p + 1) := by
    intro c hc
    cases hb : td.testBit c with
    | true =>
      obtain ⟨x, hx, e⟩ := h4 c hc hb
      exact ⟨x, (h1 c hb).trans e, fun _ => hx, fun q => (by cases q)⟩
    | false => exact ⟨p + 1, h2 c hc hb, fun q => (by cases q), fun _ => rfl⟩
  refine ⟨fun c => (rk2 c).toNatClampNeg, fun c hc => ?_, z_RK_of fun c hc y hy => ?_⟩
  · obtain ⟨x, e, q1, q2⟩ := hx c hc
    have : x ≤ p + 1 := by
      cases hb : td.testBit c with
      | true => have := q1 hb; omega
      | false => have := q2 hb; omega
    simp only [e]
    rw [nI_clamp (by omega)]
  · obtain ⟨x, e, q1, q2⟩ := hx c hc
    have hxp : x ≤ p + 1 := by
      cases hb : td.testBit c with
      | true => have := q1 hb; omega
      | false => have := q2 hb; omega
    simp only [e] at hy
    rw [nI_clamp (by omega)] at hy
    obtain ⟨c2, hc2, hb2, e2⟩ := h5 y (by omega)
    refine ⟨c2, hc2, ?_⟩
    simp only [h1 c2 hb2, e2]
    exact nI_clamp (by omega)
theorem z_GI_cn {g : Nat → Int32} {n outs bm ms b c : Nat} {dr cn : Nat → Nat} {pl : Nat → Nat → Nat} (h : z_GI g n outs bm ms dr cn pl) (hb : b < bm) (h1 : 1 ≤ c) (h2 : c ≤ 1000000) : z_GI (upd g (12 + b) (nI c)) n outs bm ms dr (fun x => if x = b then c else cn x) pl := by
  obtain ⟨⟨hn0, hn2, hn8⟩, ⟨ho0, ho8, hin⟩, ⟨hb0, hb40⟩, ⟨hm0, hm4⟩, ⟨hdr, hdl, hdc⟩, hcn, hpl⟩ := h
  refine ⟨⟨by rw [z_un (by omega)]; exact hn0, hn2, hn8⟩, ⟨by rw [z_un (by omega)]; exact ho0, ho8, hin⟩, ⟨by rw [z_un (by omega)]; exact hb0, hb40⟩, ⟨by rw [z_un (by omega)]; exact hm0, hm4⟩, ⟨fun i hi => by rw [z_un (by omega)]; exact hdr i hi, hdl, hdc⟩, fun x hx => ?_, fun x hx => ⟨fun c hc => by rw [z_un (by omega)]; exact (hpl x hx).1 c hc, (hpl x hx).2⟩⟩
  by_cases e : x = b
  · subst e
    simp only [if_pos]
    exact ⟨pk_us, h1, h2⟩
  · simp only [if_neg e]
    exact ⟨by rw [z_un (by omega)]; exact (hcn x hx).1, (hcn x hx).2⟩
theorem z_GI_push {g g2 : Nat → Int32} {n outs bm ms c : Nat} {dr cn q : Nat → Nat} {pl : Nat → Nat → Nat} (h : z_GI g n outs bm ms dr cn pl) (hb : bm < 40) (h1 : 1 ≤ c) (h2 : c ≤ 1000000) (hq : z_RK n q) (e1 : g2 2 = nI (bm + 1)) (e2 : g2 (12 + bm) = nI c) (e3 : ∀ i, i < n → g2 (52 + 8 * bm + i) = nI (q i)) (e4 : ∀ i, i ≠ 2 → i ≠ 12 + bm → (i < 52 + 8 * bm ∨ 52 + 8 * bm + 8 ≤ i) → g2 i = g i) : z_GI g2 n outs (bm + 1) ms dr (fun x => if x = bm then c else cn x) (fun x => if x = bm then q else pl x) := by
  obtain ⟨⟨hn0, hn2, hn8⟩, ⟨ho0, ho8, hin⟩, ⟨hb0, hb40⟩, ⟨hm0, hm4⟩, ⟨hdr, hdl, hdc⟩, hcn, hpl⟩ := h
  refine ⟨⟨by rw [e4 _ (by omega) (by omega) (by omega)]; exact hn0, hn2, hn8⟩, ⟨by rw [e4 _ (by omega) (by omega) (by omega)]; exact ho0, ho8, hin⟩, ⟨e1, by omega⟩, ⟨by rw [e4 _ (by omega) (by omega) (by omega)]; exact hm0, hm4⟩, ⟨fun i hi => by rw [e4 _ (by omega) (by omega) (by omega)]; exact hdr i hi, hdl, hdc⟩, fun x hx => ?_, fun x hx => ?_⟩
  · by_cases e : x = bm
    · subst e
      simp only [if_pos]
      exact ⟨e2, h1, h2⟩
    · simp only [if_neg e]
      exact ⟨by rw [e4 _ (by omega) (by omega) (by omega)]; exact (hcn x (by omega)).1, (hcn x (by omega)).2⟩
  · by_cases e : x = bm
    · subst e
      simp only [if_pos]
      exact ⟨e3, hq⟩
    · simp only [if_neg e]
      exact ⟨fun c hc => by rw [e4 _ (by omega) (by omega) (by omega)]; exact (hpl x (by omega)).1 c hc, (hpl x (by omega)).2⟩
theorem z_GI_pop {g g2 : Nat → Int32} {n outs bm ms b : Nat} {dr cn : Nat → Nat} {pl : Nat → Nat → Nat} (h : z_GI g n outs bm ms dr cn pl) (hb : b < bm) (e2 : g2 2 = nI (bm - 1)) (e3 : ∀ x, b ≤ x → x < bm - 1 → g2 (12 + x) = g (12 + (x + 1)) ∧ ∀ c, c < 8 → g2 (52 + 8 * x + c) = g (52 + 8 * (x + 1) + c)) (e4 : ∀ i, i ≠ 2 → (i < 12 + b ∨ (51 < i ∧ i < 52 + 8 * b)) → g2 i = g i) : z_GI g2 n outs (bm - 1) ms dr (fun x => if x < b then cn x else cn (x + 1)) (fun x => if x < b then pl x else pl (x + 1)) := by
  obtain ⟨⟨hn0, hn2, hn8⟩, ⟨ho0, ho8, hin⟩, ⟨hb0, hb40⟩, ⟨hm0, hm4⟩, ⟨hdr, hdl, hdc⟩, hcn, hpl⟩ := h
  refine ⟨⟨by rw [e4 _ (by omega) (by omega)]; exact hn0, hn2, hn8⟩, ⟨by rw [e4 _ (by omega) (by omega)]; exact ho0, ho8, hin⟩, ⟨e2, by omega⟩, ⟨by rw [e4 _ (by omega) (by omega)]; exact hm0, hm4⟩, ⟨fun i hi => by rw [e4 _ (by omega) (by omega)]; exact hdr i hi, hdl, hdc⟩, fun x hx => ?_, fun x hx => ?_⟩
  · by_cases e : x < b
    · simp only [if_pos e]
      exact ⟨by rw [e4 _ (by omega) (by omega)]; exact (hcn x (by omega)).1, (hcn x (by omega)).2⟩
    · simp only [if_neg e]
      exact ⟨by rw [(e3 x (by omega) hx).1]; exact (hcn (x + 1) (by omega)).1, (hcn (x + 1) (by omega)).2⟩
  · by_cases e : x < b
    · simp only [if_pos e]
      exact ⟨fun c hc => by rw [e4 _ (by omega) (by omega)]; exact (hpl x (by omega)).1 c hc, (hpl x (by omega)).2⟩
    · simp only [if_neg e]
      exact ⟨fun c hc => by rw [(e3 x (by omega) hx).2 c (by omega)]; exact (hpl (x + 1) (by omega)).1 c hc, (hpl (x + 1) (by omega)).2⟩
/-- the greatest place of n -/
def z_mx : Nat → (Nat → Nat) → Nat
  | 0, _ => 0
  | n + 1, q => max (z_mx n q) (q n)
theorem z_mx_ge {q : Nat → Nat} : ∀ {n c : Nat}, c < n → q c ≤ z_mx n q
  | n + 1, c, h => by
    unfold z_mx
    rcases (by omega : c < n ∨ c = n) with h1 | h1
    · have := z_mx_ge (q := q) h1; omega
    · subst h1; omega
theorem z_mx_at {q : Nat → Nat} : ∀ {n : Nat}, 0 < n → ∃ c, c < n ∧ q c = z_mx n q
  | n + 1, _ => by
    unfold z_mx
    rcases Nat.eq_zero_or_pos n with h | h
    · subst h; exact ⟨0, by omega, by simp [z_mx]⟩
    · obtain ⟨c, hc, e⟩ := z_mx_at (q := q) h
      rcases Nat.le_total (z_mx n q) (q n) with h2 | h2
      · exact ⟨n, by omega, by omega⟩
      · exact ⟨c, by omega, by omega⟩
def z_ct : Nat → (Nat → Bool) → Nat
  | 0, _ => 0
  | n + 1, p => z_ct n p + (if p n = true then 1 else 0)
theorem z_ct_le (p : Nat → Bool) : ∀ n, z_ct n p ≤ n
  | 0 => Nat.le_refl 0
  | n + 1 => by
    have := z_ct_le p n
    unfold z_ct
    split <;> omega
theorem z_ct_mono (p : Nat → Bool) {m : Nat} : ∀ {n : Nat}, m ≤ n → z_ct m p ≤ z_ct n p
  | 0, h => by obtain rfl : m = 0 := by omega
               exact Nat.le_refl _
  | n + 1, h => by
    rcases (by omega : m ≤ n ∨ m = n + 1) with h1 | h1
    · have := z_ct_mono p h1
      show _ ≤ z_ct n p + _
      omega
    · subst h1; exact Nat.le_refl _
theorem z_ct_pos {p : Nat → Bool} : ∀ {n c : Nat}, c < n → p c = true → 0 < z_ct n p
  | n + 1, c, h, hp => by
    unfold z_ct
    rcases (by omega : c < n ∨ c = n) with h1 | h1
    · have := z_ct_pos h1 hp; omega
    · subst h1; rw [if_pos hp]; omega
theorem z_ct_split (q : Nat → Nat) (p : Nat) : ∀ n, z_ct n (fun c => decide (q c < p)) + z_ct n (fun c => decide (q c = p)) = z_ct n (fun c => decide (q c < p + 1))
  | 0 => rfl
  | n + 1 => by
    have := z_ct_split q p n
    unfold z_ct
    rcases (by omega : q n < p ∨ q n = p ∨ p < q n) with h | h | h
    · rw [if_pos (by simp [h]), if_neg (by simp; omega), if_pos (by simp; omega)]; omega
    · rw [if_neg (by simp; omega), if_pos (by simp [h]), if_pos (by simp; omega)]; omega
    · rw [if_neg (by simp; omega), if_neg (by simp; omega), if_neg (by simp; omega)]; omega
theorem z_mx_le {q : Nat → Nat} : ∀ {n : Nat}, (∀ c, c < n → q c ≤ 8) → z_mx n q ≤ 8
  | 0, _ => by unfold z_mx; omega
  | n + 1, h => by
    have h1 := z_mx_le (q := q) (n := n) (fun c hc => h c (by omega))
    have h2 := h n (by omega)
    unfold z_mx
    omega
theorem z_ct_zero {q : Nat → Nat} : ∀ n, z_ct n (fun c => decide (q c < 0)) = 0
  | 0 => rfl
  | n + 1 => by
    have := z_ct_zero (q := q) n
    unfold z_ct
    rw [this, if_neg (by simp)]
theorem z_ct_place {n p : Nat} {q : Nat → Nat} (hn : 2 ≤ n) (h : z_RK n q) (hp : p ≤ z_mx n q) : 0 < z_ct n (fun c => decide (q c = p)) := by
  obtain ⟨c, hc, e⟩ := z_mx_at (n := n) (q := q) (by omega)
  rcases (by omega : p = z_mx n q ∨ p < z_mx n q) with h1 | h1
  · exact z_ct_pos hc (by simp [e, h1])
  · obtain ⟨c2, hc2, e2⟩ := h.2 c hc p (by omega)
    exact z_ct_pos hc2 (by simp [e2])
