/-! numbers: small laws -/
theorem z0_eq {a : Nat} (h : a < 2 ^ 31) : nI a = 0 ↔ a = 0 := by
  constructor
  · intro q
    have := (nI_eq (b := 0) h (by decide)).mp q
    exact this
  · intro q; subst q; rfl
theorem z0_ne {a : Nat} (h : a < 2 ^ 31) : nI a = 0 ↔ a = 0 := z0_eq h
theorem z0_gt {a : Nat} (h : a < 2 ^ 31) : 0 < nI a ↔ 0 < a := (nI_ltI (a := 0) (by decide) h)
theorem z0_le {a : Nat} (h : a < 2 ^ 31) : nI a ≤ 0 ↔ a = 0 := by
  have := nI_leI (b := 0) h (by decide)
  exact this.trans (by omega)
theorem z_in_nat {c : Int32} {m : Nat} (hm : m < 2 ^ 31) (h : lN 0 ≤ c.toInt64 ∧ c.toInt64 ≤ lN m) : ∃ k : Nat, k ≤ m ∧ c = nI k := by
  obtain ⟨h1, h2⟩ := h
  have e : c.toInt64.toInt = c.toInt := Int32.toInt_toInt64 c
  rw [Int64.le_iff_toInt_le, pk_lT (by omega), e] at h1
  rw [Int64.le_iff_toInt_le, pk_lT (by omega), e] at h2
  refine ⟨c.toInt.toNat, by omega, ?_⟩
  have h3 : c.toInt = (nI c.toInt.toNat).toInt := by
    rw [nI_toInt (by omega)]
    omega
  exact Int32.toInt_inj.mp h3
theorem z_nat_in {k m : Nat} (hm : m < 2 ^ 31) (h : k ≤ m) : lN 0 ≤ (nI k).toInt64 ∧ (nI k).toInt64 ≤ lN m := by
  rw [nI_l (by omega)]
  exact ⟨(lN_le (by omega) (by omega)).mpr (Nat.zero_le _), (lN_le (by omega) (by omega)).mpr h⟩
theorem z_sw2 (x : Int32) : x = nI 0 ∨ x = nI 1 ∨ x = nI 2 ∨ (x.toInt < 0 ∨ 2 < x.toInt) := by
  have hh : ∀ k : Nat, k < 3 → x.toInt = (k : Int) → x = nI k := fun k hk h => by
    have : x.toInt = (nI k).toInt := by rw [nI_toInt (by omega)]; exact h
    exact Int32.toInt_inj.mp this
  rcases (by omega : x.toInt < 0 ∨ 0 ≤ x.toInt) with h | h
  · exact Or.inr (Or.inr (Or.inr (Or.inl h)))
  · rcases (by omega : 2 < x.toInt ∨ x.toInt ≤ 2) with h2 | h2
    · exact Or.inr (Or.inr (Or.inr (Or.inr h2)))
    · rcases (by omega : x.toInt = 0 ∨ x.toInt = 1 ∨ x.toInt = 2) with q | q | q
      · exact Or.inl (hh 0 (by omega) q)
      · exact Or.inr (Or.inl (hh 1 (by omega) q))
      · exact Or.inr (Or.inr (Or.inl (hh 2 (by omega) q)))
theorem z_sw8 (x : Int32) : x = nI 0 ∨ x = nI 1 ∨ x = nI 2 ∨ x = nI 3 ∨ x = nI 4 ∨ x = nI 5 ∨ x = nI 6 ∨ x = nI 7 ∨ x = nI 8 ∨ (x.toInt < 0 ∨ 8 < x.toInt) := by
  have hh : ∀ k : Nat, k < 9 → x.toInt = (k : Int) → x = nI k := fun k hk h => by
    have : x.toInt = (nI k).toInt := by rw [nI_toInt (by omega)]; exact h
    exact Int32.toInt_inj.mp this
  rcases (by omega : x.toInt < 0 ∨ 0 ≤ x.toInt) with h | h
  · simp [h]
  · rcases (by omega : 8 < x.toInt ∨ x.toInt ≤ 8) with h2 | h2
    · simp [h2]
    · rcases (by omega : x.toInt = 0 ∨ x.toInt = 1 ∨ x.toInt = 2 ∨ x.toInt = 3 ∨ x.toInt = 4 ∨ x.toInt = 5 ∨ x.toInt = 6 ∨ x.toInt = 7 ∨ x.toInt = 8) with q | q | q | q | q | q | q | q | q
      · have := hh 0 (by omega) q; simp [this]
      · have := hh 1 (by omega) q; simp [this]
      · have := hh 2 (by omega) q; simp [this]
      · have := hh 3 (by omega) q; simp [this]
      · have := hh 4 (by omega) q; simp [this]
      · have := hh 5 (by omega) q; simp [this]
      · have := hh 6 (by omega) q; simp [this]
      · have := hh 7 (by omega) q; simp [this]
      · have := hh 8 (by omega) q; simp [this]
/-- a switch beside its cases -/
theorem z_swd {q : z_M} {pc : Nat} {lv : z_L} {r : List Value} {h : List z_E} {x : Int32} {d lo hi : Int} {offs : Array Int} {t : Nat} (hF : z_F q pc = some (.tableswitch d lo hi offs)) (hx : x.toInt < lo ∨ hi < x.toInt) (ht : z_tgt pc d = some t) : z_stp q (pc, lv, .int x :: r, h) = some (t, lv, r, h) := by
  simp only [z_stp, hF, z_ins, if_pos hx, ht]
/-! sets as numbers below 256: all by looking -/
theorem z_all2 {P : Nat → Nat → Prop} [∀ a b, Decidable (P a b)] {m n : Nat} (h : (List.range m).all (fun a => (List.range n).all (fun b => decide (P a b))) = true) {a b : Nat} (ha : a < m) (hb : b < n) : P a b := by
  have h1 := List.all_eq_true.mp h a (List.mem_range.mpr ha)
  exact of_decide_eq_true (List.all_eq_true.mp h1 b (List.mem_range.mpr hb))
theorem z_all1 {P : Nat → Prop} [∀ a, Decidable (P a)] {m : Nat} (h : (List.range m).all (fun a => decide (P a)) = true) {a : Nat} (ha : a < m) : P a := of_decide_eq_true (List.all_eq_true.mp h a (List.mem_range.mpr ha))
theorem z_has {s k : Nat} (hs : s < 256) (hk : k < 8) : ((nI s >>> (nI k &&& 31)) &&& nI 1 = nI 1) ↔ s.testBit k = true := z_all2 (P := fun s k => ((nI s >>> (nI k &&& 31)) &&& nI 1 = nI 1) ↔ s.testBit k = true) (m := 256) (n := 8) (by decide +kernel) hs hk
theorem z_one {k : Nat} (hk : k < 8) : nI 1 <<< (nI k &&& 31) = nI (2 ^ k) := z_all1 (P := fun k => nI 1 <<< (nI k &&& 31) = nI (2 ^ k)) (m := 8) (by decide +kernel) hk
theorem z_all_of {n : Nat} (hn : n < 9) : (nI 1 <<< (nI n &&& 31)) - nI 1 = nI (2 ^ n - 1) := z_all1 (P := fun n => (nI 1 <<< (nI n &&& 31)) - nI 1 = nI (2 ^ n - 1)) (m := 9) (by decide +kernel) hn
/-- a set without what is of another -/
def z_dif (s t : Nat) : Nat := s &&& (t ^^^ 255)
def z_pc (s : Nat) : Nat := ((List.range 8).filter (fun k => s.testBit k)).length
theorem z_hi {s i : Nat} (hs : s < 256) (hi : 8 ≤ i) : s.testBit i = false := Nat.testBit_lt_two_pow (Nat.lt_of_lt_of_le hs (Nat.pow_le_pow_right (n := 2) (i := 8) (by decide) hi))
theorem z_dif_bit {s t i : Nat} (hs : s < 256) : (z_dif s t).testBit i = (s.testBit i && !t.testBit i) := by
  unfold z_dif
  rw [Nat.testBit_and, Nat.testBit_xor]
  rcases Nat.lt_or_ge i 8 with h | h
  · rw [show (255 : Nat).testBit i = true from z_all1 (P := fun i => (255 : Nat).testBit i = true) (m := 8) (by decide) h]
    cases t.testBit i <;> rfl
  · rw [z_hi hs h]; rfl
theorem z_dif_le {s t : Nat} : z_dif s t ≤ s := Nat.and_le_left
theorem z_dif_eq {s t : Nat} (hs : s < 256) (ht : t < 256) : nI s &&& (nI t ^^^ (-nI 1)) = nI (z_dif s t) := by
  apply Int32.toBitVec_inj.mp
  apply BitVec.eq_of_toNat_eq
  rw [Int32.toBitVec_and, Int32.toBitVec_xor, BitVec.toNat_and, BitVec.toNat_xor, pk_tn (by omega), pk_tn (by omega), pk_tn (n := z_dif s t) (by have := z_dif_le (s := s) (t := t); omega)]
  rw [show (-nI 1).toBitVec.toNat = 4294967295 by decide +kernel]
  apply Nat.eq_of_testBit_eq
  intro i
  rw [z_dif_bit hs, Nat.testBit_and, Nat.testBit_xor]
  rcases Nat.lt_or_ge i 8 with h | h
  · rw [show (4294967295 : Nat).testBit i = true from z_all1 (P := fun i => (4294967295 : Nat).testBit i = true) (m := 8) (by decide) h]
    cases t.testBit i <;> rfl
  · rw [z_hi hs h]; rfl
theorem z_p2 {n : Nat} (hn : n ≤ 8) : 2 ^ n ≤ 256 := Nat.pow_le_pow_right (by decide) hn
