/-! the law's machine: numbers -/
section YN
variable {ε : y_Ev} {κ : y_K} {q : z_M} {fr lo mc ms nc ns : Nat} {ws : va_W} {pc : Nat} {lv : z_L} {st rest : List Value}
/-! numbers known as nI -/
theorem y_add {a b : Nat} (hC : y_ok ε κ q fr lo mc ms) (c : Nat) (hs : z_F q pc = some .iadd) (hc : a + b = c) (k : y_G ε κ q nc ns ws (pc + 1, lv, .int (nI c) :: rest, [])) : y_G ε κ q nc ns ws (pc, lv, .int (nI b) :: .int (nI a) :: rest, []) := by
  subst hc
  refine y_one hC (σ' := (pc + 1, lv, .int (nI a + nI b) :: rest, [])) ?_ (by rw [nI_add]; exact k)
  simp only [y_stp, y_pure, cond_true, hs, z_ins]
theorem y_mul {a b : Nat} (hC : y_ok ε κ q fr lo mc ms) (c : Nat) (hs : z_F q pc = some .imul) (hc : a * b = c) (k : y_G ε κ q nc ns ws (pc + 1, lv, .int (nI c) :: rest, [])) : y_G ε κ q nc ns ws (pc, lv, .int (nI b) :: .int (nI a) :: rest, []) := by
  subst hc
  refine y_one hC (σ' := (pc + 1, lv, .int (nI a * nI b) :: rest, [])) ?_ (by rw [pk_mul]; exact k)
  simp only [y_stp, y_pure, cond_true, hs, z_ins]
theorem y_sbt {a b : Nat} (hC : y_ok ε κ q fr lo mc ms) (c : Nat) (hs : z_F q pc = some .isub) (hb : b ≤ a) (hc : a - b = c) (k : y_G ε κ q nc ns ws (pc + 1, lv, .int (nI c) :: rest, [])) : y_G ε κ q nc ns ws (pc, lv, .int (nI b) :: .int (nI a) :: rest, []) := by
  subst hc
  refine y_one hC (σ' := (pc + 1, lv, .int (nI a - nI b) :: rest, [])) ?_ (by rw [pk_sub hb]; exact k)
  simp only [y_stp, y_pure, cond_true, hs, z_ins]
theorem y_inc {i a n : Nat} (hC : y_ok ε κ q fr lo mc ms) (hs : z_F q pc = some (.iinc i (.ofNat n))) (hl : z_ld lv i = some (.int (nI a))) (hn : Nat.ble (i + 1) q.2.2.1 = true) (c : Nat) (hc : a + n = c) (lv2 : z_L) (h2 : z_st1 lv i (.int (nI c)) = lv2) (k : y_G ε κ q nc ns ws (pc + 3, lv2, st, [])) : y_G ε κ q nc ns ws (pc, lv, st, []) := by
  subst hc h2
  refine y_one hC (σ' := (pc + 3, z_st1 lv i (.int (nI a + z_c (.ofNat n))), st, [])) ?_ (by show y_G ε κ q nc ns ws (pc + 3, z_st1 lv i (.int (nI a + nI n)), st, []); rw [nI_add]; exact k)
  simp only [y_stp, y_pure, cond_true, hs, z_ins, hl, hn, cond_true]
theorem y_dec {i a n : Nat} (hC : y_ok ε κ q fr lo mc ms) (hs : z_F q pc = some (.iinc i (.negSucc n))) (hl : z_ld lv i = some (.int (nI a))) (hn : Nat.ble (i + 1) q.2.2.1 = true) (c : Nat) (hle : n + 1 ≤ a) (hc : a - (n + 1) = c) (lv2 : z_L) (h2 : z_st1 lv i (.int (nI c)) = lv2) (k : y_G ε κ q nc ns ws (pc + 3, lv2, st, [])) : y_G ε κ q nc ns ws (pc, lv, st, []) := by
  subst hc h2
  have e : nI a + -nI (n + 1) = nI (a - (n + 1)) := by rw [← pk_sub hle]; exact (Int32.sub_eq_add_neg _ _).symm
  refine y_one hC (σ' := (pc + 3, z_st1 lv i (.int (nI a + z_c (.negSucc n))), st, [])) ?_ (by show y_G ε κ q nc ns ws (pc + 3, z_st1 lv i (.int (nI a + -nI (n + 1))), st, []); rw [e]; exact k)
  simp only [y_stp, y_pure, cond_true, hs, z_ins, hl, hn, cond_true]
theorem y_i2l {a : Nat} (hC : y_ok ε κ q fr lo mc ms) (hs : z_F q pc = some .i2l) (ha : a < 2 ^ 31) (k : y_G ε κ q nc ns ws (pc + 1, lv, .long (lN a) :: rest, [])) : y_G ε κ q nc ns ws (pc, lv, .int (nI a) :: rest, []) := by
  refine y_one hC (σ' := (pc + 1, lv, .long (nI a).toInt64 :: rest, [])) ?_ (by rw [nI_l ha]; exact k)
  simp only [y_stp, y_pure, cond_true, hs, z_ins]
theorem y_l2i {a : Nat} (hC : y_ok ε κ q fr lo mc ms) (hs : z_F q pc = some .l2i) (k : y_G ε κ q nc ns ws (pc + 1, lv, .int (nI a) :: rest, [])) : y_G ε κ q nc ns ws (pc, lv, .long (lN a) :: rest, []) := by
  refine y_one hC (σ' := (pc + 1, lv, .int (lN a).toInt32 :: rest, [])) ?_ (by rw [lN_i]; exact k)
  simp only [y_stp, y_pure, cond_true, hs, z_ins]
theorem y_and {a b : Nat} (hC : y_ok ε κ q fr lo mc ms) (c : Nat) (hs : z_F q pc = some .iand) (hc : a &&& b = c) (k : y_G ε κ q nc ns ws (pc + 1, lv, .int (nI c) :: rest, [])) : y_G ε κ q nc ns ws (pc, lv, .int (nI b) :: .int (nI a) :: rest, []) := by
  subst hc
  refine y_one hC (σ' := (pc + 1, lv, .int (nI a &&& nI b) :: rest, [])) ?_ (by rw [nI_and]; exact k)
  simp only [y_stp, y_pure, cond_true, hs, z_ins]
theorem y_or {a b : Nat} (hC : y_ok ε κ q fr lo mc ms) (c : Nat) (hs : z_F q pc = some .ior) (hc : a ||| b = c) (k : y_G ε κ q nc ns ws (pc + 1, lv, .int (nI c) :: rest, [])) : y_G ε κ q nc ns ws (pc, lv, .int (nI b) :: .int (nI a) :: rest, []) := by
  subst hc
  refine y_one hC (σ' := (pc + 1, lv, .int (nI a ||| nI b) :: rest, [])) ?_ (by rw [nI_or]; exact k)
  simp only [y_stp, y_pure, cond_true, hs, z_ins]
theorem y_shl {b : Nat} (hC : y_ok ε κ q fr lo mc ms) (hs : z_F q pc = some .ishl) (hb : b < 16) (k : y_G ε κ q nc ns ws (pc + 1, lv, .int (nI (2 ^ b)) :: rest, [])) : y_G ε κ q nc ns ws (pc, lv, .int (nI b) :: .int (nI 1) :: rest, []) := by
  refine y_one hC (σ' := (pc + 1, lv, .int (nI 1 <<< (nI b &&& 31)) :: rest, [])) ?_ (by rw [z_one hb]; exact k)
  simp only [y_stp, y_pure, cond_true, hs, z_ins]
theorem y_dif {a b : Nat} (hC : y_ok ε κ q fr lo mc ms) (hs : z_F q pc = some .iand) (ha : a < 256) (hb : b < 256) (k : y_G ε κ q nc ns ws (pc + 1, lv, .int (nI (z_dif a b)) :: rest, [])) : y_G ε κ q nc ns ws (pc, lv, .int (nI b ^^^ (-nI 1)) :: .int (nI a) :: rest, []) := by
  refine y_one hC (σ' := (pc + 1, lv, .int (nI a &&& (nI b ^^^ (-nI 1))) :: rest, [])) ?_ (by rw [z_dif_eq ha hb]; exact k)
  simp only [y_stp, y_pure, cond_true, hs, z_ins]
end YN
