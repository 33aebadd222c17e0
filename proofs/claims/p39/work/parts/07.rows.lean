/-! rows over the pure machine -/
def z_EV (d : Nat) (q : z_M) (R : z_T) (σ : z_S) : Prop := z_ev (z_CAL d) q R σ
section ER
variable {d : Nat} {q : z_M} {R : z_T} {pc t y : Nat} {lv lv' : z_L} {st rest : List Value} {h : List z_E} {σ σ' σ1 σ2 : z_S}
theorem e_one (hs : z_stp q σ = some σ') (k : z_EV d q R σ') : z_EV d q R σ := fun X hX => hX.1 _ _ hs (k X hX)
theorem e_steps : ∀ (k : Nat) {σ : z_S}, z_stpN q k σ = some σ' → z_EV d q R σ' → z_EV d q R σ
  | 0, σ, hs, hk => by cases hs; exact hk
  | k + 1, σ, hs, hk => by
    unfold z_stpN at hs
    split at hs
    · rename_i σ2 h2
      exact e_one h2 (e_steps k hs hk)
    · cases hs
theorem e_if {c : Prop} [Decidable c] (hs : z_stp q σ = if c then some σ1 else some σ2) (k1 : c → z_EV d q R σ1) (k2 : ¬ c → z_EV d q R σ2) : z_EV d q R σ := by
  by_cases hc : c
  · rw [if_pos hc] at hs; exact e_one hs (k1 hc)
  · rw [if_neg hc] at hs; exact e_one hs (k2 hc)
theorem e_ifT {c : Prop} [Decidable c] (hs : z_stp q σ = if c then some σ1 else some σ2) (hc : c) (k1 : z_EV d q R σ1) : z_EV d q R σ := by
  rw [if_pos hc] at hs; exact e_one hs k1
theorem e_ifF {c : Prop} [Decidable c] (hs : z_stp q σ = if c then some σ1 else some σ2) (hc : ¬ c) (k2 : z_EV d q R σ2) : z_EV d q R σ := by
  rw [if_neg hc] at hs; exact e_one hs k2
theorem e_gd {c : Prop} [Decidable c] (hs : z_stp q σ = if c then some σ' else none) (hc : c) (k : z_EV d q R σ') : z_EV d q R σ := by
  rw [if_pos hc] at hs; exact e_one hs k
theorem e_sub (ks : List Nat) (hp : lv_pick lv ks = lv') (k : z_EV d q R (pc, lv', st, h)) : z_EV d q R (pc, lv, st, h) := fun X hX => hX.2.1 _ ks (by show X (pc, lv_pick lv ks, st, h); rw [hp]; exact k X hX)
theorem e_ret {r : Option Value} (he : z_end q (pc, lv, st, h) = some r) (hok : z_rok q.2.2.2.1 r) (hR : R r h) : z_EV d q R (pc, lv, st, h) := fun X hX => hX.2.2.1 _ r he hok hR
theorem e_call {av : List Value} {P : z_T} (hc : z_cin q (pc, lv, st, h) = some (y, av, rest)) (hC : z_CAL d y av h P) (k : ∀ r h', P r h' → z_EV d q R (pc + 3, lv, r.toList ++ rest, h')) : z_EV d q R (pc, lv, st, h) :=
  fun X hX => hX.2.2.2 _ y av rest P hc hC (fun r h' hp => k r h' hp X hX)
theorem e_of {y : Nat} {av : List Value} (hq : z_mt[y]? = some q) (hl : Nat.ble (lg_sl av).length q.2.2.1 = true) (k : z_EV d q R (0, lv_args 0 av, [], h)) : z_CAL (d + 1) y av h R := ⟨q, hq, Nat.le_of_ble_eq_true hl, k⟩
theorem e_of2 {y : Nat} {av : List Value} (hq : z_mt[y]? = some q) (hl : Nat.ble (lg_sl av).length q.2.2.1 = true) (k : ∀ R' : z_T, (∀ r h', R r h' → R' r h') → z_EV d q R' (0, lv_args 0 av, [], h)) : z_CAL (d + 1) y av h R := e_of hq hl (k R (fun _ _ hh => hh))
theorem z_CAL_mono {y : Nat} {av : List Value} {P P' : z_T} (hP : ∀ r h', P r h' → P' r h') : ∀ {d : Nat}, z_CAL d y av h P → z_CAL d y av h P'
  | 0, hc => absurd hc id
  | d + 1, hc => by
    obtain ⟨q, h1, h2, h3⟩ := hc
    refine ⟨q, h1, h2, fun X hX => h3 X ⟨hX.1, hX.2.1, fun σ r he hok hR => hX.2.2.1 σ r he hok (hP _ _ hR), hX.2.2.2⟩⟩
/-! numbers known as nI -/
theorem e_add {a b : Nat} (c : Nat) (hs : z_F q pc = some .iadd) (hc : a + b = c) (k : z_EV d q R (pc + 1, lv, .int (nI c) :: rest, h)) : z_EV d q R (pc, lv, .int (nI b) :: .int (nI a) :: rest, h) := by
  subst hc
  refine e_one (σ' := (pc + 1, lv, .int (nI a + nI b) :: rest, h)) ?_ (by rw [nI_add]; exact k)
  simp only [z_stp, hs, z_ins]
theorem e_mul {a b : Nat} (c : Nat) (hs : z_F q pc = some .imul) (hc : a * b = c) (k : z_EV d q R (pc + 1, lv, .int (nI c) :: rest, h)) : z_EV d q R (pc, lv, .int (nI b) :: .int (nI a) :: rest, h) := by
  subst hc
  refine e_one (σ' := (pc + 1, lv, .int (nI a * nI b) :: rest, h)) ?_ (by rw [pk_mul]; exact k)
  simp only [z_stp, hs, z_ins]
theorem e_sbt {a b : Nat} (c : Nat) (hs : z_F q pc = some .isub) (hb : b ≤ a) (hc : a - b = c) (k : z_EV d q R (pc + 1, lv, .int (nI c) :: rest, h)) : z_EV d q R (pc, lv, .int (nI b) :: .int (nI a) :: rest, h) := by
  subst hc
  refine e_one (σ' := (pc + 1, lv, .int (nI a - nI b) :: rest, h)) ?_ (by rw [pk_sub hb]; exact k)
  simp only [z_stp, hs, z_ins]
theorem e_inc {i a n : Nat} (hs : z_F q pc = some (.iinc i (.ofNat n))) (hl : z_ld lv i = some (.int (nI a))) (hn : Nat.ble (i + 1) q.2.2.1 = true) (c : Nat) (hc : a + n = c) (lv2 : z_L) (h2 : z_st1 lv i (.int (nI c)) = lv2) (k : z_EV d q R (pc + 3, lv2, st, h)) : z_EV d q R (pc, lv, st, h) := by
  subst hc h2
  refine e_one (σ' := (pc + 3, z_st1 lv i (.int (nI a + z_c (.ofNat n))), st, h)) ?_ (by show z_EV d q R (pc + 3, z_st1 lv i (.int (nI a + nI n)), st, h); rw [nI_add]; exact k)
  simp only [z_stp, hs, z_ins, hl, hn, cond_true]
theorem e_dec {i a n : Nat} (hs : z_F q pc = some (.iinc i (.negSucc n))) (hl : z_ld lv i = some (.int (nI a))) (hn : Nat.ble (i + 1) q.2.2.1 = true) (c : Nat) (hle : n + 1 ≤ a) (hc : a - (n + 1) = c) (lv2 : z_L) (h2 : z_st1 lv i (.int (nI c)) = lv2) (k : z_EV d q R (pc + 3, lv2, st, h)) : z_EV d q R (pc, lv, st, h) := by
  subst hc h2
  have e : nI a + -nI (n + 1) = nI (a - (n + 1)) := by rw [← pk_sub hle]; exact (Int32.sub_eq_add_neg _ _).symm
  refine e_one (σ' := (pc + 3, z_st1 lv i (.int (nI a + z_c (.negSucc n))), st, h)) ?_ (by show z_EV d q R (pc + 3, z_st1 lv i (.int (nI a + -nI (n + 1))), st, h); rw [e]; exact k)
  simp only [z_stp, hs, z_ins, hl, hn, cond_true]
theorem z_inN {k n : Nat} (hk : k < n) (hn : n < 2 ^ 31) : ¬ (nI k < 0 ∨ n ≤ (nI k).toNatClampNeg) := by
  rw [nI_clamp (by omega)]
  rintro (h1 | h1)
  · exact nI_pos (by omega) h1
  · omega
theorem e_ial {a n kk : Nat} {f : Nat → Int32} (v : Int32) (hs : z_F q pc = some .iaload) (hh : h[a]? = some (.inl (0, n, .inl f))) (hk : kk < n) (hn : n < 2 ^ 31) (hv : f kk = v) (k : z_EV d q R (pc + 1, lv, .int v :: rest, h)) : z_EV d q R (pc, lv, .int (nI kk) :: .ref a :: rest, h) := by
  subst hv
  refine e_gd (σ' := (pc + 1, lv, .int (f (nI kk).toNatClampNeg) :: rest, h)) ?_ (z_inN hk hn) (by rw [nI_clamp (by omega)]; exact k)
  simp only [z_stp, hs, z_ins, hh]
theorem e_lal {a n kk : Nat} {f : Nat → Int64} (v : Int64) (hs : z_F q pc = some .laload) (hh : h[a]? = some (.inl (1, n, .inr (.inl f)))) (hk : kk < n) (hn : n < 2 ^ 31) (hv : f kk = v) (k : z_EV d q R (pc + 1, lv, .long v :: rest, h)) : z_EV d q R (pc, lv, .int (nI kk) :: .ref a :: rest, h) := by
  subst hv
  refine e_gd (σ' := (pc + 1, lv, .long (f (nI kk).toNatClampNeg) :: rest, h)) ?_ (z_inN hk hn) (by rw [nI_clamp (by omega)]; exact k)
  simp only [z_stp, hs, z_ins, hh]
theorem e_bal {a n kk : Nat} {f : Nat → Int32} (v : Int32) (hs : z_F q pc = some .baload) (hh : h[a]? = some (.inl (2, n, .inl f))) (hk : kk < n) (hn : n < 2 ^ 31) (hv : f kk = v) (k : z_EV d q R (pc + 1, lv, .int v :: rest, h)) : z_EV d q R (pc, lv, .int (nI kk) :: .ref a :: rest, h) := by
  subst hv
  refine e_gd (σ' := (pc + 1, lv, .int (f (nI kk).toNatClampNeg) :: rest, h)) ?_ (z_inN hk hn) (by rw [nI_clamp (by omega)]; exact k)
  simp only [z_stp, hs, z_ins, hh]
theorem e_ias {a n kk : Nat} {f : Nat → Int32} {x : Int32} (h2 : List z_E) (hs : z_F q pc = some .iastore) (hh : h[a]? = some (.inl (0, n, .inl f))) (hk : kk < n) (hn : n < 2 ^ 31) (he : h.set a (.inl (0, n, .inl (upd f kk x))) = h2) (k : z_EV d q R (pc + 1, lv, rest, h2)) : z_EV d q R (pc, lv, .int x :: .int (nI kk) :: .ref a :: rest, h) := by
  subst he
  refine e_gd (σ' := (pc + 1, lv, rest, h.set a (.inl (0, n, .inl (upd f (nI kk).toNatClampNeg x))))) ?_ (z_inN hk hn) (by rw [nI_clamp (by omega)]; exact k)
  simp only [z_stp, hs, z_ins, hh]
theorem e_las {a n kk : Nat} {f : Nat → Int64} {x : Int64} (h2 : List z_E) (hs : z_F q pc = some .lastore) (hh : h[a]? = some (.inl (1, n, .inr (.inl f)))) (hk : kk < n) (hn : n < 2 ^ 31) (he : h.set a (.inl (1, n, .inr (.inl (vp_updL f kk x)))) = h2) (k : z_EV d q R (pc + 1, lv, rest, h2)) : z_EV d q R (pc, lv, .long x :: .int (nI kk) :: .ref a :: rest, h) := by
  subst he
  refine e_gd (σ' := (pc + 1, lv, rest, h.set a (.inl (1, n, .inr (.inl (vp_updL f (nI kk).toNatClampNeg x)))))) ?_ (z_inN hk hn) (by rw [nI_clamp (by omega)]; exact k)
  simp only [z_stp, hs, z_ins, hh]
theorem z_narN (b : Nat) (hb : b < 2) : vp_nar .boolean (nI b) = nI b := by
  match b, hb with
  | 0, _ => decide +kernel
  | 1, _ => decide +kernel
theorem e_bas {a n kk b : Nat} {f : Nat → Int32} (h2 : List z_E) (hs : z_F q pc = some .bastore) (hh : h[a]? = some (.inl (2, n, .inl f))) (hk : kk < n) (hn : n < 2 ^ 31) (hb : b < 2) (he : h.set a (.inl (2, n, .inl (upd f kk (nI b)))) = h2) (k : z_EV d q R (pc + 1, lv, rest, h2)) : z_EV d q R (pc, lv, .int (nI b) :: .int (nI kk) :: .ref a :: rest, h) := by
  subst he
  refine e_gd (σ' := (pc + 1, lv, rest, h.set a (.inl (2, n, .inl (upd f (nI kk).toNatClampNeg (vp_nar .boolean (nI b))))))) ?_ (z_inN hk hn) (by rw [nI_clamp (by omega), z_narN b hb]; exact k)
  simp only [z_stp, hs, z_ins, hh]
theorem e_i2l {a : Nat} (hs : z_F q pc = some .i2l) (ha : a < 2 ^ 31) (k : z_EV d q R (pc + 1, lv, .long (lN a) :: rest, h)) : z_EV d q R (pc, lv, .int (nI a) :: rest, h) := by
  refine e_one (σ' := (pc + 1, lv, .long (nI a).toInt64 :: rest, h)) ?_ (by rw [nI_l ha]; exact k)
  simp only [z_stp, hs, z_ins]
theorem e_l2i {a : Nat} (hs : z_F q pc = some .l2i) (k : z_EV d q R (pc + 1, lv, .int (nI a) :: rest, h)) : z_EV d q R (pc, lv, .long (lN a) :: rest, h) := by
  refine e_one (σ' := (pc + 1, lv, .int (lN a).toInt32 :: rest, h)) ?_ (by rw [lN_i]; exact k)
  simp only [z_stp, hs, z_ins]
theorem e_eqst (h1 : σ = σ') (k : z_EV d q R σ') : z_EV d q R σ := by rw [h1]; exact k
end ER
