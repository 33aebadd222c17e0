/-! equal answers: what both sides tell is one -/
theorem z_least {P : Nat → Prop} {x y : Nat} (hx : P x) (hx2 : ∀ z, z < x → ¬ P z) (hy : P y) (hy2 : ∀ z, z < y → ¬ P z) : x = y := by
  rcases Nat.lt_trichotomy x y with h | h | h
  · exact absurd hx (hy2 x h)
  · exact h
  · exact absurd hy (hx2 y h)
theorem z_fi_congr {n : Nat} {dr : Nat → Nat} {K K2 : Nat → Nat → Nat} {s : Nat} (h : ∀ i, i < n → ∀ j, j < n → K i j = K2 i j) : z_fi n dr K s = z_fi n dr K2 s := by
  unfold z_fi
  rw [z_ub_congr h]
theorem z_rv_congr {n : Nat} {dr : Nat → Nat} {K K2 : Nat → Nat → Nat} {s : Nat} (h : ∀ i, i < n → ∀ j, j < n → K i j = K2 i j) : ∀ k, z_rv n dr K s k = z_rv n dr K2 s k
  | 0 => rfl
  | k + 1 => by
    show z_dif (z_rv n dr K s k) (2 ^ z_fi n dr K (z_rv n dr K s k)) = z_dif (z_rv n dr K2 s k) (2 ^ z_fi n dr K2 (z_rv n dr K2 s k))
    rw [z_rv_congr h k, z_fi_congr h]
theorem z_red {a b c d : Nat} (ha : 0 < a) (hc : 0 < c) (h : a * d = c * b) : a / Nat.gcd a b = c / Nat.gcd c d := by
  have hg : 0 < Nat.gcd a b := Nat.gcd_pos_of_pos_left b ha
  have hh : 0 < Nat.gcd c d := Nat.gcd_pos_of_pos_left d hc
  have hp : Nat.Coprime (a / Nat.gcd a b) (b / Nat.gcd a b) := Nat.coprime_div_gcd_div_gcd hg
  have hq : Nat.Coprime (c / Nat.gcd c d) (d / Nat.gcd c d) := Nat.coprime_div_gcd_div_gcd hh
  have ea : a = a / Nat.gcd a b * Nat.gcd a b := (Nat.div_mul_cancel (Nat.gcd_dvd_left a b)).symm
  have eb : b = b / Nat.gcd a b * Nat.gcd a b := (Nat.div_mul_cancel (Nat.gcd_dvd_right a b)).symm
  have ec : c = c / Nat.gcd c d * Nat.gcd c d := (Nat.div_mul_cancel (Nat.gcd_dvd_left c d)).symm
  have ed : d = d / Nat.gcd c d * Nat.gcd c d := (Nat.div_mul_cancel (Nat.gcd_dvd_right c d)).symm
  generalize Nat.gcd a b = g at *
  generalize Nat.gcd c d = k at *
  generalize a / g = a' at *
  generalize b / g = b' at *
  generalize c / k = c' at *
  generalize d / k = d' at *
  subst ea eb ec ed
  have e : a' * d' = c' * b' := by
    have h1 : (a' * d') * (g * k) = (c' * b') * (g * k) := by
      calc (a' * d') * (g * k) = a' * g * (d' * k) := by simp only [Nat.mul_comm, Nat.mul_left_comm, Nat.mul_assoc]
        _ = c' * k * (b' * g) := h
        _ = (c' * b') * (g * k) := by simp only [Nat.mul_comm, Nat.mul_left_comm, Nat.mul_assoc]
    exact Nat.eq_of_mul_eq_mul_right (Nat.mul_pos hg hh) h1
  refine Nat.dvd_antisymm ?_ ?_
  · exact hp.dvd_of_dvd_mul_right (e ▸ Nat.dvd_mul_right a' d')
  · exact hq.dvd_of_dvd_mul_right (e ▸ Nat.dvd_mul_right c' b')
theorem z_key_td {m p a b c d : Nat} (h1 : b < a) (h2 : d < c) (ha : a ≤ 41000000) (hc : c ≤ 41000000) (hm : m < 4) (e : z_key m a b = z_key m c d) : z_td m p a b = z_td m p c d := by
  unfold z_td
  rcases (by omega : m = 0 ∨ m = 1 ∨ m = 2 ∨ m = 3) with rfl | rfl | rfl | rfl
  · have e2 : a = c := e
    subst e2
    rfl
  · have e2 : a - b = c - d := e
    show (if p = 1 then 1 else a - b) = (if p = 1 then 1 else c - d)
    rw [e2]
  · have k1 := z_key_two h1 h2 ha hc
    have k2 := z_key_two h2 h1 hc ha
    rw [e] at k1 k2
    have n1 := fun q => Nat.lt_irrefl _ (k1.mpr q)
    have n2 := fun q => Nat.lt_irrefl _ (k2.mpr q)
    rw [if_pos rfl, if_pos rfl]
    by_cases hb : b = 0
    · by_cases hd : d = 0
      · rw [if_pos (Or.inl hb)] at n1
        rw [if_pos (Or.inl hd)] at n2
        have e3 : a = c := by
          rcases Nat.lt_trichotomy a c with q | q | q
          · exact absurd ⟨hd, Or.inr q⟩ n2
          · exact q
          · exact absurd ⟨hb, Or.inr q⟩ n1
        rw [if_pos hb, if_pos hd, e3]
      · rw [if_pos (Or.inl hb)] at n1
        exact absurd ⟨hb, Or.inl hd⟩ n1
    · by_cases hd : d = 0
      · rw [if_pos (Or.inl hd)] at n2
        exact absurd ⟨hd, Or.inl hb⟩ n2
      · rw [if_neg (fun q => q.elim hb hd)] at n1
        rw [if_neg (fun q => q.elim hd hb)] at n2
        have e3 : a * d = c * b := by
          rcases Nat.lt_trichotomy (a * d) (c * b) with q | q | q
          · exact absurd q n2
          · exact q
          · exact absurd q n1
        rw [if_neg hb, if_neg hd]
        by_cases hp : p = 0
        · rw [if_pos hp, if_pos hp]
          exact z_red (by omega) (by omega) e3
        · rw [if_neg hp, if_neg hp, Nat.gcd_comm a b, Nat.gcd_comm c d]
          exact z_red (by omega) (by omega) (by rw [Nat.mul_comm b c, Nat.mul_comm d a]; exact e3.symm)
  · have e2 : 2 ^ 26 - b = 2 ^ 26 - d := e
    have e3 : b = d := by omega
    subst e3
    rfl
theorem z_ctx {p : Nat → Bool} {s t : Nat} (hs : p s = true) (ht : p t = true) (h : z_ct s p = z_ct t p) : s = t := by
  have h1 := z_ct_T' hs
  have h2 := z_ct_T' ht
  rcases Nat.lt_trichotomy s t with q | q | q
  · have := z_ct_mono p (m := s + 1) (n := t) q; omega
  · exact q
  · have := z_ct_mono p (m := t + 1) (n := s) q; omega
theorem z_ct_cg {p q : Nat → Bool} : ∀ {n : Nat}, (∀ i, i < n → p i = q i) → z_ct n p = z_ct n q
  | 0, _ => rfl
  | n + 1, h => by
    show z_ct n p + _ = z_ct n q + _
    rw [z_ct_cg (n := n) (fun i hi => h i (by omega)), h n (by omega)]
theorem z_sum_cg {p q : Nat → Nat} : ∀ {n : Nat}, (∀ i, i < n → p i = q i) → z_sum n p = z_sum n q
  | 0, _ => rfl
  | n + 1, h => by
    show z_sum n p + _ = z_sum n q + _
    rw [z_sum_cg (n := n) (fun i hi => h i (by omega)), h n (by omega)]
theorem z_sum_more {p : Nat → Nat} {n : Nat} : ∀ {m : Nat}, n ≤ m → (∀ i, n ≤ i → i < m → p i = 0) → z_sum m p = z_sum n p
  | 0, h, _ => by obtain rfl : n = 0 := by omega
                  rfl
  | m + 1, h, hz => by
    rcases (by omega : n ≤ m ∨ n = m + 1) with q | q
    · show z_sum m p + p m = _
      rw [z_sum_more q (fun i h1 h2 => hz i h1 (by omega)), hz m q (by omega), Nat.add_zero]
    · rw [q]
theorem z_ct_add (p : Nat → Bool) (a : Nat) : ∀ b, z_ct (a + b) p = z_ct a p + z_ct b (fun j => p (a + j))
  | 0 => rfl
  | b + 1 => by
    show z_ct (a + b) p + _ = z_ct a p + (z_ct b (fun j => p (a + j)) + _)
    rw [z_ct_add p a b, Nat.add_assoc]
    rfl
theorem z_ct_grid (p : Nat → Nat → Bool) : ∀ m, z_ct (8 * m) (fun k => p (k / 8) (k % 8)) = z_sum m (fun i => z_ct 8 (p i))
  | 0 => rfl
  | m + 1 => by
    rw [show 8 * (m + 1) = 8 * m + 8 by omega, z_ct_add, z_ct_grid p m]
    show _ = z_sum m (fun i => z_ct 8 (p i)) + z_ct 8 (p m)
    congr 1
    refine z_ct_cg (fun j hj => ?_)
    show p ((8 * m + j) / 8) ((8 * m + j) % 8) = p m j
    rw [show (8 * m + j) / 8 = m by omega, show (8 * m + j) % 8 = j by omega]
theorem z_swap_ct (B : Nat → Nat → Bool) (n : Nat) : ∀ m, z_sum n (fun i => z_ct m (fun x => B x i)) = z_sum m (fun x => z_ct n (fun i => B x i))
  | 0 => by
    show z_sum n (fun _ => 0) = 0
    have := z_sum_le (f := fun _ => 0) (w := 0) (m := n) (fun _ _ => Nat.le_refl 0)
    omega
  | m + 1 => by
    have key : ∀ k, z_sum k (fun i => z_ct (m + 1) (fun x => B x i)) = z_sum k (fun i => z_ct m (fun x => B x i)) + z_ct k (fun i => B m i) := by
      intro k
      induction k with
      | zero => rfl
      | succ k ih =>
        show z_sum k (fun i => z_ct (m + 1) (fun x => B x i)) + (z_ct m (fun x => B x k) + (if B m k = true then 1 else 0)) = (z_sum k (fun i => z_ct m (fun x => B x i)) + z_ct m (fun x => B x k)) + (z_ct k (fun i => B m i) + (if B m k = true then 1 else 0))
        rw [ih]
        omega
    rw [key n, z_swap_ct B n m]
    rfl
theorem z_pc_set {n : Nat} (hn : n ≤ 8) (p : Nat → Bool) : z_pc (z_set n p) = z_ct n p := by
  have h2 : 2 ^ n ≤ 2 ^ 8 := Nat.pow_le_pow_right (by decide) hn
  have h3 := z_set_lt p n
  rw [z_pc_ct (by omega), z_ct_stop hn (fun x h1 _ => by rw [z_set_bit, decide_eq_false (by omega)]; rfl)]
  exact z_ct_cg (fun i hi => by rw [z_set_bit, decide_eq_true hi]; rfl)
theorem z_told7 {n ins ms bm : Nat} {cn : Nat → Nat} {pl : Nat → Nat → Nat} (hn : n ≤ 8) (hb : bm ≤ 40) (hc : ∀ b, b < bm → cn b ≤ 1000000) (hi : ∀ i, n ≤ i → ins.testBit i = false) : z_sum n (fun i => z_ct n (fun j => decide (z_LS ms ins (z_for bm cn pl) i j ≠ 0))) = z_ct 64 (fun k => z_lnkb ins (z_for bm cn pl) (k / 8) (k % 8)) := by
  have hf : ∀ i j, z_for bm cn pl i j ≤ 41000000 := fun i j => by
    have := z_for_le (cn := cn) (pl := pl) (i := i) (j := j) (b := bm) hc
    omega
  have hl : ∀ i j, decide (z_LS ms ins (z_for bm cn pl) i j ≠ 0) = z_lnkb ins (z_for bm cn pl) i j := by
    intro i j
    by_cases h : z_lnk ins (z_for bm cn pl) i j
    · have := z_key_pos (m := ms) h.2.2.2 (hf i j)
      rw [z_lnkb_T h, z_LS_yes h]
      exact decide_eq_true (by omega)
    · rw [z_lnkb_F h, z_LS_no h]
      rfl
  have hg := z_ct_grid (z_lnkb ins (z_for bm cn pl)) 8
  rw [show (64 : Nat) = 8 * 8 from rfl, hg, z_sum_more hn (p := fun i => z_ct 8 (z_lnkb ins (z_for bm cn pl) i)) (fun i h1 _ => ?_)]
  · refine z_sum_cg (fun i _ => ?_)
    rw [z_ct_stop hn (p := z_lnkb ins (z_for bm cn pl) i) (fun x h1 _ => z_lnkb_F (fun q => by have := q.2.2.1; rw [hi x h1] at this; cases this))]
    exact z_ct_cg (fun j _ => hl i j)
  · have : z_ct 8 (z_lnkb ins (z_for bm cn pl) i) = z_ct 0 (z_lnkb ins (z_for bm cn pl) i) := z_ct_stop (Nat.zero_le 8) (fun x _ _ => z_lnkb_F (fun q => by have := q.2.1; rw [hi i h1] at this; cases this))
    exact this
theorem z_told8 {n : Nat} {K K2 : Nat → Nat → Nat} (hn : n ≤ 8) (h : ∀ a, a < n → ∀ b, b < n → K a b = K2 a b) : z_sum n (fun i => z_pc (z_set n (fun x => z_btb K x i))) = z_sum n (fun i => z_ct n (fun j => z_btb K2 i j)) := by
  rw [← z_swap_ct (z_btb K2) n n]
  refine z_sum_cg (fun i hi => ?_)
  show z_pc (z_set n (fun x => z_btb K x i)) = z_ct n (fun x => z_btb K2 x i)
  rw [z_pc_set hn]
  exact z_ct_cg (fun x hx => z_btb_congr hx hi h)
theorem prE_ballot {hX hM : List z_E} (hJ : z_JI hX hM) (a1 : Int32) (a2 : Int32) : z_TW True 87 165 [.int a1, .int a2] hX hM := by
  refine z_JI_el (C := fun hX hM => z_TW True 87 165 [.int a1, .int a2] hX hM) hJ ?_
  intro n outs bm ms dr cn pl ik kn ko kb km kd kc kpl fd tp wr pp sz ce p_rankings p_counts p_draw p_fors k_rankings k_counts k_draw k_fors d_size d_outs d_rule d_filled d_rankings d_counts d_draw d_fors w_size w_ins w_rule w_steps w_fors w_draw w_links w_best w_beaters w_distances w_route t_bytes t_next t_ranking t_count l_cells l_sizes s_bytes g kept was tape flt ranking paper pairs above below isDone dist rowv rowMany lsz itm weakAbove weakBelow ps tl hfd hwr hik hI hkI htp hz hsb hlc hps htl hG hkG htpM hzM hpp hit
  have hn8 := hI.1.2
  refine ⟨_, _, c_X5_ballot 57 hI, c_X6_ballot 57 hG, ?_⟩
  rintro r hX2 r2 hM2 ⟨vX, rfl, rfl, qX⟩ ⟨vM, rfl, rfl, qM⟩
  refine ⟨(z_JI_mk hfd hwr hik hI hkI htp hz hsb hlc hps htl hG hkG htpM hzM hpp hit), fun _ => ?_⟩
  rcases qX with ⟨x1, x0⟩ | ⟨k, w, p1, p2, p3, p4⟩
  · rcases qM with ⟨y1, y0⟩ | ⟨k2, w2, q1, q2, q3, q4⟩
    · rw [x1, y1]
    · exact absurd ⟨k2, w2, q1, q2, q3, by rcases q4 with h | h | h <;> omega⟩ x0
  · rcases qM with ⟨y1, y0⟩ | ⟨k2, w2, q1, q2, q3, q4⟩
    · exact absurd ⟨k, w, p1, p2, p3, by rcases p4 with h | h | h <;> omega⟩ y0
    · have h40 := hI.2.2.1
      have hw : w < 18 := by rcases p4 with h | h | h <;> omega
      have hw2 : w2 < 18 := by rcases q4 with h | h | h <;> omega
      have e1 := z_nIj (by omega) (by omega) (p2.symm.trans q2)
      have e2 := z_nIj (by omega) (by omega) (p3.symm.trans q3)
      subst e1 e2
      rcases p4 with ⟨a1, a2⟩ | ⟨a1, a2⟩ | ⟨a1, a3, a2⟩ <;> rcases q4 with ⟨b1, b2⟩ | ⟨b1, b2⟩ | ⟨b1, b3, b2⟩ <;> first | (exfalso; omega) | rw [a2, b2]
theorem prE_paper {hX hM : List z_E} (hJ : z_JI hX hM) (a1 : Int32) : z_TW True 90 170 [.int a1] hX hM := by
  refine z_JI_el (C := fun hX hM => z_TW True 90 170 [.int a1] hX hM) hJ ?_
  intro n outs bm ms dr cn pl ik kn ko kb km kd kc kpl fd tp wr pp sz ce p_rankings p_counts p_draw p_fors k_rankings k_counts k_draw k_fors d_size d_outs d_rule d_filled d_rankings d_counts d_draw d_fors w_size w_ins w_rule w_steps w_fors w_draw w_links w_best w_beaters w_distances w_route t_bytes t_next t_ranking t_count l_cells l_sizes s_bytes g kept was tape flt ranking paper pairs above below isDone dist rowv rowMany lsz itm weakAbove weakBelow ps tl hfd hwr hik hI hkI htp hz hsb hlc hps htl hG hkG htpM hzM hpp hit
  have hn8 := hI.1.2
  refine ⟨_, _, c_X5_paper 58 hI hwr, c_X6_paper 58 hwr, ?_⟩
  rintro r hX2 r2 hM2 ⟨vX, rfl, rfl, qX⟩ ⟨vM, rfl, rfl, qM⟩
  refine ⟨(z_JI_mk hfd hwr hik hI hkI htp hz hsb hlc hps htl hG hkG htpM hzM hpp hit), fun _ => ?_⟩
  rcases qX with ⟨x0, x1⟩ | ⟨q, p1, p2, p3⟩
  · rcases qM with ⟨y0, y1⟩ | ⟨q2, q1, q2h, q3⟩
    · rw [x1, y1]
    · exact absurd ⟨q2, q1, q2h⟩ x0
  · rcases qM with ⟨y0, y1⟩ | ⟨q2, q1, q2h, q3⟩
    · exact absurd ⟨q, p1, p2⟩ y0
    · have e0 := z_nIj (by omega) (by omega) (p2.symm.trans q2h)
      subst e0
      rw [p3, q3, hsb _ p1, hpp _ p1]
theorem prE_pair {hX hM : List z_E} (hJ : z_JI hX hM) (a1 : Int32) (a2 : Int32) : z_TW True 91 175 [.int a1, .int a2] hX hM := by
  refine z_JI_el (C := fun hX hM => z_TW True 91 175 [.int a1, .int a2] hX hM) hJ ?_
  intro n outs bm ms dr cn pl ik kn ko kb km kd kc kpl fd tp wr pp sz ce p_rankings p_counts p_draw p_fors k_rankings k_counts k_draw k_fors d_size d_outs d_rule d_filled d_rankings d_counts d_draw d_fors w_size w_ins w_rule w_steps w_fors w_draw w_links w_best w_beaters w_distances w_route t_bytes t_next t_ranking t_count l_cells l_sizes s_bytes g kept was tape flt ranking paper pairs above below isDone dist rowv rowMany lsz itm weakAbove weakBelow ps tl hfd hwr hik hI hkI htp hz hsb hlc hps htl hG hkG htpM hzM hpp hit
  have hn8 := hI.1.2
  refine ⟨_, _, c_X5_pair 57 hI, c_X6_pair 56 hG, ?_⟩
  rintro r hX2 r2 hM2 ⟨vX, rfl, rfl, qX⟩ ⟨pairs2M, vM, rfl, rfl, qM⟩
  refine ⟨(z_JI_mk hfd hwr hik hI hkI htp hz hsb hlc hps htl hG hkG htpM hzM hpp hit), fun _ => ?_⟩
  rcases qX with ⟨x0, x1⟩ | ⟨a, b, p1, p2, p3, p4, p5, p6⟩
  · rcases qM with ⟨y0, y1⟩ | ⟨a2, b2, q1, q2, q3, q4, q5, q6⟩
    · rw [x1, y1]
    · exact absurd ⟨a2, b2, q1, q2, q3, q4, q5⟩ x0
  · rcases qM with ⟨y0, y1⟩ | ⟨a2, b2, q1, q2, q3, q4, q5, q6⟩
    · exact absurd ⟨a, b, p1, p2, p3, p4, p5⟩ y0
    · have e0 := z_nIj (by omega) (by omega) (p4.symm.trans q4)
      subst e0
      have e1 := z_nIj (by omega) (by omega) (p5.symm.trans q5)
      subst e1
      rw [p6, q6]
theorem prE_link {hX hM : List z_E} (hJ : z_JI hX hM) (a1 : Int32) (a2 : Int32) : z_TW True 92 177 [.int a1, .int a2] hX hM := by
  refine z_JI_el (C := fun hX hM => z_TW True 92 177 [.int a1, .int a2] hX hM) hJ ?_
  intro n outs bm ms dr cn pl ik kn ko kb km kd kc kpl fd tp wr pp sz ce p_rankings p_counts p_draw p_fors k_rankings k_counts k_draw k_fors d_size d_outs d_rule d_filled d_rankings d_counts d_draw d_fors w_size w_ins w_rule w_steps w_fors w_draw w_links w_best w_beaters w_distances w_route t_bytes t_next t_ranking t_count l_cells l_sizes s_bytes g kept was tape flt ranking paper pairs above below isDone dist rowv rowMany lsz itm weakAbove weakBelow ps tl hfd hwr hik hI hkI htp hz hsb hlc hps htl hG hkG htpM hzM hpp hit
  have hn8 := hI.1.2
  refine ⟨_, _, c_X5_link 57 hI, c_X6_link 56 hG, ?_⟩
  rintro r hX2 r2 hM2 ⟨vX, rfl, rfl, qX⟩ ⟨pairs2M, vM, rfl, rfl, qM⟩
  refine ⟨(z_JI_mk hfd hwr hik hI hkI htp hz hsb hlc hps htl hG hkG htpM hzM hpp hit), fun _ => ?_⟩
  rcases qX with ⟨x0, x1⟩ | ⟨a, b, p1, p2, p3, p4, p5, p6⟩
  · rcases qM with ⟨y0, y1⟩ | ⟨a2, b2, q1, q2, q3, q4, q5, q6⟩
    · rw [x1, y1]
    · exact absurd ⟨a2, b2, q1, q2, q3, q4, q5⟩ x0
  · rcases qM with ⟨y0, y1⟩ | ⟨a2, b2, q1, q2, q3, q4, q5, q6⟩
    · exact absurd ⟨a, b, p1, p2, p3, p4, p5⟩ y0
    · have e0 := z_nIj (by omega) (by omega) (p4.symm.trans q4)
      subst e0
      have e1 := z_nIj (by omega) (by omega) (p5.symm.trans q5)
      subst e1
      rcases p6 with ⟨h1, h2⟩ | ⟨h1, h2⟩ <;> rcases q6 with ⟨g1, g2⟩ | ⟨g1, g2⟩ <;> first | exact absurd h1 g1 | exact absurd g1 h1 | rw [h2, g2]
theorem prE_strength {hX hM : List z_E} (hJ : z_JI hX hM) (a1 : Int32) (a2 : Int32) (a3 : Int32) : z_TW True 93 189 [.int a1, .int a2, .int a3] hX hM := by
  refine z_JI_el (C := fun hX hM => z_TW True 93 189 [.int a1, .int a2, .int a3] hX hM) hJ ?_
  intro n outs bm ms dr cn pl ik kn ko kb km kd kc kpl fd tp wr pp sz ce p_rankings p_counts p_draw p_fors k_rankings k_counts k_draw k_fors d_size d_outs d_rule d_filled d_rankings d_counts d_draw d_fors w_size w_ins w_rule w_steps w_fors w_draw w_links w_best w_beaters w_distances w_route t_bytes t_next t_ranking t_count l_cells l_sizes s_bytes g kept was tape flt ranking paper pairs above below isDone dist rowv rowMany lsz itm weakAbove weakBelow ps tl hfd hwr hik hI hkI htp hz hsb hlc hps htl hG hkG htpM hzM hpp hit
  have hn8 := hI.1.2
  refine ⟨_, _, c_X5_strength 55 hI, c_X6_strength 4 hG, ?_⟩
  rintro r hX2 r2 hM2 ⟨ws2X, wi2X, wr2X, wst2X, wf2X, wd2X, wl2X, wb2X, wt2X, vX, rfl, rfl, qX⟩ ⟨pairs2M, ab2M, be2M, dn2M, vM, rfl, rfl, qM⟩
  refine ⟨(z_JI_mk hfd hwr hik hI hkI htp hz hsb hlc hps htl hG hkG htpM hzM hpp hit), fun _ => ?_⟩
  rcases qX with ⟨x1, x0⟩ | ⟨a, b, p, K, p1, p2, p3, p4, p5, p6, p7, p8, p9, p10⟩
  · rcases qM with ⟨y1, y0⟩ | ⟨a2, b2, p', K2, q1, q2, q3, q4, q5, q6, q7, q8, q9, q10⟩
    · rw [x1, y1]
    · exact absurd ⟨a2, b2, p', q1, q2, q3, q4, q5, q6, q7, q8⟩ x0
  · rcases qM with ⟨y1, y0⟩ | ⟨a2, b2, p', K2, q1, q2, q3, q4, q5, q6, q7, q8, q9, q10⟩
    · exact absurd ⟨a, b, p, p1, p2, p3, p4, p5, p6, p7, p8⟩ y0
    · have e0 := z_nIj (by omega) (by omega) (p4.symm.trans q4)
      subst e0
      have e1 := z_nIj (by omega) (by omega) (p5.symm.trans q5)
      subst e1
      have e2 := z_nIj (by omega) (by omega) (p7.symm.trans q7)
      subst e2
      have eK := z_rows_uniq p9 q9 p1 p2
      rcases p10 with ⟨h1, h2⟩ | ⟨x, y, h1, h2, h3, h4⟩
      · rcases q10 with ⟨g1, g2⟩ | ⟨x', y', g1, g2, g3, g4⟩
        · rw [h2, g2]
        · have := z_key_pos (m := ms) g1 g2
          omega
      · rcases q10 with ⟨g1, g2⟩ | ⟨x', y', g1, g2, g3, g4⟩
        · have := z_key_pos (m := ms) h1 h2
          omega
        · rw [h4, g4, z_key_td h1 g1 h2 g2 hI.2.2.2.1 (h3.symm.trans (eK.trans g3))]
theorem prE_way {hX hM : List z_E} (hJ : z_JI hX hM) (a1 : Int32) (a2 : Int32) (a3 : Int32) : z_TW True 94 193 [.int a1, .int a2, .int a3] hX hM := by
  refine z_JI_el (C := fun hX hM => z_TW True 94 193 [.int a1, .int a2, .int a3] hX hM) hJ ?_
  intro n outs bm ms dr cn pl ik kn ko kb km kd kc kpl fd tp wr pp sz ce p_rankings p_counts p_draw p_fors k_rankings k_counts k_draw k_fors d_size d_outs d_rule d_filled d_rankings d_counts d_draw d_fors w_size w_ins w_rule w_steps w_fors w_draw w_links w_best w_beaters w_distances w_route t_bytes t_next t_ranking t_count l_cells l_sizes s_bytes g kept was tape flt ranking paper pairs above below isDone dist rowv rowMany lsz itm weakAbove weakBelow ps tl hfd hwr hik hI hkI htp hz hsb hlc hps htl hG hkG htpM hzM hpp hit
  have hn8 := hI.1.2
  refine ⟨_, _, c_X5_way 54 hI, c_X6_way 53 hG, ?_⟩
  rintro r hX2 r2 hM2 ⟨ws2X, wi2X, wr2X, wst2X, wf2X, wd2X, wl2X, wb2X, wt2X, wq2X, wo2X, vX, rfl, rfl, qX⟩ ⟨pairs2M, ab2M, be2M, dn2M, dist2M, row2M, rm2M, vM, rfl, rfl, qM⟩
  refine ⟨(z_JI_mk hfd hwr hik hI hkI htp hz hsb hlc hps htl hG hkG htpM hzM hpp hit), fun _ => ?_⟩
  rcases qX with ⟨x1, x0⟩ | ⟨a, b, p1, p2, p3, p4, p5, p6, p7⟩
  · rcases qM with ⟨y1, y0⟩ | ⟨a2, b2, q1, q2, q3, q4, q5, q6, q7⟩
    · rw [x1, y1]
    · exact (x0.elim (fun h => h ⟨a2, b2, q1, q2, q3, q4, q5⟩) q6).elim
  · rcases qM with ⟨y1, y0⟩ | ⟨a2, b2, q1, q2, q3, q4, q5, q6, q7⟩
    · exact (y0.elim (fun h => h ⟨a, b, p1, p2, p3, p4, p5⟩) p6).elim
    · have e0 := z_nIj (by omega) (by omega) (p4.symm.trans q4)
      subst e0
      have e1 := z_nIj (by omega) (by omega) (p5.symm.trans q5)
      subst e1
      rcases p7 with ⟨h1, h2⟩ | ⟨h1, K, h3, h4⟩
      · rcases q7 with ⟨g1, g2⟩ | ⟨g1, K2, g3, g4⟩
        · rw [h2, g2]
        · exact absurd g1 h1
      · rcases q7 with ⟨g1, g2⟩ | ⟨g1, K2, g3, g4⟩
        · exact absurd h1 g1
        · have eK := z_rows_uniq h3 g3 p1 p2
          rcases h4 with ⟨h5, h6⟩ | ⟨D, rw1, h5, h6⟩
          · rcases g4 with ⟨g5, g6⟩ | ⟨D2, rw2, g5, g6⟩
            · rw [h6, g6]
            · have := g5.1; omega
          · rcases g4 with ⟨g5, g6⟩ | ⟨D2, rw2, g5, g6⟩
            · have := h5.1; omega
            · obtain ⟨e3, e4⟩ := z_WAY_uniq p1 eK h5 g5
              rcases h6 with ⟨h7, h8⟩ | ⟨q, h7, h9, h8⟩
              · rcases g6 with ⟨g7, g8⟩ | ⟨q', g7, g9, g8⟩
                · rw [h8, g8, e3]
                · rw [g7] at h7; exact absurd h7 (nI_pos (by omega))
              · rcases g6 with ⟨g7, g8⟩ | ⟨q', g7, g9, g8⟩
                · rw [h7] at g7; exact absurd g7 (nI_pos (by omega))
                · have e5 := z_nIj (by omega) (by omega) (h7.symm.trans g7)
                  subst e5
                  rw [e3] at g8
                  rcases h8 with ⟨h8, h10⟩ | ⟨h8, h10⟩ <;> rcases g8 with ⟨g8, g10⟩ | ⟨g8, g10⟩ <;> first | (exfalso; omega) | rw [h10, g10, e4 _ h8] | rw [h10, g10]
theorem prE_barrier {hX hM : List z_E} (hJ : z_JI hX hM) (a1 : Int32) (a2 : Int32) : z_TW True 95 195 [.int a1, .int a2] hX hM := by
  refine z_JI_el (C := fun hX hM => z_TW True 95 195 [.int a1, .int a2] hX hM) hJ ?_
  intro n outs bm ms dr cn pl ik kn ko kb km kd kc kpl fd tp wr pp sz ce p_rankings p_counts p_draw p_fors k_rankings k_counts k_draw k_fors d_size d_outs d_rule d_filled d_rankings d_counts d_draw d_fors w_size w_ins w_rule w_steps w_fors w_draw w_links w_best w_beaters w_distances w_route t_bytes t_next t_ranking t_count l_cells l_sizes s_bytes g kept was tape flt ranking paper pairs above below isDone dist rowv rowMany lsz itm weakAbove weakBelow ps tl hfd hwr hik hI hkI htp hz hsb hlc hps htl hG hkG htpM hzM hpp hit
  have hn8 := hI.1.2
  refine ⟨_, _, c_X5_barrier 55 hI, c_X6_barrier 53 hG, ?_⟩
  rintro r hX2 r2 hM2 ⟨ws2X, wi2X, wr2X, wst2X, wf2X, wd2X, wl2X, wb2X, wt2X, vX, rfl, rfl, qX⟩ ⟨pairs2M, ab2M, be2M, dn2M, vM, rfl, rfl, qM⟩
  refine ⟨(z_JI_mk hfd hwr hik hI hkI htp hz hsb hlc hps htl hG hkG htpM hzM hpp hit), fun _ => ?_⟩
  rcases qX with ⟨x1, x0⟩ | ⟨a, b, p1, p2, p3, p4, p5, p6⟩
  · rcases qM with ⟨y1, y0⟩ | ⟨a2, b2, q1, q2, q3, q4, q5, q6⟩
    · rw [x1, y1]
    · exact absurd ⟨a2, b2, q1, q2, q3, q4, q5⟩ x0
  · rcases qM with ⟨y1, y0⟩ | ⟨a2, b2, q1, q2, q3, q4, q5, q6⟩
    · exact absurd ⟨a, b, p1, p2, p3, p4, p5⟩ y0
    · have e0 := z_nIj (by omega) (by omega) (p4.symm.trans q4)
      subst e0
      have e1 := z_nIj (by omega) (by omega) (p5.symm.trans q5)
      subst e1
      rcases p6 with ⟨h1, h2⟩ | ⟨h1, K, h3, h4⟩
      · rcases q6 with ⟨g1, g2⟩ | ⟨g1, K2, g3, g4⟩
        · rw [h2, g2]
        · exact absurd g1 h1
      · rcases q6 with ⟨g1, g2⟩ | ⟨g1, K2, g3, g4⟩
        · exact absurd h1 g1
        · have hKK : ∀ a, a < n → ∀ b, b < n → K a b = K2 a b := fun a ha b hb => z_rows_uniq h3 g3 ha hb
          rw [h4, g4, z_ba_congr p1 p2 hKK]
theorem prE_beats {hX hM : List z_E} (hJ : z_JI hX hM) (a1 : Int32) (a2 : Int32) : z_TW True 96 197 [.int a1, .int a2] hX hM := by
  refine z_JI_el (C := fun hX hM => z_TW True 96 197 [.int a1, .int a2] hX hM) hJ ?_
  intro n outs bm ms dr cn pl ik kn ko kb km kd kc kpl fd tp wr pp sz ce p_rankings p_counts p_draw p_fors k_rankings k_counts k_draw k_fors d_size d_outs d_rule d_filled d_rankings d_counts d_draw d_fors w_size w_ins w_rule w_steps w_fors w_draw w_links w_best w_beaters w_distances w_route t_bytes t_next t_ranking t_count l_cells l_sizes s_bytes g kept was tape flt ranking paper pairs above below isDone dist rowv rowMany lsz itm weakAbove weakBelow ps tl hfd hwr hik hI hkI htp hz hsb hlc hps htl hG hkG htpM hzM hpp hit
  have hn8 := hI.1.2
  refine ⟨_, _, c_X5_beats 55 hI, c_X6_beats 53 hG, ?_⟩
  rintro r hX2 r2 hM2 ⟨ws2X, wi2X, wr2X, wst2X, wf2X, wd2X, wl2X, wb2X, wt2X, vX, rfl, rfl, qX⟩ ⟨pairs2M, ab2M, be2M, dn2M, vM, rfl, rfl, qM⟩
  refine ⟨(z_JI_mk hfd hwr hik hI hkI htp hz hsb hlc hps htl hG hkG htpM hzM hpp hit), fun _ => ?_⟩
  rcases qX with ⟨x1, x0⟩ | ⟨a, b, p1, p2, p3, p4, p5, p6⟩
  · rcases qM with ⟨y1, y0⟩ | ⟨a2, b2, q1, q2, q3, q4, q5, q6⟩
    · rw [x1, y1]
    · exact absurd ⟨a2, b2, q1, q2, q3, q4, q5⟩ x0
  · rcases qM with ⟨y1, y0⟩ | ⟨a2, b2, q1, q2, q3, q4, q5, q6⟩
    · exact absurd ⟨a, b, p1, p2, p3, p4, p5⟩ y0
    · have e0 := z_nIj (by omega) (by omega) (p4.symm.trans q4)
      subst e0
      have e1 := z_nIj (by omega) (by omega) (p5.symm.trans q5)
      subst e1
      rcases p6 with ⟨h1, h2⟩ | ⟨h1, K, h3, h4⟩
      · rcases q6 with ⟨g1, g2⟩ | ⟨g1, K2, g3, g4⟩
        · rw [h2, g2]
        · exact absurd g1 h1
      · rcases q6 with ⟨g1, g2⟩ | ⟨g1, K2, g3, g4⟩
        · exact absurd h1 g1
        · have hKK : ∀ a, a < n → ∀ b, b < n → K a b = K2 a b := fun a ha b hb => z_rows_uniq h3 g3 ha hb
          rw [h4, g4, z_btb_congr p1 p2 hKK]
theorem prE_winners {hX hM : List z_E} (hJ : z_JI hX hM)  : z_TW True 97 199 [] hX hM := by
  refine z_JI_el (C := fun hX hM => z_TW True 97 199 [] hX hM) hJ ?_
  intro n outs bm ms dr cn pl ik kn ko kb km kd kc kpl fd tp wr pp sz ce p_rankings p_counts p_draw p_fors k_rankings k_counts k_draw k_fors d_size d_outs d_rule d_filled d_rankings d_counts d_draw d_fors w_size w_ins w_rule w_steps w_fors w_draw w_links w_best w_beaters w_distances w_route t_bytes t_next t_ranking t_count l_cells l_sizes s_bytes g kept was tape flt ranking paper pairs above below isDone dist rowv rowMany lsz itm weakAbove weakBelow ps tl hfd hwr hik hI hkI htp hz hsb hlc hps htl hG hkG htpM hzM hpp hit
  have hn8 := hI.1.2
  refine ⟨_, _, c_X5_winners 55 hI, c_X6_winners 53 hG, ?_⟩
  rintro r hX2 r2 hM2 ⟨ws2X, wi2X, wr2X, wst2X, wf2X, wd2X, wl2X, wb2X, wt2X, vX, rfl, rfl, qX⟩ ⟨pairs2M, ab2M, be2M, dn2M, vM, rfl, rfl, qM⟩
  obtain ⟨K, h1, h2⟩ := qX
  obtain ⟨K2, g1, g2⟩ := qM
  refine ⟨(z_JI_mk hfd hwr hik hI hkI htp hz hsb hlc hps htl hG hkG htpM hzM hpp hit), fun _ => ?_⟩
  rw [h2, g2, z_ub_congr (fun i hi j hj => z_rows_uniq h1 g1 hi hj)]
theorem prE_ranked {hX hM : List z_E} (hJ : z_JI hX hM) (a1 : Int32) : z_TW True 98 201 [.int a1] hX hM := by
  refine z_JI_el (C := fun hX hM => z_TW True 98 201 [.int a1] hX hM) hJ ?_
  intro n outs bm ms dr cn pl ik kn ko kb km kd kc kpl fd tp wr pp sz ce p_rankings p_counts p_draw p_fors k_rankings k_counts k_draw k_fors d_size d_outs d_rule d_filled d_rankings d_counts d_draw d_fors w_size w_ins w_rule w_steps w_fors w_draw w_links w_best w_beaters w_distances w_route t_bytes t_next t_ranking t_count l_cells l_sizes s_bytes g kept was tape flt ranking paper pairs above below isDone dist rowv rowMany lsz itm weakAbove weakBelow ps tl hfd hwr hik hI hkI htp hz hsb hlc hps htl hG hkG htpM hzM hpp hit
  have hn8 := hI.1.2
  refine ⟨_, _, c_X5_ranked 55 hI, c_X6_ranked 53 hG, ?_⟩
  rintro r hX2 r2 hM2 ⟨ws2X, wi2X, wr2X, wst2X, wf2X, wd2X, wl2X, wb2X, wt2X, vX, rfl, rfl, qX⟩ ⟨pairs2M, ab2M, be2M, dn2M, vM, rfl, rfl, qM⟩
  refine ⟨(z_JI_mk hfd hwr hik hI hkI htp hz hsb hlc hps htl hG hkG htpM hzM hpp hit), fun _ => ?_⟩
  have hpc := z_pc_le (z_dif (2 ^ n - 1) outs)
  rcases qX with ⟨x0, x1⟩ | ⟨q, K, p1, p2, p3, p4⟩
  · rcases qM with ⟨y0, y1⟩ | ⟨q', K2, q1, q2, q3, q4⟩
    · rw [x1, y1]
    · exact absurd ⟨q', q1, q2⟩ x0
  · rcases qM with ⟨y0, y1⟩ | ⟨q', K2, q1, q2, q3, q4⟩
    · exact absurd ⟨q, p1, p2⟩ y0
    · have e0 := z_nIj (by omega) (by omega) (p2.symm.trans q2)
      subst e0
      have hKK : ∀ a, a < n → ∀ b, b < n → K a b = K2 a b := fun a ha b hb => z_rows_uniq p3 q3 ha hb
      rw [p4, q4, z_rv_congr hKK, z_fi_congr hKK]
theorem prE_rank {hX hM : List z_E} (hJ : z_JI hX hM) (a1 : Int32) : z_TW True 99 202 [.int a1] hX hM := by
  refine z_JI_el (C := fun hX hM => z_TW True 99 202 [.int a1] hX hM) hJ ?_
  intro n outs bm ms dr cn pl ik kn ko kb km kd kc kpl fd tp wr pp sz ce p_rankings p_counts p_draw p_fors k_rankings k_counts k_draw k_fors d_size d_outs d_rule d_filled d_rankings d_counts d_draw d_fors w_size w_ins w_rule w_steps w_fors w_draw w_links w_best w_beaters w_distances w_route t_bytes t_next t_ranking t_count l_cells l_sizes s_bytes g kept was tape flt ranking paper pairs above below isDone dist rowv rowMany lsz itm weakAbove weakBelow ps tl hfd hwr hik hI hkI htp hz hsb hlc hps htl hG hkG htpM hzM hpp hit
  have hn8 := hI.1.2
  refine ⟨_, _, c_X5_rank 54 hI, c_X6_rank 53 hG, ?_⟩
  rintro r hX2 r2 hM2 ⟨ws2X, wi2X, wr2X, wst2X, wf2X, wd2X, wl2X, wb2X, wt2X, vX, rfl, rfl, qX⟩ ⟨pairs2M, ab2M, be2M, dn2M, vM, rfl, rfl, qM⟩
  refine ⟨(z_JI_mk hfd hwr hik hI hkI htp hz hsb hlc hps htl hG hkG htpM hzM hpp hit), fun _ => ?_⟩
  have hpc := z_pc_le (z_dif (2 ^ n - 1) outs)
  rcases qX with ⟨x0, x1⟩ | ⟨q, p1, p2, p3⟩
  · rcases qM with ⟨y0, y1⟩ | ⟨q', q1, q2, q3⟩
    · rw [x1, y1]
    · exact absurd ⟨q', q1, q2⟩ x0
  · rcases qM with ⟨y0, y1⟩ | ⟨q', q1, q2, q3⟩
    · exact absurd ⟨q, p1, p2⟩ y0
    · have e0 := z_nIj (by omega) (by omega) (p2.symm.trans q2)
      subst e0
      rcases p3 with ⟨h1, h2⟩ | ⟨K, w, h1, h3, h4, h5, h6, h7⟩
      · rcases q3 with ⟨g1, g2⟩ | ⟨K2, w2, g1, g3, g4, g5, g6, g7⟩
        · rw [h2, g2]
        · rw [h1] at g1; cases g1
      · rcases q3 with ⟨g1, g2⟩ | ⟨K2, w2, g1, g3, g4, g5, g6, g7⟩
        · rw [h1] at g1; cases g1
        · have hKK : ∀ a, a < n → ∀ b, b < n → K a b = K2 a b := fun a ha b hb => z_rows_uniq h3 g3 ha hb
          have ef : ∀ x, z_fi n dr K2 (z_rv n dr K2 (z_dif (2 ^ n - 1) outs) x) = z_fi n dr K (z_rv n dr K (z_dif (2 ^ n - 1) outs) x) := fun x => by rw [z_rv_congr hKK, z_fi_congr hKK]
          have e1 := z_least (P := fun x => z_fi n dr K (z_rv n dr K (z_dif (2 ^ n - 1) outs) x) = q) h6 h7 ((ef w2).symm.trans g6) (fun z hz e => g7 z hz ((ef z).trans e))
          rw [h4, g4, e1]
theorem prE_smith {hX hM : List z_E} (hJ : z_JI hX hM)  : z_TW True 100 204 [] hX hM := by
  refine z_JI_el (C := fun hX hM => z_TW True 100 204 [] hX hM) hJ ?_
  intro n outs bm ms dr cn pl ik kn ko kb km kd kc kpl fd tp wr pp sz ce p_rankings p_counts p_draw p_fors k_rankings k_counts k_draw k_fors d_size d_outs d_rule d_filled d_rankings d_counts d_draw d_fors w_size w_ins w_rule w_steps w_fors w_draw w_links w_best w_beaters w_distances w_route t_bytes t_next t_ranking t_count l_cells l_sizes s_bytes g kept was tape flt ranking paper pairs above below isDone dist rowv rowMany lsz itm weakAbove weakBelow ps tl hfd hwr hik hI hkI htp hz hsb hlc hps htl hG hkG htpM hzM hpp hit
  have hn8 := hI.1.2
  refine ⟨_, _, c_X5_smith 54 hI, c_X6_smith 56 hG, ?_⟩
  rintro r hX2 r2 hM2 ⟨ws2X, wi2X, wr2X, wst2X, wf2X, wd2X, wl2X, wb2X, wt2X, vX, rfl, rfl, qX⟩ ⟨pairs2M, vM, rfl, rfl, qM⟩
  obtain ⟨i1, i2, i3⟩ := hI
  refine ⟨(z_JI_mk hfd hwr hik (⟨i1, i2, i3⟩) hkI htp hz hsb hlc hps htl hG hkG htpM hzM hpp hit), fun _ => ?_⟩
  have hs : z_dif (2 ^ n - 1) outs < 2 ^ n := Nat.lt_of_le_of_lt z_dif_le (by have := Nat.one_le_two_pow (n := n); omega)
  rw [z_SM_uniq hn8 hs qX qM]
theorem prE_clones {hX hM : List z_E} (hJ : z_JI hX hM) (a1 : Int32) : z_TW True 101 207 [.int a1] hX hM := by
  refine z_JI_el (C := fun hX hM => z_TW True 101 207 [.int a1] hX hM) hJ ?_
  intro n outs bm ms dr cn pl ik kn ko kb km kd kc kpl fd tp wr pp sz ce p_rankings p_counts p_draw p_fors k_rankings k_counts k_draw k_fors d_size d_outs d_rule d_filled d_rankings d_counts d_draw d_fors w_size w_ins w_rule w_steps w_fors w_draw w_links w_best w_beaters w_distances w_route t_bytes t_next t_ranking t_count l_cells l_sizes s_bytes g kept was tape flt ranking paper pairs above below isDone dist rowv rowMany lsz itm weakAbove weakBelow ps tl hfd hwr hik hI hkI htp hz hsb hlc hps htl hG hkG htpM hzM hpp hit
  have hn8 := hI.1.2
  refine ⟨_, _, c_X5_clones 55 hI, c_X6_clones 56 hG, ?_⟩
  rintro r hX2 r2 hM2 ⟨vX, rfl, rfl, qX⟩ ⟨vM, rfl, rfl, qM⟩
  refine ⟨(z_JI_mk hfd hwr hik hI hkI htp hz hsb hlc hps htl hG hkG htpM hzM hpp hit), fun _ => ?_⟩
  generalize z_clo n (z_dif (2 ^ n - 1) outs) bm pl = P at *
  rcases qX with ⟨h1, h2⟩ | ⟨h1, ⟨h2, h3⟩ | ⟨q, s, h2, h3, h4, h5, h6⟩ | ⟨q, h2, h3, h4, h5⟩⟩
  · rcases qM with ⟨g1, g2⟩ | ⟨g1, _⟩
    · rw [h2, g2]
    · exact absurd h1 g1
  · rcases qM with ⟨g1, g2⟩ | ⟨g1, ⟨g2, g3⟩ | ⟨q', s', g2, g3, g4, g5, g6⟩ | ⟨q', g2, g3, g4, g5⟩⟩
    · exact absurd g1 h1
    · rw [h3, g3]
    · have := z_ct_le P s'
      have : 2 ^ n ≤ 2 ^ 8 := Nat.pow_le_pow_right (by decide) hn8
      rw [g2] at h2; exact absurd h2 (nI_pos (by omega))
    · rw [g2] at h2; exact absurd h2 (nI_pos (by omega))
  · have l1 := z_ct_le P s
    have l2 : 2 ^ n ≤ 2 ^ 8 := Nat.pow_le_pow_right (by decide) hn8
    rcases qM with ⟨g1, g2⟩ | ⟨g1, ⟨g2, g3⟩ | ⟨q', s', g2, g3, g4, g5, g6⟩ | ⟨q', g2, g3, g4, g5⟩⟩
    · exact absurd g1 h1
    · rw [h2] at g2; exact absurd g2 (nI_pos (by omega))
    · have := z_ct_le P s'
      have e1 := z_nIj (by omega) (by omega) (h2.symm.trans g2)
      subst e1
      rw [h6, g6, z_ctx h4 g4 (h5.trans g5.symm)]
    · have e1 := z_nIj (by omega) (by omega) (h2.symm.trans g2)
      subst e1
      have := z_ct_T' h4
      have := z_ct_mono P (m := s + 1) (n := 2 ^ n) h3
      omega
  · rcases qM with ⟨g1, g2⟩ | ⟨g1, ⟨g2, g3⟩ | ⟨q', s', g2, g3, g4, g5, g6⟩ | ⟨q', g2, g3, g4, g5⟩⟩
    · exact absurd g1 h1
    · rw [h2] at g2; exact absurd g2 (nI_pos (by omega))
    · have l1 := z_ct_le P s'
      have l2 : 2 ^ n ≤ 2 ^ 8 := Nat.pow_le_pow_right (by decide) hn8
      have e1 := z_nIj (by omega) (by omega) (h2.symm.trans g2)
      subst e1
      have := z_ct_T' g4
      have := z_ct_mono P (m := s' + 1) (n := 2 ^ n) g3
      omega
    · rw [h5, g5]
theorem prE_sum {hX hM : List z_E} (hJ : z_JI hX hM) (a1 : Int32) (a2 : Int32) : z_TW True 102 209 [.int a1, .int a2] hX hM := by
  refine z_JI_el (C := fun hX hM => z_TW True 102 209 [.int a1, .int a2] hX hM) hJ ?_
  intro n outs bm ms dr cn pl ik kn ko kb km kd kc kpl fd tp wr pp sz ce p_rankings p_counts p_draw p_fors k_rankings k_counts k_draw k_fors d_size d_outs d_rule d_filled d_rankings d_counts d_draw d_fors w_size w_ins w_rule w_steps w_fors w_draw w_links w_best w_beaters w_distances w_route t_bytes t_next t_ranking t_count l_cells l_sizes s_bytes g kept was tape flt ranking paper pairs above below isDone dist rowv rowMany lsz itm weakAbove weakBelow ps tl hfd hwr hik hI hkI htp hz hsb hlc hps htl hG hkG htpM hzM hpp hit
  have hn8 := hI.1.2
  refine ⟨_, _, c_X5_sum 55 hI, c_X6_sum 56 hG, ?_⟩
  rintro r hX2 r2 hM2 ⟨vX, rfl, rfl, qX⟩ ⟨vM, rfl, rfl, qM⟩
  refine ⟨(z_JI_mk hfd hwr hik hI hkI htp hz hsb hlc hps htl hG hkG htpM hzM hpp hit), fun _ => ?_⟩
  rcases qX with ⟨x1, x0⟩ | ⟨a, p, p1, p2, p3, p4, p5, p6⟩
  · rcases qM with ⟨y1, y0⟩ | ⟨a2, p', q1, q2, q3, q4, q5, q6⟩
    · rw [x1, y1]
    · exact absurd ⟨a2, p', q1, q2, q3, q4, q5⟩ x0
  · rcases qM with ⟨y1, y0⟩ | ⟨a2, p', q1, q2, q3, q4, q5, q6⟩
    · exact absurd ⟨a, p, p1, p2, p3, p4, p5⟩ y0
    · have e0 := z_nIj (by omega) (by omega) (p2.symm.trans q2)
      subst e0
      have e1 := z_nIj (by omega) (by omega) (p4.symm.trans q4)
      subst e1
      rw [p6, q6]
theorem prE_without {hX hM : List z_E} (hJ : z_JI hX hM) (a1 : Int32) : z_TW True 103 212 [.int a1] hX hM := by
  refine z_JI_el (C := fun hX hM => z_TW True 103 212 [.int a1] hX hM) hJ ?_
  intro n outs bm ms dr cn pl ik kn ko kb km kd kc kpl fd tp wr pp sz ce p_rankings p_counts p_draw p_fors k_rankings k_counts k_draw k_fors d_size d_outs d_rule d_filled d_rankings d_counts d_draw d_fors w_size w_ins w_rule w_steps w_fors w_draw w_links w_best w_beaters w_distances w_route t_bytes t_next t_ranking t_count l_cells l_sizes s_bytes g kept was tape flt ranking paper pairs above below isDone dist rowv rowMany lsz itm weakAbove weakBelow ps tl hfd hwr hik hI hkI htp hz hsb hlc hps htl hG hkG htpM hzM hpp hit
  have hn8 := hI.1.2
  refine ⟨_, _, c_X5_without 55 hI, c_X6_without 53 hG, ?_⟩
  rintro r hX2 r2 hM2 ⟨ws2X, wi2X, wr2X, wst2X, wf2X, wd2X, wl2X, wb2X, wt2X, vX, rfl, rfl, qX⟩ ⟨pairs2M, ab2M, be2M, dn2M, vM, rfl, rfl, qM⟩
  refine ⟨(z_JI_mk hfd hwr hik hI hkI htp hz hsb hlc hps htl hG hkG htpM hzM hpp hit), fun _ => ?_⟩
  rcases qX with ⟨x1, x0⟩ | ⟨a, p1, p2, p3⟩
  · rcases qM with ⟨y1, y0⟩ | ⟨a2, q1, q2, q3⟩
    · rw [x1, y1]
    · exact absurd ⟨a2, q1, q2⟩ x0
  · rcases qM with ⟨y1, y0⟩ | ⟨a2, q1, q2, q3⟩
    · exact absurd ⟨a, p1, p2⟩ y0
    · have e0 := z_nIj (by omega) (by omega) (p2.symm.trans q2)
      subst e0
      rcases p3 with ⟨h1, h2⟩ | ⟨h1, h2⟩ <;> rcases q3 with ⟨g1, g2⟩ | ⟨g1, g2⟩ <;> first | exact absurd h1 g1 | exact absurd g1 h1 | rw [h2, g2]
theorem prE_turners {hX hM : List z_E} (hJ : z_JI hX hM)  : z_TW True 106 215 [] hX hM := by
  refine z_JI_el (C := fun hX hM => z_TW True 106 215 [] hX hM) hJ ?_
  intro n outs bm ms dr cn pl ik kn ko kb km kd kc kpl fd tp wr pp sz ce p_rankings p_counts p_draw p_fors k_rankings k_counts k_draw k_fors d_size d_outs d_rule d_filled d_rankings d_counts d_draw d_fors w_size w_ins w_rule w_steps w_fors w_draw w_links w_best w_beaters w_distances w_route t_bytes t_next t_ranking t_count l_cells l_sizes s_bytes g kept was tape flt ranking paper pairs above below isDone dist rowv rowMany lsz itm weakAbove weakBelow ps tl hfd hwr hik hI hkI htp hz hsb hlc hps htl hG hkG htpM hzM hpp hit
  have hn8 := hI.1.2
  refine ⟨_, _, c_X5_turners 54 hI, c_X6_turners 52 hG, ?_⟩
  rintro r hX2 r2 hM2 ⟨ws2X, wi2X, wr2X, wst2X, wf2X, wd2X, wl2X, wb2X, wt2X, vX, rfl, rfl, qX⟩ ⟨pairs2M, ab2M, be2M, dn2M, vM, rfl, rfl, qM⟩
  exact ⟨(z_JI_mk hfd hwr hik hI hkI htp hz hsb hlc hps htl hG hkG htpM hzM hpp hit), fun _ => by rw [qX, qM]⟩
theorem prE_agree {hX hM : List z_E} (hJ : z_JI hX hM)  : z_TW True 107 216 [] hX hM := by
  refine z_JI_el (C := fun hX hM => z_TW True 107 216 [] hX hM) hJ ?_
  intro n outs bm ms dr cn pl ik kn ko kb km kd kc kpl fd tp wr pp sz ce p_rankings p_counts p_draw p_fors k_rankings k_counts k_draw k_fors d_size d_outs d_rule d_filled d_rankings d_counts d_draw d_fors w_size w_ins w_rule w_steps w_fors w_draw w_links w_best w_beaters w_distances w_route t_bytes t_next t_ranking t_count l_cells l_sizes s_bytes g kept was tape flt ranking paper pairs above below isDone dist rowv rowMany lsz itm weakAbove weakBelow ps tl hfd hwr hik hI hkI htp hz hsb hlc hps htl hG hkG htpM hzM hpp hit
  have hn8 := hI.1.2
  refine ⟨_, _, c_X5_agree 55 hI, c_X6_agree 52 hG, ?_⟩
  rintro r hX2 r2 hM2 ⟨ws2X, wi2X, wr2X, wst2X, wf2X, wd2X, wl2X, wb2X, wt2X, vX, rfl, rfl, qX⟩ ⟨pairs2M, ab2M, be2M, dn2M, vM, rfl, rfl, qM⟩
  exact ⟨(z_JI_mk hfd hwr hik hI hkI htp hz hsb hlc hps htl hG hkG htpM hzM hpp hit), fun _ => by rw [qX, qM]⟩
theorem prE_flips {hX hM : List z_E} (hJ : z_JI hX hM) (a1 : Int32) : z_TW True 108 217 [.int a1] hX hM := by
  refine z_JI_el (C := fun hX hM => z_TW True 108 217 [.int a1] hX hM) hJ ?_
  intro n outs bm ms dr cn pl ik kn ko kb km kd kc kpl fd tp wr pp sz ce p_rankings p_counts p_draw p_fors k_rankings k_counts k_draw k_fors d_size d_outs d_rule d_filled d_rankings d_counts d_draw d_fors w_size w_ins w_rule w_steps w_fors w_draw w_links w_best w_beaters w_distances w_route t_bytes t_next t_ranking t_count l_cells l_sizes s_bytes g kept was tape flt ranking paper pairs above below isDone dist rowv rowMany lsz itm weakAbove weakBelow ps tl hfd hwr hik hI hkI htp hz hsb hlc hps htl hG hkG htpM hzM hpp hit
  have hn8 := hI.1.2
  refine ⟨_, _, c_X5_flips 54 hI, c_X6_flips 52 hG, ?_⟩
  rintro r hX2 r2 hM2 ⟨ws2X, wi2X, wr2X, wst2X, wf2X, wd2X, wl2X, wb2X, wt2X, vX, rfl, rfl, qX⟩ ⟨pairs2M, ab2M, be2M, dn2M, vM, rfl, rfl, qM⟩
  refine ⟨(z_JI_mk hfd hwr hik hI hkI htp hz hsb hlc hps htl hG hkG htpM hzM hpp hit), fun _ => ?_⟩
  have h40 := hI.2.2.1
  rcases qX with ⟨x1, x0⟩ | ⟨b1, p1, p2, p3⟩
  · rcases qM with ⟨y1, y0⟩ | ⟨b2, q1, q2, q3⟩
    · rw [x1, y1]
    · exact absurd ⟨b2, q1, q2⟩ x0
  · rcases qM with ⟨y1, y0⟩ | ⟨b2, q1, q2, q3⟩
    · exact absurd ⟨b1, p1, p2⟩ y0
    · have e0 := z_nIj (by omega) (by omega) (p2.symm.trans q2)
      subst e0
      rcases p3 with ⟨k, h1, h2, h3, h4, h5, h6⟩ | ⟨h1, h2⟩
      · rcases q3 with ⟨k2, g1, g2, g3, g4, g5, g6⟩ | ⟨g1, g2⟩
        · have e : k = k2 := by
            rcases Nat.lt_trichotomy k k2 with z | z | z
            · exact absurd (g6 k h1 z) h5
            · exact z
            · exact absurd (h6 k2 g1 z) g5
          rw [h4, g4, e]
        · exact absurd (g2 k h1 h2 h3) h5
      · rcases q3 with ⟨k2, g1, g2, g3, g4, g5, g6⟩ | ⟨g1, g2⟩
        · exact absurd (h2 k2 g1 g2 g3) g5
        · rw [h1, g1]
theorem prE_told {hX hM : List z_E} (hJ : z_JI hX hM) (a1 : Int32) : z_TW True 111 231 [.int a1] hX hM := by
  refine z_JI_el (C := fun hX hM => z_TW True 111 231 [.int a1] hX hM) hJ ?_
  intro n outs bm ms dr cn pl ik kn ko kb km kd kc kpl fd tp wr pp sz ce p_rankings p_counts p_draw p_fors k_rankings k_counts k_draw k_fors d_size d_outs d_rule d_filled d_rankings d_counts d_draw d_fors w_size w_ins w_rule w_steps w_fors w_draw w_links w_best w_beaters w_distances w_route t_bytes t_next t_ranking t_count l_cells l_sizes s_bytes g kept was tape flt ranking paper pairs above below isDone dist rowv rowMany lsz itm weakAbove weakBelow ps tl hfd hwr hik hI hkI htp hz hsb hlc hps htl hG hkG htpM hzM hpp hit
  have hn8 := hI.1.2
  refine ⟨_, _, c_X5_told 55 hI, c_X6_told_ 52 hG, ?_⟩
  rintro r hX2 r2 hM2 ⟨ws2X, wi2X, wr2X, wst2X, wf2X, wd2X, wl2X, wb2X, wt2X, vX, rfl, rfl, qX⟩ ⟨pairs2M, ab2M, be2M, dn2M, vM, rfl, rfl, qM⟩
  have hfl : ∀ i, n ≤ i → (z_dif (2 ^ n - 1) outs).testBit i = false := fun i hi => by rw [z_ins_bit hn8, decide_eq_false (by omega)]; rfl
  have h7 := z_told7 (ms := ms) (pl := pl) hn8 hI.2.2.1 (fun b hb => (hI.2.2.2.2.2.1 b hb).2.2) hfl
  refine ⟨(z_JI_mk hfd hwr hik hI hkI htp hz hsb hlc hps htl hG hkG htpM hzM hpp hit), fun _ => ?_⟩
  rcases qX with ⟨h1, h2⟩ | ⟨h1, h2⟩ | ⟨h1, h2⟩ | ⟨h1, h2⟩ | ⟨h1, h2⟩ | ⟨h1, h2⟩ | ⟨h1, h2⟩ | ⟨h1, h2⟩ | ⟨h1, K, h3, h2⟩ | ⟨h1, h2⟩ <;> rcases qM with ⟨g1, g2⟩ | ⟨g1, g2⟩ | ⟨g1, g2⟩ | ⟨g1, g2⟩ | ⟨g1, g2⟩ | ⟨g1, g2⟩ | ⟨g1, g2⟩ | ⟨g1, g2⟩ | ⟨g1, K2, g3, g2⟩ | ⟨g1, g2⟩
  · rw [h2, g2]
  · exact absurd (h1.symm.trans g1) (by decide)
  · exact absurd (h1.symm.trans g1) (by decide)
  · exact absurd (h1.symm.trans g1) (by decide)
  · exact absurd (h1.symm.trans g1) (by decide)
  · exact absurd (h1.symm.trans g1) (by decide)
  · exact absurd (h1.symm.trans g1) (by decide)
  · exact absurd (h1.symm.trans g1) (by decide)
  · exact absurd (h1.symm.trans g1) (by decide)
  · rw [h1] at g1; exact absurd g1 (by decide)
  · exact absurd (h1.symm.trans g1) (by decide)
  · rw [h2, g2]
  · exact absurd (h1.symm.trans g1) (by decide)
  · exact absurd (h1.symm.trans g1) (by decide)
  · exact absurd (h1.symm.trans g1) (by decide)
  · exact absurd (h1.symm.trans g1) (by decide)
  · exact absurd (h1.symm.trans g1) (by decide)
  · exact absurd (h1.symm.trans g1) (by decide)
  · exact absurd (h1.symm.trans g1) (by decide)
  · rw [h1] at g1; exact absurd g1 (by decide)
  · exact absurd (h1.symm.trans g1) (by decide)
  · exact absurd (h1.symm.trans g1) (by decide)
  · rw [h2, g2]
  · exact absurd (h1.symm.trans g1) (by decide)
  · exact absurd (h1.symm.trans g1) (by decide)
  · exact absurd (h1.symm.trans g1) (by decide)
  · exact absurd (h1.symm.trans g1) (by decide)
  · exact absurd (h1.symm.trans g1) (by decide)
  · exact absurd (h1.symm.trans g1) (by decide)
  · rw [h1] at g1; exact absurd g1 (by decide)
  · exact absurd (h1.symm.trans g1) (by decide)
  · exact absurd (h1.symm.trans g1) (by decide)
  · exact absurd (h1.symm.trans g1) (by decide)
  · rw [h2, g2]
  · exact absurd (h1.symm.trans g1) (by decide)
  · exact absurd (h1.symm.trans g1) (by decide)
  · exact absurd (h1.symm.trans g1) (by decide)
  · exact absurd (h1.symm.trans g1) (by decide)
  · exact absurd (h1.symm.trans g1) (by decide)
  · rw [h1] at g1; exact absurd g1 (by decide)
  · exact absurd (h1.symm.trans g1) (by decide)
  · exact absurd (h1.symm.trans g1) (by decide)
  · exact absurd (h1.symm.trans g1) (by decide)
  · exact absurd (h1.symm.trans g1) (by decide)
  · rw [h2, g2]
  · exact absurd (h1.symm.trans g1) (by decide)
  · exact absurd (h1.symm.trans g1) (by decide)
  · exact absurd (h1.symm.trans g1) (by decide)
  · exact absurd (h1.symm.trans g1) (by decide)
  · rw [h1] at g1; exact absurd g1 (by decide)
  · exact absurd (h1.symm.trans g1) (by decide)
  · exact absurd (h1.symm.trans g1) (by decide)
  · exact absurd (h1.symm.trans g1) (by decide)
  · exact absurd (h1.symm.trans g1) (by decide)
  · exact absurd (h1.symm.trans g1) (by decide)
  · rw [h2, g2]
  · exact absurd (h1.symm.trans g1) (by decide)
  · exact absurd (h1.symm.trans g1) (by decide)
  · exact absurd (h1.symm.trans g1) (by decide)
  · rw [h1] at g1; exact absurd g1 (by decide)
  · exact absurd (h1.symm.trans g1) (by decide)
  · exact absurd (h1.symm.trans g1) (by decide)
  · exact absurd (h1.symm.trans g1) (by decide)
  · exact absurd (h1.symm.trans g1) (by decide)
  · exact absurd (h1.symm.trans g1) (by decide)
  · exact absurd (h1.symm.trans g1) (by decide)
  · rw [h2, g2]
  · exact absurd (h1.symm.trans g1) (by decide)
  · exact absurd (h1.symm.trans g1) (by decide)
  · rw [h1] at g1; exact absurd g1 (by decide)
  · exact absurd (h1.symm.trans g1) (by decide)
  · exact absurd (h1.symm.trans g1) (by decide)
  · exact absurd (h1.symm.trans g1) (by decide)
  · exact absurd (h1.symm.trans g1) (by decide)
  · exact absurd (h1.symm.trans g1) (by decide)
  · exact absurd (h1.symm.trans g1) (by decide)
  · exact absurd (h1.symm.trans g1) (by decide)
  · rw [h2, g2, h7]
  · exact absurd (h1.symm.trans g1) (by decide)
  · rw [h1] at g1; exact absurd g1 (by decide)
  · exact absurd (h1.symm.trans g1) (by decide)
  · exact absurd (h1.symm.trans g1) (by decide)
  · exact absurd (h1.symm.trans g1) (by decide)
  · exact absurd (h1.symm.trans g1) (by decide)
  · exact absurd (h1.symm.trans g1) (by decide)
  · exact absurd (h1.symm.trans g1) (by decide)
  · exact absurd (h1.symm.trans g1) (by decide)
  · exact absurd (h1.symm.trans g1) (by decide)
  · rw [h2, g2, z_told8 hn8 (fun a ha b hb => z_rows_uniq h3 g3 ha hb)]
  · rw [h1] at g1; exact absurd g1 (by decide)
  · rw [g1] at h1; exact absurd h1 (by decide)
  · rw [g1] at h1; exact absurd h1 (by decide)
  · rw [g1] at h1; exact absurd h1 (by decide)
  · rw [g1] at h1; exact absurd h1 (by decide)
  · rw [g1] at h1; exact absurd h1 (by decide)
  · rw [g1] at h1; exact absurd h1 (by decide)
  · rw [g1] at h1; exact absurd h1 (by decide)
  · rw [g1] at h1; exact absurd h1 (by decide)
  · rw [g1] at h1; exact absurd h1 (by decide)
  · rw [h2, g2]
theorem prE_get {hX hM : List z_E} (hJ : z_JI hX hM) (a1 : Int32) (a2 : Int32) : z_TW True 114 234 [.int a1, .int a2] hX hM := by
  refine z_JI_el (C := fun hX hM => z_TW True 114 234 [.int a1, .int a2] hX hM) hJ ?_
  intro n outs bm ms dr cn pl ik kn ko kb km kd kc kpl fd tp wr pp sz ce p_rankings p_counts p_draw p_fors k_rankings k_counts k_draw k_fors d_size d_outs d_rule d_filled d_rankings d_counts d_draw d_fors w_size w_ins w_rule w_steps w_fors w_draw w_links w_best w_beaters w_distances w_route t_bytes t_next t_ranking t_count l_cells l_sizes s_bytes g kept was tape flt ranking paper pairs above below isDone dist rowv rowMany lsz itm weakAbove weakBelow ps tl hfd hwr hik hI hkI htp hz hsb hlc hps htl hG hkG htpM hzM hpp hit
  have hn8 := hI.1.2
  refine ⟨_, _, c_X5_get 55 hI hz, c_X6_get 57 hzM, ?_⟩
  rintro r hX2 r2 hM2 ⟨vX, rfl, rfl, qX⟩ ⟨vM, rfl, rfl, qM⟩
  refine ⟨(z_JI_mk hfd hwr hik hI hkI htp hz hsb hlc hps htl hG hkG htpM hzM hpp hit), fun _ => ?_⟩
  rcases qX with ⟨x1, x0⟩ | ⟨q, x, p1, p2, p3, p4, p5⟩
  · rcases qM with ⟨y1, y0⟩ | ⟨q', x', q1, q2, q3, q4, q5⟩
    · rw [x1, y1]
    · exact absurd ⟨q', x', q1, q2, q3, q4⟩ x0
  · rcases qM with ⟨y1, y0⟩ | ⟨q', x', q1, q2, q3, q4, q5⟩
    · exact absurd ⟨q, x, p1, p2, p3, p4⟩ y0
    · have h41 := (hz q p1).2
      have h42 := (hz q' q1).2
      have e1 := z_nIj (by omega) (by omega) (p2.symm.trans q2)
      subst e1
      have e2 := z_nIj (by omega) (by omega) (p4.symm.trans q4)
      subst e2
      rw [p5, q5, hlc _ (by omega), hit _ (by omega)]
theorem prE_find {hX hM : List z_E} (hJ : z_JI hX hM)  : z_TW True 88 166 [] hX hM := by
  refine z_JI_el (C := fun hX hM => z_TW True 88 166 [] hX hM) hJ ?_
  intro n outs bm ms dr cn pl ik kn ko kb km kd kc kpl fd tp wr pp sz ce p_rankings p_counts p_draw p_fors k_rankings k_counts k_draw k_fors d_size d_outs d_rule d_filled d_rankings d_counts d_draw d_fors w_size w_ins w_rule w_steps w_fors w_draw w_links w_best w_beaters w_distances w_route t_bytes t_next t_ranking t_count l_cells l_sizes s_bytes g kept was tape flt ranking paper pairs above below isDone dist rowv rowMany lsz itm weakAbove weakBelow ps tl hfd hwr hik hI hkI htp hz hsb hlc hps htl hG hkG htpM hzM hpp hit
  have hn8 := hI.1.2
  refine ⟨_, _, c_X5_find 55 hI hfd htp, c_X6_find 54 hG hfd hps htl htpM, ?_⟩
  rintro r hX2 r2 hM2 ⟨nx2X, rk2X, vX, rfl, rfl, qX⟩ ⟨ranking2M, ps2M, ft2M, vM, rfl, rfl, qM⟩
  obtain ⟨hp2, qM⟩ := qM
  refine ⟨(z_JI_mk (Nat.zero_le _) hwr hik hI hkI (z_TB_0 (tp := tp)) hz hsb hlc hp2 hfd hG hkG z_TB_0 hzM hpp hit), fun _ => ?_⟩
  rcases qX with ⟨b, p, q, h1, h2, h3, h4⟩ | ⟨q, h1, h2⟩
  · rcases qM with ⟨b', p', q', g1, g2, g3, g4⟩ | ⟨q', g1, g2⟩
    · have e := h1.symm.trans g1
      simp only [Prod.mk.injEq] at e
      obtain ⟨e1, e2, e3⟩ := e
      subst e2
      rw [h4, g4]
    · have e := h1.symm.trans g1
      simp only [Prod.mk.injEq] at e
      obtain ⟨e1, e2, e3⟩ := e
      rcases h2 with h2 | h2
      · rw [e1] at h2; cases h2
      · exact absurd e2 h2
  · rcases qM with ⟨b', p', q', g1, g2, g3, g4⟩ | ⟨q', g1, g2⟩
    · have e := h1.symm.trans g1
      simp only [Prod.mk.injEq] at e
      obtain ⟨e1, e2, e3⟩ := e
      rcases g2 with g2 | g2
      · rw [← e1] at g2; cases g2
      · exact absurd e2.symm g2
    · have e := h1.symm.trans g1
      simp only [Prod.mk.injEq] at e
      obtain ⟨-, -, e3⟩ := e
      subst e3
      have h40 := hI.2.2.1
      rcases h2 with ⟨b, h2, h3, h4, h5⟩ | ⟨h2, h3⟩
      · rcases g2 with ⟨b', g2, g3, g4, g5⟩ | ⟨g2, g3⟩
        · rw [h5, g5, z_least (P := z_same n pl q) h3 h4 g3 g4]
        · exact absurd h3 (g2 b h2)
      · rcases g2 with ⟨b', g2, g3, g4, g5⟩ | ⟨g2, g3⟩
        · exact absurd g3 (h2 b' g2)
        · rw [h3, g3]
theorem prE_would {hX hM : List z_E} (hJ : z_JI hX hM) (a1 : Int32) : z_TW True 104 213 [.int a1] hX hM := by
  refine z_JI_el (C := fun hX hM => z_TW True 104 213 [.int a1] hX hM) hJ ?_
  intro n outs bm ms dr cn pl ik kn ko kb km kd kc kpl fd tp wr pp sz ce p_rankings p_counts p_draw p_fors k_rankings k_counts k_draw k_fors d_size d_outs d_rule d_filled d_rankings d_counts d_draw d_fors w_size w_ins w_rule w_steps w_fors w_draw w_links w_best w_beaters w_distances w_route t_bytes t_next t_ranking t_count l_cells l_sizes s_bytes g kept was tape flt ranking paper pairs above below isDone dist rowv rowMany lsz itm weakAbove weakBelow ps tl hfd hwr hik hI hkI htp hz hsb hlc hps htl hG hkG htpM hzM hpp hit
  have hn8 := hI.1.2
  refine ⟨_, _, c_X5_would 55 hI hfd htp, c_X6_would 53 hG hfd hps htl htpM, ?_⟩
  rintro r hX2 r2 hM2 ⟨nx2X, rk2X, fd2X, ws2X, wi2X, wr2X, wst2X, wf2X, wd2X, wl2X, wb2X, wt2X, vX, rfl, rfl, qX⟩ ⟨rk2M, ps2M, tl2M, fd2M, ft2M, pairs2M, ab2M, be2M, dn2M, vM, rfl, rfl, qM⟩
  obtain ⟨hp2, ht2, qM⟩ := qM
  rcases qX with ⟨x0, x1, x2⟩ | ⟨x0, k, x1, x2, x3, x4⟩
  · rcases qM with ⟨y0, y1, y2⟩ | ⟨y0, k2, y1, y2, y3, y4⟩
    · subst x1 y1
      exact ⟨(z_JI_mk hfd hwr hik hI hkI htp hz hsb hlc hp2 ht2 hG hkG htpM hzM hpp hit), fun _ => by rw [x0, y0]⟩
    · exact absurd ⟨k2, y1, y2, y3⟩ x2
  · rcases qM with ⟨y0, y1, y2⟩ | ⟨y0, k2, y1, y2, y3, y4⟩
    · exact absurd ⟨k, x1, x2, x3⟩ y2
    · have ek := z_nIj (by omega) (by omega) (x3.symm.trans y3)
      subst x0 y0 ek
      refine ⟨(z_JI_mk (Nat.zero_le _) hwr hik hI hkI (z_TB_0 (tp := tp)) hz hsb hlc hp2 ht2 hG hkG z_TB_0 hzM hpp hit), fun _ => ?_⟩
      rcases x4 with ⟨b, p, q, h1, h2, h3, h4⟩ | ⟨q, h1, h2⟩
      · rcases y4 with ⟨b', p', q', g1, g2, g3, g4⟩ | ⟨q', g1, g2⟩
        · have e := h1.symm.trans g1
          simp only [Prod.mk.injEq] at e
          obtain ⟨e1, e2, e3⟩ := e
          subst e2
          rw [h4, g4]
        · have e := h1.symm.trans g1
          simp only [Prod.mk.injEq] at e
          obtain ⟨e1, e2, e3⟩ := e
          rcases h2 with h2 | h2
          · rw [e1] at h2; cases h2
          · exact absurd e2 h2
      · rcases y4 with ⟨b', p', q', g1, g2, g3, g4⟩ | ⟨q', g1, g2⟩
        · have e := h1.symm.trans g1
          simp only [Prod.mk.injEq] at e
          obtain ⟨e1, e2, e3⟩ := e
          rcases g2 with g2 | g2
          · rw [← e1] at g2; cases g2
          · exact absurd e2.symm g2
        · have e := h1.symm.trans g1
          simp only [Prod.mk.injEq] at e
          obtain ⟨-, -, e3⟩ := e
          subst e3
          rw [h2, g2]
theorem prE_needs {hX hM : List z_E} (hJ : z_JI hX hM) (a1 : Int32) : z_TW True 105 214 [.int a1] hX hM := by
  refine z_JI_el (C := fun hX hM => z_TW True 105 214 [.int a1] hX hM) hJ ?_
  intro n outs bm ms dr cn pl ik kn ko kb km kd kc kpl fd tp wr pp sz ce p_rankings p_counts p_draw p_fors k_rankings k_counts k_draw k_fors d_size d_outs d_rule d_filled d_rankings d_counts d_draw d_fors w_size w_ins w_rule w_steps w_fors w_draw w_links w_best w_beaters w_distances w_route t_bytes t_next t_ranking t_count l_cells l_sizes s_bytes g kept was tape flt ranking paper pairs above below isDone dist rowv rowMany lsz itm weakAbove weakBelow ps tl hfd hwr hik hI hkI htp hz hsb hlc hps htl hG hkG htpM hzM hpp hit
  have hn8 := hI.1.2
  refine ⟨_, _, c_X5_needs 55 hI hfd htp, c_X6_needs 53 hG hfd hps htl htpM, ?_⟩
  rintro r hX2 r2 hM2 ⟨nx2X, rk2X, fd2X, ws2X, wi2X, wr2X, wst2X, wf2X, wd2X, wl2X, wb2X, wt2X, vX, rfl, rfl, qX⟩ ⟨rk2M, ps2M, tl2M, fd2M, ft2M, pairs2M, ab2M, be2M, dn2M, vM, rfl, rfl, qM⟩
  obtain ⟨hp2, ht2, qM⟩ := qM
  rcases qX with ⟨x0, x1, x2⟩ | ⟨x0, x1, k, x2, x3, x4⟩ | ⟨x0, k, x2, x3, x4, x5⟩
  · rcases qM with ⟨y0, y1, y2⟩ | ⟨y0, y1, k2, y2, y3, y4⟩ | ⟨y0, k2, y2, y3, y4, y5⟩
    · subst x0 y0
      exact ⟨(z_JI_mk hfd hwr hik hI hkI htp hz hsb hlc hp2 ht2 hG hkG htpM hzM hpp hit), fun _ => by rw [x1, y1]⟩
    · exact absurd ⟨k2, y2, y3⟩ x2
    · exact absurd ⟨k2, y2, y3⟩ x2
  · rcases qM with ⟨y0, y1, y2⟩ | ⟨y0, y1, k2, y2, y3, y4⟩ | ⟨y0, k2, y2, y3, y4, y5⟩
    · exact absurd ⟨k, x2, x3⟩ y2
    · subst x0 y0
      exact ⟨(z_JI_mk hfd hwr hik hI hkI htp hz hsb hlc hp2 ht2 hG hkG htpM hzM hpp hit), fun _ => by rw [x1, y1]⟩
    · have ek := z_nIj (by omega) (by omega) (x3.symm.trans y3)
      subst ek
      exact Bool.noConfusion (x4.symm.trans y4)
  · rcases qM with ⟨y0, y1, y2⟩ | ⟨y0, y1, k2, y2, y3, y4⟩ | ⟨y0, k2, y2, y3, y4, y5⟩
    · exact absurd ⟨k, x2, x3⟩ y2
    · have ek := z_nIj (by omega) (by omega) (x3.symm.trans y3)
      subst ek
      exact Bool.noConfusion (x4.symm.trans y4)
    · have ek := z_nIj (by omega) (by omega) (x3.symm.trans y3)
      subst x0 y0 ek
      refine ⟨(z_JI_mk (Nat.zero_le _) hwr hik hI hkI (z_TB_0 (tp := tp)) hz hsb hlc hp2 ht2 hG hkG z_TB_0 hzM hpp hit), fun _ => ?_⟩
      rcases x5 with ⟨b, p, q, h1, h2, h3, h4⟩ | ⟨q, h1, h2⟩
      · rcases y5 with ⟨b', p', q', g1, g2, g3, g4⟩ | ⟨q', g1, g2⟩
        · have e := h1.symm.trans g1
          simp only [Prod.mk.injEq] at e
          obtain ⟨e1, e2, e3⟩ := e
          subst e2
          rw [h4, g4]
        · have e := h1.symm.trans g1
          simp only [Prod.mk.injEq] at e
          obtain ⟨e1, e2, e3⟩ := e
          rcases h2 with h2 | h2
          · rw [e1] at h2; cases h2
          · exact absurd e2 h2
      · rcases y5 with ⟨b', p', q', g1, g2, g3, g4⟩ | ⟨q', g1, g2⟩
        · have e := h1.symm.trans g1
          simp only [Prod.mk.injEq] at e
          obtain ⟨e1, e2, e3⟩ := e
          rcases g2 with g2 | g2
          · rw [← e1] at g2; cases g2
          · exact absurd e2.symm g2
        · have e := h1.symm.trans g1
          simp only [Prod.mk.injEq] at e
          obtain ⟨-, -, e3⟩ := e
          subst e3
          rcases h2 with ⟨x, h2, h3, h4, h5, h6⟩ | ⟨h2, h3⟩
          · rcases g2 with ⟨y, g2, g3, g4, g5, g6⟩ | ⟨g2, g3⟩
            · have e : x = y := by
                rcases Nat.lt_trichotomy x y with z | z | z
                · exact absurd h5 (g6 x h2 z)
                · exact z
                · exact absurd g5 (h6 y g2 z)
              rw [h4, g4, e]
            · exact absurd h5 (g3 x h2 h3)
          · rcases g2 with ⟨y, g2, g3, g4, g5, g6⟩ | ⟨g2, g3⟩
            · exact absurd g5 (h3 y g2 g3)
            · rw [h2, g2]
