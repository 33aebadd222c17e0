/-! texts that aren't read through -/
def p_at2 (tp : Nat → Nat) (fd : Nat) : Nat → List (Nat × Nat) → Prop
  | _, [] => True
  | p, (c, s) :: t => p < fd ∧ tp p = 48 + c ∧ p + 1 < fd ∧ tp (p + 1) = s ∧ (s = 62 ∨ s = 61) ∧ p_at2 tp fd (p + 1 + 1) t
theorem p_rp2 {n fd : Nat} {tp : Nat → Nat} (hn : n ≤ 8) : ∀ (l : List (Nat × Nat)) (f td pl : Nat) (q : Nat → Nat) (p : Nat), p_at2 tp fd p l → l.length ≤ f → (∀ e ∈ l, e.1 < n) → (l.map Prod.fst).Nodup → (∀ e ∈ l, td.testBit e.1 = false) → ∃ f2 td2 pl2 q2, z_rp n tp fd f td pl q p = z_rp n tp fd f2 td2 pl2 q2 (p + 2 * l.length) ∧ (∀ x, td.testBit x = true → td2.testBit x = true) ∧ ∀ e ∈ l, td2.testBit e.1 = true
  | [], f, td, pl, q, p, _, _, _, _, _ => ⟨f, td, pl, q, rfl, fun _ h => h, fun e he => by cases he⟩
  | (c, s) :: t, f, td, pl, q, p, h, hf, hc, hd, ht => by
    have hl : ((c, s) :: t).length = t.length + 1 := rfl
    obtain ⟨f, rfl⟩ : ∃ g, f = g + 1 := ⟨f - 1, by omega⟩
    obtain ⟨h1, h2, h3, h4, h5, h6⟩ := h
    have hcn : c < n := hc (c, s) List.mem_cons_self
    have htd : td.testBit c = false := ht (c, s) List.mem_cons_self
    have hd2 := List.nodup_cons.mp hd
    have ht2 : ∀ e ∈ t, (td ||| 2 ^ c).testBit e.1 = false := by
      intro e he
      have hne : c ≠ e.1 := fun z => hd2.1 (by show c ∈ t.map Prod.fst; rw [z]; exact List.mem_map_of_mem he)
      rw [Nat.testBit_or, ht e (List.mem_cons_of_mem _ he), Nat.testBit_two_pow_of_ne hne]
      rfl
    rw [z_rp_q h1 h2 hcn hn htd]
    have key : ∀ pl3 : Nat, ∃ f2 td2 pl2 q2, z_rp n tp fd f (td ||| 2 ^ c) pl3 (fun x => if x = c then pl else q x) (p + 1 + 1) = z_rp n tp fd f2 td2 pl2 q2 (p + 2 * ((c, s) :: t).length) ∧ (∀ x, td.testBit x = true → td2.testBit x = true) ∧ ∀ e ∈ (c, s) :: t, td2.testBit e.1 = true := by
      intro pl3
      obtain ⟨f2, td2, pl2, q2, e1, e2, e3⟩ := p_rp2 hn t f (td ||| 2 ^ c) pl3 (fun x => if x = c then pl else q x) (p + 1 + 1) h6 (by omega) (fun e he => hc e (List.mem_cons_of_mem _ he)) hd2.2 ht2
      refine ⟨f2, td2, pl2, q2, ?_, fun x hx => e2 x (by rw [Nat.testBit_or, hx]; rfl), fun e he => ?_⟩
      · rw [e1, hl, show p + 1 + 1 + 2 * t.length = p + 2 * (t.length + 1) by omega]
      · rcases List.mem_cons.mp he with rfl | he2
        · exact e2 c (by rw [Nat.testBit_or, Nat.testBit_two_pow_self, Bool.or_true])
        · exact e3 e he2
    rcases h5 with h5 | h5
    · rw [z_rq_g h3 (h4.trans h5)]
      exact key _
    · rw [z_rq_e h3 (h4.trans h5)]
      exact key _
theorem p_at2_by {r tp : Nat → Nat} {fd : Nat} : ∀ (L : List Nat) (p : Nat), L ≠ [] → (∀ k, k < (p_by r L).length → tp (p + k) = (p_by r L).getD k 0) → p + (p_by r L).length < fd → (tp (p + (p_by r L).length) = 62 ∨ tp (p + (p_by r L).length) = 61) → ∃ l, p_at2 tp fd p l ∧ l.map Prod.fst = L
  | [], _, h, _, _, _ => absurd rfl h
  | [c], p, _, h1, h2, h3 => ⟨[(c, tp (p + 1))], ⟨Nat.lt_trans (Nat.lt_succ_self p) h2, h1 0 (Nat.zero_lt_one), h2, rfl, h3, trivial⟩, rfl⟩
  | c :: d :: t, p, _, h1, h2, h3 => by
    have hl : (p_by r (c :: d :: t)).length = (p_by r (d :: t)).length + 2 := rfl
    rw [hl] at h2 h3
    have e0 : p + ((p_by r (d :: t)).length + 2) = p + 1 + 1 + (p_by r (d :: t)).length := by omega
    rw [e0] at h2 h3
    obtain ⟨l, i1, i2⟩ := p_at2_by (r := r) (tp := tp) (fd := fd) (d :: t) (p + 1 + 1) (by simp) (fun k hk => by
      have := h1 (k + 1 + 1) (by rw [hl]; omega)
      rw [show p + 1 + 1 + k = p + (k + 1 + 1) by omega, this]
      rfl) h2 h3
    refine ⟨(c, if r c = r d then 61 else 62) :: l, ⟨by omega, h1 0 (by rw [hl]; omega), by omega, h1 1 (by rw [hl]; omega), ?_, i1⟩, ?_⟩
    · by_cases h : r c = r d
      · exact Or.inr (if_pos h)
      · exact Or.inl (if_neg h)
    · show c :: l.map Prod.fst = _
      rw [i2]
/-- all are told, and a sign follows: the reading fails behind it -/
theorem p_failE {n fd p : Nat} {r tp : Nat → Nat} (hn2 : 2 ≤ n) (hn : n ≤ 8) (hRK : z_RK n r) (h1 : y_at_ tp p (z_sp n r (z_mx n r + 1))) (h2 : p + (z_sp n r (z_mx n r + 1)).length < fd) (h3 : tp (p + (z_sp n r (z_mx n r + 1)).length) = 62 ∨ tp (p + (z_sp n r (z_mx n r + 1)).length) = 61) : ∃ q, z_rp n tp fd 8 0 0 (fun _ => 0) p = (false, p + (z_sp n r (z_mx n r + 1)).length + 1, q) := by
  have hm2 : z_mx n r + 1 ≤ z_mx n r + 1 := Nat.le_refl _
  have h : ∀ p, p < z_mx n r + 1 → z_ct n (fun x => decide (r x = p)) ≠ 0 := fun p hp => y_ct_ne (by omega) hRK (by omega)
  have e : (z_sp n r (z_mx n r + 1)).length = 2 * (p_l n r (z_mx n r + 1)).length - 1 := by rw [z_sp_len hn2 hRK hm2, p_l_len]
  obtain ⟨g1, -⟩ := p_l_last h (by omega)
  have hmem := fun x => p_l_mem (n := n) (r := r) (x := x) (z_mx n r + 1)
  have hnd := p_l_nd (n := n) (r := r) (z_mx n r + 1)
  have hlen : (p_l n r (z_mx n r + 1)).length ≤ 8 := by rw [p_l_len]; exact Nat.le_trans (z_ct_le _ n) hn
  have hpos : 1 ≤ (p_l n r (z_mx n r + 1)).length := by
    cases hL : p_l n r (z_mx n r + 1) with
    | nil => exact absurd hL g1
    | cons a t => exact Nat.succ_le_succ (Nat.zero_le _)
  have h1b : ∀ k, k < (p_by r (p_l n r (z_mx n r + 1))).length → tp (p + k) = (p_by r (p_l n r (z_mx n r + 1))).getD k 0 := by rw [← p_sp h]; exact h1
  obtain ⟨l, a1, a2⟩ := p_at2_by (fd := fd) (p_l n r (z_mx n r + 1)) p g1 h1b (by rw [← p_sp h]; exact h2) (by rw [← p_sp h]; exact h3)
  have hll : l.length = (p_l n r (z_mx n r + 1)).length := by rw [← a2, List.length_map]
  have hin : ∀ e ∈ l, e.1 ∈ p_l n r (z_mx n r + 1) := fun e he => by rw [← a2]; exact List.mem_map_of_mem he
  obtain ⟨f2, td2, pl2, q2, e1, -, e3⟩ := p_rp2 hn l 8 0 0 (fun _ => 0) p a1 (by omega) (fun e he => ((hmem e.1).mp (hin e he)).1) (by rw [a2]; exact hnd) (fun e _ => Nat.zero_testBit e.1)
  have ep : p + 2 * l.length = p + (z_sp n r (z_mx n r + 1)).length + 1 := by rw [hll, e]; omega
  rw [ep] at e1
  refine ⟨q2, ?_⟩
  rw [e1]
  refine z_rp_no (fun z => ?_)
  obtain ⟨-, -, -, z4, z5⟩ := z
  have hx : tp (p + (z_sp n r (z_mx n r + 1)).length + 1) - 48 ∈ p_l n r (z_mx n r + 1) := (hmem _).mpr ⟨z4, by have := z_mx_ge (q := r) z4; omega⟩
  rw [← a2] at hx
  obtain ⟨e9, h9, h10⟩ := List.mem_map.mp hx
  have := e3 e9 h9
  rw [h10, z5] at this
  cases this
/-! the wrong texts' answers -/
theorem y_m (a b : Nat) : -nI a - nI b = -nI (a + b) := by rw [← nI_add, Int32.neg_add, Int32.sub_eq_add_neg]
theorem y_m1 (s : Nat) : -nI 100 - nI (s + 3) = (-nI 100 - nI s) - nI 3 := by
  rw [y_m, y_m, y_m, show 100 + (s + 3) = 100 + s + 3 by omega]
theorem y_m2 : -nI 100 - nI 0 = -nI 100 := by rw [y_m]
theorem y_m3 : -nI 100 - nI 1 = -nI 101 := by rw [y_m]
theorem y_m4 (s : Nat) : -nI 100 - nI (s + 1) = -nI 101 - nI s := by
  rw [y_m, y_m, show 100 + (s + 1) = 101 + s by omega]
theorem y_m5 (s : Nat) : -nI 100 - nI (s + 3) = -nI 103 - nI s := by
  rw [y_m, y_m, show 100 + (s + 3) = 103 + s by omega]
theorem y_bts4 : y_bts 4 = [50, 58] := by decide +kernel
theorem y_bts5 : y_bts 5 = [59, 48, 58] := by decide +kernel
theorem y_bts6 : y_bts 6 = [59] := by decide +kernel
theorem y_bts7 : y_bts 7 = [49, 48, 48, 48, 48, 48, 49, 58] := by decide +kernel
theorem y_bts8 : y_bts 8 = [51, 58] := by decide +kernel
theorem y_bts2 : y_bts 2 = [61] := by decide +kernel
theorem y_bts1 : y_bts 1 = [62] := by decide +kernel
theorem y_bts9 : y_bts 9 = [51, 59] := by decide +kernel
theorem y_bts10 : y_bts 10 = [120] := by decide +kernel
theorem y_bts11 : y_bts 11 = [49, 58] := by decide +kernel
theorem y_bts12 : y_bts 12 = [49, 48, 48, 48, 48, 48, 48, 58] := by decide +kernel
/-- one figure, then the sign of a count -/
theorem y_nm1 {d fd p : Nat} {tp : Nat → Nat} (hd : d < 10) (h0 : tp p = 48 + d) (h1 : ¬ (48 ≤ tp (p + 1) ∧ tp (p + 1) ≤ 57)) (hfd : p < fd) : z_nm tp fd 7 0 p = (d, p + 1) := by
  rw [z_nm_c (k := d) hfd hd h0, z_nm_no (fun z => h1 z.2), Nat.mul_zero, Nat.zero_add]
theorem y_pos2 {tp : Nat → Nat} {p a b : Nat} {B : List Nat} (h : y_at_ tp p ([a, b] ++ B)) : tp p = a ∧ tp (p + 1) = b ∧ y_at_ tp (p + 2) B := ⟨h 0 (Nat.succ_pos _), h 1 (by show 1 < B.length + 2; omega), y_at_r h⟩
/-- a ballot is read, ';' follows, what is behind fails -/
theorem y_first {n fd bm ft : Nat} {tp r cn : Nat → Nat} {pl : Nat → Nat → Nat} {S : List Nat} (hn2 : 2 ≤ n) (hn : n ≤ 8) (hRK : z_RK n r) (hS : S = z_sp n r (z_mx n r + 1)) (h0 : y_at_ tp 0 ([50, 58] ++ S)) (hfd : 2 + S.length < fd) (h59 : tp (2 + S.length) = 59) (hb : bm < 40) (hcn : ∀ b, b < bm → cn b + 2 ≤ 1000000) (hF : z_p1F n tp fd (2 + S.length + 1) ft) : z_pts n tp fd 2 0 0 bm cn pl (.inl ft) := by
  obtain ⟨a0, a1, hs⟩ := y_pos2 h0
  have hs : y_at_ tp 2 S := hs
  rw [hS] at hs hfd h59 hF
  obtain ⟨q4, e1, -⟩ := p_readE (m := z_mx n r + 1) (fd := fd) (p := 2) hn2 hn hRK (Nat.succ_pos _) (Nat.le_refl _) (Nat.le_succ _) hs (by omega) (by omega)
  obtain ⟨bm4, cn4, pl4, ha⟩ := y_add_ex (n := n) (q := q4) (pl := pl) hb hcn
  refine Or.inr ⟨2, q4, 2 + (z_sp n r (z_mx n r + 1)).length, ⟨1, ?_, ⟨by decide, by decide⟩, ⟨by omega, a1⟩, e1⟩, Or.inr ⟨bm4, cn4, pl4, ha, Or.inr (Or.inr ⟨⟨hfd, h59⟩, Or.inl ⟨ft, hF, rfl⟩⟩)⟩⟩
  exact y_nm1 (p := 0) (by decide) a0 (by rw [a1]; omega) (by omega)
/-- "2:" t ";0:" t -/
theorem y_f1 {n bm : Nat} {tp r cn : Nat → Nat} {pl : Nat → Nat → Nat} {S TL : List Nat} (hn2 : 2 ≤ n) (hn : n ≤ 8) (hRK : z_RK n r) (hS : S = z_sp n r (z_mx n r + 1)) (hT : TL = (y_bts 4 ++ S) ++ y_bts 5 ++ S) (htp : ∀ j, j < TL.length → tp j = TL.getD j 0) (hb : bm < 40) (hcn : ∀ b, b < bm → cn b + 2 ≤ 1000000) : z_pts n tp TL.length 2 0 0 bm cn pl (.inl (S.length + 3)) := by
  have hat := y_at_0 htp
  have hlen : TL.length = 2 + S.length + 3 + S.length := by rw [hT, List.length_append, List.length_append, List.length_append, y_bts4, y_bts5]; rfl
  rw [hT, y_bts4, y_bts5] at hat
  have h5 := y_at_r (y_at_l hat)
  have e5 : 0 + ([50, 58] ++ S).length = 2 + S.length := by rw [List.length_append, Nat.zero_add]; rfl
  rw [e5] at h5
  have b0 : tp (2 + S.length) = 59 := h5 0 (show 0 < 3 by decide)
  have b1 : tp (2 + S.length + 1) = 48 := h5 1 (show 1 < 3 by decide)
  have b2 : tp (2 + S.length + 1 + 1) = 58 := h5 2 (show 2 < 3 by decide)
  refine y_first hn2 hn hRK hS (y_at_l (y_at_l hat)) (by omega) b0 hb hcn ⟨0, 2 + S.length + 1 + 1, y_nm1 (d := 0) (by decide) b1 (by rw [b2]; omega) (by omega), Or.inl ⟨by omega, by omega⟩⟩
/-- "2:" t ";" -/
theorem y_f2 {n bm : Nat} {tp r cn : Nat → Nat} {pl : Nat → Nat → Nat} {S TL : List Nat} (hn2 : 2 ≤ n) (hn : n ≤ 8) (hRK : z_RK n r) (hS : S = z_sp n r (z_mx n r + 1)) (hT : TL = (y_bts 4 ++ S) ++ y_bts 6) (htp : ∀ j, j < TL.length → tp j = TL.getD j 0) (hb : bm < 40) (hcn : ∀ b, b < bm → cn b + 2 ≤ 1000000) : z_pts n tp TL.length 2 0 0 bm cn pl (.inl (S.length + 3)) := by
  have hat := y_at_0 htp
  have hlen : TL.length = 2 + S.length + 1 := by rw [hT, List.length_append, List.length_append, y_bts4, y_bts6]; rfl
  rw [hT, y_bts4, y_bts6] at hat
  have h5 := y_at_r hat
  have e5 : 0 + ([50, 58] ++ S).length = 2 + S.length := by rw [List.length_append, Nat.zero_add]; rfl
  rw [e5] at h5
  have b0 : tp (2 + S.length) = 59 := h5 0 (show 0 < 1 by decide)
  exact y_first hn2 hn hRK hS (y_at_l hat) (by omega) b0 hb hcn ⟨0, 2 + S.length + 1, z_nm_no (by omega), Or.inl ⟨by omega, by omega⟩⟩
/-- "3:" t "=" and a candidate told -/
theorem y_f4 {n bm x : Nat} {tp r cn : Nat → Nat} {pl : Nat → Nat → Nat} {S TL : List Nat} (hn2 : 2 ≤ n) (hn : n ≤ 8) (hRK : z_RK n r) (hS : S = z_sp n r (z_mx n r + 1)) (hT : TL = ((y_bts 8 ++ S) ++ y_bts 2) ++ [x]) (htp : ∀ j, j < TL.length → tp j = TL.getD j 0) : z_pts n tp TL.length 1 0 0 bm cn pl (.inl (S.length + 3)) := by
  have hat := y_at_0 htp
  have hlen : TL.length = 2 + S.length + 1 + 1 := by rw [hT, List.length_append, List.length_append, List.length_append, y_bts8, y_bts2]; rfl
  rw [hT, y_bts8, y_bts2] at hat
  have h5 := y_at_r (y_at_l hat)
  have e5 : 0 + ([51, 58] ++ S).length = 2 + S.length := by rw [List.length_append, Nat.zero_add]; rfl
  rw [e5] at h5
  have b0 : tp (2 + S.length) = 61 := h5 0 (show 0 < 1 by decide)
  obtain ⟨a0, a1, hs⟩ := y_pos2 (y_at_l (y_at_l hat))
  have hs : y_at_ tp 2 S := hs
  rw [hS] at hs hlen b0
  obtain ⟨q, e1⟩ := p_failE (fd := TL.length) (p := 2) hn2 hn hRK hs (by omega) (Or.inr b0)
  refine Or.inl ⟨S.length + 3, ⟨3, 1, y_nm1 (p := 0) (by decide) a0 (by rw [a1]; omega) (by omega), Or.inr ⟨⟨by decide, by decide⟩, Or.inr ⟨⟨by omega, a1⟩, q, ?_⟩⟩⟩, rfl⟩
  rw [show (1 : Nat) + 1 = 2 from rfl, e1, hS, show 2 + (z_sp n r (z_mx n r + 1)).length + 1 = (z_sp n r (z_mx n r + 1)).length + 3 by omega]
/-- "3;" t -/
theorem y_f5 {n bm : Nat} {tp cn : Nat → Nat} {pl : Nat → Nat → Nat} {S TL : List Nat} (hT : TL = y_bts 9 ++ S) (htp : ∀ j, j < TL.length → tp j = TL.getD j 0) : z_pts n tp TL.length 1 0 0 bm cn pl (.inl 1) := by
  have hat := y_at_0 htp
  have hlen : TL.length = S.length + 2 := by rw [hT, List.length_append, y_bts9]; exact Nat.add_comm 2 S.length
  rw [hT, y_bts9] at hat
  obtain ⟨a0, a1, -⟩ := y_pos2 hat
  have a1 : tp 1 = 59 := a1
  exact Or.inl ⟨1, ⟨3, 1, y_nm1 (p := 0) (by decide) a0 (by rw [a1]; omega) (by omega), Or.inr ⟨⟨by decide, by decide⟩, Or.inl ⟨fun z => by have := z.2; omega, rfl⟩⟩⟩, rfl⟩
/-- t "x" -/
theorem y_f6 {n : Nat} {tp r : Nat → Nat} {S TL : List Nat} (hn2 : 2 ≤ n) (hn : n ≤ 8) (hRK : z_RK n r) (hS : S = z_sp n r (z_mx n r + 1)) (hT : TL = S ++ y_bts 10) (htp : ∀ j, j < TL.length → tp j = TL.getD j 0) : (∃ q, z_rp n tp TL.length 8 0 0 (fun _ => 0) 0 = (true, S.length, q)) ∧ S.length ≠ TL.length := by
  have hat := y_at_0 htp
  have hlen : TL.length = S.length + 1 := by rw [hT, List.length_append, y_bts10]; rfl
  rw [hT, y_bts10] at hat
  have b0 : tp (0 + S.length) = 120 := (y_at_r hat) 0 (show 0 < 1 by decide)
  have hs := y_at_l hat
  refine ⟨?_, by omega⟩
  rw [hS] at hs hlen b0 ⊢
  obtain ⟨q, e1, -⟩ := p_readE (m := z_mx n r + 1) (fd := TL.length) (p := 0) hn2 hn hRK (Nat.succ_pos _) (Nat.le_refl _) (Nat.le_succ _) hs (by omega) (by omega)
  rw [Nat.zero_add] at e1
  exact ⟨q, e1⟩
/-- t ">" -/
theorem y_f7 {n : Nat} {tp r : Nat → Nat} {S TL : List Nat} (hn2 : 2 ≤ n) (hn : n ≤ 8) (hRK : z_RK n r) (hS : S = z_sp n r (z_mx n r + 1)) (hT : TL = S ++ y_bts 1) (htp : ∀ j, j < TL.length → tp j = TL.getD j 0) : ∃ q, z_rp n tp TL.length 8 0 0 (fun _ => 0) 0 = (false, S.length + 1, q) := by
  have hat := y_at_0 htp
  have hlen : TL.length = S.length + 1 := by rw [hT, List.length_append, y_bts1]; rfl
  rw [hT, y_bts1] at hat
  have b0 : tp (0 + S.length) = 62 := (y_at_r hat) 0 (show 0 < 1 by decide)
  have hs := y_at_l hat
  rw [hS] at hs hlen b0 ⊢
  obtain ⟨q, e1⟩ := p_failE (fd := TL.length) (p := 0) hn2 hn hRK hs (by omega) (Or.inl b0)
  rw [Nat.zero_add] at e1
  exact ⟨q, e1⟩
/-- ">" -/
theorem y_f8 {n : Nat} {tp : Nat → Nat} (htp : ∀ j, j < (y_bts 1).length → tp j = (y_bts 1).getD j 0) : z_rp n tp (y_bts 1).length 8 0 0 (fun _ => 0) 0 = (false, 0, fun _ => 0) := by
  have b0 : tp 0 = 62 := by
    rw [htp 0 (by decide +kernel)]
    decide +kernel
  exact z_rp_no (fun z => by omega)
/-- "1:" t ">" and what is behind -/
theorem y_f9 {n bm : Nat} {tp r cn : Nat → Nat} {pl : Nat → Nat → Nat} {S TL X : List Nat} (hn2 : 2 ≤ n) (hn : n ≤ 8) (hRK : z_RK n r) (hS : S = z_sp n r (z_mx n r + 1)) (hT : TL = ((y_bts 11 ++ S) ++ y_bts 1) ++ X) (htp : ∀ j, j < TL.length → tp j = TL.getD j 0) : z_pts n tp TL.length 1 0 0 bm cn pl (.inl (S.length + 3)) := by
  have hat := y_at_0 htp
  have hlen : TL.length = 2 + S.length + 1 + X.length := by rw [hT, List.length_append, List.length_append, List.length_append, y_bts11, y_bts1]; rfl
  rw [hT, y_bts11, y_bts1] at hat
  have h5 := y_at_r (y_at_l hat)
  have e5 : 0 + ([49, 58] ++ S).length = 2 + S.length := by rw [List.length_append, Nat.zero_add]; rfl
  rw [e5] at h5
  have b0 : tp (2 + S.length) = 62 := h5 0 (show 0 < 1 by decide)
  obtain ⟨a0, a1, hs⟩ := y_pos2 (y_at_l (y_at_l hat))
  have hs : y_at_ tp 2 S := hs
  rw [hS] at hs hlen b0
  obtain ⟨q, e1⟩ := p_failE (fd := TL.length) (p := 2) hn2 hn hRK hs (by omega) (Or.inl b0)
  refine Or.inl ⟨S.length + 3, ⟨1, 1, y_nm1 (p := 0) (by decide) a0 (by rw [a1]; omega) (by omega), Or.inr ⟨⟨by decide, by decide⟩, Or.inr ⟨⟨by omega, a1⟩, q, ?_⟩⟩⟩, rfl⟩
  rw [show (1 : Nat) + 1 = 2 from rfl, e1, hS, show 2 + (z_sp n r (z_mx n r + 1)).length + 1 = (z_sp n r (z_mx n r + 1)).length + 3 by omega]
/-- seven figures -/
theorem y_nm7 {fd : Nat} {tp : Nat → Nat} {d : Nat} (hd : d < 2) (h : y_at_ tp 0 [49, 48, 48, 48, 48, 48, 48 + d, 58]) (hfd : 8 ≤ fd) : z_nm tp fd 7 0 0 = (1000000 + d, 7) := by
  have a0 : tp 0 = 48 + 1 := h 0 (show 0 < 8 by decide)
  have a1 : tp 1 = 48 + 0 := h 1 (show 1 < 8 by decide)
  have a2 : tp 2 = 48 + 0 := h 2 (show 2 < 8 by decide)
  have a3 : tp 3 = 48 + 0 := h 3 (show 3 < 8 by decide)
  have a4 : tp 4 = 48 + 0 := h 4 (show 4 < 8 by decide)
  have a5 : tp 5 = 48 + 0 := h 5 (show 5 < 8 by decide)
  have a6 : tp 6 = 48 + d := h 6 (show 6 < 8 by decide)
  rw [z_nm_c (k := 1) (by omega) (by omega) a0, z_nm_c (k := 0) (by omega) (by omega) a1, z_nm_c (k := 0) (by omega) (by omega) a2, z_nm_c (k := 0) (by omega) (by omega) a3, z_nm_c (k := 0) (by omega) (by omega) a4, z_nm_c (k := 0) (by omega) (by omega) a5, z_nm_c (k := d) (by omega) (by omega) a6]
  show (_, 7) = (_, 7)
  congr 1
/-- "1000001:" t -/
theorem y_f3 {n bm : Nat} {tp cn : Nat → Nat} {pl : Nat → Nat → Nat} {S TL : List Nat} (hT : TL = y_bts 7 ++ S) (htp : ∀ j, j < TL.length → tp j = TL.getD j 0) : z_pts n tp TL.length 1 0 0 bm cn pl (.inl 0) := by
  have hat := y_at_0 htp
  have hlen : TL.length = S.length + 8 := by rw [hT, List.length_append, y_bts7]; exact Nat.add_comm 8 S.length
  rw [hT, y_bts7] at hat
  exact Or.inl ⟨0, ⟨1000001, 7, y_nm7 (d := 1) (by decide) (y_at_l hat) (by omega), Or.inl ⟨by omega, rfl⟩⟩, rfl⟩
/-- "1000000:" and a ranking that is there -/
theorem y_f10 {n bm b : Nat} {tp r cn : Nat → Nat} {pl : Nat → Nat → Nat} {S TL : List Nat} (hn2 : 2 ≤ n) (hn : n ≤ 8) (hRK : z_RK n r) (hS : S = z_sp n r (z_mx n r + 1)) (hT : TL = y_bts 12 ++ S) (htp : ∀ j, j < TL.length → tp j = TL.getD j 0) (hb : b < bm) (hs : z_same n pl r b) (hno : ∀ x, x < b → ¬ z_same n pl r x) (hcn : 1 ≤ cn b) : z_pts n tp TL.length 1 0 0 bm cn pl (.inl 0) := by
  have hat := y_at_0 htp
  have hlen : TL.length = 8 + S.length := by rw [hT, List.length_append, y_bts12]; rfl
  rw [hT, y_bts12] at hat
  have a7 : tp 7 = 58 := (y_at_l hat) 7 (show 7 < 8 by decide)
  have hsp : y_at_ tp 8 S := y_at_r hat
  rw [hS] at hsp hlen
  obtain ⟨q4, e1, e2⟩ := p_readE (m := z_mx n r + 1) (fd := TL.length) (p := 8) hn2 hn hRK (Nat.succ_pos _) (Nat.le_refl _) (Nat.le_succ _) hsp (by omega) (by omega)
  refine Or.inr ⟨1000000, q4, TL.length, ⟨7, y_nm7 (d := 0) (by decide) (y_at_l hat) (by omega), ⟨by decide, by decide⟩, ⟨by omega, a7⟩, ?_⟩, Or.inl ⟨Or.inl ⟨b, hb, (y_same_q e2).mpr hs, fun x hx h => hno x hx ((y_same_q e2).mp h), by omega⟩, rfl⟩⟩
  rw [show (7 : Nat) + 1 = 8 from rfl, e1, show 8 + (z_sp n r (z_mx n r + 1)).length = TL.length by omega]
theorem y_bts_len : ∀ i, i < 13 → (y_bts i).length ≤ 8 := by decide +kernel
theorem y_sp_pos {n m : Nat} {r : Nat → Nat} (hn2 : 2 ≤ n) (hRK : z_RK n r) (hm1 : 1 ≤ m) (hm2 : m ≤ z_mx n r + 1) : 1 ≤ (z_sp n r m).length := by
  rw [z_sp_len hn2 hRK hm2]
  have h1 := y_ct_ne (n := n) (x := 0) (by omega) hRK (Nat.zero_le _)
  have h2 : z_ct n (fun y => decide (r y = 0)) ≤ z_ct n (fun c => decide (r c < m)) := y_ct_le2 (fun i _ hi => decide_eq_true (by have := of_decide_eq_true hi; omega))
  omega
