/-! texts that aren't read through -/
def p_at2 (tp : Nat → Nat) (fd : Nat) : Nat → List (Nat × Nat) → Prop
  | _, [] => True
  | p, (c, s) :: t => p < fd ∧ tp p = 48 + c ∧ p + 1 < fd ∧ tp (p + 1) = s ∧ (s = 62 ∨ s = 61) ∧ p_at2 tp fd (p + 1 + 1) t
theorem p_rp2 {n fd : Nat} {tp : Nat → Nat} (hn : n ≤ 8) : ∀ (l : List (Nat × Nat)) (f td pl : Nat) (q : Nat → Nat) (p : Nat), p_at2 tp fd p l → l.length ≤ f → (∀ e ∈ l, e.1 < n) → (l.map Prod.fst).Nodup → (∀ e ∈ l, td.testBit e.1 = false) → ∃ f2 td2 pl2 q2, z_rp n tp fd f td pl q p = z_rp n tp fd f2 td2 pl2 q2 (p + 2 * l.length) ∧ (∀ x, td.testBit x = true → td2.testBit x = true) ∧ ∀ e ∈ l, td2.testBit e.1 = true
  | [], f, td, pl, q, p, _, _, _, _, _ => ⟨f, td, pl, q, rfl, fun _ h => h, fun e he => by cases he⟩
  | (c, s) :: t, f, td, pl, q, p, h, hf, hc, hd, ht => by
    have hl : ((c, s) :: t).length = t.length + 1 := rfl
    obtain ⟨f, rfl⟩ : ∃ g, f = g + 1 := ⟨f - 1, by omega⟩
    obtain ⟨h1, h2, h3, h4, h5, h6⟩ := h
    have hcn : c < n := hc (c, s) List.mem_cons_self
    have htd : td.testBit c = false := ht (c, s) List.mem_cons_self
    have hd2 := List.nodup_cons.mp hd
    have ht2 : ∀ e ∈ t, (td ||| 2 ^ c).testBit e.1 = false := by
      intro e he
      have hne : c ≠ e.1 := fun z => hd2.1 (by show c ∈ t.map Prod.fst; rw [z]; exact List.mem_map_of_mem he)
      rw [Nat.testBit_or, ht e (List.mem_cons_of_mem _ he), Nat.testBit_two_pow_of_ne hne]
      rfl
    rw [z_rp_q h1 h2 hcn hn htd]
    have key : ∀ pl3 : Nat, ∃ f2 td2 pl2 q2, z_rp n tp fd f (td ||| 2 ^ c) pl3 (fun x => if x = c then pl else q x) (p + 1 + 1) = z_rp n tp fd f2 td2 pl2 q2 (p + 2 * ((c, s) :: t).length) ∧ (∀ x, td.testBit x = true → td2.testBit x = true) ∧ ∀ e ∈ (c, s) :: t, td2.testBit e.1 = true := by
      intro pl3
      obtain ⟨f2, td2, pl2, q2, e1, e2, e3⟩ := p_rp2 hn t f (td ||| 2 ^ c) pl3 (fun x => if x = c then pl else q x) (p + 1 + 1) h6 (by omega) (fun e he => hc e (List.mem_cons_of_mem _ he)) hd2.2 ht2
      refine ⟨f2, td2, pl2, q2, ?_, fun x hx => e2 x (by rw [Nat.testBit_or, hx]; rfl), fun e he => ?_⟩
      · rw [e1, hl, show p + 1 + 1 + 2 * t.length = p + 2 * (t.length + 1) by omega]
      · rcases List.mem_cons.mp he with rfl | he2
        · exact e2 c (by rw [Nat.testBit_or, Nat.testBit_two_pow_self, Bool.or_true])
        · exact e3 e he2
    rcases h5 with h5 | h5
    · rw [z_rq_g h3 (h4.trans h5)]
      exact key _
    · rw [z_rq_e h3 (h4.trans h5)]
      exact key _
theorem p_at2_by {r tp : Nat → Nat} {fd : Nat} : ∀ (L : List Nat) (p : Nat), L ≠ [] → (∀ k, k < (p_by r L).length → tp (p + k) = (p_by r L).getD k 0) → p + (p_by r L).length < fd → (tp (p + (p_by r L).length) = 62 ∨ tp (p + (p_by r L).length) = 61) → ∃ l, p_at2 tp fd p l ∧ l.map Prod.fst = L
  | [], _, h, _, _, _ => absurd rfl h
  | [c], p, _, h1, h2, h3 => ⟨[(c, tp (p + 1))], ⟨Nat.lt_trans (Nat.lt_succ_self p) h2, h1 0 (Nat.zero_lt_one), h2, rfl, h3, trivial⟩, rfl⟩
  | c :: d :: t, p, _, h1, h2, h3 => by
    have hl : (p_by r (c :: d :: t)).length = (p_by r (d :: t)).length + 2 := rfl
    rw [hl] at h2 h3
    have e0 : p + ((p_by r (d :: t)).length + 2) = p + 1 + 1 + (p_by r (d :: t)).length := by omega
    rw [e0] at h2 h3
    obtain ⟨l, i1, i2⟩ := p_at2_by (r := r) (tp := tp) (fd := fd) (d :: t) (p + 1 + 1) (by simp) (fun k hk => by
      have := h1 (k + 1 + 1) (by rw [hl]; omega)
      rw [show p + 1 + 1 + k = p + (k + 1 + 1) by omega, this]
      rfl) h2 h3
    refine ⟨(c, if r c = r d then 61 else 62) :: l, ⟨by omega, h1 0 (by rw [hl]; omega), by omega, h1 1 (by rw [hl]; omega), ?_, i1⟩, ?_⟩
    · by_cases h : r c = r d
      · exact Or.inr (if_pos h)
      · exact Or.inl (if_neg h)
    · show c :: l.map Prod.fst = _
      rw [i2]
/-- all are told, and a sign follows: the reading fails behind it -/
theorem p_failE {n fd p : Nat} {r tp : Nat → Nat} (hn2 : 2 ≤ n) (hn : n ≤ 8) (hRK : z_RK n r) (h1 : y_at_ tp p (z_sp n r (z_mx n r + 1))) (h2 : p + (z_sp n r (z_mx n r + 1)).length < fd) (h3 : tp (p + (z_sp n r (z_mx n r + 1)).length) = 62 ∨ tp (p + (z_sp n r (z_mx n r + 1)).length) = 61) : ∃ q, z_rp n tp fd 8 0 0 (fun _ => 0) p = (false, p + (z_sp n r (z_mx n r + 1)).length + 1, q) := by
  have hm2 : z_mx n r + 1 ≤ z_mx n r + 1 := Nat.le_refl _
  have h : ∀ p, p < z_mx n r + 1 → z_ct n (fun x => decide (r x = p)) ≠ 0 := fun p hp => y_ct_ne (by omega) hRK (by omega)
  have e : (z_sp n r (z_mx n r + 1)).length = 2 * (p_l n r (z_mx n r + 1)).length - 1 := by rw [z_sp_len hn2 hRK hm2, p_l_len]
  obtain ⟨g1, -⟩ := p_l_last h (by omega)
  have hmem := fun x => p_l_mem (n := n) (r := r) (x := x) (z_mx n r + 1)
  have hnd := p_l_nd (n := n) (r := r) (z_mx n r + 1)
  have hlen : (p_l n r (z_mx n r + 1)).length ≤ 8 := by rw [p_l_len]; exact Nat.le_trans (z_ct_le _ n) hn
  have hpos : 1 ≤ (p_l n r (z_mx n r + 1)).length := by
    cases hL : p_l n r (z_mx n r + 1) with
    | nil => exact absurd hL g1
    | cons a t => exact Nat.succ_le_succ (Nat.zero_le _)
  have h1b : ∀ k, k < (p_by r (p_l n r (z_mx n r + 1))).length → tp (p + k) = (p_by r (p_l n r (z_mx n r + 1))).getD k 0 := by rw [← p_sp h]; exact h1
  obtain ⟨l, a1, a2⟩ := p_at2_by (fd := fd) (p_l n r (z_mx n r + 1)) p g1 h1b (by rw [← p_sp h]; exact h2) (by rw [← p_sp h]; exact h3)
  have hll : l.length = (p_l n r (z_mx n r + 1)).length := by rw [← a2, List.length_map]
  have hin : ∀ e ∈ l, e.1 ∈ p_l n r (z_mx n r + 1) := fun e he => by rw [← a2]; exact List.mem_map_of_mem he
  obtain ⟨f2, td2, pl2, q2, e1, -, e3⟩ := p_rp2 hn l 8 0 0 (fun _ => 0) p a1 (by omega) (fun e he => ((hmem e.1).mp (hin e he)).1) (by rw [a2]; exact hnd) (fun e _ => Nat.zero_testBit e.1)
  have ep : p + 2 * l.length = p + (z_sp n r (z_mx n r + 1)).length + 1 := by rw [hll, e]; omega
  rw [ep] at e1
  refine ⟨q2, ?_⟩
  rw [e1]
  refine z_rp_no (fun z => ?_)
  obtain ⟨-, -, -, z4, z5⟩ := z
  have hx : tp (p + (z_sp n r (z_mx n r + 1)).length + 1) - 48 ∈ p_l n r (z_mx n r + 1) := (hmem _).mpr ⟨z4, by have := z_mx_ge (q := r) z4; omega⟩
  rw [← a2] at hx
  obtain ⟨e9, h9, h10⟩ := List.mem_map.mp hx
  have := e3 e9 h9
  rw [h10, z5] at this
  cases this
