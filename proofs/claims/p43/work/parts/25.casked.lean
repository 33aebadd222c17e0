/-! the class: what is asked of ways -/
/-! sets that grow -/
def z_sub (a b : Nat) : Prop := ∀ i, a.testBit i = true → b.testBit i = true
theorem z_sub_refl (a : Nat) : z_sub a a := fun _ h => h
theorem z_sub_le {a b : Nat} (h : z_sub a b) : a ≤ b := by
  have e : a &&& b = a := by
    apply Nat.eq_of_testBit_eq
    intro i
    rw [Nat.testBit_and]
    cases ha : a.testBit i with
    | false => rfl
    | true => rw [h i ha]; rfl
  rw [← e]
  exact Nat.and_le_right
theorem z_sub_ext {a b : Nat} (h : z_sub a b) (h2 : z_sub b a) : a = b := Nat.le_antisymm (z_sub_le h) (z_sub_le h2)
theorem z_dif0 {a b : Nat} (ha : a < 256) : z_dif a b = 0 ↔ z_sub a b := by
  constructor
  · intro h i hi
    have h1 : (z_dif a b).testBit i = false := by rw [h, Nat.zero_testBit]
    rw [z_dif_bit ha, hi, Bool.true_and] at h1
    cases hb : b.testBit i with
    | true => rfl
    | false => rw [hb] at h1; cases h1
  · intro h
    apply Nat.eq_of_testBit_eq
    intro i
    rw [z_dif_bit ha, Nat.zero_testBit]
    cases hi : a.testBit i with
    | false => rfl
    | true => rw [h i hi]; rfl
theorem z_pc_ct {s : Nat} (hs : s < 256) : z_pc s = z_ct 8 (fun k => s.testBit k) := z_all1 (P := fun s => z_pc s = z_ct 8 (fun k => s.testBit k)) (m := 256) (by decide +kernel) hs
theorem z_ct_sub {p q : Nat → Bool} : ∀ {n : Nat}, (∀ c, c < n → p c = true → q c = true) → z_ct n p ≤ z_ct n q
  | 0, _ => Nat.le_refl 0
  | n + 1, h => by
    have h1 := z_ct_sub (p := p) (q := q) (n := n) (fun c hc => h c (by omega))
    have h2 := h n (by omega)
    show z_ct n p + _ ≤ z_ct n q + _
    by_cases hp : p n = true
    · rw [if_pos hp, if_pos (h2 hp)]; omega
    · rw [if_neg hp]; omega
theorem z_pc_sub {a b : Nat} (hb : b < 256) (h : z_sub a b) : z_pc a ≤ z_pc b := by
  have := z_sub_le h
  rw [z_pc_ct (by omega), z_pc_ct hb]
  exact z_ct_sub (fun c _ => h c)
theorem z_pc_ssub {a b : Nat} (hb : b < 256) (h : z_sub a b) (hne : a ≠ b) : z_pc a < z_pc b := by
  have := z_sub_le h
  rw [z_pc_ct (by omega), z_pc_ct hb]
  refine z_ct_lt (fun c _ => h c) ?_
  by_cases e : ∃ c, c < 8 ∧ a.testBit c = false ∧ b.testBit c = true
  · exact e
  · exfalso
    refine hne (z_sub_ext h (fun i hi => ?_))
    have hi8 : i < 8 := by
      rcases Nat.lt_or_ge i 8 with q | q
      · exact q
      · rw [z_hi hb q] at hi; cases hi
    cases ha : a.testBit i with
    | true => rfl
    | false => exact absurd ⟨i, hi8, ha, hi⟩ e
def z_cld (n s : Nat) (L : Nat → Nat → Nat) (D : Nat) : Prop := ∀ x, x < n → D.testBit x = true → ∀ y, y < n → s.testBit y = true → L x y = 0 → D.testBit y = true
theorem z_cld_dom {n m s D : Nat} {F : Nat → Nat → Nat} (hs : s < 256) (h : z_cld n s (z_LS m s F) D) : z_dom n s F D := by
  intro i hi hb j hj hd
  rw [z_dif_bit hs, Bool.and_eq_true] at hd
  by_cases q : z_lnk s F i j
  · exact q
  · have := h i hi hb j hj hd.1 (z_LS_no q)
    rw [this] at hd
    exact absurd hd.2 (by decide)
theorem z_dom_cld {n m s D : Nat} {F : Nat → Nat → Nat} {f : Nat → Int32} (hF : z_FR f n F) (hs : s < 256) (h : z_dom n s F D) : z_cld n s (z_LS m s F) D := by
  intro x hx hb y hy hsy h0
  cases hD : D.testBit y with
  | true => rfl
  | false =>
    have h1 := h x hx hb y hy (by rw [z_dif_bit hs, hsy, hD]; rfl)
    rw [z_LS_yes h1] at h0
    have := z_key_pos (m := m) h1.2.2.2 (hF x hx y hy).2
    omega
def z_ul (n s : Nat) (L : Nat → Nat → Nat) (c : Nat) : Nat := z_set n (fun x => s.testBit x && decide (L c x = 0))
theorem z_ul_bit {n s c i : Nat} {L : Nat → Nat → Nat} : (z_ul n s L c).testBit i = true ↔ i < n ∧ s.testBit i = true ∧ L c i = 0 := by
  unfold z_ul
  rw [z_set_bit, Bool.and_eq_true, Bool.and_eq_true, decide_eq_true_eq, decide_eq_true_eq]
/-- all that grows from c0: in s, with c0, in each closed set with c0 -/
def z_grI (n s : Nat) (L : Nat → Nat → Nat) (c0 G : Nat) : Prop := z_sub G s ∧ G.testBit c0 = true ∧ ∀ D, z_cld n s L D → D.testBit c0 = true → z_sub G D
theorem z_gr_0 {n s c0 : Nat} {L : Nat → Nat → Nat} (h : s.testBit c0 = true) : z_grI n s L c0 (2 ^ c0) := by
  have e : ∀ i, (2 ^ c0).testBit i = true → i = c0 := fun i hi => by
    rw [z_p2bit] at hi
    exact (of_decide_eq_true hi).symm
  exact ⟨fun i hi => by rw [e i hi]; exact h, by rw [z_p2bit]; exact decide_eq_true rfl, fun D _ hD i hi => by rw [e i hi]; exact hD⟩
theorem z_gr_put {n s c0 c G : Nat} {L : Nat → Nat → Nat} (h : z_grI n s L c0 G) (hc : c < n) (hb : G.testBit c = true) : z_grI n s L c0 (G ||| z_ul n s L c) := by
  obtain ⟨h1, h2, h3⟩ := h
  refine ⟨fun i hi => ?_, by rw [Nat.testBit_or, h2]; rfl, fun D hD hc0 i hi => ?_⟩
  · rw [Nat.testBit_or, Bool.or_eq_true] at hi
    rcases hi with hi | hi
    · exact h1 i hi
    · exact (z_ul_bit.mp hi).2.1
  · rw [Nat.testBit_or, Bool.or_eq_true] at hi
    rcases hi with hi | hi
    · exact h3 D hD hc0 i hi
    · obtain ⟨a1, a2, a3⟩ := z_ul_bit.mp hi
      exact hD c hc (h3 D hD hc0 c hb) i a1 a2 a3
/-- while a turn goes over c: G as the turn began, H now -/
def z_grT (n s : Nat) (L : Nat → Nat → Nat) (c G H : Nat) : Prop := z_sub G H ∧ ∀ x, x < c → G.testBit x = true → ∀ y, y < n → s.testBit y = true → L x y = 0 → H.testBit y = true
theorem z_grT_0 {n s G : Nat} {L : Nat → Nat → Nat} : z_grT n s L 0 G G := ⟨z_sub_refl G, fun x hx => absurd hx (Nat.not_lt_zero x)⟩
theorem z_grT_no {n s c G H : Nat} {L : Nat → Nat → Nat} (h : z_grT n s L c G H) (hb : H.testBit c = false) : z_grT n s L (c + 1) G H := by
  refine ⟨h.1, fun x hx hG => ?_⟩
  rcases (by omega : x < c ∨ x = c) with e | e
  · exact h.2 x e hG
  · have := h.1 x hG
    rw [e, hb] at this
    cases this
theorem z_grT_put {n s c G H : Nat} {L : Nat → Nat → Nat} (h : z_grT n s L c G H) : z_grT n s L (c + 1) G (H ||| z_ul n s L c) := by
  refine ⟨fun i hi => by rw [Nat.testBit_or, h.1 i hi]; rfl, fun x hx hG y hy hs h0 => ?_⟩
  rw [Nat.testBit_or, Bool.or_eq_true]
  rcases (by omega : x < c ∨ x = c) with e | e
  · exact Or.inl (h.2 x e hG y hy hs h0)
  · subst e
    exact Or.inr (z_ul_bit.mpr ⟨hy, hs, h0⟩)
theorem z_gr_turn {n s c0 G H turn : Nat} {L : Nat → Nat → Nat} (hs : s < 256) (hG : z_grI n s L c0 G) (hH : z_grI n s L c0 H) (h : z_grT n s L n G H) (hp : z_cld n s L G ∨ turn + 1 ≤ z_pc G) : z_cld n s L H ∨ turn + 1 + 1 ≤ z_pc H := by
  have hH8 := z_sub_le hH.1
  by_cases e : G = H
  · refine Or.inl ?_
    subst e
    exact fun x hx hb y hy hsy h0 => h.2 x hx hb y hy hsy h0
  · rcases hp with hp | hp
    · exact absurd (z_sub_ext h.1 (hH.2.2 G hp hG.2.1)) e
    · have := z_pc_ssub (by omega) h.1 e
      exact Or.inr (by omega)
def z_tpI (n s : Nat) (F : Nat → Nat → Nat) (c v : Nat) : Prop := z_sub v s ∧ v ≠ 0 ∧ z_dom n s F v ∧ ∀ x, x < c → s.testBit x = true → ∀ D, z_sub D s → z_dom n s F D → D.testBit x = true → z_pc v ≤ z_pc D
theorem z_tp_0 {n s : Nat} {F : Nat → Nat → Nat} (hs : s < 256) (h0 : s ≠ 0) : z_tpI n s F 0 s := by
  refine ⟨z_sub_refl s, h0, fun i _ _ j _ hb => ?_, fun x hx => absurd hx (Nat.not_lt_zero x)⟩
  rw [z_dif_self hs, Nat.zero_testBit] at hb
  cases hb
theorem z_tp_no {n s c v : Nat} {F : Nat → Nat → Nat} (h : z_tpI n s F c v) (hc : s.testBit c = false) : z_tpI n s F (c + 1) v := by
  refine ⟨h.1, h.2.1, h.2.2.1, fun x hx hb => ?_⟩
  rcases (by omega : x < c ∨ x = c) with e | e
  · exact h.2.2.2 x e hb
  · rw [e, hc] at hb; cases hb
theorem z_tp_step {n m s c v G w : Nat} {F : Nat → Nat → Nat} {f : Nat → Int32} (hF : z_FR f n F) (hs : s < 256) (h : z_tpI n s F c v) (hG : z_grI n s (z_LS m s F) c G) (hcl : z_cld n s (z_LS m s F) G) (hw : (z_pc G < z_pc v ∧ w = G) ∨ (z_pc v ≤ z_pc G ∧ w = v)) : z_tpI n s F (c + 1) w := by
  obtain ⟨h1, h2, h3, h4⟩ := h
  have key : ∀ D, z_sub D s → z_dom n s F D → D.testBit c = true → z_pc G ≤ z_pc D := fun D hD hd hb => z_pc_sub (by have := z_sub_le hD; omega) (hG.2.2 D (z_dom_cld hF hs hd) hb)
  rcases hw with ⟨hw, rfl⟩ | ⟨hw, rfl⟩
  · refine ⟨hG.1, z_ne0 hG.2.1, z_cld_dom hs hcl, fun x hx hb D hD hd hx2 => ?_⟩
    rcases (by omega : x < c ∨ x = c) with e | e
    · have := h4 x e hb D hD hd hx2
      omega
    · subst e
      exact key D hD hd hx2
  · refine ⟨h1, h2, h3, fun x hx hb D hD hd hx2 => ?_⟩
    rcases (by omega : x < c ∨ x = c) with e | e
    · exact h4 x e hb D hD hd hx2
    · subst e
      have := key D hD hd hx2
      omega
theorem z_tp_end {n s v : Nat} {F : Nat → Nat → Nat} (hn : n ≤ 8) (hs : s < 2 ^ n) (h : z_tpI n s F n v) : z_SM n s F (2 ^ n) v := by
  have hp := z_p2 hn
  have hv := z_sub_le h.1
  refine ⟨by omega, h.2.1, (z_dif0 (by omega)).mpr h.1, h.2.2.1, fun x hx h0 hd hdom => ?_⟩
  have hsub := (z_dif0 (by omega)).mp hd
  obtain ⟨c, hc⟩ := z_ex_bit h0
  exact h.2.2.2 c (z_bit_n hx hc) (hsub c hc) x hsub hdom hc
theorem z_chain {n s a b : Nat} {F : Nat → Nat → Nat} (hs : s < 256) (hn : s < 2 ^ n) (ha : z_sub a s) (hb : z_sub b s) (da : z_dom n s F a) (db : z_dom n s F b) : z_sub a b ∨ z_sub b a := by
  by_cases e : z_sub a b
  · exact Or.inl e
  · refine Or.inr (fun i hi => ?_)
    cases hai : a.testBit i with
    | true => rfl
    | false =>
      exfalso
      apply e
      intro j hj
      cases hbj : b.testBit j with
      | true => rfl
      | false =>
        have hin := z_bit_n hn (hb i hi)
        have hjn := z_bit_n hn (ha j hj)
        have h1 := da j hjn hj i hin (by rw [z_dif_bit hs, hb i hi, hai]; rfl)
        have h2 := db i hin hi j hjn (by rw [z_dif_bit hs, ha j hj, hbj]; rfl)
        have := h1.2.2.2
        have := h2.2.2.2
        omega
theorem z_SM_uniq {n s v w : Nat} {F : Nat → Nat → Nat} (hn : n ≤ 8) (hs : s < 2 ^ n) (h : z_SM n s F (2 ^ n) v) (h2 : z_SM n s F (2 ^ n) w) : v = w := by
  have hp := z_p2 hn
  have s1 := (z_dif0 (by have := h.1; omega)).mp h.2.2.1
  have s2 := (z_dif0 (by have := h2.1; omega)).mp h2.2.2.1
  have l1 := h.2.2.2.2 w h2.1 h2.2.1 h2.2.2.1 h2.2.2.2.1
  have l2 := h2.2.2.2.2 v h.1 h.2.1 h.2.2.1 h.2.2.2.1
  rcases z_chain (by omega) hs s1 s2 h.2.2.2.1 h2.2.2.2.1 with c | c
  · by_cases e : v = w
    · exact e
    · have := z_pc_ssub (by have := h2.1; omega) c e
      omega
  · by_cases e : w = v
    · exact e.symm
    · have := z_pc_ssub (by have := h.1; omega) c e
      omega
theorem z_gcd2 {a b : Nat} (h : b < a) : 0 < Nat.gcd a b := Nat.gcd_pos_of_pos_left b (by omega)
theorem z_nst {E : Nat → Nat} {y far : Nat} (hf : far < 8) (h : z_f99 (E y) = far) : E y = far := (z_f99_eq hf).mp h
theorem z_f99_99 {E : Nat → Nat} {c : Nat} (h : E c ≤ 8) (h2 : z_f99 (E c) = 99) : E c = 8 := (z_f99_8 h).mp h2
theorem z_f99_lt {x : Nat} (h : x ≤ 8) : z_f99 x < 128 := by
  unfold z_f99
  split <;> omega
theorem z_upd99 {f : Nat → Int32} {D : Nat → Nat} {k v m : Nat} (hv : v < 8) (h : ∀ c, c < m → f c = nI (z_f99 (D c))) : ∀ c, c < m → upd f k (nI v) c = nI (z_f99 ((fun x => if x = k then v else D x) c)) := by
  intro c hc
  unfold upd
  by_cases e : c = k
  · simp only [if_pos e]
    rw [(z_f99_eq hv).mpr rfl]
  · simp only [if_neg e]
    exact h c hc
theorem z_wk_step {L : Nat → Nat → Nat} {n t i cc nx k : Nat} {D rw : Nat → Nat} {rv : Nat → Int32} (l1 : cc = rw k) (l3 : ∀ x, x < k → rv x = nI (rw x)) (l4 : z_rt L n t i D rw (k + 1)) (l5 : ∀ x, x < k + 1 → rw x < n) (l6 : D cc + k = D i) (hx : nx < n) (hd : D nx = D cc - 1) (ht : t ≤ L cc nx) (hno : ∀ y, y < nx → ¬ (D y = D cc - 1 ∧ t ≤ L cc y)) (h0 : D cc ≠ 0) : nx = (fun x => if x = k + 1 then nx else rw x) (k + 1) ∧ nx < n ∧ (∀ x, x < k + 1 → upd rv k (nI cc) x = nI ((fun x => if x = k + 1 then nx else rw x) x)) ∧ z_rt L n t i D (fun x => if x = k + 1 then nx else rw x) (k + 1 + 1) ∧ (∀ x, x < k + 1 + 1 → (fun x => if x = k + 1 then nx else rw x) x < n) ∧ D nx + (k + 1) = D i := by
  refine ⟨by simp only [if_pos], hx, fun x hx2 => ?_, ?_, fun x hx2 => ?_, by omega⟩
  · unfold upd
    simp only [if_neg (by omega : ¬ x = k + 1)]
    by_cases e : x = k
    · rw [if_pos e, e, l1]
    · rw [if_neg e]; exact l3 x (by omega)
  · have := z_rt_put (x := nx) l4 (Nat.succ_pos k) ⟨hx, by rw [show k + 1 - 1 = k by omega, ← l1]; omega, by rw [show k + 1 - 1 = k by omega, ← l1]; exact ht, fun y hy q => hno y hy (by rw [show k + 1 - 1 = k by omega, ← l1] at q; exact ⟨by omega, q.2⟩)⟩
    exact this
  · by_cases e : x = k + 1
    · simp only [if_pos e]; exact hx
    · simp only [if_neg e]; exact l5 x (by omega)
theorem z_wk_end {cc k x : Nat} {rw : Nat → Nat} {rv : Nat → Int32} (l1 : cc = rw k) (l3 : ∀ x, x < k → rv x = nI (rw x)) (hx : x < k + 1) : upd rv k (nI cc) x = nI (rw x) := by
  unfold upd
  by_cases e : x = k
  · rw [if_pos e, e, l1]
  · rw [if_neg e]; exact l3 x (by omega)
theorem c_X4_knows (d : Nat) {p_size : Int32} {p_outs : Int32} {p_rule : Int32} {p_filled : Int32} {p_rankings : Nat → Int32} {p_counts : Nat → Int32} {p_draw : Nat → Int32} {p_fors : Nat → Int32} {k_size : Int32} {k_outs : Int32} {k_rule : Int32} {k_filled : Int32} {k_rankings : Nat → Int32} {k_counts : Nat → Int32} {k_draw : Nat → Int32} {k_fors : Nat → Int32} {d_size : Int32} {d_outs : Int32} {d_rule : Int32} {d_filled : Int32} {d_rankings : Nat → Int32} {d_counts : Nat → Int32} {d_draw : Nat → Int32} {d_fors : Nat → Int32} {n : Nat} {s : Nat} {m : Nat} {w_steps : Int32} {w_fors : Nat → Int32} {w_draw : Nat → Int32} {w_links : Nat → Int64} {w_best : Nat → Int64} {w_beaters : Nat → Int32} {w_distances : Nat → Int32} {w_route : Nat → Int32} {t_bytes : Nat → Int32} {t_length : Int32} {t_next : Int32} {t_ranking : Int32} {t_count : Int32} {l_cells : Nat → Int64} {l_sizes : Nat → Int32} {s_bytes : Nat → Int32} {s_length : Int32} {keeps : Int32} {i : Nat} {j : Nat} (hn2 : 2 ≤ n) (hn8 : n ≤ 8) (hs2 : s < 2 ^ n) (hm : m < 4) (hi : i < n) (hj : j < n) : z_CAL (d + 1) 53 [.ref 16, .int (nI i), .int (nI j)] (CH p_size p_outs p_rule p_filled p_rankings p_counts p_draw p_fors k_size k_outs k_rule k_filled k_rankings k_counts k_draw k_fors d_size d_outs d_rule d_filled d_rankings d_counts d_draw d_fors (nI n) (nI s) (nI m) w_steps w_fors w_draw w_links w_best w_beaters w_distances w_route t_bytes t_length t_next t_ranking t_count l_cells l_sizes s_bytes s_length keeps) (fun r h2 => r = some (.int (nI 1)) ∧ h2 = (CH p_size p_outs p_rule p_filled p_rankings p_counts p_draw p_fors k_size k_outs k_rule k_filled k_rankings k_counts k_draw k_fors d_size d_outs d_rule d_filled d_rankings d_counts d_draw d_fors (nI n) (nI s) (nI m) w_steps w_fors w_draw w_links w_best w_beaters w_distances w_route t_bytes t_length t_next t_ranking t_count l_cells l_sizes s_bytes s_length keeps)) := by
  refine e_of2 (q := zmX4_knows) rfl rfl (fun R hR => ?_)
  have hp8 := z_p2 hn8; have hs : s < 256 := (by omega)
  refine e_steps 1 (σ' := (1, [(0, .ref 16), (1, .int (nI i)), (2, .int (nI j))], [.int (nI i)], (CH p_size p_outs p_rule p_filled p_rankings p_counts p_draw p_fors k_size k_outs k_rule k_filled k_rankings k_counts k_draw k_fors d_size d_outs d_rule d_filled d_rankings d_counts d_draw d_fors (nI n) (nI s) (nI m) w_steps w_fors w_draw w_links w_best w_beaters w_distances w_route t_bytes t_length t_next t_ranking t_count l_cells l_sizes s_bytes s_length keeps))) rfl ?_
  refine e_ifF (c := nI i < 0) rfl (nI_pos (by omega)) ?_
  refine e_steps 3 (σ' := (9, [(0, .ref 16), (1, .int (nI i)), (2, .int (nI j))], [.int (nI n), .int (nI i)], (CH p_size p_outs p_rule p_filled p_rankings p_counts p_draw p_fors k_size k_outs k_rule k_filled k_rankings k_counts k_draw k_fors d_size d_outs d_rule d_filled d_rankings d_counts d_draw d_fors (nI n) (nI s) (nI m) w_steps w_fors w_draw w_links w_best w_beaters w_distances w_route t_bytes t_length t_next t_ranking t_count l_cells l_sizes s_bytes s_length keeps))) rfl ?_
  refine e_if (c := nI n ≤ nI i) rfl (fun c_9 => ?_) (fun c_9 => ?_)
  · skip
    rw [nI_leI (by omega) (by omega)] at c_9
    omega
  · skip
    rw [nI_leI (by omega) (by omega)] at c_9
    refine e_steps 1 (σ' := (13, [(0, .ref 16), (1, .int (nI i)), (2, .int (nI j))], [.int (nI j)], (CH p_size p_outs p_rule p_filled p_rankings p_counts p_draw p_fors k_size k_outs k_rule k_filled k_rankings k_counts k_draw k_fors d_size d_outs d_rule d_filled d_rankings d_counts d_draw d_fors (nI n) (nI s) (nI m) w_steps w_fors w_draw w_links w_best w_beaters w_distances w_route t_bytes t_length t_next t_ranking t_count l_cells l_sizes s_bytes s_length keeps))) rfl ?_
    refine e_ifF (c := nI j < 0) rfl (nI_pos (by omega)) ?_
    refine e_steps 3 (σ' := (21, [(0, .ref 16), (1, .int (nI i)), (2, .int (nI j))], [.int (nI n), .int (nI j)], (CH p_size p_outs p_rule p_filled p_rankings p_counts p_draw p_fors k_size k_outs k_rule k_filled k_rankings k_counts k_draw k_fors d_size d_outs d_rule d_filled d_rankings d_counts d_draw d_fors (nI n) (nI s) (nI m) w_steps w_fors w_draw w_links w_best w_beaters w_distances w_route t_bytes t_length t_next t_ranking t_count l_cells l_sizes s_bytes s_length keeps))) rfl ?_
    refine e_if (c := nI n ≤ nI j) rfl (fun c_21 => ?_) (fun c_21 => ?_)
    · skip
      rw [nI_leI (by omega) (by omega)] at c_21
      omega
    · skip
      rw [nI_leI (by omega) (by omega)] at c_21
      refine e_steps 2 (σ' := (29, [(0, .ref 16), (1, .int (nI i)), (2, .int (nI j))], [.int (nI 1)], (CH p_size p_outs p_rule p_filled p_rankings p_counts p_draw p_fors k_size k_outs k_rule k_filled k_rankings k_counts k_draw k_fors d_size d_outs d_rule d_filled d_rankings d_counts d_draw d_fors (nI n) (nI s) (nI m) w_steps w_fors w_draw w_links w_best w_beaters w_distances w_route t_bytes t_length t_next t_ranking t_count l_cells l_sizes s_bytes s_length keeps))) rfl ?_
      exact e_ret rfl (Or.inr rfl) (hR _ _ ⟨(by rfl), rfl⟩)
theorem c_X4_linkStrength (d : Nat) {p_size : Int32} {p_outs : Int32} {p_rule : Int32} {p_filled : Int32} {p_rankings : Nat → Int32} {p_counts : Nat → Int32} {p_draw : Nat → Int32} {p_fors : Nat → Int32} {k_size : Int32} {k_outs : Int32} {k_rule : Int32} {k_filled : Int32} {k_rankings : Nat → Int32} {k_counts : Nat → Int32} {k_draw : Nat → Int32} {k_fors : Nat → Int32} {d_size : Int32} {d_outs : Int32} {d_rule : Int32} {d_filled : Int32} {d_rankings : Nat → Int32} {d_counts : Nat → Int32} {d_draw : Nat → Int32} {d_fors : Nat → Int32} {n : Nat} {s : Nat} {m : Nat} {w_steps : Int32} {w_fors : Nat → Int32} {w_draw : Nat → Int32} {w_links : Nat → Int64} {w_best : Nat → Int64} {w_beaters : Nat → Int32} {w_distances : Nat → Int32} {w_route : Nat → Int32} {t_bytes : Nat → Int32} {t_length : Int32} {t_next : Int32} {t_ranking : Int32} {t_count : Int32} {l_cells : Nat → Int64} {l_sizes : Nat → Int32} {s_bytes : Nat → Int32} {s_length : Int32} {keeps : Int32} {i : Nat} {j : Nat} {F : Nat → Nat → Nat} {K : Nat → Nat → Nat} (hn2 : 2 ≤ n) (hn8 : n ≤ 8) (hs2 : s < 2 ^ n) (hm : m < 4) (hW : z_CW m s F n w_links w_best w_beaters K) (hi : i < n) (hj : j < n) : z_CAL (d + 2) 54 [.ref 16, .int (nI i), .int (nI j)] (CH p_size p_outs p_rule p_filled p_rankings p_counts p_draw p_fors k_size k_outs k_rule k_filled k_rankings k_counts k_draw k_fors d_size d_outs d_rule d_filled d_rankings d_counts d_draw d_fors (nI n) (nI s) (nI m) w_steps w_fors w_draw w_links w_best w_beaters w_distances w_route t_bytes t_length t_next t_ranking t_count l_cells l_sizes s_bytes s_length keeps) (fun r h2 => r = some (.long (lN (z_LS m s F i j))) ∧ h2 = (CH p_size p_outs p_rule p_filled p_rankings p_counts p_draw p_fors k_size k_outs k_rule k_filled k_rankings k_counts k_draw k_fors d_size d_outs d_rule d_filled d_rankings d_counts d_draw d_fors (nI n) (nI s) (nI m) w_steps w_fors w_draw w_links w_best w_beaters w_distances w_route t_bytes t_length t_next t_ranking t_count l_cells l_sizes s_bytes s_length keeps)) := by
  refine e_of2 (q := zmX4_linkStrength) rfl rfl (fun R hR => ?_)
  have hp8 := z_p2 hn8; have hs : s < 256 := (by omega)
  refine e_steps 3 (σ' := (3, [(0, .ref 16), (1, .int (nI i)), (2, .int (nI j))], [.int (nI j), .int (nI i), .ref 16], (CH p_size p_outs p_rule p_filled p_rankings p_counts p_draw p_fors k_size k_outs k_rule k_filled k_rankings k_counts k_draw k_fors d_size d_outs d_rule d_filled d_rankings d_counts d_draw d_fors (nI n) (nI s) (nI m) w_steps w_fors w_draw w_links w_best w_beaters w_distances w_route t_bytes t_length t_next t_ranking t_count l_cells l_sizes s_bytes s_length keeps))) rfl ?_
  refine e_call (y := 53) (av := [.ref 16, .int (nI i), .int (nI j)]) (rest := []) rfl (c_X4_knows (d + 0) (n := n) (s := s) (m := m) (by first | assumption | omega | rfl | trivial) (by first | assumption | omega | rfl | trivial) (by first | assumption | omega | rfl | trivial) (by first | assumption | omega | rfl | trivial) (by first | assumption | omega | rfl | trivial) (by first | assumption | omega | rfl | trivial)) (fun r_3 h_3 p_3 => ?_)
  obtain ⟨rfl, rfl⟩ := p_3
  refine e_steps 5 (σ' := (15, [(0, .ref 16), (1, .int (nI i)), (2, .int (nI j))], [.int (nI j), .int (nI i), .ref 19], (CH p_size p_outs p_rule p_filled p_rankings p_counts p_draw p_fors k_size k_outs k_rule k_filled k_rankings k_counts k_draw k_fors d_size d_outs d_rule d_filled d_rankings d_counts d_draw d_fors (nI n) (nI s) (nI m) w_steps w_fors w_draw w_links w_best w_beaters w_distances w_route t_bytes t_length t_next t_ranking t_count l_cells l_sizes s_bytes s_length keeps))) rfl ?_
  refine e_call (y := 98) (av := [.int (nI i), .int (nI j)]) (rest := [.ref 19]) rfl (c_X5_cell (d + 0) ) (fun r_15 h_15 p_15 => ?_)
  obtain ⟨rfl, rfl⟩ := p_15
  refine e_steps 0 (σ' := (18, [(0, .ref 16), (1, .int (nI i)), (2, .int (nI j))], [.int (nI (8 * i + j)), .ref 19], (CH p_size p_outs p_rule p_filled p_rankings p_counts p_draw p_fors k_size k_outs k_rule k_filled k_rankings k_counts k_draw k_fors d_size d_outs d_rule d_filled d_rankings d_counts d_draw d_fors (nI n) (nI s) (nI m) w_steps w_fors w_draw w_links w_best w_beaters w_distances w_route t_bytes t_length t_next t_ranking t_count l_cells l_sizes s_bytes s_length keeps))) rfl ?_
  refine e_lal (lN (z_LS m s F i j)) rfl rfl (by first | assumption | omega | rfl | trivial) (by decide) ((hW.2.1 _ (by omega) _ (by omega)).1) ?_
  have hv_18 := (hW.2.1 i (by omega) j (by omega)).2
  refine e_steps 1 (σ' := (23, [(0, .ref 16), (1, .int (nI i)), (2, .int (nI j))], [.long (lN (z_LS m s F i j))], (CH p_size p_outs p_rule p_filled p_rankings p_counts p_draw p_fors k_size k_outs k_rule k_filled k_rankings k_counts k_draw k_fors d_size d_outs d_rule d_filled d_rankings d_counts d_draw d_fors (nI n) (nI s) (nI m) w_steps w_fors w_draw w_links w_best w_beaters w_distances w_route t_bytes t_length t_next t_ranking t_count l_cells l_sizes s_bytes s_length keeps))) rfl ?_
  exact e_ret rfl (trivial) (hR _ _ ⟨(by rfl), rfl⟩)
