/-! the class: what is asked of ways -/
/-! sets that grow -/
def z_sub (a b : Nat) : Prop := ∀ i, a.testBit i = true → b.testBit i = true
theorem z_sub_refl (a : Nat) : z_sub a a := fun _ h => h
theorem z_sub_le {a b : Nat} (h : z_sub a b) : a ≤ b := by
  have e : a &&& b = a := by
    apply Nat.eq_of_testBit_eq
    intro i
    rw [Nat.testBit_and]
    cases ha : a.testBit i with
    | false => rfl
    | true => rw [h i ha]; rfl
  rw [← e]
  exact Nat.and_le_right
theorem z_sub_ext {a b : Nat} (h : z_sub a b) (h2 : z_sub b a) : a = b := Nat.le_antisymm (z_sub_le h) (z_sub_le h2)
theorem z_dif0 {a b : Nat} (ha : a < 256) : z_dif a b = 0 ↔ z_sub a b := by
  constructor
  · intro h i hi
    have h1 : (z_dif a b).testBit i = false := by rw [h, Nat.zero_testBit]
    rw [z_dif_bit ha, hi, Bool.true_and] at h1
    cases hb : b.testBit i with
    | true => rfl
    | false => rw [hb] at h1; cases h1
  · intro h
    apply Nat.eq_of_testBit_eq
    intro i
    rw [z_dif_bit ha, Nat.zero_testBit]
    cases hi : a.testBit i with
    | false => rfl
    | true => rw [h i hi]; rfl
theorem z_pc_ct {s : Nat} (hs : s < 256) : z_pc s = z_ct 8 (fun k => s.testBit k) := z_all1 (P := fun s => z_pc s = z_ct 8 (fun k => s.testBit k)) (m := 256) (by decide +kernel) hs
theorem z_ct_sub {p q : Nat → Bool} : ∀ {n : Nat}, (∀ c, c < n → p c = true → q c = true) → z_ct n p ≤ z_ct n q
  | 0, _ => Nat.le_refl 0
  | n + 1, h => by
    have h1 := z_ct_sub (p := p) (q := q) (n := n) (fun c hc => h c (by omega))
    have h2 := h n (by omega)
    show z_ct n p + _ ≤ z_ct n q + _
    by_cases hp : p n = true
    · rw [if_pos hp, if_pos (h2 hp)]; omega
    · rw [if_neg hp]; omega
theorem z_pc_sub {a b : Nat} (hb : b < 256) (h : z_sub a b) : z_pc a ≤ z_pc b := by
  have := z_sub_le h
  rw [z_pc_ct (by omega), z_pc_ct hb]
  exact z_ct_sub (fun c _ => h c)
theorem z_pc_ssub {a b : Nat} (hb : b < 256) (h : z_sub a b) (hne : a ≠ b) : z_pc a < z_pc b := by
  have := z_sub_le h
  rw [z_pc_ct (by omega), z_pc_ct hb]
  refine z_ct_lt (fun c _ => h c) ?_
  by_cases e : ∃ c, c < 8 ∧ a.testBit c = false ∧ b.testBit c = true
  · exact e
  · exfalso
    refine hne (z_sub_ext h (fun i hi => ?_))
    have hi8 : i < 8 := by
      rcases Nat.lt_or_ge i 8 with q | q
      · exact q
      · rw [z_hi hb q] at hi; cases hi
    cases ha : a.testBit i with
    | true => rfl
    | false => exact absurd ⟨i, hi8, ha, hi⟩ e
def z_cld (n s : Nat) (L : Nat → Nat → Nat) (D : Nat) : Prop := ∀ x, x < n → D.testBit x = true → ∀ y, y < n → s.testBit y = true → L x y = 0 → D.testBit y = true
theorem z_cld_dom {n m s D : Nat} {F : Nat → Nat → Nat} (hs : s < 256) (h : z_cld n s (z_LS m s F) D) : z_dom n s F D := by
  intro i hi hb j hj hd
  rw [z_dif_bit hs, Bool.and_eq_true] at hd
  by_cases q : z_lnk s F i j
  · exact q
  · have := h i hi hb j hj hd.1 (z_LS_no q)
    rw [this] at hd
    exact absurd hd.2 (by decide)
theorem z_dom_cld {n m s D : Nat} {F : Nat → Nat → Nat} {f : Nat → Int32} (hF : z_FR f n F) (hs : s < 256) (h : z_dom n s F D) : z_cld n s (z_LS m s F) D := by
  intro x hx hb y hy hsy h0
  cases hD : D.testBit y with
  | true => rfl
  | false =>
    have h1 := h x hx hb y hy (by rw [z_dif_bit hs, hsy, hD]; rfl)
    rw [z_LS_yes h1] at h0
    have := z_key_pos (m := m) h1.2.2.2 (hF x hx y hy).2
    omega
def z_ul (n s : Nat) (L : Nat → Nat → Nat) (c : Nat) : Nat := z_set n (fun x => s.testBit x && decide (L c x = 0))
theorem z_ul_bit {n s c i : Nat} {L : Nat → Nat → Nat} : (z_ul n s L c).testBit i = true ↔ i < n ∧ s.testBit i = true ∧ L c i = 0 := by
  unfold z_ul
  rw [z_set_bit, Bool.and_eq_true, Bool.and_eq_true, decide_eq_true_eq, decide_eq_true_eq]
/-- all that grows from c0: in s, with c0, in each closed set with c0 -/
def z_grI (n s : Nat) (L : Nat → Nat → Nat) (c0 G : Nat) : Prop := z_sub G s ∧ G.testBit c0 = true ∧ ∀ D, z_cld n s L D → D.testBit c0 = true → z_sub G D
theorem z_gr_0 {n s c0 : Nat} {L : Nat → Nat → Nat} (h : s.testBit c0 = true) : z_grI n s L c0 (2 ^ c0) := by
  have e : ∀ i, (2 ^ c0).testBit i = true → i = c0 := fun i hi => by
    rw [z_p2bit] at hi
    exact (of_decide_eq_true hi).symm
  exact ⟨fun i hi => by rw [e i hi]; exact h, by rw [z_p2bit]; exact decide_eq_true rfl, fun D _ hD i hi => by rw [e i hi]; exact hD⟩
theorem z_gr_put {n s c0 c G : Nat} {L : Nat → Nat → Nat} (h : z_grI n s L c0 G) (hc : c < n) (hb : G.testBit c = true) : z_grI n s L c0 (G ||| z_ul n s L c) := by
  obtain ⟨h1, h2, h3⟩ := h
  refine ⟨fun i hi => ?_, by rw [Nat.testBit_or, h2]; rfl, fun D hD hc0 i hi => ?_⟩
  · rw [Nat.testBit_or, Bool.or_eq_true] at hi
    rcases hi with hi | hi
    · exact h1 i hi
    · exact (z_ul_bit.mp hi).2.1
  · rw [Nat.testBit_or, Bool.or_eq_true] at hi
    rcases hi with hi | hi
    · exact h3 D hD hc0 i hi
    · obtain ⟨a1, a2, a3⟩ := z_ul_bit.mp hi
      exact hD c hc (h3 D hD hc0 c hb) i a1 a2 a3
/-- while a turn goes over c: G as the turn began, H now -/
def z_grT (n s : Nat) (L : Nat → Nat → Nat) (c G H : Nat) : Prop := z_sub G H ∧ ∀ x, x < c → G.testBit x = true → ∀ y, y < n → s.testBit y = true → L x y = 0 → H.testBit y = true
theorem z_grT_0 {n s G : Nat} {L : Nat → Nat → Nat} : z_grT n s L 0 G G := ⟨z_sub_refl G, fun x hx => absurd hx (Nat.not_lt_zero x)⟩
theorem z_grT_no {n s c G H : Nat} {L : Nat → Nat → Nat} (h : z_grT n s L c G H) (hb : H.testBit c = false) : z_grT n s L (c + 1) G H := by
  refine ⟨h.1, fun x hx hG => ?_⟩
  rcases (by omega : x < c ∨ x = c) with e | e
  · exact h.2 x e hG
  · have := h.1 x hG
    rw [e, hb] at this
    cases this
theorem z_grT_put {n s c G H : Nat} {L : Nat → Nat → Nat} (h : z_grT n s L c G H) : z_grT n s L (c + 1) G (H ||| z_ul n s L c) := by
  refine ⟨fun i hi => by rw [Nat.testBit_or, h.1 i hi]; rfl, fun x hx hG y hy hs h0 => ?_⟩
  rw [Nat.testBit_or, Bool.or_eq_true]
  rcases (by omega : x < c ∨ x = c) with e | e
  · exact Or.inl (h.2 x e hG y hy hs h0)
  · subst e
    exact Or.inr (z_ul_bit.mpr ⟨hy, hs, h0⟩)
theorem z_gr_turn {n s c0 G H turn : Nat} {L : Nat → Nat → Nat} (hs : s < 256) (hG : z_grI n s L c0 G) (hH : z_grI n s L c0 H) (h : z_grT n s L n G H) (hp : z_cld n s L G ∨ turn + 1 ≤ z_pc G) : z_cld n s L H ∨ turn + 1 + 1 ≤ z_pc H := by
  have hH8 := z_sub_le hH.1
  by_cases e : G = H
  · refine Or.inl ?_
    subst e
    exact fun x hx hb y hy hsy h0 => h.2 x hx hb y hy hsy h0
  · rcases hp with hp | hp
    · exact absurd (z_sub_ext h.1 (hH.2.2 G hp hG.2.1)) e
    · have := z_pc_ssub (by omega) h.1 e
      exact Or.inr (by omega)
def z_tpI (n s : Nat) (F : Nat → Nat → Nat) (c v : Nat) : Prop := z_sub v s ∧ v ≠ 0 ∧ z_dom n s F v ∧ ∀ x, x < c → s.testBit x = true → ∀ D, z_sub D s → z_dom n s F D → D.testBit x = true → z_pc v ≤ z_pc D
theorem z_tp_0 {n s : Nat} {F : Nat → Nat → Nat} (hs : s < 256) (h0 : s ≠ 0) : z_tpI n s F 0 s := by
  refine ⟨z_sub_refl s, h0, fun i _ _ j _ hb => ?_, fun x hx => absurd hx (Nat.not_lt_zero x)⟩
  rw [z_dif_self hs, Nat.zero_testBit] at hb
  cases hb
theorem z_tp_no {n s c v : Nat} {F : Nat → Nat → Nat} (h : z_tpI n s F c v) (hc : s.testBit c = false) : z_tpI n s F (c + 1) v := by
  refine ⟨h.1, h.2.1, h.2.2.1, fun x hx hb => ?_⟩
  rcases (by omega : x < c ∨ x = c) with e | e
  · exact h.2.2.2 x e hb
  · rw [e, hc] at hb; cases hb
theorem z_tp_step {n m s c v G w : Nat} {F : Nat → Nat → Nat} {f : Nat → Int32} (hF : z_FR f n F) (hs : s < 256) (h : z_tpI n s F c v) (hG : z_grI n s (z_LS m s F) c G) (hcl : z_cld n s (z_LS m s F) G) (hw : (z_pc G < z_pc v ∧ w = G) ∨ (z_pc v ≤ z_pc G ∧ w = v)) : z_tpI n s F (c + 1) w := by
  obtain ⟨h1, h2, h3, h4⟩ := h
  have key : ∀ D, z_sub D s → z_dom n s F D → D.testBit c = true → z_pc G ≤ z_pc D := fun D hD hd hb => z_pc_sub (by have := z_sub_le hD; omega) (hG.2.2 D (z_dom_cld hF hs hd) hb)
  rcases hw with ⟨hw, rfl⟩ | ⟨hw, rfl⟩
  · refine ⟨hG.1, z_ne0 hG.2.1, z_cld_dom hs hcl, fun x hx hb D hD hd hx2 => ?_⟩
    rcases (by omega : x < c ∨ x = c) with e | e
    · have := h4 x e hb D hD hd hx2
      omega
    · subst e
      exact key D hD hd hx2
  · refine ⟨h1, h2, h3, fun x hx hb D hD hd hx2 => ?_⟩
    rcases (by omega : x < c ∨ x = c) with e | e
    · exact h4 x e hb D hD hd hx2
    · subst e
      have := key D hD hd hx2
      omega
theorem z_tp_end {n s v : Nat} {F : Nat → Nat → Nat} (hn : n ≤ 8) (hs : s < 2 ^ n) (h : z_tpI n s F n v) : z_SM n s F (2 ^ n) v := by
  have hp := z_p2 hn
  have hv := z_sub_le h.1
  refine ⟨by omega, h.2.1, (z_dif0 (by omega)).mpr h.1, h.2.2.1, fun x hx h0 hd hdom => ?_⟩
  have hsub := (z_dif0 (by omega)).mp hd
  obtain ⟨c, hc⟩ := z_ex_bit h0
  exact h.2.2.2 c (z_bit_n hx hc) (hsub c hc) x hsub hdom hc
theorem z_chain {n s a b : Nat} {F : Nat → Nat → Nat} (hs : s < 256) (hn : s < 2 ^ n) (ha : z_sub a s) (hb : z_sub b s) (da : z_dom n s F a) (db : z_dom n s F b) : z_sub a b ∨ z_sub b a := by
  by_cases e : z_sub a b
  · exact Or.inl e
  · refine Or.inr (fun i hi => ?_)
    cases hai : a.testBit i with
    | true => rfl
    | false =>
      exfalso
      apply e
      intro j hj
      cases hbj : b.testBit j with
      | true => rfl
      | false =>
        have hin := z_bit_n hn (hb i hi)
        have hjn := z_bit_n hn (ha j hj)
        have h1 := da j hjn hj i hin (by rw [z_dif_bit hs, hb i hi, hai]; rfl)
        have h2 := db i hin hi j hjn (by rw [z_dif_bit hs, ha j hj, hbj]; rfl)
        have := h1.2.2.2
        have := h2.2.2.2
        omega
theorem z_SM_uniq {n s v w : Nat} {F : Nat → Nat → Nat} (hn : n ≤ 8) (hs : s < 2 ^ n) (h : z_SM n s F (2 ^ n) v) (h2 : z_SM n s F (2 ^ n) w) : v = w := by
  have hp := z_p2 hn
  have s1 := (z_dif0 (by have := h.1; omega)).mp h.2.2.1
  have s2 := (z_dif0 (by have := h2.1; omega)).mp h2.2.2.1
  have l1 := h.2.2.2.2 w h2.1 h2.2.1 h2.2.2.1 h2.2.2.2.1
  have l2 := h2.2.2.2.2 v h.1 h.2.1 h.2.2.1 h.2.2.2.1
  rcases z_chain (by omega) hs s1 s2 h.2.2.2.1 h2.2.2.2.1 with c | c
  · by_cases e : v = w
    · exact e
    · have := z_pc_ssub (by have := h2.1; omega) c e
      omega
  · by_cases e : w = v
    · exact e.symm
    · have := z_pc_ssub (by have := h.1; omega) c e
      omega
theorem z_gcd2 {a b : Nat} (h : b < a) : 0 < Nat.gcd a b := Nat.gcd_pos_of_pos_left b (by omega)
theorem z_nst {E : Nat → Nat} {y far : Nat} (hf : far < 8) (h : z_f99 (E y) = far) : E y = far := (z_f99_eq hf).mp h
theorem z_f99_99 {E : Nat → Nat} {c : Nat} (h : E c ≤ 8) (h2 : z_f99 (E c) = 99) : E c = 8 := (z_f99_8 h).mp h2
theorem z_f99_lt {x : Nat} (h : x ≤ 8) : z_f99 x < 128 := by
  unfold z_f99
  split <;> omega
theorem z_upd99 {f : Nat → Int32} {D : Nat → Nat} {k v m : Nat} (hv : v < 8) (h : ∀ c, c < m → f c = nI (z_f99 (D c))) : ∀ c, c < m → upd f k (nI v) c = nI (z_f99 ((fun x => if x = k then v else D x) c)) := by
  intro c hc
  unfold upd
  by_cases e : c = k
  · simp only [if_pos e]
    rw [(z_f99_eq hv).mpr rfl]
  · simp only [if_neg e]
    exact h c hc
theorem z_wk_step {L : Nat → Nat → Nat} {n t i cc nx k : Nat} {D rw : Nat → Nat} {rv : Nat → Int32} (l1 : cc = rw k) (l3 : ∀ x, x < k → rv x = nI (rw x)) (l4 : z_rt L n t i D rw (k + 1)) (l5 : ∀ x, x < k + 1 → rw x < n) (l6 : D cc + k = D i) (hx : nx < n) (hd : D nx = D cc - 1) (ht : t ≤ L cc nx) (hno : ∀ y, y < nx → ¬ (D y = D cc - 1 ∧ t ≤ L cc y)) (h0 : D cc ≠ 0) : nx = (fun x => if x = k + 1 then nx else rw x) (k + 1) ∧ nx < n ∧ (∀ x, x < k + 1 → upd rv k (nI cc) x = nI ((fun x => if x = k + 1 then nx else rw x) x)) ∧ z_rt L n t i D (fun x => if x = k + 1 then nx else rw x) (k + 1 + 1) ∧ (∀ x, x < k + 1 + 1 → (fun x => if x = k + 1 then nx else rw x) x < n) ∧ D nx + (k + 1) = D i := by
  refine ⟨by simp only [if_pos], hx, fun x hx2 => ?_, ?_, fun x hx2 => ?_, by omega⟩
  · unfold upd
    simp only [if_neg (by omega : ¬ x = k + 1)]
    by_cases e : x = k
    · rw [if_pos e, e, l1]
    · rw [if_neg e]; exact l3 x (by omega)
  · have := z_rt_put (x := nx) l4 (Nat.succ_pos k) ⟨hx, by rw [show k + 1 - 1 = k by omega, ← l1]; omega, by rw [show k + 1 - 1 = k by omega, ← l1]; exact ht, fun y hy q => hno y hy (by rw [show k + 1 - 1 = k by omega, ← l1] at q; exact ⟨by omega, q.2⟩)⟩
    exact this
  · by_cases e : x = k + 1
    · simp only [if_pos e]; exact hx
    · simp only [if_neg e]; exact l5 x (by omega)
theorem z_wk_end {cc k x : Nat} {rw : Nat → Nat} {rv : Nat → Int32} (l1 : cc = rw k) (l3 : ∀ x, x < k → rv x = nI (rw x)) (hx : x < k + 1) : upd rv k (nI cc) x = nI (rw x) := by
  unfold upd
  by_cases e : x = k
  · rw [if_pos e, e, l1]
  · rw [if_neg e]; exact l3 x (by omega)
theorem c_X4_knows (d : Nat) {p_size : Int32} {p_outs : Int32} {p_rule : Int32} {p_filled : Int32} {p_rankings : Nat → Int32} {p_counts : Nat → Int32} {p_draw : Nat → Int32} {p_fors : Nat → Int32} {k_size : Int32} {k_outs : Int32} {k_rule : Int32} {k_filled : Int32} {k_rankings : Nat → Int32} {k_counts : Nat → Int32} {k_draw : Nat → Int32} {k_fors : Nat → Int32} {d_size : Int32} {d_outs : Int32} {d_rule : Int32} {d_filled : Int32} {d_rankings : Nat → Int32} {d_counts : Nat → Int32} {d_draw : Nat → Int32} {d_fors : Nat → Int32} {n : Nat} {s : Nat} {m : Nat} {w_steps : Int32} {w_fors : Nat → Int32} {w_draw : Nat → Int32} {w_links : Nat → Int64} {w_best : Nat → Int64} {w_beaters : Nat → Int32} {w_distances : Nat → Int32} {w_route : Nat → Int32} {t_bytes : Nat → Int32} {t_length : Int32} {t_next : Int32} {t_ranking : Int32} {t_count : Int32} {l_cells : Nat → Int64} {l_sizes : Nat → Int32} {s_bytes : Nat → Int32} {s_length : Int32} {keeps : Int32} {i : Nat} {j : Nat} (hn2 : 2 ≤ n) (hn8 : n ≤ 8) (hs2 : s < 2 ^ n) (hm : m < 4) (hi : i < n) (hj : j < n) : z_CAL (d + 1) 54 [.ref 16, .int (nI i), .int (nI j)] (CH p_size p_outs p_rule p_filled p_rankings p_counts p_draw p_fors k_size k_outs k_rule k_filled k_rankings k_counts k_draw k_fors d_size d_outs d_rule d_filled d_rankings d_counts d_draw d_fors (nI n) (nI s) (nI m) w_steps w_fors w_draw w_links w_best w_beaters w_distances w_route t_bytes t_length t_next t_ranking t_count l_cells l_sizes s_bytes s_length keeps) (fun r h2 => r = some (.int (nI 1)) ∧ h2 = (CH p_size p_outs p_rule p_filled p_rankings p_counts p_draw p_fors k_size k_outs k_rule k_filled k_rankings k_counts k_draw k_fors d_size d_outs d_rule d_filled d_rankings d_counts d_draw d_fors (nI n) (nI s) (nI m) w_steps w_fors w_draw w_links w_best w_beaters w_distances w_route t_bytes t_length t_next t_ranking t_count l_cells l_sizes s_bytes s_length keeps)) := by
  refine e_of2 (q := zmX4_knows) rfl rfl (fun R hR => ?_)
  have hp8 := z_p2 hn8; have hs : s < 256 := (by omega)
  refine e_steps 1 (σ' := (1, [(0, .ref 16), (1, .int (nI i)), (2, .int (nI j))], [.int (nI i)], (CH p_size p_outs p_rule p_filled p_rankings p_counts p_draw p_fors k_size k_outs k_rule k_filled k_rankings k_counts k_draw k_fors d_size d_outs d_rule d_filled d_rankings d_counts d_draw d_fors (nI n) (nI s) (nI m) w_steps w_fors w_draw w_links w_best w_beaters w_distances w_route t_bytes t_length t_next t_ranking t_count l_cells l_sizes s_bytes s_length keeps))) rfl ?_
  refine e_ifF (c := nI i < 0) rfl (nI_pos (by omega)) ?_
  refine e_steps 3 (σ' := (9, [(0, .ref 16), (1, .int (nI i)), (2, .int (nI j))], [.int (nI n), .int (nI i)], (CH p_size p_outs p_rule p_filled p_rankings p_counts p_draw p_fors k_size k_outs k_rule k_filled k_rankings k_counts k_draw k_fors d_size d_outs d_rule d_filled d_rankings d_counts d_draw d_fors (nI n) (nI s) (nI m) w_steps w_fors w_draw w_links w_best w_beaters w_distances w_route t_bytes t_length t_next t_ranking t_count l_cells l_sizes s_bytes s_length keeps))) rfl ?_
  refine e_if (c := nI n ≤ nI i) rfl (fun c_9 => ?_) (fun c_9 => ?_)
  · skip
    rw [nI_leI (by omega) (by omega)] at c_9
    omega
  · skip
    rw [nI_leI (by omega) (by omega)] at c_9
    refine e_steps 1 (σ' := (13, [(0, .ref 16), (1, .int (nI i)), (2, .int (nI j))], [.int (nI j)], (CH p_size p_outs p_rule p_filled p_rankings p_counts p_draw p_fors k_size k_outs k_rule k_filled k_rankings k_counts k_draw k_fors d_size d_outs d_rule d_filled d_rankings d_counts d_draw d_fors (nI n) (nI s) (nI m) w_steps w_fors w_draw w_links w_best w_beaters w_distances w_route t_bytes t_length t_next t_ranking t_count l_cells l_sizes s_bytes s_length keeps))) rfl ?_
    refine e_ifF (c := nI j < 0) rfl (nI_pos (by omega)) ?_
    refine e_steps 3 (σ' := (21, [(0, .ref 16), (1, .int (nI i)), (2, .int (nI j))], [.int (nI n), .int (nI j)], (CH p_size p_outs p_rule p_filled p_rankings p_counts p_draw p_fors k_size k_outs k_rule k_filled k_rankings k_counts k_draw k_fors d_size d_outs d_rule d_filled d_rankings d_counts d_draw d_fors (nI n) (nI s) (nI m) w_steps w_fors w_draw w_links w_best w_beaters w_distances w_route t_bytes t_length t_next t_ranking t_count l_cells l_sizes s_bytes s_length keeps))) rfl ?_
    refine e_if (c := nI n ≤ nI j) rfl (fun c_21 => ?_) (fun c_21 => ?_)
    · skip
      rw [nI_leI (by omega) (by omega)] at c_21
      omega
    · skip
      rw [nI_leI (by omega) (by omega)] at c_21
      refine e_steps 2 (σ' := (29, [(0, .ref 16), (1, .int (nI i)), (2, .int (nI j))], [.int (nI 1)], (CH p_size p_outs p_rule p_filled p_rankings p_counts p_draw p_fors k_size k_outs k_rule k_filled k_rankings k_counts k_draw k_fors d_size d_outs d_rule d_filled d_rankings d_counts d_draw d_fors (nI n) (nI s) (nI m) w_steps w_fors w_draw w_links w_best w_beaters w_distances w_route t_bytes t_length t_next t_ranking t_count l_cells l_sizes s_bytes s_length keeps))) rfl ?_
      exact e_ret rfl (Or.inr rfl) (hR _ _ ⟨(by rfl), rfl⟩)
theorem c_X4_linkStrength (d : Nat) {p_size : Int32} {p_outs : Int32} {p_rule : Int32} {p_filled : Int32} {p_rankings : Nat → Int32} {p_counts : Nat → Int32} {p_draw : Nat → Int32} {p_fors : Nat → Int32} {k_size : Int32} {k_outs : Int32} {k_rule : Int32} {k_filled : Int32} {k_rankings : Nat → Int32} {k_counts : Nat → Int32} {k_draw : Nat → Int32} {k_fors : Nat → Int32} {d_size : Int32} {d_outs : Int32} {d_rule : Int32} {d_filled : Int32} {d_rankings : Nat → Int32} {d_counts : Nat → Int32} {d_draw : Nat → Int32} {d_fors : Nat → Int32} {n : Nat} {s : Nat} {m : Nat} {w_steps : Int32} {w_fors : Nat → Int32} {w_draw : Nat → Int32} {w_links : Nat → Int64} {w_best : Nat → Int64} {w_beaters : Nat → Int32} {w_distances : Nat → Int32} {w_route : Nat → Int32} {t_bytes : Nat → Int32} {t_length : Int32} {t_next : Int32} {t_ranking : Int32} {t_count : Int32} {l_cells : Nat → Int64} {l_sizes : Nat → Int32} {s_bytes : Nat → Int32} {s_length : Int32} {keeps : Int32} {i : Nat} {j : Nat} {F : Nat → Nat → Nat} {K : Nat → Nat → Nat} (hn2 : 2 ≤ n) (hn8 : n ≤ 8) (hs2 : s < 2 ^ n) (hm : m < 4) (hW : z_CW m s F n w_links w_best w_beaters K) (hi : i < n) (hj : j < n) : z_CAL (d + 2) 55 [.ref 16, .int (nI i), .int (nI j)] (CH p_size p_outs p_rule p_filled p_rankings p_counts p_draw p_fors k_size k_outs k_rule k_filled k_rankings k_counts k_draw k_fors d_size d_outs d_rule d_filled d_rankings d_counts d_draw d_fors (nI n) (nI s) (nI m) w_steps w_fors w_draw w_links w_best w_beaters w_distances w_route t_bytes t_length t_next t_ranking t_count l_cells l_sizes s_bytes s_length keeps) (fun r h2 => r = some (.long (lN (z_LS m s F i j))) ∧ h2 = (CH p_size p_outs p_rule p_filled p_rankings p_counts p_draw p_fors k_size k_outs k_rule k_filled k_rankings k_counts k_draw k_fors d_size d_outs d_rule d_filled d_rankings d_counts d_draw d_fors (nI n) (nI s) (nI m) w_steps w_fors w_draw w_links w_best w_beaters w_distances w_route t_bytes t_length t_next t_ranking t_count l_cells l_sizes s_bytes s_length keeps)) := by
  refine e_of2 (q := zmX4_linkStrength) rfl rfl (fun R hR => ?_)
  have hp8 := z_p2 hn8; have hs : s < 256 := (by omega)
  refine e_steps 3 (σ' := (3, [(0, .ref 16), (1, .int (nI i)), (2, .int (nI j))], [.int (nI j), .int (nI i), .ref 16], (CH p_size p_outs p_rule p_filled p_rankings p_counts p_draw p_fors k_size k_outs k_rule k_filled k_rankings k_counts k_draw k_fors d_size d_outs d_rule d_filled d_rankings d_counts d_draw d_fors (nI n) (nI s) (nI m) w_steps w_fors w_draw w_links w_best w_beaters w_distances w_route t_bytes t_length t_next t_ranking t_count l_cells l_sizes s_bytes s_length keeps))) rfl ?_
  refine e_call (y := 54) (av := [.ref 16, .int (nI i), .int (nI j)]) (rest := []) rfl (c_X4_knows (d + 0) (n := n) (s := s) (m := m) (by first | assumption | omega | rfl | trivial) (by first | assumption | omega | rfl | trivial) (by first | assumption | omega | rfl | trivial) (by first | assumption | omega | rfl | trivial) (by first | assumption | omega | rfl | trivial) (by first | assumption | omega | rfl | trivial)) (fun r_3 h_3 p_3 => ?_)
  obtain ⟨rfl, rfl⟩ := p_3
  refine e_steps 5 (σ' := (15, [(0, .ref 16), (1, .int (nI i)), (2, .int (nI j))], [.int (nI j), .int (nI i), .ref 19], (CH p_size p_outs p_rule p_filled p_rankings p_counts p_draw p_fors k_size k_outs k_rule k_filled k_rankings k_counts k_draw k_fors d_size d_outs d_rule d_filled d_rankings d_counts d_draw d_fors (nI n) (nI s) (nI m) w_steps w_fors w_draw w_links w_best w_beaters w_distances w_route t_bytes t_length t_next t_ranking t_count l_cells l_sizes s_bytes s_length keeps))) rfl ?_
  refine e_call (y := 127) (av := [.int (nI i), .int (nI j)]) (rest := [.ref 19]) rfl (c_X5_cell (d + 0) ) (fun r_15 h_15 p_15 => ?_)
  obtain ⟨rfl, rfl⟩ := p_15
  refine e_steps 0 (σ' := (18, [(0, .ref 16), (1, .int (nI i)), (2, .int (nI j))], [.int (nI (8 * i + j)), .ref 19], (CH p_size p_outs p_rule p_filled p_rankings p_counts p_draw p_fors k_size k_outs k_rule k_filled k_rankings k_counts k_draw k_fors d_size d_outs d_rule d_filled d_rankings d_counts d_draw d_fors (nI n) (nI s) (nI m) w_steps w_fors w_draw w_links w_best w_beaters w_distances w_route t_bytes t_length t_next t_ranking t_count l_cells l_sizes s_bytes s_length keeps))) rfl ?_
  refine e_lal (lN (z_LS m s F i j)) rfl rfl (by first | assumption | omega | rfl | trivial) (by decide) ((hW.2.1 _ (by omega) _ (by omega)).1) ?_
  have hv_18 := (hW.2.1 i (by omega) j (by omega)).2
  refine e_steps 1 (σ' := (23, [(0, .ref 16), (1, .int (nI i)), (2, .int (nI j))], [.long (lN (z_LS m s F i j))], (CH p_size p_outs p_rule p_filled p_rankings p_counts p_draw p_fors k_size k_outs k_rule k_filled k_rankings k_counts k_draw k_fors d_size d_outs d_rule d_filled d_rankings d_counts d_draw d_fors (nI n) (nI s) (nI m) w_steps w_fors w_draw w_links w_best w_beaters w_distances w_route t_bytes t_length t_next t_ranking t_count l_cells l_sizes s_bytes s_length keeps))) rfl ?_
  exact e_ret rfl (trivial) (hR _ _ ⟨(by rfl), rfl⟩)
theorem c_X4_bestStrength (d : Nat) {p_size : Int32} {p_outs : Int32} {p_rule : Int32} {p_filled : Int32} {p_rankings : Nat → Int32} {p_counts : Nat → Int32} {p_draw : Nat → Int32} {p_fors : Nat → Int32} {k_size : Int32} {k_outs : Int32} {k_rule : Int32} {k_filled : Int32} {k_rankings : Nat → Int32} {k_counts : Nat → Int32} {k_draw : Nat → Int32} {k_fors : Nat → Int32} {d_size : Int32} {d_outs : Int32} {d_rule : Int32} {d_filled : Int32} {d_rankings : Nat → Int32} {d_counts : Nat → Int32} {d_draw : Nat → Int32} {d_fors : Nat → Int32} {n : Nat} {s : Nat} {m : Nat} {w_steps : Int32} {w_fors : Nat → Int32} {w_draw : Nat → Int32} {w_links : Nat → Int64} {w_best : Nat → Int64} {w_beaters : Nat → Int32} {w_distances : Nat → Int32} {w_route : Nat → Int32} {t_bytes : Nat → Int32} {t_length : Int32} {t_next : Int32} {t_ranking : Int32} {t_count : Int32} {l_cells : Nat → Int64} {l_sizes : Nat → Int32} {s_bytes : Nat → Int32} {s_length : Int32} {keeps : Int32} {i : Nat} {j : Nat} {F : Nat → Nat → Nat} {K : Nat → Nat → Nat} (hn2 : 2 ≤ n) (hn8 : n ≤ 8) (hs2 : s < 2 ^ n) (hm : m < 4) (hW : z_CW m s F n w_links w_best w_beaters K) (hi : i < n) (hj : j < n) : z_CAL (d + 2) 56 [.ref 16, .int (nI i), .int (nI j)] (CH p_size p_outs p_rule p_filled p_rankings p_counts p_draw p_fors k_size k_outs k_rule k_filled k_rankings k_counts k_draw k_fors d_size d_outs d_rule d_filled d_rankings d_counts d_draw d_fors (nI n) (nI s) (nI m) w_steps w_fors w_draw w_links w_best w_beaters w_distances w_route t_bytes t_length t_next t_ranking t_count l_cells l_sizes s_bytes s_length keeps) (fun r h2 => r = some (.long (lN (K i j))) ∧ h2 = (CH p_size p_outs p_rule p_filled p_rankings p_counts p_draw p_fors k_size k_outs k_rule k_filled k_rankings k_counts k_draw k_fors d_size d_outs d_rule d_filled d_rankings d_counts d_draw d_fors (nI n) (nI s) (nI m) w_steps w_fors w_draw w_links w_best w_beaters w_distances w_route t_bytes t_length t_next t_ranking t_count l_cells l_sizes s_bytes s_length keeps)) := by
  refine e_of2 (q := zmX4_bestStrength) rfl rfl (fun R hR => ?_)
  have hp8 := z_p2 hn8; have hs : s < 256 := (by omega)
  refine e_steps 3 (σ' := (3, [(0, .ref 16), (1, .int (nI i)), (2, .int (nI j))], [.int (nI j), .int (nI i), .ref 16], (CH p_size p_outs p_rule p_filled p_rankings p_counts p_draw p_fors k_size k_outs k_rule k_filled k_rankings k_counts k_draw k_fors d_size d_outs d_rule d_filled d_rankings d_counts d_draw d_fors (nI n) (nI s) (nI m) w_steps w_fors w_draw w_links w_best w_beaters w_distances w_route t_bytes t_length t_next t_ranking t_count l_cells l_sizes s_bytes s_length keeps))) rfl ?_
  refine e_call (y := 54) (av := [.ref 16, .int (nI i), .int (nI j)]) (rest := []) rfl (c_X4_knows (d + 0) (n := n) (s := s) (m := m) (by first | assumption | omega | rfl | trivial) (by first | assumption | omega | rfl | trivial) (by first | assumption | omega | rfl | trivial) (by first | assumption | omega | rfl | trivial) (by first | assumption | omega | rfl | trivial) (by first | assumption | omega | rfl | trivial)) (fun r_3 h_3 p_3 => ?_)
  obtain ⟨rfl, rfl⟩ := p_3
  refine e_steps 5 (σ' := (15, [(0, .ref 16), (1, .int (nI i)), (2, .int (nI j))], [.int (nI j), .int (nI i), .ref 20], (CH p_size p_outs p_rule p_filled p_rankings p_counts p_draw p_fors k_size k_outs k_rule k_filled k_rankings k_counts k_draw k_fors d_size d_outs d_rule d_filled d_rankings d_counts d_draw d_fors (nI n) (nI s) (nI m) w_steps w_fors w_draw w_links w_best w_beaters w_distances w_route t_bytes t_length t_next t_ranking t_count l_cells l_sizes s_bytes s_length keeps))) rfl ?_
  refine e_call (y := 127) (av := [.int (nI i), .int (nI j)]) (rest := [.ref 20]) rfl (c_X5_cell (d + 0) ) (fun r_15 h_15 p_15 => ?_)
  obtain ⟨rfl, rfl⟩ := p_15
  refine e_steps 0 (σ' := (18, [(0, .ref 16), (1, .int (nI i)), (2, .int (nI j))], [.int (nI (8 * i + j)), .ref 20], (CH p_size p_outs p_rule p_filled p_rankings p_counts p_draw p_fors k_size k_outs k_rule k_filled k_rankings k_counts k_draw k_fors d_size d_outs d_rule d_filled d_rankings d_counts d_draw d_fors (nI n) (nI s) (nI m) w_steps w_fors w_draw w_links w_best w_beaters w_distances w_route t_bytes t_length t_next t_ranking t_count l_cells l_sizes s_bytes s_length keeps))) rfl ?_
  refine e_lal (lN (K i j)) rfl rfl (by first | assumption | omega | rfl | trivial) (by decide) ((hW.2.2.1 _ (by omega) _ (by omega)).1) ?_
  have hv_18 := (hW.2.2.1 i (by omega) j (by omega)).2
  refine e_steps 1 (σ' := (23, [(0, .ref 16), (1, .int (nI i)), (2, .int (nI j))], [.long (lN (K i j))], (CH p_size p_outs p_rule p_filled p_rankings p_counts p_draw p_fors k_size k_outs k_rule k_filled k_rankings k_counts k_draw k_fors d_size d_outs d_rule d_filled d_rankings d_counts d_draw d_fors (nI n) (nI s) (nI m) w_steps w_fors w_draw w_links w_best w_beaters w_distances w_route t_bytes t_length t_next t_ranking t_count l_cells l_sizes s_bytes s_length keeps))) rfl ?_
  exact e_ret rfl (trivial) (hR _ _ ⟨(by rfl), rfl⟩)
theorem c_X4_isOver (d : Nat) {p_size : Int32} {p_outs : Int32} {p_rule : Int32} {p_filled : Int32} {p_rankings : Nat → Int32} {p_counts : Nat → Int32} {p_draw : Nat → Int32} {p_fors : Nat → Int32} {k_size : Int32} {k_outs : Int32} {k_rule : Int32} {k_filled : Int32} {k_rankings : Nat → Int32} {k_counts : Nat → Int32} {k_draw : Nat → Int32} {k_fors : Nat → Int32} {d_size : Int32} {d_outs : Int32} {d_rule : Int32} {d_filled : Int32} {d_rankings : Nat → Int32} {d_counts : Nat → Int32} {d_draw : Nat → Int32} {d_fors : Nat → Int32} {n : Nat} {s : Nat} {m : Nat} {w_steps : Int32} {w_fors : Nat → Int32} {w_draw : Nat → Int32} {w_links : Nat → Int64} {w_best : Nat → Int64} {w_beaters : Nat → Int32} {w_distances : Nat → Int32} {w_route : Nat → Int32} {t_bytes : Nat → Int32} {t_length : Int32} {t_next : Int32} {t_ranking : Int32} {t_count : Int32} {l_cells : Nat → Int64} {l_sizes : Nat → Int32} {s_bytes : Nat → Int32} {s_length : Int32} {keeps : Int32} {i : Nat} {j : Nat} {F : Nat → Nat → Nat} {K : Nat → Nat → Nat} (hn2 : 2 ≤ n) (hn8 : n ≤ 8) (hs2 : s < 2 ^ n) (hm : m < 4) (hW : z_CW m s F n w_links w_best w_beaters K) (hi : i < n) (hj : j < n) : z_CAL (d + 2) 57 [.ref 16, .int (nI i), .int (nI j)] (CH p_size p_outs p_rule p_filled p_rankings p_counts p_draw p_fors k_size k_outs k_rule k_filled k_rankings k_counts k_draw k_fors d_size d_outs d_rule d_filled d_rankings d_counts d_draw d_fors (nI n) (nI s) (nI m) w_steps w_fors w_draw w_links w_best w_beaters w_distances w_route t_bytes t_length t_next t_ranking t_count l_cells l_sizes s_bytes s_length keeps) (fun r h2 => h2 = (CH p_size p_outs p_rule p_filled p_rankings p_counts p_draw p_fors k_size k_outs k_rule k_filled k_rankings k_counts k_draw k_fors d_size d_outs d_rule d_filled d_rankings d_counts d_draw d_fors (nI n) (nI s) (nI m) w_steps w_fors w_draw w_links w_best w_beaters w_distances w_route t_bytes t_length t_next t_ranking t_count l_cells l_sizes s_bytes s_length keeps) ∧ ((r = some (.int (nI 1)) ∧ (z_btb K i j = true)) ∨ (r = some (.int (nI 0)) ∧ (z_btb K i j = false)))) := by
  refine e_of2 (q := zmX4_isOver) rfl rfl (fun R hR => ?_)
  have hp8 := z_p2 hn8; have hs : s < 256 := (by omega)
  refine e_steps 3 (σ' := (3, [(0, .ref 16), (1, .int (nI i)), (2, .int (nI j))], [.int (nI j), .int (nI i), .ref 16], (CH p_size p_outs p_rule p_filled p_rankings p_counts p_draw p_fors k_size k_outs k_rule k_filled k_rankings k_counts k_draw k_fors d_size d_outs d_rule d_filled d_rankings d_counts d_draw d_fors (nI n) (nI s) (nI m) w_steps w_fors w_draw w_links w_best w_beaters w_distances w_route t_bytes t_length t_next t_ranking t_count l_cells l_sizes s_bytes s_length keeps))) rfl ?_
  refine e_call (y := 54) (av := [.ref 16, .int (nI i), .int (nI j)]) (rest := []) rfl (c_X4_knows (d + 0) (n := n) (s := s) (m := m) (by first | assumption | omega | rfl | trivial) (by first | assumption | omega | rfl | trivial) (by first | assumption | omega | rfl | trivial) (by first | assumption | omega | rfl | trivial) (by first | assumption | omega | rfl | trivial) (by first | assumption | omega | rfl | trivial)) (fun r_3 h_3 p_3 => ?_)
  obtain ⟨rfl, rfl⟩ := p_3
  refine e_steps 4 (σ' := (14, [(0, .ref 16), (1, .int (nI i)), (2, .int (nI j))], [.int (nI j), .ref 21], (CH p_size p_outs p_rule p_filled p_rankings p_counts p_draw p_fors k_size k_outs k_rule k_filled k_rankings k_counts k_draw k_fors d_size d_outs d_rule d_filled d_rankings d_counts d_draw d_fors (nI n) (nI s) (nI m) w_steps w_fors w_draw w_links w_best w_beaters w_distances w_route t_bytes t_length t_next t_ranking t_count l_cells l_sizes s_bytes s_length keeps))) rfl ?_
  refine e_ial (nI (z_set n (fun i => z_btb K i j))) rfl rfl (by first | assumption | omega | rfl | trivial) (by decide) (hW.2.2.2.1 _ (by omega)) ?_
  have hv_14 := z_set_lt (fun i => z_btb K i j) n
  refine e_steps 1 (σ' := (16, [(0, .ref 16), (1, .int (nI i)), (2, .int (nI j))], [.int (nI i), .int (nI (z_set n (fun i => z_btb K i j)))], (CH p_size p_outs p_rule p_filled p_rankings p_counts p_draw p_fors k_size k_outs k_rule k_filled k_rankings k_counts k_draw k_fors d_size d_outs d_rule d_filled d_rankings d_counts d_draw d_fors (nI n) (nI s) (nI m) w_steps w_fors w_draw w_links w_best w_beaters w_distances w_route t_bytes t_length t_next t_ranking t_count l_cells l_sizes s_bytes s_length keeps))) rfl ?_
  refine e_call (y := 123) (av := [.int (nI (z_set n (fun i => z_btb K i j))), .int (nI i)]) (rest := []) rfl (c_X5_hasBit (d + 0) (by first | assumption | omega | rfl | trivial) (by first | assumption | omega | rfl | trivial)) (fun r_16 h_16 p_16 => ?_)
  obtain ⟨rfl, o_16⟩ := p_16
  rcases o_16 with ⟨rfl, o_16⟩ | ⟨rfl, o_16⟩
  · skip
    refine e_steps 3 (σ' := (27, [(0, .ref 16), (1, .int (nI i)), (2, .int (nI j))], [.int (nI 1)], (CH p_size p_outs p_rule p_filled p_rankings p_counts p_draw p_fors k_size k_outs k_rule k_filled k_rankings k_counts k_draw k_fors d_size d_outs d_rule d_filled d_rankings d_counts d_draw d_fors (nI n) (nI s) (nI m) w_steps w_fors w_draw w_links w_best w_beaters w_distances w_route t_bytes t_length t_next t_ranking t_count l_cells l_sizes s_bytes s_length keeps))) rfl ?_
    exact e_ret rfl (Or.inr rfl) (hR _ _ ⟨rfl, Or.inl ⟨rfl, (by rw [z_set_bit, decide_eq_true hi] at o_16; exact o_16)⟩⟩)
  · skip
    refine e_steps 2 (σ' := (27, [(0, .ref 16), (1, .int (nI i)), (2, .int (nI j))], [.int (nI 0)], (CH p_size p_outs p_rule p_filled p_rankings p_counts p_draw p_fors k_size k_outs k_rule k_filled k_rankings k_counts k_draw k_fors d_size d_outs d_rule d_filled d_rankings d_counts d_draw d_fors (nI n) (nI s) (nI m) w_steps w_fors w_draw w_links w_best w_beaters w_distances w_route t_bytes t_length t_next t_ranking t_count l_cells l_sizes s_bytes s_length keeps))) rfl ?_
    exact e_ret rfl (Or.inl rfl) (hR _ _ ⟨rfl, Or.inr ⟨rfl, (by rw [z_set_bit, decide_eq_true hi] at o_16; exact o_16)⟩⟩)
theorem c_X4_cellAsStrongAs (d : Nat) {p_size : Int32} {p_outs : Int32} {p_rule : Int32} {p_filled : Int32} {p_rankings : Nat → Int32} {p_counts : Nat → Int32} {p_draw : Nat → Int32} {p_fors : Nat → Int32} {k_size : Int32} {k_outs : Int32} {k_rule : Int32} {k_filled : Int32} {k_rankings : Nat → Int32} {k_counts : Nat → Int32} {k_draw : Nat → Int32} {k_fors : Nat → Int32} {d_size : Int32} {d_outs : Int32} {d_rule : Int32} {d_filled : Int32} {d_rankings : Nat → Int32} {d_counts : Nat → Int32} {d_draw : Nat → Int32} {d_fors : Nat → Int32} {n : Nat} {s : Nat} {m : Nat} {w_steps : Int32} {w_fors : Nat → Int32} {w_draw : Nat → Int32} {w_links : Nat → Int64} {w_best : Nat → Int64} {w_beaters : Nat → Int32} {w_distances : Nat → Int32} {w_route : Nat → Int32} {t_bytes : Nat → Int32} {t_length : Int32} {t_next : Int32} {t_ranking : Int32} {t_count : Int32} {l_cells : Nat → Int64} {l_sizes : Nat → Int32} {s_bytes : Nat → Int32} {s_length : Int32} {keeps : Int32} {i : Nat} {j : Nat} {F : Nat → Nat → Nat} {K : Nat → Nat → Nat} (hn2 : 2 ≤ n) (hn8 : n ≤ 8) (hs2 : s < 2 ^ n) (hm : m < 4) (hW : z_CW m s F n w_links w_best w_beaters K) (hi : i < n) (hj : j < n) : z_CAL (d + 3) 58 [.ref 16, .int (nI i), .int (nI j)] (CH p_size p_outs p_rule p_filled p_rankings p_counts p_draw p_fors k_size k_outs k_rule k_filled k_rankings k_counts k_draw k_fors d_size d_outs d_rule d_filled d_rankings d_counts d_draw d_fors (nI n) (nI s) (nI m) w_steps w_fors w_draw w_links w_best w_beaters w_distances w_route t_bytes t_length t_next t_ranking t_count l_cells l_sizes s_bytes s_length keeps) (fun r h2 => h2 = (CH p_size p_outs p_rule p_filled p_rankings p_counts p_draw p_fors k_size k_outs k_rule k_filled k_rankings k_counts k_draw k_fors d_size d_outs d_rule d_filled d_rankings d_counts d_draw d_fors (nI n) (nI s) (nI m) w_steps w_fors w_draw w_links w_best w_beaters w_distances w_route t_bytes t_length t_next t_ranking t_count l_cells l_sizes s_bytes s_length keeps) ∧ ((∃ (x : Nat) (y : Nat), r = some (.int (nI (8 * x + y))) ∧ (x < n ∧ y < n ∧ z_LS m s F x y = K i j ∧ 0 < K i j)) ∨ (r = some (.int ((-nI 1))) ∧ (K i j = 0)))) := by
  refine e_of2 (q := zmX4_cellAsStrongAs) rfl rfl (fun R hR => ?_)
  have hp8 := z_p2 hn8; have hs : s < 256 := (by omega); have hLb := (hW.2.1 i hi j hj).2; have hKb := (hW.2.2.1 i hi j hj).2
  refine e_steps 3 (σ' := (3, [(0, .ref 16), (1, .int (nI i)), (2, .int (nI j))], [.int (nI j), .int (nI i), .ref 16], (CH p_size p_outs p_rule p_filled p_rankings p_counts p_draw p_fors k_size k_outs k_rule k_filled k_rankings k_counts k_draw k_fors d_size d_outs d_rule d_filled d_rankings d_counts d_draw d_fors (nI n) (nI s) (nI m) w_steps w_fors w_draw w_links w_best w_beaters w_distances w_route t_bytes t_length t_next t_ranking t_count l_cells l_sizes s_bytes s_length keeps))) rfl ?_
  refine e_call (y := 56) (av := [.ref 16, .int (nI i), .int (nI j)]) (rest := []) rfl (c_X4_bestStrength (d + 0) (n := n) (s := s) (m := m) (F := F) (K := K) (by first | assumption | omega | rfl | trivial) (by first | assumption | omega | rfl | trivial) (by first | assumption | omega | rfl | trivial) (by first | assumption | omega | rfl | trivial) (by first | assumption | omega | rfl | trivial) (by first | assumption | omega | rfl | trivial) (by first | assumption | omega | rfl | trivial)) (fun r_3 h_3 p_3 => ?_)
  obtain ⟨rfl, rfl⟩ := p_3
  refine e_steps 4 (σ' := (10, [(3, .long (lN (K i j))), (0, .ref 16), (1, .int (nI i)), (2, .int (nI j))], [.int ((lg_cmp (lN (K i j)) (lN 0)))], (CH p_size p_outs p_rule p_filled p_rankings p_counts p_draw p_fors k_size k_outs k_rule k_filled k_rankings k_counts k_draw k_fors d_size d_outs d_rule d_filled d_rankings d_counts d_draw d_fors (nI n) (nI s) (nI m) w_steps w_fors w_draw w_links w_best w_beaters w_distances w_route t_bytes t_length t_next t_ranking t_count l_cells l_sizes s_bytes s_length keeps))) rfl ?_
  refine e_if (c := ¬ lg_cmp (lN (K i j)) (lN 0) = 0) rfl (fun c_9 => ?_) (fun c_9 => ?_)
  · rw [lg_cmp_eq] at c_9
    rw [pk_lEQ (by omega) (by omega)] at c_9
    refine e_steps 2 (σ' := (18, [(5, .int (nI 0)), (3, .long (lN (K i j))), (0, .ref 16), (1, .int (nI i)), (2, .int (nI j))], [], (CH p_size p_outs p_rule p_filled p_rankings p_counts p_draw p_fors k_size k_outs k_rule k_filled k_rankings k_counts k_draw k_fors d_size d_outs d_rule d_filled d_rankings d_counts d_draw d_fors (nI n) (nI s) (nI m) w_steps w_fors w_draw w_links w_best w_beaters w_distances w_route t_bytes t_length t_next t_ranking t_count l_cells l_sizes s_bytes s_length keeps))) rfl ?_
    have loop_18 : ∀ (z_18 : Nat) (a : Nat), n - a < z_18 → (a ≤ n ∧ ∀ x, x < a → ∀ y, y < n → z_LS m s F x y ≠ K i j) → z_EV (d + 2) zmX4_cellAsStrongAs R (18, [(0, .ref 16), (1, .int (nI i)), (2, .int (nI j)), (3, .long (lN (K i j))), (5, .int (nI a))], [], (CH p_size p_outs p_rule p_filled p_rankings p_counts p_draw p_fors k_size k_outs k_rule k_filled k_rankings k_counts k_draw k_fors d_size d_outs d_rule d_filled d_rankings d_counts d_draw d_fors (nI n) (nI s) (nI m) w_steps w_fors w_draw w_links w_best w_beaters w_distances w_route t_bytes t_length t_next t_ranking t_count l_cells l_sizes s_bytes s_length keeps)) := by
      intro z_18
      induction z_18 with
      | zero => intro a hm_18 _; exact absurd hm_18 (Nat.not_lt_zero _)
      | succ z_18 ih_18 =>
        intro a hm_18 hi_18
        obtain ⟨l1, l2⟩ := hi_18
        refine e_steps 3 (σ' := (24, [(0, .ref 16), (1, .int (nI i)), (2, .int (nI j)), (3, .long (lN (K i j))), (5, .int (nI a))], [.int (nI n), .int (nI a)], (CH p_size p_outs p_rule p_filled p_rankings p_counts p_draw p_fors k_size k_outs k_rule k_filled k_rankings k_counts k_draw k_fors d_size d_outs d_rule d_filled d_rankings d_counts d_draw d_fors (nI n) (nI s) (nI m) w_steps w_fors w_draw w_links w_best w_beaters w_distances w_route t_bytes t_length t_next t_ranking t_count l_cells l_sizes s_bytes s_length keeps))) rfl ?_
        refine e_if (c := nI n ≤ nI a) rfl (fun c_24 => ?_) (fun c_24 => ?_)
        · skip
          rw [nI_leI (by omega) (by omega)] at c_24
          refine e_steps 1 (σ' := (77, [(0, .ref 16), (1, .int (nI i)), (2, .int (nI j)), (3, .long (lN (K i j))), (5, .int (nI a))], [.int ((-nI 1))], (CH p_size p_outs p_rule p_filled p_rankings p_counts p_draw p_fors k_size k_outs k_rule k_filled k_rankings k_counts k_draw k_fors d_size d_outs d_rule d_filled d_rankings d_counts d_draw d_fors (nI n) (nI s) (nI m) w_steps w_fors w_draw w_links w_best w_beaters w_distances w_route t_bytes t_length t_next t_ranking t_count l_cells l_sizes s_bytes s_length keeps))) rfl ?_
          exact e_ret rfl (trivial) (hR _ _ ⟨rfl, (by first | exact Or.inl ⟨a, b, rfl, by omega, by omega, by assumption, by omega⟩ | (exact Or.inr ⟨rfl, by rcases hW.2.2.2.2 i hi j hj with q | ⟨x, hx, y, hy, q⟩; exact q; exact absurd q (l2 x (by omega) y hy)⟩) | exact Or.inr ⟨rfl, by assumption⟩)⟩)
        · skip
          rw [nI_leI (by omega) (by omega)] at c_24
          refine e_steps 2 (σ' := (30, [(6, .int (nI 0)), (0, .ref 16), (1, .int (nI i)), (2, .int (nI j)), (3, .long (lN (K i j))), (5, .int (nI a))], [], (CH p_size p_outs p_rule p_filled p_rankings p_counts p_draw p_fors k_size k_outs k_rule k_filled k_rankings k_counts k_draw k_fors d_size d_outs d_rule d_filled d_rankings d_counts d_draw d_fors (nI n) (nI s) (nI m) w_steps w_fors w_draw w_links w_best w_beaters w_distances w_route t_bytes t_length t_next t_ranking t_count l_cells l_sizes s_bytes s_length keeps))) rfl ?_
          have loop_30 : ∀ (z_30 : Nat) (b : Nat), n - b < z_30 → (b ≤ n ∧ ∀ y, y < b → z_LS m s F a y ≠ K i j) → z_EV (d + 2) zmX4_cellAsStrongAs R (30, [(0, .ref 16), (1, .int (nI i)), (2, .int (nI j)), (3, .long (lN (K i j))), (5, .int (nI a)), (6, .int (nI b))], [], (CH p_size p_outs p_rule p_filled p_rankings p_counts p_draw p_fors k_size k_outs k_rule k_filled k_rankings k_counts k_draw k_fors d_size d_outs d_rule d_filled d_rankings d_counts d_draw d_fors (nI n) (nI s) (nI m) w_steps w_fors w_draw w_links w_best w_beaters w_distances w_route t_bytes t_length t_next t_ranking t_count l_cells l_sizes s_bytes s_length keeps)) := by
            intro z_30
            induction z_30 with
            | zero => intro b hm_30 _; exact absurd hm_30 (Nat.not_lt_zero _)
            | succ z_30 ih_30 =>
              intro b hm_30 hi_30
              obtain ⟨m1, m2⟩ := hi_30
              refine e_steps 3 (σ' := (36, [(0, .ref 16), (1, .int (nI i)), (2, .int (nI j)), (3, .long (lN (K i j))), (5, .int (nI a)), (6, .int (nI b))], [.int (nI n), .int (nI b)], (CH p_size p_outs p_rule p_filled p_rankings p_counts p_draw p_fors k_size k_outs k_rule k_filled k_rankings k_counts k_draw k_fors d_size d_outs d_rule d_filled d_rankings d_counts d_draw d_fors (nI n) (nI s) (nI m) w_steps w_fors w_draw w_links w_best w_beaters w_distances w_route t_bytes t_length t_next t_ranking t_count l_cells l_sizes s_bytes s_length keeps))) rfl ?_
              refine e_if (c := nI n ≤ nI b) rfl (fun c_36 => ?_) (fun c_36 => ?_)
              · skip
                rw [nI_leI (by omega) (by omega)] at c_36
                refine e_steps 0 (σ' := (70, [(0, .ref 16), (1, .int (nI i)), (2, .int (nI j)), (3, .long (lN (K i j))), (5, .int (nI a)), (6, .int (nI b))], [], (CH p_size p_outs p_rule p_filled p_rankings p_counts p_draw p_fors k_size k_outs k_rule k_filled k_rankings k_counts k_draw k_fors d_size d_outs d_rule d_filled d_rankings d_counts d_draw d_fors (nI n) (nI s) (nI m) w_steps w_fors w_draw w_links w_best w_beaters w_distances w_route t_bytes t_length t_next t_ranking t_count l_cells l_sizes s_bytes s_length keeps))) rfl ?_
                refine e_inc (n := 1) rfl rfl rfl (a + 1) (by rfl) [(5, .int (nI (a + 1))), (0, .ref 16), (1, .int (nI i)), (2, .int (nI j)), (3, .long (lN (K i j))), (6, .int (nI b))] rfl ?_
                refine e_steps 1 (σ' := (18, [(5, .int (nI (a + 1))), (0, .ref 16), (1, .int (nI i)), (2, .int (nI j)), (3, .long (lN (K i j))), (6, .int (nI b))], [], (CH p_size p_outs p_rule p_filled p_rankings p_counts p_draw p_fors k_size k_outs k_rule k_filled k_rankings k_counts k_draw k_fors d_size d_outs d_rule d_filled d_rankings d_counts d_draw d_fors (nI n) (nI s) (nI m) w_steps w_fors w_draw w_links w_best w_beaters w_distances w_route t_bytes t_length t_next t_ranking t_count l_cells l_sizes s_bytes s_length keeps))) rfl ?_
                refine e_sub [1, 2, 3, 4, 0] rfl ?_
                exact ih_18 (a + 1) (by omega) (by exact ⟨by omega, fun x hx y hy => by rcases (by omega : x < a ∨ x = a) with e | e; exact l2 x e y hy; (rw [e]; exact m2 y (by omega))⟩)
              · skip
                rw [nI_leI (by omega) (by omega)] at c_36
                refine e_steps 4 (σ' := (47, [(0, .ref 16), (1, .int (nI i)), (2, .int (nI j)), (3, .long (lN (K i j))), (5, .int (nI a)), (6, .int (nI b))], [.int (nI b), .int (nI a), .ref 19], (CH p_size p_outs p_rule p_filled p_rankings p_counts p_draw p_fors k_size k_outs k_rule k_filled k_rankings k_counts k_draw k_fors d_size d_outs d_rule d_filled d_rankings d_counts d_draw d_fors (nI n) (nI s) (nI m) w_steps w_fors w_draw w_links w_best w_beaters w_distances w_route t_bytes t_length t_next t_ranking t_count l_cells l_sizes s_bytes s_length keeps))) rfl ?_
                refine e_call (y := 127) (av := [.int (nI a), .int (nI b)]) (rest := [.ref 19]) rfl (c_X5_cell (d + 1) ) (fun r_47 h_47 p_47 => ?_)
                obtain ⟨rfl, rfl⟩ := p_47
                refine e_steps 0 (σ' := (50, [(0, .ref 16), (1, .int (nI i)), (2, .int (nI j)), (3, .long (lN (K i j))), (5, .int (nI a)), (6, .int (nI b))], [.int (nI (8 * a + b)), .ref 19], (CH p_size p_outs p_rule p_filled p_rankings p_counts p_draw p_fors k_size k_outs k_rule k_filled k_rankings k_counts k_draw k_fors d_size d_outs d_rule d_filled d_rankings d_counts d_draw d_fors (nI n) (nI s) (nI m) w_steps w_fors w_draw w_links w_best w_beaters w_distances w_route t_bytes t_length t_next t_ranking t_count l_cells l_sizes s_bytes s_length keeps))) rfl ?_
                refine e_lal (lN (z_LS m s F a b)) rfl rfl (by first | assumption | omega | rfl | trivial) (by decide) ((hW.2.1 _ (by omega) _ (by omega)).1) ?_
                have hv_50 := (hW.2.1 a (by omega) b (by omega)).2
                refine e_steps 2 (σ' := (53, [(0, .ref 16), (1, .int (nI i)), (2, .int (nI j)), (3, .long (lN (K i j))), (5, .int (nI a)), (6, .int (nI b))], [.int ((lg_cmp (lN (z_LS m s F a b)) (lN (K i j))))], (CH p_size p_outs p_rule p_filled p_rankings p_counts p_draw p_fors k_size k_outs k_rule k_filled k_rankings k_counts k_draw k_fors d_size d_outs d_rule d_filled d_rankings d_counts d_draw d_fors (nI n) (nI s) (nI m) w_steps w_fors w_draw w_links w_best w_beaters w_distances w_route t_bytes t_length t_next t_ranking t_count l_cells l_sizes s_bytes s_length keeps))) rfl ?_
                refine e_if (c := ¬ lg_cmp (lN (z_LS m s F a b)) (lN (K i j)) = 0) rfl (fun c_52 => ?_) (fun c_52 => ?_)
                · rw [lg_cmp_eq] at c_52
                  rw [pk_lEQ (by omega) (by omega)] at c_52
                  refine e_steps 0 (σ' := (64, [(0, .ref 16), (1, .int (nI i)), (2, .int (nI j)), (3, .long (lN (K i j))), (5, .int (nI a)), (6, .int (nI b))], [], (CH p_size p_outs p_rule p_filled p_rankings p_counts p_draw p_fors k_size k_outs k_rule k_filled k_rankings k_counts k_draw k_fors d_size d_outs d_rule d_filled d_rankings d_counts d_draw d_fors (nI n) (nI s) (nI m) w_steps w_fors w_draw w_links w_best w_beaters w_distances w_route t_bytes t_length t_next t_ranking t_count l_cells l_sizes s_bytes s_length keeps))) rfl ?_
                  refine e_inc (n := 1) rfl rfl rfl (b + 1) (by rfl) [(6, .int (nI (b + 1))), (0, .ref 16), (1, .int (nI i)), (2, .int (nI j)), (3, .long (lN (K i j))), (5, .int (nI a))] rfl ?_
                  refine e_steps 1 (σ' := (30, [(6, .int (nI (b + 1))), (0, .ref 16), (1, .int (nI i)), (2, .int (nI j)), (3, .long (lN (K i j))), (5, .int (nI a))], [], (CH p_size p_outs p_rule p_filled p_rankings p_counts p_draw p_fors k_size k_outs k_rule k_filled k_rankings k_counts k_draw k_fors d_size d_outs d_rule d_filled d_rankings d_counts d_draw d_fors (nI n) (nI s) (nI m) w_steps w_fors w_draw w_links w_best w_beaters w_distances w_route t_bytes t_length t_next t_ranking t_count l_cells l_sizes s_bytes s_length keeps))) rfl ?_
                  refine e_sub [1, 2, 3, 4, 5, 0] rfl ?_
                  exact ih_30 (b + 1) (by omega) (by exact ⟨by omega, fun y hy => by rcases (by omega : y < b ∨ y = b) with e | e; exact m2 y e; (rw [e]; assumption)⟩)
                · rw [lg_cmp_eq] at c_52
                  rw [pk_lEQ (by omega) (by omega)] at c_52
                  replace c_52 := Decidable.not_not.mp c_52
                  refine e_steps 2 (σ' := (60, [(0, .ref 16), (1, .int (nI i)), (2, .int (nI j)), (3, .long (lN (K i j))), (5, .int (nI a)), (6, .int (nI b))], [.int (nI b), .int (nI a)], (CH p_size p_outs p_rule p_filled p_rankings p_counts p_draw p_fors k_size k_outs k_rule k_filled k_rankings k_counts k_draw k_fors d_size d_outs d_rule d_filled d_rankings d_counts d_draw d_fors (nI n) (nI s) (nI m) w_steps w_fors w_draw w_links w_best w_beaters w_distances w_route t_bytes t_length t_next t_ranking t_count l_cells l_sizes s_bytes s_length keeps))) rfl ?_
                  refine e_call (y := 127) (av := [.int (nI a), .int (nI b)]) (rest := []) rfl (c_X5_cell (d + 1) ) (fun r_60 h_60 p_60 => ?_)
                  obtain ⟨rfl, rfl⟩ := p_60
                  refine e_steps 0 (σ' := (63, [(0, .ref 16), (1, .int (nI i)), (2, .int (nI j)), (3, .long (lN (K i j))), (5, .int (nI a)), (6, .int (nI b))], [.int (nI (8 * a + b))], (CH p_size p_outs p_rule p_filled p_rankings p_counts p_draw p_fors k_size k_outs k_rule k_filled k_rankings k_counts k_draw k_fors d_size d_outs d_rule d_filled d_rankings d_counts d_draw d_fors (nI n) (nI s) (nI m) w_steps w_fors w_draw w_links w_best w_beaters w_distances w_route t_bytes t_length t_next t_ranking t_count l_cells l_sizes s_bytes s_length keeps))) rfl ?_
                  exact e_ret rfl (trivial) (hR _ _ ⟨rfl, (by first | exact Or.inl ⟨a, b, rfl, by omega, by omega, by assumption, by omega⟩ | (exact Or.inr ⟨rfl, by rcases hW.2.2.2.2 i hi j hj with q | ⟨x, hx, y, hy, q⟩; exact q; exact absurd q (l2 x (by omega) y hy)⟩) | exact Or.inr ⟨rfl, by assumption⟩)⟩)
          refine e_sub [1, 2, 3, 4, 5, 0] rfl ?_
          exact loop_30 _ 0 (Nat.lt_succ_self _) (by exact ⟨by omega, fun x hx => absurd hx (Nat.not_lt_zero x)⟩)
    refine e_sub [2, 3, 4, 1, 0] rfl ?_
    exact loop_18 _ 0 (Nat.lt_succ_self _) (by exact ⟨by omega, fun x hx => absurd hx (Nat.not_lt_zero x)⟩)
  · rw [lg_cmp_eq] at c_9
    rw [pk_lEQ (by omega) (by omega)] at c_9
    replace c_9 := Decidable.not_not.mp c_9
    refine e_steps 1 (σ' := (14, [(3, .long (lN (K i j))), (0, .ref 16), (1, .int (nI i)), (2, .int (nI j))], [.int ((-nI 1))], (CH p_size p_outs p_rule p_filled p_rankings p_counts p_draw p_fors k_size k_outs k_rule k_filled k_rankings k_counts k_draw k_fors d_size d_outs d_rule d_filled d_rankings d_counts d_draw d_fors (nI n) (nI s) (nI m) w_steps w_fors w_draw w_links w_best w_beaters w_distances w_route t_bytes t_length t_next t_ranking t_count l_cells l_sizes s_bytes s_length keeps))) rfl ?_
    exact e_ret rfl (trivial) (hR _ _ ⟨rfl, (by first | exact Or.inl ⟨a, b, rfl, by omega, by omega, by assumption, by omega⟩ | (exact Or.inr ⟨rfl, by rcases hW.2.2.2.2 i hi j hj with q | ⟨x, hx, y, hy, q⟩; exact q; exact absurd q (l2 x (by omega) y hy)⟩) | exact Or.inr ⟨rfl, by assumption⟩)⟩)
theorem c_X4_commonDivisor (d : Nat) {h : List z_E} {a : Nat} {b : Nat} (hba : b < a) (ha : a ≤ 41000000) : z_CAL (d + 1) 60 [.int (nI a), .int (nI b)] h (fun r h2 => r = some (.int (nI (Nat.gcd a b))) ∧ h2 = h) := by
  refine e_of2 (q := zmX4_commonDivisor) rfl rfl (fun R hR => ?_)
  refine e_steps 6 (σ' := (7, [(4, .int (nI 0)), (3, .int (nI b)), (2, .int (nI a)), (0, .int (nI a)), (1, .int (nI b))], [], h)) rfl ?_
  have loop_7 : ∀ (z_7 : Nat) (mo : Nat) (le : Nat) (tn : Nat), 64 - tn < z_7 → (tn ≤ 64 ∧ le ≤ mo ∧ 0 < mo ∧ mo ≤ 41000000 ∧ mo * le < 2 ^ (64 - tn) ∧ Nat.gcd mo le = Nat.gcd a b) → z_EV (d + 0) zmX4_commonDivisor R (7, [(0, .int (nI a)), (1, .int (nI b)), (2, .int (nI mo)), (3, .int (nI le)), (4, .int (nI tn))], [], h) := by
    intro z_7
    induction z_7 with
    | zero => intro mo le tn hm_7 _; exact absurd hm_7 (Nat.not_lt_zero _)
    | succ z_7 ih_7 =>
      intro mo le tn hm_7 hi_7
      obtain ⟨l1, l2, l3, l4, l5, l6⟩ := hi_7
      refine e_steps 2 (σ' := (11, [(0, .int (nI a)), (1, .int (nI b)), (2, .int (nI mo)), (3, .int (nI le)), (4, .int (nI tn))], [.int (nI 64), .int (nI tn)], h)) rfl ?_
      refine e_if (c := nI 64 ≤ nI tn) rfl (fun c_11 => ?_) (fun c_11 => ?_)
      · skip
        rw [nI_leI (by omega) (by omega)] at c_11
        refine e_steps 1 (σ' := (35, [(0, .int (nI a)), (1, .int (nI b)), (2, .int (nI mo)), (3, .int (nI le)), (4, .int (nI tn))], [.int (nI mo)], h)) rfl ?_
        exact e_ret rfl (trivial) (hR _ _ ⟨(by (have e0 : le = 0 := (by first | omega | (rw [show 64 - tn = 0 by omega] at l5; rcases Nat.eq_zero_or_pos le with q | q; exact q; (have := Nat.mul_le_mul (show 1 ≤ mo by omega) q; omega)))); rw [← l6, e0, Nat.gcd_zero_right]), rfl⟩)
      · skip
        rw [nI_leI (by omega) (by omega)] at c_11
        refine e_steps 1 (σ' := (15, [(0, .int (nI a)), (1, .int (nI b)), (2, .int (nI mo)), (3, .int (nI le)), (4, .int (nI tn))], [.int (nI le)], h)) rfl ?_
        refine e_if (c := nI le = 0) rfl (fun c_15 => ?_) (fun c_15 => ?_)
        · skip
          rw [z0_eq (by omega)] at c_15
          refine e_steps 1 (σ' := (35, [(0, .int (nI a)), (1, .int (nI b)), (2, .int (nI mo)), (3, .int (nI le)), (4, .int (nI tn))], [.int (nI mo)], h)) rfl ?_
          exact e_ret rfl (trivial) (hR _ _ ⟨(by (have e0 : le = 0 := (by first | omega | (rw [show 64 - tn = 0 by omega] at l5; rcases Nat.eq_zero_or_pos le with q | q; exact q; (have := Nat.mul_le_mul (show 1 ≤ mo by omega) q; omega)))); rw [← l6, e0, Nat.gcd_zero_right]), rfl⟩)
        · skip
          rw [z0_eq (by omega)] at c_15
          have hlt := Nat.mod_lt mo (show le > 0 by omega)
          refine e_steps 2 (σ' := (20, [(0, .int (nI a)), (1, .int (nI b)), (2, .int (nI mo)), (3, .int (nI le)), (4, .int (nI tn))], [.int (nI le), .int (nI mo)], h)) rfl ?_
          refine e_gd (c := ¬ (nI le) = 0) rfl (by exact fun q => absurd ((z0_eq (by omega)).mp q) (by omega)) ?_
          refine e_steps 0 (σ' := (21, [(0, .int (nI a)), (1, .int (nI b)), (2, .int (nI mo)), (3, .int (nI le)), (4, .int (nI tn))], [.int (((nI mo) - (nI mo) / (nI le) * (nI le)))], h)) rfl ?_
          have er_20 : ((nI mo) - (nI mo) / (nI le) * (nI le)) = nI (mo % le) := pk_rem (by omega) (by omega) (by omega)
          rw [er_20]
          refine e_steps 5 (σ' := (28, [(3, .int (nI (mo % le))), (2, .int (nI le)), (5, .int (nI (mo % le))), (0, .int (nI a)), (1, .int (nI b)), (4, .int (nI tn))], [], h)) rfl ?_
          refine e_inc (n := 1) rfl rfl rfl (tn + 1) (by rfl) [(4, .int (nI (tn + 1))), (3, .int (nI (mo % le))), (2, .int (nI le)), (5, .int (nI (mo % le))), (0, .int (nI a)), (1, .int (nI b))] rfl ?_
          refine e_steps 1 (σ' := (7, [(4, .int (nI (tn + 1))), (3, .int (nI (mo % le))), (2, .int (nI le)), (5, .int (nI (mo % le))), (0, .int (nI a)), (1, .int (nI b))], [], h)) rfl ?_
          refine e_sub [4, 5, 2, 1, 0] rfl ?_
          exact ih_7 le (mo % le) (tn + 1) (by omega) (by exact ⟨by omega, by omega, by omega, by omega, by rw [show 64 - (tn + 1) = 63 - tn by omega]; exact z_half (by omega) l2 (by rw [show 63 - tn + 1 = 64 - tn by omega]; exact l5), z_gcd_step.trans l6⟩)
  refine e_sub [3, 4, 2, 1, 0] rfl ?_
  exact loop_7 _ a b 0 (Nat.lt_succ_self _) (by exact ⟨by omega, by omega, by omega, ha, Nat.lt_of_le_of_lt (Nat.mul_le_mul ha (Nat.le_trans (Nat.le_of_lt hba) ha)) (by decide), rfl⟩)
theorem c_X4_strengthTold (d : Nat) {p_size : Int32} {p_outs : Int32} {p_rule : Int32} {p_filled : Int32} {p_rankings : Nat → Int32} {p_counts : Nat → Int32} {p_draw : Nat → Int32} {p_fors : Nat → Int32} {k_size : Int32} {k_outs : Int32} {k_rule : Int32} {k_filled : Int32} {k_rankings : Nat → Int32} {k_counts : Nat → Int32} {k_draw : Nat → Int32} {k_fors : Nat → Int32} {d_size : Int32} {d_outs : Int32} {d_rule : Int32} {d_filled : Int32} {d_rankings : Nat → Int32} {d_counts : Nat → Int32} {d_draw : Nat → Int32} {d_fors : Nat → Int32} {n : Nat} {s : Nat} {m : Nat} {w_steps : Int32} {w_fors : Nat → Int32} {w_draw : Nat → Int32} {w_links : Nat → Int64} {w_best : Nat → Int64} {w_beaters : Nat → Int32} {w_distances : Nat → Int32} {w_route : Nat → Int32} {t_bytes : Nat → Int32} {t_length : Int32} {t_next : Int32} {t_ranking : Int32} {t_count : Int32} {l_cells : Nat → Int64} {l_sizes : Nat → Int32} {s_bytes : Nat → Int32} {s_length : Int32} {keeps : Int32} {ix : Nat} {part : Nat} {F : Nat → Nat → Nat} {x : Nat} {y : Nat} (hn2 : 2 ≤ n) (hn8 : n ≤ 8) (hs2 : s < 2 ^ n) (hm : m < 4) (hF : z_FR w_fors n F) (hix : ix = 8 * x + y) (hx : x < n) (hy : y < n) (hl : F y x < F x y) (hpt : part < 2) : z_CAL (d + 2) 59 [.ref 16, .int (nI ix), .int (nI part)] (CH p_size p_outs p_rule p_filled p_rankings p_counts p_draw p_fors k_size k_outs k_rule k_filled k_rankings k_counts k_draw k_fors d_size d_outs d_rule d_filled d_rankings d_counts d_draw d_fors (nI n) (nI s) (nI m) w_steps w_fors w_draw w_links w_best w_beaters w_distances w_route t_bytes t_length t_next t_ranking t_count l_cells l_sizes s_bytes s_length keeps) (fun r h2 => r = some (.long (lN (z_td m part (F x y) (F y x)))) ∧ h2 = (CH p_size p_outs p_rule p_filled p_rankings p_counts p_draw p_fors k_size k_outs k_rule k_filled k_rankings k_counts k_draw k_fors d_size d_outs d_rule d_filled d_rankings d_counts d_draw d_fors (nI n) (nI s) (nI m) w_steps w_fors w_draw w_links w_best w_beaters w_distances w_route t_bytes t_length t_next t_ranking t_count l_cells l_sizes s_bytes s_length keeps)) := by
  refine e_of2 (q := zmX4_strengthTold) rfl rfl (fun R hR => ?_)
  have hp8 := z_p2 hn8; have hs : s < 256 := (by omega); have hb1 := (hF x hx y hy).2; have hg0 := z_gcd2 hl; have hg1 := z_gcd_le hl
  refine e_steps 2 (σ' := (3, [(0, .ref 16), (1, .int (nI ix)), (2, .int (nI part))], [.int (nI 8), .int (nI ix)], (CH p_size p_outs p_rule p_filled p_rankings p_counts p_draw p_fors k_size k_outs k_rule k_filled k_rankings k_counts k_draw k_fors d_size d_outs d_rule d_filled d_rankings d_counts d_draw d_fors (nI n) (nI s) (nI m) w_steps w_fors w_draw w_links w_best w_beaters w_distances w_route t_bytes t_length t_next t_ranking t_count l_cells l_sizes s_bytes s_length keeps))) rfl ?_
  refine e_call (y := 238) (av := [.int (nI ix), .int (nI 8)]) (rest := []) rfl (c_J9_floorDiv_7cf53 (d + 0) (by first | assumption | omega | rfl | trivial) (by first | assumption | omega | rfl | trivial) (by first | assumption | omega | rfl | trivial)) (fun r_3 h_3 p_3 => ?_)
  obtain ⟨rfl, rfl⟩ := p_3
  refine e_steps 0 (σ' := (6, [(0, .ref 16), (1, .int (nI ix)), (2, .int (nI part))], [.int (nI (ix / 8))], (CH p_size p_outs p_rule p_filled p_rankings p_counts p_draw p_fors k_size k_outs k_rule k_filled k_rankings k_counts k_draw k_fors d_size d_outs d_rule d_filled d_rankings d_counts d_draw d_fors (nI n) (nI s) (nI m) w_steps w_fors w_draw w_links w_best w_beaters w_distances w_route t_bytes t_length t_next t_ranking t_count l_cells l_sizes s_bytes s_length keeps))) rfl ?_
  have er_3 : nI (ix / 8) = nI x := congrArg nI (by omega)
  rw [er_3]
  refine e_steps 3 (σ' := (10, [(3, .int (nI x)), (0, .ref 16), (1, .int (nI ix)), (2, .int (nI part))], [.int (nI 8), .int (nI ix)], (CH p_size p_outs p_rule p_filled p_rankings p_counts p_draw p_fors k_size k_outs k_rule k_filled k_rankings k_counts k_draw k_fors d_size d_outs d_rule d_filled d_rankings d_counts d_draw d_fors (nI n) (nI s) (nI m) w_steps w_fors w_draw w_links w_best w_beaters w_distances w_route t_bytes t_length t_next t_ranking t_count l_cells l_sizes s_bytes s_length keeps))) rfl ?_
  refine e_call (y := 239) (av := [.int (nI ix), .int (nI 8)]) (rest := []) rfl (c_J9_floorMod_7cf53 (d + 0) (by first | assumption | omega | rfl | trivial) (by first | assumption | omega | rfl | trivial) (by first | assumption | omega | rfl | trivial)) (fun r_10 h_10 p_10 => ?_)
  obtain ⟨rfl, rfl⟩ := p_10
  refine e_steps 0 (σ' := (13, [(3, .int (nI x)), (0, .ref 16), (1, .int (nI ix)), (2, .int (nI part))], [.int (nI (ix % 8))], (CH p_size p_outs p_rule p_filled p_rankings p_counts p_draw p_fors k_size k_outs k_rule k_filled k_rankings k_counts k_draw k_fors d_size d_outs d_rule d_filled d_rankings d_counts d_draw d_fors (nI n) (nI s) (nI m) w_steps w_fors w_draw w_links w_best w_beaters w_distances w_route t_bytes t_length t_next t_ranking t_count l_cells l_sizes s_bytes s_length keeps))) rfl ?_
  have er_10 : nI (ix % 8) = nI y := congrArg nI (by omega)
  rw [er_10]
  refine e_steps 4 (σ' := (19, [(4, .int (nI y)), (3, .int (nI x)), (0, .ref 16), (1, .int (nI ix)), (2, .int (nI part))], [.int (nI y), .int (nI x), .ref 16], (CH p_size p_outs p_rule p_filled p_rankings p_counts p_draw p_fors k_size k_outs k_rule k_filled k_rankings k_counts k_draw k_fors d_size d_outs d_rule d_filled d_rankings d_counts d_draw d_fors (nI n) (nI s) (nI m) w_steps w_fors w_draw w_links w_best w_beaters w_distances w_route t_bytes t_length t_next t_ranking t_count l_cells l_sizes s_bytes s_length keeps))) rfl ?_
  refine e_call (y := 54) (av := [.ref 16, .int (nI x), .int (nI y)]) (rest := []) rfl (c_X4_knows (d + 0) (n := n) (s := s) (m := m) (by first | assumption | omega | rfl | trivial) (by first | assumption | omega | rfl | trivial) (by first | assumption | omega | rfl | trivial) (by first | assumption | omega | rfl | trivial) (by first | assumption | omega | rfl | trivial) (by first | assumption | omega | rfl | trivial)) (fun r_19 h_19 p_19 => ?_)
  obtain ⟨rfl, rfl⟩ := p_19
  refine e_steps 5 (σ' := (36, [(4, .int (nI y)), (3, .int (nI x)), (0, .ref 16), (1, .int (nI ix)), (2, .int (nI part))], [.int (nI y), .int (nI x), .ref 17], (CH p_size p_outs p_rule p_filled p_rankings p_counts p_draw p_fors k_size k_outs k_rule k_filled k_rankings k_counts k_draw k_fors d_size d_outs d_rule d_filled d_rankings d_counts d_draw d_fors (nI n) (nI s) (nI m) w_steps w_fors w_draw w_links w_best w_beaters w_distances w_route t_bytes t_length t_next t_ranking t_count l_cells l_sizes s_bytes s_length keeps))) rfl ?_
  refine e_call (y := 127) (av := [.int (nI x), .int (nI y)]) (rest := [.ref 17]) rfl (c_X5_cell (d + 0) ) (fun r_36 h_36 p_36 => ?_)
  obtain ⟨rfl, rfl⟩ := p_36
  refine e_steps 0 (σ' := (39, [(4, .int (nI y)), (3, .int (nI x)), (0, .ref 16), (1, .int (nI ix)), (2, .int (nI part))], [.int (nI (8 * x + y)), .ref 17], (CH p_size p_outs p_rule p_filled p_rankings p_counts p_draw p_fors k_size k_outs k_rule k_filled k_rankings k_counts k_draw k_fors d_size d_outs d_rule d_filled d_rankings d_counts d_draw d_fors (nI n) (nI s) (nI m) w_steps w_fors w_draw w_links w_best w_beaters w_distances w_route t_bytes t_length t_next t_ranking t_count l_cells l_sizes s_bytes s_length keeps))) rfl ?_
  refine e_ial (nI (F x y)) rfl rfl (by first | assumption | omega | rfl | trivial) (by decide) ((hF _ (by omega) _ (by omega)).1) ?_
  have hv_39 := (hF x (by omega) y (by omega)).2
  refine e_steps 5 (σ' := (49, [(5, .int (nI (F x y))), (4, .int (nI y)), (3, .int (nI x)), (0, .ref 16), (1, .int (nI ix)), (2, .int (nI part))], [.int (nI x), .int (nI y), .ref 17], (CH p_size p_outs p_rule p_filled p_rankings p_counts p_draw p_fors k_size k_outs k_rule k_filled k_rankings k_counts k_draw k_fors d_size d_outs d_rule d_filled d_rankings d_counts d_draw d_fors (nI n) (nI s) (nI m) w_steps w_fors w_draw w_links w_best w_beaters w_distances w_route t_bytes t_length t_next t_ranking t_count l_cells l_sizes s_bytes s_length keeps))) rfl ?_
  refine e_call (y := 127) (av := [.int (nI y), .int (nI x)]) (rest := [.ref 17]) rfl (c_X5_cell (d + 0) ) (fun r_49 h_49 p_49 => ?_)
  obtain ⟨rfl, rfl⟩ := p_49
  refine e_steps 0 (σ' := (52, [(5, .int (nI (F x y))), (4, .int (nI y)), (3, .int (nI x)), (0, .ref 16), (1, .int (nI ix)), (2, .int (nI part))], [.int (nI (8 * y + x)), .ref 17], (CH p_size p_outs p_rule p_filled p_rankings p_counts p_draw p_fors k_size k_outs k_rule k_filled k_rankings k_counts k_draw k_fors d_size d_outs d_rule d_filled d_rankings d_counts d_draw d_fors (nI n) (nI s) (nI m) w_steps w_fors w_draw w_links w_best w_beaters w_distances w_route t_bytes t_length t_next t_ranking t_count l_cells l_sizes s_bytes s_length keeps))) rfl ?_
  refine e_ial (nI (F y x)) rfl rfl (by first | assumption | omega | rfl | trivial) (by decide) ((hF _ (by omega) _ (by omega)).1) ?_
  have hv_52 := (hF y (by omega) x (by omega)).2
  refine e_steps 4 (σ' := (60, [(6, .int (nI (F y x))), (5, .int (nI (F x y))), (4, .int (nI y)), (3, .int (nI x)), (0, .ref 16), (1, .int (nI ix)), (2, .int (nI part))], [.int (nI 2), .int (nI m)], (CH p_size p_outs p_rule p_filled p_rankings p_counts p_draw p_fors k_size k_outs k_rule k_filled k_rankings k_counts k_draw k_fors d_size d_outs d_rule d_filled d_rankings d_counts d_draw d_fors (nI n) (nI s) (nI m) w_steps w_fors w_draw w_links w_best w_beaters w_distances w_route t_bytes t_length t_next t_ranking t_count l_cells l_sizes s_bytes s_length keeps))) rfl ?_
  refine e_if (c := ¬ nI m = nI 2) rfl (fun c_60 => ?_) (fun c_60 => ?_)
  · skip
    rw [nI_eq (by omega) (by omega)] at c_60
    skip
    refine e_steps 2 (σ' := (103, [(6, .int (nI (F y x))), (5, .int (nI (F x y))), (4, .int (nI y)), (3, .int (nI x)), (0, .ref 16), (1, .int (nI ix)), (2, .int (nI part))], [.int (nI 1), .int (nI part)], (CH p_size p_outs p_rule p_filled p_rankings p_counts p_draw p_fors k_size k_outs k_rule k_filled k_rankings k_counts k_draw k_fors d_size d_outs d_rule d_filled d_rankings d_counts d_draw d_fors (nI n) (nI s) (nI m) w_steps w_fors w_draw w_links w_best w_beaters w_distances w_route t_bytes t_length t_next t_ranking t_count l_cells l_sizes s_bytes s_length keeps))) rfl ?_
    refine e_if (c := ¬ nI part = nI 1) rfl (fun c_103 => ?_) (fun c_103 => ?_)
    · skip
      rw [nI_eq (by omega) (by omega)] at c_103
      skip
      refine e_steps 2 (σ' := (112, [(6, .int (nI (F y x))), (5, .int (nI (F x y))), (4, .int (nI y)), (3, .int (nI x)), (0, .ref 16), (1, .int (nI ix)), (2, .int (nI part))], [.int (nI m)], (CH p_size p_outs p_rule p_filled p_rankings p_counts p_draw p_fors k_size k_outs k_rule k_filled k_rankings k_counts k_draw k_fors d_size d_outs d_rule d_filled d_rankings d_counts d_draw d_fors (nI n) (nI s) (nI m) w_steps w_fors w_draw w_links w_best w_beaters w_distances w_route t_bytes t_length t_next t_ranking t_count l_cells l_sizes s_bytes s_length keeps))) rfl ?_
      refine e_if (c := ¬ nI m = 0) rfl (fun c_112 => ?_) (fun c_112 => ?_)
      · skip
        rw [z0_ne (by omega)] at c_112
        skip
        refine e_steps 3 (σ' := (124, [(6, .int (nI (F y x))), (5, .int (nI (F x y))), (4, .int (nI y)), (3, .int (nI x)), (0, .ref 16), (1, .int (nI ix)), (2, .int (nI part))], [.int (nI 1), .int (nI m)], (CH p_size p_outs p_rule p_filled p_rankings p_counts p_draw p_fors k_size k_outs k_rule k_filled k_rankings k_counts k_draw k_fors d_size d_outs d_rule d_filled d_rankings d_counts d_draw d_fors (nI n) (nI s) (nI m) w_steps w_fors w_draw w_links w_best w_beaters w_distances w_route t_bytes t_length t_next t_ranking t_count l_cells l_sizes s_bytes s_length keeps))) rfl ?_
        refine e_if (c := ¬ nI m = nI 1) rfl (fun c_124 => ?_) (fun c_124 => ?_)
        · skip
          rw [nI_eq (by omega) (by omega)] at c_124
          skip
          refine e_steps 1 (σ' := (138, [(6, .int (nI (F y x))), (5, .int (nI (F x y))), (4, .int (nI y)), (3, .int (nI x)), (0, .ref 16), (1, .int (nI ix)), (2, .int (nI part))], [.int (nI (F y x))], (CH p_size p_outs p_rule p_filled p_rankings p_counts p_draw p_fors k_size k_outs k_rule k_filled k_rankings k_counts k_draw k_fors d_size d_outs d_rule d_filled d_rankings d_counts d_draw d_fors (nI n) (nI s) (nI m) w_steps w_fors w_draw w_links w_best w_beaters w_distances w_route t_bytes t_length t_next t_ranking t_count l_cells l_sizes s_bytes s_length keeps))) rfl ?_
          refine e_i2l rfl (by omega) ?_
          refine e_steps 0 (σ' := (139, [(6, .int (nI (F y x))), (5, .int (nI (F x y))), (4, .int (nI y)), (3, .int (nI x)), (0, .ref 16), (1, .int (nI ix)), (2, .int (nI part))], [.long (lN (F y x))], (CH p_size p_outs p_rule p_filled p_rankings p_counts p_draw p_fors k_size k_outs k_rule k_filled k_rankings k_counts k_draw k_fors d_size d_outs d_rule d_filled d_rankings d_counts d_draw d_fors (nI n) (nI s) (nI m) w_steps w_fors w_draw w_links w_best w_beaters w_distances w_route t_bytes t_length t_next t_ranking t_count l_cells l_sizes s_bytes s_length keeps))) rfl ?_
          exact e_ret rfl (trivial) (hR _ _ ⟨(by unfold z_td; simp [*]; done), rfl⟩)
        · skip
          rw [nI_eq (by omega) (by omega)] at c_124
          replace c_124 := Decidable.not_not.mp c_124
          refine e_steps 2 (σ' := (131, [(6, .int (nI (F y x))), (5, .int (nI (F x y))), (4, .int (nI y)), (3, .int (nI x)), (0, .ref 16), (1, .int (nI ix)), (2, .int (nI part))], [.int (nI (F y x)), .int (nI (F x y))], (CH p_size p_outs p_rule p_filled p_rankings p_counts p_draw p_fors k_size k_outs k_rule k_filled k_rankings k_counts k_draw k_fors d_size d_outs d_rule d_filled d_rankings d_counts d_draw d_fors (nI n) (nI s) (nI m) w_steps w_fors w_draw w_links w_best w_beaters w_distances w_route t_bytes t_length t_next t_ranking t_count l_cells l_sizes s_bytes s_length keeps))) rfl ?_
          refine e_sbt ((F x y) - (F y x)) rfl (by first | assumption | omega | rfl | trivial) (by first | rfl | omega) ?_
          refine e_steps 0 (σ' := (132, [(6, .int (nI (F y x))), (5, .int (nI (F x y))), (4, .int (nI y)), (3, .int (nI x)), (0, .ref 16), (1, .int (nI ix)), (2, .int (nI part))], [.int (nI ((F x y) - (F y x)))], (CH p_size p_outs p_rule p_filled p_rankings p_counts p_draw p_fors k_size k_outs k_rule k_filled k_rankings k_counts k_draw k_fors d_size d_outs d_rule d_filled d_rankings d_counts d_draw d_fors (nI n) (nI s) (nI m) w_steps w_fors w_draw w_links w_best w_beaters w_distances w_route t_bytes t_length t_next t_ranking t_count l_cells l_sizes s_bytes s_length keeps))) rfl ?_
          refine e_i2l rfl (by omega) ?_
          refine e_steps 1 (σ' := (139, [(6, .int (nI (F y x))), (5, .int (nI (F x y))), (4, .int (nI y)), (3, .int (nI x)), (0, .ref 16), (1, .int (nI ix)), (2, .int (nI part))], [.long (lN ((F x y) - (F y x)))], (CH p_size p_outs p_rule p_filled p_rankings p_counts p_draw p_fors k_size k_outs k_rule k_filled k_rankings k_counts k_draw k_fors d_size d_outs d_rule d_filled d_rankings d_counts d_draw d_fors (nI n) (nI s) (nI m) w_steps w_fors w_draw w_links w_best w_beaters w_distances w_route t_bytes t_length t_next t_ranking t_count l_cells l_sizes s_bytes s_length keeps))) rfl ?_
          exact e_ret rfl (trivial) (hR _ _ ⟨(by unfold z_td; simp [*]; done), rfl⟩)
      · skip
        rw [z0_ne (by omega)] at c_112
        replace c_112 := Decidable.not_not.mp c_112
        refine e_steps 1 (σ' := (117, [(6, .int (nI (F y x))), (5, .int (nI (F x y))), (4, .int (nI y)), (3, .int (nI x)), (0, .ref 16), (1, .int (nI ix)), (2, .int (nI part))], [.int (nI (F x y))], (CH p_size p_outs p_rule p_filled p_rankings p_counts p_draw p_fors k_size k_outs k_rule k_filled k_rankings k_counts k_draw k_fors d_size d_outs d_rule d_filled d_rankings d_counts d_draw d_fors (nI n) (nI s) (nI m) w_steps w_fors w_draw w_links w_best w_beaters w_distances w_route t_bytes t_length t_next t_ranking t_count l_cells l_sizes s_bytes s_length keeps))) rfl ?_
        refine e_i2l rfl (by omega) ?_
        refine e_steps 0 (σ' := (118, [(6, .int (nI (F y x))), (5, .int (nI (F x y))), (4, .int (nI y)), (3, .int (nI x)), (0, .ref 16), (1, .int (nI ix)), (2, .int (nI part))], [.long (lN (F x y))], (CH p_size p_outs p_rule p_filled p_rankings p_counts p_draw p_fors k_size k_outs k_rule k_filled k_rankings k_counts k_draw k_fors d_size d_outs d_rule d_filled d_rankings d_counts d_draw d_fors (nI n) (nI s) (nI m) w_steps w_fors w_draw w_links w_best w_beaters w_distances w_route t_bytes t_length t_next t_ranking t_count l_cells l_sizes s_bytes s_length keeps))) rfl ?_
        exact e_ret rfl (trivial) (hR _ _ ⟨(by unfold z_td; simp [*]; done), rfl⟩)
    · skip
      rw [nI_eq (by omega) (by omega)] at c_103
      replace c_103 := Decidable.not_not.mp c_103
      refine e_steps 1 (σ' := (107, [(6, .int (nI (F y x))), (5, .int (nI (F x y))), (4, .int (nI y)), (3, .int (nI x)), (0, .ref 16), (1, .int (nI ix)), (2, .int (nI part))], [.long (lN 1)], (CH p_size p_outs p_rule p_filled p_rankings p_counts p_draw p_fors k_size k_outs k_rule k_filled k_rankings k_counts k_draw k_fors d_size d_outs d_rule d_filled d_rankings d_counts d_draw d_fors (nI n) (nI s) (nI m) w_steps w_fors w_draw w_links w_best w_beaters w_distances w_route t_bytes t_length t_next t_ranking t_count l_cells l_sizes s_bytes s_length keeps))) rfl ?_
      exact e_ret rfl (trivial) (hR _ _ ⟨(by unfold z_td; simp [*]; done), rfl⟩)
  · skip
    rw [nI_eq (by omega) (by omega)] at c_60
    replace c_60 := Decidable.not_not.mp c_60
    refine e_steps 1 (σ' := (65, [(6, .int (nI (F y x))), (5, .int (nI (F x y))), (4, .int (nI y)), (3, .int (nI x)), (0, .ref 16), (1, .int (nI ix)), (2, .int (nI part))], [.int (nI (F y x))], (CH p_size p_outs p_rule p_filled p_rankings p_counts p_draw p_fors k_size k_outs k_rule k_filled k_rankings k_counts k_draw k_fors d_size d_outs d_rule d_filled d_rankings d_counts d_draw d_fors (nI n) (nI s) (nI m) w_steps w_fors w_draw w_links w_best w_beaters w_distances w_route t_bytes t_length t_next t_ranking t_count l_cells l_sizes s_bytes s_length keeps))) rfl ?_
    refine e_if (c := ¬ nI (F y x) = 0) rfl (fun c_65 => ?_) (fun c_65 => ?_)
    · skip
      rw [z0_ne (by omega)] at c_65
      skip
      refine e_steps 2 (σ' := (76, [(6, .int (nI (F y x))), (5, .int (nI (F x y))), (4, .int (nI y)), (3, .int (nI x)), (0, .ref 16), (1, .int (nI ix)), (2, .int (nI part))], [.int (nI (F y x)), .int (nI (F x y))], (CH p_size p_outs p_rule p_filled p_rankings p_counts p_draw p_fors k_size k_outs k_rule k_filled k_rankings k_counts k_draw k_fors d_size d_outs d_rule d_filled d_rankings d_counts d_draw d_fors (nI n) (nI s) (nI m) w_steps w_fors w_draw w_links w_best w_beaters w_distances w_route t_bytes t_length t_next t_ranking t_count l_cells l_sizes s_bytes s_length keeps))) rfl ?_
      refine e_call (y := 60) (av := [.int (nI (F x y)), .int (nI (F y x))]) (rest := []) rfl (c_X4_commonDivisor (d + 0) (by first | assumption | omega | rfl | trivial) (by first | assumption | omega | rfl | trivial)) (fun r_76 h_76 p_76 => ?_)
      obtain ⟨rfl, rfl⟩ := p_76
      refine e_steps 2 (σ' := (82, [(7, .int (nI (Nat.gcd (F x y) (F y x)))), (6, .int (nI (F y x))), (5, .int (nI (F x y))), (4, .int (nI y)), (3, .int (nI x)), (0, .ref 16), (1, .int (nI ix)), (2, .int (nI part))], [.int (nI part)], (CH p_size p_outs p_rule p_filled p_rankings p_counts p_draw p_fors k_size k_outs k_rule k_filled k_rankings k_counts k_draw k_fors d_size d_outs d_rule d_filled d_rankings d_counts d_draw d_fors (nI n) (nI s) (nI m) w_steps w_fors w_draw w_links w_best w_beaters w_distances w_route t_bytes t_length t_next t_ranking t_count l_cells l_sizes s_bytes s_length keeps))) rfl ?_
      refine e_if (c := ¬ nI part = 0) rfl (fun c_82 => ?_) (fun c_82 => ?_)
      · skip
        rw [z0_ne (by omega)] at c_82
        skip
        refine e_steps 3 (σ' := (95, [(7, .int (nI (Nat.gcd (F x y) (F y x)))), (6, .int (nI (F y x))), (5, .int (nI (F x y))), (4, .int (nI y)), (3, .int (nI x)), (0, .ref 16), (1, .int (nI ix)), (2, .int (nI part))], [.int (nI 1), .int (nI (Nat.gcd (F x y) (F y x))), .int (nI (F y x))], (CH p_size p_outs p_rule p_filled p_rankings p_counts p_draw p_fors k_size k_outs k_rule k_filled k_rankings k_counts k_draw k_fors d_size d_outs d_rule d_filled d_rankings d_counts d_draw d_fors (nI n) (nI s) (nI m) w_steps w_fors w_draw w_links w_best w_beaters w_distances w_route t_bytes t_length t_next t_ranking t_count l_cells l_sizes s_bytes s_length keeps))) rfl ?_
        refine e_call (y := 240) (av := [.int (nI (Nat.gcd (F x y) (F y x))), .int (nI 1)]) (rest := [.int (nI (F y x))]) rfl (c_J9_max_7cf53_N (d + 0) (by first | assumption | omega | rfl | trivial) (by first | assumption | omega | rfl | trivial)) (fun r_95 h_95 p_95 => ?_)
        obtain ⟨rfl, rfl⟩ := p_95
        refine e_steps 0 (σ' := (98, [(7, .int (nI (Nat.gcd (F x y) (F y x)))), (6, .int (nI (F y x))), (5, .int (nI (F x y))), (4, .int (nI y)), (3, .int (nI x)), (0, .ref 16), (1, .int (nI ix)), (2, .int (nI part))], [.int (nI (max (Nat.gcd (F x y) (F y x)) 1)), .int (nI (F y x))], (CH p_size p_outs p_rule p_filled p_rankings p_counts p_draw p_fors k_size k_outs k_rule k_filled k_rankings k_counts k_draw k_fors d_size d_outs d_rule d_filled d_rankings d_counts d_draw d_fors (nI n) (nI s) (nI m) w_steps w_fors w_draw w_links w_best w_beaters w_distances w_route t_bytes t_length t_next t_ranking t_count l_cells l_sizes s_bytes s_length keeps))) rfl ?_
        have er_95 : nI (max (Nat.gcd (F x y) (F y x)) 1) = nI (Nat.gcd (F x y) (F y x)) := congrArg nI (by omega)
        rw [er_95]
        refine e_gd (c := ¬ (nI (Nat.gcd (F x y) (F y x))) = 0) rfl (by exact fun q => absurd ((z0_eq (by omega)).mp q) (by omega)) ?_
        refine e_steps 0 (σ' := (99, [(7, .int (nI (Nat.gcd (F x y) (F y x)))), (6, .int (nI (F y x))), (5, .int (nI (F x y))), (4, .int (nI y)), (3, .int (nI x)), (0, .ref 16), (1, .int (nI ix)), (2, .int (nI part))], [.int (((nI (F y x)) / (nI (Nat.gcd (F x y) (F y x)))))], (CH p_size p_outs p_rule p_filled p_rankings p_counts p_draw p_fors k_size k_outs k_rule k_filled k_rankings k_counts k_draw k_fors d_size d_outs d_rule d_filled d_rankings d_counts d_draw d_fors (nI n) (nI s) (nI m) w_steps w_fors w_draw w_links w_best w_beaters w_distances w_route t_bytes t_length t_next t_ranking t_count l_cells l_sizes s_bytes s_length keeps))) rfl ?_
        have er_98 : ((nI (F y x)) / (nI (Nat.gcd (F x y) (F y x)))) = nI (F y x / Nat.gcd (F x y) (F y x)) := pk_div (by omega) (by omega) (by omega)
        rw [er_98]
        refine e_i2l rfl (by first | (have := Nat.div_le_self (F x y) (Nat.gcd (F x y) (F y x)); omega) | (have := Nat.div_le_self (F y x) (Nat.gcd (F x y) (F y x)); omega) | omega) ?_
        refine e_steps 0 (σ' := (100, [(7, .int (nI (Nat.gcd (F x y) (F y x)))), (6, .int (nI (F y x))), (5, .int (nI (F x y))), (4, .int (nI y)), (3, .int (nI x)), (0, .ref 16), (1, .int (nI ix)), (2, .int (nI part))], [.long (lN (F y x / Nat.gcd (F x y) (F y x)))], (CH p_size p_outs p_rule p_filled p_rankings p_counts p_draw p_fors k_size k_outs k_rule k_filled k_rankings k_counts k_draw k_fors d_size d_outs d_rule d_filled d_rankings d_counts d_draw d_fors (nI n) (nI s) (nI m) w_steps w_fors w_draw w_links w_best w_beaters w_distances w_route t_bytes t_length t_next t_ranking t_count l_cells l_sizes s_bytes s_length keeps))) rfl ?_
        exact e_ret rfl (trivial) (hR _ _ ⟨(by unfold z_td; simp [*]; done), rfl⟩)
      · skip
        rw [z0_ne (by omega)] at c_82
        replace c_82 := Decidable.not_not.mp c_82
        refine e_steps 4 (σ' := (95, [(7, .int (nI (Nat.gcd (F x y) (F y x)))), (6, .int (nI (F y x))), (5, .int (nI (F x y))), (4, .int (nI y)), (3, .int (nI x)), (0, .ref 16), (1, .int (nI ix)), (2, .int (nI part))], [.int (nI 1), .int (nI (Nat.gcd (F x y) (F y x))), .int (nI (F x y))], (CH p_size p_outs p_rule p_filled p_rankings p_counts p_draw p_fors k_size k_outs k_rule k_filled k_rankings k_counts k_draw k_fors d_size d_outs d_rule d_filled d_rankings d_counts d_draw d_fors (nI n) (nI s) (nI m) w_steps w_fors w_draw w_links w_best w_beaters w_distances w_route t_bytes t_length t_next t_ranking t_count l_cells l_sizes s_bytes s_length keeps))) rfl ?_
        refine e_call (y := 240) (av := [.int (nI (Nat.gcd (F x y) (F y x))), .int (nI 1)]) (rest := [.int (nI (F x y))]) rfl (c_J9_max_7cf53_N (d + 0) (by first | assumption | omega | rfl | trivial) (by first | assumption | omega | rfl | trivial)) (fun r_95 h_95 p_95 => ?_)
        obtain ⟨rfl, rfl⟩ := p_95
        refine e_steps 0 (σ' := (98, [(7, .int (nI (Nat.gcd (F x y) (F y x)))), (6, .int (nI (F y x))), (5, .int (nI (F x y))), (4, .int (nI y)), (3, .int (nI x)), (0, .ref 16), (1, .int (nI ix)), (2, .int (nI part))], [.int (nI (max (Nat.gcd (F x y) (F y x)) 1)), .int (nI (F x y))], (CH p_size p_outs p_rule p_filled p_rankings p_counts p_draw p_fors k_size k_outs k_rule k_filled k_rankings k_counts k_draw k_fors d_size d_outs d_rule d_filled d_rankings d_counts d_draw d_fors (nI n) (nI s) (nI m) w_steps w_fors w_draw w_links w_best w_beaters w_distances w_route t_bytes t_length t_next t_ranking t_count l_cells l_sizes s_bytes s_length keeps))) rfl ?_
        have er_95 : nI (max (Nat.gcd (F x y) (F y x)) 1) = nI (Nat.gcd (F x y) (F y x)) := congrArg nI (by omega)
        rw [er_95]
        refine e_gd (c := ¬ (nI (Nat.gcd (F x y) (F y x))) = 0) rfl (by exact fun q => absurd ((z0_eq (by omega)).mp q) (by omega)) ?_
        refine e_steps 0 (σ' := (99, [(7, .int (nI (Nat.gcd (F x y) (F y x)))), (6, .int (nI (F y x))), (5, .int (nI (F x y))), (4, .int (nI y)), (3, .int (nI x)), (0, .ref 16), (1, .int (nI ix)), (2, .int (nI part))], [.int (((nI (F x y)) / (nI (Nat.gcd (F x y) (F y x)))))], (CH p_size p_outs p_rule p_filled p_rankings p_counts p_draw p_fors k_size k_outs k_rule k_filled k_rankings k_counts k_draw k_fors d_size d_outs d_rule d_filled d_rankings d_counts d_draw d_fors (nI n) (nI s) (nI m) w_steps w_fors w_draw w_links w_best w_beaters w_distances w_route t_bytes t_length t_next t_ranking t_count l_cells l_sizes s_bytes s_length keeps))) rfl ?_
        have er_98 : ((nI (F x y)) / (nI (Nat.gcd (F x y) (F y x)))) = nI (F x y / Nat.gcd (F x y) (F y x)) := pk_div (by omega) (by omega) (by omega)
        rw [er_98]
        refine e_i2l rfl (by first | (have := Nat.div_le_self (F x y) (Nat.gcd (F x y) (F y x)); omega) | (have := Nat.div_le_self (F y x) (Nat.gcd (F x y) (F y x)); omega) | omega) ?_
        refine e_steps 0 (σ' := (100, [(7, .int (nI (Nat.gcd (F x y) (F y x)))), (6, .int (nI (F y x))), (5, .int (nI (F x y))), (4, .int (nI y)), (3, .int (nI x)), (0, .ref 16), (1, .int (nI ix)), (2, .int (nI part))], [.long (lN (F x y / Nat.gcd (F x y) (F y x)))], (CH p_size p_outs p_rule p_filled p_rankings p_counts p_draw p_fors k_size k_outs k_rule k_filled k_rankings k_counts k_draw k_fors d_size d_outs d_rule d_filled d_rankings d_counts d_draw d_fors (nI n) (nI s) (nI m) w_steps w_fors w_draw w_links w_best w_beaters w_distances w_route t_bytes t_length t_next t_ranking t_count l_cells l_sizes s_bytes s_length keeps))) rfl ?_
        exact e_ret rfl (trivial) (hR _ _ ⟨(by unfold z_td; simp [*]; done), rfl⟩)
    · skip
      rw [z0_ne (by omega)] at c_65
      replace c_65 := Decidable.not_not.mp c_65
      refine e_steps 4 (σ' := (82, [(7, .int (nI 1)), (6, .int (nI (F y x))), (5, .int (nI (F x y))), (4, .int (nI y)), (3, .int (nI x)), (0, .ref 16), (1, .int (nI ix)), (2, .int (nI part))], [.int (nI part)], (CH p_size p_outs p_rule p_filled p_rankings p_counts p_draw p_fors k_size k_outs k_rule k_filled k_rankings k_counts k_draw k_fors d_size d_outs d_rule d_filled d_rankings d_counts d_draw d_fors (nI n) (nI s) (nI m) w_steps w_fors w_draw w_links w_best w_beaters w_distances w_route t_bytes t_length t_next t_ranking t_count l_cells l_sizes s_bytes s_length keeps))) rfl ?_
      refine e_if (c := ¬ nI part = 0) rfl (fun c_82 => ?_) (fun c_82 => ?_)
      · skip
        rw [z0_ne (by omega)] at c_82
        skip
        refine e_steps 3 (σ' := (95, [(7, .int (nI 1)), (6, .int (nI (F y x))), (5, .int (nI (F x y))), (4, .int (nI y)), (3, .int (nI x)), (0, .ref 16), (1, .int (nI ix)), (2, .int (nI part))], [.int (nI 1), .int (nI 1), .int (nI (F y x))], (CH p_size p_outs p_rule p_filled p_rankings p_counts p_draw p_fors k_size k_outs k_rule k_filled k_rankings k_counts k_draw k_fors d_size d_outs d_rule d_filled d_rankings d_counts d_draw d_fors (nI n) (nI s) (nI m) w_steps w_fors w_draw w_links w_best w_beaters w_distances w_route t_bytes t_length t_next t_ranking t_count l_cells l_sizes s_bytes s_length keeps))) rfl ?_
        refine e_call (y := 240) (av := [.int (nI 1), .int (nI 1)]) (rest := [.int (nI (F y x))]) rfl (c_J9_max_7cf53_N (d + 0) (by first | assumption | omega | rfl | trivial) (by first | assumption | omega | rfl | trivial)) (fun r_95 h_95 p_95 => ?_)
        obtain ⟨rfl, rfl⟩ := p_95
        refine e_steps 0 (σ' := (98, [(7, .int (nI 1)), (6, .int (nI (F y x))), (5, .int (nI (F x y))), (4, .int (nI y)), (3, .int (nI x)), (0, .ref 16), (1, .int (nI ix)), (2, .int (nI part))], [.int (nI (max 1 1)), .int (nI (F y x))], (CH p_size p_outs p_rule p_filled p_rankings p_counts p_draw p_fors k_size k_outs k_rule k_filled k_rankings k_counts k_draw k_fors d_size d_outs d_rule d_filled d_rankings d_counts d_draw d_fors (nI n) (nI s) (nI m) w_steps w_fors w_draw w_links w_best w_beaters w_distances w_route t_bytes t_length t_next t_ranking t_count l_cells l_sizes s_bytes s_length keeps))) rfl ?_
        have er_95 : nI (max 1 1) = nI 1 := congrArg nI (by omega)
        rw [er_95]
        refine e_gd (c := ¬ (nI 1) = 0) rfl (by exact fun q => absurd ((z0_eq (by omega)).mp q) (by omega)) ?_
        refine e_steps 0 (σ' := (99, [(7, .int (nI 1)), (6, .int (nI (F y x))), (5, .int (nI (F x y))), (4, .int (nI y)), (3, .int (nI x)), (0, .ref 16), (1, .int (nI ix)), (2, .int (nI part))], [.int (((nI (F y x)) / (nI 1)))], (CH p_size p_outs p_rule p_filled p_rankings p_counts p_draw p_fors k_size k_outs k_rule k_filled k_rankings k_counts k_draw k_fors d_size d_outs d_rule d_filled d_rankings d_counts d_draw d_fors (nI n) (nI s) (nI m) w_steps w_fors w_draw w_links w_best w_beaters w_distances w_route t_bytes t_length t_next t_ranking t_count l_cells l_sizes s_bytes s_length keeps))) rfl ?_
        have er_98 : ((nI (F y x)) / (nI 1)) = nI (F y x / 1) := pk_div (by omega) (by omega) (by omega)
        rw [er_98]
        refine e_i2l rfl (by first | (have := Nat.div_le_self (F x y) (Nat.gcd (F x y) (F y x)); omega) | (have := Nat.div_le_self (F y x) (Nat.gcd (F x y) (F y x)); omega) | omega) ?_
        refine e_steps 0 (σ' := (100, [(7, .int (nI 1)), (6, .int (nI (F y x))), (5, .int (nI (F x y))), (4, .int (nI y)), (3, .int (nI x)), (0, .ref 16), (1, .int (nI ix)), (2, .int (nI part))], [.long (lN (F y x / 1))], (CH p_size p_outs p_rule p_filled p_rankings p_counts p_draw p_fors k_size k_outs k_rule k_filled k_rankings k_counts k_draw k_fors d_size d_outs d_rule d_filled d_rankings d_counts d_draw d_fors (nI n) (nI s) (nI m) w_steps w_fors w_draw w_links w_best w_beaters w_distances w_route t_bytes t_length t_next t_ranking t_count l_cells l_sizes s_bytes s_length keeps))) rfl ?_
        exact e_ret rfl (trivial) (hR _ _ ⟨(by unfold z_td; simp [*]; done), rfl⟩)
      · skip
        rw [z0_ne (by omega)] at c_82
        replace c_82 := Decidable.not_not.mp c_82
        refine e_steps 4 (σ' := (95, [(7, .int (nI 1)), (6, .int (nI (F y x))), (5, .int (nI (F x y))), (4, .int (nI y)), (3, .int (nI x)), (0, .ref 16), (1, .int (nI ix)), (2, .int (nI part))], [.int (nI 1), .int (nI 1), .int (nI (F x y))], (CH p_size p_outs p_rule p_filled p_rankings p_counts p_draw p_fors k_size k_outs k_rule k_filled k_rankings k_counts k_draw k_fors d_size d_outs d_rule d_filled d_rankings d_counts d_draw d_fors (nI n) (nI s) (nI m) w_steps w_fors w_draw w_links w_best w_beaters w_distances w_route t_bytes t_length t_next t_ranking t_count l_cells l_sizes s_bytes s_length keeps))) rfl ?_
        refine e_call (y := 240) (av := [.int (nI 1), .int (nI 1)]) (rest := [.int (nI (F x y))]) rfl (c_J9_max_7cf53_N (d + 0) (by first | assumption | omega | rfl | trivial) (by first | assumption | omega | rfl | trivial)) (fun r_95 h_95 p_95 => ?_)
        obtain ⟨rfl, rfl⟩ := p_95
        refine e_steps 0 (σ' := (98, [(7, .int (nI 1)), (6, .int (nI (F y x))), (5, .int (nI (F x y))), (4, .int (nI y)), (3, .int (nI x)), (0, .ref 16), (1, .int (nI ix)), (2, .int (nI part))], [.int (nI (max 1 1)), .int (nI (F x y))], (CH p_size p_outs p_rule p_filled p_rankings p_counts p_draw p_fors k_size k_outs k_rule k_filled k_rankings k_counts k_draw k_fors d_size d_outs d_rule d_filled d_rankings d_counts d_draw d_fors (nI n) (nI s) (nI m) w_steps w_fors w_draw w_links w_best w_beaters w_distances w_route t_bytes t_length t_next t_ranking t_count l_cells l_sizes s_bytes s_length keeps))) rfl ?_
        have er_95 : nI (max 1 1) = nI 1 := congrArg nI (by omega)
        rw [er_95]
        refine e_gd (c := ¬ (nI 1) = 0) rfl (by exact fun q => absurd ((z0_eq (by omega)).mp q) (by omega)) ?_
        refine e_steps 0 (σ' := (99, [(7, .int (nI 1)), (6, .int (nI (F y x))), (5, .int (nI (F x y))), (4, .int (nI y)), (3, .int (nI x)), (0, .ref 16), (1, .int (nI ix)), (2, .int (nI part))], [.int (((nI (F x y)) / (nI 1)))], (CH p_size p_outs p_rule p_filled p_rankings p_counts p_draw p_fors k_size k_outs k_rule k_filled k_rankings k_counts k_draw k_fors d_size d_outs d_rule d_filled d_rankings d_counts d_draw d_fors (nI n) (nI s) (nI m) w_steps w_fors w_draw w_links w_best w_beaters w_distances w_route t_bytes t_length t_next t_ranking t_count l_cells l_sizes s_bytes s_length keeps))) rfl ?_
        have er_98 : ((nI (F x y)) / (nI 1)) = nI (F x y / 1) := pk_div (by omega) (by omega) (by omega)
        rw [er_98]
        refine e_i2l rfl (by first | (have := Nat.div_le_self (F x y) (Nat.gcd (F x y) (F y x)); omega) | (have := Nat.div_le_self (F y x) (Nat.gcd (F x y) (F y x)); omega) | omega) ?_
        refine e_steps 0 (σ' := (100, [(7, .int (nI 1)), (6, .int (nI (F y x))), (5, .int (nI (F x y))), (4, .int (nI y)), (3, .int (nI x)), (0, .ref 16), (1, .int (nI ix)), (2, .int (nI part))], [.long (lN (F x y / 1))], (CH p_size p_outs p_rule p_filled p_rankings p_counts p_draw p_fors k_size k_outs k_rule k_filled k_rankings k_counts k_draw k_fors d_size d_outs d_rule d_filled d_rankings d_counts d_draw d_fors (nI n) (nI s) (nI m) w_steps w_fors w_draw w_links w_best w_beaters w_distances w_route t_bytes t_length t_next t_ranking t_count l_cells l_sizes s_bytes s_length keeps))) rfl ?_
        exact e_ret rfl (trivial) (hR _ _ ⟨(by unfold z_td; simp [*]; done), rfl⟩)
theorem c_X4_nextStep (d : Nat) {p_size : Int32} {p_outs : Int32} {p_rule : Int32} {p_filled : Int32} {p_rankings : Nat → Int32} {p_counts : Nat → Int32} {p_draw : Nat → Int32} {p_fors : Nat → Int32} {k_size : Int32} {k_outs : Int32} {k_rule : Int32} {k_filled : Int32} {k_rankings : Nat → Int32} {k_counts : Nat → Int32} {k_draw : Nat → Int32} {k_fors : Nat → Int32} {d_size : Int32} {d_outs : Int32} {d_rule : Int32} {d_filled : Int32} {d_rankings : Nat → Int32} {d_counts : Nat → Int32} {d_draw : Nat → Int32} {d_fors : Nat → Int32} {n : Nat} {s : Nat} {m : Nat} {w_steps : Int32} {w_fors : Nat → Int32} {w_draw : Nat → Int32} {w_links : Nat → Int64} {w_best : Nat → Int64} {w_beaters : Nat → Int32} {w_distances : Nat → Int32} {w_route : Nat → Int32} {t_bytes : Nat → Int32} {t_length : Int32} {t_next : Int32} {t_ranking : Int32} {t_count : Int32} {l_cells : Nat → Int64} {l_sizes : Nat → Int32} {s_bytes : Nat → Int32} {s_length : Int32} {keeps : Int32} {c : Nat} {far : Nat} {t : Nat} {F : Nat → Nat → Nat} {K : Nat → Nat → Nat} {E : Nat → Nat} (hn2 : 2 ≤ n) (hn8 : n ≤ 8) (hs2 : s < 2 ^ n) (hm : m < 4) (hW : z_CW m s F n w_links w_best w_beaters K) (hDs : ∀ c, c < n → w_distances c = nI (z_f99 (E c)) ∧ E c ≤ 8) (hc : c < n) (hf : far < 99) (ht : t < 2 ^ 53) : z_CAL (d + 3) 63 [.ref 16, .int (nI c), .int (nI far), .long (lN t)] (CH p_size p_outs p_rule p_filled p_rankings p_counts p_draw p_fors k_size k_outs k_rule k_filled k_rankings k_counts k_draw k_fors d_size d_outs d_rule d_filled d_rankings d_counts d_draw d_fors (nI n) (nI s) (nI m) w_steps w_fors w_draw w_links w_best w_beaters w_distances w_route t_bytes t_length t_next t_ranking t_count l_cells l_sizes s_bytes s_length keeps) (fun r h2 => h2 = (CH p_size p_outs p_rule p_filled p_rankings p_counts p_draw p_fors k_size k_outs k_rule k_filled k_rankings k_counts k_draw k_fors d_size d_outs d_rule d_filled d_rankings d_counts d_draw d_fors (nI n) (nI s) (nI m) w_steps w_fors w_draw w_links w_best w_beaters w_distances w_route t_bytes t_length t_next t_ranking t_count l_cells l_sizes s_bytes s_length keeps) ∧ ((∃ (x : Nat), r = some (.int (nI x)) ∧ (x < n ∧ (z_f99 (E x) = far ∧ t ≤ z_LS m s F c x) ∧ ∀ y, y < x → ¬ (z_f99 (E y) = far ∧ t ≤ z_LS m s F c y))) ∨ (r = some (.int ((-nI 1))) ∧ (∀ y, y < n → ¬ (z_f99 (E y) = far ∧ t ≤ z_LS m s F c y))))) := by
  refine e_of2 (q := zmX4_nextStep) rfl rfl (fun R hR => ?_)
  have hp8 := z_p2 hn8; have hs : s < 256 := (by omega)
  refine e_steps 2 (σ' := (3, [(5, .int (nI 0)), (0, .ref 16), (1, .int (nI c)), (2, .int (nI far)), (3, .long (lN t))], [], (CH p_size p_outs p_rule p_filled p_rankings p_counts p_draw p_fors k_size k_outs k_rule k_filled k_rankings k_counts k_draw k_fors d_size d_outs d_rule d_filled d_rankings d_counts d_draw d_fors (nI n) (nI s) (nI m) w_steps w_fors w_draw w_links w_best w_beaters w_distances w_route t_bytes t_length t_next t_ranking t_count l_cells l_sizes s_bytes s_length keeps))) rfl ?_
  have loop_3 : ∀ (z_3 : Nat) (nx : Nat), n - nx < z_3 → (nx ≤ n ∧ ∀ y, y < nx → ¬ (z_f99 (E y) = far ∧ t ≤ z_LS m s F c y)) → z_EV (d + 2) zmX4_nextStep R (3, [(0, .ref 16), (1, .int (nI c)), (2, .int (nI far)), (3, .long (lN t)), (5, .int (nI nx))], [], (CH p_size p_outs p_rule p_filled p_rankings p_counts p_draw p_fors k_size k_outs k_rule k_filled k_rankings k_counts k_draw k_fors d_size d_outs d_rule d_filled d_rankings d_counts d_draw d_fors (nI n) (nI s) (nI m) w_steps w_fors w_draw w_links w_best w_beaters w_distances w_route t_bytes t_length t_next t_ranking t_count l_cells l_sizes s_bytes s_length keeps)) := by
    intro z_3
    induction z_3 with
    | zero => intro nx hm_3 _; exact absurd hm_3 (Nat.not_lt_zero _)
    | succ z_3 ih_3 =>
      intro nx hm_3 hi_3
      obtain ⟨l1, l2⟩ := hi_3
      refine e_steps 3 (σ' := (9, [(0, .ref 16), (1, .int (nI c)), (2, .int (nI far)), (3, .long (lN t)), (5, .int (nI nx))], [.int (nI n), .int (nI nx)], (CH p_size p_outs p_rule p_filled p_rankings p_counts p_draw p_fors k_size k_outs k_rule k_filled k_rankings k_counts k_draw k_fors d_size d_outs d_rule d_filled d_rankings d_counts d_draw d_fors (nI n) (nI s) (nI m) w_steps w_fors w_draw w_links w_best w_beaters w_distances w_route t_bytes t_length t_next t_ranking t_count l_cells l_sizes s_bytes s_length keeps))) rfl ?_
      refine e_if (c := nI n ≤ nI nx) rfl (fun c_9 => ?_) (fun c_9 => ?_)
      · skip
        rw [nI_leI (by omega) (by omega)] at c_9
        refine e_steps 1 (σ' := (45, [(0, .ref 16), (1, .int (nI c)), (2, .int (nI far)), (3, .long (lN t)), (5, .int (nI nx))], [.int ((-nI 1))], (CH p_size p_outs p_rule p_filled p_rankings p_counts p_draw p_fors k_size k_outs k_rule k_filled k_rankings k_counts k_draw k_fors d_size d_outs d_rule d_filled d_rankings d_counts d_draw d_fors (nI n) (nI s) (nI m) w_steps w_fors w_draw w_links w_best w_beaters w_distances w_route t_bytes t_length t_next t_ranking t_count l_cells l_sizes s_bytes s_length keeps))) rfl ?_
        exact e_ret rfl (trivial) (hR _ _ ⟨rfl, (by first | exact Or.inl ⟨nx, rfl, by omega, ⟨by assumption, by omega⟩, l2⟩ | exact Or.inr ⟨rfl, fun y hy => l2 y (by omega)⟩)⟩)
      · skip
        rw [nI_leI (by omega) (by omega)] at c_9
        refine e_steps 3 (σ' := (18, [(0, .ref 16), (1, .int (nI c)), (2, .int (nI far)), (3, .long (lN t)), (5, .int (nI nx))], [.int (nI nx), .ref 22], (CH p_size p_outs p_rule p_filled p_rankings p_counts p_draw p_fors k_size k_outs k_rule k_filled k_rankings k_counts k_draw k_fors d_size d_outs d_rule d_filled d_rankings d_counts d_draw d_fors (nI n) (nI s) (nI m) w_steps w_fors w_draw w_links w_best w_beaters w_distances w_route t_bytes t_length t_next t_ranking t_count l_cells l_sizes s_bytes s_length keeps))) rfl ?_
        refine e_ial (nI (z_f99 (E nx))) rfl rfl (by first | assumption | omega | rfl | trivial) (by decide) ((hDs _ (by omega)).1) ?_
        have hv_18 := (hDs nx (by omega)).2
        have hw_18 := z_f99_lt hv_18
        refine e_steps 1 (σ' := (20, [(0, .ref 16), (1, .int (nI c)), (2, .int (nI far)), (3, .long (lN t)), (5, .int (nI nx))], [.int (nI far), .int (nI (z_f99 (E nx)))], (CH p_size p_outs p_rule p_filled p_rankings p_counts p_draw p_fors k_size k_outs k_rule k_filled k_rankings k_counts k_draw k_fors d_size d_outs d_rule d_filled d_rankings d_counts d_draw d_fors (nI n) (nI s) (nI m) w_steps w_fors w_draw w_links w_best w_beaters w_distances w_route t_bytes t_length t_next t_ranking t_count l_cells l_sizes s_bytes s_length keeps))) rfl ?_
        refine e_if (c := ¬ nI (z_f99 (E nx)) = nI far) rfl (fun c_20 => ?_) (fun c_20 => ?_)
        · skip
          rw [nI_eq (by omega) (by omega)] at c_20
          skip
          refine e_steps 0 (σ' := (38, [(0, .ref 16), (1, .int (nI c)), (2, .int (nI far)), (3, .long (lN t)), (5, .int (nI nx))], [], (CH p_size p_outs p_rule p_filled p_rankings p_counts p_draw p_fors k_size k_outs k_rule k_filled k_rankings k_counts k_draw k_fors d_size d_outs d_rule d_filled d_rankings d_counts d_draw d_fors (nI n) (nI s) (nI m) w_steps w_fors w_draw w_links w_best w_beaters w_distances w_route t_bytes t_length t_next t_ranking t_count l_cells l_sizes s_bytes s_length keeps))) rfl ?_
          refine e_inc (n := 1) rfl rfl rfl (nx + 1) (by rfl) [(5, .int (nI (nx + 1))), (0, .ref 16), (1, .int (nI c)), (2, .int (nI far)), (3, .long (lN t))] rfl ?_
          refine e_steps 1 (σ' := (3, [(5, .int (nI (nx + 1))), (0, .ref 16), (1, .int (nI c)), (2, .int (nI far)), (3, .long (lN t))], [], (CH p_size p_outs p_rule p_filled p_rankings p_counts p_draw p_fors k_size k_outs k_rule k_filled k_rankings k_counts k_draw k_fors d_size d_outs d_rule d_filled d_rankings d_counts d_draw d_fors (nI n) (nI s) (nI m) w_steps w_fors w_draw w_links w_best w_beaters w_distances w_route t_bytes t_length t_next t_ranking t_count l_cells l_sizes s_bytes s_length keeps))) rfl ?_
          refine e_sub [1, 2, 3, 4, 0] rfl ?_
          exact ih_3 (nx + 1) (by omega) (by exact ⟨by omega, fun y hy => by rcases (by omega : y < nx ∨ y = nx) with e | e; exact l2 y e; (rw [e]; exact fun q => by have q1 := q.1; have q2 := q.2; omega)⟩)
        · skip
          rw [nI_eq (by omega) (by omega)] at c_20
          replace c_20 := Decidable.not_not.mp c_20
          refine e_steps 3 (σ' := (27, [(0, .ref 16), (1, .int (nI c)), (2, .int (nI far)), (3, .long (lN t)), (5, .int (nI nx))], [.int (nI nx), .int (nI c), .ref 16], (CH p_size p_outs p_rule p_filled p_rankings p_counts p_draw p_fors k_size k_outs k_rule k_filled k_rankings k_counts k_draw k_fors d_size d_outs d_rule d_filled d_rankings d_counts d_draw d_fors (nI n) (nI s) (nI m) w_steps w_fors w_draw w_links w_best w_beaters w_distances w_route t_bytes t_length t_next t_ranking t_count l_cells l_sizes s_bytes s_length keeps))) rfl ?_
          refine e_call (y := 55) (av := [.ref 16, .int (nI c), .int (nI nx)]) (rest := []) rfl (c_X4_linkStrength (d + 0) (n := n) (s := s) (m := m) (F := F) (K := K) (by first | assumption | omega | rfl | trivial) (by first | assumption | omega | rfl | trivial) (by first | assumption | omega | rfl | trivial) (by first | assumption | omega | rfl | trivial) (by first | assumption | omega | rfl | trivial) (by first | assumption | omega | rfl | trivial) (by first | assumption | omega | rfl | trivial)) (fun r_27 h_27 p_27 => ?_)
          obtain ⟨rfl, rfl⟩ := p_27
          have hLb := (hW.2.1 c hc nx (by omega)).2
          refine e_steps 2 (σ' := (32, [(0, .ref 16), (1, .int (nI c)), (2, .int (nI far)), (3, .long (lN t)), (5, .int (nI nx))], [.int ((lg_cmp (lN (z_LS m s F c nx)) (lN t)))], (CH p_size p_outs p_rule p_filled p_rankings p_counts p_draw p_fors k_size k_outs k_rule k_filled k_rankings k_counts k_draw k_fors d_size d_outs d_rule d_filled d_rankings d_counts d_draw d_fors (nI n) (nI s) (nI m) w_steps w_fors w_draw w_links w_best w_beaters w_distances w_route t_bytes t_length t_next t_ranking t_count l_cells l_sizes s_bytes s_length keeps))) rfl ?_
          refine e_if (c := lg_cmp (lN (z_LS m s F c nx)) (lN t) < 0) rfl (fun c_31 => ?_) (fun c_31 => ?_)
          · rw [lg_cmp_lt] at c_31
            rw [pk_lLT (by omega) (by omega)] at c_31
            refine e_steps 0 (σ' := (38, [(0, .ref 16), (1, .int (nI c)), (2, .int (nI far)), (3, .long (lN t)), (5, .int (nI nx))], [], (CH p_size p_outs p_rule p_filled p_rankings p_counts p_draw p_fors k_size k_outs k_rule k_filled k_rankings k_counts k_draw k_fors d_size d_outs d_rule d_filled d_rankings d_counts d_draw d_fors (nI n) (nI s) (nI m) w_steps w_fors w_draw w_links w_best w_beaters w_distances w_route t_bytes t_length t_next t_ranking t_count l_cells l_sizes s_bytes s_length keeps))) rfl ?_
            refine e_inc (n := 1) rfl rfl rfl (nx + 1) (by rfl) [(5, .int (nI (nx + 1))), (0, .ref 16), (1, .int (nI c)), (2, .int (nI far)), (3, .long (lN t))] rfl ?_
            refine e_steps 1 (σ' := (3, [(5, .int (nI (nx + 1))), (0, .ref 16), (1, .int (nI c)), (2, .int (nI far)), (3, .long (lN t))], [], (CH p_size p_outs p_rule p_filled p_rankings p_counts p_draw p_fors k_size k_outs k_rule k_filled k_rankings k_counts k_draw k_fors d_size d_outs d_rule d_filled d_rankings d_counts d_draw d_fors (nI n) (nI s) (nI m) w_steps w_fors w_draw w_links w_best w_beaters w_distances w_route t_bytes t_length t_next t_ranking t_count l_cells l_sizes s_bytes s_length keeps))) rfl ?_
            refine e_sub [1, 2, 3, 4, 0] rfl ?_
            exact ih_3 (nx + 1) (by omega) (by exact ⟨by omega, fun y hy => by rcases (by omega : y < nx ∨ y = nx) with e | e; exact l2 y e; (rw [e]; exact fun q => by have q1 := q.1; have q2 := q.2; omega)⟩)
          · rw [lg_cmp_lt] at c_31
            rw [pk_lLT (by omega) (by omega)] at c_31
            refine e_steps 1 (σ' := (37, [(0, .ref 16), (1, .int (nI c)), (2, .int (nI far)), (3, .long (lN t)), (5, .int (nI nx))], [.int (nI nx)], (CH p_size p_outs p_rule p_filled p_rankings p_counts p_draw p_fors k_size k_outs k_rule k_filled k_rankings k_counts k_draw k_fors d_size d_outs d_rule d_filled d_rankings d_counts d_draw d_fors (nI n) (nI s) (nI m) w_steps w_fors w_draw w_links w_best w_beaters w_distances w_route t_bytes t_length t_next t_ranking t_count l_cells l_sizes s_bytes s_length keeps))) rfl ?_
            exact e_ret rfl (trivial) (hR _ _ ⟨rfl, (by first | exact Or.inl ⟨nx, rfl, by omega, ⟨by assumption, by omega⟩, l2⟩ | exact Or.inr ⟨rfl, fun y hy => l2 y (by omega)⟩)⟩)
  refine e_sub [1, 2, 3, 4, 0] rfl ?_
  exact loop_3 _ 0 (Nat.lt_succ_self _) (by exact ⟨by omega, fun y hy => absurd hy (Nat.not_lt_zero y)⟩)
theorem c_X4_tellDistances (d : Nat) {p_size : Int32} {p_outs : Int32} {p_rule : Int32} {p_filled : Int32} {p_rankings : Nat → Int32} {p_counts : Nat → Int32} {p_draw : Nat → Int32} {p_fors : Nat → Int32} {k_size : Int32} {k_outs : Int32} {k_rule : Int32} {k_filled : Int32} {k_rankings : Nat → Int32} {k_counts : Nat → Int32} {k_draw : Nat → Int32} {k_fors : Nat → Int32} {d_size : Int32} {d_outs : Int32} {d_rule : Int32} {d_filled : Int32} {d_rankings : Nat → Int32} {d_counts : Nat → Int32} {d_draw : Nat → Int32} {d_fors : Nat → Int32} {n : Nat} {s : Nat} {m : Nat} {w_steps : Int32} {w_fors : Nat → Int32} {w_draw : Nat → Int32} {w_links : Nat → Int64} {w_best : Nat → Int64} {w_beaters : Nat → Int32} {w_distances : Nat → Int32} {w_route : Nat → Int32} {t_bytes : Nat → Int32} {t_length : Int32} {t_next : Int32} {t_ranking : Int32} {t_count : Int32} {l_cells : Nat → Int64} {l_sizes : Nat → Int32} {s_bytes : Nat → Int32} {s_length : Int32} {keeps : Int32} {j : Nat} {t : Nat} {F : Nat → Nat → Nat} {K : Nat → Nat → Nat} (hn2 : 2 ≤ n) (hn8 : n ≤ 8) (hs2 : s < 2 ^ n) (hm : m < 4) (hW : z_CW m s F n w_links w_best w_beaters K) (hj : j < n) (ht : t < 2 ^ 53) : z_CAL (d + 4) 62 [.ref 16, .int (nI j), .long (lN t)] (CH p_size p_outs p_rule p_filled p_rankings p_counts p_draw p_fors k_size k_outs k_rule k_filled k_rankings k_counts k_draw k_fors d_size d_outs d_rule d_filled d_rankings d_counts d_draw d_fors (nI n) (nI s) (nI m) w_steps w_fors w_draw w_links w_best w_beaters w_distances w_route t_bytes t_length t_next t_ranking t_count l_cells l_sizes s_bytes s_length keeps) (fun r h2 => ∃ (d2 : Nat → Int32), r = none ∧ h2 = (CH p_size p_outs p_rule p_filled p_rankings p_counts p_draw p_fors k_size k_outs k_rule k_filled k_rankings k_counts k_draw k_fors d_size d_outs d_rule d_filled d_rankings d_counts d_draw d_fors (nI n) (nI s) (nI m) w_steps w_fors w_draw w_links w_best w_beaters d2 w_route t_bytes t_length t_next t_ranking t_count l_cells l_sizes s_bytes s_length keeps) ∧ (∃ D, (∀ c, c < n → d2 c = nI (z_f99 (D c)) ∧ D c ≤ 8) ∧ z_DS (z_LS m s F) n t j D)) := by
  refine e_of2 (q := zmX4_tellDistances) rfl rfl (fun R hR => ?_)
  have hp8 := z_p2 hn8; have hs : s < 256 := (by omega)
  refine e_steps 2 (σ' := (3, [(4, .int (nI 0)), (0, .ref 16), (1, .int (nI j)), (2, .long (lN t))], [], (CH p_size p_outs p_rule p_filled p_rankings p_counts p_draw p_fors k_size k_outs k_rule k_filled k_rankings k_counts k_draw k_fors d_size d_outs d_rule d_filled d_rankings d_counts d_draw d_fors (nI n) (nI s) (nI m) w_steps w_fors w_draw w_links w_best w_beaters w_distances w_route t_bytes t_length t_next t_ranking t_count l_cells l_sizes s_bytes s_length keeps))) rfl ?_
  have loop_3 : ∀ (z_3 : Nat) (c0 : Nat) (dl : Nat → Int32), n - c0 < z_3 → (c0 ≤ n ∧ ∀ c, c < c0 → dl c = nI (z_f99 (if c = j then 0 else 8))) → z_EV (d + 3) zmX4_tellDistances R (3, [(0, .ref 16), (1, .int (nI j)), (2, .long (lN t)), (4, .int (nI c0))], [], (CH p_size p_outs p_rule p_filled p_rankings p_counts p_draw p_fors k_size k_outs k_rule k_filled k_rankings k_counts k_draw k_fors d_size d_outs d_rule d_filled d_rankings d_counts d_draw d_fors (nI n) (nI s) (nI m) w_steps w_fors w_draw w_links w_best w_beaters dl w_route t_bytes t_length t_next t_ranking t_count l_cells l_sizes s_bytes s_length keeps)) := by
    intro z_3
    induction z_3 with
    | zero => intro c0 dl hm_3 _; exact absurd hm_3 (Nat.not_lt_zero _)
    | succ z_3 ih_3 =>
      intro c0 dl hm_3 hi_3
      obtain ⟨l1, l2⟩ := hi_3
      refine e_steps 3 (σ' := (9, [(0, .ref 16), (1, .int (nI j)), (2, .long (lN t)), (4, .int (nI c0))], [.int (nI n), .int (nI c0)], (CH p_size p_outs p_rule p_filled p_rankings p_counts p_draw p_fors k_size k_outs k_rule k_filled k_rankings k_counts k_draw k_fors d_size d_outs d_rule d_filled d_rankings d_counts d_draw d_fors (nI n) (nI s) (nI m) w_steps w_fors w_draw w_links w_best w_beaters dl w_route t_bytes t_length t_next t_ranking t_count l_cells l_sizes s_bytes s_length keeps))) rfl ?_
      refine e_if (c := nI n ≤ nI c0) rfl (fun c_9 => ?_) (fun c_9 => ?_)
      · skip
        rw [nI_leI (by omega) (by omega)] at c_9
        refine e_steps 2 (σ' := (40, [(4, .int (nI 1)), (0, .ref 16), (1, .int (nI j)), (2, .long (lN t))], [], (CH p_size p_outs p_rule p_filled p_rankings p_counts p_draw p_fors k_size k_outs k_rule k_filled k_rankings k_counts k_draw k_fors d_size d_outs d_rule d_filled d_rankings d_counts d_draw d_fors (nI n) (nI s) (nI m) w_steps w_fors w_draw w_links w_best w_beaters dl w_route t_bytes t_length t_next t_ranking t_count l_cells l_sizes s_bytes s_length keeps))) rfl ?_
        have loop_40 : ∀ (z_40 : Nat) (far : Nat) (d0 : Nat → Int32) (D0 : Nat → Nat), n - far < z_40 → (1 ≤ far ∧ far ≤ n ∧ (∀ c, c < n → d0 c = nI (z_f99 (D0 c)) ∧ D0 c ≤ 8) ∧ z_DSf (z_LS m s F) n t j far D0) → z_EV (d + 3) zmX4_tellDistances R (40, [(0, .ref 16), (1, .int (nI j)), (2, .long (lN t)), (4, .int (nI far))], [], (CH p_size p_outs p_rule p_filled p_rankings p_counts p_draw p_fors k_size k_outs k_rule k_filled k_rankings k_counts k_draw k_fors d_size d_outs d_rule d_filled d_rankings d_counts d_draw d_fors (nI n) (nI s) (nI m) w_steps w_fors w_draw w_links w_best w_beaters d0 w_route t_bytes t_length t_next t_ranking t_count l_cells l_sizes s_bytes s_length keeps)) := by
          intro z_40
          induction z_40 with
          | zero => intro far d0 D0 hm_40 _; exact absurd hm_40 (Nat.not_lt_zero _)
          | succ z_40 ih_40 =>
            intro far d0 D0 hm_40 hi_40
            obtain ⟨m1, m2, m3, m4⟩ := hi_40
            refine e_steps 3 (σ' := (46, [(0, .ref 16), (1, .int (nI j)), (2, .long (lN t)), (4, .int (nI far))], [.int (nI n), .int (nI far)], (CH p_size p_outs p_rule p_filled p_rankings p_counts p_draw p_fors k_size k_outs k_rule k_filled k_rankings k_counts k_draw k_fors d_size d_outs d_rule d_filled d_rankings d_counts d_draw d_fors (nI n) (nI s) (nI m) w_steps w_fors w_draw w_links w_best w_beaters d0 w_route t_bytes t_length t_next t_ranking t_count l_cells l_sizes s_bytes s_length keeps))) rfl ?_
            refine e_if (c := nI n ≤ nI far) rfl (fun c_46 => ?_) (fun c_46 => ?_)
            · skip
              rw [nI_leI (by omega) (by omega)] at c_46
              refine e_steps 0 (σ' := (109, [(0, .ref 16), (1, .int (nI j)), (2, .long (lN t)), (4, .int (nI far))], [], (CH p_size p_outs p_rule p_filled p_rankings p_counts p_draw p_fors k_size k_outs k_rule k_filled k_rankings k_counts k_draw k_fors d_size d_outs d_rule d_filled d_rankings d_counts d_draw d_fors (nI n) (nI s) (nI m) w_steps w_fors w_draw w_links w_best w_beaters d0 w_route t_bytes t_length t_next t_ranking t_count l_cells l_sizes s_bytes s_length keeps))) rfl ?_
              exact e_ret rfl (trivial) (hR _ _ ⟨d0, rfl, rfl, (by exact ⟨D0, m3, z_DSf_n (by omega) hn8 (by rw [show far = n by omega] at m4; exact m4)⟩)⟩)
            · skip
              rw [nI_leI (by omega) (by omega)] at c_46
              refine e_steps 2 (σ' := (52, [(5, .int (nI 0)), (0, .ref 16), (1, .int (nI j)), (2, .long (lN t)), (4, .int (nI far))], [], (CH p_size p_outs p_rule p_filled p_rankings p_counts p_draw p_fors k_size k_outs k_rule k_filled k_rankings k_counts k_draw k_fors d_size d_outs d_rule d_filled d_rankings d_counts d_draw d_fors (nI n) (nI s) (nI m) w_steps w_fors w_draw w_links w_best w_beaters d0 w_route t_bytes t_length t_next t_ranking t_count l_cells l_sizes s_bytes s_length keeps))) rfl ?_
              have loop_52 : ∀ (z_52 : Nat) (c : Nat) (d1 : Nat → Int32) (E : Nat → Nat), n - c < z_52 → (c ≤ n ∧ (∀ c, c < n → d1 c = nI (z_f99 (E c)) ∧ E c ≤ 8) ∧ z_DSm (z_LS m s F) n t j far c D0 E) → z_EV (d + 3) zmX4_tellDistances R (52, [(0, .ref 16), (1, .int (nI j)), (2, .long (lN t)), (4, .int (nI far)), (5, .int (nI c))], [], (CH p_size p_outs p_rule p_filled p_rankings p_counts p_draw p_fors k_size k_outs k_rule k_filled k_rankings k_counts k_draw k_fors d_size d_outs d_rule d_filled d_rankings d_counts d_draw d_fors (nI n) (nI s) (nI m) w_steps w_fors w_draw w_links w_best w_beaters d1 w_route t_bytes t_length t_next t_ranking t_count l_cells l_sizes s_bytes s_length keeps)) := by
                intro z_52
                induction z_52 with
                | zero => intro c d1 E hm_52 _; exact absurd hm_52 (Nat.not_lt_zero _)
                | succ z_52 ih_52 =>
                  intro c d1 E hm_52 hi_52
                  obtain ⟨p1, hDs, p3⟩ := hi_52
                  refine e_steps 3 (σ' := (58, [(0, .ref 16), (1, .int (nI j)), (2, .long (lN t)), (4, .int (nI far)), (5, .int (nI c))], [.int (nI n), .int (nI c)], (CH p_size p_outs p_rule p_filled p_rankings p_counts p_draw p_fors k_size k_outs k_rule k_filled k_rankings k_counts k_draw k_fors d_size d_outs d_rule d_filled d_rankings d_counts d_draw d_fors (nI n) (nI s) (nI m) w_steps w_fors w_draw w_links w_best w_beaters d1 w_route t_bytes t_length t_next t_ranking t_count l_cells l_sizes s_bytes s_length keeps))) rfl ?_
                  refine e_if (c := nI n ≤ nI c) rfl (fun c_58 => ?_) (fun c_58 => ?_)
                  · skip
                    rw [nI_leI (by omega) (by omega)] at c_58
                    refine e_steps 0 (σ' := (103, [(0, .ref 16), (1, .int (nI j)), (2, .long (lN t)), (4, .int (nI far)), (5, .int (nI c))], [], (CH p_size p_outs p_rule p_filled p_rankings p_counts p_draw p_fors k_size k_outs k_rule k_filled k_rankings k_counts k_draw k_fors d_size d_outs d_rule d_filled d_rankings d_counts d_draw d_fors (nI n) (nI s) (nI m) w_steps w_fors w_draw w_links w_best w_beaters d1 w_route t_bytes t_length t_next t_ranking t_count l_cells l_sizes s_bytes s_length keeps))) rfl ?_
                    refine e_inc (n := 1) rfl rfl rfl (far + 1) (by rfl) [(4, .int (nI (far + 1))), (0, .ref 16), (1, .int (nI j)), (2, .long (lN t)), (5, .int (nI c))] rfl ?_
                    refine e_steps 1 (σ' := (40, [(4, .int (nI (far + 1))), (0, .ref 16), (1, .int (nI j)), (2, .long (lN t)), (5, .int (nI c))], [], (CH p_size p_outs p_rule p_filled p_rankings p_counts p_draw p_fors k_size k_outs k_rule k_filled k_rankings k_counts k_draw k_fors d_size d_outs d_rule d_filled d_rankings d_counts d_draw d_fors (nI n) (nI s) (nI m) w_steps w_fors w_draw w_links w_best w_beaters d1 w_route t_bytes t_length t_next t_ranking t_count l_cells l_sizes s_bytes s_length keeps))) rfl ?_
                    refine e_sub [1, 2, 3, 0] rfl ?_
                    exact ih_40 (far + 1) d1 E (by omega) (by exact ⟨by omega, by omega, hDs, z_DSm_end m4 m1 (by omega) (by rw [show c = n by omega] at p3; exact p3)⟩)
                  · skip
                    rw [nI_leI (by omega) (by omega)] at c_58
                    refine e_steps 3 (σ' := (67, [(0, .ref 16), (1, .int (nI j)), (2, .long (lN t)), (4, .int (nI far)), (5, .int (nI c))], [.int (nI c), .ref 22], (CH p_size p_outs p_rule p_filled p_rankings p_counts p_draw p_fors k_size k_outs k_rule k_filled k_rankings k_counts k_draw k_fors d_size d_outs d_rule d_filled d_rankings d_counts d_draw d_fors (nI n) (nI s) (nI m) w_steps w_fors w_draw w_links w_best w_beaters d1 w_route t_bytes t_length t_next t_ranking t_count l_cells l_sizes s_bytes s_length keeps))) rfl ?_
                    refine e_ial (nI (z_f99 (E c))) rfl rfl (by first | assumption | omega | rfl | trivial) (by decide) ((hDs _ (by omega)).1) ?_
                    have hv_67 := (hDs c (by omega)).2
                    have hw_67 := z_f99_lt hv_67
                    refine e_steps 1 (σ' := (70, [(0, .ref 16), (1, .int (nI j)), (2, .long (lN t)), (4, .int (nI far)), (5, .int (nI c))], [.int (nI 99), .int (nI (z_f99 (E c)))], (CH p_size p_outs p_rule p_filled p_rankings p_counts p_draw p_fors k_size k_outs k_rule k_filled k_rankings k_counts k_draw k_fors d_size d_outs d_rule d_filled d_rankings d_counts d_draw d_fors (nI n) (nI s) (nI m) w_steps w_fors w_draw w_links w_best w_beaters d1 w_route t_bytes t_length t_next t_ranking t_count l_cells l_sizes s_bytes s_length keeps))) rfl ?_
                    refine e_if (c := ¬ nI (z_f99 (E c)) = nI 99) rfl (fun c_70 => ?_) (fun c_70 => ?_)
                    · skip
                      rw [nI_eq (by omega) (by omega)] at c_70
                      skip
                      refine e_steps 0 (σ' := (97, [(0, .ref 16), (1, .int (nI j)), (2, .long (lN t)), (4, .int (nI far)), (5, .int (nI c))], [], (CH p_size p_outs p_rule p_filled p_rankings p_counts p_draw p_fors k_size k_outs k_rule k_filled k_rankings k_counts k_draw k_fors d_size d_outs d_rule d_filled d_rankings d_counts d_draw d_fors (nI n) (nI s) (nI m) w_steps w_fors w_draw w_links w_best w_beaters d1 w_route t_bytes t_length t_next t_ranking t_count l_cells l_sizes s_bytes s_length keeps))) rfl ?_
                      refine e_inc (n := 1) rfl rfl rfl (c + 1) (by rfl) [(5, .int (nI (c + 1))), (0, .ref 16), (1, .int (nI j)), (2, .long (lN t)), (4, .int (nI far))] rfl ?_
                      refine e_steps 1 (σ' := (52, [(5, .int (nI (c + 1))), (0, .ref 16), (1, .int (nI j)), (2, .long (lN t)), (4, .int (nI far))], [], (CH p_size p_outs p_rule p_filled p_rankings p_counts p_draw p_fors k_size k_outs k_rule k_filled k_rankings k_counts k_draw k_fors d_size d_outs d_rule d_filled d_rankings d_counts d_draw d_fors (nI n) (nI s) (nI m) w_steps w_fors w_draw w_links w_best w_beaters d1 w_route t_bytes t_length t_next t_ranking t_count l_cells l_sizes s_bytes s_length keeps))) rfl ?_
                      refine e_sub [1, 2, 3, 4, 0] rfl ?_
                      exact ih_52 (c + 1) d1 E (by omega) (by exact ⟨by omega, hDs, z_DSm_no p3 (by omega) (fun q => absurd ((z_f99_8 (by omega)).mpr q) (by assumption)) (by have := (hDs c (by omega)).2; omega)⟩)
                    · skip
                      rw [nI_eq (by omega) (by omega)] at c_70
                      replace c_70 := Decidable.not_not.mp c_70
                      refine e_steps 4 (σ' := (79, [(0, .ref 16), (1, .int (nI j)), (2, .long (lN t)), (4, .int (nI far)), (5, .int (nI c))], [.int (nI 1), .int (nI far), .int (nI c), .ref 16], (CH p_size p_outs p_rule p_filled p_rankings p_counts p_draw p_fors k_size k_outs k_rule k_filled k_rankings k_counts k_draw k_fors d_size d_outs d_rule d_filled d_rankings d_counts d_draw d_fors (nI n) (nI s) (nI m) w_steps w_fors w_draw w_links w_best w_beaters d1 w_route t_bytes t_length t_next t_ranking t_count l_cells l_sizes s_bytes s_length keeps))) rfl ?_
                      refine e_sbt (far - 1) rfl (by first | assumption | omega | rfl | trivial) (by first | rfl | omega) ?_
                      refine e_steps 1 (σ' := (81, [(0, .ref 16), (1, .int (nI j)), (2, .long (lN t)), (4, .int (nI far)), (5, .int (nI c))], [.long (lN t), .int (nI (far - 1)), .int (nI c), .ref 16], (CH p_size p_outs p_rule p_filled p_rankings p_counts p_draw p_fors k_size k_outs k_rule k_filled k_rankings k_counts k_draw k_fors d_size d_outs d_rule d_filled d_rankings d_counts d_draw d_fors (nI n) (nI s) (nI m) w_steps w_fors w_draw w_links w_best w_beaters d1 w_route t_bytes t_length t_next t_ranking t_count l_cells l_sizes s_bytes s_length keeps))) rfl ?_
                      refine e_call (y := 63) (av := [.ref 16, .int (nI c), .int (nI (far - 1)), .long (lN t)]) (rest := []) rfl (c_X4_nextStep (d + 0) (n := n) (s := s) (m := m) (F := F) (K := K) (E := E) (by first | assumption | omega | rfl | trivial) (by first | assumption | omega | rfl | trivial) (by first | assumption | omega | rfl | trivial) (by first | assumption | omega | rfl | trivial) (by first | assumption | omega | rfl | trivial) (by first | assumption | omega | rfl | trivial) (by first | assumption | omega | rfl | trivial) (by first | assumption | omega | rfl | trivial) (by first | assumption | omega | rfl | trivial)) (fun r_81 h_81 p_81 => ?_)
                      obtain ⟨rfl, o_81⟩ := p_81
                      rcases o_81 with ⟨x_81, rfl, o_81⟩ | ⟨rfl, o_81⟩
                      · skip
                        refine e_steps 1 (σ' := (85, [(0, .ref 16), (1, .int (nI j)), (2, .long (lN t)), (4, .int (nI far)), (5, .int (nI c))], [.int ((-nI 1)), .int (nI x_81)], (CH p_size p_outs p_rule p_filled p_rankings p_counts p_draw p_fors k_size k_outs k_rule k_filled k_rankings k_counts k_draw k_fors d_size d_outs d_rule d_filled d_rankings d_counts d_draw d_fors (nI n) (nI s) (nI m) w_steps w_fors w_draw w_links w_best w_beaters d1 w_route t_bytes t_length t_next t_ranking t_count l_cells l_sizes s_bytes s_length keeps))) rfl ?_
                        refine e_if (c := nI x_81 = (-nI 1)) rfl (fun c_85 => ?_) (fun c_85 => ?_)
                        · skip
                          exact absurd c_85.symm (z_m1_ne (by omega))
                        · skip
                          refine e_steps 4 (σ' := (96, [(0, .ref 16), (1, .int (nI j)), (2, .long (lN t)), (4, .int (nI far)), (5, .int (nI c))], [.int (nI far), .int (nI c), .ref 22], (CH p_size p_outs p_rule p_filled p_rankings p_counts p_draw p_fors k_size k_outs k_rule k_filled k_rankings k_counts k_draw k_fors d_size d_outs d_rule d_filled d_rankings d_counts d_draw d_fors (nI n) (nI s) (nI m) w_steps w_fors w_draw w_links w_best w_beaters d1 w_route t_bytes t_length t_next t_ranking t_count l_cells l_sizes s_bytes s_length keeps))) rfl ?_
                          refine e_ias (CH p_size p_outs p_rule p_filled p_rankings p_counts p_draw p_fors k_size k_outs k_rule k_filled k_rankings k_counts k_draw k_fors d_size d_outs d_rule d_filled d_rankings d_counts d_draw d_fors (nI n) (nI s) (nI m) w_steps w_fors w_draw w_links w_best w_beaters (upd d1 c (nI far)) w_route t_bytes t_length t_next t_ranking t_count l_cells l_sizes s_bytes s_length keeps) rfl rfl (by first | assumption | omega | rfl | trivial) (by decide) rfl ?_
                          refine e_steps 0 (σ' := (97, [(0, .ref 16), (1, .int (nI j)), (2, .long (lN t)), (4, .int (nI far)), (5, .int (nI c))], [], (CH p_size p_outs p_rule p_filled p_rankings p_counts p_draw p_fors k_size k_outs k_rule k_filled k_rankings k_counts k_draw k_fors d_size d_outs d_rule d_filled d_rankings d_counts d_draw d_fors (nI n) (nI s) (nI m) w_steps w_fors w_draw w_links w_best w_beaters (upd d1 c (nI far)) w_route t_bytes t_length t_next t_ranking t_count l_cells l_sizes s_bytes s_length keeps))) rfl ?_
                          refine e_inc (n := 1) rfl rfl rfl (c + 1) (by rfl) [(5, .int (nI (c + 1))), (0, .ref 16), (1, .int (nI j)), (2, .long (lN t)), (4, .int (nI far))] rfl ?_
                          refine e_steps 1 (σ' := (52, [(5, .int (nI (c + 1))), (0, .ref 16), (1, .int (nI j)), (2, .long (lN t)), (4, .int (nI far))], [], (CH p_size p_outs p_rule p_filled p_rankings p_counts p_draw p_fors k_size k_outs k_rule k_filled k_rankings k_counts k_draw k_fors d_size d_outs d_rule d_filled d_rankings d_counts d_draw d_fors (nI n) (nI s) (nI m) w_steps w_fors w_draw w_links w_best w_beaters (upd d1 c (nI far)) w_route t_bytes t_length t_next t_ranking t_count l_cells l_sizes s_bytes s_length keeps))) rfl ?_
                          refine e_sub [1, 2, 3, 4, 0] rfl ?_
                          exact ih_52 (c + 1) (upd d1 c (nI far)) ((fun x => if x = c then far else E x)) (by omega) (by first | exact ⟨by omega, fun x hx => ⟨z_upd99 (by omega) (fun c hc => (hDs c hc).1) x hx, by show (if x = c then far else E x) ≤ 8; have := (hDs x hx).2; split <;> omega⟩, z_DSm_yes p3 (by omega) (z_f99_99 (hDs c (by omega)).2 (by assumption)) o_81.1 ((z_DSm_lo p3 m4 (by omega) o_81.1).mp (by have := z_nst (by omega) o_81.2.1.1; omega)) o_81.2.1.2⟩ | exact ⟨by omega, hDs, z_DSm_no p3 (by omega) (fun _ k hk hkf ht2 => o_81 k hk ⟨(z_f99_eq (by omega)).mpr (by have := (z_DSm_lo p3 m4 (by omega) hk).mpr hkf; omega), ht2⟩) (by have := (hDs c (by omega)).2; omega)⟩ | exact ⟨by omega, hDs, z_DSm_no p3 (by omega) (fun q => absurd ((z_f99_8 (by omega)).mpr q) (by assumption)) (by have := (hDs c (by omega)).2; omega)⟩)
                      · skip
                        refine e_steps 2 (σ' := (97, [(0, .ref 16), (1, .int (nI j)), (2, .long (lN t)), (4, .int (nI far)), (5, .int (nI c))], [], (CH p_size p_outs p_rule p_filled p_rankings p_counts p_draw p_fors k_size k_outs k_rule k_filled k_rankings k_counts k_draw k_fors d_size d_outs d_rule d_filled d_rankings d_counts d_draw d_fors (nI n) (nI s) (nI m) w_steps w_fors w_draw w_links w_best w_beaters d1 w_route t_bytes t_length t_next t_ranking t_count l_cells l_sizes s_bytes s_length keeps))) rfl ?_
                        refine e_inc (n := 1) rfl rfl rfl (c + 1) (by rfl) [(5, .int (nI (c + 1))), (0, .ref 16), (1, .int (nI j)), (2, .long (lN t)), (4, .int (nI far))] rfl ?_
                        refine e_steps 1 (σ' := (52, [(5, .int (nI (c + 1))), (0, .ref 16), (1, .int (nI j)), (2, .long (lN t)), (4, .int (nI far))], [], (CH p_size p_outs p_rule p_filled p_rankings p_counts p_draw p_fors k_size k_outs k_rule k_filled k_rankings k_counts k_draw k_fors d_size d_outs d_rule d_filled d_rankings d_counts d_draw d_fors (nI n) (nI s) (nI m) w_steps w_fors w_draw w_links w_best w_beaters d1 w_route t_bytes t_length t_next t_ranking t_count l_cells l_sizes s_bytes s_length keeps))) rfl ?_
                        refine e_sub [1, 2, 3, 4, 0] rfl ?_
                        exact ih_52 (c + 1) d1 E (by omega) (by first | exact ⟨by omega, fun x hx => ⟨z_upd99 (by omega) (fun c hc => (hDs c hc).1) x hx, by show (if x = c then far else E x) ≤ 8; have := (hDs x hx).2; split <;> omega⟩, z_DSm_yes p3 (by omega) (z_f99_99 (hDs c (by omega)).2 (by assumption)) o_81.1 ((z_DSm_lo p3 m4 (by omega) o_81.1).mp (by have := z_nst (by omega) o_81.2.1.1; omega)) o_81.2.1.2⟩ | exact ⟨by omega, hDs, z_DSm_no p3 (by omega) (fun _ k hk hkf ht2 => o_81 k hk ⟨(z_f99_eq (by omega)).mpr (by have := (z_DSm_lo p3 m4 (by omega) hk).mpr hkf; omega), ht2⟩) (by have := (hDs c (by omega)).2; omega)⟩ | exact ⟨by omega, hDs, z_DSm_no p3 (by omega) (fun q => absurd ((z_f99_8 (by omega)).mpr q) (by assumption)) (by have := (hDs c (by omega)).2; omega)⟩)
              refine e_sub [1, 2, 3, 4, 0] rfl ?_
              exact loop_52 _ 0 d0 D0 (Nat.lt_succ_self _) (by exact ⟨by omega, m3, z_DSm_0⟩)
        refine e_sub [1, 2, 3, 0] rfl ?_
        exact loop_40 _ 1 dl ((fun c => if c = j then 0 else 8)) (Nat.lt_succ_self _) (by exact ⟨by omega, by omega, fun c hc => ⟨l2 c (by omega), by show (if c = j then 0 else 8) ≤ 8; split <;> omega⟩, z_DSf_0 (fun _ _ => rfl)⟩)
      · skip
        rw [nI_leI (by omega) (by omega)] at c_9
        refine e_steps 5 (σ' := (21, [(0, .ref 16), (1, .int (nI j)), (2, .long (lN t)), (4, .int (nI c0))], [.int (nI j), .int (nI c0), .int (nI c0), .ref 22], (CH p_size p_outs p_rule p_filled p_rankings p_counts p_draw p_fors k_size k_outs k_rule k_filled k_rankings k_counts k_draw k_fors d_size d_outs d_rule d_filled d_rankings d_counts d_draw d_fors (nI n) (nI s) (nI m) w_steps w_fors w_draw w_links w_best w_beaters dl w_route t_bytes t_length t_next t_ranking t_count l_cells l_sizes s_bytes s_length keeps))) rfl ?_
        refine e_if (c := ¬ nI c0 = nI j) rfl (fun c_21 => ?_) (fun c_21 => ?_)
        · skip
          rw [nI_eq (by omega) (by omega)] at c_21
          skip
          refine e_steps 1 (σ' := (30, [(0, .ref 16), (1, .int (nI j)), (2, .long (lN t)), (4, .int (nI c0))], [.int (nI 99), .int (nI c0), .ref 22], (CH p_size p_outs p_rule p_filled p_rankings p_counts p_draw p_fors k_size k_outs k_rule k_filled k_rankings k_counts k_draw k_fors d_size d_outs d_rule d_filled d_rankings d_counts d_draw d_fors (nI n) (nI s) (nI m) w_steps w_fors w_draw w_links w_best w_beaters dl w_route t_bytes t_length t_next t_ranking t_count l_cells l_sizes s_bytes s_length keeps))) rfl ?_
          refine e_ias (CH p_size p_outs p_rule p_filled p_rankings p_counts p_draw p_fors k_size k_outs k_rule k_filled k_rankings k_counts k_draw k_fors d_size d_outs d_rule d_filled d_rankings d_counts d_draw d_fors (nI n) (nI s) (nI m) w_steps w_fors w_draw w_links w_best w_beaters (upd dl c0 (nI 99)) w_route t_bytes t_length t_next t_ranking t_count l_cells l_sizes s_bytes s_length keeps) rfl rfl (by first | assumption | omega | rfl | trivial) (by decide) rfl ?_
          refine e_steps 0 (σ' := (31, [(0, .ref 16), (1, .int (nI j)), (2, .long (lN t)), (4, .int (nI c0))], [], (CH p_size p_outs p_rule p_filled p_rankings p_counts p_draw p_fors k_size k_outs k_rule k_filled k_rankings k_counts k_draw k_fors d_size d_outs d_rule d_filled d_rankings d_counts d_draw d_fors (nI n) (nI s) (nI m) w_steps w_fors w_draw w_links w_best w_beaters (upd dl c0 (nI 99)) w_route t_bytes t_length t_next t_ranking t_count l_cells l_sizes s_bytes s_length keeps))) rfl ?_
          refine e_inc (n := 1) rfl rfl rfl (c0 + 1) (by rfl) [(4, .int (nI (c0 + 1))), (0, .ref 16), (1, .int (nI j)), (2, .long (lN t))] rfl ?_
          refine e_steps 1 (σ' := (3, [(4, .int (nI (c0 + 1))), (0, .ref 16), (1, .int (nI j)), (2, .long (lN t))], [], (CH p_size p_outs p_rule p_filled p_rankings p_counts p_draw p_fors k_size k_outs k_rule k_filled k_rankings k_counts k_draw k_fors d_size d_outs d_rule d_filled d_rankings d_counts d_draw d_fors (nI n) (nI s) (nI m) w_steps w_fors w_draw w_links w_best w_beaters (upd dl c0 (nI 99)) w_route t_bytes t_length t_next t_ranking t_count l_cells l_sizes s_bytes s_length keeps))) rfl ?_
          refine e_sub [1, 2, 3, 0] rfl ?_
          exact ih_3 (c0 + 1) (upd dl c0 (nI 99)) (by omega) (by exact ⟨by omega, fun c hc => by unfold upd; by_cases e : c = c0; (rw [if_pos e, e]; first | (rw [if_pos (by assumption)]; rfl) | (rw [if_neg (by assumption)]; rfl)); (rw [if_neg e]; exact l2 c (by omega))⟩)
        · skip
          rw [nI_eq (by omega) (by omega)] at c_21
          replace c_21 := Decidable.not_not.mp c_21
          refine e_steps 2 (σ' := (30, [(0, .ref 16), (1, .int (nI j)), (2, .long (lN t)), (4, .int (nI c0))], [.int (nI 0), .int (nI c0), .ref 22], (CH p_size p_outs p_rule p_filled p_rankings p_counts p_draw p_fors k_size k_outs k_rule k_filled k_rankings k_counts k_draw k_fors d_size d_outs d_rule d_filled d_rankings d_counts d_draw d_fors (nI n) (nI s) (nI m) w_steps w_fors w_draw w_links w_best w_beaters dl w_route t_bytes t_length t_next t_ranking t_count l_cells l_sizes s_bytes s_length keeps))) rfl ?_
          refine e_ias (CH p_size p_outs p_rule p_filled p_rankings p_counts p_draw p_fors k_size k_outs k_rule k_filled k_rankings k_counts k_draw k_fors d_size d_outs d_rule d_filled d_rankings d_counts d_draw d_fors (nI n) (nI s) (nI m) w_steps w_fors w_draw w_links w_best w_beaters (upd dl c0 (nI 0)) w_route t_bytes t_length t_next t_ranking t_count l_cells l_sizes s_bytes s_length keeps) rfl rfl (by first | assumption | omega | rfl | trivial) (by decide) rfl ?_
          refine e_steps 0 (σ' := (31, [(0, .ref 16), (1, .int (nI j)), (2, .long (lN t)), (4, .int (nI c0))], [], (CH p_size p_outs p_rule p_filled p_rankings p_counts p_draw p_fors k_size k_outs k_rule k_filled k_rankings k_counts k_draw k_fors d_size d_outs d_rule d_filled d_rankings d_counts d_draw d_fors (nI n) (nI s) (nI m) w_steps w_fors w_draw w_links w_best w_beaters (upd dl c0 (nI 0)) w_route t_bytes t_length t_next t_ranking t_count l_cells l_sizes s_bytes s_length keeps))) rfl ?_
          refine e_inc (n := 1) rfl rfl rfl (c0 + 1) (by rfl) [(4, .int (nI (c0 + 1))), (0, .ref 16), (1, .int (nI j)), (2, .long (lN t))] rfl ?_
          refine e_steps 1 (σ' := (3, [(4, .int (nI (c0 + 1))), (0, .ref 16), (1, .int (nI j)), (2, .long (lN t))], [], (CH p_size p_outs p_rule p_filled p_rankings p_counts p_draw p_fors k_size k_outs k_rule k_filled k_rankings k_counts k_draw k_fors d_size d_outs d_rule d_filled d_rankings d_counts d_draw d_fors (nI n) (nI s) (nI m) w_steps w_fors w_draw w_links w_best w_beaters (upd dl c0 (nI 0)) w_route t_bytes t_length t_next t_ranking t_count l_cells l_sizes s_bytes s_length keeps))) rfl ?_
          refine e_sub [1, 2, 3, 0] rfl ?_
          exact ih_3 (c0 + 1) (upd dl c0 (nI 0)) (by omega) (by exact ⟨by omega, fun c hc => by unfold upd; by_cases e : c = c0; (rw [if_pos e, e]; first | (rw [if_pos (by assumption)]; rfl) | (rw [if_neg (by assumption)]; rfl)); (rw [if_neg e]; exact l2 c (by omega))⟩)
  refine e_sub [1, 2, 3, 0] rfl ?_
  exact loop_3 _ 0 w_distances (Nat.lt_succ_self _) (by exact ⟨by omega, fun c hc => absurd hc (Nat.not_lt_zero c)⟩)
theorem c_X4_walk (d : Nat) {p_size : Int32} {p_outs : Int32} {p_rule : Int32} {p_filled : Int32} {p_rankings : Nat → Int32} {p_counts : Nat → Int32} {p_draw : Nat → Int32} {p_fors : Nat → Int32} {k_size : Int32} {k_outs : Int32} {k_rule : Int32} {k_filled : Int32} {k_rankings : Nat → Int32} {k_counts : Nat → Int32} {k_draw : Nat → Int32} {k_fors : Nat → Int32} {d_size : Int32} {d_outs : Int32} {d_rule : Int32} {d_filled : Int32} {d_rankings : Nat → Int32} {d_counts : Nat → Int32} {d_draw : Nat → Int32} {d_fors : Nat → Int32} {n : Nat} {s : Nat} {m : Nat} {w_steps : Int32} {w_fors : Nat → Int32} {w_draw : Nat → Int32} {w_links : Nat → Int64} {w_best : Nat → Int64} {w_beaters : Nat → Int32} {w_distances : Nat → Int32} {w_route : Nat → Int32} {t_bytes : Nat → Int32} {t_length : Int32} {t_next : Int32} {t_ranking : Int32} {t_count : Int32} {l_cells : Nat → Int64} {l_sizes : Nat → Int32} {s_bytes : Nat → Int32} {s_length : Int32} {keeps : Int32} {i : Nat} {j : Nat} {F : Nat → Nat → Nat} {K : Nat → Nat → Nat} (hn2 : 2 ≤ n) (hn8 : n ≤ 8) (hs2 : s < 2 ^ n) (hm : m < 4) (hW : z_CW m s F n w_links w_best w_beaters K) (hi : i < n) (hj : j < n) (hij : i ≠ j) : z_CAL (d + 5) 61 [.ref 16, .int (nI i), .int (nI j)] (CH p_size p_outs p_rule p_filled p_rankings p_counts p_draw p_fors k_size k_outs k_rule k_filled k_rankings k_counts k_draw k_fors d_size d_outs d_rule d_filled d_rankings d_counts d_draw d_fors (nI n) (nI s) (nI m) w_steps w_fors w_draw w_links w_best w_beaters w_distances w_route t_bytes t_length t_next t_ranking t_count l_cells l_sizes s_bytes s_length keeps) (fun r h2 => ∃ (d2 : Nat → Int32) (r2 : Nat → Int32) (st2 : Nat) (v : Nat), r = some (.int (nI v)) ∧ h2 = (CH p_size p_outs p_rule p_filled p_rankings p_counts p_draw p_fors k_size k_outs k_rule k_filled k_rankings k_counts k_draw k_fors d_size d_outs d_rule d_filled d_rankings d_counts d_draw d_fors (nI n) (nI s) (nI m) (nI st2) w_fors w_draw w_links w_best w_beaters d2 r2 t_bytes t_length t_next t_ranking t_count l_cells l_sizes s_bytes s_length keeps) ∧ ((K i j = 0 ∧ v = 0) ∨ ∃ D rw, z_WAY (z_LS m s F) n K i j D rw ∧ v = D i + 1 ∧ st2 = D i + 1 ∧ ∀ k, k < D i + 1 → r2 k = nI (rw k))) := by
  refine e_of2 (q := zmX4_walk) rfl rfl (fun R hR => ?_)
  have hp8 := z_p2 hn8; have hs : s < 256 := (by omega); have hLb := (hW.2.1 i hi j hj).2; have hKb := (hW.2.2.1 i hi j hj).2
  refine e_steps 6 (σ' := (8, [(0, .ref 16), (1, .int (nI i)), (2, .int (nI j))], [.int (nI j), .int (nI i), .ref 16], (CH p_size p_outs p_rule p_filled p_rankings p_counts p_draw p_fors k_size k_outs k_rule k_filled k_rankings k_counts k_draw k_fors d_size d_outs d_rule d_filled d_rankings d_counts d_draw d_fors (nI n) (nI s) (nI m) (nI 0) w_fors w_draw w_links w_best w_beaters w_distances w_route t_bytes t_length t_next t_ranking t_count l_cells l_sizes s_bytes s_length keeps))) rfl ?_
  refine e_call (y := 56) (av := [.ref 16, .int (nI i), .int (nI j)]) (rest := []) rfl (c_X4_bestStrength (d + 2) (n := n) (s := s) (m := m) (F := F) (K := K) (by first | assumption | omega | rfl | trivial) (by first | assumption | omega | rfl | trivial) (by first | assumption | omega | rfl | trivial) (by first | assumption | omega | rfl | trivial) (by first | assumption | omega | rfl | trivial) (by first | assumption | omega | rfl | trivial) (by first | assumption | omega | rfl | trivial)) (fun r_8 h_8 p_8 => ?_)
  obtain ⟨rfl, rfl⟩ := p_8
  refine e_steps 4 (σ' := (15, [(3, .long (lN (K i j))), (0, .ref 16), (1, .int (nI i)), (2, .int (nI j))], [.int ((lg_cmp (lN (K i j)) (lN 0)))], (CH p_size p_outs p_rule p_filled p_rankings p_counts p_draw p_fors k_size k_outs k_rule k_filled k_rankings k_counts k_draw k_fors d_size d_outs d_rule d_filled d_rankings d_counts d_draw d_fors (nI n) (nI s) (nI m) (nI 0) w_fors w_draw w_links w_best w_beaters w_distances w_route t_bytes t_length t_next t_ranking t_count l_cells l_sizes s_bytes s_length keeps))) rfl ?_
  refine e_if (c := ¬ lg_cmp (lN (K i j)) (lN 0) = 0) rfl (fun c_14 => ?_) (fun c_14 => ?_)
  · rw [lg_cmp_eq] at c_14
    rw [pk_lEQ (by omega) (by omega)] at c_14
    refine e_steps 3 (σ' := (23, [(3, .long (lN (K i j))), (0, .ref 16), (1, .int (nI i)), (2, .int (nI j))], [.long (lN (K i j)), .int (nI j), .ref 16], (CH p_size p_outs p_rule p_filled p_rankings p_counts p_draw p_fors k_size k_outs k_rule k_filled k_rankings k_counts k_draw k_fors d_size d_outs d_rule d_filled d_rankings d_counts d_draw d_fors (nI n) (nI s) (nI m) (nI 0) w_fors w_draw w_links w_best w_beaters w_distances w_route t_bytes t_length t_next t_ranking t_count l_cells l_sizes s_bytes s_length keeps))) rfl ?_
    refine e_call (y := 62) (av := [.ref 16, .int (nI j), .long (lN (K i j))]) (rest := []) rfl (c_X4_tellDistances (d + 0) (n := n) (s := s) (m := m) (F := F) (K := K) (by first | assumption | omega | rfl | trivial) (by first | assumption | omega | rfl | trivial) (by first | assumption | omega | rfl | trivial) (by first | assumption | omega | rfl | trivial) (by first | assumption | omega | rfl | trivial) (by first | assumption | omega | rfl | trivial) (by first | assumption | omega | rfl | trivial)) (fun r_23 h_23 p_23 => ?_)
    obtain ⟨w_distances_23, rfl, rfl, q_23⟩ := p_23
    obtain ⟨D, hDv, hDS⟩ := q_23; have hre := hW.1 i hi; obtain ⟨m0, hm0⟩ := (z_row_iff hre hi hj (fun e => hij e.symm) (show 0 < K i j by omega)).mp (Nat.le_refl _); have hDi := z_DS_re hn8 hDS hi hm0
    refine e_steps 4 (σ' := (32, [(6, .int (nI 0)), (5, .int (nI i)), (3, .long (lN (K i j))), (0, .ref 16), (1, .int (nI i)), (2, .int (nI j))], [], (CH p_size p_outs p_rule p_filled p_rankings p_counts p_draw p_fors k_size k_outs k_rule k_filled k_rankings k_counts k_draw k_fors d_size d_outs d_rule d_filled d_rankings d_counts d_draw d_fors (nI n) (nI s) (nI m) (nI 0) w_fors w_draw w_links w_best w_beaters w_distances_23 w_route t_bytes t_length t_next t_ranking t_count l_cells l_sizes s_bytes s_length keeps))) rfl ?_
    have loop_32 : ∀ (z_32 : Nat) (cc : Nat) (k : Nat) (rv : Nat → Int32) (stp : Nat) (rw : Nat → Nat), D cc < z_32 → (cc = rw k ∧ cc < n ∧ (∀ x, x < k → rv x = nI (rw x)) ∧ z_rt (z_LS m s F) n (K i j) i D rw (k + 1) ∧ (∀ x, x < k + 1 → rw x < n) ∧ D cc + k = D i) → z_EV (d + 4) zmX4_walk R (32, [(0, .ref 16), (1, .int (nI i)), (2, .int (nI j)), (3, .long (lN (K i j))), (5, .int (nI cc)), (6, .int (nI k))], [], (CH p_size p_outs p_rule p_filled p_rankings p_counts p_draw p_fors k_size k_outs k_rule k_filled k_rankings k_counts k_draw k_fors d_size d_outs d_rule d_filled d_rankings d_counts d_draw d_fors (nI n) (nI s) (nI m) (nI stp) w_fors w_draw w_links w_best w_beaters w_distances_23 rv t_bytes t_length t_next t_ranking t_count l_cells l_sizes s_bytes s_length keeps)) := by
      intro z_32
      induction z_32 with
      | zero => intro cc k rv stp rw hm_32 _; exact absurd hm_32 (Nat.not_lt_zero _)
      | succ z_32 ih_32 =>
        intro cc k rv stp rw hm_32 hi_32
        obtain ⟨l1, l2, l3, l4, l5, l6⟩ := hi_32; have hcj := (hDS.1 cc l2).2; have hd8 := (hDv cc l2).2
        refine e_steps 2 (σ' := (36, [(0, .ref 16), (1, .int (nI i)), (2, .int (nI j)), (3, .long (lN (K i j))), (5, .int (nI cc)), (6, .int (nI k))], [.int (nI 8), .int (nI k)], (CH p_size p_outs p_rule p_filled p_rankings p_counts p_draw p_fors k_size k_outs k_rule k_filled k_rankings k_counts k_draw k_fors d_size d_outs d_rule d_filled d_rankings d_counts d_draw d_fors (nI n) (nI s) (nI m) (nI stp) w_fors w_draw w_links w_best w_beaters w_distances_23 rv t_bytes t_length t_next t_ranking t_count l_cells l_sizes s_bytes s_length keeps))) rfl ?_
        refine e_if (c := nI 8 ≤ nI k) rfl (fun c_36 => ?_) (fun c_36 => ?_)
        · skip
          rw [nI_leI (by omega) (by omega)] at c_36
          omega
        · skip
          rw [nI_leI (by omega) (by omega)] at c_36
          refine e_steps 1 (σ' := (41, [(0, .ref 16), (1, .int (nI i)), (2, .int (nI j)), (3, .long (lN (K i j))), (5, .int (nI cc)), (6, .int (nI k))], [.int (nI cc)], (CH p_size p_outs p_rule p_filled p_rankings p_counts p_draw p_fors k_size k_outs k_rule k_filled k_rankings k_counts k_draw k_fors d_size d_outs d_rule d_filled d_rankings d_counts d_draw d_fors (nI n) (nI s) (nI m) (nI stp) w_fors w_draw w_links w_best w_beaters w_distances_23 rv t_bytes t_length t_next t_ranking t_count l_cells l_sizes s_bytes s_length keeps))) rfl ?_
          refine e_ifF (c := nI cc < 0) rfl (nI_pos (by omega)) ?_
          refine e_steps 3 (σ' := (50, [(0, .ref 16), (1, .int (nI i)), (2, .int (nI j)), (3, .long (lN (K i j))), (5, .int (nI cc)), (6, .int (nI k))], [.int (nI n), .int (nI cc)], (CH p_size p_outs p_rule p_filled p_rankings p_counts p_draw p_fors k_size k_outs k_rule k_filled k_rankings k_counts k_draw k_fors d_size d_outs d_rule d_filled d_rankings d_counts d_draw d_fors (nI n) (nI s) (nI m) (nI stp) w_fors w_draw w_links w_best w_beaters w_distances_23 rv t_bytes t_length t_next t_ranking t_count l_cells l_sizes s_bytes s_length keeps))) rfl ?_
          refine e_if (c := nI n ≤ nI cc) rfl (fun c_50 => ?_) (fun c_50 => ?_)
          · skip
            rw [nI_leI (by omega) (by omega)] at c_50
            omega
          · skip
            rw [nI_leI (by omega) (by omega)] at c_50
            refine e_steps 4 (σ' := (61, [(0, .ref 16), (1, .int (nI i)), (2, .int (nI j)), (3, .long (lN (K i j))), (5, .int (nI cc)), (6, .int (nI k))], [.int (nI cc), .int (nI k), .ref 23], (CH p_size p_outs p_rule p_filled p_rankings p_counts p_draw p_fors k_size k_outs k_rule k_filled k_rankings k_counts k_draw k_fors d_size d_outs d_rule d_filled d_rankings d_counts d_draw d_fors (nI n) (nI s) (nI m) (nI stp) w_fors w_draw w_links w_best w_beaters w_distances_23 rv t_bytes t_length t_next t_ranking t_count l_cells l_sizes s_bytes s_length keeps))) rfl ?_
            refine e_ias (CH p_size p_outs p_rule p_filled p_rankings p_counts p_draw p_fors k_size k_outs k_rule k_filled k_rankings k_counts k_draw k_fors d_size d_outs d_rule d_filled d_rankings d_counts d_draw d_fors (nI n) (nI s) (nI m) (nI stp) w_fors w_draw w_links w_best w_beaters w_distances_23 (upd rv k (nI cc)) t_bytes t_length t_next t_ranking t_count l_cells l_sizes s_bytes s_length keeps) rfl rfl (by first | assumption | omega | rfl | trivial) (by decide) rfl ?_
            refine e_steps 3 (σ' := (66, [(0, .ref 16), (1, .int (nI i)), (2, .int (nI j)), (3, .long (lN (K i j))), (5, .int (nI cc)), (6, .int (nI k))], [.int (nI 1), .int (nI k), .ref 16], (CH p_size p_outs p_rule p_filled p_rankings p_counts p_draw p_fors k_size k_outs k_rule k_filled k_rankings k_counts k_draw k_fors d_size d_outs d_rule d_filled d_rankings d_counts d_draw d_fors (nI n) (nI s) (nI m) (nI stp) w_fors w_draw w_links w_best w_beaters w_distances_23 (upd rv k (nI cc)) t_bytes t_length t_next t_ranking t_count l_cells l_sizes s_bytes s_length keeps))) rfl ?_
            refine e_add (k + 1) rfl (by first | rfl | omega) ?_
            refine e_steps 3 (σ' := (73, [(0, .ref 16), (1, .int (nI i)), (2, .int (nI j)), (3, .long (lN (K i j))), (5, .int (nI cc)), (6, .int (nI k))], [.int (nI j), .int (nI cc)], (CH p_size p_outs p_rule p_filled p_rankings p_counts p_draw p_fors k_size k_outs k_rule k_filled k_rankings k_counts k_draw k_fors d_size d_outs d_rule d_filled d_rankings d_counts d_draw d_fors (nI n) (nI s) (nI m) (nI (k + 1)) w_fors w_draw w_links w_best w_beaters w_distances_23 (upd rv k (nI cc)) t_bytes t_length t_next t_ranking t_count l_cells l_sizes s_bytes s_length keeps))) rfl ?_
            refine e_if (c := ¬ nI cc = nI j) rfl (fun c_73 => ?_) (fun c_73 => ?_)
            · skip
              rw [nI_eq (by omega) (by omega)] at c_73
              skip
              refine e_steps 5 (σ' := (90, [(0, .ref 16), (1, .int (nI i)), (2, .int (nI j)), (3, .long (lN (K i j))), (5, .int (nI cc)), (6, .int (nI k))], [.int (nI cc), .ref 22, .int (nI cc), .ref 16], (CH p_size p_outs p_rule p_filled p_rankings p_counts p_draw p_fors k_size k_outs k_rule k_filled k_rankings k_counts k_draw k_fors d_size d_outs d_rule d_filled d_rankings d_counts d_draw d_fors (nI n) (nI s) (nI m) (nI (k + 1)) w_fors w_draw w_links w_best w_beaters w_distances_23 (upd rv k (nI cc)) t_bytes t_length t_next t_ranking t_count l_cells l_sizes s_bytes s_length keeps))) rfl ?_
              refine e_ial (nI (D cc)) rfl rfl (by first | assumption | omega | rfl | trivial) (by decide) (((hDv cc l2).1.trans (congrArg nI ((z_f99_eq (by omega)).mpr rfl)))) ?_
              refine e_steps 1 (σ' := (92, [(0, .ref 16), (1, .int (nI i)), (2, .int (nI j)), (3, .long (lN (K i j))), (5, .int (nI cc)), (6, .int (nI k))], [.int (nI 1), .int (nI (D cc)), .int (nI cc), .ref 16], (CH p_size p_outs p_rule p_filled p_rankings p_counts p_draw p_fors k_size k_outs k_rule k_filled k_rankings k_counts k_draw k_fors d_size d_outs d_rule d_filled d_rankings d_counts d_draw d_fors (nI n) (nI s) (nI m) (nI (k + 1)) w_fors w_draw w_links w_best w_beaters w_distances_23 (upd rv k (nI cc)) t_bytes t_length t_next t_ranking t_count l_cells l_sizes s_bytes s_length keeps))) rfl ?_
              refine e_sbt ((D cc) - 1) rfl (by first | assumption | omega | rfl | trivial) (by first | rfl | omega) ?_
              refine e_steps 1 (σ' := (94, [(0, .ref 16), (1, .int (nI i)), (2, .int (nI j)), (3, .long (lN (K i j))), (5, .int (nI cc)), (6, .int (nI k))], [.long (lN (K i j)), .int (nI ((D cc) - 1)), .int (nI cc), .ref 16], (CH p_size p_outs p_rule p_filled p_rankings p_counts p_draw p_fors k_size k_outs k_rule k_filled k_rankings k_counts k_draw k_fors d_size d_outs d_rule d_filled d_rankings d_counts d_draw d_fors (nI n) (nI s) (nI m) (nI (k + 1)) w_fors w_draw w_links w_best w_beaters w_distances_23 (upd rv k (nI cc)) t_bytes t_length t_next t_ranking t_count l_cells l_sizes s_bytes s_length keeps))) rfl ?_
              refine e_call (y := 63) (av := [.ref 16, .int (nI cc), .int (nI ((D cc) - 1)), .long (lN (K i j))]) (rest := []) rfl (c_X4_nextStep (d + 1) (n := n) (s := s) (m := m) (F := F) (K := K) (E := D) (by first | assumption | omega | rfl | trivial) (by first | assumption | omega | rfl | trivial) (by first | assumption | omega | rfl | trivial) (by first | assumption | omega | rfl | trivial) (by first | assumption | omega | rfl | trivial) (by exact hDv) (by first | assumption | omega | rfl | trivial) (by first | assumption | omega | rfl | trivial) (by first | assumption | omega | rfl | trivial)) (fun r_94 h_94 p_94 => ?_)
              obtain ⟨rfl, o_94⟩ := p_94
              rcases o_94 with ⟨x_94, rfl, o_94⟩ | ⟨rfl, o_94⟩
              · skip
                refine e_steps 1 (σ' := (99, [(5, .int (nI x_94)), (0, .ref 16), (1, .int (nI i)), (2, .int (nI j)), (3, .long (lN (K i j))), (6, .int (nI k))], [], (CH p_size p_outs p_rule p_filled p_rankings p_counts p_draw p_fors k_size k_outs k_rule k_filled k_rankings k_counts k_draw k_fors d_size d_outs d_rule d_filled d_rankings d_counts d_draw d_fors (nI n) (nI s) (nI m) (nI (k + 1)) w_fors w_draw w_links w_best w_beaters w_distances_23 (upd rv k (nI cc)) t_bytes t_length t_next t_ranking t_count l_cells l_sizes s_bytes s_length keeps))) rfl ?_
                refine e_inc (n := 1) rfl rfl rfl (k + 1) (by rfl) [(6, .int (nI (k + 1))), (5, .int (nI x_94)), (0, .ref 16), (1, .int (nI i)), (2, .int (nI j)), (3, .long (lN (K i j)))] rfl ?_
                refine e_steps 1 (σ' := (32, [(6, .int (nI (k + 1))), (5, .int (nI x_94)), (0, .ref 16), (1, .int (nI i)), (2, .int (nI j)), (3, .long (lN (K i j)))], [], (CH p_size p_outs p_rule p_filled p_rankings p_counts p_draw p_fors k_size k_outs k_rule k_filled k_rankings k_counts k_draw k_fors d_size d_outs d_rule d_filled d_rankings d_counts d_draw d_fors (nI n) (nI s) (nI m) (nI (k + 1)) w_fors w_draw w_links w_best w_beaters w_distances_23 (upd rv k (nI cc)) t_bytes t_length t_next t_ranking t_count l_cells l_sizes s_bytes s_length keeps))) rfl ?_
                refine e_sub [2, 3, 4, 5, 1, 0] rfl ?_
                exact ih_32 x_94 (k + 1) (upd rv k (nI cc)) (k + 1) ((fun x => if x = k + 1 then x_94 else rw x)) (by have := z_nst (by omega) o_94.2.1.1; omega) (by exact z_wk_step l1 l3 l4 l5 l6 o_94.1 (z_nst (by omega) o_94.2.1.1) o_94.2.1.2 (fun y hy q => o_94.2.2 y hy ⟨(z_f99_eq (by omega)).mpr (by omega), q.2⟩) (by omega))
              · skip
                obtain ⟨kk, hk1, hk2, hk3⟩ := hDS.2.1 cc l2 (by omega) (by omega); exact absurd ⟨(z_f99_eq (by omega)).mpr (by omega), hk3⟩ (o_94 kk hk1)
                skip
            · skip
              rw [nI_eq (by omega) (by omega)] at c_73
              replace c_73 := Decidable.not_not.mp c_73
              refine e_steps 2 (σ' := (80, [(0, .ref 16), (1, .int (nI i)), (2, .int (nI j)), (3, .long (lN (K i j))), (5, .int (nI cc)), (6, .int (nI k))], [.int (nI (k + 1))], (CH p_size p_outs p_rule p_filled p_rankings p_counts p_draw p_fors k_size k_outs k_rule k_filled k_rankings k_counts k_draw k_fors d_size d_outs d_rule d_filled d_rankings d_counts d_draw d_fors (nI n) (nI s) (nI m) (nI (k + 1)) w_fors w_draw w_links w_best w_beaters w_distances_23 (upd rv k (nI cc)) t_bytes t_length t_next t_ranking t_count l_cells l_sizes s_bytes s_length keeps))) rfl ?_
              exact e_ret rfl (trivial) (hR _ _ ⟨w_distances_23, upd rv k (nI cc), k + 1, (k + 1), rfl, rfl, (by first | exact Or.inl ⟨by assumption, rfl⟩ | exact Or.inr ⟨D, rw, ⟨by omega, hDS, hDi, by rw [show D i + 1 = k + 1 by omega]; exact l4, by rw [show D i + 1 = k + 1 by omega]; exact l5⟩, by omega, by omega, fun x hx => z_wk_end l1 l3 (by omega)⟩)⟩)
    refine e_sub [3, 4, 5, 2, 1, 0] rfl ?_
    exact loop_32 _ i 0 w_route 0 ((fun _ => i)) (Nat.lt_succ_self _) (by exact ⟨rfl, hi, fun x hx => absurd hx (Nat.not_lt_zero x), ⟨rfl, fun k hk => absurd hk (by omega)⟩, fun _ _ => hi, rfl⟩)
  · rw [lg_cmp_eq] at c_14
    rw [pk_lEQ (by omega) (by omega)] at c_14
    replace c_14 := Decidable.not_not.mp c_14
    refine e_steps 1 (σ' := (19, [(3, .long (lN (K i j))), (0, .ref 16), (1, .int (nI i)), (2, .int (nI j))], [.int (nI 0)], (CH p_size p_outs p_rule p_filled p_rankings p_counts p_draw p_fors k_size k_outs k_rule k_filled k_rankings k_counts k_draw k_fors d_size d_outs d_rule d_filled d_rankings d_counts d_draw d_fors (nI n) (nI s) (nI m) (nI 0) w_fors w_draw w_links w_best w_beaters w_distances w_route t_bytes t_length t_next t_ranking t_count l_cells l_sizes s_bytes s_length keeps))) rfl ?_
    exact e_ret rfl (trivial) (hR _ _ ⟨w_distances, w_route, 0, 0, rfl, rfl, (by first | exact Or.inl ⟨by assumption, rfl⟩ | exact Or.inr ⟨D, rw, ⟨by omega, hDS, hDi, by rw [show D i + 1 = k + 1 by omega]; exact l4, by rw [show D i + 1 = k + 1 by omega]; exact l5⟩, by omega, by omega, fun x hx => z_wk_end l1 l3 (by omega)⟩)⟩)
