/-! what is told of a strength -/
def z_td (m part a b : Nat) : Nat := if m = 2 then (if b = 0 then (if part = 0 then a else 0) else (if part = 0 then a else b) / Nat.gcd a b) else if part = 1 then 1 else if m = 0 then a else if m = 1 then a - b else b
theorem z_gcd_pos {a b : Nat} (h : b < a) : 0 < Nat.gcd a b := Nat.gcd_pos_of_pos_left b (by omega)
theorem z_gcd_le {a b : Nat} (h : b < a) : Nat.gcd a b ≤ a := Nat.gcd_le_left b (by omega)
theorem z_half {a b m : Nat} (hb : 0 < b) (hab : b ≤ a) (h : a * b < 2 ^ (m + 1)) : b * (a % b) < 2 ^ m := by
  have h1 : a % b < b := Nat.mod_lt a hb
  have h2 : b * (a / b) + a % b = a := Nat.div_add_mod a b
  have h3 : 1 ≤ a / b := (Nat.one_le_div_iff hb).mpr hab
  have h4 : b * 1 ≤ b * (a / b) := Nat.mul_le_mul_left b h3
  have h5 : 2 * (a % b) ≤ a := by omega
  have h6 : 2 * (a % b) * b ≤ a * b := Nat.mul_le_mul_right b h5
  have h7 : 2 * (a % b) * b = 2 * (b * (a % b)) := by rw [Nat.mul_assoc, Nat.mul_comm (a % b) b]
  rw [Nat.pow_succ] at h
  omega
theorem z_gcd_step {a b : Nat} : Nat.gcd b (a % b) = Nat.gcd a b := by
  rw [Nat.gcd_comm a b, Nat.gcd_rec b a, Nat.gcd_comm]
theorem c_X6_common_m (d : Nat) : ∀ (m : Nat) {h : List z_E} {a b : Nat}, b ≤ a → a < 2 ^ 62 → a * b < 2 ^ m → z_CAL (d + m + 1) 186 [.long (lN a), .long (lN b)] h (fun r h2 => r = some (.long (lN (Nat.gcd a b))) ∧ h2 = h) := by
  intro m
  induction m with
  | zero =>
    intro h a b hab ha hm
    have hb : b = 0 := by
      rcases Nat.eq_zero_or_pos b with q | q
      · exact q
      · have := Nat.mul_le_mul (show 1 ≤ a by omega) q
        omega
    subst hb
    refine e_of2 (q := zmX6_common) rfl rfl (fun R hR => ?_)
    refine e_steps 3 (σ' := (3, [(0, .long (lN a)), (2, .long (lN 0))], [.int (lg_cmp (lN 0) (lN 0))], h)) rfl ?_
    refine e_ifF (σ1 := (10, [(0, .long (lN a)), (2, .long (lN 0))], [], h)) (c := ¬ lg_cmp (lN 0) (lN 0) = 0) rfl (by decide +kernel) ?_
    refine e_steps 2 (σ' := (17, [(0, .long (lN a)), (2, .long (lN 0))], [.long (lN a)], h)) rfl ?_
    exact e_ret rfl (trivial) (hR _ _ ⟨by rw [Nat.gcd_zero_right], rfl⟩)
  | succ m ih =>
    intro h a b hab ha hm
    refine e_of2 (q := zmX6_common) rfl rfl (fun R hR => ?_)
    refine e_steps 3 (σ' := (3, [(0, .long (lN a)), (2, .long (lN b))], [.int (lg_cmp (lN b) (lN 0))], h)) rfl ?_
    refine e_if (c := ¬ lg_cmp (lN b) (lN 0) = 0) rfl (fun c_3 => ?_) (fun c_3 => ?_)
    · rw [lg_cmp_eq, pk_lEQ (by omega) (by omega)] at c_3
      refine e_steps 3 (σ' := (13, [(0, .long (lN a)), (2, .long (lN b))], [.long (lN b), .long (lN a), .long (lN b)], h)) rfl ?_
      refine e_gd (c := ¬ lN b = 0) rfl (by show ¬ lN b = lN 0; rw [pk_lEQ (by omega) (by omega)]; exact c_3) ?_
      rw [pk_lRem (by omega) (by omega) (by omega)]
      have hlt := Nat.mod_lt a (show b > 0 by omega)
      refine e_call (y := 186) (av := [.long (lN b), .long (lN (a % b))]) (rest := []) rfl (ih (by omega) (by omega) (z_half (by omega) hab hm)) (fun r_14 h_14 p_14 => ?_)
      obtain ⟨rfl, rfl⟩ := p_14
      exact e_ret rfl (trivial) (hR _ _ ⟨by rw [z_gcd_step], rfl⟩)
    · rw [lg_cmp_eq, pk_lEQ (by omega) (by omega)] at c_3
      replace c_3 := Decidable.not_not.mp c_3
      subst c_3
      refine e_steps 2 (σ' := (17, [(0, .long (lN a)), (2, .long (lN 0))], [.long (lN a)], h)) rfl ?_
      exact e_ret rfl (trivial) (hR _ _ ⟨by rw [Nat.gcd_zero_right], rfl⟩)
theorem c_X6_common (d : Nat) {h : List z_E} {a b : Nat} (hab : b < a) (haM : a ≤ 41000000) : z_CAL (d + 53) 186 [.long (lN a), .long (lN b)] h (fun r h2 => r = some (.long (lN (Nat.gcd a b))) ∧ h2 = h) := by
  have h1 : a * b ≤ 41000000 * 41000000 := Nat.mul_le_mul haM (by omega)
  exact c_X6_common_m d 52 (by omega) (by omega) (Nat.lt_of_le_of_lt h1 (by decide))
theorem z_of_LS {m s t : Nat} {F : Nat → Nat → Nat} {i j : Nat} (ht : 0 < t) (h : t ≤ z_LS m s F i j) : z_lnk s F i j := by
  by_cases q : z_lnk s F i j
  · exact q
  · rw [z_LS_no q] at h
    omega
theorem z_DSm_0 {L : Nat → Nat → Nat} {n t j far : Nat} {D : Nat → Nat} : z_DSm L n t j far 0 D D := ⟨fun _ _ _ => rfl, fun c _ h => absurd h (Nat.not_lt_zero c)⟩
theorem z_DSm_no {L : Nat → Nat → Nat} {n t j far c : Nat} {D0 D : Nat → Nat} (h : z_DSm L n t j far c D0 D) (hc : c < n) (h8 : D c = 8 → ∀ k, k < n → D0 k + 1 = far → ¬ t ≤ L c k) (hl : D c < 8 ∨ D c = 8) : z_DSm L n t j far (c + 1) D0 D := by
  refine ⟨fun x hx hcx => h.1 x hx (by omega), fun x hx hcx => ?_⟩
  rcases (by omega : x < c ∨ x = c) with e | e
  · exact h.2 x hx e
  · subst e
    have e0 := h.1 x hx (Nat.le_refl x)
    exact ⟨fun _ => e0, fun q => Or.inr ⟨e0.trans q, h8 (e0.trans q)⟩⟩
theorem z_DSm_yes {L : Nat → Nat → Nat} {n t j far c k : Nat} {D0 D : Nat → Nat} (h : z_DSm L n t j far c D0 D) (hc : c < n) (h8 : D c = 8) (hk : k < n) (hkf : D0 k + 1 = far) (ht : t ≤ L c k) : z_DSm L n t j far (c + 1) D0 (fun x => if x = c then far else D x) := by
  refine ⟨fun x hx hcx => by simp only [if_neg (by omega : ¬ x = c)]; exact h.1 x hx (by omega), fun x hx hcx => ?_⟩
  rcases (by omega : x < c ∨ x = c) with e | e
  · simp only [if_neg (by omega : ¬ x = c)]
    exact h.2 x hx e
  · subst e
    simp only [if_pos]
    have e0 := h.1 x hx (Nat.le_refl x)
    exact ⟨fun q => absurd (e0.symm.trans h8) (by omega), fun _ => Or.inl ⟨trivial, k, hk, hkf, ht⟩⟩
/-- what is met of a level does not change those of the level before -/
theorem z_DSm_lo {L : Nat → Nat → Nat} {n t j far c : Nat} {D0 D : Nat → Nat} (h : z_DSm L n t j far c D0 D) (h0 : z_DSf L n t j far D0) (hf8 : far < 8) {k : Nat} (hk : k < n) : D k + 1 = far ↔ D0 k + 1 = far := by
  rcases Nat.lt_or_ge k c with e | e
  · have h1 := h.2 k hk e
    have h2 := (h0.1 k hk).1
    rcases h2 with h2 | h2
    · rw [h1.1 (by omega)]
    · rcases h1.2 h2 with ⟨h3, _⟩ | ⟨h3, _⟩ <;> omega
  · rw [h.1 k hk e]
theorem z_updN {f : Nat → Int32} {D : Nat → Nat} {k v m : Nat} (h : ∀ c, c < m → f c = nI (D c)) : ∀ c, c < m → upd f k (nI v) c = nI ((fun x => if x = k then v else D x) c) := by
  intro c hc
  unfold upd
  by_cases e : c = k
  · simp only [if_pos e]
  · simp only [if_neg e]
    exact h c hc
abbrev z_lfI (L : Nat → Nat → Nat) (n t j far c k : Nat) (D0 D E : Nat → Nat) : Prop := (E = D ∧ (D c = 8 → ∀ x, x < k → D0 x + 1 = far → ¬ t ≤ L c x)) ∨ (E c = far ∧ z_DSm L n t j far (c + 1) D0 E)
theorem z_lf_a {L : Nat → Nat → Nat} {n t j far c k : Nat} {D0 D E : Nat → Nat} (h : z_lfI L n t j far c k D0 D E) (p : z_DSm L n t j far c D0 D) (hc : c < n) (hk : n ≤ k) (hl : D c ≤ 8) : z_DSm L n t j far (c + 1) D0 E := by
  rcases h with ⟨e, h⟩ | ⟨_, h⟩
  · subst e
    exact z_DSm_no p hc (fun q x hx => h q x (by omega)) (by omega)
  · exact h
theorem z_lf_b {L : Nat → Nat → Nat} {n t j far c k : Nat} {D0 D E : Nat → Nat} (h : z_lfI L n t j far c k D0 D E) (p : z_DSm L n t j far c D0 D) (hc : c < n) (h8 : ¬ E c = 8) (hl : D c ≤ 8) : z_DSm L n t j far (c + 1) D0 E := by
  rcases h with ⟨e, h⟩ | ⟨_, h⟩
  · subst e
    exact z_DSm_no p hc (fun q => absurd q h8) (by omega)
  · exact h
theorem z_lf_c {L : Nat → Nat → Nat} {n t j far c k : Nat} {D0 D E : Nat → Nat} (h : z_lfI L n t j far c k D0 D E) (p : z_DSm L n t j far c D0 D) (m4 : z_DSf L n t j far D0) (hf8 : far < 8) (m1 : 1 ≤ far) (hc : c < n) (hk : k < n) (h8 : E c = 8) (hkf : E k = far - 1) (ht : t ≤ L c k) : (fun x => if x = c then far else E x) c = far ∧ z_DSm L n t j far (c + 1) D0 (fun x => if x = c then far else E x) := by
  rcases h with ⟨e, h⟩ | ⟨h, _⟩
  · subst e
    exact ⟨if_pos rfl, z_DSm_yes p hc h8 hk ((z_DSm_lo p m4 hf8 hk).mp (by omega)) ht⟩
  · omega
theorem z_lf_d {L : Nat → Nat → Nat} {n t j far c k : Nat} {D0 D E : Nat → Nat} (h : z_lfI L n t j far c k D0 D E) (p : z_DSm L n t j far c D0 D) (m4 : z_DSf L n t j far D0) (hf8 : far < 8) (m1 : 1 ≤ far) (hk : k < n) (hno : ¬ E k = far - 1 ∨ ¬ t ≤ L c k) : z_lfI L n t j far c (k + 1) D0 D E := by
  rcases h with ⟨e, h⟩ | h
  · subst e
    refine Or.inl ⟨rfl, fun q x hx hxf ht => ?_⟩
    rcases (by omega : x < k ∨ x = k) with e2 | e2
    · exact h q x e2 hxf ht
    · subst e2
      have := (z_DSm_lo p m4 hf8 hk).mpr hxf
      rcases hno with q2 | q2
      · omega
      · exact q2 ht
  · exact Or.inr h
theorem z_lf_8 {E : Nat → Nat} {c0 far : Nat} (h : ∀ c, c < 8 → E c ≤ 8) (hf : far ≤ 8) : ∀ c, c < 8 → (fun x => if x = c0 then far else E x) c ≤ 8 := by
  intro c hc
  show (if c = c0 then far else E c) ≤ 8
  split
  · exact hf
  · exact h c hc
