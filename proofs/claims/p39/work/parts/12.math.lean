/-! sets told by a predicate, the first of the draw -/
def z_set : Nat → (Nat → Bool) → Nat
  | 0, _ => 0
  | n + 1, p => z_set n p ||| (if p n = true then 2 ^ n else 0)
theorem z_set_lt (p : Nat → Bool) : ∀ n, z_set n p < 2 ^ n
  | 0 => Nat.one_pos
  | n + 1 => by
    have h := z_set_lt p n
    have h2 : 2 ^ n < 2 ^ (n + 1) := Nat.pow_lt_pow_right (by decide) (Nat.lt_succ_self n)
    unfold z_set
    refine Nat.or_lt_two_pow (by omega) ?_
    split
    · exact h2
    · exact Nat.pow_pos (by decide)
theorem z_set_bit (p : Nat → Bool) (i : Nat) : ∀ n, (z_set n p).testBit i = (decide (i < n) && p i)
  | 0 => by simp [z_set]
  | n + 1 => by
    unfold z_set
    rw [Nat.testBit_or, z_set_bit p i n]
    by_cases e : i = n
    · subst e
      cases hp : p i with
      | true => simp [Nat.testBit_two_pow_self]
      | false => simp
    · have h1 : (if p n = true then 2 ^ n else 0).testBit i = false := by
        split
        · rw [z_p2bit]; exact decide_eq_false (fun q => e q.symm)
        · exact Nat.zero_testBit i
      rw [h1, Bool.or_false]
      have : decide (i < n) = decide (i < n + 1) := decide_eq_decide.mpr (by omega)
      rw [this]
theorem z_set_T {p : Nat → Bool} {j b : Nat} (hb : b = z_set j p) (h : p j = true) : b ||| 2 ^ j = z_set (j + 1) p := by
  subst hb
  unfold z_set
  rw [if_pos h]
  cases j <;> rfl
theorem z_set_F {p : Nat → Bool} {j b : Nat} (hb : b = z_set j p) (h : p j = false) : b ||| 0 = z_set (j + 1) p := by
  subst hb
  show _ = z_set j p ||| _
  rw [if_neg (by rw [h]; decide)]
theorem z_set_F0 {p : Nat → Bool} {j b : Nat} (hb : b = z_set j p) (h : p j = false) : b = z_set (j + 1) p := by
  rw [← z_set_F hb h, Nat.or_zero]
theorem z_set_congr {p q : Nat → Bool} : ∀ {n : Nat}, (∀ i, i < n → p i = q i) → z_set n p = z_set n q
  | 0, _ => rfl
  | n + 1, h => by
    show z_set n p ||| _ = z_set n q ||| _
    rw [z_set_congr (fun i hi => h i (by omega)), h n (by omega)]
def z_btb (K : Nat → Nat → Nat) (i j : Nat) : Bool := decide (i ≠ j ∧ K j i < K i j)
theorem z_btb_iff {K : Nat → Nat → Nat} {i j : Nat} : z_btb K i j = true ↔ z_bt K i j := by
  unfold z_btb z_bt
  exact decide_eq_true_iff
theorem z_btb_T {K : Nat → Nat → Nat} {i j : Nat} (h1 : ¬ i = j) (h2 : K j i < K i j) : z_btb K i j = true := decide_eq_true ⟨h1, h2⟩
theorem z_btb_F {K : Nat → Nat → Nat} {i j : Nat} (h : i = j ∨ ¬ K j i < K i j) : z_btb K i j = false := decide_eq_false (fun q => h.elim q.1 (fun x => x q.2))
def z_ubb (n : Nat) (K : Nat → Nat → Nat) (s j : Nat) : Bool := s.testBit j && z_allb n (fun i => !(s.testBit i && z_btb K i j))
def z_ub (n : Nat) (K : Nat → Nat → Nat) (s : Nat) : Nat := z_set n (z_ubb n K s)
theorem z_ub_lt {n : Nat} {K : Nat → Nat → Nat} {s : Nat} : z_ub n K s < 2 ^ n := z_set_lt _ n
theorem z_ub_bit {n : Nat} {K : Nat → Nat → Nat} {s j : Nat} (h : (z_ub n K s).testBit j = true) : j < n ∧ s.testBit j = true := by
  unfold z_ub at h
  rw [z_set_bit, Bool.and_eq_true, decide_eq_true_eq] at h
  refine ⟨h.1, ?_⟩
  have h2 := h.2
  unfold z_ubb at h2
  rw [Bool.and_eq_true] at h2
  exact h2.1
theorem z_ub_ex {L : Nat → Nat → Nat} {n : Nat} {K : Nat → Nat → Nat} {s : Nat} (h : z_rows L n K) (hs : ∃ j, j < n ∧ s.testBit j = true) : ∃ j, j < n ∧ (z_ub n K s).testBit j = true := by
  obtain ⟨j, hj, hb, hno⟩ := z_unb h s hs
  refine ⟨j, hj, ?_⟩
  unfold z_ub
  rw [z_set_bit, decide_eq_true hj, Bool.true_and]
  unfold z_ubb
  rw [hb, Bool.true_and, z_allb_iff]
  intro i hi
  cases hbi : s.testBit i with
  | false => rfl
  | true =>
    cases hq : z_btb K i j with
    | false => rfl
    | true => exact absurd (z_btb_iff.mp hq) (hno i hi hbi)
def z_fd (dr : Nat → Nat) (s : Nat) : Nat → Nat → Nat
  | 0, k => dr k
  | m + 1, k => if s.testBit (dr k) = true then dr k else z_fd dr s m (k + 1)
theorem z_fd_hit {dr : Nat → Nat} {s n k : Nat} (hk : k < n) (h : s.testBit (dr k) = true) : z_fd dr s (n - k) k = dr k := by
  rw [show n - k = (n - (k + 1)) + 1 by omega]
  unfold z_fd
  rw [if_pos h]
theorem z_fd_miss {dr : Nat → Nat} {s n k : Nat} (hk : k < n) (h : s.testBit (dr k) = false) : z_fd dr s (n - k) k = z_fd dr s (n - (k + 1)) (k + 1) := by
  rw [show n - k = (n - (k + 1)) + 1 by omega]
  show (if s.testBit (dr k) = true then dr k else _) = _
  rw [if_neg (by rw [h]; decide)]
theorem z_fd_mem {dr : Nat → Nat} {s : Nat} : ∀ {m k : Nat}, (∃ j, k ≤ j ∧ j < k + m ∧ s.testBit (dr j) = true) → s.testBit (z_fd dr s m k) = true ∧ ∃ j, k ≤ j ∧ j < k + m ∧ z_fd dr s m k = dr j
  | 0, k, ⟨j, h1, h2, _⟩ => by omega
  | m + 1, k, ⟨j, h1, h2, h3⟩ => by
    unfold z_fd
    by_cases e : s.testBit (dr k) = true
    · rw [if_pos e]
      exact ⟨e, k, Nat.le_refl k, by omega, rfl⟩
    · rw [if_neg e]
      have hne : j ≠ k := fun q => e (q ▸ h3)
      obtain ⟨h4, j2, h5, h6, h7⟩ := z_fd_mem (m := m) (k := k + 1) ⟨j, by omega, by omega, h3⟩
      exact ⟨h4, j2, by omega, by omega, h7⟩
/-- the first by the draw of those unbeaten -/
def z_fi (n : Nat) (dr : Nat → Nat) (K : Nat → Nat → Nat) (s : Nat) : Nat := z_fd dr (z_ub n K s) n 0
theorem z_fi_mem {L : Nat → Nat → Nat} {n : Nat} {dr : Nat → Nat} {K : Nat → Nat → Nat} {s : Nat} (h : z_rows L n K) (hd : ∀ c, c < n → ∃ k, k < n ∧ dr k = c) (hs : ∃ j, j < n ∧ s.testBit j = true) : z_fi n dr K s < n ∧ s.testBit (z_fi n dr K s) = true := by
  obtain ⟨j, hj, hb⟩ := z_ub_ex h hs
  obtain ⟨k, hk, e⟩ := hd j hj
  have h1 := (z_fd_mem (dr := dr) (s := z_ub n K s) (m := n) (k := 0) ⟨k, Nat.zero_le k, by omega, by rw [e]; exact hb⟩).1
  exact z_ub_bit h1
def z_rv (n : Nat) (dr : Nat → Nat) (K : Nat → Nat → Nat) (s : Nat) : Nat → Nat
  | 0 => s
  | k + 1 => z_dif (z_rv n dr K s k) (2 ^ z_fi n dr K (z_rv n dr K s k))
theorem z_pc_del {s k : Nat} (hs : s < 256) (hk : k < 8) (hb : s.testBit k = true) : z_pc (z_dif s (2 ^ k)) + 1 = z_pc s := z_all2 (P := fun s k => s.testBit k = true → z_pc (z_dif s (2 ^ k)) + 1 = z_pc s) (m := 256) (n := 8) (by decide +kernel) hs hk hb
theorem z_pc_0 {s : Nat} (hs : s < 256) : s = 0 ↔ z_pc s = 0 := z_all1 (P := fun s => s = 0 ↔ z_pc s = 0) (m := 256) (by decide +kernel) hs
theorem z_pc_pos {s : Nat} (hs : s < 256) (h : s ≠ 0) : 1 ≤ z_pc s := by
  have := z_pc_0 hs
  omega
theorem z_bit_n {s n i : Nat} (hs : s < 2 ^ n) (h : s.testBit i = true) : i < n := by
  rcases Nat.lt_or_ge i n with q | q
  · exact q
  · rw [Nat.testBit_lt_two_pow (Nat.lt_of_lt_of_le hs (Nat.pow_le_pow_right (by decide) q))] at h
    cases h
theorem z_ex_n {s n : Nat} (hs : s < 2 ^ n) (h : s ≠ 0) : ∃ j, j < n ∧ s.testBit j = true := by
  obtain ⟨i, hi⟩ := z_ex_bit h
  exact ⟨i, z_bit_n hs hi, hi⟩
theorem z_ins_lt {n outs : Nat} : z_dif (2 ^ n - 1) outs < 2 ^ n := by
  have := z_dif_le (s := 2 ^ n - 1) (t := outs)
  have := Nat.one_le_two_pow (n := n)
  omega
theorem z_rv_lt {n : Nat} {dr : Nat → Nat} {K : Nat → Nat → Nat} {s : Nat} (hs : s < 2 ^ n) : ∀ k, z_rv n dr K s k < 2 ^ n
  | 0 => hs
  | k + 1 => Nat.lt_of_le_of_lt z_dif_le (z_rv_lt hs k)
theorem z_rv_pc {L : Nat → Nat → Nat} {n : Nat} {dr : Nat → Nat} {K : Nat → Nat → Nat} {s : Nat} (hn : n ≤ 8) (h : z_rows L n K) (hd : ∀ c, c < n → ∃ k, k < n ∧ dr k = c) (hs : s < 2 ^ n) : ∀ k, k ≤ z_pc s → z_pc (z_rv n dr K s k) + k = z_pc s
  | 0, _ => rfl
  | k + 1, hk => by
    have h1 := z_rv_pc hn h hd hs k (by omega)
    have h2 := z_rv_lt (dr := dr) (K := K) hs k
    have h3 := z_p2 hn
    have h4 : z_rv n dr K s k ≠ 0 := fun e => by
      rw [e] at h1
      have : z_pc 0 = 0 := rfl
      omega
    obtain ⟨h5, h6⟩ := z_fi_mem h hd (z_ex_n h2 h4)
    have h7 := z_pc_del (s := z_rv n dr K s k) (k := z_fi n dr K (z_rv n dr K s k)) (by omega) (by omega) h6
    show z_pc (z_dif _ _) + _ = _
    omega
theorem z_rv_ex {L : Nat → Nat → Nat} {n : Nat} {dr : Nat → Nat} {K : Nat → Nat → Nat} {s : Nat} (hn : n ≤ 8) (h : z_rows L n K) (hd : ∀ c, c < n → ∃ k, k < n ∧ dr k = c) (hs : s < 2 ^ n) {k : Nat} (hk : k < z_pc s) : ∃ j, j < n ∧ (z_rv n dr K s k).testBit j = true := by
  have h1 := z_rv_pc hn h hd hs k (by omega)
  have h2 := z_rv_lt (dr := dr) (K := K) hs k
  refine z_ex_n h2 (fun e => ?_)
  rw [e] at h1
  have : z_pc 0 = 0 := rfl
  omega
theorem z_dif_keep {s f c : Nat} (hs : s < 256) (h : s.testBit c = true) (hne : ¬ f = c) : (z_dif s (2 ^ f)).testBit c = true := by
  rw [z_dif_bit hs, h, z_p2bit, decide_eq_false hne]
  rfl
/-! ways to an aim -/
/-- of each the fewest links to j, 8 where there is none; links: t or more -/
def z_DS (L : Nat → Nat → Nat) (n t j : Nat) (D : Nat → Nat) : Prop := (∀ c, c < n → D c ≤ 8 ∧ (D c = 0 ↔ c = j)) ∧ (∀ c, c < n → D c ≠ 0 → D c < 8 → ∃ k, k < n ∧ D k + 1 = D c ∧ t ≤ L c k) ∧ ∀ c, c < n → ∀ k, k < n → D k < 7 → t ≤ L c k → D c ≤ D k + 1
def z_DSf (L : Nat → Nat → Nat) (n t j far : Nat) (D : Nat → Nat) : Prop := (∀ c, c < n → (D c < far ∨ D c = 8) ∧ (D c = 0 ↔ c = j)) ∧ (∀ c, c < n → D c ≠ 0 → D c < 8 → ∃ k, k < n ∧ D k + 1 = D c ∧ t ≤ L c k) ∧ ∀ c, c < n → ∀ k, k < n → D k + 1 < far → t ≤ L c k → D c ≤ D k + 1
theorem z_DSf_end {L : Nat → Nat → Nat} {n t j : Nat} {D : Nat → Nat} (h : z_DSf L n t j 8 D) : z_DS L n t j D := ⟨fun c hc => ⟨by have := (h.1 c hc).1; omega, (h.1 c hc).2⟩, h.2.1, fun c hc k hk h7 => h.2.2 c hc k hk (by omega)⟩
theorem z_DSf_0 {L : Nat → Nat → Nat} {n t j : Nat} {D : Nat → Nat} (h : ∀ c, c < n → D c = if c = j then 0 else 8) : z_DSf L n t j 1 D := by
  refine ⟨fun c hc => ?_, fun c hc h0 h8 => ?_, fun c hc k hk h1 => by omega⟩
  · rw [h c hc]
    by_cases e : c = j
    · rw [if_pos e]; exact ⟨Or.inl (by omega), ⟨fun _ => e, fun _ => rfl⟩⟩
    · rw [if_neg e]; exact ⟨Or.inr rfl, ⟨fun q => by omega, fun q => absurd q e⟩⟩
  · rw [h c hc] at h0 h8
    by_cases e : c = j
    · rw [if_pos e] at h0; exact absurd rfl h0
    · rw [if_neg e] at h8; omega
/-- while a level is met: those before c are through -/
def z_DSm (L : Nat → Nat → Nat) (n t j far c0 : Nat) (D0 D : Nat → Nat) : Prop := (∀ c, c < n → c0 ≤ c → D c = D0 c) ∧ ∀ c, c < n → c < c0 → (D0 c < 8 → D c = D0 c) ∧ (D0 c = 8 → (D c = far ∧ ∃ k, k < n ∧ D0 k + 1 = far ∧ t ≤ L c k) ∨ (D c = 8 ∧ ∀ k, k < n → D0 k + 1 = far → ¬ t ≤ L c k))
theorem z_DSm_end {L : Nat → Nat → Nat} {n t j far : Nat} {D0 D : Nat → Nat} (h0 : z_DSf L n t j far D0) (hf : 1 ≤ far) (hf8 : far < 8) (h : z_DSm L n t j far n D0 D) : z_DSf L n t j (far + 1) D := by
  obtain ⟨a1, a2, a3⟩ := h0
  have key : ∀ c, c < n → (D0 c < 8 → D c = D0 c) ∧ (D0 c = 8 → (D c = far ∧ ∃ k, k < n ∧ D0 k + 1 = far ∧ t ≤ L c k) ∨ (D c = 8 ∧ ∀ k, k < n → D0 k + 1 = far → ¬ t ≤ L c k)) := fun c hc => h.2 c hc hc
  have low : ∀ c, c < n → D c < far → D0 c = D c := by
    intro c hc hd
    have h1 := (key c hc).1
    have h2 := (key c hc).2
    have h3 := (a1 c hc).1
    rcases h3 with h3 | h3
    · rw [h1 (by omega)]
    · rcases h2 h3 with ⟨h4, _⟩ | ⟨h4, _⟩ <;> omega
  have up : ∀ c, c < n → D0 c < far → D c = D0 c := fun c hc hd => (key c hc).1 (by omega)
  refine ⟨fun c hc => ?_, fun c hc h0 h8 => ?_, fun c hc k hk h1 ht => ?_⟩
  · have h3 := a1 c hc
    rcases h3.1 with h4 | h4
    · rw [up c hc h4]
      exact ⟨Or.inl (by omega), h3.2⟩
    · rcases (key c hc).2 h4 with ⟨h5, _⟩ | ⟨h5, _⟩
      · exact ⟨Or.inl (by omega), ⟨fun q => by omega, fun q => by have := h3.2.mpr q; omega⟩⟩
      · exact ⟨Or.inr h5, ⟨fun q => by omega, fun q => by have := h3.2.mpr q; omega⟩⟩
  · rcases (a1 c hc).1 with h4 | h4
    · have e := up c hc h4
      rw [e] at h0 h8 ⊢
      obtain ⟨k, hk, h5, h6⟩ := a2 c hc h0 h8
      exact ⟨k, hk, by rw [up k hk (by omega)]; exact h5, h6⟩
    · rcases (key c hc).2 h4 with ⟨h5, k, hk, h6, h7⟩ | ⟨h5, _⟩
      · exact ⟨k, hk, by rw [up k hk (by omega), h5]; exact h6, h7⟩
      · omega
  · have e := low k hk (by omega)
    rcases (a1 c hc).1 with h4 | h4
    · rcases Nat.lt_or_ge (D0 k + 1) far with h5 | h5
      · have := a3 c hc k hk h5 ht
        rw [up c hc h4]; omega
      · rw [up c hc h4]; omega
    · rcases (key c hc).2 h4 with ⟨h5, _⟩ | ⟨h5, h6⟩
      · rcases Nat.lt_or_ge (D0 k + 1) far with h7 | h7
        · have := a3 c hc k hk h7 ht
          omega
        · omega
      · rcases Nat.lt_or_ge (D0 k + 1) far with h7 | h7
        · have := a3 c hc k hk h7 ht
          omega
        · exact absurd ht (h6 k hk (by omega))
theorem z_DS_path {L : Nat → Nat → Nat} {n t j : Nat} {D : Nat → Nat} (h : z_DS L n t j D) : ∀ {m c : Nat}, c < n → D c = m → m < 8 → ∀ p, p ≤ m → ∃ x, x < n ∧ D x = p
  | 0, c, hc, hd, _, p, hp => ⟨c, hc, by omega⟩
  | m + 1, c, hc, hd, hm, p, hp => by
    rcases Nat.lt_or_ge m p with q | q
    · exact ⟨c, hc, by omega⟩
    · obtain ⟨k, hk, h1, _⟩ := h.2.1 c hc (by omega) (by omega)
      exact z_DS_path h (m := m) hk (by omega) (by omega) p q
theorem z_DS_re {L : Nat → Nat → Nat} {n t j : Nat} {D : Nat → Nat} (hn : n ≤ 8) (h : z_DS L n t j D) : ∀ {m c : Nat}, c < n → z_rc L n t m c j → D c < 8
  | 0, c, hc, hr => by
    have e : c = j := hr
    have := (h.1 c hc).2.mpr e
    omega
  | m + 1, c, hc, hr => by
    obtain ⟨k, hk, ht, hr2⟩ := hr
    have h1 := z_DS_re hn h hk hr2
    rcases Nat.lt_or_ge (D k) 7 with q | q
    · have := h.2.2 c hc k hk q ht
      omega
    · -- eight levels, so c is one of them
      have h7 : D k = 7 := by omega
      rcases Nat.lt_or_ge (D c) 8 with q2 | q2
      · exact q2
      · have := z_pigeon 8 n D (fun p hp => by
          rcases Nat.lt_or_ge p 8 with q3 | q3
          · exact z_DS_path h hk h7 (by omega) p (by omega)
          · exact ⟨c, hc, by have := (h.1 c hc).1; omega⟩)
        omega
/-- the least next one -/
def z_nx (L : Nat → Nat → Nat) (n t : Nat) (D : Nat → Nat) (c x : Nat) : Prop := x < n ∧ D x + 1 = D c ∧ t ≤ L c x ∧ ∀ y, y < x → ¬ (D y + 1 = D c ∧ t ≤ L c y)
/-- THE WAY from i, as far as m -/
def z_rt (L : Nat → Nat → Nat) (n t i : Nat) (D row : Nat → Nat) (m : Nat) : Prop := row 0 = i ∧ ∀ k, k + 1 < m → z_nx L n t D (row k) (row (k + 1))
theorem z_rt_D {L : Nat → Nat → Nat} {n t i : Nat} {D row : Nat → Nat} {m : Nat} (h : z_rt L n t i D row m) : ∀ k, k < m → D (row k) + k = D i
  | 0, _ => by rw [h.1]; rfl
  | k + 1, hk => by
    have h1 := z_rt_D h k (by omega)
    have h2 := (h.2 k hk).2.1
    omega
theorem z_rt_put {L : Nat → Nat → Nat} {n t i x : Nat} {D : Nat → Nat} {row : Nat → Nat} {m : Nat} (h : z_rt L n t i D row m) (hm : 0 < m) (hx : z_nx L n t D (row (m - 1)) x) : z_rt L n t i D (fun k => if k = m then x else row k) (m + 1) := by
  refine ⟨by simp only [if_neg (by omega : ¬ 0 = m)]; exact h.1, fun k hk => ?_⟩
  rcases (by omega : k + 1 < m ∨ k + 1 = m) with e | e
  · simp only [if_neg (by omega : ¬ k = m), if_neg (by omega : ¬ k + 1 = m)]
    exact h.2 k e
  · simp only [if_neg (by omega : ¬ k = m), if_pos e]
    have : m - 1 = k := by omega
    rw [this] at hx
    exact hx
theorem z_rk_more {L : Nat → Nat → Nat} {n : Nat} {dr : Nat → Nat} {K : Nat → Nat → Nat} {s kv st fs c : Nat} (hn : n ≤ 8) (h : z_rows L n K) (hd : ∀ c, c < n → ∃ k, k < n ∧ dr k = c) (hs : s < 2 ^ n) (h1 : kv < z_pc s) (h2 : st = z_rv n dr K s kv) (h3 : fs = z_fi n dr K st) (h4 : (z_dif st (2 ^ fs)).testBit c = true) (hc : c < n) : kv + 1 < z_pc s := by
  have h5 := z_rv_pc hn h hd hs (kv + 1) (by omega)
  have h6 : z_rv n dr K s (kv + 1) = z_dif st (2 ^ fs) := by rw [h3, h2]; rfl
  rw [h6] at h5
  have h7 := z_pc_pos (s := z_dif st (2 ^ fs)) (by
    have := z_rv_lt (dr := dr) (K := K) hs (kv + 1)
    rw [h6] at this
    have := z_p2 hn
    omega) (z_ne0 h4)
  omega
