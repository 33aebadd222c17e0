/-! the law's methods: numbers -/
def y_7 (z : Int32) : Nat := (z &&& nI 7).toNatClampNeg
theorem y_7_bv (z : Int32) : z &&& nI 7 = nI (z.toBitVec.toNat % 8) := by
  apply Int32.toBitVec_inj.mp
  rw [Int32.toBitVec_and]
  apply BitVec.eq_of_toNat_eq
  rw [BitVec.toNat_and]
  rw [show (nI 7).toBitVec.toNat = 2 ^ 3 - 1 from by decide +kernel, Nat.and_two_pow_sub_one_eq_mod]
  show z.toBitVec.toNat % 8 = _
  have h : z.toBitVec.toNat % 8 < 8 := Nat.mod_lt _ (by decide)
  generalize z.toBitVec.toNat % 8 = m at h ⊢
  have hh : ∀ m, m < 8 → m = (nI m).toBitVec.toNat := by decide +kernel
  exact hh m h
theorem y_7_eq (z : Int32) : z &&& nI 7 = nI (y_7 z) := by
  unfold y_7
  rw [y_7_bv, nI_clamp (by have := Nat.mod_lt z.toBitVec.toNat (show 0 < 8 by decide); omega)]
theorem y_7_lt (z : Int32) : y_7 z < 8 := by
  unfold y_7
  rw [y_7_bv, nI_clamp (by have := Nat.mod_lt z.toBitVec.toNat (show 0 < 8 by decide); omega)]
  exact Nat.mod_lt _ (by decide)
theorem y_decinc (p : Nat) : (nI p + -nI 1) + nI 1 = nI p := by
  cases p with
  | zero => decide
  | succ p =>
    have e : nI (p + 1) + -nI 1 = nI p := (Int32.sub_eq_add_neg _ _).symm.trans (pk_sub (Nat.le_add_left 1 p))
    rw [e]
    exact nI_add p 1
theorem y_or01 {h : Nat} (hh : h ≤ 1) : h ||| 1 = 1 ∧ h ||| 0 = h := by
  rcases (by omega : h = 0 ∨ h = 1) with rfl | rfl <;> decide
theorem y_bits_step : ∀ k, k < 256 → k ≠ 0 → z_pc (k &&& (k - 1)) + 1 = z_pc k ∧ k &&& (k - 1) < k := by decide +kernel
theorem y_pc0 : z_pc 0 = 0 := by decide +kernel
/-- a place above p is one less -/
def y_sh (q : Nat → Nat) (p : Nat) : Nat → Nat := fun c => if p < q c then q c - 1 else q c
theorem y_sh_le (q : Nat → Nat) (p c : Nat) : y_sh q p c ≤ q c := by
  unfold y_sh
  split <;> omega
theorem y_sum_le {f g : Nat → Nat} : ∀ {n : Nat}, (∀ i, i < n → f i ≤ g i) → z_sum n f ≤ z_sum n g
  | 0, _ => Nat.le_refl _
  | n + 1, h => by
    have h1 := y_sum_le (n := n) (fun i hi => h i (by omega))
    have h2 := h n (by omega)
    show z_sum n f + f n ≤ z_sum n g + g n
    omega
theorem y_sum_lt {f g : Nat → Nat} : ∀ {n i : Nat}, (∀ i, i < n → f i ≤ g i) → i < n → f i < g i → z_sum n f < z_sum n g
  | 0, i, _, hi, _ => absurd hi (Nat.not_lt_zero i)
  | n + 1, i, h, hi, hl => by
    show z_sum n f + f n < z_sum n g + g n
    have h0 := y_sum_le (n := n) (fun i hi => h i (by omega))
    have h2 := h n (by omega)
    rcases (by omega : i = n ∨ i < n) with rfl | h3
    · omega
    · have := y_sum_lt (n := n) (fun i hi => h i (by omega)) h3 hl
      omega
/-- places below p are taken, or none is there nor above -/
def y_gap (n p : Nat) (q : Nat → Nat) : Prop := ∀ x, x < p → (∃ c, c < n ∧ q c = x) ∨ ∀ c, c < n → q c < x
theorem y_gap_RK {n : Nat} {q : Nat → Nat} (h : y_gap n n q) (hq : ∀ c, c < n → q c < n) : z_RK n q := by
  refine ⟨hq, fun c hc p hp => ?_⟩
  have := hq c hc
  rcases h p (by omega) with h1 | h1
  · exact h1
  · have := h1 c hc
    omega
theorem y_gap_sh {n p : Nat} {q : Nat → Nat} (h : y_gap n p q) (hm : ∃ c, c < n ∧ p < q c) : y_gap n p (y_sh q p) := by
  intro x hx
  rcases h x hx with ⟨c, hc, e⟩ | h1
  · refine Or.inl ⟨c, hc, ?_⟩
    unfold y_sh
    rw [if_neg (by omega)]
    exact e
  · obtain ⟨c, hc, e⟩ := hm
    have := h1 c hc
    omega
theorem y_gap_up {n p : Nat} {q : Nat → Nat} (h : y_gap n p q) (h2 : (∃ c, c < n ∧ q c = p) ∨ ∀ c, c < n → q c < p) : y_gap n (p + 1) q := by
  intro x hx
  rcases (by omega : x < p ∨ x = p) with h3 | rfl
  · exact h x h3
  · exact h2
/-! texts -/
theorem y_sp_ne {n m : Nat} {q : Nat → Nat} (hm : 0 < m) (h : ∀ p, p < m → z_ct n (fun x => decide (q x = p)) ≠ 0) : z_sp n q m ≠ [] := by
  intro e
  have h1 : (z_sp n q m).length = 0 := by rw [e]; rfl
  cases m with
  | zero => omega
  | succ m =>
    have h2 : (z_sp1 q m n (z_sp n q m)).length = 0 := h1
    rw [z_sp1_len] at h2
    have := h m (by omega)
    split at h2 <;> omega
theorem y_sp1_yes {q : Nat → Nat} {p c : Nat} {L : List Nat} (h : q c = p) : z_sp1 q p (c + 1) L = (if z_sp1 q p c L = [] then [] else z_sp1 q p c L ++ [if z_ct c (fun x => decide (q x = p)) = 0 then 62 else 61]) ++ [48 + c] := by
  show (if q c = p then _ else _) = _
  rw [if_pos h]
theorem y_sp1_no {q : Nat → Nat} {p c : Nat} {L : List Nat} (h : ¬ q c = p) : z_sp1 q p (c + 1) L = z_sp1 q p c L := by
  show (if q c = p then _ else _) = _
  rw [if_neg h]
theorem y_sp1_0 {q : Nat → Nat} {p : Nat} {L : List Nat} : ∀ {c : Nat}, z_ct c (fun x => decide (q x = p)) = 0 → z_sp1 q p c L = L
  | 0, _ => rfl
  | c + 1, h => by
    have h1 : z_ct c (fun x => decide (q x = p)) = 0 ∧ ¬ q c = p := by
      have h2 : z_ct c (fun x => decide (q x = p)) + (if decide (q c = p) = true then 1 else 0) = 0 := h
      refine ⟨by omega, fun e => ?_⟩
      rw [if_pos (decide_eq_true e)] at h2
      omega
    rw [y_sp1_no h1.2]
    exact y_sp1_0 h1.1
theorem y_sp1_ne {q : Nat → Nat} {p : Nat} {L : List Nat} : ∀ {c : Nat}, z_ct c (fun x => decide (q x = p)) ≠ 0 → z_sp1 q p c L ≠ []
  | 0, h => absurd rfl h
  | c + 1, h => by
    by_cases e : q c = p
    · rw [y_sp1_yes e]
      simp
    · rw [y_sp1_no e]
      refine y_sp1_ne (c := c) (fun h2 => h ?_)
      show z_ct c (fun x => decide (q x = p)) + (if decide (q c = p) = true then 1 else 0) = 0
      rw [h2, if_neg (by simpa using e)]
/-- a candidate is told: the sign ahead of it -/
theorem y_told1 {n p c : Nat} {q : Nat → Nat} (h : q c = p) (hct : z_ct c (fun x => decide (q x = p)) = 0) (hp : p = 0) : (z_sp1 q p c (z_sp n q p) ++ []) ++ [48 + c] = z_sp1 q p (c + 1) (z_sp n q p) := by
  subst hp
  rw [y_sp1_yes h, y_sp1_0 hct]
  rfl
theorem y_told2 {n p c : Nat} {q : Nat → Nat} (h : q c = p) (hct : z_ct c (fun x => decide (q x = p)) = 0) (hp : 0 < p) (hne : ∀ x, x < p → z_ct n (fun y => decide (q y = x)) ≠ 0) : (z_sp1 q p c (z_sp n q p) ++ [62]) ++ [48 + c] = z_sp1 q p (c + 1) (z_sp n q p) := by
  rw [y_sp1_yes h, y_sp1_0 hct, if_neg (y_sp_ne hp hne), if_pos hct]
theorem y_told3 {n p c : Nat} {q : Nat → Nat} (h : q c = p) (hct : z_ct c (fun x => decide (q x = p)) ≠ 0) : (z_sp1 q p c (z_sp n q p) ++ [61]) ++ [48 + c] = z_sp1 q p (c + 1) (z_sp n q p) := by
  rw [y_sp1_yes h, if_neg (y_sp1_ne hct), if_neg hct]
theorem y_ct_yes {c : Nat} {f : Nat → Bool} (h : f c = true) : z_ct (c + 1) f = z_ct c f + 1 := by
  show z_ct c f + (if f c = true then 1 else 0) = _
  rw [if_pos h]
theorem y_ct_no {c : Nat} {f : Nat → Bool} (h : f c = false) : z_ct (c + 1) f = z_ct c f := by
  show z_ct c f + (if f c = true then 1 else 0) = _
  rw [if_neg (by rw [h]; decide)]
  rfl
theorem y_hasY {q : Nat → Nat} {d p : Nat} (h : q d = p) : (1 : Nat) = 0 ↔ ∀ x, x < d + 1 → q x ≠ p := ⟨fun z => absurd z (by decide), fun z => absurd h (z d (by omega))⟩
theorem y_hasN {q : Nat → Nat} {d p ha : Nat} (h : ha = 0 ↔ ∀ x, x < d → q x ≠ p) (h2 : ¬ q d = p) : ha = 0 ↔ ∀ x, x < d + 1 → q x ≠ p := ⟨fun z x hx => by
  rcases (by omega : x = d ∨ x < d) with rfl | h3
  · exact h2
  · exact h.mp z x h3, fun z => h.mpr (fun x hx => z x (by omega))⟩
theorem y_morY {q : Nat → Nat} {d p : Nat} (h : ¬ q d ≤ p) : (1 : Nat) = 0 ↔ ∀ x, x < d + 1 → q x ≤ p := ⟨fun z => absurd z (by decide), fun z => absurd (z d (by omega)) h⟩
theorem y_morN {q : Nat → Nat} {d p mo : Nat} (h : mo = 0 ↔ ∀ x, x < d → q x ≤ p) (h2 : q d ≤ p) : mo = 0 ↔ ∀ x, x < d + 1 → q x ≤ p := ⟨fun z x hx => by
  rcases (by omega : x = d ∨ x < d) with rfl | h3
  · exact h2
  · exact h.mp z x h3, fun z => h.mpr (fun x hx => z x (by omega))⟩
theorem y_hasE {q : Nat → Nat} {d p ha : Nat} (h : ha = 0 ↔ ∀ x, x < d → q x ≠ p) (h2 : ¬ ha = 0) : ∃ c, c < d ∧ q c = p := Classical.byContradiction fun z => h2 (h.mpr (fun x hx e => z ⟨x, hx, e⟩))
theorem y_morE {q : Nat → Nat} {d p mo : Nat} (h : mo = 0 ↔ ∀ x, x < d → q x ≤ p) (h2 : ¬ mo = 0) : ∃ c, c < d ∧ p < q c := Classical.byContradiction fun z => h2 (h.mpr (fun x hx => Nat.not_lt.mp (fun e => z ⟨x, hx, e⟩)))
theorem y_sh_y {q : Nat → Nat} {p c : Nat} (h : p < q c) : y_sh q p c = q c - 1 := if_pos h
theorem y_sh_n {q : Nat → Nat} {p c : Nat} (h : ¬ p < q c) : y_sh q p c = q c := if_neg h
theorem y_sh_lt {n p : Nat} {q : Nat → Nat} (hm : ∃ c, c < n ∧ p < q c) : z_sum n (y_sh q p) < z_sum n q := by
  obtain ⟨c, hc, h⟩ := hm
  exact y_sum_lt (fun i _ => y_sh_le q p i) hc (by rw [y_sh_y h]; omega)
theorem y_ct2 {q : Nat → Nat} {p : Nat} : ∀ c, z_ct c (fun x => decide (q x < p)) + z_ct c (fun x => decide (q x = p)) ≤ c
  | 0 => Nat.le_refl _
  | c + 1 => by
    have ih := y_ct2 (q := q) (p := p) c
    show (z_ct c (fun x => decide (q x < p)) + (if decide (q c < p) = true then 1 else 0)) + (z_ct c (fun x => decide (q x = p)) + (if decide (q c = p) = true then 1 else 0)) ≤ c + 1
    by_cases h : q c < p
    · rw [if_pos (decide_eq_true h), if_neg (by simpa using (by omega : ¬ q c = p))]
      omega
    · rw [if_neg (by simpa using h)]
      split <;> omega
theorem y_ct_n {f : Nat → Bool} {c : Nat} : ∀ {n : Nat}, c ≤ n → z_ct n f ≤ z_ct c f + (n - c)
  | 0, h => by
    obtain rfl : c = 0 := by omega
    omega
  | n + 1, h => by
    rcases (by omega : c = n + 1 ∨ c ≤ n) with rfl | h2
    · omega
    · have ih := y_ct_n (f := f) h2
      show z_ct n f + (if f n = true then 1 else 0) ≤ _
      split <;> omega
theorem y_sp1_le {n p c : Nat} {q : Nat → Nat} (hn : 2 ≤ n) (h : z_RK n q) (hp : p ≤ z_mx n q + 1) (hc : c ≤ n) : (z_sp1 q p c (z_sp n q p)).length ≤ 2 * n := by
  have h1 := z_sp_len hn h hp
  have h2 := y_ct2 (q := q) (p := p) c
  have h3 := y_ct_n (f := fun x => decide (q x < p)) hc
  rw [z_sp1_len]
  split <;> omega
theorem y_ct_ne {n x : Nat} {q : Nat → Nat} (hn : 0 < n) (h : z_RK n q) (hx : x ≤ z_mx n q) : z_ct n (fun y => decide (q y = x)) ≠ 0 := by
  obtain ⟨c, hc, e⟩ := z_mx_at (q := q) hn
  obtain ⟨d, hd, e2⟩ : ∃ d, d < n ∧ q d = x := by
    rcases (by omega : x = z_mx n q ∨ x < z_mx n q) with rfl | h2
    · exact ⟨c, hc, e⟩
    · exact h.2 c hc x (by omega)
  intro h0
  have key : ∀ m, m ≤ n → z_ct m (fun y => decide (q y = x)) = 0 → ∀ y, y < m → q y ≠ x := by
    intro m
    induction m with
    | zero => intro _ _ y hy; exact absurd hy (Nat.not_lt_zero y)
    | succ m ih =>
      intro hm hz y hy
      have h3 : z_ct m (fun y => decide (q y = x)) + (if decide (q m = x) = true then 1 else 0) = 0 := hz
      rcases (by omega : y = m ∨ y < m) with rfl | h4
      · intro e3
        rw [if_pos (decide_eq_true e3)] at h3
        omega
      · exact ih (by omega) (by omega) y h4
  exact key n (Nat.le_refl n) h0 d hd e2
theorem y_Sb_nil : y_Sb [] 16 (fun _ => 0) := ⟨by decide, by decide, fun k hk => absurd hk (Nat.not_lt_zero k), fun c hc => (by cases hc), sb_fit0⟩
theorem y_mem {L : List Nat} {k : Nat} (h : k < L.length) : L.getD k 0 ∈ L := by
  rw [List.getD_eq_getElem?_getD, List.getElem?_eq_getElem h]
  exact List.getElem_mem h
set_option maxHeartbeats 4000000 in
set_option maxRecDepth 1000000 in
theorem c_L_cell {ε : y_Ev} {i : Nat} (hi : i < 1000) (hL : y_L ε ≤ 260) : y_C ε zmL_cell 1 60 0 0 [.ref (y_a ε 42), .int (nI i)] (([] : va_W)) (fun r w2 => ∃ (v : Int32), r = some (.int v) ∧ w2 = ([] : va_W)) := by
  refine y_start (y := 140) rfl rfl (fun κ hC hT hN0 => ?_)
  refine y_steps hC 3 (σ' := (4, [(0, .ref (y_a ε 42)), (1, .int (nI i))], [.ref (y_a ε 42), .int (nI i), .int (nI 69069)], [])) rfl ?_
  refine y_slen hC rfl ?_
  refine y_steps hC 0 (σ' := (5, [(0, .ref (y_a ε 42)), (1, .int (nI i))], [.int (nI (y_L ε)), .int (nI i), .int (nI 69069)], [])) rfl ?_
  refine y_if hC (c := nI (y_L ε) ≤ nI i) rfl (fun c_5 => ?_) (fun c_5 => ?_)
  · skip
    rw [nI_leI (by omega) (by omega)] at c_5
    refine y_steps hC 3 (σ' := (19, [(0, .ref (y_a ε 42)), (1, .int (nI i))], [.int (nI i), .int (nI 1009), .int (nI 0), .int (nI 69069)], [])) rfl ?_
    refine y_mul hC (1009 * i) rfl (by first | rfl | omega | simp) ?_
    refine y_steps hC 0 (σ' := (20, [(0, .ref (y_a ε 42)), (1, .int (nI i))], [.int (nI (1009 * i)), .int (nI 0), .int (nI 69069)], [])) rfl ?_
    refine y_add hC (1009 * i) rfl (by first | rfl | omega) ?_
    refine y_steps hC 0 (σ' := (21, [(0, .ref (y_a ε 42)), (1, .int (nI i))], [.int (nI (1009 * i)), .int (nI 69069)], [])) rfl ?_
    refine y_mul hC (69069 * (1009 * i)) rfl (by first | rfl | omega | simp) ?_
    refine y_steps hC 1 (σ' := (25, [(0, .ref (y_a ε 42)), (1, .int (nI i))], [.int (nI 12345), .int (nI (69069 * (1009 * i)))], [])) rfl ?_
    refine y_add hC (69069 * (1009 * i) + 12345) rfl (by first | rfl | omega) ?_
    refine y_steps hC 14 (σ' := (43, [(2, .int (((((nI (69069 * (1009 * i) + 12345)) ^^^ ((((nI (69069 * (1009 * i) + 12345))).toUInt32 >>> (((nI 13)).toUInt32 &&& Int32.toUInt32 31)).toInt32))) * (nI 1103515245)))), (0, .ref (y_a ε 42)), (1, .int (nI i))], [.int (((((((nI (69069 * (1009 * i) + 12345)) ^^^ ((((nI (69069 * (1009 * i) + 12345))).toUInt32 >>> (((nI 13)).toUInt32 &&& Int32.toUInt32 31)).toInt32))) * (nI 1103515245))) ^^^ ((((((((nI (69069 * (1009 * i) + 12345)) ^^^ ((((nI (69069 * (1009 * i) + 12345))).toUInt32 >>> (((nI 13)).toUInt32 &&& Int32.toUInt32 31)).toInt32))) * (nI 1103515245)))).toUInt32 >>> (((nI 16)).toUInt32 &&& Int32.toUInt32 31)).toInt32)))], [])) rfl ?_
    exact y_iret hC hT rfl rfl (by omega) (by omega) ⟨((((((nI (69069 * (1009 * i) + 12345)) ^^^ ((((nI (69069 * (1009 * i) + 12345))).toUInt32 >>> (((nI 13)).toUInt32 &&& Int32.toUInt32 31)).toInt32))) * (nI 1103515245))) ^^^ ((((((((nI (69069 * (1009 * i) + 12345)) ^^^ ((((nI (69069 * (1009 * i) + 12345))).toUInt32 >>> (((nI 13)).toUInt32 &&& Int32.toUInt32 31)).toInt32))) * (nI 1103515245)))).toUInt32 >>> (((nI 16)).toUInt32 &&& Int32.toUInt32 31)).toInt32)), rfl, (by rfl)⟩
  · skip
    rw [nI_leI (by omega) (by omega)] at c_5
    refine y_steps hC 2 (σ' := (10, [(0, .ref (y_a ε 42)), (1, .int (nI i))], [.int (nI i), .ref (y_a ε 42), .int (nI 69069)], [])) rfl ?_
    refine y_sld hC rfl (by first | assumption | omega | rfl | trivial) ?_
    refine y_steps hC 3 (σ' := (19, [(0, .ref (y_a ε 42)), (1, .int (nI i))], [.int (nI i), .int (nI 1009), .int ((y_x ε i)), .int (nI 69069)], [])) rfl ?_
    refine y_mul hC (1009 * i) rfl (by first | rfl | omega | simp) ?_
    refine y_steps hC 18 (σ' := (43, [(2, .int (((((((((nI 69069) * ((((y_x ε i)) + (nI (1009 * i)))))) + (nI 12345))) ^^^ ((((((((nI 69069) * ((((y_x ε i)) + (nI (1009 * i)))))) + (nI 12345)))).toUInt32 >>> (((nI 13)).toUInt32 &&& Int32.toUInt32 31)).toInt32))) * (nI 1103515245)))), (0, .ref (y_a ε 42)), (1, .int (nI i))], [.int (((((((((((nI 69069) * ((((y_x ε i)) + (nI (1009 * i)))))) + (nI 12345))) ^^^ ((((((((nI 69069) * ((((y_x ε i)) + (nI (1009 * i)))))) + (nI 12345)))).toUInt32 >>> (((nI 13)).toUInt32 &&& Int32.toUInt32 31)).toInt32))) * (nI 1103515245))) ^^^ ((((((((((((nI 69069) * ((((y_x ε i)) + (nI (1009 * i)))))) + (nI 12345))) ^^^ ((((((((nI 69069) * ((((y_x ε i)) + (nI (1009 * i)))))) + (nI 12345)))).toUInt32 >>> (((nI 13)).toUInt32 &&& Int32.toUInt32 31)).toInt32))) * (nI 1103515245)))).toUInt32 >>> (((nI 16)).toUInt32 &&& Int32.toUInt32 31)).toInt32)))], [])) rfl ?_
    exact y_iret hC hT rfl rfl (by omega) (by omega) ⟨((((((((((nI 69069) * ((((y_x ε i)) + (nI (1009 * i)))))) + (nI 12345))) ^^^ ((((((((nI 69069) * ((((y_x ε i)) + (nI (1009 * i)))))) + (nI 12345)))).toUInt32 >>> (((nI 13)).toUInt32 &&& Int32.toUInt32 31)).toInt32))) * (nI 1103515245))) ^^^ ((((((((((((nI 69069) * ((((y_x ε i)) + (nI (1009 * i)))))) + (nI 12345))) ^^^ ((((((((nI 69069) * ((((y_x ε i)) + (nI (1009 * i)))))) + (nI 12345)))).toUInt32 >>> (((nI 13)).toUInt32 &&& Int32.toUInt32 31)).toInt32))) * (nI 1103515245)))).toUInt32 >>> (((nI 16)).toUInt32 &&& Int32.toUInt32 31)).toInt32)), rfl, (by rfl)⟩
set_option maxHeartbeats 4000000 in
set_option maxRecDepth 1000000 in
theorem c_L_places {ε : y_Ev} {rf : Nat → Int32} {ra : Nat} {n : Nat} {q : Nat → Nat} (hn : n ≤ 8) (hr : ∀ c, c < n → rf c = nI (q c) ∧ q c < 8) : y_C ε zmL_places 1 60 0 0 [.ref ra, .int (nI n)] ([(ra, .inl (y_c ε 0, 8, .inl rf))]) (fun r w2 => r = some (.int (nI (z_mx n q + 1))) ∧ w2 = [(ra, .inl (y_c ε 0, 8, .inl rf))]) := by
  refine y_start (y := 143) rfl rfl (fun κ hC hT hN0 => ?_)
  refine y_steps hC 4 (σ' := (4, [(3, .int (nI 0)), (2, .int (nI 0)), (0, .ref ra), (1, .int (nI n))], [], [])) rfl ?_
  have loop_4 : ∀ (z_4 : Nat) (mo : Nat) (c : Nat), n - c < z_4 → ((c ≤ n ∧ mo = z_mx c q ∧ mo < 8)) → y_G ε κ zmL_places 0 0 ([(ra, .inl (y_c ε 0, 8, .inl rf))]) (4, [(0, .ref ra), (1, .int (nI n)), (2, .int (nI mo)), (3, .int (nI c))], [], []) := by
    intro z_4
    induction z_4 with
    | zero => intro mo c hm_4 _; exact absurd hm_4 (Nat.not_lt_zero _)
    | succ z_4 ih_4 =>
      intro mo c hm_4 hi_4
      obtain ⟨l1, l2, l3⟩ := hi_4
      refine y_steps hC 2 (σ' := (6, [(0, .ref ra), (1, .int (nI n)), (2, .int (nI mo)), (3, .int (nI c))], [.int (nI n), .int (nI c)], [])) rfl ?_
      refine y_if hC (c := nI n ≤ nI c) rfl (fun c_6 => ?_) (fun c_6 => ?_)
      · skip
        rw [nI_leI (by omega) (by omega)] at c_6
        refine y_steps hC 2 (σ' := (32, [(0, .ref ra), (1, .int (nI n)), (2, .int (nI mo)), (3, .int (nI c))], [.int (nI 1), .int (nI mo)], [])) rfl ?_
        refine y_add hC (mo + 1) rfl (by first | rfl | omega) ?_
        refine y_steps hC 0 (σ' := (33, [(0, .ref ra), (1, .int (nI n)), (2, .int (nI mo)), (3, .int (nI c))], [.int (nI (mo + 1))], [])) rfl ?_
        exact y_iret hC hT rfl rfl (by omega) (by omega) ⟨(by rw [l2, show c = n by omega]), (by rfl)⟩
      · skip
        rw [nI_leI (by omega) (by omega)] at c_6
        refine y_steps hC 2 (σ' := (11, [(0, .ref ra), (1, .int (nI n)), (2, .int (nI mo)), (3, .int (nI c))], [.int (nI c), .ref ra], [])) rfl ?_
        refine y_ial hC 0 rfl rfl (by first | assumption | omega | rfl | trivial) (by omega) ((hr _ (by omega)).1) ?_
        have hv_11 := (hr c (by omega)).2
        refine y_steps hC 1 (σ' := (13, [(0, .ref ra), (1, .int (nI n)), (2, .int (nI mo)), (3, .int (nI c))], [.int (nI mo), .int (nI (q c))], [])) rfl ?_
        refine y_if hC (c := nI (q c) ≤ nI mo) rfl (fun c_13 => ?_) (fun c_13 => ?_)
        · skip
          rw [nI_leI (by omega) (by omega)] at c_13
          refine y_steps hC 2 (σ' := (24, [(2, .int (nI mo)), (0, .ref ra), (1, .int (nI n)), (3, .int (nI c))], [], [])) rfl ?_
          refine y_inc hC (n := 1) rfl rfl rfl (c + 1) (by rfl) [(3, .int (nI (c + 1))), (2, .int (nI mo)), (0, .ref ra), (1, .int (nI n))] rfl ?_
          refine y_steps hC 1 (σ' := (4, [(3, .int (nI (c + 1))), (2, .int (nI mo)), (0, .ref ra), (1, .int (nI n))], [], [])) rfl ?_
          refine y_sub hC [2, 3, 1, 0] rfl ?_
          exact ih_4 mo (c + 1) (by omega) (by exact ⟨by omega, by show _ = max (z_mx c q) (q c); omega, by omega⟩)
        · skip
          rw [nI_leI (by omega) (by omega)] at c_13
          refine y_steps hC 2 (σ' := (18, [(0, .ref ra), (1, .int (nI n)), (2, .int (nI mo)), (3, .int (nI c))], [.int (nI c), .ref ra], [])) rfl ?_
          refine y_ial hC 0 rfl rfl (by first | assumption | omega | rfl | trivial) (by omega) ((hr _ (by omega)).1) ?_
          have hv_18 := (hr c (by omega)).2
          refine y_steps hC 2 (σ' := (24, [(2, .int (nI (q c))), (0, .ref ra), (1, .int (nI n)), (3, .int (nI c))], [], [])) rfl ?_
          refine y_inc hC (n := 1) rfl rfl rfl (c + 1) (by rfl) [(3, .int (nI (c + 1))), (2, .int (nI (q c))), (0, .ref ra), (1, .int (nI n))] rfl ?_
          refine y_steps hC 1 (σ' := (4, [(3, .int (nI (c + 1))), (2, .int (nI (q c))), (0, .ref ra), (1, .int (nI n))], [], [])) rfl ?_
          refine y_sub hC [2, 3, 1, 0] rfl ?_
          exact ih_4 (q c) (c + 1) (by omega) (by exact ⟨by omega, by show _ = max (z_mx c q) (q c); omega, by omega⟩)
  refine y_sub hC [2, 3, 1, 0] rfl ?_
  exact loop_4 _ 0 0 (Nat.lt_succ_self _) (by exact ⟨Nat.zero_le _, rfl, by decide⟩)
set_option maxHeartbeats 4000000 in
set_option maxRecDepth 1000000 in
theorem c_L_areAlike {ε : y_Ev} {rf : Nat → Int32} {sf : Nat → Int32} {ra : Nat} {sa : Nat} {n : Nat} {q : Nat → Nat} {p : Nat → Nat} (hn : n ≤ 8) (hr : ∀ c, c < n → rf c = nI (q c) ∧ q c < 8) (hs : ∀ c, c < n → sf c = nI (p c) ∧ p c < 8) : y_C ε zmL_areAlike 1 60 0 0 [.ref ra, .ref sa, .int (nI n)] ((ra, .inl (y_c ε 0, 8, .inl rf)) :: [(sa, .inl (y_c ε 0, 8, .inl sf))]) (fun r w2 => r = some (.int (nI ((z_allb n (fun c => decide (q c = p c))).toNat))) ∧ w2 = (ra, .inl (y_c ε 0, 8, .inl rf)) :: [(sa, .inl (y_c ε 0, 8, .inl sf))]) := by
  refine y_start (y := 145) rfl rfl (fun κ hC hT hN0 => ?_)
  refine y_steps hC 4 (σ' := (5, [(4, .int (nI 0)), (3, .int (nI 1)), (0, .ref ra), (1, .ref sa), (2, .int (nI n))], [], [])) rfl ?_
  have loop_5 : ∀ (z_5 : Nat) (is : Nat) (c : Nat), n - c < z_5 → ((c ≤ n ∧ is = (true && z_allb c (fun c => decide (q c = p c))).toNat)) → y_G ε κ zmL_areAlike 0 0 ((ra, .inl (y_c ε 0, 8, .inl rf)) :: [(sa, .inl (y_c ε 0, 8, .inl sf))]) (5, [(0, .ref ra), (1, .ref sa), (2, .int (nI n)), (3, .int (nI is)), (4, .int (nI c))], [], []) := by
    intro z_5
    induction z_5 with
    | zero => intro is c hm_5 _; exact absurd hm_5 (Nat.not_lt_zero _)
    | succ z_5 ih_5 =>
      intro is c hm_5 hi_5
      obtain ⟨l1, l2⟩ := hi_5
      refine y_steps hC 2 (σ' := (8, [(0, .ref ra), (1, .ref sa), (2, .int (nI n)), (3, .int (nI is)), (4, .int (nI c))], [.int (nI n), .int (nI c)], [])) rfl ?_
      refine y_if hC (c := nI n ≤ nI c) rfl (fun c_8 => ?_) (fun c_8 => ?_)
      · skip
        rw [nI_leI (by omega) (by omega)] at c_8
        refine y_steps hC 1 (σ' := (37, [(0, .ref ra), (1, .ref sa), (2, .int (nI n)), (3, .int (nI is)), (4, .int (nI c))], [.int (nI is)], [])) rfl ?_
        exact y_zret hC hT rfl (Or.inl rfl) (by rw [l2]; cases (true && z_allb c (fun c => decide (q c = p c))) <;> decide) rfl (by omega) (by omega) ⟨(by rw [l2, show c = n by omega, Bool.true_and]), (by rfl)⟩
      · skip
        rw [nI_leI (by omega) (by omega)] at c_8
        refine y_steps hC 3 (σ' := (15, [(0, .ref ra), (1, .ref sa), (2, .int (nI n)), (3, .int (nI is)), (4, .int (nI c))], [.int (nI c), .ref ra, .int (nI is)], [])) rfl ?_
        refine y_ial hC 0 rfl rfl (by first | assumption | omega | rfl | trivial) (by omega) ((hr _ (by omega)).1) ?_
        have hv_15 := (hr c (by omega)).2
        refine y_steps hC 2 (σ' := (19, [(0, .ref ra), (1, .ref sa), (2, .int (nI n)), (3, .int (nI is)), (4, .int (nI c))], [.int (nI c), .ref sa, .int (nI (q c)), .int (nI is)], [])) rfl ?_
        refine y_ial hC 1 rfl rfl (by first | assumption | omega | rfl | trivial) (by omega) ((hs _ (by omega)).1) ?_
        have hv_19 := (hs c (by omega)).2
        refine y_steps hC 0 (σ' := (20, [(0, .ref ra), (1, .ref sa), (2, .int (nI n)), (3, .int (nI is)), (4, .int (nI c))], [.int (nI (p c)), .int (nI (q c)), .int (nI is)], [])) rfl ?_
        refine y_if hC (c := ¬ nI (q c) = nI (p c)) rfl (fun c_20 => ?_) (fun c_20 => ?_)
        · skip
          rw [nI_eq (by omega) (by omega)] at c_20
          skip
          refine y_steps hC 1 (σ' := (28, [(0, .ref ra), (1, .ref sa), (2, .int (nI n)), (3, .int (nI is)), (4, .int (nI c))], [.int (nI 0), .int (nI is)], [])) rfl ?_
          refine y_and hC (is &&& 0) rfl (by first | rfl | decide) ?_
          refine y_steps hC 1 (σ' := (30, [(3, .int (nI (is &&& 0))), (0, .ref ra), (1, .ref sa), (2, .int (nI n)), (4, .int (nI c))], [], [])) rfl ?_
          refine y_inc hC (n := 1) rfl rfl rfl (c + 1) (by rfl) [(4, .int (nI (c + 1))), (3, .int (nI (is &&& 0))), (0, .ref ra), (1, .ref sa), (2, .int (nI n))] rfl ?_
          refine y_steps hC 1 (σ' := (5, [(4, .int (nI (c + 1))), (3, .int (nI (is &&& 0))), (0, .ref ra), (1, .ref sa), (2, .int (nI n))], [], [])) rfl ?_
          refine y_sub hC [2, 3, 4, 1, 0] rfl ?_
          exact ih_5 (is &&& 0) (c + 1) (by omega) (by first | exact ⟨by omega, z_is_T l2 (decide_eq_true c_20)⟩ | exact ⟨by omega, z_is_F l2 (decide_eq_false c_20)⟩)
        · skip
          rw [nI_eq (by omega) (by omega)] at c_20
          replace c_20 := Decidable.not_not.mp c_20
          refine y_steps hC 2 (σ' := (28, [(0, .ref ra), (1, .ref sa), (2, .int (nI n)), (3, .int (nI is)), (4, .int (nI c))], [.int (nI 1), .int (nI is)], [])) rfl ?_
          refine y_and hC (is &&& 1) rfl (by first | rfl | decide) ?_
          refine y_steps hC 1 (σ' := (30, [(3, .int (nI (is &&& 1))), (0, .ref ra), (1, .ref sa), (2, .int (nI n)), (4, .int (nI c))], [], [])) rfl ?_
          refine y_inc hC (n := 1) rfl rfl rfl (c + 1) (by rfl) [(4, .int (nI (c + 1))), (3, .int (nI (is &&& 1))), (0, .ref ra), (1, .ref sa), (2, .int (nI n))] rfl ?_
          refine y_steps hC 1 (σ' := (5, [(4, .int (nI (c + 1))), (3, .int (nI (is &&& 1))), (0, .ref ra), (1, .ref sa), (2, .int (nI n))], [], [])) rfl ?_
          refine y_sub hC [2, 3, 4, 1, 0] rfl ?_
          exact ih_5 (is &&& 1) (c + 1) (by omega) (by first | exact ⟨by omega, z_is_T l2 (decide_eq_true c_20)⟩ | exact ⟨by omega, z_is_F l2 (decide_eq_false c_20)⟩)
  refine y_sub hC [2, 3, 4, 1, 0] rfl ?_
  exact loop_5 _ 1 0 (Nat.lt_succ_self _) (by exact ⟨Nat.zero_le _, rfl⟩)
set_option maxHeartbeats 4000000 in
set_option maxRecDepth 1000000 in
theorem c_L_bits {ε : y_Ev} {s : Nat} (hs : s < 256) : y_C ε zmL_bits 1 60 0 0 [.int (nI s)] (([] : va_W)) (fun r w2 => r = some (.int (nI (z_pc s))) ∧ w2 = ([] : va_W)) := by
  refine y_start (y := 147) rfl rfl (fun κ hC hT hN0 => ?_)
  refine y_steps hC 4 (σ' := (4, [(2, .int (nI s)), (1, .int (nI 0)), (0, .int (nI s))], [], [])) rfl ?_
  have loop_4 : ∀ (z_4 : Nat) (k : Nat) (lf : Nat), lf < z_4 → ((lf < 256 ∧ k + z_pc lf = z_pc s ∧ k ≤ 8)) → y_G ε κ zmL_bits 0 0 (([] : va_W)) (4, [(0, .int (nI s)), (1, .int (nI k)), (2, .int (nI lf))], [], []) := by
    intro z_4
    induction z_4 with
    | zero => intro k lf hm_4 _; exact absurd hm_4 (Nat.not_lt_zero _)
    | succ z_4 ih_4 =>
      intro k lf hm_4 hi_4
      obtain ⟨l1, l2, l3⟩ := hi_4; have l4 : z_pc s ≤ 8 := y_pc8
      refine y_steps hC 1 (σ' := (5, [(0, .int (nI s)), (1, .int (nI k)), (2, .int (nI lf))], [.int (nI lf)], [])) rfl ?_
      refine y_if hC (c := nI lf = 0) rfl (fun c_5 => ?_) (fun c_5 => ?_)
      · skip
        rw [z0_eq (by omega)] at c_5
        refine y_steps hC 1 (σ' := (21, [(0, .int (nI s)), (1, .int (nI k)), (2, .int (nI lf))], [.int (nI k)], [])) rfl ?_
        exact y_iret hC hT rfl rfl (by omega) (by omega) ⟨(by rw [c_5, y_pc0, Nat.add_zero] at l2; rw [← l2]), (by rfl)⟩
      · skip
        rw [z0_eq (by omega)] at c_5
        have g5 := y_bits_step lf l1 c_5; have g6 : lf &&& (lf - 1) < 256 := by omega
        refine y_steps hC 0 (σ' := (8, [(0, .int (nI s)), (1, .int (nI k)), (2, .int (nI lf))], [], [])) rfl ?_
        refine y_inc hC (n := 1) rfl rfl rfl (k + 1) (by rfl) [(1, .int (nI (k + 1))), (0, .int (nI s)), (2, .int (nI lf))] rfl ?_
        refine y_steps hC 3 (σ' := (14, [(1, .int (nI (k + 1))), (0, .int (nI s)), (2, .int (nI lf))], [.int (nI 1), .int (nI lf), .int (nI lf)], [])) rfl ?_
        refine y_sbt hC (lf - 1) rfl (by first | assumption | omega | rfl | trivial) (by first | rfl | omega) ?_
        refine y_steps hC 0 (σ' := (15, [(1, .int (nI (k + 1))), (0, .int (nI s)), (2, .int (nI lf))], [.int (nI (lf - 1)), .int (nI lf)], [])) rfl ?_
        refine y_and hC (lf &&& (lf - 1)) rfl (by first | rfl | decide) ?_
        refine y_steps hC 2 (σ' := (4, [(2, .int (nI (lf &&& (lf - 1)))), (1, .int (nI (k + 1))), (0, .int (nI s))], [], [])) rfl ?_
        refine y_sub hC [2, 1, 0] rfl ?_
        exact ih_4 (k + 1) (lf &&& (lf - 1)) (by omega) (by exact ⟨g6, by omega, by omega⟩)
  refine y_sub hC [2, 1, 0] rfl ?_
  exact loop_4 _ 0 s (Nat.lt_succ_self _) (by exact ⟨hs, by rw [Nat.zero_add], by omega⟩)
set_option maxHeartbeats 4000000 in
set_option maxRecDepth 1000000 in
theorem c_L_ranking {ε : y_Ev} {q : Int32} {n : Nat} (hn2 : 2 ≤ n) (hn : n ≤ 8) : y_C ε zmL_ranking 1 60 1 8 [.int q, .int (nI n)] (([] : va_W)) (fun r w2 => ∃ (a : Nat) (rf : Nat → Int32) (rk : Nat → Nat), r = some (.ref a) ∧ w2 = [(a, .inl (y_c ε 0, 8, .inl rf))] ∧ ((∀ c, c < n → rf c = nI (rk c) ∧ rk c < 8) ∧ z_RK n rk)) := by
  refine y_start (y := 142) rfl rfl (fun κ hC hT hN0 => ?_)
  refine y_steps hC 1 (σ' := (2, [(0, .int q), (1, .int (nI n))], [.int (nI 8)], [])) rfl ?_
  refine y_newa (n := 8) (a0 := (8, .inl (fun _ => 0))) hC 0 (atype := .int) (z_t1 (i := 77) rfl rfl) rfl (fun _ => rfl) (by omega) (by decide) (by omega) (by omega) rfl (fun q2 => ?_)
  refine y_steps hC 3 (σ' := (7, [(3, .int (nI 0)), (2, .ref q2), (0, .int q), (1, .int (nI n))], [], [])) rfl ?_
  have loop_7 : ∀ (z_7 : Nat) (c : Nat) (pf : Nat → Int32) (pk : Nat → Nat), n - c < z_7 → ((c ≤ n ∧ ∀ i, i < c → pf i = nI (pk i) ∧ pk i < n)) → y_G ε κ zmL_ranking 1 8 ([(q2, .inl (y_c ε 0, 8, .inl pf))]) (7, [(0, .int q), (1, .int (nI n)), (2, .ref q2), (3, .int (nI c))], [], []) := by
    intro z_7
    induction z_7 with
    | zero => intro c pf pk hm_7 _; exact absurd hm_7 (Nat.not_lt_zero _)
    | succ z_7 ih_7 =>
      intro c pf pk hm_7 hi_7
      obtain ⟨l1, l2⟩ := hi_7
      refine y_steps hC 2 (σ' := (9, [(0, .int q), (1, .int (nI n)), (2, .ref q2), (3, .int (nI c))], [.int (nI n), .int (nI c)], [])) rfl ?_
      refine y_if hC (c := nI n ≤ nI c) rfl (fun c_9 => ?_) (fun c_9 => ?_)
      · skip
        rw [nI_leI (by omega) (by omega)] at c_9
        refine y_steps hC 2 (σ' := (33, [(3, .int (nI 0)), (0, .int q), (1, .int (nI n)), (2, .ref q2)], [], [])) rfl ?_
        have loop_33 : ∀ (z_33 : Nat) (p : Nat) (pf2 : Nat → Int32) (pk2 : Nat → Nat), z_sum n pk2 + (n - p) < z_33 → ((p ≤ n ∧ (∀ i, i < n → pf2 i = nI (pk2 i) ∧ pk2 i < n) ∧ y_gap n p pk2)) → y_G ε κ zmL_ranking 1 8 ([(q2, .inl (y_c ε 0, 8, .inl pf2))]) (33, [(0, .int q), (1, .int (nI n)), (2, .ref q2), (3, .int (nI p))], [], []) := by
          intro z_33
          induction z_33 with
          | zero => intro p pf2 pk2 hm_33 _; exact absurd hm_33 (Nat.not_lt_zero _)
          | succ z_33 ih_33 =>
            intro p pf2 pk2 hm_33 hi_33
            obtain ⟨m1, m2, m3⟩ := hi_33
            refine y_steps hC 2 (σ' := (35, [(0, .int q), (1, .int (nI n)), (2, .ref q2), (3, .int (nI p))], [.int (nI n), .int (nI p)], [])) rfl ?_
            refine y_if hC (c := nI n ≤ nI p) rfl (fun c_35 => ?_) (fun c_35 => ?_)
            · skip
              rw [nI_leI (by omega) (by omega)] at c_35
              refine y_steps hC 1 (σ' := (150, [(0, .int q), (1, .int (nI n)), (2, .ref q2), (3, .int (nI p))], [.ref q2], [])) rfl ?_
              exact y_aret hC hT rfl (Or.inr ⟨_, rfl⟩) rfl (by omega) (by omega) ⟨q2, pf2, pk2, rfl, (by rfl), (by exact ⟨fun c hc => ⟨(m2 c hc).1, by have := (m2 c hc).2; omega⟩, y_gap_RK ((show p = n by omega) ▸ m3) (fun c hc => (m2 c hc).2)⟩)⟩
            · skip
              rw [nI_leI (by omega) (by omega)] at c_35
              refine y_steps hC 6 (σ' := (47, [(6, .int (nI 0)), (5, .int (nI 0)), (4, .int (nI 0)), (0, .int q), (1, .int (nI n)), (2, .ref q2), (3, .int (nI p))], [], [])) rfl ?_
              have loop_47 : ∀ (z_47 : Nat) (ha : Nat) (mo : Nat) (d : Nat), n - d < z_47 → ((d ≤ n ∧ ha ≤ 1 ∧ mo ≤ 1 ∧ (ha = 0 ↔ ∀ x, x < d → pk2 x ≠ p) ∧ (mo = 0 ↔ ∀ x, x < d → pk2 x ≤ p))) → y_G ε κ zmL_ranking 1 8 ([(q2, .inl (y_c ε 0, 8, .inl pf2))]) (47, [(0, .int q), (1, .int (nI n)), (2, .ref q2), (3, .int (nI p)), (4, .int (nI ha)), (5, .int (nI mo)), (6, .int (nI d))], [], []) := by
                intro z_47
                induction z_47 with
                | zero => intro ha mo d hm_47 _; exact absurd hm_47 (Nat.not_lt_zero _)
                | succ z_47 ih_47 =>
                  intro ha mo d hm_47 hi_47
                  obtain ⟨r1, r2, r3, r4, r5⟩ := hi_47; have o1 := y_or01 r2; have o2 := y_or01 r3
                  refine y_steps hC 2 (σ' := (50, [(0, .int q), (1, .int (nI n)), (2, .ref q2), (3, .int (nI p)), (4, .int (nI ha)), (5, .int (nI mo)), (6, .int (nI d))], [.int (nI n), .int (nI d)], [])) rfl ?_
                  refine y_if hC (c := nI n ≤ nI d) rfl (fun c_50 => ?_) (fun c_50 => ?_)
                  · skip
                    rw [nI_leI (by omega) (by omega)] at c_50
                    refine y_steps hC 1 (σ' := (97, [(0, .int q), (1, .int (nI n)), (2, .ref q2), (3, .int (nI p)), (4, .int (nI ha)), (5, .int (nI mo)), (6, .int (nI d))], [.int (nI ha)], [])) rfl ?_
                    refine y_if hC (c := ¬ nI ha = 0) rfl (fun c_97 => ?_) (fun c_97 => ?_)
                    · skip
                      rw [z0_ne (by omega)] at c_97
                      skip
                      refine y_steps hC 0 (σ' := (143, [(0, .int q), (1, .int (nI n)), (2, .ref q2), (3, .int (nI p)), (4, .int (nI ha)), (5, .int (nI mo)), (6, .int (nI d))], [], [])) rfl ?_
                      refine y_inc hC (n := 1) rfl rfl rfl (p + 1) (by rfl) [(3, .int (nI (p + 1))), (0, .int q), (1, .int (nI n)), (2, .ref q2), (4, .int (nI ha)), (5, .int (nI mo)), (6, .int (nI d))] rfl ?_
                      refine y_steps hC 1 (σ' := (33, [(3, .int (nI (p + 1))), (0, .int q), (1, .int (nI n)), (2, .ref q2), (4, .int (nI ha)), (5, .int (nI mo)), (6, .int (nI d))], [], [])) rfl ?_
                      refine y_sub hC [1, 2, 3, 0] rfl ?_
                      exact ih_33 (p + 1) pf2 pk2 (by omega) (by exact ⟨by omega, m2, y_gap_up m3 (Or.inl (by have := y_hasE r4 c_97; obtain ⟨x, x1, x2⟩ := this; exact ⟨x, by omega, x2⟩))⟩)
                    · skip
                      rw [z0_ne (by omega)] at c_97
                      replace c_97 := Decidable.not_not.mp c_97
                      refine y_steps hC 1 (σ' := (102, [(0, .int q), (1, .int (nI n)), (2, .ref q2), (3, .int (nI p)), (4, .int (nI ha)), (5, .int (nI mo)), (6, .int (nI d))], [.int (nI mo)], [])) rfl ?_
                      refine y_if hC (c := nI mo = 0) rfl (fun c_102 => ?_) (fun c_102 => ?_)
                      · skip
                        rw [z0_eq (by omega)] at c_102
                        refine y_steps hC 0 (σ' := (143, [(0, .int q), (1, .int (nI n)), (2, .ref q2), (3, .int (nI p)), (4, .int (nI ha)), (5, .int (nI mo)), (6, .int (nI d))], [], [])) rfl ?_
                        refine y_inc hC (n := 1) rfl rfl rfl (p + 1) (by rfl) [(3, .int (nI (p + 1))), (0, .int q), (1, .int (nI n)), (2, .ref q2), (4, .int (nI ha)), (5, .int (nI mo)), (6, .int (nI d))] rfl ?_
                        refine y_steps hC 1 (σ' := (33, [(3, .int (nI (p + 1))), (0, .int q), (1, .int (nI n)), (2, .ref q2), (4, .int (nI ha)), (5, .int (nI mo)), (6, .int (nI d))], [], [])) rfl ?_
                        refine y_sub hC [1, 2, 3, 0] rfl ?_
                        exact ih_33 (p + 1) pf2 pk2 (by first | omega | (have := y_sh_lt (n := n) (q := pk2) (p := p) (by obtain ⟨x, x1, x2⟩ := y_morE r5 c_102; exact ⟨x, by omega, x2⟩); omega)) (by first | exact ⟨by omega, m2, y_gap_up m3 (Or.inl (by have := y_hasE r4 c_97; obtain ⟨x, x1, x2⟩ := this; exact ⟨x, by omega, x2⟩))⟩ | exact ⟨by omega, m2, y_gap_up m3 (Or.inr (fun x hx => by have h1 := r4.mp c_97 x (by omega); have h2 := r5.mp c_102 x (by omega); omega))⟩ | exact ⟨m1, fun i hi => ⟨(t2 i hi).trans (congrArg nI (if_pos (by omega))), by have := y_sh_le pk2 p i; have := (m2 i hi).2; omega⟩, y_gap_sh m3 (by obtain ⟨x, x1, x2⟩ := y_morE r5 c_102; exact ⟨x, by omega, x2⟩)⟩)
                      · skip
                        rw [z0_eq (by omega)] at c_102
                        refine y_steps hC 2 (σ' := (108, [(6, .int (nI 0)), (0, .int q), (1, .int (nI n)), (2, .ref q2), (3, .int (nI p)), (4, .int (nI ha)), (5, .int (nI mo))], [], [])) rfl ?_
                        have loop_108 : ∀ (z_108 : Nat) (d2 : Nat) (pf3 : Nat → Int32), n - d2 < z_108 → ((d2 ≤ n ∧ ∀ i, i < n → pf3 i = nI (if i < d2 then y_sh pk2 p i else pk2 i))) → y_G ε κ zmL_ranking 1 8 ([(q2, .inl (y_c ε 0, 8, .inl pf3))]) (108, [(0, .int q), (1, .int (nI n)), (2, .ref q2), (3, .int (nI p)), (4, .int (nI ha)), (5, .int (nI mo)), (6, .int (nI d2))], [], []) := by
                          intro z_108
                          induction z_108 with
                          | zero => intro d2 pf3 hm_108 _; exact absurd hm_108 (Nat.not_lt_zero _)
                          | succ z_108 ih_108 =>
                            intro d2 pf3 hm_108 hi_108
                            obtain ⟨t1, t2⟩ := hi_108
                            refine y_steps hC 2 (σ' := (111, [(0, .int q), (1, .int (nI n)), (2, .ref q2), (3, .int (nI p)), (4, .int (nI ha)), (5, .int (nI mo)), (6, .int (nI d2))], [.int (nI n), .int (nI d2)], [])) rfl ?_
                            refine y_if hC (c := nI n ≤ nI d2) rfl (fun c_111 => ?_) (fun c_111 => ?_)
                            · skip
                              rw [nI_leI (by omega) (by omega)] at c_111
                              refine y_steps hC 0 (σ' := (140, [(0, .int q), (1, .int (nI n)), (2, .ref q2), (3, .int (nI p)), (4, .int (nI ha)), (5, .int (nI mo)), (6, .int (nI d2))], [], [])) rfl ?_
                              refine y_steps hC 2 (σ' := (146, [(3, .int ((((nI p) + -nI 1) + nI 1))), (0, .int q), (1, .int (nI n)), (2, .ref q2), (4, .int (nI ha)), (5, .int (nI mo)), (6, .int (nI d2))], [], [])) rfl ?_
                              rw [y_decinc]
                              refine y_steps hC 1 (σ' := (33, [(3, .int (nI p)), (0, .int q), (1, .int (nI n)), (2, .ref q2), (4, .int (nI ha)), (5, .int (nI mo)), (6, .int (nI d2))], [], [])) rfl ?_
                              refine y_sub hC [1, 2, 3, 0] rfl ?_
                              exact ih_33 p pf3 (y_sh pk2 p) (by first | omega | (have := y_sh_lt (n := n) (q := pk2) (p := p) (by obtain ⟨x, x1, x2⟩ := y_morE r5 c_102; exact ⟨x, by omega, x2⟩); omega)) (by first | exact ⟨by omega, m2, y_gap_up m3 (Or.inl (by have := y_hasE r4 c_97; obtain ⟨x, x1, x2⟩ := this; exact ⟨x, by omega, x2⟩))⟩ | exact ⟨by omega, m2, y_gap_up m3 (Or.inr (fun x hx => by have h1 := r4.mp c_97 x (by omega); have h2 := r5.mp c_102 x (by omega); omega))⟩ | exact ⟨m1, fun i hi => ⟨(t2 i hi).trans (congrArg nI (if_pos (by omega))), by have := y_sh_le pk2 p i; have := (m2 i hi).2; omega⟩, y_gap_sh m3 (by obtain ⟨x, x1, x2⟩ := y_morE r5 c_102; exact ⟨x, by omega, x2⟩)⟩)
                            · skip
                              rw [nI_leI (by omega) (by omega)] at c_111
                              refine y_steps hC 3 (σ' := (118, [(0, .int q), (1, .int (nI n)), (2, .ref q2), (3, .int (nI p)), (4, .int (nI ha)), (5, .int (nI mo)), (6, .int (nI d2))], [.int (nI d2), .ref q2, .int (nI d2), .ref q2], [])) rfl ?_
                              refine y_ial hC 0 rfl rfl (by first | assumption | omega | rfl | trivial) (by omega) ((t2 _ (by omega)).trans (congrArg nI (if_neg (Nat.lt_irrefl _)))) ?_
                              have hv_118 := (m2 d2 (by omega)).2
                              refine y_steps hC 2 (σ' := (122, [(0, .int q), (1, .int (nI n)), (2, .ref q2), (3, .int (nI p)), (4, .int (nI ha)), (5, .int (nI mo)), (6, .int (nI d2))], [.int (nI d2), .ref q2, .int (nI (pk2 d2)), .int (nI d2), .ref q2], [])) rfl ?_
                              refine y_ial hC 0 rfl rfl (by first | assumption | omega | rfl | trivial) (by omega) ((t2 _ (by omega)).trans (congrArg nI (if_neg (Nat.lt_irrefl _)))) ?_
                              have hv_122 := (m2 d2 (by omega)).2
                              refine y_steps hC 1 (σ' := (124, [(0, .int q), (1, .int (nI n)), (2, .ref q2), (3, .int (nI p)), (4, .int (nI ha)), (5, .int (nI mo)), (6, .int (nI d2))], [.int (nI p), .int (nI (pk2 d2)), .int (nI (pk2 d2)), .int (nI d2), .ref q2], [])) rfl ?_
                              refine y_if hC (c := nI (pk2 d2) ≤ nI p) rfl (fun c_124 => ?_) (fun c_124 => ?_)
                              · skip
                                rw [nI_leI (by omega) (by omega)] at c_124
                                refine y_steps hC 1 (σ' := (132, [(0, .int q), (1, .int (nI n)), (2, .ref q2), (3, .int (nI p)), (4, .int (nI ha)), (5, .int (nI mo)), (6, .int (nI d2))], [.int (nI 0), .int (nI (pk2 d2)), .int (nI d2), .ref q2], [])) rfl ?_
                                refine y_sbt hC (pk2 d2 + 0) rfl (by first | assumption | omega | rfl | trivial) (by first | rfl | omega) ?_
                                refine y_steps hC 0 (σ' := (133, [(0, .int q), (1, .int (nI n)), (2, .ref q2), (3, .int (nI p)), (4, .int (nI ha)), (5, .int (nI mo)), (6, .int (nI d2))], [.int (nI (pk2 d2 + 0)), .int (nI d2), .ref q2], [])) rfl ?_
                                refine y_ias (ws2 := ([(q2, .inl (y_c ε 0, 8, .inl (upd pf3 d2 (nI (pk2 d2 + 0)))))])) hC 0 rfl rfl (by first | assumption | omega | rfl | trivial) (by omega) rfl ?_
                                refine y_steps hC 0 (σ' := (134, [(0, .int q), (1, .int (nI n)), (2, .ref q2), (3, .int (nI p)), (4, .int (nI ha)), (5, .int (nI mo)), (6, .int (nI d2))], [], [])) rfl ?_
                                refine y_inc hC (n := 1) rfl rfl rfl (d2 + 1) (by rfl) [(6, .int (nI (d2 + 1))), (0, .int q), (1, .int (nI n)), (2, .ref q2), (3, .int (nI p)), (4, .int (nI ha)), (5, .int (nI mo))] rfl ?_
                                refine y_steps hC 1 (σ' := (108, [(6, .int (nI (d2 + 1))), (0, .int q), (1, .int (nI n)), (2, .ref q2), (3, .int (nI p)), (4, .int (nI ha)), (5, .int (nI mo))], [], [])) rfl ?_
                                refine y_sub hC [1, 2, 3, 4, 5, 6, 0] rfl ?_
                                exact ih_108 (d2 + 1) (upd pf3 d2 (nI (pk2 d2 + 0))) (by omega) (by refine ⟨by omega, fun i hi => ?_⟩; unfold upd; by_cases e : i = d2; (focus subst e; rw [if_pos rfl, if_pos (Nat.lt_succ_self _)]; first | (rw [y_sh_n (by omega)]; done) | (rw [y_sh_n (by omega)]; rfl) | (rw [y_sh_y (by omega)]; done) | (rw [y_sh_y (by omega)]; rfl)); (exact (if_neg e).trans ((t2 i hi).trans (congrArg nI (z_ifc (by omega))))))
                              · skip
                                rw [nI_leI (by omega) (by omega)] at c_124
                                refine y_steps hC 2 (σ' := (132, [(0, .int q), (1, .int (nI n)), (2, .ref q2), (3, .int (nI p)), (4, .int (nI ha)), (5, .int (nI mo)), (6, .int (nI d2))], [.int (nI 1), .int (nI (pk2 d2)), .int (nI d2), .ref q2], [])) rfl ?_
                                refine y_sbt hC ((pk2 d2) - 1) rfl (by first | assumption | omega | rfl | trivial) (by first | rfl | omega) ?_
                                refine y_steps hC 0 (σ' := (133, [(0, .int q), (1, .int (nI n)), (2, .ref q2), (3, .int (nI p)), (4, .int (nI ha)), (5, .int (nI mo)), (6, .int (nI d2))], [.int (nI ((pk2 d2) - 1)), .int (nI d2), .ref q2], [])) rfl ?_
                                refine y_ias (ws2 := ([(q2, .inl (y_c ε 0, 8, .inl (upd pf3 d2 (nI ((pk2 d2) - 1)))))])) hC 0 rfl rfl (by first | assumption | omega | rfl | trivial) (by omega) rfl ?_
                                refine y_steps hC 0 (σ' := (134, [(0, .int q), (1, .int (nI n)), (2, .ref q2), (3, .int (nI p)), (4, .int (nI ha)), (5, .int (nI mo)), (6, .int (nI d2))], [], [])) rfl ?_
                                refine y_inc hC (n := 1) rfl rfl rfl (d2 + 1) (by rfl) [(6, .int (nI (d2 + 1))), (0, .int q), (1, .int (nI n)), (2, .ref q2), (3, .int (nI p)), (4, .int (nI ha)), (5, .int (nI mo))] rfl ?_
                                refine y_steps hC 1 (σ' := (108, [(6, .int (nI (d2 + 1))), (0, .int q), (1, .int (nI n)), (2, .ref q2), (3, .int (nI p)), (4, .int (nI ha)), (5, .int (nI mo))], [], [])) rfl ?_
                                refine y_sub hC [1, 2, 3, 4, 5, 6, 0] rfl ?_
                                exact ih_108 (d2 + 1) (upd pf3 d2 (nI ((pk2 d2) - 1))) (by omega) (by refine ⟨by omega, fun i hi => ?_⟩; unfold upd; by_cases e : i = d2; (focus subst e; rw [if_pos rfl, if_pos (Nat.lt_succ_self _)]; first | (rw [y_sh_n (by omega)]; done) | (rw [y_sh_n (by omega)]; rfl) | (rw [y_sh_y (by omega)]; done) | (rw [y_sh_y (by omega)]; rfl)); (exact (if_neg e).trans ((t2 i hi).trans (congrArg nI (z_ifc (by omega))))))
                        refine y_sub hC [1, 2, 3, 4, 5, 6, 0] rfl ?_
                        exact loop_108 _ 0 pf2 (Nat.lt_succ_self _) (by exact ⟨Nat.zero_le _, fun i hi => (m2 i hi).1.trans (congrArg nI (if_neg (Nat.not_lt_zero i)).symm)⟩)
                  · skip
                    rw [nI_leI (by omega) (by omega)] at c_50
                    refine y_steps hC 3 (σ' := (58, [(0, .int q), (1, .int (nI n)), (2, .ref q2), (3, .int (nI p)), (4, .int (nI ha)), (5, .int (nI mo)), (6, .int (nI d))], [.int (nI d), .ref q2, .int (nI ha)], [])) rfl ?_
                    refine y_ial hC 0 rfl rfl (by first | assumption | omega | rfl | trivial) (by omega) ((m2 _ (by omega)).1) ?_
                    have hv_58 := (m2 d (by omega)).2
                    refine y_steps hC 1 (σ' := (60, [(0, .int q), (1, .int (nI n)), (2, .ref q2), (3, .int (nI p)), (4, .int (nI ha)), (5, .int (nI mo)), (6, .int (nI d))], [.int (nI p), .int (nI (pk2 d)), .int (nI ha)], [])) rfl ?_
                    refine y_if hC (c := ¬ nI (pk2 d) = nI p) rfl (fun c_60 => ?_) (fun c_60 => ?_)
                    · skip
                      rw [nI_eq (by omega) (by omega)] at c_60
                      skip
                      refine y_steps hC 1 (σ' := (68, [(0, .int q), (1, .int (nI n)), (2, .ref q2), (3, .int (nI p)), (4, .int (nI ha)), (5, .int (nI mo)), (6, .int (nI d))], [.int (nI 0), .int (nI ha)], [])) rfl ?_
                      have ey_68 : ((nI ha) ||| (nI 0)) = nI ha := by rw [nI_or]; first | rw [o1.1] | rw [o1.2]
                      refine y_one hC (σ' := (69, [(0, .int q), (1, .int (nI n)), (2, .ref q2), (3, .int (nI p)), (4, .int (nI ha)), (5, .int (nI mo)), (6, .int (nI d))], [.int (((nI ha) ||| (nI 0)))], [])) rfl ?_
                      rw [ey_68]
                      refine y_steps hC 4 (σ' := (76, [(4, .int (nI ha)), (0, .int q), (1, .int (nI n)), (2, .ref q2), (3, .int (nI p)), (5, .int (nI mo)), (6, .int (nI d))], [.int (nI d), .ref q2, .int (nI mo)], [])) rfl ?_
                      refine y_ial hC 0 rfl rfl (by first | assumption | omega | rfl | trivial) (by omega) ((m2 _ (by omega)).1) ?_
                      have hv_76 := (m2 d (by omega)).2
                      refine y_steps hC 1 (σ' := (78, [(4, .int (nI ha)), (0, .int q), (1, .int (nI n)), (2, .ref q2), (3, .int (nI p)), (5, .int (nI mo)), (6, .int (nI d))], [.int (nI p), .int (nI (pk2 d)), .int (nI mo)], [])) rfl ?_
                      refine y_if hC (c := nI (pk2 d) ≤ nI p) rfl (fun c_78 => ?_) (fun c_78 => ?_)
                      · skip
                        rw [nI_leI (by omega) (by omega)] at c_78
                        refine y_steps hC 1 (σ' := (86, [(4, .int (nI ha)), (0, .int q), (1, .int (nI n)), (2, .ref q2), (3, .int (nI p)), (5, .int (nI mo)), (6, .int (nI d))], [.int (nI 0), .int (nI mo)], [])) rfl ?_
                        have ey_86 : ((nI mo) ||| (nI 0)) = nI mo := by rw [nI_or]; first | rw [o2.1] | rw [o2.2]
                        refine y_one hC (σ' := (87, [(4, .int (nI ha)), (0, .int q), (1, .int (nI n)), (2, .ref q2), (3, .int (nI p)), (5, .int (nI mo)), (6, .int (nI d))], [.int (((nI mo) ||| (nI 0)))], [])) rfl ?_
                        rw [ey_86]
                        refine y_steps hC 1 (σ' := (89, [(5, .int (nI mo)), (4, .int (nI ha)), (0, .int q), (1, .int (nI n)), (2, .ref q2), (3, .int (nI p)), (6, .int (nI d))], [], [])) rfl ?_
                        refine y_inc hC (n := 1) rfl rfl rfl (d + 1) (by rfl) [(6, .int (nI (d + 1))), (5, .int (nI mo)), (4, .int (nI ha)), (0, .int q), (1, .int (nI n)), (2, .ref q2), (3, .int (nI p))] rfl ?_
                        refine y_steps hC 1 (σ' := (47, [(6, .int (nI (d + 1))), (5, .int (nI mo)), (4, .int (nI ha)), (0, .int q), (1, .int (nI n)), (2, .ref q2), (3, .int (nI p))], [], [])) rfl ?_
                        refine y_sub hC [3, 4, 5, 6, 2, 1, 0] rfl ?_
                        exact ih_47 ha mo (d + 1) (by omega) (by refine ⟨by omega, by omega, by omega, ?_, ?_⟩; (first | exact y_hasY c_60 | exact y_hasN r4 c_60); (first | exact y_morN r5 c_78 | exact y_morY c_78))
                      · skip
                        rw [nI_leI (by omega) (by omega)] at c_78
                        refine y_steps hC 2 (σ' := (86, [(4, .int (nI ha)), (0, .int q), (1, .int (nI n)), (2, .ref q2), (3, .int (nI p)), (5, .int (nI mo)), (6, .int (nI d))], [.int (nI 1), .int (nI mo)], [])) rfl ?_
                        have ey_86 : ((nI mo) ||| (nI 1)) = nI 1 := by rw [nI_or]; first | rw [o2.1] | rw [o2.2]
                        refine y_one hC (σ' := (87, [(4, .int (nI ha)), (0, .int q), (1, .int (nI n)), (2, .ref q2), (3, .int (nI p)), (5, .int (nI mo)), (6, .int (nI d))], [.int (((nI mo) ||| (nI 1)))], [])) rfl ?_
                        rw [ey_86]
                        refine y_steps hC 1 (σ' := (89, [(5, .int (nI 1)), (4, .int (nI ha)), (0, .int q), (1, .int (nI n)), (2, .ref q2), (3, .int (nI p)), (6, .int (nI d))], [], [])) rfl ?_
                        refine y_inc hC (n := 1) rfl rfl rfl (d + 1) (by rfl) [(6, .int (nI (d + 1))), (5, .int (nI 1)), (4, .int (nI ha)), (0, .int q), (1, .int (nI n)), (2, .ref q2), (3, .int (nI p))] rfl ?_
                        refine y_steps hC 1 (σ' := (47, [(6, .int (nI (d + 1))), (5, .int (nI 1)), (4, .int (nI ha)), (0, .int q), (1, .int (nI n)), (2, .ref q2), (3, .int (nI p))], [], [])) rfl ?_
                        refine y_sub hC [3, 4, 5, 6, 2, 1, 0] rfl ?_
                        exact ih_47 ha 1 (d + 1) (by omega) (by refine ⟨by omega, by omega, by omega, ?_, ?_⟩; (first | exact y_hasY c_60 | exact y_hasN r4 c_60); (first | exact y_morN r5 c_78 | exact y_morY c_78))
                    · skip
                      rw [nI_eq (by omega) (by omega)] at c_60
                      replace c_60 := Decidable.not_not.mp c_60
                      refine y_steps hC 2 (σ' := (68, [(0, .int q), (1, .int (nI n)), (2, .ref q2), (3, .int (nI p)), (4, .int (nI ha)), (5, .int (nI mo)), (6, .int (nI d))], [.int (nI 1), .int (nI ha)], [])) rfl ?_
                      have ey_68 : ((nI ha) ||| (nI 1)) = nI 1 := by rw [nI_or]; first | rw [o1.1] | rw [o1.2]
                      refine y_one hC (σ' := (69, [(0, .int q), (1, .int (nI n)), (2, .ref q2), (3, .int (nI p)), (4, .int (nI ha)), (5, .int (nI mo)), (6, .int (nI d))], [.int (((nI ha) ||| (nI 1)))], [])) rfl ?_
                      rw [ey_68]
                      refine y_steps hC 4 (σ' := (76, [(4, .int (nI 1)), (0, .int q), (1, .int (nI n)), (2, .ref q2), (3, .int (nI p)), (5, .int (nI mo)), (6, .int (nI d))], [.int (nI d), .ref q2, .int (nI mo)], [])) rfl ?_
                      refine y_ial hC 0 rfl rfl (by first | assumption | omega | rfl | trivial) (by omega) ((m2 _ (by omega)).1) ?_
                      have hv_76 := (m2 d (by omega)).2
                      refine y_steps hC 1 (σ' := (78, [(4, .int (nI 1)), (0, .int q), (1, .int (nI n)), (2, .ref q2), (3, .int (nI p)), (5, .int (nI mo)), (6, .int (nI d))], [.int (nI p), .int (nI (pk2 d)), .int (nI mo)], [])) rfl ?_
                      refine y_if hC (c := nI (pk2 d) ≤ nI p) rfl (fun c_78 => ?_) (fun c_78 => ?_)
                      · skip
                        rw [nI_leI (by omega) (by omega)] at c_78
                        refine y_steps hC 1 (σ' := (86, [(4, .int (nI 1)), (0, .int q), (1, .int (nI n)), (2, .ref q2), (3, .int (nI p)), (5, .int (nI mo)), (6, .int (nI d))], [.int (nI 0), .int (nI mo)], [])) rfl ?_
                        have ey_86 : ((nI mo) ||| (nI 0)) = nI mo := by rw [nI_or]; first | rw [o2.1] | rw [o2.2]
                        refine y_one hC (σ' := (87, [(4, .int (nI 1)), (0, .int q), (1, .int (nI n)), (2, .ref q2), (3, .int (nI p)), (5, .int (nI mo)), (6, .int (nI d))], [.int (((nI mo) ||| (nI 0)))], [])) rfl ?_
                        rw [ey_86]
                        refine y_steps hC 1 (σ' := (89, [(5, .int (nI mo)), (4, .int (nI 1)), (0, .int q), (1, .int (nI n)), (2, .ref q2), (3, .int (nI p)), (6, .int (nI d))], [], [])) rfl ?_
                        refine y_inc hC (n := 1) rfl rfl rfl (d + 1) (by rfl) [(6, .int (nI (d + 1))), (5, .int (nI mo)), (4, .int (nI 1)), (0, .int q), (1, .int (nI n)), (2, .ref q2), (3, .int (nI p))] rfl ?_
                        refine y_steps hC 1 (σ' := (47, [(6, .int (nI (d + 1))), (5, .int (nI mo)), (4, .int (nI 1)), (0, .int q), (1, .int (nI n)), (2, .ref q2), (3, .int (nI p))], [], [])) rfl ?_
                        refine y_sub hC [3, 4, 5, 6, 2, 1, 0] rfl ?_
                        exact ih_47 1 mo (d + 1) (by omega) (by refine ⟨by omega, by omega, by omega, ?_, ?_⟩; (first | exact y_hasY c_60 | exact y_hasN r4 c_60); (first | exact y_morN r5 c_78 | exact y_morY c_78))
                      · skip
                        rw [nI_leI (by omega) (by omega)] at c_78
                        refine y_steps hC 2 (σ' := (86, [(4, .int (nI 1)), (0, .int q), (1, .int (nI n)), (2, .ref q2), (3, .int (nI p)), (5, .int (nI mo)), (6, .int (nI d))], [.int (nI 1), .int (nI mo)], [])) rfl ?_
                        have ey_86 : ((nI mo) ||| (nI 1)) = nI 1 := by rw [nI_or]; first | rw [o2.1] | rw [o2.2]
                        refine y_one hC (σ' := (87, [(4, .int (nI 1)), (0, .int q), (1, .int (nI n)), (2, .ref q2), (3, .int (nI p)), (5, .int (nI mo)), (6, .int (nI d))], [.int (((nI mo) ||| (nI 1)))], [])) rfl ?_
                        rw [ey_86]
                        refine y_steps hC 1 (σ' := (89, [(5, .int (nI 1)), (4, .int (nI 1)), (0, .int q), (1, .int (nI n)), (2, .ref q2), (3, .int (nI p)), (6, .int (nI d))], [], [])) rfl ?_
                        refine y_inc hC (n := 1) rfl rfl rfl (d + 1) (by rfl) [(6, .int (nI (d + 1))), (5, .int (nI 1)), (4, .int (nI 1)), (0, .int q), (1, .int (nI n)), (2, .ref q2), (3, .int (nI p))] rfl ?_
                        refine y_steps hC 1 (σ' := (47, [(6, .int (nI (d + 1))), (5, .int (nI 1)), (4, .int (nI 1)), (0, .int q), (1, .int (nI n)), (2, .ref q2), (3, .int (nI p))], [], [])) rfl ?_
                        refine y_sub hC [3, 4, 5, 6, 2, 1, 0] rfl ?_
                        exact ih_47 1 1 (d + 1) (by omega) (by refine ⟨by omega, by omega, by omega, ?_, ?_⟩; (first | exact y_hasY c_60 | exact y_hasN r4 c_60); (first | exact y_morN r5 c_78 | exact y_morY c_78))
              refine y_sub hC [3, 4, 5, 6, 2, 1, 0] rfl ?_
              exact loop_47 _ 0 0 0 (Nat.lt_succ_self _) (by exact ⟨Nat.zero_le _, by decide, by decide, ⟨fun _ x hx => absurd hx (Nat.not_lt_zero x), fun _ => rfl⟩, ⟨fun _ x hx => absurd hx (Nat.not_lt_zero x), fun _ => rfl⟩⟩)
        refine y_sub hC [1, 2, 3, 0] rfl ?_
        exact loop_33 _ 0 pf pk (Nat.lt_succ_self _) (by exact ⟨Nat.zero_le _, fun i hi => l2 i (by omega), fun x hx => absurd hx (Nat.not_lt_zero x)⟩)
      · skip
        rw [nI_leI (by omega) (by omega)] at c_9
        refine y_steps hC 5 (σ' := (17, [(0, .int q), (1, .int (nI n)), (2, .ref q2), (3, .int (nI c))], [.int (nI c), .int (nI 3), .int q, .int (nI c), .ref q2], [])) rfl ?_
        refine y_mul hC (3 * c) rfl (by first | rfl | omega | simp) ?_
        refine y_steps hC 2 (σ' := (21, [(0, .int q), (1, .int (nI n)), (2, .ref q2), (3, .int (nI c))], [.int (nI 7), .int ((q >>> ((nI (3 * c)) &&& 31))), .int (nI c), .ref q2], [])) rfl ?_
        have ey_21 : (((q >>> ((nI (3 * c)) &&& 31))) &&& (nI 7)) = nI (y_7 ((q >>> ((nI (3 * c)) &&& 31)))) := y_7_eq _
        refine y_one hC (σ' := (22, [(0, .int q), (1, .int (nI n)), (2, .ref q2), (3, .int (nI c))], [.int ((((q >>> ((nI (3 * c)) &&& 31))) &&& (nI 7))), .int (nI c), .ref q2], [])) rfl ?_
        rw [ey_21]
        refine y_steps hC 1 (σ' := (23, [(0, .int q), (1, .int (nI n)), (2, .ref q2), (3, .int (nI c))], [.int (nI n), .int (nI (y_7 ((q >>> ((nI (3 * c)) &&& 31))))), .int (nI c), .ref q2], [])) rfl ?_
        have ey_23 : ((nI (y_7 ((q >>> ((nI (3 * c)) &&& 31))))) - (nI (y_7 ((q >>> ((nI (3 * c)) &&& 31))))) / (nI n) * (nI n)) = nI ((y_7 ((q >>> ((nI (3 * c)) &&& 31)))) % n) := pk_rem (Nat.lt_trans (y_7_lt _) (by decide)) (by omega) (by omega)
        refine y_gd hC (c := ¬ (nI n) = 0) (σ' := (24, [(0, .int q), (1, .int (nI n)), (2, .ref q2), (3, .int (nI c))], [.int (((nI (y_7 ((q >>> ((nI (3 * c)) &&& 31))))) - (nI (y_7 ((q >>> ((nI (3 * c)) &&& 31))))) / (nI n) * (nI n))), .int (nI c), .ref q2], [])) rfl (by intro z; rw [z0_eq (by omega)] at z; omega) ?_
        rw [ey_23]
        refine y_steps hC 0 (σ' := (24, [(0, .int q), (1, .int (nI n)), (2, .ref q2), (3, .int (nI c))], [.int (nI ((y_7 ((q >>> ((nI (3 * c)) &&& 31)))) % n)), .int (nI c), .ref q2], [])) rfl ?_
        refine y_ias (ws2 := ([(q2, .inl (y_c ε 0, 8, .inl (upd pf c (nI ((y_7 ((q >>> ((nI (3 * c)) &&& 31)))) % n)))))])) hC 0 rfl rfl (by first | assumption | omega | rfl | trivial) (by omega) rfl ?_
        refine y_steps hC 0 (σ' := (25, [(0, .int q), (1, .int (nI n)), (2, .ref q2), (3, .int (nI c))], [], [])) rfl ?_
        refine y_inc hC (n := 1) rfl rfl rfl (c + 1) (by rfl) [(3, .int (nI (c + 1))), (0, .int q), (1, .int (nI n)), (2, .ref q2)] rfl ?_
        refine y_steps hC 1 (σ' := (7, [(3, .int (nI (c + 1))), (0, .int q), (1, .int (nI n)), (2, .ref q2)], [], [])) rfl ?_
        refine y_sub hC [1, 2, 3, 0] rfl ?_
        exact ih_7 (c + 1) (upd pf c (nI ((y_7 ((q >>> ((nI (3 * c)) &&& 31)))) % n))) (fun i => if i = c then (y_7 ((q >>> ((nI (3 * c)) &&& 31)))) % n else pk i) (by omega) (by exact ⟨by omega, fun i hi => by unfold upd; by_cases e : i = c; (rw [if_pos e, if_pos e]; exact ⟨rfl, Nat.mod_lt _ (by omega)⟩); (rw [if_neg e, if_neg e]; exact l2 i (by omega))⟩)
  refine y_sub hC [2, 3, 1, 0] rfl ?_
  exact loop_7 _ 0 (fun _ => 0) (fun _ => 0) (Nat.lt_succ_self _) (by exact ⟨Nat.zero_le _, fun i hi => absurd hi (Nat.not_lt_zero i)⟩)
set_option maxHeartbeats 4000000 in
set_option maxRecDepth 1000000 in
theorem c_L_told {ε : y_Ev} {rf : Nat → Int32} {ra : Nat} {n : Nat} {m : Nat} {q : Nat → Nat} (hn2 : 2 ≤ n) (hn : n ≤ 8) (hr : ∀ c, c < n → rf c = nI (q c) ∧ q c < 8) (hRK : z_RK n q) (hm : m ≤ z_mx n q + 1) (hm8 : m ≤ 8) : y_C ε zmL_told 7 195 512 60000 [.ref ra, .int (nI n), .int (nI m)] ([(ra, .inl (y_c ε 0, 8, .inl rf))]) (fun r w2 => ∃ (t_a : Nat) (t_v : Nat) (t_f : Nat → Int32) (t_L : List Nat) (t_B : va_W), r = some (.ref t_a) ∧ w2 = (ra, .inl (y_c ε 0, 8, .inl rf)) :: t_B ∧ (y_Tv ε t_a t_v t_f t_L t_B) ∧ (t_L = z_sp n q m)) := by
  refine y_start (y := 144) rfl rfl (fun κ hC hT hN0 => ?_)
  refine y_steps hC 0 (σ' := (0, [(0, .ref ra), (1, .int (nI n)), (2, .int (nI m))], [], [])) rfl ?_
  refine y_ldS (i := 0) hC rfl (by decide) rfl ?_
  refine y_steps hC 3 (σ' := (6, [(4, .int (nI 0)), (3, .ref (y_a ε 0)), (0, .ref ra), (1, .int (nI n)), (2, .int (nI m))], [], [])) rfl ?_
  have loop_6 : ∀ (z_6 : Nat) (t_a : Nat) (t_v : Nat) (t_f : Nat → Int32) (t_L : List Nat) (t_B : va_W) (p : Nat), m - p < z_6 → ((y_Tv ε t_a t_v t_f t_L t_B) ∧ (p ≤ m ∧ t_L = z_sp n q p)) → y_G ε κ zmL_told (64 * p) (6656 * p) ((ra, .inl (y_c ε 0, 8, .inl rf)) :: t_B) (6, [(0, .ref ra), (1, .int (nI n)), (2, .int (nI m)), (3, .ref t_a), (4, .int (nI p))], [], []) := by
    intro z_6
    induction z_6 with
    | zero => intro t_a t_v t_f t_L t_B p hm_6 _; exact absurd hm_6 (Nat.not_lt_zero _)
    | succ z_6 ih_6 =>
      intro t_a t_v t_f t_L t_B p hm_6 hi_6
      obtain ⟨h_t, hi_6⟩ := hi_6
      obtain ⟨l1, l2⟩ := hi_6
      refine y_steps hC 2 (σ' := (9, [(0, .ref ra), (1, .int (nI n)), (2, .int (nI m)), (3, .ref t_a), (4, .int (nI p))], [.int (nI m), .int (nI p)], [])) rfl ?_
      refine y_if hC (c := nI m ≤ nI p) rfl (fun c_9 => ?_) (fun c_9 => ?_)
      · skip
        rw [nI_leI (by omega) (by omega)] at c_9
        refine y_steps hC 1 (σ' := (94, [(0, .ref ra), (1, .int (nI n)), (2, .int (nI m)), (3, .ref t_a), (4, .int (nI p))], [.ref t_a], [])) rfl ?_
        exact y_aret hC hT rfl (Or.inl ⟨_, rfl⟩) rfl (by omega) (by omega) ⟨t_a, t_v, t_f, t_L, t_B, rfl, (by rfl), h_t, (by rw [l2, show p = m by omega])⟩
      · skip
        rw [nI_leI (by omega) (by omega)] at c_9
        refine y_steps hC 4 (σ' := (18, [(6, .int (nI 0)), (5, .int (nI 1)), (0, .ref ra), (1, .int (nI n)), (2, .int (nI m)), (3, .ref t_a), (4, .int (nI p))], [], [])) rfl ?_
        have loop_18 : ∀ (z_18 : Nat) (u_a : Nat) (u_v : Nat) (u_f : Nat → Int32) (u_L : List Nat) (u_B : va_W) (fi : Nat) (c : Nat), n - c < z_18 → ((y_Tv ε u_a u_v u_f u_L u_B) ∧ (c ≤ n ∧ u_L = z_sp1 q p c (z_sp n q p) ∧ fi = if z_ct c (fun x => decide (q x = p)) = 0 then 1 else 0)) → y_G ε κ zmL_told (64 * p + 8 * c) (6656 * p + 832 * c) ((ra, .inl (y_c ε 0, 8, .inl rf)) :: u_B) (18, [(0, .ref ra), (1, .int (nI n)), (2, .int (nI m)), (3, .ref u_a), (4, .int (nI p)), (5, .int (nI fi)), (6, .int (nI c))], [], []) := by
          intro z_18
          induction z_18 with
          | zero => intro u_a u_v u_f u_L u_B fi c hm_18 _; exact absurd hm_18 (Nat.not_lt_zero _)
          | succ z_18 ih_18 =>
            intro u_a u_v u_f u_L u_B fi c hm_18 hi_18
            obtain ⟨h_u, hi_18⟩ := hi_18
            obtain ⟨r1, r2, r3⟩ := hi_18; have r5 : fi ≤ 1 := (by rw [r3]; split <;> omega); have r4 : u_L.length ≤ 2 * n := (by rw [r2]; exact y_sp1_le hn2 hRK (by omega) (by omega))
            refine y_steps hC 2 (σ' := (21, [(0, .ref ra), (1, .int (nI n)), (2, .int (nI m)), (3, .ref u_a), (4, .int (nI p)), (5, .int (nI fi)), (6, .int (nI c))], [.int (nI n), .int (nI c)], [])) rfl ?_
            refine y_if hC (c := nI n ≤ nI c) rfl (fun c_21 => ?_) (fun c_21 => ?_)
            · skip
              rw [nI_leI (by omega) (by omega)] at c_21
              refine y_steps hC 0 (σ' := (87, [(0, .ref ra), (1, .int (nI n)), (2, .int (nI m)), (3, .ref u_a), (4, .int (nI p)), (5, .int (nI fi)), (6, .int (nI c))], [], [])) rfl ?_
              refine y_inc hC (n := 1) rfl rfl rfl (p + 1) (by rfl) [(4, .int (nI (p + 1))), (0, .ref ra), (1, .int (nI n)), (2, .int (nI m)), (3, .ref u_a), (5, .int (nI fi)), (6, .int (nI c))] rfl ?_
              refine y_steps hC 1 (σ' := (6, [(4, .int (nI (p + 1))), (0, .ref ra), (1, .int (nI n)), (2, .int (nI m)), (3, .ref u_a), (5, .int (nI fi)), (6, .int (nI c))], [], [])) rfl ?_
              refine y_sub hC [1, 2, 3, 4, 0] rfl ?_
              refine y_wid (64 * (p + 1)) (6656 * (p + 1)) (by omega) (by omega) ?_
              exact ih_6 u_a u_v u_f u_L u_B (p + 1) (by omega) ⟨h_u, (by exact ⟨by omega, r2.trans (by rw [show c = n by omega]; rfl)⟩)⟩
            · skip
              rw [nI_leI (by omega) (by omega)] at c_21
              refine y_steps hC 2 (σ' := (27, [(0, .ref ra), (1, .int (nI n)), (2, .int (nI m)), (3, .ref u_a), (4, .int (nI p)), (5, .int (nI fi)), (6, .int (nI c))], [.int (nI c), .ref ra], [])) rfl ?_
              refine y_ial hC 0 rfl rfl (by first | assumption | omega | rfl | trivial) (by omega) ((hr _ (by omega)).1) ?_
              have hv_27 := (hr c (by omega)).2
              refine y_steps hC 1 (σ' := (30, [(0, .ref ra), (1, .int (nI n)), (2, .int (nI m)), (3, .ref u_a), (4, .int (nI p)), (5, .int (nI fi)), (6, .int (nI c))], [.int (nI p), .int (nI (q c))], [])) rfl ?_
              refine y_if hC (c := ¬ nI (q c) = nI p) rfl (fun c_30 => ?_) (fun c_30 => ?_)
              · skip
                rw [nI_eq (by omega) (by omega)] at c_30
                skip
                refine y_steps hC 0 (σ' := (81, [(0, .ref ra), (1, .int (nI n)), (2, .int (nI m)), (3, .ref u_a), (4, .int (nI p)), (5, .int (nI fi)), (6, .int (nI c))], [], [])) rfl ?_
                refine y_inc hC (n := 1) rfl rfl rfl (c + 1) (by rfl) [(6, .int (nI (c + 1))), (0, .ref ra), (1, .int (nI n)), (2, .int (nI m)), (3, .ref u_a), (4, .int (nI p)), (5, .int (nI fi))] rfl ?_
                refine y_steps hC 1 (σ' := (18, [(6, .int (nI (c + 1))), (0, .ref ra), (1, .int (nI n)), (2, .int (nI m)), (3, .ref u_a), (4, .int (nI p)), (5, .int (nI fi))], [], [])) rfl ?_
                refine y_sub hC [1, 2, 3, 4, 5, 6, 0] rfl ?_
                refine y_wid (64 * p + 8 * (c + 1)) (6656 * p + 832 * (c + 1)) (by omega) (by omega) ?_
                exact ih_18 u_a u_v u_f u_L u_B fi (c + 1) (by omega) ⟨h_u, (by first | exact ⟨by omega, r2.trans (y_sp1_no c_30).symm, r3.trans (by rw [y_ct_no (decide_eq_false c_30)])⟩ | (refine ⟨by omega, q_74.trans ?_, by rw [y_ct_yes (decide_eq_true c_30), if_neg (Nat.succ_ne_zero _)]⟩; rw [r2]; first | exact y_told3 c_30 (fun z => by rw [if_pos z] at r3; omega) | exact y_told1 c_30 (Decidable.byContradiction (fun z => by rw [if_neg z] at r3; omega)) (by omega) | exact y_told2 c_30 (Decidable.byContradiction (fun z => by rw [if_neg z] at r3; omega)) (by omega) (fun x hx => y_ct_ne (by omega) hRK (by omega))))⟩
              · skip
                rw [nI_eq (by omega) (by omega)] at c_30
                replace c_30 := Decidable.not_not.mp c_30
                refine y_steps hC 0 (σ' := (33, [(0, .ref ra), (1, .int (nI n)), (2, .int (nI m)), (3, .ref u_a), (4, .int (nI p)), (5, .int (nI fi)), (6, .int (nI c))], [], [])) rfl ?_
                refine y_new (ci := 7) (fs := [.null, .int (nI 0), .int (nI 0), .int (nI 0)]) hC rfl tyJ4 tyJ4_ok (z_t3 (i := 193) rfl rfl) (z_t3 (i := 194) rfl rfl) (z_t1 (i := 13) rfl rfl) (fun j hj => by match j, hj with | 0, _ => rfl | 1, _ => rfl | 2, _ => rfl | 3, _ => rfl | j + 4, hj => exact absurd hj (by omega)) (by omega) (by omega) rfl (fun q33 => ?_)
                refine y_steps hC 1 (σ' := (37, [(0, .ref ra), (1, .int (nI n)), (2, .int (nI m)), (3, .ref u_a), (4, .int (nI p)), (5, .int (nI fi)), (6, .int (nI c))], [.ref q33, .ref q33], [])) rfl ?_
                refine y_spl [[(q33, .inr (7, [.null, .int (nI 0), .int (nI 0), .int (nI 0)]))]] [[(ra, .inl (y_c ε 0, 8, .inl rf))], u_B] ?_
                refine y_callI (pc := 37) (st := [.ref q33]) (y := 125) (idx := 29) (w := y_J [[(q33, .inr (7, [.null, .int (nI 0), .int (nI 0), .int (nI 0)]))]]) (wr := y_J [[(ra, .inl (y_c ε 0, 8, .inl rf))], u_B]) (av := []) hC rfl rfl rfl rfl (z_t3 (i := 195) rfl rfl) (z_t3 (i := 196) rfl rfl) (z_t1 (i := 13) rfl rfl) (c_J4_init_da8c8 (a := q33) ) (show _ = some 0 from by decide +kernel) rfl rfl (by omega) (by omega) rfl (fun r_37 w_37 p_37 => ?_)
                obtain ⟨v2_37, rfl, ew_37⟩ := p_37
                replace ew_37 := ew_37.symm
                subst ew_37
                refine y_cmb [[(q33, .inr (7, [.ref v2_37, .int (nI 0), .int (nI 0), .int (nI 0)]))], [(v2_37, .inl (y_c ε 2, 16, .inl (fun _ => 0)))]] [[(ra, .inl (y_c ε 0, 8, .inl rf))], u_B] ?_
                refine y_steps hC 1 (σ' := (41, [(0, .ref ra), (1, .int (nI n)), (2, .int (nI m)), (3, .ref u_a), (4, .int (nI p)), (5, .int (nI fi)), (6, .int (nI c))], [.ref u_a, .ref q33], [])) rfl ?_
                refine y_mv [[(q33, .inr (7, [.ref v2_37, .int (nI 0), .int (nI 0), .int (nI 0)]))], [(v2_37, .inl (y_c ε 2, 16, .inl (fun _ => 0)))], [(ra, .inl (y_c ε 0, 8, .inl rf))]] (u_B) [] ?_
                refine y_mv [u_B, [(q33, .inr (7, [.ref v2_37, .int (nI 0), .int (nI 0), .int (nI 0)]))]] ([(v2_37, .inl (y_c ε 2, 16, .inl (fun _ => 0)))]) [[(ra, .inl (y_c ε 0, 8, .inl rf))]] ?_
                refine y_mv [[(v2_37, .inl (y_c ε 2, 16, .inl (fun _ => 0)))], u_B] ([(q33, .inr (7, [.ref v2_37, .int (nI 0), .int (nI 0), .int (nI 0)]))]) [[(ra, .inl (y_c ε 0, 8, .inl rf))]] ?_
                refine y_spl [[(q33, .inr (7, [.ref v2_37, .int (nI 0), .int (nI 0), .int (nI 0)]))], [(v2_37, .inl (y_c ε 2, 16, .inl (fun _ => 0)))], u_B] [[(ra, .inl (y_c ε 0, 8, .inl rf))]] ?_
                refine y_callV (b := q33) (pc := 41) (st := []) (y := 126) (idx := 30) (w := y_J [[(q33, .inr (7, [.ref v2_37, .int (nI 0), .int (nI 0), .int (nI 0)]))], [(v2_37, .inl (y_c ε 2, 16, .inl (fun _ => 0)))], u_B]) (wr := y_J [[(ra, .inl (y_c ε 0, 8, .inl rf))]]) (av := [.ref u_a]) hC rfl rfl rfl (z_t3 (i := 224) rfl rfl) (z_t3 (i := 225) rfl rfl) (z_t3 (i := 226) rfl rfl) (z_t1 (i := 13) rfl rfl) (fun H locs hP hS => y_rW (ci := 7) (k := 0) hC rfl rfl H locs hP hS) (c_J4_append_15ec4 (f := fun _ => 0) (a := q33) (t_a := u_a) (t_v := u_v) (t_f := u_f) (t_L := u_L) (t_B := u_B) (v := v2_37) (m := 16) (L := []) h_u (by exact y_Sb_nil) (by show 0 + u_L.length ≤ 100; omega)) (show _ = some 1 from by decide +kernel) rfl rfl (by omega) (by omega) rfl (fun r_41 w_41 p_41 => ?_)
                obtain ⟨v2_41, m2_41, f2_41, rfl, ew_41, q_41⟩ := p_41
                replace ew_41 := ew_41.symm
                subst ew_41
                refine y_cmb [[(q33, .inr (7, [.ref v2_41, .int (nI 0), .int (nI 0), .int (nI ((u_L).length))]))], [(v2_41, .inl (y_c ε 2, m2_41, .inl f2_41))], u_B] [[(ra, .inl (y_c ε 0, 8, .inl rf))]] ?_
                refine y_steps hC 1 (σ' := (46, [(0, .ref ra), (1, .int (nI n)), (2, .int (nI m)), (3, .ref u_a), (4, .int (nI p)), (5, .int (nI fi)), (6, .int (nI c))], [.int (nI fi), .ref q33], [])) rfl ?_
                refine y_if hC (c := nI fi = 0) rfl (fun c_46 => ?_) (fun c_46 => ?_)
                · skip
                  rw [z0_eq (by omega)] at c_46
                  refine y_steps hC 0 (σ' := (64, [(0, .ref ra), (1, .int (nI n)), (2, .int (nI m)), (3, .ref u_a), (4, .int (nI p)), (5, .int (nI fi)), (6, .int (nI c))], [.ref q33], [])) rfl ?_
                  refine y_ldS (i := 2) hC rfl (by decide) rfl ?_
                  refine y_steps hC 0 (σ' := (66, [(0, .ref ra), (1, .int (nI n)), (2, .int (nI m)), (3, .ref u_a), (4, .int (nI p)), (5, .int (nI fi)), (6, .int (nI c))], [.ref (y_a ε 2), .ref q33], [])) rfl ?_
                  refine y_spl [[(q33, .inr (7, [.ref v2_41, .int (nI 0), .int (nI 0), .int (nI ((u_L).length))]))], [(v2_41, .inl (y_c ε 2, m2_41, .inl f2_41))]] [u_B, [(ra, .inl (y_c ε 0, 8, .inl rf))]] ?_
                  refine y_callV (b := q33) (pc := 66) (st := []) (y := 126) (idx := 30) (w := y_J [[(q33, .inr (7, [.ref v2_41, .int (nI 0), .int (nI 0), .int (nI ((u_L).length))]))], [(v2_41, .inl (y_c ε 2, m2_41, .inl f2_41))]]) (wr := y_J [u_B, [(ra, .inl (y_c ε 0, 8, .inl rf))]]) (av := [.ref (y_a ε 2)]) hC rfl rfl rfl (z_t3 (i := 224) rfl rfl) (z_t3 (i := 225) rfl rfl) (z_t3 (i := 226) rfl rfl) (z_t1 (i := 13) rfl rfl) (fun H locs hP hS => y_rW (ci := 7) (k := 0) hC rfl rfl H locs hP hS) (c_J4_append_15ec4 (f := f2_41) (a := q33) (t_a := y_a ε 2) (t_v := y_a ε (2 + 20)) (t_f := (fun j => (y_byt.getD 2 []).getD j 0)) (t_L := (y_bts 2)) (t_B := []) (v := v2_41) (m := m2_41) (L := (u_L)) (y_Tk ε 2 (by decide)) (by exact q_41) (by show u_L.length + _ ≤ 100; have : ∀ i, i < 3 → (y_bts i).length ≤ 1 := (by decide); first | (have := this 0 (by decide); omega) | (have := this 1 (by decide); omega) | (have := this 2 (by decide); omega))) (show _ = some 1 from by decide +kernel) rfl rfl (by omega) (by omega) rfl (fun r_66 w_66 p_66 => ?_)
                  obtain ⟨v2_66, m2_66, f2_66, rfl, ew_66, q_66⟩ := p_66
                  replace ew_66 := ew_66.symm
                  subst ew_66
                  refine y_cmb [[(q33, .inr (7, [.ref v2_66, .int (nI 0), .int (nI 0), .int (nI ((((u_L)) ++ ((y_bts 2))).length))]))], [(v2_66, .inl (y_c ε 2, m2_66, .inl f2_66))]] [u_B, [(ra, .inl (y_c ε 0, 8, .inl rf))]] ?_
                  refine y_steps hC 1 (σ' := (71, [(0, .ref ra), (1, .int (nI n)), (2, .int (nI m)), (3, .ref u_a), (4, .int (nI p)), (5, .int (nI fi)), (6, .int (nI c))], [.int (nI c), .ref q33], [])) rfl ?_
                  refine y_spl [[(q33, .inr (7, [.ref v2_66, .int (nI 0), .int (nI 0), .int (nI ((((u_L)) ++ ((y_bts 2))).length))]))], [(v2_66, .inl (y_c ε 2, m2_66, .inl f2_66))]] [u_B, [(ra, .inl (y_c ε 0, 8, .inl rf))]] ?_
                  refine y_callV (b := q33) (pc := 71) (st := []) (y := 128) (idx := 38) (w := y_J [[(q33, .inr (7, [.ref v2_66, .int (nI 0), .int (nI 0), .int (nI ((((u_L)) ++ ((y_bts 2))).length))]))], [(v2_66, .inl (y_c ε 2, m2_66, .inl f2_66))]]) (wr := y_J [u_B, [(ra, .inl (y_c ε 0, 8, .inl rf))]]) (av := [.int (nI c)]) hC rfl rfl rfl (z_t4 (i := 81) rfl rfl) (z_t4 (i := 82) rfl rfl) (z_t4 (i := 83) rfl rfl) (z_t1 (i := 13) rfl rfl) (fun H locs hP hS => y_rW (ci := 7) (k := 0) hC rfl rfl H locs hP hS) (c_J4_append_bf812_1 (f := f2_66) (a := q33) (x := c) (v := v2_66) (m := m2_66) (L := (((u_L)) ++ ((y_bts 2)))) (by exact q_66) (by first | assumption | omega | rfl | trivial) (by rw [List.length_append]; have : ∀ i, i < 3 → (y_bts i).length ≤ 1 := (by decide); first | (have := this 0 (by decide); omega) | (have := this 1 (by decide); omega) | (have := this 2 (by decide); omega))) (show _ = some 1 from by decide +kernel) rfl rfl (by omega) (by omega) rfl (fun r_71 w_71 p_71 => ?_)
                  obtain ⟨v2_71, m2_71, f2_71, rfl, ew_71, q_71⟩ := p_71
                  replace ew_71 := ew_71.symm
                  subst ew_71
                  refine y_cmb [[(q33, .inr (7, [.ref v2_71, .int (nI 0), .int (nI 0), .int (nI ((((((u_L)) ++ ((y_bts 2)))) ++ [48 + c]).length))]))], [(v2_71, .inl (y_c ε 2, m2_71, .inl f2_71))]] [u_B, [(ra, .inl (y_c ε 0, 8, .inl rf))]] ?_
                  refine y_steps hC 0 (σ' := (74, [(0, .ref ra), (1, .int (nI n)), (2, .int (nI m)), (3, .ref u_a), (4, .int (nI p)), (5, .int (nI fi)), (6, .int (nI c))], [.ref q33], [])) rfl ?_
                  refine y_spl [[(q33, .inr (7, [.ref v2_71, .int (nI 0), .int (nI 0), .int (nI ((((((u_L)) ++ ((y_bts 2)))) ++ [48 + c]).length))]))], [(v2_71, .inl (y_c ε 2, m2_71, .inl f2_71))]] [u_B, [(ra, .inl (y_c ε 0, 8, .inl rf))]] ?_
                  refine y_callV (b := q33) (pc := 74) (st := []) (y := 129) (idx := 41) (w := y_J [[(q33, .inr (7, [.ref v2_71, .int (nI 0), .int (nI 0), .int (nI ((((((u_L)) ++ ((y_bts 2)))) ++ [48 + c]).length))]))], [(v2_71, .inl (y_c ε 2, m2_71, .inl f2_71))]]) (wr := y_J [u_B, [(ra, .inl (y_c ε 0, 8, .inl rf))]]) (av := []) hC rfl rfl rfl (z_t4 (i := 106) rfl rfl) (z_t4 (i := 107) rfl rfl) (z_t4 (i := 108) rfl rfl) (z_t1 (i := 13) rfl rfl) (fun H locs hP hS => y_rW (ci := 7) (k := 0) hC rfl rfl H locs hP hS) (c_J4_toString_0e30d (f := f2_71) (a := q33) (v := v2_71) (m := m2_71) (L := (((((u_L)) ++ ((y_bts 2)))) ++ [48 + c])) (by exact q_71) (by rw [List.length_append, List.length_append]; show u_L.length + _ + 1 ≤ 200; have : ∀ i, i < 3 → (y_bts i).length ≤ 1 := (by decide); first | (have := this 0 (by decide); omega) | (have := this 1 (by decide); omega) | (have := this 2 (by decide); omega))) (show _ = some 0 from by decide +kernel) rfl rfl (by omega) (by omega) rfl (fun r_74 w_74 p_74 => ?_)
                  obtain ⟨t_74_a, t_74_v, t_74_f, t_74_L, t_74_B, rfl, ew_74, h_t_74, q_74⟩ := p_74
                  replace ew_74 := ew_74.symm
                  subst ew_74
                  refine y_cmb [t_74_B] [u_B, [(ra, .inl (y_c ε 0, 8, .inl rf))]] ?_
                  refine y_steps hC 3 (σ' := (81, [(5, .int (nI 0)), (3, .ref t_74_a), (0, .ref ra), (1, .int (nI n)), (2, .int (nI m)), (4, .int (nI p)), (6, .int (nI c))], [], [])) rfl ?_
                  refine y_inc hC (n := 1) rfl rfl rfl (c + 1) (by rfl) [(6, .int (nI (c + 1))), (5, .int (nI 0)), (3, .ref t_74_a), (0, .ref ra), (1, .int (nI n)), (2, .int (nI m)), (4, .int (nI p))] rfl ?_
                  refine y_steps hC 1 (σ' := (18, [(6, .int (nI (c + 1))), (5, .int (nI 0)), (3, .ref t_74_a), (0, .ref ra), (1, .int (nI n)), (2, .int (nI m)), (4, .int (nI p))], [], [])) rfl ?_
                  refine y_mv [t_74_B, u_B] ([(ra, .inl (y_c ε 0, 8, .inl rf))]) [] ?_
                  refine y_mv [[(ra, .inl (y_c ε 0, 8, .inl rf))], t_74_B] (u_B) [] ?_
                  refine y_drp (u_B) [[(ra, .inl (y_c ε 0, 8, .inl rf))], t_74_B] ?_
                  refine y_sub hC [3, 4, 5, 2, 6, 1, 0] rfl ?_
                  refine y_wid (64 * p + 8 * (c + 1)) (6656 * p + 832 * (c + 1)) (by omega) (by omega) ?_
                  exact ih_18 t_74_a t_74_v t_74_f t_74_L t_74_B 0 (c + 1) (by omega) ⟨h_t_74, (by first | exact ⟨by omega, r2.trans (y_sp1_no c_30).symm, r3.trans (by rw [y_ct_no (decide_eq_false c_30)])⟩ | (refine ⟨by omega, q_74.trans ?_, by rw [y_ct_yes (decide_eq_true c_30), if_neg (Nat.succ_ne_zero _)]⟩; rw [r2]; first | exact y_told3 c_30 (fun z => by rw [if_pos z] at r3; omega) | exact y_told1 c_30 (Decidable.byContradiction (fun z => by rw [if_neg z] at r3; omega)) (by omega) | exact y_told2 c_30 (Decidable.byContradiction (fun z => by rw [if_neg z] at r3; omega)) (by omega) (fun x hx => y_ct_ne (by omega) hRK (by omega))))⟩
                · skip
                  rw [z0_eq (by omega)] at c_46
                  refine y_steps hC 1 (σ' := (51, [(0, .ref ra), (1, .int (nI n)), (2, .int (nI m)), (3, .ref u_a), (4, .int (nI p)), (5, .int (nI fi)), (6, .int (nI c))], [.int (nI p), .ref q33], [])) rfl ?_
                  refine y_if hC (c := nI p ≤ 0) rfl (fun c_51 => ?_) (fun c_51 => ?_)
                  · skip
                    rw [z0_le (by omega)] at c_51
                    refine y_steps hC 0 (σ' := (59, [(0, .ref ra), (1, .int (nI n)), (2, .int (nI m)), (3, .ref u_a), (4, .int (nI p)), (5, .int (nI fi)), (6, .int (nI c))], [.ref q33], [])) rfl ?_
                    refine y_ldS (i := 0) hC rfl (by decide) rfl ?_
                    refine y_steps hC 1 (σ' := (66, [(0, .ref ra), (1, .int (nI n)), (2, .int (nI m)), (3, .ref u_a), (4, .int (nI p)), (5, .int (nI fi)), (6, .int (nI c))], [.ref (y_a ε 0), .ref q33], [])) rfl ?_
                    refine y_spl [[(q33, .inr (7, [.ref v2_41, .int (nI 0), .int (nI 0), .int (nI ((u_L).length))]))], [(v2_41, .inl (y_c ε 2, m2_41, .inl f2_41))]] [u_B, [(ra, .inl (y_c ε 0, 8, .inl rf))]] ?_
                    refine y_callV (b := q33) (pc := 66) (st := []) (y := 126) (idx := 30) (w := y_J [[(q33, .inr (7, [.ref v2_41, .int (nI 0), .int (nI 0), .int (nI ((u_L).length))]))], [(v2_41, .inl (y_c ε 2, m2_41, .inl f2_41))]]) (wr := y_J [u_B, [(ra, .inl (y_c ε 0, 8, .inl rf))]]) (av := [.ref (y_a ε 0)]) hC rfl rfl rfl (z_t3 (i := 224) rfl rfl) (z_t3 (i := 225) rfl rfl) (z_t3 (i := 226) rfl rfl) (z_t1 (i := 13) rfl rfl) (fun H locs hP hS => y_rW (ci := 7) (k := 0) hC rfl rfl H locs hP hS) (c_J4_append_15ec4 (f := f2_41) (a := q33) (t_a := y_a ε 0) (t_v := y_a ε (0 + 20)) (t_f := (fun j => (y_byt.getD 0 []).getD j 0)) (t_L := (y_bts 0)) (t_B := []) (v := v2_41) (m := m2_41) (L := (u_L)) (y_Tk ε 0 (by decide)) (by exact q_41) (by show u_L.length + _ ≤ 100; have : ∀ i, i < 3 → (y_bts i).length ≤ 1 := (by decide); first | (have := this 0 (by decide); omega) | (have := this 1 (by decide); omega) | (have := this 2 (by decide); omega))) (show _ = some 1 from by decide +kernel) rfl rfl (by omega) (by omega) rfl (fun r_66 w_66 p_66 => ?_)
                    obtain ⟨v2_66, m2_66, f2_66, rfl, ew_66, q_66⟩ := p_66
                    replace ew_66 := ew_66.symm
                    subst ew_66
                    refine y_cmb [[(q33, .inr (7, [.ref v2_66, .int (nI 0), .int (nI 0), .int (nI ((((u_L)) ++ ((y_bts 0))).length))]))], [(v2_66, .inl (y_c ε 2, m2_66, .inl f2_66))]] [u_B, [(ra, .inl (y_c ε 0, 8, .inl rf))]] ?_
                    refine y_steps hC 1 (σ' := (71, [(0, .ref ra), (1, .int (nI n)), (2, .int (nI m)), (3, .ref u_a), (4, .int (nI p)), (5, .int (nI fi)), (6, .int (nI c))], [.int (nI c), .ref q33], [])) rfl ?_
                    refine y_spl [[(q33, .inr (7, [.ref v2_66, .int (nI 0), .int (nI 0), .int (nI ((((u_L)) ++ ((y_bts 0))).length))]))], [(v2_66, .inl (y_c ε 2, m2_66, .inl f2_66))]] [u_B, [(ra, .inl (y_c ε 0, 8, .inl rf))]] ?_
                    refine y_callV (b := q33) (pc := 71) (st := []) (y := 128) (idx := 38) (w := y_J [[(q33, .inr (7, [.ref v2_66, .int (nI 0), .int (nI 0), .int (nI ((((u_L)) ++ ((y_bts 0))).length))]))], [(v2_66, .inl (y_c ε 2, m2_66, .inl f2_66))]]) (wr := y_J [u_B, [(ra, .inl (y_c ε 0, 8, .inl rf))]]) (av := [.int (nI c)]) hC rfl rfl rfl (z_t4 (i := 81) rfl rfl) (z_t4 (i := 82) rfl rfl) (z_t4 (i := 83) rfl rfl) (z_t1 (i := 13) rfl rfl) (fun H locs hP hS => y_rW (ci := 7) (k := 0) hC rfl rfl H locs hP hS) (c_J4_append_bf812_1 (f := f2_66) (a := q33) (x := c) (v := v2_66) (m := m2_66) (L := (((u_L)) ++ ((y_bts 0)))) (by exact q_66) (by first | assumption | omega | rfl | trivial) (by rw [List.length_append]; have : ∀ i, i < 3 → (y_bts i).length ≤ 1 := (by decide); first | (have := this 0 (by decide); omega) | (have := this 1 (by decide); omega) | (have := this 2 (by decide); omega))) (show _ = some 1 from by decide +kernel) rfl rfl (by omega) (by omega) rfl (fun r_71 w_71 p_71 => ?_)
                    obtain ⟨v2_71, m2_71, f2_71, rfl, ew_71, q_71⟩ := p_71
                    replace ew_71 := ew_71.symm
                    subst ew_71
                    refine y_cmb [[(q33, .inr (7, [.ref v2_71, .int (nI 0), .int (nI 0), .int (nI ((((((u_L)) ++ ((y_bts 0)))) ++ [48 + c]).length))]))], [(v2_71, .inl (y_c ε 2, m2_71, .inl f2_71))]] [u_B, [(ra, .inl (y_c ε 0, 8, .inl rf))]] ?_
                    refine y_steps hC 0 (σ' := (74, [(0, .ref ra), (1, .int (nI n)), (2, .int (nI m)), (3, .ref u_a), (4, .int (nI p)), (5, .int (nI fi)), (6, .int (nI c))], [.ref q33], [])) rfl ?_
                    refine y_spl [[(q33, .inr (7, [.ref v2_71, .int (nI 0), .int (nI 0), .int (nI ((((((u_L)) ++ ((y_bts 0)))) ++ [48 + c]).length))]))], [(v2_71, .inl (y_c ε 2, m2_71, .inl f2_71))]] [u_B, [(ra, .inl (y_c ε 0, 8, .inl rf))]] ?_
                    refine y_callV (b := q33) (pc := 74) (st := []) (y := 129) (idx := 41) (w := y_J [[(q33, .inr (7, [.ref v2_71, .int (nI 0), .int (nI 0), .int (nI ((((((u_L)) ++ ((y_bts 0)))) ++ [48 + c]).length))]))], [(v2_71, .inl (y_c ε 2, m2_71, .inl f2_71))]]) (wr := y_J [u_B, [(ra, .inl (y_c ε 0, 8, .inl rf))]]) (av := []) hC rfl rfl rfl (z_t4 (i := 106) rfl rfl) (z_t4 (i := 107) rfl rfl) (z_t4 (i := 108) rfl rfl) (z_t1 (i := 13) rfl rfl) (fun H locs hP hS => y_rW (ci := 7) (k := 0) hC rfl rfl H locs hP hS) (c_J4_toString_0e30d (f := f2_71) (a := q33) (v := v2_71) (m := m2_71) (L := (((((u_L)) ++ ((y_bts 0)))) ++ [48 + c])) (by exact q_71) (by rw [List.length_append, List.length_append]; show u_L.length + _ + 1 ≤ 200; have : ∀ i, i < 3 → (y_bts i).length ≤ 1 := (by decide); first | (have := this 0 (by decide); omega) | (have := this 1 (by decide); omega) | (have := this 2 (by decide); omega))) (show _ = some 0 from by decide +kernel) rfl rfl (by omega) (by omega) rfl (fun r_74 w_74 p_74 => ?_)
                    obtain ⟨t_74_a, t_74_v, t_74_f, t_74_L, t_74_B, rfl, ew_74, h_t_74, q_74⟩ := p_74
                    replace ew_74 := ew_74.symm
                    subst ew_74
                    refine y_cmb [t_74_B] [u_B, [(ra, .inl (y_c ε 0, 8, .inl rf))]] ?_
                    refine y_steps hC 3 (σ' := (81, [(5, .int (nI 0)), (3, .ref t_74_a), (0, .ref ra), (1, .int (nI n)), (2, .int (nI m)), (4, .int (nI p)), (6, .int (nI c))], [], [])) rfl ?_
                    refine y_inc hC (n := 1) rfl rfl rfl (c + 1) (by rfl) [(6, .int (nI (c + 1))), (5, .int (nI 0)), (3, .ref t_74_a), (0, .ref ra), (1, .int (nI n)), (2, .int (nI m)), (4, .int (nI p))] rfl ?_
                    refine y_steps hC 1 (σ' := (18, [(6, .int (nI (c + 1))), (5, .int (nI 0)), (3, .ref t_74_a), (0, .ref ra), (1, .int (nI n)), (2, .int (nI m)), (4, .int (nI p))], [], [])) rfl ?_
                    refine y_mv [t_74_B, u_B] ([(ra, .inl (y_c ε 0, 8, .inl rf))]) [] ?_
                    refine y_mv [[(ra, .inl (y_c ε 0, 8, .inl rf))], t_74_B] (u_B) [] ?_
                    refine y_drp (u_B) [[(ra, .inl (y_c ε 0, 8, .inl rf))], t_74_B] ?_
                    refine y_sub hC [3, 4, 5, 2, 6, 1, 0] rfl ?_
                    refine y_wid (64 * p + 8 * (c + 1)) (6656 * p + 832 * (c + 1)) (by omega) (by omega) ?_
                    exact ih_18 t_74_a t_74_v t_74_f t_74_L t_74_B 0 (c + 1) (by omega) ⟨h_t_74, (by first | exact ⟨by omega, r2.trans (y_sp1_no c_30).symm, r3.trans (by rw [y_ct_no (decide_eq_false c_30)])⟩ | (refine ⟨by omega, q_74.trans ?_, by rw [y_ct_yes (decide_eq_true c_30), if_neg (Nat.succ_ne_zero _)]⟩; rw [r2]; first | exact y_told3 c_30 (fun z => by rw [if_pos z] at r3; omega) | exact y_told1 c_30 (Decidable.byContradiction (fun z => by rw [if_neg z] at r3; omega)) (by omega) | exact y_told2 c_30 (Decidable.byContradiction (fun z => by rw [if_neg z] at r3; omega)) (by omega) (fun x hx => y_ct_ne (by omega) hRK (by omega))))⟩
                  · skip
                    rw [z0_le (by omega)] at c_51
                    refine y_steps hC 0 (σ' := (54, [(0, .ref ra), (1, .int (nI n)), (2, .int (nI m)), (3, .ref u_a), (4, .int (nI p)), (5, .int (nI fi)), (6, .int (nI c))], [.ref q33], [])) rfl ?_
                    refine y_ldS (i := 1) hC rfl (by decide) rfl ?_
                    refine y_steps hC 1 (σ' := (66, [(0, .ref ra), (1, .int (nI n)), (2, .int (nI m)), (3, .ref u_a), (4, .int (nI p)), (5, .int (nI fi)), (6, .int (nI c))], [.ref (y_a ε 1), .ref q33], [])) rfl ?_
                    refine y_spl [[(q33, .inr (7, [.ref v2_41, .int (nI 0), .int (nI 0), .int (nI ((u_L).length))]))], [(v2_41, .inl (y_c ε 2, m2_41, .inl f2_41))]] [u_B, [(ra, .inl (y_c ε 0, 8, .inl rf))]] ?_
                    refine y_callV (b := q33) (pc := 66) (st := []) (y := 126) (idx := 30) (w := y_J [[(q33, .inr (7, [.ref v2_41, .int (nI 0), .int (nI 0), .int (nI ((u_L).length))]))], [(v2_41, .inl (y_c ε 2, m2_41, .inl f2_41))]]) (wr := y_J [u_B, [(ra, .inl (y_c ε 0, 8, .inl rf))]]) (av := [.ref (y_a ε 1)]) hC rfl rfl rfl (z_t3 (i := 224) rfl rfl) (z_t3 (i := 225) rfl rfl) (z_t3 (i := 226) rfl rfl) (z_t1 (i := 13) rfl rfl) (fun H locs hP hS => y_rW (ci := 7) (k := 0) hC rfl rfl H locs hP hS) (c_J4_append_15ec4 (f := f2_41) (a := q33) (t_a := y_a ε 1) (t_v := y_a ε (1 + 20)) (t_f := (fun j => (y_byt.getD 1 []).getD j 0)) (t_L := (y_bts 1)) (t_B := []) (v := v2_41) (m := m2_41) (L := (u_L)) (y_Tk ε 1 (by decide)) (by exact q_41) (by show u_L.length + _ ≤ 100; have : ∀ i, i < 3 → (y_bts i).length ≤ 1 := (by decide); first | (have := this 0 (by decide); omega) | (have := this 1 (by decide); omega) | (have := this 2 (by decide); omega))) (show _ = some 1 from by decide +kernel) rfl rfl (by omega) (by omega) rfl (fun r_66 w_66 p_66 => ?_)
                    obtain ⟨v2_66, m2_66, f2_66, rfl, ew_66, q_66⟩ := p_66
                    replace ew_66 := ew_66.symm
                    subst ew_66
                    refine y_cmb [[(q33, .inr (7, [.ref v2_66, .int (nI 0), .int (nI 0), .int (nI ((((u_L)) ++ ((y_bts 1))).length))]))], [(v2_66, .inl (y_c ε 2, m2_66, .inl f2_66))]] [u_B, [(ra, .inl (y_c ε 0, 8, .inl rf))]] ?_
                    refine y_steps hC 1 (σ' := (71, [(0, .ref ra), (1, .int (nI n)), (2, .int (nI m)), (3, .ref u_a), (4, .int (nI p)), (5, .int (nI fi)), (6, .int (nI c))], [.int (nI c), .ref q33], [])) rfl ?_
                    refine y_spl [[(q33, .inr (7, [.ref v2_66, .int (nI 0), .int (nI 0), .int (nI ((((u_L)) ++ ((y_bts 1))).length))]))], [(v2_66, .inl (y_c ε 2, m2_66, .inl f2_66))]] [u_B, [(ra, .inl (y_c ε 0, 8, .inl rf))]] ?_
                    refine y_callV (b := q33) (pc := 71) (st := []) (y := 128) (idx := 38) (w := y_J [[(q33, .inr (7, [.ref v2_66, .int (nI 0), .int (nI 0), .int (nI ((((u_L)) ++ ((y_bts 1))).length))]))], [(v2_66, .inl (y_c ε 2, m2_66, .inl f2_66))]]) (wr := y_J [u_B, [(ra, .inl (y_c ε 0, 8, .inl rf))]]) (av := [.int (nI c)]) hC rfl rfl rfl (z_t4 (i := 81) rfl rfl) (z_t4 (i := 82) rfl rfl) (z_t4 (i := 83) rfl rfl) (z_t1 (i := 13) rfl rfl) (fun H locs hP hS => y_rW (ci := 7) (k := 0) hC rfl rfl H locs hP hS) (c_J4_append_bf812_1 (f := f2_66) (a := q33) (x := c) (v := v2_66) (m := m2_66) (L := (((u_L)) ++ ((y_bts 1)))) (by exact q_66) (by first | assumption | omega | rfl | trivial) (by rw [List.length_append]; have : ∀ i, i < 3 → (y_bts i).length ≤ 1 := (by decide); first | (have := this 0 (by decide); omega) | (have := this 1 (by decide); omega) | (have := this 2 (by decide); omega))) (show _ = some 1 from by decide +kernel) rfl rfl (by omega) (by omega) rfl (fun r_71 w_71 p_71 => ?_)
                    obtain ⟨v2_71, m2_71, f2_71, rfl, ew_71, q_71⟩ := p_71
                    replace ew_71 := ew_71.symm
                    subst ew_71
                    refine y_cmb [[(q33, .inr (7, [.ref v2_71, .int (nI 0), .int (nI 0), .int (nI ((((((u_L)) ++ ((y_bts 1)))) ++ [48 + c]).length))]))], [(v2_71, .inl (y_c ε 2, m2_71, .inl f2_71))]] [u_B, [(ra, .inl (y_c ε 0, 8, .inl rf))]] ?_
                    refine y_steps hC 0 (σ' := (74, [(0, .ref ra), (1, .int (nI n)), (2, .int (nI m)), (3, .ref u_a), (4, .int (nI p)), (5, .int (nI fi)), (6, .int (nI c))], [.ref q33], [])) rfl ?_
                    refine y_spl [[(q33, .inr (7, [.ref v2_71, .int (nI 0), .int (nI 0), .int (nI ((((((u_L)) ++ ((y_bts 1)))) ++ [48 + c]).length))]))], [(v2_71, .inl (y_c ε 2, m2_71, .inl f2_71))]] [u_B, [(ra, .inl (y_c ε 0, 8, .inl rf))]] ?_
                    refine y_callV (b := q33) (pc := 74) (st := []) (y := 129) (idx := 41) (w := y_J [[(q33, .inr (7, [.ref v2_71, .int (nI 0), .int (nI 0), .int (nI ((((((u_L)) ++ ((y_bts 1)))) ++ [48 + c]).length))]))], [(v2_71, .inl (y_c ε 2, m2_71, .inl f2_71))]]) (wr := y_J [u_B, [(ra, .inl (y_c ε 0, 8, .inl rf))]]) (av := []) hC rfl rfl rfl (z_t4 (i := 106) rfl rfl) (z_t4 (i := 107) rfl rfl) (z_t4 (i := 108) rfl rfl) (z_t1 (i := 13) rfl rfl) (fun H locs hP hS => y_rW (ci := 7) (k := 0) hC rfl rfl H locs hP hS) (c_J4_toString_0e30d (f := f2_71) (a := q33) (v := v2_71) (m := m2_71) (L := (((((u_L)) ++ ((y_bts 1)))) ++ [48 + c])) (by exact q_71) (by rw [List.length_append, List.length_append]; show u_L.length + _ + 1 ≤ 200; have : ∀ i, i < 3 → (y_bts i).length ≤ 1 := (by decide); first | (have := this 0 (by decide); omega) | (have := this 1 (by decide); omega) | (have := this 2 (by decide); omega))) (show _ = some 0 from by decide +kernel) rfl rfl (by omega) (by omega) rfl (fun r_74 w_74 p_74 => ?_)
                    obtain ⟨t_74_a, t_74_v, t_74_f, t_74_L, t_74_B, rfl, ew_74, h_t_74, q_74⟩ := p_74
                    replace ew_74 := ew_74.symm
                    subst ew_74
                    refine y_cmb [t_74_B] [u_B, [(ra, .inl (y_c ε 0, 8, .inl rf))]] ?_
                    refine y_steps hC 3 (σ' := (81, [(5, .int (nI 0)), (3, .ref t_74_a), (0, .ref ra), (1, .int (nI n)), (2, .int (nI m)), (4, .int (nI p)), (6, .int (nI c))], [], [])) rfl ?_
                    refine y_inc hC (n := 1) rfl rfl rfl (c + 1) (by rfl) [(6, .int (nI (c + 1))), (5, .int (nI 0)), (3, .ref t_74_a), (0, .ref ra), (1, .int (nI n)), (2, .int (nI m)), (4, .int (nI p))] rfl ?_
                    refine y_steps hC 1 (σ' := (18, [(6, .int (nI (c + 1))), (5, .int (nI 0)), (3, .ref t_74_a), (0, .ref ra), (1, .int (nI n)), (2, .int (nI m)), (4, .int (nI p))], [], [])) rfl ?_
                    refine y_mv [t_74_B, u_B] ([(ra, .inl (y_c ε 0, 8, .inl rf))]) [] ?_
                    refine y_mv [[(ra, .inl (y_c ε 0, 8, .inl rf))], t_74_B] (u_B) [] ?_
                    refine y_drp (u_B) [[(ra, .inl (y_c ε 0, 8, .inl rf))], t_74_B] ?_
                    refine y_sub hC [3, 4, 5, 2, 6, 1, 0] rfl ?_
                    refine y_wid (64 * p + 8 * (c + 1)) (6656 * p + 832 * (c + 1)) (by omega) (by omega) ?_
                    exact ih_18 t_74_a t_74_v t_74_f t_74_L t_74_B 0 (c + 1) (by omega) ⟨h_t_74, (by first | exact ⟨by omega, r2.trans (y_sp1_no c_30).symm, r3.trans (by rw [y_ct_no (decide_eq_false c_30)])⟩ | (refine ⟨by omega, q_74.trans ?_, by rw [y_ct_yes (decide_eq_true c_30), if_neg (Nat.succ_ne_zero _)]⟩; rw [r2]; first | exact y_told3 c_30 (fun z => by rw [if_pos z] at r3; omega) | exact y_told1 c_30 (Decidable.byContradiction (fun z => by rw [if_neg z] at r3; omega)) (by omega) | exact y_told2 c_30 (Decidable.byContradiction (fun z => by rw [if_neg z] at r3; omega)) (by omega) (fun x hx => y_ct_ne (by omega) hRK (by omega))))⟩
        refine y_sub hC [2, 3, 4, 5, 6, 1, 0] rfl ?_
        refine y_wid (64 * p + 8 * 0) (6656 * p + 832 * 0) (by omega) (by omega) ?_
        exact loop_18 _ t_a t_v t_f t_L t_B 1 0 (Nat.lt_succ_self _) ⟨h_t, (by exact ⟨Nat.zero_le _, l2, rfl⟩)⟩
  refine y_sub hC [2, 3, 4, 1, 0] rfl ?_
  refine y_wid (64 * 0) (6658 * 0) (by omega) (by omega) ?_
  exact loop_6 _ (y_a ε 0) (y_a ε (0 + 20)) (fun j => (y_byt.getD 0 []).getD j 0) (y_bts 0) [] 0 (Nat.lt_succ_self _) ⟨(y_Tk ε 0 (by decide)), (by exact ⟨Nat.zero_le _, rfl⟩)⟩
set_option maxHeartbeats 4000000 in
set_option maxRecDepth 1000000 in
theorem c_L_feeds {ε : y_Ev} {t_a : Nat} {t_v : Nat} {t_f : Nat → Int32} {t_L : List Nat} {t_B : va_W} {n : Nat} {outs : Nat} {bm : Nat} {ms : Nat} {dr : Nat → Nat} {cn : Nat → Nat} {pl : Nat → Nat → Nat} {I : Option (Nat × Nat × Nat × Nat × (Nat → Nat) × (Nat → Nat) × (Nat → Nat → Nat))} {tp : Nat → Nat} {wr : Nat} {pp : Nat → Int32} {sz : Nat → Nat} {ce : Nat → Int64} {ad : Nat → Nat} {hX : List z_E} (h_t : y_Tv ε t_a t_v t_f t_L t_B) (hCI : y_CI n outs bm ms dr cn pl I 0 tp wr pp sz ce hX) (hc : ∀ c ∈ t_L, 1 ≤ c) (hl : t_L.length ≤ 120) : y_C ε zmL_feeds 5 192 0 0 [.ref (ad 0), .ref t_a] ((t_B) ++ (z_W (y_c ε) ad hX)) (fun r w2 => ∃ (h2 : List z_E) (tp2 : Nat → Nat), r = some (.int (nI 1)) ∧ w2 = (t_B) ++ (z_W (y_c ε) ad h2) ∧ (y_CI n outs bm ms dr cn pl I t_L.length tp2 wr pp sz ce h2) ∧ (∀ j, j < t_L.length → tp2 j = t_L.getD j 0)) := by
  refine y_start (y := 141) rfl rfl (fun κ hC hT hN0 => ?_)
  refine y_steps hC 4 (σ' := (4, [(3, .int (nI 0)), (2, .int (nI 1)), (0, .ref (ad 0)), (1, .ref t_a)], [], [])) rfl ?_
  have loop_4 : ∀ (z_4 : Nat) (is : Nat) (k : Nat) (h4 : List z_E) (tp3 : Nat → Nat), t_L.length - k < z_4 → ((y_CI n outs bm ms dr cn pl I k tp3 wr pp sz ce h4) ∧ (k ≤ t_L.length ∧ is = 1 ∧ ∀ j, j < k → tp3 j = t_L.getD j 0)) → y_G ε κ zmL_feeds 0 0 ((t_B) ++ (z_W (y_c ε) ad h4)) (4, [(0, .ref (ad 0)), (1, .ref t_a), (2, .int (nI is)), (3, .int (nI k))], [], []) := by
    intro z_4
    induction z_4 with
    | zero => intro is k h4 tp3 hm_4 _; exact absurd hm_4 (Nat.not_lt_zero _)
    | succ z_4 ih_4 =>
      intro is k h4 tp3 hm_4 hi_4
      obtain ⟨h_cl4, hi_4⟩ := hi_4
      obtain ⟨l1, l2, l3⟩ := hi_4
      refine y_steps hC 2 (σ' := (6, [(0, .ref (ad 0)), (1, .ref t_a), (2, .int (nI is)), (3, .int (nI k))], [.ref t_a, .int (nI k)], [])) rfl ?_
      refine y_spl [t_B] [z_W (y_c ε) ad h4] ?_
      refine y_callV (b := t_a) (pc := 6) (st := [.int (nI k)]) (y := 118) (idx := 9) (w := y_J [t_B]) (wr := y_J [z_W (y_c ε) ad h4]) (av := []) hC rfl rfl rfl (z_t3 (i := 135) rfl rfl) (z_t3 (i := 136) rfl rfl) (z_t3 (i := 137) rfl rfl) (z_t1 (i := 14) rfl rfl) (fun H locs hP hS => y_trec hC h_t (X := y_J [z_W (y_c ε) ad h4]) (hP) hS) (c_J0_length_8abf5 (t_a := t_a) (t_v := t_v) (t_f := t_f) (t_L := t_L) (t_B := t_B) h_t) (show _ = some 0 from by decide +kernel) rfl rfl (by omega) (by omega) rfl (fun r_6 w_6 p_6 => ?_)
      obtain ⟨rfl, ew_6⟩ := p_6
      replace ew_6 := ew_6.symm
      subst ew_6
      refine y_cmb [t_B] [z_W (y_c ε) ad h4] ?_
      refine y_steps hC 0 (σ' := (9, [(0, .ref (ad 0)), (1, .ref t_a), (2, .int (nI is)), (3, .int (nI k))], [.int (nI t_L.length), .int (nI k)], [])) rfl ?_
      refine y_if hC (c := nI t_L.length ≤ nI k) rfl (fun c_9 => ?_) (fun c_9 => ?_)
      · skip
        rw [nI_leI (by omega) (by omega)] at c_9
        refine y_steps hC 1 (σ' := (42, [(0, .ref (ad 0)), (1, .ref t_a), (2, .int (nI is)), (3, .int (nI k))], [.int (nI is)], [])) rfl ?_
        exact y_zret hC hT rfl (Or.inl rfl) (by rw [l2]; rfl) rfl (by omega) (by omega) ⟨h4, tp3, (by rw [l2]), (by rfl), (by exact (show k = t_L.length by omega) ▸ h_cl4), (by exact fun j hj => l3 j (by omega))⟩
      · skip
        rw [nI_leI (by omega) (by omega)] at c_9
        refine y_steps hC 4 (σ' := (16, [(0, .ref (ad 0)), (1, .ref t_a), (2, .int (nI is)), (3, .int (nI k))], [.int (nI k), .ref t_a, .ref (ad 0), .int (nI is)], [])) rfl ?_
        refine y_spl [t_B] [z_W (y_c ε) ad h4] ?_
        refine y_callV (b := t_a) (pc := 16) (st := [.ref (ad 0), .int (nI is)]) (y := 119) (idx := 15) (w := y_J [t_B]) (wr := y_J [z_W (y_c ε) ad h4]) (av := [.int (nI k)]) hC rfl rfl rfl (z_t3 (i := 145) rfl rfl) (z_t3 (i := 146) rfl rfl) (z_t3 (i := 147) rfl rfl) (z_t1 (i := 14) rfl rfl) (fun H locs hP hS => y_trec hC h_t (X := y_J [z_W (y_c ε) ad h4]) (hP) hS) (c_J0_charAt_5068e (t_a := t_a) (t_v := t_v) (t_f := t_f) (t_L := t_L) (t_B := t_B) (i := k) h_t (by first | assumption | omega | rfl | trivial)) (show _ = some 1 from by decide +kernel) rfl rfl (by omega) (by omega) rfl (fun r_16 w_16 p_16 => ?_)
        obtain ⟨rfl, ew_16⟩ := p_16
        replace ew_16 := ew_16.symm
        subst ew_16
        refine y_cmb [t_B] [z_W (y_c ε) ad h4] ?_
        refine y_steps hC 0 (σ' := (19, [(0, .ref (ad 0)), (1, .ref t_a), (2, .int (nI is)), (3, .int (nI k))], [.int (nI (t_L.getD k 0)), .ref (ad 0), .int (nI is)], [])) rfl ?_
        obtain ⟨fs_19, hh_19⟩ := y_CI_hd h_cl4
        refine y_spl [t_B] [z_W (y_c ε) ad h4] ?_
        refine y_cls (d := 2) (y := 72) (idx := 19) (ad := ad) (h := h4) (B := y_J [t_B]) (av := [.int (nI (t_L.getD k 0))]) (fs := fs_19) hC rfl (m_feed h_cl4 (hc _ (y_mem (by omega))) (by have := y_Tc h_t (i := k) (by omega); omega) (by omega)) rfl hh_19 rfl (z_t2 (i := 19) rfl rfl) (z_t2 (i := 20) rfl rfl) (z_t2 (i := 21) rfl rfl) (z_t1 (i := 1) rfl rfl) (show _ = some 1 from by decide +kernel) rfl rfl (by omega) (by omega) rfl (fun r_19 h_19 p_19 => ?_)
        obtain ⟨rfl, hCI_19⟩ := p_19
        refine y_cmb [t_B] [z_W (y_c ε) ad h_19] ?_
        refine y_steps hC 2 (σ' := (24, [(0, .ref (ad 0)), (1, .ref t_a), (2, .int (nI is)), (3, .int (nI k))], [.int (nI 1), .int (nI k), .int (nI (k + 1)), .int (nI is)], [])) rfl ?_
        refine y_add hC (k + 1) rfl (by first | rfl | omega) ?_
        refine y_steps hC 0 (σ' := (25, [(0, .ref (ad 0)), (1, .ref t_a), (2, .int (nI is)), (3, .int (nI k))], [.int (nI (k + 1)), .int (nI (k + 1)), .int (nI is)], [])) rfl ?_
        refine y_if hC (c := ¬ nI (k + 1) = nI (k + 1)) rfl (fun c_25 => ?_) (fun c_25 => ?_)
        · skip
          rw [nI_eq (by omega) (by omega)] at c_25
          skip
          exact absurd rfl c_25
        · skip
          rw [nI_eq (by omega) (by omega)] at c_25
          replace c_25 := Decidable.not_not.mp c_25
          refine y_steps hC 2 (σ' := (33, [(0, .ref (ad 0)), (1, .ref t_a), (2, .int (nI is)), (3, .int (nI k))], [.int (nI 1), .int (nI is)], [])) rfl ?_
          refine y_and hC (is &&& 1) rfl (by first | rfl | decide) ?_
          refine y_steps hC 1 (σ' := (35, [(2, .int (nI (is &&& 1))), (0, .ref (ad 0)), (1, .ref t_a), (3, .int (nI k))], [], [])) rfl ?_
          refine y_inc hC (n := 1) rfl rfl rfl (k + 1) (by rfl) [(3, .int (nI (k + 1))), (2, .int (nI (is &&& 1))), (0, .ref (ad 0)), (1, .ref t_a)] rfl ?_
          refine y_steps hC 1 (σ' := (4, [(3, .int (nI (k + 1))), (2, .int (nI (is &&& 1))), (0, .ref (ad 0)), (1, .ref t_a)], [], [])) rfl ?_
          refine y_sub hC [2, 3, 1, 0] rfl ?_
          exact ih_4 (is &&& 1) (k + 1) h_19 (fun j => if j = k then t_L.getD k 0 else tp3 j) (by omega) ⟨(by exact hCI_19), (by exact ⟨by omega, by rw [l2]; rfl, fun j hj => by by_cases e : j = k; (subst e; exact if_pos rfl); (rw [if_neg e]; exact l3 j (by omega))⟩)⟩
  refine y_sub hC [2, 3, 1, 0] rfl ?_
  exact loop_4 _ 1 0 hX tp (Nat.lt_succ_self _) ⟨(by exact hCI), (by exact ⟨Nat.zero_le _, rfl, fun j hj => absurd hj (Nat.not_lt_zero j)⟩)⟩
