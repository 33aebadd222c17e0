/-! the class: ways -/
/-! the class: links and ways -/
def z_FR (f : Nat → Int32) (n : Nat) (F : Nat → Nat → Nat) : Prop := ∀ i, i < n → ∀ j, j < n → f (8 * i + j) = nI (F i j) ∧ F i j ≤ 41000000
theorem z_lshC {x k : Nat} (hk : k < 63) : lN x <<< ((nI k).toInt64 &&& 63) = lN (x * 2 ^ k) := by
  have e1 : ((nI k).toInt64 &&& 63) = lN k := z_all1 (P := fun k => ((nI k).toInt64 &&& 63) = lN k) (m := 63) (by decide +kernel) hk
  have e2 : (lN k).toBitVec.smod 64 = BitVec.ofNat 64 k := z_all1 (P := fun k => (lN k).toBitVec.smod 64 = BitVec.ofNat 64 k) (m := 63) (by decide +kernel) hk
  rw [e1]
  apply Int64.toBitVec_inj.mp
  rw [Int64.toBitVec_shiftLeft, e2]
  apply BitVec.eq_of_toNat_eq
  have e3 : ∀ y, (lN y).toBitVec.toNat = y % 2 ^ 64 := fun y => BitVec.toNat_ofNat y 64
  rw [BitVec.shiftLeft_eq', BitVec.toNat_shiftLeft, e3, e3, BitVec.toNat_ofNat, Nat.mod_eq_of_lt (show k < 2 ^ 64 by omega), Nat.shiftLeft_eq, Nat.mul_mod, Nat.mod_mod, ← Nat.mul_mod]
theorem z_ratio {a b : Nat} (ha : 0 < a) : b * 2 ^ 26 / a * 2 ^ 26 + b * 2 ^ 26 % a * 2 ^ 26 / a = b * 2 ^ 52 / a := by
  have h := Nat.div_add_mod (b * 2 ^ 26) a
  have e : b * 2 ^ 52 = a * (b * 2 ^ 26 / a * 2 ^ 26) + b * 2 ^ 26 % a * 2 ^ 26 := by
    rw [← Nat.mul_assoc, ← Nat.add_mul, h, Nat.mul_assoc, ← Nat.pow_add]
  rw [e, Nat.mul_add_div ha]
theorem z_key2 {a b : Nat} : z_key 2 a b = if b = 0 then 2 ^ 52 + a else 2 ^ 52 - b * 2 ^ 52 / a := by unfold z_key; rw [if_neg (by decide), if_neg (by decide), if_pos rfl]
theorem z_key3 {a b : Nat} : z_key 3 a b = 67108864 - b := rfl
theorem z_key_le {m a b : Nat} (ha : a ≤ 41000000) : z_key m a b < 2 ^ 53 := by
  unfold z_key
  generalize b * 2 ^ 52 / a = x
  split
  · omega
  · split
    · omega
    · split
      · split <;> omega
      · omega
theorem z_LS_le {m s n : Nat} {F : Nat → Nat → Nat} {f : Nat → Int32} (h : z_FR f n F) {i j : Nat} (hi : i < n) (hj : j < n) : z_LS m s F i j < 2 ^ 53 := by
  unfold z_LS
  split
  · exact z_key_le (h i hi j hj).2
  · decide
theorem z_LS_le2 {m s : Nat} {F : Nat → Nat → Nat} {i j : Nat} (h : F i j ≤ F j i) : z_LS m s F i j = 0 := z_LS_no (fun q => by have := q.2.2.2; omega)
theorem z_LS_bi {m s : Nat} {F : Nat → Nat → Nat} {i j : Nat} (h : s.testBit i = false) : z_LS m s F i j = 0 := z_LS_no (fun q => by have h1 := q.2.1; rw [h] at h1; cases h1)
theorem z_LS_bj {m s : Nat} {F : Nat → Nat → Nat} {i j : Nat} (h : s.testBit j = false) : z_LS m s F i j = 0 := z_LS_no (fun q => by have h1 := q.2.2.1; rw [h] at h1; cases h1)
theorem z_LS_y {m s : Nat} {F : Nat → Nat → Nat} {i j : Nat} (h : ¬ F i j ≤ F j i) (h1 : s.testBit i = true) (h2 : s.testBit j = true) : z_LS m s F i j = z_key m (F i j) (F j i) := z_LS_yes ⟨fun e => by subst e; exact h (Nat.le_refl _), h1, h2, by omega⟩
/-- ways through those before mid -/
def z_fwI (L : Nat → Nat → Nat) (n mid : Nat) (B : Nat → Nat → Nat) : Prop := (∀ i, i < n → ∀ j, j < n → 0 < B i j → z_re2 L n (B i j) i j) ∧ (∀ i, i < n → ∀ j, j < n → L i j ≤ B i j) ∧ (∀ i, i < n → B i i = 0) ∧ (∀ c, c < mid → c < n → ∀ i, i < n → ∀ j, j < n → i ≠ j → min (B i c) (B c j) ≤ B i j) ∧ (∀ i, i < n → ∀ j, j < n → B i j = 0 ∨ ∃ x, x < n ∧ ∃ y, y < n ∧ L x y = B i j) ∧ ∀ i, i < n → ∀ j, j < n → B i j < 2 ^ 53
def z_fw (B : Nat → Nat → Nat) (m : Nat) : Nat → Nat → Nat := fun i j => if j ≠ i then max (B i j) (min (B i m) (B m j)) else B i j
theorem z_fw_ge {B : Nat → Nat → Nat} {m i j : Nat} : B i j ≤ z_fw B m i j := by
  unfold z_fw
  split
  · exact Nat.le_max_left _ _
  · exact Nat.le_refl _
theorem z_fw_row {B : Nat → Nat → Nat} {m j : Nat} (h : B m m = 0) : z_fw B m m j = B m j := by
  unfold z_fw
  rw [h, Nat.zero_min, Nat.max_eq_left (Nat.zero_le _), ite_self]
theorem z_fw_col {B : Nat → Nat → Nat} {m i : Nat} (h : B m m = 0) : z_fw B m i m = B i m := by
  unfold z_fw
  rw [h, Nat.min_zero, Nat.max_eq_left (Nat.zero_le _), ite_self]
theorem z_fw_or {B : Nat → Nat → Nat} {m i j : Nat} : z_fw B m i j = B i j ∨ (j ≠ i ∧ z_fw B m i j = min (B i m) (B m j)) := by
  unfold z_fw
  by_cases e : j ≠ i
  · rw [if_pos e]
    rcases Nat.le_total (B i j) (min (B i m) (B m j)) with h | h
    · exact Or.inr ⟨e, Nat.max_eq_right h⟩
    · exact Or.inl (Nat.max_eq_left h)
  · rw [if_neg e]; exact Or.inl rfl
theorem z_fw_step {L : Nat → Nat → Nat} {n m : Nat} {B : Nat → Nat → Nat} (h : z_fwI L n m B) (hm : m < n) : z_fwI L n (m + 1) (z_fw B m) := by
  obtain ⟨h1, h2, h3, h4, h5, h6⟩ := h
  have hmm := h3 m hm
  refine ⟨fun i hi j hj hp => ?_, fun i hi j hj => Nat.le_trans (h2 i hi j hj) z_fw_ge, fun i hi => ?_, fun c hc hcn i hi j hj hij => ?_, fun i hi j hj => ?_, fun i hi j hj => ?_⟩
  · rcases z_fw_or (B := B) (m := m) (i := i) (j := j) with e | ⟨_, e⟩
    · rw [e] at hp ⊢; exact h1 i hi j hj hp
    · rw [e] at hp ⊢
      exact z_re2_app (z_re2_mono (Nat.min_le_left _ _) (h1 i hi m hm (by omega))) (z_re2_mono (Nat.min_le_right _ _) (h1 m hm j hj (by omega)))
  · unfold z_fw
    rw [if_neg (fun q => q rfl)]
    exact h3 i hi
  · -- closure
    have key : min (B i m) (B m j) ≤ z_fw B m i j := by
      unfold z_fw
      rw [if_pos (fun q => hij q.symm)]
      exact Nat.le_max_right _ _
    have old := z_fw_ge (B := B) (m := m) (i := i) (j := j)
    rcases (by omega : c = m ∨ c < m) with e | e
    · subst e
      rw [z_fw_col hmm, z_fw_row hmm]
      exact key
    · have cl := h4 c e hcn
      rcases z_fw_or (B := B) (m := m) (i := i) (j := c) with e1 | ⟨n1, e1⟩ <;> rcases z_fw_or (B := B) (m := m) (i := c) (j := j) with e2 | ⟨n2, e2⟩ <;> rw [e1, e2]
      · have := cl i hi j hj hij
        omega
      · by_cases q : i = m
        · subst q
          omega
        · have := cl i hi m hm q
          omega
      · by_cases q : m = j
        · subst q
          rw [z_fw_col hmm]
          omega
        · have := cl m hm j hj q
          omega
      · omega
  · rcases z_fw_or (B := B) (m := m) (i := i) (j := j) with e | ⟨_, e⟩
    · rw [e]; exact h5 i hi j hj
    · rw [e]
      rcases Nat.le_total (B i m) (B m j) with q | q
      · rw [Nat.min_eq_left q]; exact h5 i hi m hm
      · rw [Nat.min_eq_right q]; exact h5 m hm j hj
  · rcases z_fw_or (B := B) (m := m) (i := i) (j := j) with e | ⟨_, e⟩
    · rw [e]; exact h6 i hi j hj
    · rw [e]
      have := h6 i hi m hm
      omega
theorem z_fw_0 {m s n : Nat} {F : Nat → Nat → Nat} {f : Nat → Int32} (h : z_FR f n F) : z_fwI (z_LS m s F) n 0 (z_LS m s F) := ⟨fun i _ j hj _ => z_re2_one hj (Nat.le_refl _), fun _ _ _ _ => Nat.le_refl _, fun _ _ => z_LS_self, fun c hc => absurd hc (Nat.not_lt_zero c), fun i hi j hj => Or.inr ⟨i, hi, j, hj, rfl⟩, fun i hi j hj => z_LS_le h hi hj⟩
theorem z_fw_end {L : Nat → Nat → Nat} {n : Nat} {B : Nat → Nat → Nat} (h : z_fwI L n n B) : z_rows L n B := by
  obtain ⟨h1, h2, h3, h4, h5, h6⟩ := h
  refine fun i hi => ⟨h3 i hi, fun j hj hp => h1 i hi j hj hp, fun j hj _ => h2 i hi j hj, fun c hc j hj hne => ?_⟩
  have := h4 c hc hc i hi j hj (fun q => hne q.symm)
  have := h2 c hc j hj
  omega
/-- the class's tables of links and ways -/
def z_CW (m s : Nat) (F : Nat → Nat → Nat) (n : Nat) (links best : Nat → Int64) (beaters : Nat → Int32) (K : Nat → Nat → Nat) : Prop := z_rows (z_LS m s F) n K ∧ (∀ i, i < n → ∀ j, j < n → links (8 * i + j) = lN (z_LS m s F i j) ∧ z_LS m s F i j < 2 ^ 53) ∧ (∀ i, i < n → ∀ j, j < n → best (8 * i + j) = lN (K i j) ∧ K i j < 2 ^ 53) ∧ (∀ j, j < n → beaters j = nI (z_set n (fun i => z_btb K i j))) ∧ ∀ i, i < n → ∀ j, j < n → K i j = 0 ∨ ∃ x, x < n ∧ ∃ y, y < n ∧ z_LS m s F x y = K i j
theorem z_upLs {f : Nat → Int64} {k : Nat} {x : Int64} : vp_updL f k x k = x := pk_uLs
theorem z_tab_put {f : Nat → Int64} {n i j : Nat} {T : Nat → Nat → Nat} {p : Nat → Nat → Prop} (hi : i < 8) (hj : j < 8) (h : ∀ x, x < n → ∀ y, y < n → p x y → f (8 * x + y) = lN (T x y)) (hn : n ≤ 8) {v : Nat} (hv : v = T i j) : ∀ x, x < n → ∀ y, y < n → (p x y ∨ (x = i ∧ y = j)) → vp_updL f (8 * i + j) (lN v) (8 * x + y) = lN (T x y) := by
  intro x hx y hy hp
  unfold vp_updL
  by_cases e : x = i ∧ y = j
  · obtain ⟨rfl, rfl⟩ := e
    rw [if_pos rfl, hv]
  · rw [if_neg (by omega)]
    exact h x hx y hy (hp.resolve_right e)
theorem z_gt_no {f : Nat → Int64} {n i j m : Nat} {T : Nat → Nat → Nat} (hno : j = i ∨ min (T i m) (T m j) ≤ T i j) (l2 : ∀ x, x < n → ∀ y, y < n → f (8 * x + y) = lN (if x = i ∧ y < j ∧ y ≠ i then max (T i y) (min (T i m) (T m y)) else T x y)) : ∀ x, x < n → ∀ y, y < n → f (8 * x + y) = lN (if x = i ∧ y < j + 1 ∧ y ≠ i then max (T i y) (min (T i m) (T m y)) else T x y) := by
  intro x hx y hy
  rw [l2 x hx y hy]
  by_cases e : x = i ∧ y = j
  · obtain ⟨rfl, rfl⟩ := e
    rw [if_neg (by omega)]
    by_cases e2 : y = x
    · rw [if_neg (fun q => q.2.2 e2)]
    · rw [if_pos ⟨rfl, by omega, e2⟩, Nat.max_eq_left (hno.resolve_left e2)]
  · exact congrArg lN (z_ifc (by omega))
theorem z_gt_yes {f : Nat → Int64} {n i j m : Nat} {T : Nat → Nat → Nat} (hn : n ≤ 8) (hi : i < n) (hj : j < n) (hji : ¬ j = i) (h : T i j < min (T i m) (T m j)) (l2 : ∀ x, x < n → ∀ y, y < n → f (8 * x + y) = lN (if x = i ∧ y < j ∧ y ≠ i then max (T i y) (min (T i m) (T m y)) else T x y)) : ∀ x, x < n → ∀ y, y < n → vp_updL f (8 * i + 0 + j) (lN (min (T i m) (T m j))) (8 * x + y) = lN (if x = i ∧ y < j + 1 ∧ y ≠ i then max (T i y) (min (T i m) (T m y)) else T x y) := by
  intro x hx y hy
  unfold vp_updL
  by_cases e : x = i ∧ y = j
  · obtain ⟨rfl, rfl⟩ := e
    rw [if_pos (show 8 * x + y = 8 * x + 0 + y by omega), if_pos ⟨rfl, by omega, hji⟩, Nat.max_eq_right (Nat.le_of_lt h)]
  · rw [if_neg (by omega), l2 x hx y hy]
    exact congrArg lN (z_ifc (by omega))
theorem z_gt_end {f : Nat → Int64} {n i m : Nat} {T : Nat → Nat → Nat} (hT : T i i = 0) (l2 : ∀ x, x < n → ∀ y, y < n → f (8 * x + y) = lN (if x = i ∧ y < n ∧ y ≠ i then max (T i y) (min (T i m) (T m y)) else T x y)) : ∀ x, x < n → ∀ y, y < n → f (8 * x + y) = lN (if x = i then z_fw T m x y else T x y) := by
  intro x hx y hy
  rw [l2 x hx y hy]
  by_cases e : x = i
  · subst e
    rw [if_pos rfl]
    unfold z_fw
    exact congrArg lN (z_ifc ⟨fun q => q.2.2, fun q => ⟨rfl, hy, q⟩⟩)
  · rw [if_neg (fun q => e q.1), if_neg e]
theorem z_gt_0 {f : Nat → Int64} {n i m : Nat} {T : Nat → Nat → Nat} (h0 : T i m = 0) (l2 : ∀ x, x < n → ∀ y, y < n → f (8 * x + y) = lN (T x y)) : ∀ x, x < n → ∀ y, y < n → f (8 * x + y) = lN (if x = i then z_fw T m x y else T x y) := by
  intro x hx y hy
  rw [l2 x hx y hy]
  by_cases e : x = i
  · subst e
    rw [if_pos rfl]
    unfold z_fw
    rw [h0, Nat.zero_min, Nat.max_eq_left (Nat.zero_le _), ite_self]
  · rw [if_neg e]
/-- the table while the middle m goes through its rows: those before i are through -/
def z_fwm (B : Nat → Nat → Nat) (m i : Nat) : Nat → Nat → Nat := fun x y => if x < i then z_fw B m x y else B x y
theorem z_fwm_step {B : Nat → Nat → Nat} {m i : Nat} (hmm : B m m = 0) (x y : Nat) : (if x = i then z_fw (z_fwm B m i) m x y else z_fwm B m i x y) = z_fwm B m (i + 1) x y := by
  have hrow : ∀ y, z_fwm B m i m y = B m y := by
    intro y
    unfold z_fwm
    split
    · exact z_fw_row hmm
    · rfl
  by_cases e : x = i
  · subst e
    have h1 : ∀ y, z_fwm B m x x y = B x y := fun y => by unfold z_fwm; rw [if_neg (Nat.lt_irrefl x)]
    rw [if_pos rfl]
    show _ = if x < x + 1 then z_fw B m x y else B x y
    rw [if_pos (Nat.lt_succ_self x)]
    unfold z_fw
    rw [h1, h1, hrow]
  · rw [if_neg e]
    unfold z_fwm
    exact z_ifc (by omega)
theorem z_fwm_bd {L : Nat → Nat → Nat} {n m i : Nat} {B : Nat → Nat → Nat} (h : z_fwI L n m B) (hm : m < n) {x y : Nat} (hx : x < n) (hy : y < n) : z_fwm B m i x y < 2 ^ 53 := by
  unfold z_fwm
  split
  · exact (z_fw_step h hm).2.2.2.2.2 x hx y hy
  · exact h.2.2.2.2.2 x hx y hy
theorem z_fwm_0 {L : Nat → Nat → Nat} {n m i : Nat} {B : Nat → Nat → Nat} (h : z_fwI L n m B) (hm : m < n) {x : Nat} (hx : x < n) : z_fwm B m i x x = 0 := by
  unfold z_fwm
  split
  · exact (z_fw_step h hm).2.2.1 x hx
  · exact h.2.2.1 x hx
theorem z_setand {n s : Nat} {p : Nat → Bool} (hs : s < 2 ^ n) : z_set n p &&& s = 0 ↔ z_allb n (fun i => !(s.testBit i && p i)) = true := by
  rw [z_allb_iff]
  constructor
  · intro h i hi
    have h1 : (z_set n p &&& s).testBit i = false := by rw [h, Nat.zero_testBit]
    rw [Nat.testBit_and, z_set_bit, decide_eq_true hi, Bool.true_and] at h1
    cases hp : p i <;> cases hb : s.testBit i <;> simp_all
  · intro h
    apply Nat.eq_of_testBit_eq
    intro i
    rw [Nat.testBit_and, z_set_bit, Nat.zero_testBit]
    rcases Nat.lt_or_ge i n with hi | hi
    · have h1 := h i hi
      cases hp : p i <;> cases hb : s.testBit i <;> simp_all
    · rw [decide_eq_false (by omega)]; rfl
theorem z_pc_n {n s : Nat} (hn : n ≤ 8) (hs : s < 2 ^ n) : z_pc s ≤ n := by
  have := z_p2 hn
  exact z_all2 (P := fun n s => s < 2 ^ n → z_pc s ≤ n) (m := 9) (n := 256) (by decide +kernel) (show n < 9 by omega) (show s < 256 by omega) hs
theorem z_rv_in {n c s : Nat} {dr : Nat → Nat} {K : Nat → Nat → Nat} (hn : n ≤ 8) (hs : s < 2 ^ n) (hc : s.testBit c = true) : ∀ {k : Nat}, (∀ x, x < k → z_fi n dr K (z_rv n dr K s x) ≠ c) → (z_rv n dr K s k).testBit c = true
  | 0, _ => hc
  | k + 1, h => by
    have h1 := z_rv_in hn hs hc (k := k) (fun x hx => h x (by omega))
    have h2 := z_rv_lt (dr := dr) (K := K) hs k
    have h3 := z_p2 hn
    exact z_dif_keep (by omega) h1 (h k (Nat.lt_succ_self k))
theorem z_rv_found {L : Nat → Nat → Nat} {n c s k : Nat} {dr : Nat → Nat} {K : Nat → Nat → Nat} (hn : n ≤ 8) (hr : z_rows L n K) (hd : ∀ c, c < n → ∃ k, k < n ∧ dr k = c) (hs : s < 2 ^ n) (hc : s.testBit c = true) (h : ∀ x, x < k → x < z_pc s → z_fi n dr K (z_rv n dr K s x) ≠ c) (hk : k ≤ z_pc s) : k < z_pc s := by
  have h1 := z_rv_in (dr := dr) (K := K) hn hs hc (k := k) (fun x hx => h x hx (by omega))
  have h2 := z_rv_pc hn hr hd hs k hk
  have h3 := z_rv_lt (dr := dr) (K := K) hs k
  have h4 := z_p2 hn
  have h5 := z_pc_pos (by omega) (z_ne0 h1)
  omega
def z_f99 (x : Nat) : Nat := if x = 8 then 99 else x
theorem z_f99_eq {x far : Nat} (h : far < 8) : z_f99 x = far ↔ x = far := by
  unfold z_f99
  split <;> omega
theorem z_f99_8 {x : Nat} (h : x ≤ 8) : z_f99 x = 99 ↔ x = 8 := by
  unfold z_f99
  split <;> omega
theorem z_DSf_n {L : Nat → Nat → Nat} {n t j : Nat} {D : Nat → Nat} (hn1 : 1 ≤ n) (hn : n ≤ 8) (h : z_DSf L n t j n D) : z_DS L n t j D := by
  obtain ⟨h1, h2, h3⟩ := h
  refine ⟨fun c hc => ⟨by have := (h1 c hc).1; omega, (h1 c hc).2⟩, h2, fun c hc k hk h7 ht => ?_⟩
  rcases Nat.lt_or_ge (D k + 1) n with q | q
  · exact h3 c hc k hk q ht
  · have hk1 := (h1 k hk).1
    have hDk : D k = n - 1 := by omega
    rcases (h1 c hc).1 with q2 | q2
    · omega
    · -- n + 1 values met by n
      exfalso
      have path : ∀ {m c : Nat}, c < n → D c = m → m < 8 → ∀ p, p ≤ m → ∃ x, x < n ∧ D x = p := by
        intro m
        induction m with
        | zero => exact fun hc hd _ p hp => ⟨_, hc, by omega⟩
        | succ m ih =>
          intro c hc hd hm p hp
          rcases Nat.lt_or_ge m p with q | q
          · exact ⟨c, hc, by omega⟩
          · obtain ⟨k, hk, e1, _⟩ := h2 c hc (by omega) (by omega)
            exact ih hk (by omega) (by omega) p q
      have := z_pigeon n n (fun x => if D x = 8 then n else D x) (fun p hp => by
        rcases (by omega : p < n ∨ p = n) with q3 | q3
        · obtain ⟨x, hx, e⟩ := path hk hDk (by omega) p (by omega)
          refine ⟨x, hx, ?_⟩
          simp only [if_neg (by omega : ¬ D x = 8)]
          exact e
        · refine ⟨c, hc, ?_⟩
          simp only [if_pos q2]
          exact q3.symm)
      omega
theorem c_X4_load (d : Nat) {n : Nat} {outs : Nat} {ms : Nat} {bm : Nat} {p_rankings : Nat → Int32} {p_counts : Nat → Int32} {p_draw : Nat → Int32} {p_fors : Nat → Int32} {k_size : Int32} {k_outs : Int32} {k_rule : Int32} {k_filled : Int32} {k_rankings : Nat → Int32} {k_counts : Nat → Int32} {k_draw : Nat → Int32} {k_fors : Nat → Int32} {d_size : Int32} {d_outs : Int32} {d_rule : Int32} {d_filled : Int32} {d_rankings : Nat → Int32} {d_counts : Nat → Int32} {d_draw : Nat → Int32} {d_fors : Nat → Int32} {w_size : Int32} {w_ins : Int32} {w_rule : Int32} {w_steps : Int32} {w_fors : Nat → Int32} {w_draw : Nat → Int32} {w_links : Nat → Int64} {w_best : Nat → Int64} {w_beaters : Nat → Int32} {w_distances : Nat → Int32} {w_route : Nat → Int32} {t_bytes : Nat → Int32} {t_length : Int32} {t_next : Int32} {t_ranking : Int32} {t_count : Int32} {l_cells : Nat → Int64} {l_sizes : Nat → Int32} {s_bytes : Nat → Int32} {s_length : Int32} {keeps : Int32} {dr : Nat → Nat} {cn : Nat → Nat} {pl : Nat → Nat → Nat} (hI : z_PI p_rankings p_counts p_draw p_fors n outs bm ms dr cn pl) : z_CAL (d + 3) 45 [.ref 16, .ref 1] (CH (nI n) (nI outs) (nI ms) (nI bm) p_rankings p_counts p_draw p_fors k_size k_outs k_rule k_filled k_rankings k_counts k_draw k_fors d_size d_outs d_rule d_filled d_rankings d_counts d_draw d_fors w_size w_ins w_rule w_steps w_fors w_draw w_links w_best w_beaters w_distances w_route t_bytes t_length t_next t_ranking t_count l_cells l_sizes s_bytes s_length keeps) (fun r h2 => ∃ (F2 : Nat → Int32) (D2 : Nat → Int32), r = none ∧ h2 = (CH (nI n) (nI outs) (nI ms) (nI bm) p_rankings p_counts p_draw p_fors k_size k_outs k_rule k_filled k_rankings k_counts k_draw k_fors d_size d_outs d_rule d_filled d_rankings d_counts d_draw d_fors (nI n) (nI (z_dif (2 ^ n - 1) outs)) (nI ms) (nI 0) F2 D2 w_links w_best w_beaters w_distances w_route t_bytes t_length t_next t_ranking t_count l_cells l_sizes s_bytes s_length keeps) ∧ (z_FR F2 n (z_for bm cn pl) ∧ ∀ k, k < n → D2 k = nI (dr k))) := by
  refine e_of2 (q := zmX4_load) rfl rfl (fun R hR => ?_)
  obtain ⟨⟨hn2, hn8⟩, ⟨ho8, hin⟩, hb40, hm4, ⟨hdr, hpm⟩, hcn, hrk, hfo⟩ := id hI; have hp8 := z_p2 hn8; have ho256 : outs < 256 := (by omega); have hi256 : z_dif (2 ^ n - 1) outs < 256 := (by have := z_dif_le (s := 2 ^ n - 1) (t := outs); omega)
  refine e_steps 4 (σ' := (7, [(0, .ref 16), (1, .ref 1)], [.int (nI 8), .int (nI n), .ref 16], (CH (nI n) (nI outs) (nI ms) (nI bm) p_rankings p_counts p_draw p_fors k_size k_outs k_rule k_filled k_rankings k_counts k_draw k_fors d_size d_outs d_rule d_filled d_rankings d_counts d_draw d_fors w_size w_ins w_rule w_steps w_fors w_draw w_links w_best w_beaters w_distances w_route t_bytes t_length t_next t_ranking t_count l_cells l_sizes s_bytes s_length keeps))) rfl ?_
  refine e_call (y := 242) (av := [.int (nI n), .int (nI 8)]) (rest := [.ref 16]) rfl (c_J9_min_7cf53_N (d + 1) (by first | assumption | omega | rfl | trivial) (by first | assumption | omega | rfl | trivial)) (fun r_7 h_7 p_7 => ?_)
  obtain ⟨rfl, rfl⟩ := p_7
  refine e_steps 0 (σ' := (10, [(0, .ref 16), (1, .ref 1)], [.int (nI (min n 8)), .ref 16], (CH (nI n) (nI outs) (nI ms) (nI bm) p_rankings p_counts p_draw p_fors k_size k_outs k_rule k_filled k_rankings k_counts k_draw k_fors d_size d_outs d_rule d_filled d_rankings d_counts d_draw d_fors w_size w_ins w_rule w_steps w_fors w_draw w_links w_best w_beaters w_distances w_route t_bytes t_length t_next t_ranking t_count l_cells l_sizes s_bytes s_length keeps))) rfl ?_
  have er_7 : nI (min n 8) = nI n := congrArg nI (by omega)
  rw [er_7]
  refine e_steps 3 (σ' := (15, [(0, .ref 16), (1, .ref 1)], [.ref 1, .ref 16], (CH (nI n) (nI outs) (nI ms) (nI bm) p_rankings p_counts p_draw p_fors k_size k_outs k_rule k_filled k_rankings k_counts k_draw k_fors d_size d_outs d_rule d_filled d_rankings d_counts d_draw d_fors (nI n) w_ins w_rule w_steps w_fors w_draw w_links w_best w_beaters w_distances w_route t_bytes t_length t_next t_ranking t_count l_cells l_sizes s_bytes s_length keeps))) rfl ?_
  refine e_call (y := 16) (av := [.ref 1]) (rest := [.ref 16]) rfl (c_X2_ins (d + 0) (n := n) (outs := outs) (bm := bm) (ms := ms) (dr := dr) (cn := cn) (pl := pl) (by first | assumption | omega | rfl | trivial)) (fun r_15 h_15 p_15 => ?_)
  obtain ⟨rfl, rfl⟩ := p_15
  refine e_steps 15 (σ' := (46, [(0, .ref 16), (1, .ref 1)], [.int (nI 64), .int (nI 0), .ref 17, .int (nI 0), .ref 5], (CH (nI n) (nI outs) (nI ms) (nI bm) p_rankings p_counts p_draw p_fors k_size k_outs k_rule k_filled k_rankings k_counts k_draw k_fors d_size d_outs d_rule d_filled d_rankings d_counts d_draw d_fors (nI n) (nI (z_dif (2 ^ n - 1) outs)) (nI ms) (nI 0) w_fors w_draw w_links w_best w_beaters w_distances w_route t_bytes t_length t_next t_ranking t_count l_cells l_sizes s_bytes s_length keeps))) rfl ?_
  refine e_gd (c := ¬ nI 0 < 0 ∧ ¬ nI 0 < 0 ∧ ¬ nI 64 < 0 ∧ (nI 0).toNatClampNeg + (nI 64).toNatClampNeg ≤ 64 ∧ (nI 0).toNatClampNeg + (nI 64).toNatClampNeg ≤ 64) rfl (by decide) ?_
  refine e_steps 7 (σ' := (61, [(0, .ref 16), (1, .ref 1)], [.int (nI 8), .int (nI 0), .ref 18, .int (nI 0), .ref 4], (CH (nI n) (nI outs) (nI ms) (nI bm) p_rankings p_counts p_draw p_fors k_size k_outs k_rule k_filled k_rankings k_counts k_draw k_fors d_size d_outs d_rule d_filled d_rankings d_counts d_draw d_fors (nI n) (nI (z_dif (2 ^ n - 1) outs)) (nI ms) (nI 0) (va_cpy p_fors w_fors 0 0 64) w_draw w_links w_best w_beaters w_distances w_route t_bytes t_length t_next t_ranking t_count l_cells l_sizes s_bytes s_length keeps))) rfl ?_
  refine e_gd (c := ¬ nI 0 < 0 ∧ ¬ nI 0 < 0 ∧ ¬ nI 8 < 0 ∧ (nI 0).toNatClampNeg + (nI 8).toNatClampNeg ≤ 8 ∧ (nI 0).toNatClampNeg + (nI 8).toNatClampNeg ≤ 8) rfl (by decide) ?_
  refine e_steps 0 (σ' := (64, [(0, .ref 16), (1, .ref 1)], [], (CH (nI n) (nI outs) (nI ms) (nI bm) p_rankings p_counts p_draw p_fors k_size k_outs k_rule k_filled k_rankings k_counts k_draw k_fors d_size d_outs d_rule d_filled d_rankings d_counts d_draw d_fors (nI n) (nI (z_dif (2 ^ n - 1) outs)) (nI ms) (nI 0) (va_cpy p_fors w_fors 0 0 64) (va_cpy p_draw w_draw 0 0 8) w_links w_best w_beaters w_distances w_route t_bytes t_length t_next t_ranking t_count l_cells l_sizes s_bytes s_length keeps))) rfl ?_
  exact e_ret rfl (trivial) (hR _ _ ⟨va_cpy p_fors w_fors 0 0 64, va_cpy p_draw w_draw 0 0 8, rfl, rfl, (by exact ⟨fun i hi j hj => ⟨by rw [z_cpy _ (by omega)]; exact hfo i hi j hj, by have := z_for_le (cn := cn) (pl := pl) (i := i) (j := j) (b := bm) (fun z hz => (hcn z hz).2.2); omega⟩, fun k hk => by rw [z_cpy _ (by omega)]; exact hdr k hk⟩)⟩)
theorem c_X4_leaveOut (d : Nat) {p_size : Int32} {p_outs : Int32} {p_rule : Int32} {p_filled : Int32} {p_rankings : Nat → Int32} {p_counts : Nat → Int32} {p_draw : Nat → Int32} {p_fors : Nat → Int32} {k_size : Int32} {k_outs : Int32} {k_rule : Int32} {k_filled : Int32} {k_rankings : Nat → Int32} {k_counts : Nat → Int32} {k_draw : Nat → Int32} {k_fors : Nat → Int32} {d_size : Int32} {d_outs : Int32} {d_rule : Int32} {d_filled : Int32} {d_rankings : Nat → Int32} {d_counts : Nat → Int32} {d_draw : Nat → Int32} {d_fors : Nat → Int32} {n : Nat} {s : Nat} {m : Nat} {w_steps : Int32} {w_fors : Nat → Int32} {w_draw : Nat → Int32} {w_links : Nat → Int64} {w_best : Nat → Int64} {w_beaters : Nat → Int32} {w_distances : Nat → Int32} {w_route : Nat → Int32} {t_bytes : Nat → Int32} {t_length : Int32} {t_next : Int32} {t_ranking : Int32} {t_count : Int32} {l_cells : Nat → Int64} {l_sizes : Nat → Int32} {s_bytes : Nat → Int32} {s_length : Int32} {keeps : Int32} {c : Nat} (hn2 : 2 ≤ n) (hn8 : n ≤ 8) (hs2 : s < 2 ^ n) (hm : m < 4) (hc : c < 8) : z_CAL (d + 1) 46 [.ref 16, .int (nI c)] (CH p_size p_outs p_rule p_filled p_rankings p_counts p_draw p_fors k_size k_outs k_rule k_filled k_rankings k_counts k_draw k_fors d_size d_outs d_rule d_filled d_rankings d_counts d_draw d_fors (nI n) (nI s) (nI m) w_steps w_fors w_draw w_links w_best w_beaters w_distances w_route t_bytes t_length t_next t_ranking t_count l_cells l_sizes s_bytes s_length keeps) (fun r h2 => r = none ∧ h2 = (CH p_size p_outs p_rule p_filled p_rankings p_counts p_draw p_fors k_size k_outs k_rule k_filled k_rankings k_counts k_draw k_fors d_size d_outs d_rule d_filled d_rankings d_counts d_draw d_fors (nI n) (nI (z_dif s (2 ^ c))) (nI m) w_steps w_fors w_draw w_links w_best w_beaters w_distances w_route t_bytes t_length t_next t_ranking t_count l_cells l_sizes s_bytes s_length keeps)) := by
  refine e_of2 (q := zmX4_leaveOut) rfl rfl (fun R hR => ?_)
  have hp8 := z_p2 hn8; have hs : s < 256 := (by omega)
  refine e_steps 5 (σ' := (7, [(0, .ref 16), (1, .int (nI c))], [.int (nI c), .int (nI 1), .int (nI s), .ref 16], (CH p_size p_outs p_rule p_filled p_rankings p_counts p_draw p_fors k_size k_outs k_rule k_filled k_rankings k_counts k_draw k_fors d_size d_outs d_rule d_filled d_rankings d_counts d_draw d_fors (nI n) (nI s) (nI m) w_steps w_fors w_draw w_links w_best w_beaters w_distances w_route t_bytes t_length t_next t_ranking t_count l_cells l_sizes s_bytes s_length keeps))) rfl ?_
  refine e_shl rfl (by first | assumption | omega | rfl | trivial) ?_
  refine e_steps 2 (σ' := (10, [(0, .ref 16), (1, .int (nI c))], [.int (((nI (2 ^ c)) ^^^ ((-nI 1)))), .int (nI s), .ref 16], (CH p_size p_outs p_rule p_filled p_rankings p_counts p_draw p_fors k_size k_outs k_rule k_filled k_rankings k_counts k_draw k_fors d_size d_outs d_rule d_filled d_rankings d_counts d_draw d_fors (nI n) (nI s) (nI m) w_steps w_fors w_draw w_links w_best w_beaters w_distances w_route t_bytes t_length t_next t_ranking t_count l_cells l_sizes s_bytes s_length keeps))) rfl ?_
  refine e_dif rfl (by omega) (by exact z_p8 (by omega)) ?_
  refine e_steps 1 (σ' := (14, [(0, .ref 16), (1, .int (nI c))], [], (CH p_size p_outs p_rule p_filled p_rankings p_counts p_draw p_fors k_size k_outs k_rule k_filled k_rankings k_counts k_draw k_fors d_size d_outs d_rule d_filled d_rankings d_counts d_draw d_fors (nI n) (nI (z_dif s (2 ^ c))) (nI m) w_steps w_fors w_draw w_links w_best w_beaters w_distances w_route t_bytes t_length t_next t_ranking t_count l_cells l_sizes s_bytes s_length keeps))) rfl ?_
  exact e_ret rfl (trivial) (hR _ _ ⟨rfl, rfl⟩)
theorem c_X4_count (d : Nat) {p_size : Int32} {p_outs : Int32} {p_rule : Int32} {p_filled : Int32} {p_rankings : Nat → Int32} {p_counts : Nat → Int32} {p_draw : Nat → Int32} {p_fors : Nat → Int32} {k_size : Int32} {k_outs : Int32} {k_rule : Int32} {k_filled : Int32} {k_rankings : Nat → Int32} {k_counts : Nat → Int32} {k_draw : Nat → Int32} {k_fors : Nat → Int32} {d_size : Int32} {d_outs : Int32} {d_rule : Int32} {d_filled : Int32} {d_rankings : Nat → Int32} {d_counts : Nat → Int32} {d_draw : Nat → Int32} {d_fors : Nat → Int32} {n : Nat} {w_ins : Int32} {w_rule : Int32} {w_steps : Int32} {w_fors : Nat → Int32} {w_draw : Nat → Int32} {w_links : Nat → Int64} {w_best : Nat → Int64} {w_beaters : Nat → Int32} {w_distances : Nat → Int32} {w_route : Nat → Int32} {t_bytes : Nat → Int32} {t_length : Int32} {t_next : Int32} {t_ranking : Int32} {t_count : Int32} {l_cells : Nat → Int64} {l_sizes : Nat → Int32} {s_bytes : Nat → Int32} {s_length : Int32} {keeps : Int32} {rk : Nat} {cc : Int32} {q : Nat → Nat} (hn8 : n ≤ 8) (hr : rk = z_enc n q) (hq : ∀ c, c < n → q c < 8) : z_CAL (d + 3) 47 [.ref 16, .int (nI rk), .int cc] (CH p_size p_outs p_rule p_filled p_rankings p_counts p_draw p_fors k_size k_outs k_rule k_filled k_rankings k_counts k_draw k_fors d_size d_outs d_rule d_filled d_rankings d_counts d_draw d_fors (nI n) w_ins w_rule w_steps w_fors w_draw w_links w_best w_beaters w_distances w_route t_bytes t_length t_next t_ranking t_count l_cells l_sizes s_bytes s_length keeps) (fun r h2 => ∃ (f2 : Nat → Int32), r = none ∧ h2 = (CH p_size p_outs p_rule p_filled p_rankings p_counts p_draw p_fors k_size k_outs k_rule k_filled k_rankings k_counts k_draw k_fors d_size d_outs d_rule d_filled d_rankings d_counts d_draw d_fors (nI n) w_ins w_rule w_steps f2 w_draw w_links w_best w_beaters w_distances w_route t_bytes t_length t_next t_ranking t_count l_cells l_sizes s_bytes s_length keeps) ∧ (∀ x, x < 8 → ∀ y, y < 8 → f2 (8 * x + y) = if (x < n ∧ y < n ∧ q x < q y) then w_fors (8 * x + y) + cc else w_fors (8 * x + y))) := by
  refine e_of2 (q := zmX4_count) rfl rfl (fun R hR => ?_)
  refine e_steps 6 (σ' := (10, [(0, .ref 16), (1, .int (nI rk)), (2, .int cc)], [.int cc, .int (nI rk), .int (nI n), .ref 17], (CH p_size p_outs p_rule p_filled p_rankings p_counts p_draw p_fors k_size k_outs k_rule k_filled k_rankings k_counts k_draw k_fors d_size d_outs d_rule d_filled d_rankings d_counts d_draw d_fors (nI n) w_ins w_rule w_steps w_fors w_draw w_links w_best w_beaters w_distances w_route t_bytes t_length t_next t_ranking t_count l_cells l_sizes s_bytes s_length keeps))) rfl ?_
  refine e_call (y := 128) (av := [.ref 17, .int (nI n), .int (nI rk), .int cc]) (rest := []) rfl (c_X5_countPairs_w (d + 0) (q := q) (by first | assumption | omega | rfl | trivial) (by first | assumption | omega | rfl | trivial) (by first | assumption | omega | rfl | trivial)) (fun r_10 h_10 p_10 => ?_)
  obtain ⟨w_fors_10, rfl, rfl, q_10⟩ := p_10
  refine e_steps 0 (σ' := (13, [(0, .ref 16), (1, .int (nI rk)), (2, .int cc)], [], (CH p_size p_outs p_rule p_filled p_rankings p_counts p_draw p_fors k_size k_outs k_rule k_filled k_rankings k_counts k_draw k_fors d_size d_outs d_rule d_filled d_rankings d_counts d_draw d_fors (nI n) w_ins w_rule w_steps w_fors_10 w_draw w_links w_best w_beaters w_distances w_route t_bytes t_length t_next t_ranking t_count l_cells l_sizes s_bytes s_length keeps))) rfl ?_
  exact e_ret rfl (trivial) (hR _ _ ⟨w_fors_10, rfl, rfl, (by first | assumption | omega | rfl | trivial)⟩)
theorem c_X4_goBy (d : Nat) {p_size : Int32} {p_outs : Int32} {p_rule : Int32} {p_filled : Int32} {p_rankings : Nat → Int32} {p_counts : Nat → Int32} {p_draw : Nat → Int32} {p_fors : Nat → Int32} {k_size : Int32} {k_outs : Int32} {k_rule : Int32} {k_filled : Int32} {k_rankings : Nat → Int32} {k_counts : Nat → Int32} {k_draw : Nat → Int32} {k_fors : Nat → Int32} {d_size : Int32} {d_outs : Int32} {d_rule : Int32} {d_filled : Int32} {d_rankings : Nat → Int32} {d_counts : Nat → Int32} {d_draw : Nat → Int32} {d_fors : Nat → Int32} {w_size : Int32} {w_ins : Int32} {w_rule : Int32} {w_steps : Int32} {w_fors : Nat → Int32} {w_draw : Nat → Int32} {w_links : Nat → Int64} {w_best : Nat → Int64} {w_beaters : Nat → Int32} {w_distances : Nat → Int32} {w_route : Nat → Int32} {t_bytes : Nat → Int32} {t_length : Int32} {t_next : Int32} {t_ranking : Int32} {t_count : Int32} {l_cells : Nat → Int64} {l_sizes : Nat → Int32} {s_bytes : Nat → Int32} {s_length : Int32} {keeps : Int32} {m2 : Nat}  : z_CAL (d + 1) 48 [.ref 16, .int (nI m2)] (CH p_size p_outs p_rule p_filled p_rankings p_counts p_draw p_fors k_size k_outs k_rule k_filled k_rankings k_counts k_draw k_fors d_size d_outs d_rule d_filled d_rankings d_counts d_draw d_fors w_size w_ins w_rule w_steps w_fors w_draw w_links w_best w_beaters w_distances w_route t_bytes t_length t_next t_ranking t_count l_cells l_sizes s_bytes s_length keeps) (fun r h2 => r = none ∧ h2 = (CH p_size p_outs p_rule p_filled p_rankings p_counts p_draw p_fors k_size k_outs k_rule k_filled k_rankings k_counts k_draw k_fors d_size d_outs d_rule d_filled d_rankings d_counts d_draw d_fors w_size w_ins (nI m2) w_steps w_fors w_draw w_links w_best w_beaters w_distances w_route t_bytes t_length t_next t_ranking t_count l_cells l_sizes s_bytes s_length keeps)) := by
  refine e_of2 (q := zmX4_goBy) rfl rfl (fun R hR => ?_)
  refine e_steps 3 (σ' := (5, [(0, .ref 16), (1, .int (nI m2))], [], (CH p_size p_outs p_rule p_filled p_rankings p_counts p_draw p_fors k_size k_outs k_rule k_filled k_rankings k_counts k_draw k_fors d_size d_outs d_rule d_filled d_rankings d_counts d_draw d_fors w_size w_ins (nI m2) w_steps w_fors w_draw w_links w_best w_beaters w_distances w_route t_bytes t_length t_next t_ranking t_count l_cells l_sizes s_bytes s_length keeps))) rfl ?_
  exact e_ret rfl (trivial) (hR _ _ ⟨rfl, rfl⟩)
theorem c_X4_ratioStrength (d : Nat) {h : List z_E} {a : Nat} {b : Nat} (hba : b < a) (ha : a ≤ 41000000) : z_CAL (d + 1) 53 [.int (nI a), .int (nI b)] h (fun r h2 => r = some (.long (lN (z_key 2 a b))) ∧ h2 = h) := by
  refine e_of2 (q := zmX4_ratioStrength) rfl rfl (fun R hR => ?_)
  have hq0 := Nat.div_le_self (b * 2 ^ 26) a; have hq1 := Nat.mod_lt (b * 2 ^ 26) (show a > 0 by omega); have hq2 := Nat.div_le_self (b * 2 ^ 26 % a * 2 ^ 26) a; have hq3 := z_quot hba; have hq4 : b * 2 ^ 52 / a ≤ 4503599627370496 := Nat.le_of_lt hq3
  refine e_steps 1 (σ' := (1, [(0, .int (nI a)), (1, .int (nI b))], [.int (nI b)], h)) rfl ?_
  refine e_if (c := nI b ≤ 0) rfl (fun c_1 => ?_) (fun c_1 => ?_)
  · skip
    rw [z0_le (by omega)] at c_1
    refine e_steps 2 (σ' := (12, [(0, .int (nI a)), (1, .int (nI b))], [.int (nI a), .long (lN 4503599627370496)], h)) rfl ?_
    refine e_i2l rfl (by omega) ?_
    refine e_steps 1 (σ' := (14, [(0, .int (nI a)), (1, .int (nI b))], [.long (((lN 4503599627370496) + (lN a)))], h)) rfl ?_
    have er_13 : ((lN 4503599627370496) + (lN a)) = lN (4503599627370496 + a) := lN_add _ _
    rw [er_13]
    exact e_ret rfl (trivial) (hR _ _ ⟨(by rw [z_key2]; first | (rw [if_pos (by omega)]) | (rw [if_neg (by omega)])), rfl⟩)
  · skip
    rw [z0_le (by omega)] at c_1
    refine e_steps 1 (σ' := (5, [(0, .int (nI a)), (1, .int (nI b))], [.int (nI a)], h)) rfl ?_
    refine e_if (c := 0 < nI a) rfl (fun c_5 => ?_) (fun c_5 => ?_)
    · skip
      rw [z0_gt (by omega)] at c_5
      refine e_steps 1 (σ' := (16, [(0, .int (nI a)), (1, .int (nI b))], [.int (nI b)], h)) rfl ?_
      refine e_i2l rfl (by omega) ?_
      refine e_steps 2 (σ' := (20, [(0, .int (nI a)), (1, .int (nI b))], [.long (((lN b) <<< (((nI 26)).toInt64 &&& 63)))], h)) rfl ?_
      have er_19 : ((lN b) <<< (((nI 26)).toInt64 &&& 63)) = lN (b * 2 ^ 26) := z_lshC (by decide)
      rw [er_19]
      refine e_steps 3 (σ' := (23, [(2, .long (lN (b * 2 ^ 26))), (0, .int (nI a)), (1, .int (nI b))], [.int (nI a), .long (lN (b * 2 ^ 26))], h)) rfl ?_
      refine e_i2l rfl (by omega) ?_
      refine e_steps 0 (σ' := (24, [(2, .long (lN (b * 2 ^ 26))), (0, .int (nI a)), (1, .int (nI b))], [.long (lN a), .long (lN (b * 2 ^ 26))], h)) rfl ?_
      refine e_gd (c := ¬ (lN a) = 0) rfl (by show ¬ lN a = lN 0; rw [pk_lEQ (by omega) (by omega)]; omega) ?_
      refine e_steps 0 (σ' := (25, [(2, .long (lN (b * 2 ^ 26))), (0, .int (nI a)), (1, .int (nI b))], [.long (((lN (b * 2 ^ 26)) / (lN a)))], h)) rfl ?_
      have er_24 : ((lN (b * 2 ^ 26)) / (lN a)) = lN (b * 2 ^ 26 / a) := pk_lDiv (by omega) (by omega) (by omega)
      rw [er_24]
      refine e_steps 3 (σ' := (29, [(4, .long (lN (b * 2 ^ 26 / a))), (2, .long (lN (b * 2 ^ 26))), (0, .int (nI a)), (1, .int (nI b))], [.int (nI a), .long (lN (b * 2 ^ 26))], h)) rfl ?_
      refine e_i2l rfl (by omega) ?_
      refine e_steps 0 (σ' := (30, [(4, .long (lN (b * 2 ^ 26 / a))), (2, .long (lN (b * 2 ^ 26))), (0, .int (nI a)), (1, .int (nI b))], [.long (lN a), .long (lN (b * 2 ^ 26))], h)) rfl ?_
      refine e_gd (c := ¬ (lN a) = 0) rfl (by show ¬ lN a = lN 0; rw [pk_lEQ (by omega) (by omega)]; omega) ?_
      refine e_steps 0 (σ' := (31, [(4, .long (lN (b * 2 ^ 26 / a))), (2, .long (lN (b * 2 ^ 26))), (0, .int (nI a)), (1, .int (nI b))], [.long (((lN (b * 2 ^ 26)) - (lN (b * 2 ^ 26)) / (lN a) * (lN a)))], h)) rfl ?_
      have er_30 : ((lN (b * 2 ^ 26)) - (lN (b * 2 ^ 26)) / (lN a) * (lN a)) = lN (b * 2 ^ 26 % a) := pk_lRem (by omega) (by omega) (by omega)
      rw [er_30]
      refine e_steps 2 (σ' := (34, [(4, .long (lN (b * 2 ^ 26 / a))), (2, .long (lN (b * 2 ^ 26))), (0, .int (nI a)), (1, .int (nI b))], [.long (((lN (b * 2 ^ 26 % a)) <<< (((nI 26)).toInt64 &&& 63)))], h)) rfl ?_
      have er_33 : ((lN (b * 2 ^ 26 % a)) <<< (((nI 26)).toInt64 &&& 63)) = lN (b * 2 ^ 26 % a * 2 ^ 26) := z_lshC (by decide)
      rw [er_33]
      refine e_steps 1 (σ' := (35, [(4, .long (lN (b * 2 ^ 26 / a))), (2, .long (lN (b * 2 ^ 26))), (0, .int (nI a)), (1, .int (nI b))], [.int (nI a), .long (lN (b * 2 ^ 26 % a * 2 ^ 26))], h)) rfl ?_
      refine e_i2l rfl (by omega) ?_
      refine e_steps 0 (σ' := (36, [(4, .long (lN (b * 2 ^ 26 / a))), (2, .long (lN (b * 2 ^ 26))), (0, .int (nI a)), (1, .int (nI b))], [.long (lN a), .long (lN (b * 2 ^ 26 % a * 2 ^ 26))], h)) rfl ?_
      refine e_gd (c := ¬ (lN a) = 0) rfl (by show ¬ lN a = lN 0; rw [pk_lEQ (by omega) (by omega)]; omega) ?_
      refine e_steps 0 (σ' := (37, [(4, .long (lN (b * 2 ^ 26 / a))), (2, .long (lN (b * 2 ^ 26))), (0, .int (nI a)), (1, .int (nI b))], [.long (((lN (b * 2 ^ 26 % a * 2 ^ 26)) / (lN a)))], h)) rfl ?_
      have er_36 : ((lN (b * 2 ^ 26 % a * 2 ^ 26)) / (lN a)) = lN (b * 2 ^ 26 % a * 2 ^ 26 / a) := pk_lDiv (by omega) (by omega) (by omega)
      rw [er_36]
      refine e_steps 5 (σ' := (47, [(6, .long (lN (b * 2 ^ 26 % a * 2 ^ 26 / a))), (4, .long (lN (b * 2 ^ 26 / a))), (2, .long (lN (b * 2 ^ 26))), (0, .int (nI a)), (1, .int (nI b))], [.long (((lN (b * 2 ^ 26 / a)) <<< (((nI 26)).toInt64 &&& 63))), .long (lN 4503599627370496)], h)) rfl ?_
      have er_46 : ((lN (b * 2 ^ 26 / a)) <<< (((nI 26)).toInt64 &&& 63)) = lN (b * 2 ^ 26 / a * 2 ^ 26) := z_lshC (by decide)
      rw [er_46]
      refine e_steps 2 (σ' := (50, [(6, .long (lN (b * 2 ^ 26 % a * 2 ^ 26 / a))), (4, .long (lN (b * 2 ^ 26 / a))), (2, .long (lN (b * 2 ^ 26))), (0, .int (nI a)), (1, .int (nI b))], [.long (((lN (b * 2 ^ 26 / a * 2 ^ 26)) + (lN (b * 2 ^ 26 % a * 2 ^ 26 / a)))), .long (lN 4503599627370496)], h)) rfl ?_
      have er_49 : ((lN (b * 2 ^ 26 / a * 2 ^ 26)) + (lN (b * 2 ^ 26 % a * 2 ^ 26 / a))) = lN (b * 2 ^ 52 / a) := (lN_add _ _).trans (congrArg lN (z_ratio (by omega)))
      rw [er_49]
      refine e_steps 1 (σ' := (51, [(6, .long (lN (b * 2 ^ 26 % a * 2 ^ 26 / a))), (4, .long (lN (b * 2 ^ 26 / a))), (2, .long (lN (b * 2 ^ 26))), (0, .int (nI a)), (1, .int (nI b))], [.long (((lN 4503599627370496) - (lN (b * 2 ^ 52 / a))))], h)) rfl ?_
      have er_50 : ((lN 4503599627370496) - (lN (b * 2 ^ 52 / a))) = lN (4503599627370496 - b * 2 ^ 52 / a) := z_lsub hq4
      rw [er_50]
      exact e_ret rfl (trivial) (hR _ _ ⟨(by rw [z_key2]; first | (rw [if_pos (by omega)]) | (rw [if_neg (by omega)])), rfl⟩)
    · skip
      rw [z0_gt (by omega)] at c_5
      omega
theorem c_X4_linkBetween (d : Nat) {p_size : Int32} {p_outs : Int32} {p_rule : Int32} {p_filled : Int32} {p_rankings : Nat → Int32} {p_counts : Nat → Int32} {p_draw : Nat → Int32} {p_fors : Nat → Int32} {k_size : Int32} {k_outs : Int32} {k_rule : Int32} {k_filled : Int32} {k_rankings : Nat → Int32} {k_counts : Nat → Int32} {k_draw : Nat → Int32} {k_fors : Nat → Int32} {d_size : Int32} {d_outs : Int32} {d_rule : Int32} {d_filled : Int32} {d_rankings : Nat → Int32} {d_counts : Nat → Int32} {d_draw : Nat → Int32} {d_fors : Nat → Int32} {n : Nat} {s : Nat} {m : Nat} {w_steps : Int32} {w_fors : Nat → Int32} {w_draw : Nat → Int32} {w_links : Nat → Int64} {w_best : Nat → Int64} {w_beaters : Nat → Int32} {w_distances : Nat → Int32} {w_route : Nat → Int32} {t_bytes : Nat → Int32} {t_length : Int32} {t_next : Int32} {t_ranking : Int32} {t_count : Int32} {l_cells : Nat → Int64} {l_sizes : Nat → Int32} {s_bytes : Nat → Int32} {s_length : Int32} {keeps : Int32} {i : Nat} {j : Nat} {F : Nat → Nat → Nat} (hn2 : 2 ≤ n) (hn8 : n ≤ 8) (hs2 : s < 2 ^ n) (hm : m < 4) (hF : z_FR w_fors n F) (hi : i < n) (hj : j < n) : z_CAL (d + 2) 52 [.ref 16, .int (nI i), .int (nI j)] (CH p_size p_outs p_rule p_filled p_rankings p_counts p_draw p_fors k_size k_outs k_rule k_filled k_rankings k_counts k_draw k_fors d_size d_outs d_rule d_filled d_rankings d_counts d_draw d_fors (nI n) (nI s) (nI m) w_steps w_fors w_draw w_links w_best w_beaters w_distances w_route t_bytes t_length t_next t_ranking t_count l_cells l_sizes s_bytes s_length keeps) (fun r h2 => r = some (.long (lN (z_LS m s F i j))) ∧ h2 = (CH p_size p_outs p_rule p_filled p_rankings p_counts p_draw p_fors k_size k_outs k_rule k_filled k_rankings k_counts k_draw k_fors d_size d_outs d_rule d_filled d_rankings d_counts d_draw d_fors (nI n) (nI s) (nI m) w_steps w_fors w_draw w_links w_best w_beaters w_distances w_route t_bytes t_length t_next t_ranking t_count l_cells l_sizes s_bytes s_length keeps)) := by
  refine e_of2 (q := zmX4_linkBetween) rfl rfl (fun R hR => ?_)
  have hp8 := z_p2 hn8; have hs : s < 256 := (by omega)
  refine e_steps 4 (σ' := (6, [(0, .ref 16), (1, .int (nI i)), (2, .int (nI j))], [.int (nI j), .int (nI i), .ref 17], (CH p_size p_outs p_rule p_filled p_rankings p_counts p_draw p_fors k_size k_outs k_rule k_filled k_rankings k_counts k_draw k_fors d_size d_outs d_rule d_filled d_rankings d_counts d_draw d_fors (nI n) (nI s) (nI m) w_steps w_fors w_draw w_links w_best w_beaters w_distances w_route t_bytes t_length t_next t_ranking t_count l_cells l_sizes s_bytes s_length keeps))) rfl ?_
  refine e_call (y := 127) (av := [.int (nI i), .int (nI j)]) (rest := [.ref 17]) rfl (c_X5_cell (d + 0) ) (fun r_6 h_6 p_6 => ?_)
  obtain ⟨rfl, rfl⟩ := p_6
  refine e_steps 0 (σ' := (9, [(0, .ref 16), (1, .int (nI i)), (2, .int (nI j))], [.int (nI (8 * i + j)), .ref 17], (CH p_size p_outs p_rule p_filled p_rankings p_counts p_draw p_fors k_size k_outs k_rule k_filled k_rankings k_counts k_draw k_fors d_size d_outs d_rule d_filled d_rankings d_counts d_draw d_fors (nI n) (nI s) (nI m) w_steps w_fors w_draw w_links w_best w_beaters w_distances w_route t_bytes t_length t_next t_ranking t_count l_cells l_sizes s_bytes s_length keeps))) rfl ?_
  refine e_ial (nI (F i j)) rfl rfl (by first | assumption | omega | rfl | trivial) (by decide) ((hF _ (by omega) _ (by omega)).1) ?_
  have hv_9 := (hF i (by omega) j (by omega)).2
  refine e_steps 5 (σ' := (17, [(3, .int (nI (F i j))), (0, .ref 16), (1, .int (nI i)), (2, .int (nI j))], [.int (nI i), .int (nI j), .ref 17], (CH p_size p_outs p_rule p_filled p_rankings p_counts p_draw p_fors k_size k_outs k_rule k_filled k_rankings k_counts k_draw k_fors d_size d_outs d_rule d_filled d_rankings d_counts d_draw d_fors (nI n) (nI s) (nI m) w_steps w_fors w_draw w_links w_best w_beaters w_distances w_route t_bytes t_length t_next t_ranking t_count l_cells l_sizes s_bytes s_length keeps))) rfl ?_
  refine e_call (y := 127) (av := [.int (nI j), .int (nI i)]) (rest := [.ref 17]) rfl (c_X5_cell (d + 0) ) (fun r_17 h_17 p_17 => ?_)
  obtain ⟨rfl, rfl⟩ := p_17
  refine e_steps 0 (σ' := (20, [(3, .int (nI (F i j))), (0, .ref 16), (1, .int (nI i)), (2, .int (nI j))], [.int (nI (8 * j + i)), .ref 17], (CH p_size p_outs p_rule p_filled p_rankings p_counts p_draw p_fors k_size k_outs k_rule k_filled k_rankings k_counts k_draw k_fors d_size d_outs d_rule d_filled d_rankings d_counts d_draw d_fors (nI n) (nI s) (nI m) w_steps w_fors w_draw w_links w_best w_beaters w_distances w_route t_bytes t_length t_next t_ranking t_count l_cells l_sizes s_bytes s_length keeps))) rfl ?_
  refine e_ial (nI (F j i)) rfl rfl (by first | assumption | omega | rfl | trivial) (by decide) ((hF _ (by omega) _ (by omega)).1) ?_
  have hv_20 := (hF j (by omega) i (by omega)).2
  refine e_steps 3 (σ' := (26, [(4, .int (nI (F j i))), (3, .int (nI (F i j))), (0, .ref 16), (1, .int (nI i)), (2, .int (nI j))], [.int (nI (F j i)), .int (nI (F i j))], (CH p_size p_outs p_rule p_filled p_rankings p_counts p_draw p_fors k_size k_outs k_rule k_filled k_rankings k_counts k_draw k_fors d_size d_outs d_rule d_filled d_rankings d_counts d_draw d_fors (nI n) (nI s) (nI m) w_steps w_fors w_draw w_links w_best w_beaters w_distances w_route t_bytes t_length t_next t_ranking t_count l_cells l_sizes s_bytes s_length keeps))) rfl ?_
  refine e_if (c := nI (F i j) ≤ nI (F j i)) rfl (fun c_26 => ?_) (fun c_26 => ?_)
  · skip
    rw [nI_leI (by omega) (by omega)] at c_26
    refine e_steps 1 (σ' := (52, [(4, .int (nI (F j i))), (3, .int (nI (F i j))), (0, .ref 16), (1, .int (nI i)), (2, .int (nI j))], [.long (lN 0)], (CH p_size p_outs p_rule p_filled p_rankings p_counts p_draw p_fors k_size k_outs k_rule k_filled k_rankings k_counts k_draw k_fors d_size d_outs d_rule d_filled d_rankings d_counts d_draw d_fors (nI n) (nI s) (nI m) w_steps w_fors w_draw w_links w_best w_beaters w_distances w_route t_bytes t_length t_next t_ranking t_count l_cells l_sizes s_bytes s_length keeps))) rfl ?_
    exact e_ret rfl (trivial) (hR _ _ ⟨(by first | (rw [z_LS_le2 (by omega)]) | (rw [z_LS_bi (by assumption)]) | (rw [z_LS_bj (by assumption)]) | (rw [z_LS_y (by omega) (by assumption) (by assumption), hm_k]; done) | (rw [z_LS_y (by omega) (by assumption) (by assumption), hm_k]; rfl)), rfl⟩)
  · skip
    rw [nI_leI (by omega) (by omega)] at c_26
    refine e_steps 3 (σ' := (34, [(4, .int (nI (F j i))), (3, .int (nI (F i j))), (0, .ref 16), (1, .int (nI i)), (2, .int (nI j))], [.int (nI i), .int (nI s)], (CH p_size p_outs p_rule p_filled p_rankings p_counts p_draw p_fors k_size k_outs k_rule k_filled k_rankings k_counts k_draw k_fors d_size d_outs d_rule d_filled d_rankings d_counts d_draw d_fors (nI n) (nI s) (nI m) w_steps w_fors w_draw w_links w_best w_beaters w_distances w_route t_bytes t_length t_next t_ranking t_count l_cells l_sizes s_bytes s_length keeps))) rfl ?_
    refine e_call (y := 123) (av := [.int (nI s), .int (nI i)]) (rest := []) rfl (c_X5_hasBit (d + 0) (by first | assumption | omega | rfl | trivial) (by first | assumption | omega | rfl | trivial)) (fun r_34 h_34 p_34 => ?_)
    obtain ⟨rfl, o_34⟩ := p_34
    rcases o_34 with ⟨rfl, o_34⟩ | ⟨rfl, o_34⟩
    · skip
      refine e_steps 4 (σ' := (45, [(4, .int (nI (F j i))), (3, .int (nI (F i j))), (0, .ref 16), (1, .int (nI i)), (2, .int (nI j))], [.int (nI j), .int (nI s)], (CH p_size p_outs p_rule p_filled p_rankings p_counts p_draw p_fors k_size k_outs k_rule k_filled k_rankings k_counts k_draw k_fors d_size d_outs d_rule d_filled d_rankings d_counts d_draw d_fors (nI n) (nI s) (nI m) w_steps w_fors w_draw w_links w_best w_beaters w_distances w_route t_bytes t_length t_next t_ranking t_count l_cells l_sizes s_bytes s_length keeps))) rfl ?_
      refine e_call (y := 123) (av := [.int (nI s), .int (nI j)]) (rest := []) rfl (c_X5_hasBit (d + 0) (by first | assumption | omega | rfl | trivial) (by first | assumption | omega | rfl | trivial)) (fun r_45 h_45 p_45 => ?_)
      obtain ⟨rfl, o_45⟩ := p_45
      rcases o_45 with ⟨rfl, o_45⟩ | ⟨rfl, o_45⟩
      · skip
        refine e_steps 3 (σ' := (57, [(4, .int (nI (F j i))), (3, .int (nI (F i j))), (0, .ref 16), (1, .int (nI i)), (2, .int (nI j))], [.int (nI m)], (CH p_size p_outs p_rule p_filled p_rankings p_counts p_draw p_fors k_size k_outs k_rule k_filled k_rankings k_counts k_draw k_fors d_size d_outs d_rule d_filled d_rankings d_counts d_draw d_fors (nI n) (nI s) (nI m) w_steps w_fors w_draw w_links w_best w_beaters w_distances w_route t_bytes t_length t_next t_ranking t_count l_cells l_sizes s_bytes s_length keeps))) rfl ?_
        rcases z_sw2 (nI m) with c_57 | c_57 | c_57 | c_57
        · refine e_one (σ' := (84, [(4, .int (nI (F j i))), (3, .int (nI (F i j))), (0, .ref 16), (1, .int (nI i)), (2, .int (nI j))], [], (CH p_size p_outs p_rule p_filled p_rankings p_counts p_draw p_fors k_size k_outs k_rule k_filled k_rankings k_counts k_draw k_fors d_size d_outs d_rule d_filled d_rankings d_counts d_draw d_fors (nI n) (nI s) (nI m) w_steps w_fors w_draw w_links w_best w_beaters w_distances w_route t_bytes t_length t_next t_ranking t_count l_cells l_sizes s_bytes s_length keeps))) (z_swi (k := 0) (off := (.ofNat 27)) rfl c_57 (by decide +kernel) (by decide +kernel) rfl) ?_
          skip
          rw [nI_eq (by omega) (by omega)] at c_57; have hm_k := c_57
          refine e_steps 1 (σ' := (85, [(4, .int (nI (F j i))), (3, .int (nI (F i j))), (0, .ref 16), (1, .int (nI i)), (2, .int (nI j))], [.int (nI (F i j))], (CH p_size p_outs p_rule p_filled p_rankings p_counts p_draw p_fors k_size k_outs k_rule k_filled k_rankings k_counts k_draw k_fors d_size d_outs d_rule d_filled d_rankings d_counts d_draw d_fors (nI n) (nI s) (nI m) w_steps w_fors w_draw w_links w_best w_beaters w_distances w_route t_bytes t_length t_next t_ranking t_count l_cells l_sizes s_bytes s_length keeps))) rfl ?_
          refine e_i2l rfl (by omega) ?_
          refine e_steps 0 (σ' := (86, [(4, .int (nI (F j i))), (3, .int (nI (F i j))), (0, .ref 16), (1, .int (nI i)), (2, .int (nI j))], [.long (lN (F i j))], (CH p_size p_outs p_rule p_filled p_rankings p_counts p_draw p_fors k_size k_outs k_rule k_filled k_rankings k_counts k_draw k_fors d_size d_outs d_rule d_filled d_rankings d_counts d_draw d_fors (nI n) (nI s) (nI m) w_steps w_fors w_draw w_links w_best w_beaters w_distances w_route t_bytes t_length t_next t_ranking t_count l_cells l_sizes s_bytes s_length keeps))) rfl ?_
          exact e_ret rfl (trivial) (hR _ _ ⟨(by first | (rw [z_LS_le2 (by omega)]) | (rw [z_LS_bi (by assumption)]) | (rw [z_LS_bj (by assumption)]) | (rw [z_LS_y (by omega) (by assumption) (by assumption), hm_k]; done) | (rw [z_LS_y (by omega) (by assumption) (by assumption), hm_k]; rfl)), rfl⟩)
        · refine e_one (σ' := (87, [(4, .int (nI (F j i))), (3, .int (nI (F i j))), (0, .ref 16), (1, .int (nI i)), (2, .int (nI j))], [], (CH p_size p_outs p_rule p_filled p_rankings p_counts p_draw p_fors k_size k_outs k_rule k_filled k_rankings k_counts k_draw k_fors d_size d_outs d_rule d_filled d_rankings d_counts d_draw d_fors (nI n) (nI s) (nI m) w_steps w_fors w_draw w_links w_best w_beaters w_distances w_route t_bytes t_length t_next t_ranking t_count l_cells l_sizes s_bytes s_length keeps))) (z_swi (k := 1) (off := (.ofNat 30)) rfl c_57 (by decide +kernel) (by decide +kernel) rfl) ?_
          skip
          rw [nI_eq (by omega) (by omega)] at c_57; have hm_k := c_57
          refine e_steps 2 (σ' := (90, [(4, .int (nI (F j i))), (3, .int (nI (F i j))), (0, .ref 16), (1, .int (nI i)), (2, .int (nI j))], [.int (nI (F j i)), .int (nI (F i j))], (CH p_size p_outs p_rule p_filled p_rankings p_counts p_draw p_fors k_size k_outs k_rule k_filled k_rankings k_counts k_draw k_fors d_size d_outs d_rule d_filled d_rankings d_counts d_draw d_fors (nI n) (nI s) (nI m) w_steps w_fors w_draw w_links w_best w_beaters w_distances w_route t_bytes t_length t_next t_ranking t_count l_cells l_sizes s_bytes s_length keeps))) rfl ?_
          refine e_sbt ((F i j) - (F j i)) rfl (by first | assumption | omega | rfl | trivial) (by first | rfl | omega) ?_
          refine e_steps 0 (σ' := (91, [(4, .int (nI (F j i))), (3, .int (nI (F i j))), (0, .ref 16), (1, .int (nI i)), (2, .int (nI j))], [.int (nI ((F i j) - (F j i)))], (CH p_size p_outs p_rule p_filled p_rankings p_counts p_draw p_fors k_size k_outs k_rule k_filled k_rankings k_counts k_draw k_fors d_size d_outs d_rule d_filled d_rankings d_counts d_draw d_fors (nI n) (nI s) (nI m) w_steps w_fors w_draw w_links w_best w_beaters w_distances w_route t_bytes t_length t_next t_ranking t_count l_cells l_sizes s_bytes s_length keeps))) rfl ?_
          refine e_i2l rfl (by omega) ?_
          refine e_steps 0 (σ' := (92, [(4, .int (nI (F j i))), (3, .int (nI (F i j))), (0, .ref 16), (1, .int (nI i)), (2, .int (nI j))], [.long (lN ((F i j) - (F j i)))], (CH p_size p_outs p_rule p_filled p_rankings p_counts p_draw p_fors k_size k_outs k_rule k_filled k_rankings k_counts k_draw k_fors d_size d_outs d_rule d_filled d_rankings d_counts d_draw d_fors (nI n) (nI s) (nI m) w_steps w_fors w_draw w_links w_best w_beaters w_distances w_route t_bytes t_length t_next t_ranking t_count l_cells l_sizes s_bytes s_length keeps))) rfl ?_
          exact e_ret rfl (trivial) (hR _ _ ⟨(by first | (rw [z_LS_le2 (by omega)]) | (rw [z_LS_bi (by assumption)]) | (rw [z_LS_bj (by assumption)]) | (rw [z_LS_y (by omega) (by assumption) (by assumption), hm_k]; done) | (rw [z_LS_y (by omega) (by assumption) (by assumption), hm_k]; rfl)), rfl⟩)
        · refine e_one (σ' := (93, [(4, .int (nI (F j i))), (3, .int (nI (F i j))), (0, .ref 16), (1, .int (nI i)), (2, .int (nI j))], [], (CH p_size p_outs p_rule p_filled p_rankings p_counts p_draw p_fors k_size k_outs k_rule k_filled k_rankings k_counts k_draw k_fors d_size d_outs d_rule d_filled d_rankings d_counts d_draw d_fors (nI n) (nI s) (nI m) w_steps w_fors w_draw w_links w_best w_beaters w_distances w_route t_bytes t_length t_next t_ranking t_count l_cells l_sizes s_bytes s_length keeps))) (z_swi (k := 2) (off := (.ofNat 36)) rfl c_57 (by decide +kernel) (by decide +kernel) rfl) ?_
          skip
          rw [nI_eq (by omega) (by omega)] at c_57; have hm_k := c_57
          refine e_steps 2 (σ' := (96, [(4, .int (nI (F j i))), (3, .int (nI (F i j))), (0, .ref 16), (1, .int (nI i)), (2, .int (nI j))], [.int (nI (F j i)), .int (nI (F i j))], (CH p_size p_outs p_rule p_filled p_rankings p_counts p_draw p_fors k_size k_outs k_rule k_filled k_rankings k_counts k_draw k_fors d_size d_outs d_rule d_filled d_rankings d_counts d_draw d_fors (nI n) (nI s) (nI m) w_steps w_fors w_draw w_links w_best w_beaters w_distances w_route t_bytes t_length t_next t_ranking t_count l_cells l_sizes s_bytes s_length keeps))) rfl ?_
          refine e_call (y := 53) (av := [.int (nI (F i j)), .int (nI (F j i))]) (rest := []) rfl (c_X4_ratioStrength (d + 0) (by first | assumption | omega | rfl | trivial) (by first | assumption | omega | rfl | trivial)) (fun r_96 h_96 p_96 => ?_)
          obtain ⟨rfl, rfl⟩ := p_96
          refine e_steps 0 (σ' := (99, [(4, .int (nI (F j i))), (3, .int (nI (F i j))), (0, .ref 16), (1, .int (nI i)), (2, .int (nI j))], [.long (lN (z_key 2 (F i j) (F j i)))], (CH p_size p_outs p_rule p_filled p_rankings p_counts p_draw p_fors k_size k_outs k_rule k_filled k_rankings k_counts k_draw k_fors d_size d_outs d_rule d_filled d_rankings d_counts d_draw d_fors (nI n) (nI s) (nI m) w_steps w_fors w_draw w_links w_best w_beaters w_distances w_route t_bytes t_length t_next t_ranking t_count l_cells l_sizes s_bytes s_length keeps))) rfl ?_
          exact e_ret rfl (trivial) (hR _ _ ⟨(by first | (rw [z_LS_le2 (by omega)]) | (rw [z_LS_bi (by assumption)]) | (rw [z_LS_bj (by assumption)]) | (rw [z_LS_y (by omega) (by assumption) (by assumption), hm_k]; done) | (rw [z_LS_y (by omega) (by assumption) (by assumption), hm_k]; rfl)), rfl⟩)
        · refine e_one (σ' := (100, [(4, .int (nI (F j i))), (3, .int (nI (F i j))), (0, .ref 16), (1, .int (nI i)), (2, .int (nI j))], [], (CH p_size p_outs p_rule p_filled p_rankings p_counts p_draw p_fors k_size k_outs k_rule k_filled k_rankings k_counts k_draw k_fors d_size d_outs d_rule d_filled d_rankings d_counts d_draw d_fors (nI n) (nI s) (nI m) w_steps w_fors w_draw w_links w_best w_beaters w_distances w_route t_bytes t_length t_next t_ranking t_count l_cells l_sizes s_bytes s_length keeps))) (z_swd rfl c_57 rfl) ?_
          skip
          rw [nI_toInt (by omega)] at c_57; have hm_k : m = 3 := (by omega)
          refine e_steps 2 (σ' := (105, [(4, .int (nI (F j i))), (3, .int (nI (F i j))), (0, .ref 16), (1, .int (nI i)), (2, .int (nI j))], [.int (nI (F j i)), .long (lN 67108864)], (CH p_size p_outs p_rule p_filled p_rankings p_counts p_draw p_fors k_size k_outs k_rule k_filled k_rankings k_counts k_draw k_fors d_size d_outs d_rule d_filled d_rankings d_counts d_draw d_fors (nI n) (nI s) (nI m) w_steps w_fors w_draw w_links w_best w_beaters w_distances w_route t_bytes t_length t_next t_ranking t_count l_cells l_sizes s_bytes s_length keeps))) rfl ?_
          refine e_i2l rfl (by omega) ?_
          refine e_steps 1 (σ' := (107, [(4, .int (nI (F j i))), (3, .int (nI (F i j))), (0, .ref 16), (1, .int (nI i)), (2, .int (nI j))], [.long (((lN 67108864) - (lN (F j i))))], (CH p_size p_outs p_rule p_filled p_rankings p_counts p_draw p_fors k_size k_outs k_rule k_filled k_rankings k_counts k_draw k_fors d_size d_outs d_rule d_filled d_rankings d_counts d_draw d_fors (nI n) (nI s) (nI m) w_steps w_fors w_draw w_links w_best w_beaters w_distances w_route t_bytes t_length t_next t_ranking t_count l_cells l_sizes s_bytes s_length keeps))) rfl ?_
          have er_106 : ((lN 67108864) - (lN (F j i))) = lN (67108864 - F j i) := z_lsub (by omega)
          rw [er_106]
          exact e_ret rfl (trivial) (hR _ _ ⟨(by first | (rw [z_LS_le2 (by omega)]) | (rw [z_LS_bi (by assumption)]) | (rw [z_LS_bj (by assumption)]) | (rw [z_LS_y (by omega) (by assumption) (by assumption), hm_k]; done) | (rw [z_LS_y (by omega) (by assumption) (by assumption), hm_k]; rfl)), rfl⟩)
      · skip
        refine e_steps 2 (σ' := (52, [(4, .int (nI (F j i))), (3, .int (nI (F i j))), (0, .ref 16), (1, .int (nI i)), (2, .int (nI j))], [.long (lN 0)], (CH p_size p_outs p_rule p_filled p_rankings p_counts p_draw p_fors k_size k_outs k_rule k_filled k_rankings k_counts k_draw k_fors d_size d_outs d_rule d_filled d_rankings d_counts d_draw d_fors (nI n) (nI s) (nI m) w_steps w_fors w_draw w_links w_best w_beaters w_distances w_route t_bytes t_length t_next t_ranking t_count l_cells l_sizes s_bytes s_length keeps))) rfl ?_
        exact e_ret rfl (trivial) (hR _ _ ⟨(by first | (rw [z_LS_le2 (by omega)]) | (rw [z_LS_bi (by assumption)]) | (rw [z_LS_bj (by assumption)]) | (rw [z_LS_y (by omega) (by assumption) (by assumption), hm_k]; done) | (rw [z_LS_y (by omega) (by assumption) (by assumption), hm_k]; rfl)), rfl⟩)
    · skip
      refine e_steps 2 (σ' := (52, [(4, .int (nI (F j i))), (3, .int (nI (F i j))), (0, .ref 16), (1, .int (nI i)), (2, .int (nI j))], [.long (lN 0)], (CH p_size p_outs p_rule p_filled p_rankings p_counts p_draw p_fors k_size k_outs k_rule k_filled k_rankings k_counts k_draw k_fors d_size d_outs d_rule d_filled d_rankings d_counts d_draw d_fors (nI n) (nI s) (nI m) w_steps w_fors w_draw w_links w_best w_beaters w_distances w_route t_bytes t_length t_next t_ranking t_count l_cells l_sizes s_bytes s_length keeps))) rfl ?_
      exact e_ret rfl (trivial) (hR _ _ ⟨(by first | (rw [z_LS_le2 (by omega)]) | (rw [z_LS_bi (by assumption)]) | (rw [z_LS_bj (by assumption)]) | (rw [z_LS_y (by omega) (by assumption) (by assumption), hm_k]; done) | (rw [z_LS_y (by omega) (by assumption) (by assumption), hm_k]; rfl)), rfl⟩)
theorem c_X4_goThrough (d : Nat) {p_size : Int32} {p_outs : Int32} {p_rule : Int32} {p_filled : Int32} {p_rankings : Nat → Int32} {p_counts : Nat → Int32} {p_draw : Nat → Int32} {p_fors : Nat → Int32} {k_size : Int32} {k_outs : Int32} {k_rule : Int32} {k_filled : Int32} {k_rankings : Nat → Int32} {k_counts : Nat → Int32} {k_draw : Nat → Int32} {k_fors : Nat → Int32} {d_size : Int32} {d_outs : Int32} {d_rule : Int32} {d_filled : Int32} {d_rankings : Nat → Int32} {d_counts : Nat → Int32} {d_draw : Nat → Int32} {d_fors : Nat → Int32} {n : Nat} {s : Nat} {m : Nat} {w_steps : Int32} {w_fors : Nat → Int32} {w_draw : Nat → Int32} {w_links : Nat → Int64} {w_best : Nat → Int64} {w_beaters : Nat → Int32} {w_distances : Nat → Int32} {w_route : Nat → Int32} {t_bytes : Nat → Int32} {t_length : Int32} {t_next : Int32} {t_ranking : Int32} {t_count : Int32} {l_cells : Nat → Int64} {l_sizes : Nat → Int32} {s_bytes : Nat → Int32} {s_length : Int32} {keeps : Int32} {i : Nat} {mi : Nat} {T : Nat → Nat → Nat} (hn2 : 2 ≤ n) (hn8 : n ≤ 8) (hs2 : s < 2 ^ n) (hm : m < 4) (hT : (∀ x, x < n → ∀ y, y < n → w_best (8 * x + y) = lN (T x y))) (hTb : ∀ x, x < n → ∀ y, y < n → T x y < 2 ^ 53) (hT0 : ∀ x, x < n → T x x = 0) (hi : i < n) (hmi : mi < n) : z_CAL (d + 2) 50 [.ref 16, .int (nI i), .int (nI mi)] (CH p_size p_outs p_rule p_filled p_rankings p_counts p_draw p_fors k_size k_outs k_rule k_filled k_rankings k_counts k_draw k_fors d_size d_outs d_rule d_filled d_rankings d_counts d_draw d_fors (nI n) (nI s) (nI m) w_steps w_fors w_draw w_links w_best w_beaters w_distances w_route t_bytes t_length t_next t_ranking t_count l_cells l_sizes s_bytes s_length keeps) (fun r h2 => ∃ (b2 : Nat → Int64), r = none ∧ h2 = (CH p_size p_outs p_rule p_filled p_rankings p_counts p_draw p_fors k_size k_outs k_rule k_filled k_rankings k_counts k_draw k_fors d_size d_outs d_rule d_filled d_rankings d_counts d_draw d_fors (nI n) (nI s) (nI m) w_steps w_fors w_draw w_links b2 w_beaters w_distances w_route t_bytes t_length t_next t_ranking t_count l_cells l_sizes s_bytes s_length keeps) ∧ (∀ x, x < n → ∀ y, y < n → b2 (8 * x + y) = lN (if x = i then z_fw T mi x y else T x y))) := by
  refine e_of2 (q := zmX4_goThrough) rfl rfl (fun R hR => ?_)
  have hp8 := z_p2 hn8; have hs : s < 256 := (by omega)
  refine e_steps 2 (σ' := (2, [(0, .ref 16), (1, .int (nI i)), (2, .int (nI mi))], [.int (nI 0), .int (nI i)], (CH p_size p_outs p_rule p_filled p_rankings p_counts p_draw p_fors k_size k_outs k_rule k_filled k_rankings k_counts k_draw k_fors d_size d_outs d_rule d_filled d_rankings d_counts d_draw d_fors (nI n) (nI s) (nI m) w_steps w_fors w_draw w_links w_best w_beaters w_distances w_route t_bytes t_length t_next t_ranking t_count l_cells l_sizes s_bytes s_length keeps))) rfl ?_
  refine e_call (y := 127) (av := [.int (nI i), .int (nI 0)]) (rest := []) rfl (c_X5_cell (d + 0) ) (fun r_2 h_2 p_2 => ?_)
  obtain ⟨rfl, rfl⟩ := p_2
  refine e_steps 3 (σ' := (8, [(3, .int (nI (8 * i + 0))), (0, .ref 16), (1, .int (nI i)), (2, .int (nI mi))], [.int (nI 0), .int (nI mi)], (CH p_size p_outs p_rule p_filled p_rankings p_counts p_draw p_fors k_size k_outs k_rule k_filled k_rankings k_counts k_draw k_fors d_size d_outs d_rule d_filled d_rankings d_counts d_draw d_fors (nI n) (nI s) (nI m) w_steps w_fors w_draw w_links w_best w_beaters w_distances w_route t_bytes t_length t_next t_ranking t_count l_cells l_sizes s_bytes s_length keeps))) rfl ?_
  refine e_call (y := 127) (av := [.int (nI mi), .int (nI 0)]) (rest := []) rfl (c_X5_cell (d + 0) ) (fun r_8 h_8 p_8 => ?_)
  obtain ⟨rfl, rfl⟩ := p_8
  refine e_steps 5 (σ' := (19, [(4, .int (nI (8 * mi + 0))), (3, .int (nI (8 * i + 0))), (0, .ref 16), (1, .int (nI i)), (2, .int (nI mi))], [.int (nI mi), .int (nI (8 * i + 0)), .ref 20], (CH p_size p_outs p_rule p_filled p_rankings p_counts p_draw p_fors k_size k_outs k_rule k_filled k_rankings k_counts k_draw k_fors d_size d_outs d_rule d_filled d_rankings d_counts d_draw d_fors (nI n) (nI s) (nI m) w_steps w_fors w_draw w_links w_best w_beaters w_distances w_route t_bytes t_length t_next t_ranking t_count l_cells l_sizes s_bytes s_length keeps))) rfl ?_
  refine e_add (8 * i + 0 + mi) rfl (by first | rfl | omega) ?_
  refine e_steps 0 (σ' := (20, [(4, .int (nI (8 * mi + 0))), (3, .int (nI (8 * i + 0))), (0, .ref 16), (1, .int (nI i)), (2, .int (nI mi))], [.int (nI (8 * i + 0 + mi)), .ref 20], (CH p_size p_outs p_rule p_filled p_rankings p_counts p_draw p_fors k_size k_outs k_rule k_filled k_rankings k_counts k_draw k_fors d_size d_outs d_rule d_filled d_rankings d_counts d_draw d_fors (nI n) (nI s) (nI m) w_steps w_fors w_draw w_links w_best w_beaters w_distances w_route t_bytes t_length t_next t_ranking t_count l_cells l_sizes s_bytes s_length keeps))) rfl ?_
  refine e_lal (lN (T i mi)) rfl rfl (by first | assumption | omega | rfl | trivial) (by decide) ((hT _ (by omega) _ (by omega))) ?_
  have hv_20 := hTb i (by omega) mi (by omega)
  refine e_steps 4 (σ' := (27, [(5, .long (lN (T i mi))), (4, .int (nI (8 * mi + 0))), (3, .int (nI (8 * i + 0))), (0, .ref 16), (1, .int (nI i)), (2, .int (nI mi))], [.int ((lg_cmp (lN (T i mi)) (lN 0)))], (CH p_size p_outs p_rule p_filled p_rankings p_counts p_draw p_fors k_size k_outs k_rule k_filled k_rankings k_counts k_draw k_fors d_size d_outs d_rule d_filled d_rankings d_counts d_draw d_fors (nI n) (nI s) (nI m) w_steps w_fors w_draw w_links w_best w_beaters w_distances w_route t_bytes t_length t_next t_ranking t_count l_cells l_sizes s_bytes s_length keeps))) rfl ?_
  refine e_if (c := ¬ lg_cmp (lN (T i mi)) (lN 0) = 0) rfl (fun c_26 => ?_) (fun c_26 => ?_)
  · rw [lg_cmp_eq] at c_26
    rw [pk_lEQ (by omega) (by omega)] at c_26
    refine e_steps 0 (σ' := (31, [(5, .long (lN (T i mi))), (4, .int (nI (8 * mi + 0))), (3, .int (nI (8 * i + 0))), (0, .ref 16), (1, .int (nI i)), (2, .int (nI mi))], [], (CH p_size p_outs p_rule p_filled p_rankings p_counts p_draw p_fors k_size k_outs k_rule k_filled k_rankings k_counts k_draw k_fors d_size d_outs d_rule d_filled d_rankings d_counts d_draw d_fors (nI n) (nI s) (nI m) w_steps w_fors w_draw w_links w_best w_beaters w_distances w_route t_bytes t_length t_next t_ranking t_count l_cells l_sizes s_bytes s_length keeps))) rfl ?_
    have hne : mi ≠ i := (fun e => by have h0 := hT0 i hi; rw [e] at c_26; omega)
    refine e_steps 2 (σ' := (34, [(7, .int (nI 0)), (5, .long (lN (T i mi))), (4, .int (nI (8 * mi + 0))), (3, .int (nI (8 * i + 0))), (0, .ref 16), (1, .int (nI i)), (2, .int (nI mi))], [], (CH p_size p_outs p_rule p_filled p_rankings p_counts p_draw p_fors k_size k_outs k_rule k_filled k_rankings k_counts k_draw k_fors d_size d_outs d_rule d_filled d_rankings d_counts d_draw d_fors (nI n) (nI s) (nI m) w_steps w_fors w_draw w_links w_best w_beaters w_distances w_route t_bytes t_length t_next t_ranking t_count l_cells l_sizes s_bytes s_length keeps))) rfl ?_
    have loop_34 : ∀ (z_34 : Nat) (j : Nat) (bb : Nat → Int64), n - j < z_34 → (j ≤ n ∧ ∀ x, x < n → ∀ y, y < n → bb (8 * x + y) = lN (if x = i ∧ y < j ∧ y ≠ i then max (T i y) (min (T i mi) (T mi y)) else T x y)) → z_EV (d + 1) zmX4_goThrough R (34, [(0, .ref 16), (1, .int (nI i)), (2, .int (nI mi)), (3, .int (nI (8 * i + 0))), (4, .int (nI (8 * mi + 0))), (5, .long (lN (T i mi))), (7, .int (nI j))], [], (CH p_size p_outs p_rule p_filled p_rankings p_counts p_draw p_fors k_size k_outs k_rule k_filled k_rankings k_counts k_draw k_fors d_size d_outs d_rule d_filled d_rankings d_counts d_draw d_fors (nI n) (nI s) (nI m) w_steps w_fors w_draw w_links bb w_beaters w_distances w_route t_bytes t_length t_next t_ranking t_count l_cells l_sizes s_bytes s_length keeps)) := by
      intro z_34
      induction z_34 with
      | zero => intro j bb hm_34 _; exact absurd hm_34 (Nat.not_lt_zero _)
      | succ z_34 ih_34 =>
        intro j bb hm_34 hi_34
        obtain ⟨l1, l2⟩ := hi_34
        refine e_steps 3 (σ' := (40, [(0, .ref 16), (1, .int (nI i)), (2, .int (nI mi)), (3, .int (nI (8 * i + 0))), (4, .int (nI (8 * mi + 0))), (5, .long (lN (T i mi))), (7, .int (nI j))], [.int (nI n), .int (nI j)], (CH p_size p_outs p_rule p_filled p_rankings p_counts p_draw p_fors k_size k_outs k_rule k_filled k_rankings k_counts k_draw k_fors d_size d_outs d_rule d_filled d_rankings d_counts d_draw d_fors (nI n) (nI s) (nI m) w_steps w_fors w_draw w_links bb w_beaters w_distances w_route t_bytes t_length t_next t_ranking t_count l_cells l_sizes s_bytes s_length keeps))) rfl ?_
        refine e_if (c := nI n ≤ nI j) rfl (fun c_40 => ?_) (fun c_40 => ?_)
        · skip
          rw [nI_leI (by omega) (by omega)] at c_40
          refine e_steps 0 (σ' := (98, [(0, .ref 16), (1, .int (nI i)), (2, .int (nI mi)), (3, .int (nI (8 * i + 0))), (4, .int (nI (8 * mi + 0))), (5, .long (lN (T i mi))), (7, .int (nI j))], [], (CH p_size p_outs p_rule p_filled p_rankings p_counts p_draw p_fors k_size k_outs k_rule k_filled k_rankings k_counts k_draw k_fors d_size d_outs d_rule d_filled d_rankings d_counts d_draw d_fors (nI n) (nI s) (nI m) w_steps w_fors w_draw w_links bb w_beaters w_distances w_route t_bytes t_length t_next t_ranking t_count l_cells l_sizes s_bytes s_length keeps))) rfl ?_
          exact e_ret rfl (trivial) (hR _ _ ⟨bb, rfl, rfl, (by first | exact z_gt_0 (by omega) hT | exact z_gt_end (hT0 i hi) (by rw [show j = n by omega] at l2; exact l2))⟩)
        · skip
          rw [nI_leI (by omega) (by omega)] at c_40
          refine e_steps 5 (σ' := (53, [(0, .ref 16), (1, .int (nI i)), (2, .int (nI mi)), (3, .int (nI (8 * i + 0))), (4, .int (nI (8 * mi + 0))), (5, .long (lN (T i mi))), (7, .int (nI j))], [.int (nI j), .int (nI (8 * mi + 0)), .ref 20, .long (lN (T i mi))], (CH p_size p_outs p_rule p_filled p_rankings p_counts p_draw p_fors k_size k_outs k_rule k_filled k_rankings k_counts k_draw k_fors d_size d_outs d_rule d_filled d_rankings d_counts d_draw d_fors (nI n) (nI s) (nI m) w_steps w_fors w_draw w_links bb w_beaters w_distances w_route t_bytes t_length t_next t_ranking t_count l_cells l_sizes s_bytes s_length keeps))) rfl ?_
          refine e_add (8 * mi + 0 + j) rfl (by first | rfl | omega) ?_
          refine e_steps 0 (σ' := (54, [(0, .ref 16), (1, .int (nI i)), (2, .int (nI mi)), (3, .int (nI (8 * i + 0))), (4, .int (nI (8 * mi + 0))), (5, .long (lN (T i mi))), (7, .int (nI j))], [.int (nI (8 * mi + 0 + j)), .ref 20, .long (lN (T i mi))], (CH p_size p_outs p_rule p_filled p_rankings p_counts p_draw p_fors k_size k_outs k_rule k_filled k_rankings k_counts k_draw k_fors d_size d_outs d_rule d_filled d_rankings d_counts d_draw d_fors (nI n) (nI s) (nI m) w_steps w_fors w_draw w_links bb w_beaters w_distances w_route t_bytes t_length t_next t_ranking t_count l_cells l_sizes s_bytes s_length keeps))) rfl ?_
          refine e_lal (lN (T mi j)) rfl rfl (by first | assumption | omega | rfl | trivial) (by decide) (((l2 _ (by omega) _ (by omega)).trans (congrArg lN (if_neg (by omega))))) ?_
          have hv_54 := hTb mi (by omega) j (by omega)
          refine e_steps 0 (σ' := (55, [(0, .ref 16), (1, .int (nI i)), (2, .int (nI mi)), (3, .int (nI (8 * i + 0))), (4, .int (nI (8 * mi + 0))), (5, .long (lN (T i mi))), (7, .int (nI j))], [.long (lN (T mi j)), .long (lN (T i mi))], (CH p_size p_outs p_rule p_filled p_rankings p_counts p_draw p_fors k_size k_outs k_rule k_filled k_rankings k_counts k_draw k_fors d_size d_outs d_rule d_filled d_rankings d_counts d_draw d_fors (nI n) (nI s) (nI m) w_steps w_fors w_draw w_links bb w_beaters w_distances w_route t_bytes t_length t_next t_ranking t_count l_cells l_sizes s_bytes s_length keeps))) rfl ?_
          refine e_call (y := 243) (av := [.long (lN (T i mi)), .long (lN (T mi j))]) (rest := []) rfl (c_J9_min_f86c9_N (d + 0) (by first | assumption | omega | rfl | trivial) (by first | assumption | omega | rfl | trivial)) (fun r_55 h_55 p_55 => ?_)
          obtain ⟨rfl, rfl⟩ := p_55
          refine e_steps 3 (σ' := (63, [(8, .long (lN (min (T i mi) (T mi j)))), (0, .ref 16), (1, .int (nI i)), (2, .int (nI mi)), (3, .int (nI (8 * i + 0))), (4, .int (nI (8 * mi + 0))), (5, .long (lN (T i mi))), (7, .int (nI j))], [.int (nI i), .int (nI j)], (CH p_size p_outs p_rule p_filled p_rankings p_counts p_draw p_fors k_size k_outs k_rule k_filled k_rankings k_counts k_draw k_fors d_size d_outs d_rule d_filled d_rankings d_counts d_draw d_fors (nI n) (nI s) (nI m) w_steps w_fors w_draw w_links bb w_beaters w_distances w_route t_bytes t_length t_next t_ranking t_count l_cells l_sizes s_bytes s_length keeps))) rfl ?_
          refine e_if (c := nI j = nI i) rfl (fun c_63 => ?_) (fun c_63 => ?_)
          · skip
            rw [nI_eq (by omega) (by omega)] at c_63
            refine e_steps 0 (σ' := (92, [(8, .long (lN (min (T i mi) (T mi j)))), (0, .ref 16), (1, .int (nI i)), (2, .int (nI mi)), (3, .int (nI (8 * i + 0))), (4, .int (nI (8 * mi + 0))), (5, .long (lN (T i mi))), (7, .int (nI j))], [], (CH p_size p_outs p_rule p_filled p_rankings p_counts p_draw p_fors k_size k_outs k_rule k_filled k_rankings k_counts k_draw k_fors d_size d_outs d_rule d_filled d_rankings d_counts d_draw d_fors (nI n) (nI s) (nI m) w_steps w_fors w_draw w_links bb w_beaters w_distances w_route t_bytes t_length t_next t_ranking t_count l_cells l_sizes s_bytes s_length keeps))) rfl ?_
            refine e_inc (n := 1) rfl rfl rfl (j + 1) (by rfl) [(7, .int (nI (j + 1))), (8, .long (lN (min (T i mi) (T mi j)))), (0, .ref 16), (1, .int (nI i)), (2, .int (nI mi)), (3, .int (nI (8 * i + 0))), (4, .int (nI (8 * mi + 0))), (5, .long (lN (T i mi)))] rfl ?_
            refine e_steps 1 (σ' := (34, [(7, .int (nI (j + 1))), (8, .long (lN (min (T i mi) (T mi j)))), (0, .ref 16), (1, .int (nI i)), (2, .int (nI mi)), (3, .int (nI (8 * i + 0))), (4, .int (nI (8 * mi + 0))), (5, .long (lN (T i mi)))], [], (CH p_size p_outs p_rule p_filled p_rankings p_counts p_draw p_fors k_size k_outs k_rule k_filled k_rankings k_counts k_draw k_fors d_size d_outs d_rule d_filled d_rankings d_counts d_draw d_fors (nI n) (nI s) (nI m) w_steps w_fors w_draw w_links bb w_beaters w_distances w_route t_bytes t_length t_next t_ranking t_count l_cells l_sizes s_bytes s_length keeps))) rfl ?_
            refine e_sub [2, 3, 4, 5, 6, 7, 0] rfl ?_
            exact ih_34 (j + 1) bb (by omega) (by first | exact ⟨by omega, z_gt_yes hn8 hi (by omega) (by assumption) (by omega) l2⟩ | exact ⟨by omega, z_gt_no (Or.inr (by omega)) l2⟩ | exact ⟨by omega, z_gt_no (Or.inl (by omega)) l2⟩)
          · skip
            rw [nI_eq (by omega) (by omega)] at c_63
            refine e_steps 5 (σ' := (75, [(8, .long (lN (min (T i mi) (T mi j)))), (0, .ref 16), (1, .int (nI i)), (2, .int (nI mi)), (3, .int (nI (8 * i + 0))), (4, .int (nI (8 * mi + 0))), (5, .long (lN (T i mi))), (7, .int (nI j))], [.int (nI j), .int (nI (8 * i + 0)), .ref 20, .long (lN (min (T i mi) (T mi j)))], (CH p_size p_outs p_rule p_filled p_rankings p_counts p_draw p_fors k_size k_outs k_rule k_filled k_rankings k_counts k_draw k_fors d_size d_outs d_rule d_filled d_rankings d_counts d_draw d_fors (nI n) (nI s) (nI m) w_steps w_fors w_draw w_links bb w_beaters w_distances w_route t_bytes t_length t_next t_ranking t_count l_cells l_sizes s_bytes s_length keeps))) rfl ?_
            refine e_add (8 * i + 0 + j) rfl (by first | rfl | omega) ?_
            refine e_steps 0 (σ' := (76, [(8, .long (lN (min (T i mi) (T mi j)))), (0, .ref 16), (1, .int (nI i)), (2, .int (nI mi)), (3, .int (nI (8 * i + 0))), (4, .int (nI (8 * mi + 0))), (5, .long (lN (T i mi))), (7, .int (nI j))], [.int (nI (8 * i + 0 + j)), .ref 20, .long (lN (min (T i mi) (T mi j)))], (CH p_size p_outs p_rule p_filled p_rankings p_counts p_draw p_fors k_size k_outs k_rule k_filled k_rankings k_counts k_draw k_fors d_size d_outs d_rule d_filled d_rankings d_counts d_draw d_fors (nI n) (nI s) (nI m) w_steps w_fors w_draw w_links bb w_beaters w_distances w_route t_bytes t_length t_next t_ranking t_count l_cells l_sizes s_bytes s_length keeps))) rfl ?_
            refine e_lal (lN (T i j)) rfl rfl (by first | assumption | omega | rfl | trivial) (by decide) (((l2 _ (by omega) _ (by omega)).trans (congrArg lN (if_neg (by omega))))) ?_
            have hv_76 := hTb i (by omega) j (by omega)
            refine e_steps 1 (σ' := (78, [(8, .long (lN (min (T i mi) (T mi j)))), (0, .ref 16), (1, .int (nI i)), (2, .int (nI mi)), (3, .int (nI (8 * i + 0))), (4, .int (nI (8 * mi + 0))), (5, .long (lN (T i mi))), (7, .int (nI j))], [.int ((lg_cmp (lN (min (T i mi) (T mi j))) (lN (T i j))))], (CH p_size p_outs p_rule p_filled p_rankings p_counts p_draw p_fors k_size k_outs k_rule k_filled k_rankings k_counts k_draw k_fors d_size d_outs d_rule d_filled d_rankings d_counts d_draw d_fors (nI n) (nI s) (nI m) w_steps w_fors w_draw w_links bb w_beaters w_distances w_route t_bytes t_length t_next t_ranking t_count l_cells l_sizes s_bytes s_length keeps))) rfl ?_
            refine e_if (c := lg_cmp (lN (min (T i mi) (T mi j))) (lN (T i j)) ≤ 0) rfl (fun c_77 => ?_) (fun c_77 => ?_)
            · rw [lg_cmp_le] at c_77
              rw [pk_lLE (by omega) (by omega)] at c_77
              refine e_steps 0 (σ' := (92, [(8, .long (lN (min (T i mi) (T mi j)))), (0, .ref 16), (1, .int (nI i)), (2, .int (nI mi)), (3, .int (nI (8 * i + 0))), (4, .int (nI (8 * mi + 0))), (5, .long (lN (T i mi))), (7, .int (nI j))], [], (CH p_size p_outs p_rule p_filled p_rankings p_counts p_draw p_fors k_size k_outs k_rule k_filled k_rankings k_counts k_draw k_fors d_size d_outs d_rule d_filled d_rankings d_counts d_draw d_fors (nI n) (nI s) (nI m) w_steps w_fors w_draw w_links bb w_beaters w_distances w_route t_bytes t_length t_next t_ranking t_count l_cells l_sizes s_bytes s_length keeps))) rfl ?_
              refine e_inc (n := 1) rfl rfl rfl (j + 1) (by rfl) [(7, .int (nI (j + 1))), (8, .long (lN (min (T i mi) (T mi j)))), (0, .ref 16), (1, .int (nI i)), (2, .int (nI mi)), (3, .int (nI (8 * i + 0))), (4, .int (nI (8 * mi + 0))), (5, .long (lN (T i mi)))] rfl ?_
              refine e_steps 1 (σ' := (34, [(7, .int (nI (j + 1))), (8, .long (lN (min (T i mi) (T mi j)))), (0, .ref 16), (1, .int (nI i)), (2, .int (nI mi)), (3, .int (nI (8 * i + 0))), (4, .int (nI (8 * mi + 0))), (5, .long (lN (T i mi)))], [], (CH p_size p_outs p_rule p_filled p_rankings p_counts p_draw p_fors k_size k_outs k_rule k_filled k_rankings k_counts k_draw k_fors d_size d_outs d_rule d_filled d_rankings d_counts d_draw d_fors (nI n) (nI s) (nI m) w_steps w_fors w_draw w_links bb w_beaters w_distances w_route t_bytes t_length t_next t_ranking t_count l_cells l_sizes s_bytes s_length keeps))) rfl ?_
              refine e_sub [2, 3, 4, 5, 6, 7, 0] rfl ?_
              exact ih_34 (j + 1) bb (by omega) (by first | exact ⟨by omega, z_gt_yes hn8 hi (by omega) (by assumption) (by omega) l2⟩ | exact ⟨by omega, z_gt_no (Or.inr (by omega)) l2⟩ | exact ⟨by omega, z_gt_no (Or.inl (by omega)) l2⟩)
            · rw [lg_cmp_le] at c_77
              rw [pk_lLE (by omega) (by omega)] at c_77
              refine e_steps 4 (σ' := (88, [(8, .long (lN (min (T i mi) (T mi j)))), (0, .ref 16), (1, .int (nI i)), (2, .int (nI mi)), (3, .int (nI (8 * i + 0))), (4, .int (nI (8 * mi + 0))), (5, .long (lN (T i mi))), (7, .int (nI j))], [.int (nI j), .int (nI (8 * i + 0)), .ref 20], (CH p_size p_outs p_rule p_filled p_rankings p_counts p_draw p_fors k_size k_outs k_rule k_filled k_rankings k_counts k_draw k_fors d_size d_outs d_rule d_filled d_rankings d_counts d_draw d_fors (nI n) (nI s) (nI m) w_steps w_fors w_draw w_links bb w_beaters w_distances w_route t_bytes t_length t_next t_ranking t_count l_cells l_sizes s_bytes s_length keeps))) rfl ?_
              refine e_add (8 * i + 0 + j) rfl (by first | rfl | omega) ?_
              refine e_steps 1 (σ' := (91, [(8, .long (lN (min (T i mi) (T mi j)))), (0, .ref 16), (1, .int (nI i)), (2, .int (nI mi)), (3, .int (nI (8 * i + 0))), (4, .int (nI (8 * mi + 0))), (5, .long (lN (T i mi))), (7, .int (nI j))], [.long (lN (min (T i mi) (T mi j))), .int (nI (8 * i + 0 + j)), .ref 20], (CH p_size p_outs p_rule p_filled p_rankings p_counts p_draw p_fors k_size k_outs k_rule k_filled k_rankings k_counts k_draw k_fors d_size d_outs d_rule d_filled d_rankings d_counts d_draw d_fors (nI n) (nI s) (nI m) w_steps w_fors w_draw w_links bb w_beaters w_distances w_route t_bytes t_length t_next t_ranking t_count l_cells l_sizes s_bytes s_length keeps))) rfl ?_
              refine e_las (CH p_size p_outs p_rule p_filled p_rankings p_counts p_draw p_fors k_size k_outs k_rule k_filled k_rankings k_counts k_draw k_fors d_size d_outs d_rule d_filled d_rankings d_counts d_draw d_fors (nI n) (nI s) (nI m) w_steps w_fors w_draw w_links (vp_updL bb (8 * i + 0 + j) (lN (min (T i mi) (T mi j)))) w_beaters w_distances w_route t_bytes t_length t_next t_ranking t_count l_cells l_sizes s_bytes s_length keeps) rfl rfl (by first | assumption | omega | rfl | trivial) (by decide) rfl ?_
              refine e_steps 0 (σ' := (92, [(8, .long (lN (min (T i mi) (T mi j)))), (0, .ref 16), (1, .int (nI i)), (2, .int (nI mi)), (3, .int (nI (8 * i + 0))), (4, .int (nI (8 * mi + 0))), (5, .long (lN (T i mi))), (7, .int (nI j))], [], (CH p_size p_outs p_rule p_filled p_rankings p_counts p_draw p_fors k_size k_outs k_rule k_filled k_rankings k_counts k_draw k_fors d_size d_outs d_rule d_filled d_rankings d_counts d_draw d_fors (nI n) (nI s) (nI m) w_steps w_fors w_draw w_links (vp_updL bb (8 * i + 0 + j) (lN (min (T i mi) (T mi j)))) w_beaters w_distances w_route t_bytes t_length t_next t_ranking t_count l_cells l_sizes s_bytes s_length keeps))) rfl ?_
              refine e_inc (n := 1) rfl rfl rfl (j + 1) (by rfl) [(7, .int (nI (j + 1))), (8, .long (lN (min (T i mi) (T mi j)))), (0, .ref 16), (1, .int (nI i)), (2, .int (nI mi)), (3, .int (nI (8 * i + 0))), (4, .int (nI (8 * mi + 0))), (5, .long (lN (T i mi)))] rfl ?_
              refine e_steps 1 (σ' := (34, [(7, .int (nI (j + 1))), (8, .long (lN (min (T i mi) (T mi j)))), (0, .ref 16), (1, .int (nI i)), (2, .int (nI mi)), (3, .int (nI (8 * i + 0))), (4, .int (nI (8 * mi + 0))), (5, .long (lN (T i mi)))], [], (CH p_size p_outs p_rule p_filled p_rankings p_counts p_draw p_fors k_size k_outs k_rule k_filled k_rankings k_counts k_draw k_fors d_size d_outs d_rule d_filled d_rankings d_counts d_draw d_fors (nI n) (nI s) (nI m) w_steps w_fors w_draw w_links (vp_updL bb (8 * i + 0 + j) (lN (min (T i mi) (T mi j)))) w_beaters w_distances w_route t_bytes t_length t_next t_ranking t_count l_cells l_sizes s_bytes s_length keeps))) rfl ?_
              refine e_sub [2, 3, 4, 5, 6, 7, 0] rfl ?_
              exact ih_34 (j + 1) (vp_updL bb (8 * i + 0 + j) (lN (min (T i mi) (T mi j)))) (by omega) (by first | exact ⟨by omega, z_gt_yes hn8 hi (by omega) (by assumption) (by omega) l2⟩ | exact ⟨by omega, z_gt_no (Or.inr (by omega)) l2⟩ | exact ⟨by omega, z_gt_no (Or.inl (by omega)) l2⟩)
    refine e_sub [4, 5, 6, 3, 2, 1, 0] rfl ?_
    exact loop_34 _ 0 w_best (Nat.lt_succ_self _) (by exact ⟨by omega, fun x hx y hy => by rw [if_neg (by omega)]; exact hT x hx y hy⟩)
  · rw [lg_cmp_eq] at c_26
    rw [pk_lEQ (by omega) (by omega)] at c_26
    replace c_26 := Decidable.not_not.mp c_26
    refine e_steps 0 (σ' := (30, [(5, .long (lN (T i mi))), (4, .int (nI (8 * mi + 0))), (3, .int (nI (8 * i + 0))), (0, .ref 16), (1, .int (nI i)), (2, .int (nI mi))], [], (CH p_size p_outs p_rule p_filled p_rankings p_counts p_draw p_fors k_size k_outs k_rule k_filled k_rankings k_counts k_draw k_fors d_size d_outs d_rule d_filled d_rankings d_counts d_draw d_fors (nI n) (nI s) (nI m) w_steps w_fors w_draw w_links w_best w_beaters w_distances w_route t_bytes t_length t_next t_ranking t_count l_cells l_sizes s_bytes s_length keeps))) rfl ?_
    exact e_ret rfl (trivial) (hR _ _ ⟨w_best, rfl, rfl, (by first | exact z_gt_0 (by omega) hT | exact z_gt_end (hT0 i hi) (by rw [show j = n by omega] at l2; exact l2))⟩)
theorem c_X4_beatersOf (d : Nat) {p_size : Int32} {p_outs : Int32} {p_rule : Int32} {p_filled : Int32} {p_rankings : Nat → Int32} {p_counts : Nat → Int32} {p_draw : Nat → Int32} {p_fors : Nat → Int32} {k_size : Int32} {k_outs : Int32} {k_rule : Int32} {k_filled : Int32} {k_rankings : Nat → Int32} {k_counts : Nat → Int32} {k_draw : Nat → Int32} {k_fors : Nat → Int32} {d_size : Int32} {d_outs : Int32} {d_rule : Int32} {d_filled : Int32} {d_rankings : Nat → Int32} {d_counts : Nat → Int32} {d_draw : Nat → Int32} {d_fors : Nat → Int32} {n : Nat} {s : Nat} {m : Nat} {w_steps : Int32} {w_fors : Nat → Int32} {w_draw : Nat → Int32} {w_links : Nat → Int64} {w_best : Nat → Int64} {w_beaters : Nat → Int32} {w_distances : Nat → Int32} {w_route : Nat → Int32} {t_bytes : Nat → Int32} {t_length : Int32} {t_next : Int32} {t_ranking : Int32} {t_count : Int32} {l_cells : Nat → Int64} {l_sizes : Nat → Int32} {s_bytes : Nat → Int32} {s_length : Int32} {keeps : Int32} {j : Nat} {K : Nat → Nat → Nat} (hn2 : 2 ≤ n) (hn8 : n ≤ 8) (hs2 : s < 2 ^ n) (hm : m < 4) (hK : ∀ i, i < n → ∀ j, j < n → w_best (8 * i + j) = lN (K i j) ∧ K i j < 2 ^ 53) (hj : j < n) : z_CAL (d + 2) 51 [.ref 16, .int (nI j)] (CH p_size p_outs p_rule p_filled p_rankings p_counts p_draw p_fors k_size k_outs k_rule k_filled k_rankings k_counts k_draw k_fors d_size d_outs d_rule d_filled d_rankings d_counts d_draw d_fors (nI n) (nI s) (nI m) w_steps w_fors w_draw w_links w_best w_beaters w_distances w_route t_bytes t_length t_next t_ranking t_count l_cells l_sizes s_bytes s_length keeps) (fun r h2 => r = some (.int (nI (z_set n (fun i => z_btb K i j)))) ∧ h2 = (CH p_size p_outs p_rule p_filled p_rankings p_counts p_draw p_fors k_size k_outs k_rule k_filled k_rankings k_counts k_draw k_fors d_size d_outs d_rule d_filled d_rankings d_counts d_draw d_fors (nI n) (nI s) (nI m) w_steps w_fors w_draw w_links w_best w_beaters w_distances w_route t_bytes t_length t_next t_ranking t_count l_cells l_sizes s_bytes s_length keeps)) := by
  refine e_of2 (q := zmX4_beatersOf) rfl rfl (fun R hR => ?_)
  have hp8 := z_p2 hn8; have hs : s < 256 := (by omega)
  refine e_steps 4 (σ' := (4, [(3, .int (nI 0)), (2, .int (nI 0)), (0, .ref 16), (1, .int (nI j))], [], (CH p_size p_outs p_rule p_filled p_rankings p_counts p_draw p_fors k_size k_outs k_rule k_filled k_rankings k_counts k_draw k_fors d_size d_outs d_rule d_filled d_rankings d_counts d_draw d_fors (nI n) (nI s) (nI m) w_steps w_fors w_draw w_links w_best w_beaters w_distances w_route t_bytes t_length t_next t_ranking t_count l_cells l_sizes s_bytes s_length keeps))) rfl ?_
  have loop_4 : ∀ (z_4 : Nat) (st : Nat) (i : Nat), n - i < z_4 → (i ≤ n ∧ st = z_set i (fun i => z_btb K i j)) → z_EV (d + 1) zmX4_beatersOf R (4, [(0, .ref 16), (1, .int (nI j)), (2, .int (nI st)), (3, .int (nI i))], [], (CH p_size p_outs p_rule p_filled p_rankings p_counts p_draw p_fors k_size k_outs k_rule k_filled k_rankings k_counts k_draw k_fors d_size d_outs d_rule d_filled d_rankings d_counts d_draw d_fors (nI n) (nI s) (nI m) w_steps w_fors w_draw w_links w_best w_beaters w_distances w_route t_bytes t_length t_next t_ranking t_count l_cells l_sizes s_bytes s_length keeps)) := by
    intro z_4
    induction z_4 with
    | zero => intro st i hm_4 _; exact absurd hm_4 (Nat.not_lt_zero _)
    | succ z_4 ih_4 =>
      intro st i hm_4 hi_4
      obtain ⟨l1, l2⟩ := hi_4
      refine e_steps 3 (σ' := (9, [(0, .ref 16), (1, .int (nI j)), (2, .int (nI st)), (3, .int (nI i))], [.int (nI n), .int (nI i)], (CH p_size p_outs p_rule p_filled p_rankings p_counts p_draw p_fors k_size k_outs k_rule k_filled k_rankings k_counts k_draw k_fors d_size d_outs d_rule d_filled d_rankings d_counts d_draw d_fors (nI n) (nI s) (nI m) w_steps w_fors w_draw w_links w_best w_beaters w_distances w_route t_bytes t_length t_next t_ranking t_count l_cells l_sizes s_bytes s_length keeps))) rfl ?_
      refine e_if (c := nI n ≤ nI i) rfl (fun c_9 => ?_) (fun c_9 => ?_)
      · skip
        rw [nI_leI (by omega) (by omega)] at c_9
        refine e_steps 1 (σ' := (49, [(0, .ref 16), (1, .int (nI j)), (2, .int (nI st)), (3, .int (nI i))], [.int (nI st)], (CH p_size p_outs p_rule p_filled p_rankings p_counts p_draw p_fors k_size k_outs k_rule k_filled k_rankings k_counts k_draw k_fors d_size d_outs d_rule d_filled d_rankings d_counts d_draw d_fors (nI n) (nI s) (nI m) w_steps w_fors w_draw w_links w_best w_beaters w_distances w_route t_bytes t_length t_next t_ranking t_count l_cells l_sizes s_bytes s_length keeps))) rfl ?_
        exact e_ret rfl (trivial) (hR _ _ ⟨(by rw [l2, show i = n by omega]), rfl⟩)
      · skip
        rw [nI_leI (by omega) (by omega)] at c_9
        refine e_steps 4 (σ' := (18, [(0, .ref 16), (1, .int (nI j)), (2, .int (nI st)), (3, .int (nI i))], [.int (nI j), .int (nI i), .ref 20], (CH p_size p_outs p_rule p_filled p_rankings p_counts p_draw p_fors k_size k_outs k_rule k_filled k_rankings k_counts k_draw k_fors d_size d_outs d_rule d_filled d_rankings d_counts d_draw d_fors (nI n) (nI s) (nI m) w_steps w_fors w_draw w_links w_best w_beaters w_distances w_route t_bytes t_length t_next t_ranking t_count l_cells l_sizes s_bytes s_length keeps))) rfl ?_
        refine e_call (y := 127) (av := [.int (nI i), .int (nI j)]) (rest := [.ref 20]) rfl (c_X5_cell (d + 0) ) (fun r_18 h_18 p_18 => ?_)
        obtain ⟨rfl, rfl⟩ := p_18
        refine e_steps 0 (σ' := (21, [(0, .ref 16), (1, .int (nI j)), (2, .int (nI st)), (3, .int (nI i))], [.int (nI (8 * i + j)), .ref 20], (CH p_size p_outs p_rule p_filled p_rankings p_counts p_draw p_fors k_size k_outs k_rule k_filled k_rankings k_counts k_draw k_fors d_size d_outs d_rule d_filled d_rankings d_counts d_draw d_fors (nI n) (nI s) (nI m) w_steps w_fors w_draw w_links w_best w_beaters w_distances w_route t_bytes t_length t_next t_ranking t_count l_cells l_sizes s_bytes s_length keeps))) rfl ?_
        refine e_lal (lN (K i j)) rfl rfl (by first | assumption | omega | rfl | trivial) (by decide) ((hK _ (by omega) _ (by omega)).1) ?_
        have hv_21 := (hK i (by omega) j (by omega)).2
        refine e_steps 4 (σ' := (28, [(0, .ref 16), (1, .int (nI j)), (2, .int (nI st)), (3, .int (nI i))], [.int (nI i), .int (nI j), .ref 20, .long (lN (K i j))], (CH p_size p_outs p_rule p_filled p_rankings p_counts p_draw p_fors k_size k_outs k_rule k_filled k_rankings k_counts k_draw k_fors d_size d_outs d_rule d_filled d_rankings d_counts d_draw d_fors (nI n) (nI s) (nI m) w_steps w_fors w_draw w_links w_best w_beaters w_distances w_route t_bytes t_length t_next t_ranking t_count l_cells l_sizes s_bytes s_length keeps))) rfl ?_
        refine e_call (y := 127) (av := [.int (nI j), .int (nI i)]) (rest := [.ref 20, .long (lN (K i j))]) rfl (c_X5_cell (d + 0) ) (fun r_28 h_28 p_28 => ?_)
        obtain ⟨rfl, rfl⟩ := p_28
        refine e_steps 0 (σ' := (31, [(0, .ref 16), (1, .int (nI j)), (2, .int (nI st)), (3, .int (nI i))], [.int (nI (8 * j + i)), .ref 20, .long (lN (K i j))], (CH p_size p_outs p_rule p_filled p_rankings p_counts p_draw p_fors k_size k_outs k_rule k_filled k_rankings k_counts k_draw k_fors d_size d_outs d_rule d_filled d_rankings d_counts d_draw d_fors (nI n) (nI s) (nI m) w_steps w_fors w_draw w_links w_best w_beaters w_distances w_route t_bytes t_length t_next t_ranking t_count l_cells l_sizes s_bytes s_length keeps))) rfl ?_
        refine e_lal (lN (K j i)) rfl rfl (by first | assumption | omega | rfl | trivial) (by decide) ((hK _ (by omega) _ (by omega)).1) ?_
        have hv_31 := (hK j (by omega) i (by omega)).2
        refine e_steps 1 (σ' := (33, [(0, .ref 16), (1, .int (nI j)), (2, .int (nI st)), (3, .int (nI i))], [.int ((lg_cmp (lN (K i j)) (lN (K j i))))], (CH p_size p_outs p_rule p_filled p_rankings p_counts p_draw p_fors k_size k_outs k_rule k_filled k_rankings k_counts k_draw k_fors d_size d_outs d_rule d_filled d_rankings d_counts d_draw d_fors (nI n) (nI s) (nI m) w_steps w_fors w_draw w_links w_best w_beaters w_distances w_route t_bytes t_length t_next t_ranking t_count l_cells l_sizes s_bytes s_length keeps))) rfl ?_
        refine e_if (c := lg_cmp (lN (K i j)) (lN (K j i)) ≤ 0) rfl (fun c_32 => ?_) (fun c_32 => ?_)
        · rw [lg_cmp_le] at c_32
          rw [pk_lLE (by omega) (by omega)] at c_32
          refine e_steps 0 (σ' := (42, [(0, .ref 16), (1, .int (nI j)), (2, .int (nI st)), (3, .int (nI i))], [], (CH p_size p_outs p_rule p_filled p_rankings p_counts p_draw p_fors k_size k_outs k_rule k_filled k_rankings k_counts k_draw k_fors d_size d_outs d_rule d_filled d_rankings d_counts d_draw d_fors (nI n) (nI s) (nI m) w_steps w_fors w_draw w_links w_best w_beaters w_distances w_route t_bytes t_length t_next t_ranking t_count l_cells l_sizes s_bytes s_length keeps))) rfl ?_
          refine e_inc (n := 1) rfl rfl rfl (i + 1) (by rfl) [(3, .int (nI (i + 1))), (0, .ref 16), (1, .int (nI j)), (2, .int (nI st))] rfl ?_
          refine e_steps 1 (σ' := (4, [(3, .int (nI (i + 1))), (0, .ref 16), (1, .int (nI j)), (2, .int (nI st))], [], (CH p_size p_outs p_rule p_filled p_rankings p_counts p_draw p_fors k_size k_outs k_rule k_filled k_rankings k_counts k_draw k_fors d_size d_outs d_rule d_filled d_rankings d_counts d_draw d_fors (nI n) (nI s) (nI m) w_steps w_fors w_draw w_links w_best w_beaters w_distances w_route t_bytes t_length t_next t_ranking t_count l_cells l_sizes s_bytes s_length keeps))) rfl ?_
          refine e_sub [1, 2, 3, 0] rfl ?_
          exact ih_4 st (i + 1) (by omega) (by first | exact ⟨by omega, z_set_T l2 (decide_eq_true ⟨fun e => by subst e; omega, by omega⟩)⟩ | exact ⟨by omega, z_set_F0 l2 (decide_eq_false (fun q => by have := q.2; omega))⟩)
        · rw [lg_cmp_le] at c_32
          rw [pk_lLE (by omega) (by omega)] at c_32
          refine e_steps 3 (σ' := (39, [(0, .ref 16), (1, .int (nI j)), (2, .int (nI st)), (3, .int (nI i))], [.int (nI i), .int (nI 1), .int (nI st)], (CH p_size p_outs p_rule p_filled p_rankings p_counts p_draw p_fors k_size k_outs k_rule k_filled k_rankings k_counts k_draw k_fors d_size d_outs d_rule d_filled d_rankings d_counts d_draw d_fors (nI n) (nI s) (nI m) w_steps w_fors w_draw w_links w_best w_beaters w_distances w_route t_bytes t_length t_next t_ranking t_count l_cells l_sizes s_bytes s_length keeps))) rfl ?_
          refine e_shl rfl (by first | assumption | omega | rfl | trivial) ?_
          refine e_steps 0 (σ' := (40, [(0, .ref 16), (1, .int (nI j)), (2, .int (nI st)), (3, .int (nI i))], [.int (nI (2 ^ i)), .int (nI st)], (CH p_size p_outs p_rule p_filled p_rankings p_counts p_draw p_fors k_size k_outs k_rule k_filled k_rankings k_counts k_draw k_fors d_size d_outs d_rule d_filled d_rankings d_counts d_draw d_fors (nI n) (nI s) (nI m) w_steps w_fors w_draw w_links w_best w_beaters w_distances w_route t_bytes t_length t_next t_ranking t_count l_cells l_sizes s_bytes s_length keeps))) rfl ?_
          refine e_or (st ||| (2 ^ i)) rfl (by first | rfl | decide) ?_
          refine e_steps 1 (σ' := (42, [(2, .int (nI (st ||| (2 ^ i)))), (0, .ref 16), (1, .int (nI j)), (3, .int (nI i))], [], (CH p_size p_outs p_rule p_filled p_rankings p_counts p_draw p_fors k_size k_outs k_rule k_filled k_rankings k_counts k_draw k_fors d_size d_outs d_rule d_filled d_rankings d_counts d_draw d_fors (nI n) (nI s) (nI m) w_steps w_fors w_draw w_links w_best w_beaters w_distances w_route t_bytes t_length t_next t_ranking t_count l_cells l_sizes s_bytes s_length keeps))) rfl ?_
          refine e_inc (n := 1) rfl rfl rfl (i + 1) (by rfl) [(3, .int (nI (i + 1))), (2, .int (nI (st ||| (2 ^ i)))), (0, .ref 16), (1, .int (nI j))] rfl ?_
          refine e_steps 1 (σ' := (4, [(3, .int (nI (i + 1))), (2, .int (nI (st ||| (2 ^ i)))), (0, .ref 16), (1, .int (nI j))], [], (CH p_size p_outs p_rule p_filled p_rankings p_counts p_draw p_fors k_size k_outs k_rule k_filled k_rankings k_counts k_draw k_fors d_size d_outs d_rule d_filled d_rankings d_counts d_draw d_fors (nI n) (nI s) (nI m) w_steps w_fors w_draw w_links w_best w_beaters w_distances w_route t_bytes t_length t_next t_ranking t_count l_cells l_sizes s_bytes s_length keeps))) rfl ?_
          refine e_sub [2, 3, 1, 0] rfl ?_
          exact ih_4 (st ||| (2 ^ i)) (i + 1) (by omega) (by first | exact ⟨by omega, z_set_T l2 (decide_eq_true ⟨fun e => by subst e; omega, by omega⟩)⟩ | exact ⟨by omega, z_set_F0 l2 (decide_eq_false (fun q => by have := q.2; omega))⟩)
  refine e_sub [2, 3, 1, 0] rfl ?_
  exact loop_4 _ 0 0 (Nat.lt_succ_self _) (by exact ⟨by omega, rfl⟩)
theorem c_X4_reckon (d : Nat) {p_size : Int32} {p_outs : Int32} {p_rule : Int32} {p_filled : Int32} {p_rankings : Nat → Int32} {p_counts : Nat → Int32} {p_draw : Nat → Int32} {p_fors : Nat → Int32} {k_size : Int32} {k_outs : Int32} {k_rule : Int32} {k_filled : Int32} {k_rankings : Nat → Int32} {k_counts : Nat → Int32} {k_draw : Nat → Int32} {k_fors : Nat → Int32} {d_size : Int32} {d_outs : Int32} {d_rule : Int32} {d_filled : Int32} {d_rankings : Nat → Int32} {d_counts : Nat → Int32} {d_draw : Nat → Int32} {d_fors : Nat → Int32} {n : Nat} {s : Nat} {m : Nat} {w_steps : Int32} {w_fors : Nat → Int32} {w_draw : Nat → Int32} {w_links : Nat → Int64} {w_best : Nat → Int64} {w_beaters : Nat → Int32} {w_distances : Nat → Int32} {w_route : Nat → Int32} {t_bytes : Nat → Int32} {t_length : Int32} {t_next : Int32} {t_ranking : Int32} {t_count : Int32} {l_cells : Nat → Int64} {l_sizes : Nat → Int32} {s_bytes : Nat → Int32} {s_length : Int32} {keeps : Int32} {F : Nat → Nat → Nat} (hn2 : 2 ≤ n) (hn8 : n ≤ 8) (hs2 : s < 2 ^ n) (hm : m < 4) (hF : z_FR w_fors n F) : z_CAL (d + 3) 49 [.ref 16] (CH p_size p_outs p_rule p_filled p_rankings p_counts p_draw p_fors k_size k_outs k_rule k_filled k_rankings k_counts k_draw k_fors d_size d_outs d_rule d_filled d_rankings d_counts d_draw d_fors (nI n) (nI s) (nI m) w_steps w_fors w_draw w_links w_best w_beaters w_distances w_route t_bytes t_length t_next t_ranking t_count l_cells l_sizes s_bytes s_length keeps) (fun r h2 => ∃ (li2 : Nat → Int64) (be2 : Nat → Int64) (bt2 : Nat → Int32), r = none ∧ h2 = (CH p_size p_outs p_rule p_filled p_rankings p_counts p_draw p_fors k_size k_outs k_rule k_filled k_rankings k_counts k_draw k_fors d_size d_outs d_rule d_filled d_rankings d_counts d_draw d_fors (nI n) (nI s) (nI m) w_steps w_fors w_draw li2 be2 bt2 w_distances w_route t_bytes t_length t_next t_ranking t_count l_cells l_sizes s_bytes s_length keeps) ∧ (∃ K, z_CW m s F n li2 be2 bt2 K)) := by
  refine e_of2 (q := zmX4_reckon) rfl rfl (fun R hR => ?_)
  have hp8 := z_p2 hn8; have hs : s < 256 := (by omega)
  refine e_steps 2 (σ' := (2, [(1, .int (nI 0)), (0, .ref 16)], [], (CH p_size p_outs p_rule p_filled p_rankings p_counts p_draw p_fors k_size k_outs k_rule k_filled k_rankings k_counts k_draw k_fors d_size d_outs d_rule d_filled d_rankings d_counts d_draw d_fors (nI n) (nI s) (nI m) w_steps w_fors w_draw w_links w_best w_beaters w_distances w_route t_bytes t_length t_next t_ranking t_count l_cells l_sizes s_bytes s_length keeps))) rfl ?_
  have loop_2 : ∀ (z_2 : Nat) (i : Nat) (li : Nat → Int64) (be : Nat → Int64), n - i < z_2 → (i ≤ n ∧ (∀ x, x < n → ∀ y, y < n → x < i → li (8 * x + y) = lN (z_LS m s F x y)) ∧ (∀ x, x < n → ∀ y, y < n → x < i → be (8 * x + y) = lN (z_LS m s F x y))) → z_EV (d + 2) zmX4_reckon R (2, [(0, .ref 16), (1, .int (nI i))], [], (CH p_size p_outs p_rule p_filled p_rankings p_counts p_draw p_fors k_size k_outs k_rule k_filled k_rankings k_counts k_draw k_fors d_size d_outs d_rule d_filled d_rankings d_counts d_draw d_fors (nI n) (nI s) (nI m) w_steps w_fors w_draw li be w_beaters w_distances w_route t_bytes t_length t_next t_ranking t_count l_cells l_sizes s_bytes s_length keeps)) := by
    intro z_2
    induction z_2 with
    | zero => intro i li be hm_2 _; exact absurd hm_2 (Nat.not_lt_zero _)
    | succ z_2 ih_2 =>
      intro i li be hm_2 hi_2
      obtain ⟨l1, l2, l3⟩ := hi_2
      refine e_steps 3 (σ' := (7, [(0, .ref 16), (1, .int (nI i))], [.int (nI n), .int (nI i)], (CH p_size p_outs p_rule p_filled p_rankings p_counts p_draw p_fors k_size k_outs k_rule k_filled k_rankings k_counts k_draw k_fors d_size d_outs d_rule d_filled d_rankings d_counts d_draw d_fors (nI n) (nI s) (nI m) w_steps w_fors w_draw li be w_beaters w_distances w_route t_bytes t_length t_next t_ranking t_count l_cells l_sizes s_bytes s_length keeps))) rfl ?_
      refine e_if (c := nI n ≤ nI i) rfl (fun c_7 => ?_) (fun c_7 => ?_)
      · skip
        rw [nI_leI (by omega) (by omega)] at c_7
        refine e_steps 2 (σ' := (63, [(1, .int (nI 0)), (0, .ref 16)], [], (CH p_size p_outs p_rule p_filled p_rankings p_counts p_draw p_fors k_size k_outs k_rule k_filled k_rankings k_counts k_draw k_fors d_size d_outs d_rule d_filled d_rankings d_counts d_draw d_fors (nI n) (nI s) (nI m) w_steps w_fors w_draw li be w_beaters w_distances w_route t_bytes t_length t_next t_ranking t_count l_cells l_sizes s_bytes s_length keeps))) rfl ?_
        have loop_63 : ∀ (z_63 : Nat) (mi : Nat) (be : Nat → Int64) (Bt : Nat → Nat → Nat), n - mi < z_63 → (mi ≤ n ∧ (∀ x, x < n → ∀ y, y < n → be (8 * x + y) = lN (Bt x y)) ∧ z_fwI (z_LS m s F) n mi Bt) → z_EV (d + 2) zmX4_reckon R (63, [(0, .ref 16), (1, .int (nI mi))], [], (CH p_size p_outs p_rule p_filled p_rankings p_counts p_draw p_fors k_size k_outs k_rule k_filled k_rankings k_counts k_draw k_fors d_size d_outs d_rule d_filled d_rankings d_counts d_draw d_fors (nI n) (nI s) (nI m) w_steps w_fors w_draw li be w_beaters w_distances w_route t_bytes t_length t_next t_ranking t_count l_cells l_sizes s_bytes s_length keeps)) := by
          intro z_63
          induction z_63 with
          | zero => intro mi be Bt hm_63 _; exact absurd hm_63 (Nat.not_lt_zero _)
          | succ z_63 ih_63 =>
            intro mi be Bt hm_63 hi_63
            obtain ⟨p1, p2, p3⟩ := hi_63
            refine e_steps 3 (σ' := (68, [(0, .ref 16), (1, .int (nI mi))], [.int (nI n), .int (nI mi)], (CH p_size p_outs p_rule p_filled p_rankings p_counts p_draw p_fors k_size k_outs k_rule k_filled k_rankings k_counts k_draw k_fors d_size d_outs d_rule d_filled d_rankings d_counts d_draw d_fors (nI n) (nI s) (nI m) w_steps w_fors w_draw li be w_beaters w_distances w_route t_bytes t_length t_next t_ranking t_count l_cells l_sizes s_bytes s_length keeps))) rfl ?_
            refine e_if (c := nI n ≤ nI mi) rfl (fun c_68 => ?_) (fun c_68 => ?_)
            · skip
              rw [nI_leI (by omega) (by omega)] at c_68
              refine e_steps 2 (σ' := (101, [(1, .int (nI 0)), (0, .ref 16)], [], (CH p_size p_outs p_rule p_filled p_rankings p_counts p_draw p_fors k_size k_outs k_rule k_filled k_rankings k_counts k_draw k_fors d_size d_outs d_rule d_filled d_rankings d_counts d_draw d_fors (nI n) (nI s) (nI m) w_steps w_fors w_draw li be w_beaters w_distances w_route t_bytes t_length t_next t_ranking t_count l_cells l_sizes s_bytes s_length keeps))) rfl ?_
              have loop_101 : ∀ (z_101 : Nat) (c : Nat) (bt : Nat → Int32), n - c < z_101 → (c ≤ n ∧ ∀ x, x < c → bt x = nI (z_set n (fun i => z_btb Bt i x))) → z_EV (d + 2) zmX4_reckon R (101, [(0, .ref 16), (1, .int (nI c))], [], (CH p_size p_outs p_rule p_filled p_rankings p_counts p_draw p_fors k_size k_outs k_rule k_filled k_rankings k_counts k_draw k_fors d_size d_outs d_rule d_filled d_rankings d_counts d_draw d_fors (nI n) (nI s) (nI m) w_steps w_fors w_draw li be bt w_distances w_route t_bytes t_length t_next t_ranking t_count l_cells l_sizes s_bytes s_length keeps)) := by
                intro z_101
                induction z_101 with
                | zero => intro c bt hm_101 _; exact absurd hm_101 (Nat.not_lt_zero _)
                | succ z_101 ih_101 =>
                  intro c bt hm_101 hi_101
                  obtain ⟨r1, r2⟩ := hi_101
                  refine e_steps 3 (σ' := (106, [(0, .ref 16), (1, .int (nI c))], [.int (nI n), .int (nI c)], (CH p_size p_outs p_rule p_filled p_rankings p_counts p_draw p_fors k_size k_outs k_rule k_filled k_rankings k_counts k_draw k_fors d_size d_outs d_rule d_filled d_rankings d_counts d_draw d_fors (nI n) (nI s) (nI m) w_steps w_fors w_draw li be bt w_distances w_route t_bytes t_length t_next t_ranking t_count l_cells l_sizes s_bytes s_length keeps))) rfl ?_
                  refine e_if (c := nI n ≤ nI c) rfl (fun c_106 => ?_) (fun c_106 => ?_)
                  · skip
                    rw [nI_leI (by omega) (by omega)] at c_106
                    refine e_steps 0 (σ' := (126, [(0, .ref 16), (1, .int (nI c))], [], (CH p_size p_outs p_rule p_filled p_rankings p_counts p_draw p_fors k_size k_outs k_rule k_filled k_rankings k_counts k_draw k_fors d_size d_outs d_rule d_filled d_rankings d_counts d_draw d_fors (nI n) (nI s) (nI m) w_steps w_fors w_draw li be bt w_distances w_route t_bytes t_length t_next t_ranking t_count l_cells l_sizes s_bytes s_length keeps))) rfl ?_
                    exact e_ret rfl (trivial) (hR _ _ ⟨li, be, bt, rfl, rfl, (by exact ⟨Bt, z_fw_end (by rw [show mi = n by omega] at p3; exact p3), fun i hi j hj => ⟨l2 i hi j hj (by omega), z_LS_le hF hi hj⟩, fun i hi j hj => ⟨p2 i hi j hj, p3.2.2.2.2.2 i hi j hj⟩, fun j hj => r2 j (by omega), p3.2.2.2.2.1⟩)⟩)
                  · skip
                    rw [nI_leI (by omega) (by omega)] at c_106
                    refine e_steps 5 (σ' := (116, [(0, .ref 16), (1, .int (nI c))], [.int (nI c), .ref 16, .int (nI c), .ref 21], (CH p_size p_outs p_rule p_filled p_rankings p_counts p_draw p_fors k_size k_outs k_rule k_filled k_rankings k_counts k_draw k_fors d_size d_outs d_rule d_filled d_rankings d_counts d_draw d_fors (nI n) (nI s) (nI m) w_steps w_fors w_draw li be bt w_distances w_route t_bytes t_length t_next t_ranking t_count l_cells l_sizes s_bytes s_length keeps))) rfl ?_
                    refine e_call (y := 51) (av := [.ref 16, .int (nI c)]) (rest := [.int (nI c), .ref 21]) rfl (c_X4_beatersOf (d + 0) (n := n) (s := s) (m := m) (K := Bt) (by first | assumption | omega | rfl | trivial) (by first | assumption | omega | rfl | trivial) (by first | assumption | omega | rfl | trivial) (by first | assumption | omega | rfl | trivial) (by exact fun i hi j hj => ⟨p2 i hi j hj, p3.2.2.2.2.2 i hi j hj⟩) (by first | assumption | omega | rfl | trivial)) (fun r_116 h_116 p_116 => ?_)
                    obtain ⟨rfl, rfl⟩ := p_116
                    refine e_steps 0 (σ' := (119, [(0, .ref 16), (1, .int (nI c))], [.int (nI (z_set n (fun i => z_btb Bt i c))), .int (nI c), .ref 21], (CH p_size p_outs p_rule p_filled p_rankings p_counts p_draw p_fors k_size k_outs k_rule k_filled k_rankings k_counts k_draw k_fors d_size d_outs d_rule d_filled d_rankings d_counts d_draw d_fors (nI n) (nI s) (nI m) w_steps w_fors w_draw li be bt w_distances w_route t_bytes t_length t_next t_ranking t_count l_cells l_sizes s_bytes s_length keeps))) rfl ?_
                    refine e_ias (CH p_size p_outs p_rule p_filled p_rankings p_counts p_draw p_fors k_size k_outs k_rule k_filled k_rankings k_counts k_draw k_fors d_size d_outs d_rule d_filled d_rankings d_counts d_draw d_fors (nI n) (nI s) (nI m) w_steps w_fors w_draw li be (upd bt c (nI (z_set n (fun i => z_btb Bt i c)))) w_distances w_route t_bytes t_length t_next t_ranking t_count l_cells l_sizes s_bytes s_length keeps) rfl rfl (by first | assumption | omega | rfl | trivial) (by decide) rfl ?_
                    refine e_steps 0 (σ' := (120, [(0, .ref 16), (1, .int (nI c))], [], (CH p_size p_outs p_rule p_filled p_rankings p_counts p_draw p_fors k_size k_outs k_rule k_filled k_rankings k_counts k_draw k_fors d_size d_outs d_rule d_filled d_rankings d_counts d_draw d_fors (nI n) (nI s) (nI m) w_steps w_fors w_draw li be (upd bt c (nI (z_set n (fun i => z_btb Bt i c)))) w_distances w_route t_bytes t_length t_next t_ranking t_count l_cells l_sizes s_bytes s_length keeps))) rfl ?_
                    refine e_inc (n := 1) rfl rfl rfl (c + 1) (by rfl) [(1, .int (nI (c + 1))), (0, .ref 16)] rfl ?_
                    refine e_steps 1 (σ' := (101, [(1, .int (nI (c + 1))), (0, .ref 16)], [], (CH p_size p_outs p_rule p_filled p_rankings p_counts p_draw p_fors k_size k_outs k_rule k_filled k_rankings k_counts k_draw k_fors d_size d_outs d_rule d_filled d_rankings d_counts d_draw d_fors (nI n) (nI s) (nI m) w_steps w_fors w_draw li be (upd bt c (nI (z_set n (fun i => z_btb Bt i c)))) w_distances w_route t_bytes t_length t_next t_ranking t_count l_cells l_sizes s_bytes s_length keeps))) rfl ?_
                    refine e_sub [1, 0] rfl ?_
                    exact ih_101 (c + 1) (upd bt c (nI (z_set n (fun i => z_btb Bt i c)))) (by omega) (by exact ⟨by omega, fun x hx => by unfold upd; by_cases e : x = c; rw [if_pos e, e]; rw [if_neg e]; exact r2 x (by omega)⟩)
              refine e_sub [1, 0] rfl ?_
              exact loop_101 _ 0 w_beaters (Nat.lt_succ_self _) (by exact ⟨by omega, fun x hx => absurd hx (Nat.not_lt_zero x)⟩)
            · skip
              rw [nI_leI (by omega) (by omega)] at c_68
              refine e_steps 2 (σ' := (73, [(2, .int (nI 0)), (0, .ref 16), (1, .int (nI mi))], [], (CH p_size p_outs p_rule p_filled p_rankings p_counts p_draw p_fors k_size k_outs k_rule k_filled k_rankings k_counts k_draw k_fors d_size d_outs d_rule d_filled d_rankings d_counts d_draw d_fors (nI n) (nI s) (nI m) w_steps w_fors w_draw li be w_beaters w_distances w_route t_bytes t_length t_next t_ranking t_count l_cells l_sizes s_bytes s_length keeps))) rfl ?_
              have loop_73 : ∀ (z_73 : Nat) (i2 : Nat) (bi : Nat → Int64), n - i2 < z_73 → (i2 ≤ n ∧ ∀ x, x < n → ∀ y, y < n → bi (8 * x + y) = lN (z_fwm Bt mi i2 x y)) → z_EV (d + 2) zmX4_reckon R (73, [(0, .ref 16), (1, .int (nI mi)), (2, .int (nI i2))], [], (CH p_size p_outs p_rule p_filled p_rankings p_counts p_draw p_fors k_size k_outs k_rule k_filled k_rankings k_counts k_draw k_fors d_size d_outs d_rule d_filled d_rankings d_counts d_draw d_fors (nI n) (nI s) (nI m) w_steps w_fors w_draw li bi w_beaters w_distances w_route t_bytes t_length t_next t_ranking t_count l_cells l_sizes s_bytes s_length keeps)) := by
                intro z_73
                induction z_73 with
                | zero => intro i2 bi hm_73 _; exact absurd hm_73 (Nat.not_lt_zero _)
                | succ z_73 ih_73 =>
                  intro i2 bi hm_73 hi_73
                  obtain ⟨q1, q2⟩ := hi_73
                  refine e_steps 3 (σ' := (78, [(0, .ref 16), (1, .int (nI mi)), (2, .int (nI i2))], [.int (nI n), .int (nI i2)], (CH p_size p_outs p_rule p_filled p_rankings p_counts p_draw p_fors k_size k_outs k_rule k_filled k_rankings k_counts k_draw k_fors d_size d_outs d_rule d_filled d_rankings d_counts d_draw d_fors (nI n) (nI s) (nI m) w_steps w_fors w_draw li bi w_beaters w_distances w_route t_bytes t_length t_next t_ranking t_count l_cells l_sizes s_bytes s_length keeps))) rfl ?_
                  refine e_if (c := nI n ≤ nI i2) rfl (fun c_78 => ?_) (fun c_78 => ?_)
                  · skip
                    rw [nI_leI (by omega) (by omega)] at c_78
                    refine e_steps 0 (σ' := (93, [(0, .ref 16), (1, .int (nI mi)), (2, .int (nI i2))], [], (CH p_size p_outs p_rule p_filled p_rankings p_counts p_draw p_fors k_size k_outs k_rule k_filled k_rankings k_counts k_draw k_fors d_size d_outs d_rule d_filled d_rankings d_counts d_draw d_fors (nI n) (nI s) (nI m) w_steps w_fors w_draw li bi w_beaters w_distances w_route t_bytes t_length t_next t_ranking t_count l_cells l_sizes s_bytes s_length keeps))) rfl ?_
                    refine e_inc (n := 1) rfl rfl rfl (mi + 1) (by rfl) [(1, .int (nI (mi + 1))), (0, .ref 16), (2, .int (nI i2))] rfl ?_
                    refine e_steps 1 (σ' := (63, [(1, .int (nI (mi + 1))), (0, .ref 16), (2, .int (nI i2))], [], (CH p_size p_outs p_rule p_filled p_rankings p_counts p_draw p_fors k_size k_outs k_rule k_filled k_rankings k_counts k_draw k_fors d_size d_outs d_rule d_filled d_rankings d_counts d_draw d_fors (nI n) (nI s) (nI m) w_steps w_fors w_draw li bi w_beaters w_distances w_route t_bytes t_length t_next t_ranking t_count l_cells l_sizes s_bytes s_length keeps))) rfl ?_
                    refine e_sub [1, 0] rfl ?_
                    exact ih_63 (mi + 1) bi ((z_fw Bt mi)) (by omega) (by exact ⟨by omega, fun x hx y hy => by rw [q2 x hx y hy]; show lN (if x < i2 then _ else _) = _; rw [if_pos (by omega)], z_fw_step p3 (by omega)⟩)
                  · skip
                    rw [nI_leI (by omega) (by omega)] at c_78
                    refine e_steps 3 (σ' := (84, [(0, .ref 16), (1, .int (nI mi)), (2, .int (nI i2))], [.int (nI mi), .int (nI i2), .ref 16], (CH p_size p_outs p_rule p_filled p_rankings p_counts p_draw p_fors k_size k_outs k_rule k_filled k_rankings k_counts k_draw k_fors d_size d_outs d_rule d_filled d_rankings d_counts d_draw d_fors (nI n) (nI s) (nI m) w_steps w_fors w_draw li bi w_beaters w_distances w_route t_bytes t_length t_next t_ranking t_count l_cells l_sizes s_bytes s_length keeps))) rfl ?_
                    refine e_call (y := 50) (av := [.ref 16, .int (nI i2), .int (nI mi)]) (rest := []) rfl (c_X4_goThrough (d + 0) (n := n) (s := s) (m := m) (T := (z_fwm Bt mi i2)) (by first | assumption | omega | rfl | trivial) (by first | assumption | omega | rfl | trivial) (by first | assumption | omega | rfl | trivial) (by first | assumption | omega | rfl | trivial) (by exact q2) (by exact fun x hx y hy => z_fwm_bd p3 (by omega) hx hy) (by exact fun x hx => z_fwm_0 p3 (by omega) hx) (by first | assumption | omega | rfl | trivial) (by first | assumption | omega | rfl | trivial)) (fun r_84 h_84 p_84 => ?_)
                    obtain ⟨w_best_84, rfl, rfl, q_84⟩ := p_84
                    refine e_steps 0 (σ' := (87, [(0, .ref 16), (1, .int (nI mi)), (2, .int (nI i2))], [], (CH p_size p_outs p_rule p_filled p_rankings p_counts p_draw p_fors k_size k_outs k_rule k_filled k_rankings k_counts k_draw k_fors d_size d_outs d_rule d_filled d_rankings d_counts d_draw d_fors (nI n) (nI s) (nI m) w_steps w_fors w_draw li w_best_84 w_beaters w_distances w_route t_bytes t_length t_next t_ranking t_count l_cells l_sizes s_bytes s_length keeps))) rfl ?_
                    refine e_inc (n := 1) rfl rfl rfl (i2 + 1) (by rfl) [(2, .int (nI (i2 + 1))), (0, .ref 16), (1, .int (nI mi))] rfl ?_
                    refine e_steps 1 (σ' := (73, [(2, .int (nI (i2 + 1))), (0, .ref 16), (1, .int (nI mi))], [], (CH p_size p_outs p_rule p_filled p_rankings p_counts p_draw p_fors k_size k_outs k_rule k_filled k_rankings k_counts k_draw k_fors d_size d_outs d_rule d_filled d_rankings d_counts d_draw d_fors (nI n) (nI s) (nI m) w_steps w_fors w_draw li w_best_84 w_beaters w_distances w_route t_bytes t_length t_next t_ranking t_count l_cells l_sizes s_bytes s_length keeps))) rfl ?_
                    refine e_sub [1, 2, 0] rfl ?_
                    exact ih_73 (i2 + 1) w_best_84 (by omega) (by exact ⟨by omega, fun x hx y hy => by rw [q_84 x hx y hy, z_fwm_step (p3.2.2.1 mi (by omega))]⟩)
              refine e_sub [1, 2, 0] rfl ?_
              exact loop_73 _ 0 be (Nat.lt_succ_self _) (by exact ⟨by omega, fun x hx y hy => by rw [p2 x hx y hy]; show _ = lN (if x < 0 then _ else _); rw [if_neg (Nat.not_lt_zero x)]⟩)
        refine e_sub [1, 0] rfl ?_
        exact loop_63 _ 0 be ((z_LS m s F)) (Nat.lt_succ_self _) (by exact ⟨by omega, fun x hx y hy => l3 x hx y hy (by omega), z_fw_0 hF⟩)
      · skip
        rw [nI_leI (by omega) (by omega)] at c_7
        refine e_steps 2 (σ' := (12, [(2, .int (nI 0)), (0, .ref 16), (1, .int (nI i))], [], (CH p_size p_outs p_rule p_filled p_rankings p_counts p_draw p_fors k_size k_outs k_rule k_filled k_rankings k_counts k_draw k_fors d_size d_outs d_rule d_filled d_rankings d_counts d_draw d_fors (nI n) (nI s) (nI m) w_steps w_fors w_draw li be w_beaters w_distances w_route t_bytes t_length t_next t_ranking t_count l_cells l_sizes s_bytes s_length keeps))) rfl ?_
        have loop_12 : ∀ (z_12 : Nat) (j : Nat) (lj : Nat → Int64) (bj : Nat → Int64), n - j < z_12 → (j ≤ n ∧ (∀ x, x < n → ∀ y, y < n → (x < i ∨ x = i ∧ y < j) → lj (8 * x + y) = lN (z_LS m s F x y)) ∧ (∀ x, x < n → ∀ y, y < n → (x < i ∨ x = i ∧ y < j) → bj (8 * x + y) = lN (z_LS m s F x y))) → z_EV (d + 2) zmX4_reckon R (12, [(0, .ref 16), (1, .int (nI i)), (2, .int (nI j))], [], (CH p_size p_outs p_rule p_filled p_rankings p_counts p_draw p_fors k_size k_outs k_rule k_filled k_rankings k_counts k_draw k_fors d_size d_outs d_rule d_filled d_rankings d_counts d_draw d_fors (nI n) (nI s) (nI m) w_steps w_fors w_draw lj bj w_beaters w_distances w_route t_bytes t_length t_next t_ranking t_count l_cells l_sizes s_bytes s_length keeps)) := by
          intro z_12
          induction z_12 with
          | zero => intro j lj bj hm_12 _; exact absurd hm_12 (Nat.not_lt_zero _)
          | succ z_12 ih_12 =>
            intro j lj bj hm_12 hi_12
            obtain ⟨m1, m2, m3⟩ := hi_12
            refine e_steps 3 (σ' := (17, [(0, .ref 16), (1, .int (nI i)), (2, .int (nI j))], [.int (nI n), .int (nI j)], (CH p_size p_outs p_rule p_filled p_rankings p_counts p_draw p_fors k_size k_outs k_rule k_filled k_rankings k_counts k_draw k_fors d_size d_outs d_rule d_filled d_rankings d_counts d_draw d_fors (nI n) (nI s) (nI m) w_steps w_fors w_draw lj bj w_beaters w_distances w_route t_bytes t_length t_next t_ranking t_count l_cells l_sizes s_bytes s_length keeps))) rfl ?_
            refine e_if (c := nI n ≤ nI j) rfl (fun c_17 => ?_) (fun c_17 => ?_)
            · skip
              rw [nI_leI (by omega) (by omega)] at c_17
              refine e_steps 0 (σ' := (55, [(0, .ref 16), (1, .int (nI i)), (2, .int (nI j))], [], (CH p_size p_outs p_rule p_filled p_rankings p_counts p_draw p_fors k_size k_outs k_rule k_filled k_rankings k_counts k_draw k_fors d_size d_outs d_rule d_filled d_rankings d_counts d_draw d_fors (nI n) (nI s) (nI m) w_steps w_fors w_draw lj bj w_beaters w_distances w_route t_bytes t_length t_next t_ranking t_count l_cells l_sizes s_bytes s_length keeps))) rfl ?_
              refine e_inc (n := 1) rfl rfl rfl (i + 1) (by rfl) [(1, .int (nI (i + 1))), (0, .ref 16), (2, .int (nI j))] rfl ?_
              refine e_steps 1 (σ' := (2, [(1, .int (nI (i + 1))), (0, .ref 16), (2, .int (nI j))], [], (CH p_size p_outs p_rule p_filled p_rankings p_counts p_draw p_fors k_size k_outs k_rule k_filled k_rankings k_counts k_draw k_fors d_size d_outs d_rule d_filled d_rankings d_counts d_draw d_fors (nI n) (nI s) (nI m) w_steps w_fors w_draw lj bj w_beaters w_distances w_route t_bytes t_length t_next t_ranking t_count l_cells l_sizes s_bytes s_length keeps))) rfl ?_
              refine e_sub [1, 0] rfl ?_
              exact ih_2 (i + 1) lj bj (by omega) (by exact ⟨by omega, fun x hx y hy h => m2 x hx y hy (by omega), fun x hx y hy h => m3 x hx y hy (by omega)⟩)
            · skip
              rw [nI_leI (by omega) (by omega)] at c_17
              refine e_steps 3 (σ' := (23, [(0, .ref 16), (1, .int (nI i)), (2, .int (nI j))], [.int (nI j), .int (nI i), .ref 16], (CH p_size p_outs p_rule p_filled p_rankings p_counts p_draw p_fors k_size k_outs k_rule k_filled k_rankings k_counts k_draw k_fors d_size d_outs d_rule d_filled d_rankings d_counts d_draw d_fors (nI n) (nI s) (nI m) w_steps w_fors w_draw lj bj w_beaters w_distances w_route t_bytes t_length t_next t_ranking t_count l_cells l_sizes s_bytes s_length keeps))) rfl ?_
              refine e_call (y := 52) (av := [.ref 16, .int (nI i), .int (nI j)]) (rest := []) rfl (c_X4_linkBetween (d + 0) (n := n) (s := s) (m := m) (F := F) (by first | assumption | omega | rfl | trivial) (by first | assumption | omega | rfl | trivial) (by first | assumption | omega | rfl | trivial) (by first | assumption | omega | rfl | trivial) (by first | assumption | omega | rfl | trivial) (by first | assumption | omega | rfl | trivial) (by first | assumption | omega | rfl | trivial)) (fun r_23 h_23 p_23 => ?_)
              obtain ⟨rfl, rfl⟩ := p_23
              refine e_steps 5 (σ' := (33, [(3, .long (lN (z_LS m s F i j))), (0, .ref 16), (1, .int (nI i)), (2, .int (nI j))], [.int (nI j), .int (nI i), .ref 19], (CH p_size p_outs p_rule p_filled p_rankings p_counts p_draw p_fors k_size k_outs k_rule k_filled k_rankings k_counts k_draw k_fors d_size d_outs d_rule d_filled d_rankings d_counts d_draw d_fors (nI n) (nI s) (nI m) w_steps w_fors w_draw lj bj w_beaters w_distances w_route t_bytes t_length t_next t_ranking t_count l_cells l_sizes s_bytes s_length keeps))) rfl ?_
              refine e_call (y := 127) (av := [.int (nI i), .int (nI j)]) (rest := [.ref 19]) rfl (c_X5_cell (d + 1) ) (fun r_33 h_33 p_33 => ?_)
              obtain ⟨rfl, rfl⟩ := p_33
              refine e_steps 1 (σ' := (37, [(3, .long (lN (z_LS m s F i j))), (0, .ref 16), (1, .int (nI i)), (2, .int (nI j))], [.long (lN (z_LS m s F i j)), .int (nI (8 * i + j)), .ref 19], (CH p_size p_outs p_rule p_filled p_rankings p_counts p_draw p_fors k_size k_outs k_rule k_filled k_rankings k_counts k_draw k_fors d_size d_outs d_rule d_filled d_rankings d_counts d_draw d_fors (nI n) (nI s) (nI m) w_steps w_fors w_draw lj bj w_beaters w_distances w_route t_bytes t_length t_next t_ranking t_count l_cells l_sizes s_bytes s_length keeps))) rfl ?_
              refine e_las (CH p_size p_outs p_rule p_filled p_rankings p_counts p_draw p_fors k_size k_outs k_rule k_filled k_rankings k_counts k_draw k_fors d_size d_outs d_rule d_filled d_rankings d_counts d_draw d_fors (nI n) (nI s) (nI m) w_steps w_fors w_draw (vp_updL lj (8 * i + j) (lN (z_LS m s F i j))) bj w_beaters w_distances w_route t_bytes t_length t_next t_ranking t_count l_cells l_sizes s_bytes s_length keeps) rfl rfl (by first | assumption | omega | rfl | trivial) (by decide) rfl ?_
              refine e_steps 4 (σ' := (44, [(3, .long (lN (z_LS m s F i j))), (0, .ref 16), (1, .int (nI i)), (2, .int (nI j))], [.int (nI j), .int (nI i), .ref 20], (CH p_size p_outs p_rule p_filled p_rankings p_counts p_draw p_fors k_size k_outs k_rule k_filled k_rankings k_counts k_draw k_fors d_size d_outs d_rule d_filled d_rankings d_counts d_draw d_fors (nI n) (nI s) (nI m) w_steps w_fors w_draw (vp_updL lj (8 * i + j) (lN (z_LS m s F i j))) bj w_beaters w_distances w_route t_bytes t_length t_next t_ranking t_count l_cells l_sizes s_bytes s_length keeps))) rfl ?_
              refine e_call (y := 127) (av := [.int (nI i), .int (nI j)]) (rest := [.ref 20]) rfl (c_X5_cell (d + 1) ) (fun r_44 h_44 p_44 => ?_)
              obtain ⟨rfl, rfl⟩ := p_44
              refine e_steps 1 (σ' := (48, [(3, .long (lN (z_LS m s F i j))), (0, .ref 16), (1, .int (nI i)), (2, .int (nI j))], [.long (lN (z_LS m s F i j)), .int (nI (8 * i + j)), .ref 20], (CH p_size p_outs p_rule p_filled p_rankings p_counts p_draw p_fors k_size k_outs k_rule k_filled k_rankings k_counts k_draw k_fors d_size d_outs d_rule d_filled d_rankings d_counts d_draw d_fors (nI n) (nI s) (nI m) w_steps w_fors w_draw (vp_updL lj (8 * i + j) (lN (z_LS m s F i j))) bj w_beaters w_distances w_route t_bytes t_length t_next t_ranking t_count l_cells l_sizes s_bytes s_length keeps))) rfl ?_
              refine e_las (CH p_size p_outs p_rule p_filled p_rankings p_counts p_draw p_fors k_size k_outs k_rule k_filled k_rankings k_counts k_draw k_fors d_size d_outs d_rule d_filled d_rankings d_counts d_draw d_fors (nI n) (nI s) (nI m) w_steps w_fors w_draw (vp_updL lj (8 * i + j) (lN (z_LS m s F i j))) (vp_updL bj (8 * i + j) (lN (z_LS m s F i j))) w_beaters w_distances w_route t_bytes t_length t_next t_ranking t_count l_cells l_sizes s_bytes s_length keeps) rfl rfl (by first | assumption | omega | rfl | trivial) (by decide) rfl ?_
              refine e_steps 0 (σ' := (49, [(3, .long (lN (z_LS m s F i j))), (0, .ref 16), (1, .int (nI i)), (2, .int (nI j))], [], (CH p_size p_outs p_rule p_filled p_rankings p_counts p_draw p_fors k_size k_outs k_rule k_filled k_rankings k_counts k_draw k_fors d_size d_outs d_rule d_filled d_rankings d_counts d_draw d_fors (nI n) (nI s) (nI m) w_steps w_fors w_draw (vp_updL lj (8 * i + j) (lN (z_LS m s F i j))) (vp_updL bj (8 * i + j) (lN (z_LS m s F i j))) w_beaters w_distances w_route t_bytes t_length t_next t_ranking t_count l_cells l_sizes s_bytes s_length keeps))) rfl ?_
              refine e_inc (n := 1) rfl rfl rfl (j + 1) (by rfl) [(2, .int (nI (j + 1))), (3, .long (lN (z_LS m s F i j))), (0, .ref 16), (1, .int (nI i))] rfl ?_
              refine e_steps 1 (σ' := (12, [(2, .int (nI (j + 1))), (3, .long (lN (z_LS m s F i j))), (0, .ref 16), (1, .int (nI i))], [], (CH p_size p_outs p_rule p_filled p_rankings p_counts p_draw p_fors k_size k_outs k_rule k_filled k_rankings k_counts k_draw k_fors d_size d_outs d_rule d_filled d_rankings d_counts d_draw d_fors (nI n) (nI s) (nI m) w_steps w_fors w_draw (vp_updL lj (8 * i + j) (lN (z_LS m s F i j))) (vp_updL bj (8 * i + j) (lN (z_LS m s F i j))) w_beaters w_distances w_route t_bytes t_length t_next t_ranking t_count l_cells l_sizes s_bytes s_length keeps))) rfl ?_
              refine e_sub [2, 3, 0] rfl ?_
              exact ih_12 (j + 1) (vp_updL lj (8 * i + j) (lN (z_LS m s F i j))) (vp_updL bj (8 * i + j) (lN (z_LS m s F i j))) (by omega) (by exact ⟨by omega, fun x hx y hy h => z_tab_put (by omega) (by omega) m2 hn8 rfl x hx y hy (by omega), fun x hx y hy h => z_tab_put (by omega) (by omega) m3 hn8 rfl x hx y hy (by omega)⟩)
        refine e_sub [1, 2, 0] rfl ?_
        exact loop_12 _ 0 li be (Nat.lt_succ_self _) (by exact ⟨by omega, fun x hx y hy h => l2 x hx y hy (by omega), fun x hx y hy h => l3 x hx y hy (by omega)⟩)
  refine e_sub [1, 0] rfl ?_
  exact loop_2 _ 0 w_links w_best (Nat.lt_succ_self _) (by exact ⟨by omega, fun x _ y _ h => absurd h (Nat.not_lt_zero x), fun x _ y _ h => absurd h (Nat.not_lt_zero x)⟩)
