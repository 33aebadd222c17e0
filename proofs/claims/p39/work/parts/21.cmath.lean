/-! the class: sets, rankings as numbers -/
theorem z_hasB {s k : Nat} (hs : s < 256) (hk : k < 16) : ((nI s >>> (nI k &&& 31)) &&& nI 1 = 0) ↔ s.testBit k = false := z_all2 (P := fun s k => ((nI s >>> (nI k &&& 31)) &&& nI 1 = 0) ↔ s.testBit k = false) (m := 256) (n := 16) (by decide +kernel) hs hk
/-- a ranking as one number: three bits a place -/
def z_enc : Nat → (Nat → Nat) → Nat
  | 0, _ => 0
  | n + 1, q => z_enc n q + q n * 8 ^ n
def z_plc (r c : Nat) : Nat := r / 8 ^ c % 8
theorem z_enc_lt {q : Nat → Nat} : ∀ {n : Nat}, (∀ c, c < n → q c < 8) → z_enc n q < 8 ^ n
  | 0, _ => Nat.one_pos
  | n + 1, h => by
    have h1 := z_enc_lt (q := q) (n := n) (fun c hc => h c (by omega))
    have h2 : q n * 8 ^ n ≤ 7 * 8 ^ n := Nat.mul_le_mul_right _ (by have := h n (by omega); omega)
    show z_enc n q + q n * 8 ^ n < 8 ^ (n + 1)
    rw [Nat.pow_succ]
    omega
theorem z_enc_dig {q : Nat → Nat} : ∀ {n c : Nat}, (∀ c, c < n → q c < 8) → c < n → z_plc (z_enc n q) c = q c
  | n + 1, c, h, hc => by
    have h0 : ∀ c, c < n → q c < 8 := fun c hc => h c (by omega)
    have h1 := z_enc_lt h0
    show (z_enc n q + q n * 8 ^ n) / 8 ^ c % 8 = q c
    rcases (by omega : c < n ∨ c = n) with e | e
    · have h2 := z_enc_dig h0 e
      have h3 : 8 ^ n = 8 ^ c * (8 * 8 ^ (n - c - 1)) := by
        rw [← Nat.mul_assoc, ← Nat.pow_succ, ← Nat.pow_add]
        congr 1
        omega
      rw [h3, show q n * (8 ^ c * (8 * 8 ^ (n - c - 1))) = 8 ^ c * (8 * (q n * 8 ^ (n - c - 1))) by
        rw [Nat.mul_left_comm, Nat.mul_left_comm (q n) 8], Nat.add_mul_div_left _ _ (Nat.pow_pos (by decide)), Nat.add_mul_mod_self_left]
      exact h2
    · subst e
      rw [Nat.add_mul_div_right _ _ (Nat.pow_pos (by decide)), Nat.div_eq_of_lt h1, Nat.zero_add, Nat.mod_eq_of_lt (h c (by omega))]
theorem z_enc_hi {q : Nat → Nat} {n c : Nat} (h : ∀ c, c < n → q c < 8) (hc : n ≤ c) : z_plc (z_enc n q) c = 0 := by
  unfold z_plc
  rw [Nat.div_eq_of_lt (Nat.lt_of_lt_of_le (z_enc_lt h) (Nat.pow_le_pow_right (by decide) hc))]
theorem z_enc_congr {q q2 : Nat → Nat} : ∀ {n : Nat}, (∀ c, c < n → q c = q2 c) → z_enc n q = z_enc n q2
  | 0, _ => rfl
  | n + 1, h => by
    show z_enc n q + q n * 8 ^ n = z_enc n q2 + q2 n * 8 ^ n
    rw [z_enc_congr (fun c hc => h c (by omega)), h n (by omega)]
theorem z_enc_inj {q q2 : Nat → Nat} {n : Nat} (h : ∀ c, c < n → q c < 8) (h2 : ∀ c, c < n → q2 c < 8) (e : z_enc n q = z_enc n q2) : ∀ c, c < n → q c = q2 c := fun c hc => by
  rw [← z_enc_dig h hc, e, z_enc_dig h2 hc]
theorem z_enc_put {q : Nat → Nat} {c p : Nat} (h0 : q c = 0) : ∀ {n : Nat}, z_enc n (fun x => if x = c then p else q x) = z_enc n q + (if c < n then p * 8 ^ c else 0)
  | 0 => by rw [if_neg (Nat.not_lt_zero c)]; rfl
  | n + 1 => by
    show z_enc n _ + (if n = c then p else q n) * 8 ^ n = z_enc n q + q n * 8 ^ n + _
    rw [z_enc_put h0 (n := n)]
    by_cases e : n = c
    · subst e
      rw [if_pos rfl, if_neg (Nat.lt_irrefl n), if_pos (Nat.lt_succ_self n), h0]
      omega
    · rw [if_neg e, z_ifc (p := c < n + 1) (q := c < n) (by omega)]
      omega
theorem z_enc_z {q : Nat → Nat} {n : Nat} : ∀ {m : Nat}, n ≤ m → (∀ c, n ≤ c → c < m → q c = 0) → z_enc m q = z_enc n q
  | 0, h, _ => by rw [show n = 0 by omega]
  | m + 1, h, h2 => by
    rcases (by omega : n = m + 1 ∨ n ≤ m) with e | e
    · rw [e]
    · show z_enc m q + q m * 8 ^ m = _
      rw [h2 m e (by omega), Nat.zero_mul, Nat.add_zero]
      exact z_enc_z e (fun c h3 h4 => h2 c h3 (by omega))
theorem z_or_dig {r p c : Nat} (hr : z_plc r c = 0) (hp : p < 8) : r ||| p * 8 ^ c = r + p * 8 ^ c := by
  have e8 : ∀ k : Nat, 8 ^ k = 2 ^ (3 * k) := fun k => by rw [Nat.pow_mul]
  have h1 : r = 2 ^ (3 * c + 3) * (r / 8 ^ c / 8) + r % 8 ^ c := by
    have a1 := Nat.div_add_mod r (8 ^ c)
    have a2 := Nat.div_add_mod (r / 8 ^ c) 8
    unfold z_plc at hr
    rw [hr, Nat.add_zero] at a2
    have e9 : 2 ^ (3 * c + 3) = 8 ^ c * 8 := by rw [show 3 * c + 3 = 3 * (c + 1) by omega, ← e8 (c + 1), Nat.pow_succ]
    rw [e9, Nat.mul_assoc, a2]
    exact a1.symm
  have h2 : r % 8 ^ c < 2 ^ (3 * c) := by rw [← e8]; exact Nat.mod_lt _ (Nat.pow_pos (by decide))
  generalize r / 8 ^ c / 8 = hi at h1
  generalize r % 8 ^ c = lo at h1 h2
  have h3 : 2 ^ (3 * c) * p + lo < 2 ^ (3 * c + 3) := by
    have : 2 ^ (3 * c) * p ≤ 2 ^ (3 * c) * 7 := Nat.mul_le_mul_left _ (by omega)
    rw [Nat.pow_add]
    omega
  have h4 : lo < 2 ^ (3 * c + 3) := by
    rw [Nat.pow_add]
    omega
  rw [e8 c, Nat.mul_comm p, h1, Nat.two_pow_add_eq_or_of_lt h4, Nat.or_assoc, Nat.or_comm lo, ← Nat.two_pow_add_eq_or_of_lt h2, ← Nat.two_pow_add_eq_or_of_lt h3]
  have h5 := Nat.two_pow_add_eq_or_of_lt h4 hi
  omega
theorem z_mod8 (x : Nat) : x &&& 7 = x % 8 := Nat.and_two_pow_sub_one_eq_mod x 3
theorem z_plc_sh {r c : Nat} (hr : r < 2 ^ 31) (hc : c < 8) : ((nI r).toUInt32 >>> ((nI (3 * c)).toUInt32 &&& Int32.toUInt32 31)).toInt32 = nI (r / 8 ^ c) := by
  have h0 : (((nI (3 * c)).toUInt32 &&& Int32.toUInt32 31).toBitVec % 32).toNat = 3 * c := z_all1 (P := fun c => (((nI (3 * c)).toUInt32 &&& Int32.toUInt32 31).toBitVec % 32).toNat = 3 * c) (m := 8) (by decide +kernel) hc
  rw [pk_ushrN (by omega) (nI (3 * c)) (3 * c) h0, Nat.pow_mul]
theorem z_shl3 {p c : Nat} (hp : p < 8) (hc : c < 8) : nI p <<< (nI (3 * c) &&& 31) = nI (p * 8 ^ c) := z_all2 (P := fun p c => nI p <<< (nI (3 * c) &&& 31) = nI (p * 8 ^ c)) (m := 8) (n := 8) (by decide +kernel) hp hc
theorem z_enc24 {n : Nat} {q : Nat → Nat} (hn : n ≤ 8) (h : ∀ c, c < n → q c < 8) : z_enc n q < 16777216 := Nat.lt_of_lt_of_le (z_enc_lt h) (Nat.le_trans (Nat.pow_le_pow_right (by decide) hn) (by decide))
/-! an order of n told once each -/
theorem z_perm_inj {n : Nat} {D : Nat → Nat} (h : z_perm n D) {i j : Nat} (hi : i < n) (hj : j < n) (e : D i = D j) : i = j := by
  have key : ∀ i j, i < j → j < n → D i = D j → False := by
    intro i j hij hj e
    have := z_pigeon (n - 1) (n - 1) (fun x => if x = j then D (n - 1) else D x) (fun p hp => by
      obtain ⟨k, hk, e2⟩ := h.2 p (by omega)
      by_cases e3 : k = j
      · refine ⟨i, by omega, ?_⟩
        simp only [if_neg (by omega : ¬ i = j)]
        rw [e, ← e3]; exact e2
      · by_cases e4 : k = n - 1
        · refine ⟨j, by omega, ?_⟩
          simp only [if_pos]
          rw [← e4]; exact e2
        · refine ⟨k, by omega, ?_⟩
          simp only [if_neg e3]
          exact e2)
    omega
  rcases Nat.lt_trichotomy i j with q | q | q
  · exact (key i j q hj e).elim
  · exact q
  · exact (key j i q hi e.symm).elim
theorem z_shf_congr {n : Nat} : ∀ {k : Nat} {z : Int32} {D D2 : Nat → Nat}, k < n → (∀ i, i < n → D i = D2 i) → ∀ i, i < n → z_shf k z D i = z_shf k z D2 i
  | 0, _, _, _, _, h => h
  | k + 1, z, D, D2, hk, h => by
    refine z_shf_congr (k := k) (by omega) (fun i hi => ?_)
    have h1 := z_dw_le (z * nI 1103515245 + nI 12345) (k + 1)
    unfold z_swap
    rw [h _ hk, h _ (by omega), h i hi]
/-! the class's poll -/
def z_PI (R C D Fo : Nat → Int32) (n outs bm ms : Nat) (dr cn : Nat → Nat) (pl : Nat → Nat → Nat) : Prop := (2 ≤ n ∧ n ≤ 8) ∧ (outs < 2 ^ n ∧ z_dif (2 ^ n - 1) outs ≠ 0) ∧ bm ≤ 40 ∧ ms < 4 ∧ ((∀ k, k < n → D k = nI (dr k)) ∧ z_perm n dr) ∧ (∀ b, b < bm → C b = nI (cn b) ∧ 1 ≤ cn b ∧ cn b ≤ 1000000) ∧ (∀ b, b < bm → R b = nI (z_enc n (pl b)) ∧ z_RK n (pl b)) ∧ ∀ i, i < n → ∀ j, j < n → Fo (8 * i + j) = nI (z_for bm cn pl i j)
theorem z_PI_congr {R C D Fo R2 C2 D2 Fo2 : Nat → Int32} {n outs bm ms : Nat} {dr cn : Nat → Nat} {pl : Nat → Nat → Nat} (h : z_PI R C D Fo n outs bm ms dr cn pl) (h1 : ∀ k, k < 40 → R2 k = R k) (h2 : ∀ k, k < 40 → C2 k = C k) (h3 : ∀ k, k < 8 → D2 k = D k) (h4 : ∀ k, k < 64 → Fo2 k = Fo k) : z_PI R2 C2 D2 Fo2 n outs bm ms dr cn pl := by
  obtain ⟨a1, a2, a3, a4, ⟨a5, a5p⟩, a6, a7, a8⟩ := h
  exact ⟨a1, a2, a3, a4, ⟨fun k hk => by rw [h3 k (by omega)]; exact a5 k hk, a5p⟩, fun b hb => by rw [h2 b (by omega)]; exact a6 b hb, fun b hb => by rw [h1 b (by omega)]; exact a7 b hb, fun i hi j hj => by rw [h4 _ (by omega)]; exact a8 i hi j hj⟩
theorem z_cpy {f g : Nat → Int32} {m : Nat} : ∀ k, k < m → va_cpy f g 0 0 m k = f k := by
  intro k hk
  unfold va_cpy
  rw [if_pos (by omega)]
  congr 1
  omega
theorem z_RK8 {n : Nat} {q : Nat → Nat} (hn : n ≤ 8) (h : z_RK n q) : ∀ c, c < n → q c < 8 := fun c hc => by have := h.1 c hc; omega
theorem z_for_congr {cn cn2 : Nat → Nat} {pl pl2 : Nat → Nat → Nat} {i j : Nat} : ∀ {b : Nat}, (∀ x, x < b → cn x = cn2 x ∧ pl x i = pl2 x i ∧ pl x j = pl2 x j) → z_for b cn pl i j = z_for b cn2 pl2 i j
  | 0, _ => rfl
  | b + 1, h => by
    show z_for b cn pl i j + _ = z_for b cn2 pl2 i j + _
    rw [z_for_congr (fun x hx => h x (by omega)), (h b (by omega)).1, (h b (by omega)).2.1, (h b (by omega)).2.2]
theorem z_for_upd {cn : Nat → Nat} {pl : Nat → Nat → Nat} {i j b v : Nat} : ∀ {m : Nat}, b < m → z_for m (fun x => if x = b then v else cn x) pl i j + (if pl b i < pl b j then cn b else 0) = z_for m cn pl i j + (if pl b i < pl b j then v else 0)
  | m + 1, h => by
    show z_for m _ pl i j + (if pl m i < pl m j then (if m = b then v else cn m) else 0) + _ = z_for m cn pl i j + _ + _
    rcases (by omega : b < m ∨ b = m) with e | e
    · have := z_for_upd (cn := cn) (pl := pl) (i := i) (j := j) (v := v) e
      rw [if_neg (show ¬ m = b by omega)]
      omega
    · subst e
      rw [z_for_congr (cn2 := cn) (pl2 := pl) (b := b) (fun x hx => ⟨if_neg (by omega), rfl, rfl⟩), if_pos rfl]
      omega
theorem z_for_pop {cn : Nat → Nat} {pl : Nat → Nat → Nat} {i j b : Nat} : ∀ {m : Nat}, b < m + 1 → z_for m (fun x => if x < b then cn x else cn (x + 1)) (fun x => if x < b then pl x else pl (x + 1)) i j + (if pl b i < pl b j then cn b else 0) = z_for (m + 1) cn pl i j
  | 0, h => by
    have e : b = 0 := by omega
    subst e
    rfl
  | m + 1, h => by
    show z_for m _ _ i j + (if (if m < b then pl m else pl (m + 1)) i < (if m < b then pl m else pl (m + 1)) j then (if m < b then cn m else cn (m + 1)) else 0) + _ = z_for (m + 1) cn pl i j + (if pl (m + 1) i < pl (m + 1) j then cn (m + 1) else 0)
    rcases (by omega : b = m + 1 ∨ b < m + 1) with e | e
    · subst e
      rw [if_pos (Nat.lt_succ_self m), if_pos (Nat.lt_succ_self m)]
      rw [z_for_congr (cn2 := cn) (pl2 := pl) (b := m) (fun x hx => ⟨if_pos (by omega), by rw [if_pos (by omega)], by rw [if_pos (by omega)]⟩)]
      rfl
    · have := z_for_pop (cn := cn) (pl := pl) (i := i) (j := j) e
      rw [if_neg (show ¬ m < b by omega), if_neg (show ¬ m < b by omega)]
      omega
