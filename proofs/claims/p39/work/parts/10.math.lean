/-! strengths as numbers, strongest ways by thresholds -/
/-- the strength of a link told for by a, against by b (b below a), by measure m: the more the stronger -/
def z_key (m a b : Nat) : Nat := if m = 0 then a else if m = 1 then a - b else if m = 2 then (if b = 0 then 2 ^ 52 + a else 2 ^ 52 - b * 2 ^ 52 / a) else 2 ^ 26 - b
theorem z_key_div {a b c d : Nat} (ha : 0 < a) (hc : 0 < c) (hac : a * c ≤ 2 ^ 52) : b * 2 ^ 52 / a < d * 2 ^ 52 / c ↔ c * b < a * d := by
  constructor
  · intro h
    rcases Nat.lt_or_ge (c * b) (a * d) with q | q
    · exact q
    · exfalso
      -- then d / c is no more than b / a
      have h1 : d * 2 ^ 52 / c ≤ b * 2 ^ 52 / a := by
        rw [Nat.le_div_iff_mul_le ha]
        have h2 : d * 2 ^ 52 / c * c ≤ d * 2 ^ 52 := Nat.div_mul_le_self _ _
        have h3 : d * 2 ^ 52 / c * a * c ≤ b * 2 ^ 52 * c := by
          calc d * 2 ^ 52 / c * a * c = d * 2 ^ 52 / c * c * a := by rw [Nat.mul_right_comm]
            _ ≤ d * 2 ^ 52 * a := Nat.mul_le_mul_right _ h2
            _ = a * d * 2 ^ 52 := by rw [Nat.mul_right_comm, Nat.mul_comm d a]
            _ ≤ c * b * 2 ^ 52 := Nat.mul_le_mul_right _ q
            _ = b * 2 ^ 52 * c := by rw [Nat.mul_comm c b, Nat.mul_right_comm]
        exact Nat.le_of_mul_le_mul_right h3 hc
      omega
  · intro h
    have h1 : b * 2 ^ 52 / a + 1 ≤ d * 2 ^ 52 / c := by
      rw [Nat.le_div_iff_mul_le hc]
      have h2 : b * 2 ^ 52 / a * a ≤ b * 2 ^ 52 := Nat.div_mul_le_self _ _
      have h3 : (b * 2 ^ 52 / a + 1) * c * a ≤ d * 2 ^ 52 * a := by
        calc (b * 2 ^ 52 / a + 1) * c * a = b * 2 ^ 52 / a * a * c + a * c := by rw [Nat.add_mul, Nat.add_mul, Nat.one_mul, Nat.mul_right_comm, Nat.mul_comm c a]
          _ ≤ b * 2 ^ 52 * c + 2 ^ 52 := Nat.add_le_add (Nat.mul_le_mul_right _ h2) hac
          _ = (c * b + 1) * 2 ^ 52 := by rw [Nat.add_mul, Nat.one_mul, Nat.mul_right_comm, Nat.mul_comm b c]
          _ ≤ a * d * 2 ^ 52 := Nat.mul_le_mul_right _ h
          _ = d * 2 ^ 52 * a := by rw [Nat.mul_comm a d, Nat.mul_right_comm]
      exact Nat.le_of_mul_le_mul_right h3 ha
    omega
theorem z_M2 {a c : Nat} (ha : a ≤ 41000000) (hc : c ≤ 41000000) : a * c ≤ 2 ^ 52 := Nat.le_trans (Nat.mul_le_mul ha hc) (by decide)
theorem z_quot {a b : Nat} (h : b < a) : b * 2 ^ 52 / a < 2 ^ 52 := by
  rw [Nat.div_lt_iff_lt_mul (by omega), Nat.mul_comm b]
  exact Nat.mul_lt_mul_of_pos_left h (by decide)
theorem z_key_pos {m a b : Nat} (h : b < a) (ha : a ≤ 41000000) : 0 < z_key m a b := by
  have := z_quot h
  unfold z_key
  generalize b * 2 ^ 52 / a = x at this ⊢
  generalize 2 ^ 52 = W at this ⊢
  split
  · omega
  · split
    · omega
    · split
      · split <;> omega
      · omega
theorem z_two_aux {x y W a b c d : Nat} (h1 : b < a) (h2 : d < c) (q1 : x < W) (q2 : y < W) (q3 : x < y ↔ c * b < a * d) : (if d = 0 then W + c else W - y) < (if b = 0 then W + a else W - x) ↔ (if b = 0 ∨ d = 0 then (b = 0 ∧ (d ≠ 0 ∨ c < a)) else c * b < a * d) := by
  by_cases hb : b = 0 <;> by_cases hd : d = 0
  · rw [if_pos hb, if_pos hd, if_pos (Or.inl hb)]; omega
  · rw [if_pos hb, if_neg hd, if_pos (Or.inl hb)]; omega
  · rw [if_neg hb, if_pos hd, if_pos (Or.inr hd)]; omega
  · rw [if_neg hb, if_neg hd, if_neg (by omega), ← q3]; omega
theorem z_key_two {a b c d : Nat} (h1 : b < a) (h2 : d < c) (ha : a ≤ 41000000) (hc : c ≤ 41000000) : z_key 2 c d < z_key 2 a b ↔ (if b = 0 ∨ d = 0 then (b = 0 ∧ (d ≠ 0 ∨ c < a)) else c * b < a * d) := by
  have e : ∀ x y, z_key 2 x y = if y = 0 then 2 ^ 52 + x else 2 ^ 52 - y * 2 ^ 52 / x := fun x y => by unfold z_key; rw [if_neg (by decide), if_neg (by decide), if_pos rfl]
  rw [e, e]
  exact z_two_aux h1 h2 (z_quot h1) (z_quot h2) (z_key_div (a := a) (b := b) (c := c) (d := d) (by omega) (by omega) (z_M2 ha hc))
/-- a way of k links no weaker than t -/
def z_rc (L : Nat → Nat → Nat) (n t : Nat) : Nat → Nat → Nat → Prop
  | 0, i, j => i = j
  | k + 1, i, j => ∃ c, c < n ∧ t ≤ L i c ∧ z_rc L n t k c j
def z_re2 (L : Nat → Nat → Nat) (n t i j : Nat) : Prop := ∃ k, z_rc L n t k i j
theorem z_rc_app {L : Nat → Nat → Nat} {n t : Nat} : ∀ {k l i j c : Nat}, z_rc L n t k i j → z_rc L n t l j c → z_rc L n t (k + l) i c
  | 0, l, i, j, c, h1, h2 => by
    obtain rfl : i = j := h1
    rw [Nat.zero_add]; exact h2
  | k + 1, l, i, j, c, h1, h2 => by
    obtain ⟨x, hx, ht, h3⟩ := h1
    rw [show k + 1 + l = (k + l) + 1 by omega]
    exact ⟨x, hx, ht, z_rc_app h3 h2⟩
theorem z_re2_app {L : Nat → Nat → Nat} {n t i j c : Nat} (h1 : z_re2 L n t i j) (h2 : z_re2 L n t j c) : z_re2 L n t i c := by
  obtain ⟨k, h1⟩ := h1
  obtain ⟨l, h2⟩ := h2
  exact ⟨k + l, z_rc_app h1 h2⟩
theorem z_re2_one {L : Nat → Nat → Nat} {n t i j : Nat} (hj : j < n) (h : t ≤ L i j) : z_re2 L n t i j := ⟨1, j, hj, h, rfl⟩
theorem z_rc_mono {L : Nat → Nat → Nat} {n t t2 : Nat} (ht : t2 ≤ t) : ∀ {k i j : Nat}, z_rc L n t k i j → z_rc L n t2 k i j
  | 0, _, _, h => h
  | k + 1, i, j, h => by
    obtain ⟨c, hc, h1, h2⟩ := h
    exact ⟨c, hc, by omega, z_rc_mono ht h2⟩
theorem z_re2_mono {L : Nat → Nat → Nat} {n t t2 i j : Nat} (ht : t2 ≤ t) (h : z_re2 L n t i j) : z_re2 L n t2 i j := by
  obtain ⟨k, h⟩ := h
  exact ⟨k, z_rc_mono ht h⟩
/-- a row of strongest ways from one: each is there, and no link does better -/
def z_row (L : Nat → Nat → Nat) (n fr : Nat) (K : Nat → Nat) : Prop := K fr = 0 ∧ (∀ j, j < n → 0 < K j → z_re2 L n (K j) fr j) ∧ (∀ j, j < n → j ≠ fr → L fr j ≤ K j) ∧ ∀ c, c < n → ∀ j, j < n → j ≠ fr → min (K c) (L c j) ≤ K j
theorem z_row_rc {L : Nat → Nat → Nat} {n fr : Nat} {K : Nat → Nat} (h : z_row L n fr K) {t : Nat} : ∀ {k i j : Nat}, i < n → (i = fr ∨ t ≤ K i) → z_rc L n t k i j → j = fr ∨ t ≤ K j
  | 0, i, j, _, hi, hr => by
    obtain rfl : i = j := hr
    exact hi
  | k + 1, i, j, hin, hi, hr => by
    obtain ⟨c, hc, ht, hr2⟩ := hr
    refine z_row_rc h hc ?_ hr2
    by_cases e : c = fr
    · exact Or.inl e
    · refine Or.inr ?_
      rcases hi with rfl | hi
      · have := h.2.2.1 c hc e; omega
      · have := h.2.2.2 i hin c hc e
        omega
theorem z_row_iff {L : Nat → Nat → Nat} {n fr : Nat} {K : Nat → Nat} (h : z_row L n fr K) (hf : fr < n) {t j : Nat} (hj : j < n) (hne : j ≠ fr) (ht : 0 < t) : t ≤ K j ↔ z_re2 L n t fr j := by
  constructor
  · intro q
    exact z_re2_mono q (h.2.1 j hj (by omega))
  · rintro ⟨k, hk⟩
    rcases z_row_rc h hf (Or.inl rfl) hk with e | e
    · exact absurd e hne
    · exact e
/-- all rows -/
def z_rows (L : Nat → Nat → Nat) (n : Nat) (K : Nat → Nat → Nat) : Prop := ∀ i, i < n → z_row L n i (K i)
theorem z_rows_tri {L : Nat → Nat → Nat} {n : Nat} {K : Nat → Nat → Nat} (h : z_rows L n K) {i j k : Nat} (hi : i < n) (hj : j < n) (hk : k < n) (hik : i ≠ k) : min (K i j) (K j k) ≤ K i k := by
  rcases Nat.eq_zero_or_pos (min (K i j) (K j k)) with e | e
  · omega
  · have hij : i ≠ j := fun q => by
      have := (h i hi).1
      rw [← q] at e
      omega
    have hjk : j ≠ k := fun q => by
      have := (h j hj).1
      rw [← q] at e
      omega
    have h1 := (z_row_iff (h i hi) hi hj (fun q => hij q.symm) e).mp (Nat.min_le_left _ _)
    have h2 := (z_row_iff (h j hj) hj hk (fun q => hjk q.symm) e).mp (Nat.min_le_right _ _)
    exact (z_row_iff (h i hi) hi hk (fun q => hik q.symm) e).mpr (z_re2_app h1 h2)
def z_bt (K : Nat → Nat → Nat) (i j : Nat) : Prop := i ≠ j ∧ K j i < K i j
theorem z_bt_trans {L : Nat → Nat → Nat} {n : Nat} {K : Nat → Nat → Nat} (h : z_rows L n K) {i j k : Nat} (hi : i < n) (hj : j < n) (hk : k < n) (h1 : z_bt K i j) (h2 : z_bt K j k) : z_bt K i k := by
  obtain ⟨n1, h1⟩ := h1
  obtain ⟨n2, h2⟩ := h2
  have hik : i ≠ k := fun q => by subst q; omega
  refine ⟨hik, ?_⟩
  have a1 := z_rows_tri h hi hj hk hik
  have a2 := z_rows_tri h hj hk hi (fun q => n1 q.symm)
  have a3 := z_rows_tri h hk hi hj (fun q => n2 q.symm)
  omega
theorem z_ct_lt {p q : Nat → Bool} : ∀ {n : Nat}, (∀ c, c < n → p c = true → q c = true) → (∃ c, c < n ∧ p c = false ∧ q c = true) → z_ct n p < z_ct n q
  | 0, _, h => by
    obtain ⟨c, hc, _⟩ := h
    omega
  | n + 1, h1, h2 => by
    have hle : ∀ m, m ≤ n → z_ct m p ≤ z_ct m q := by
      intro m
      induction m with
      | zero => intro _; exact Nat.le_refl _
      | succ m ih =>
        intro hm
        have := ih (by omega)
        unfold z_ct
        by_cases hp : p m = true
        · rw [if_pos hp, if_pos (h1 m (by omega) hp)]; omega
        · rw [if_neg hp]; omega
    obtain ⟨c, hc, e1, e2⟩ := h2
    unfold z_ct
    rcases (by omega : c < n ∨ c = n) with e | e
    · have := z_ct_lt (n := n) (fun c hc => h1 c (by omega)) ⟨c, e, e1, e2⟩
      by_cases hp : p n = true
      · rw [if_pos hp, if_pos (h1 n (by omega) hp)]; omega
      · rw [if_neg hp]; omega
    · subst e
      have := hle c (Nat.le_refl _)
      rw [e1, if_neg (by simp), if_pos e2]; omega
/-- among some there is one whom none of them beats -/
theorem z_unb {L : Nat → Nat → Nat} {n : Nat} {K : Nat → Nat → Nat} (h : z_rows L n K) (s : Nat) (hs : ∃ j, j < n ∧ s.testBit j = true) : ∃ j, j < n ∧ s.testBit j = true ∧ ∀ i, i < n → s.testBit i = true → ¬ z_bt K i j := by
  have key : ∀ v j, j < n → s.testBit j = true → z_ct n (fun i => s.testBit i && decide (i ≠ j ∧ K j i < K i j)) ≤ v → ∃ j, j < n ∧ s.testBit j = true ∧ ∀ i, i < n → s.testBit i = true → ¬ z_bt K i j := by
    intro v
    induction v with
    | zero =>
      intro j hj hb hv
      refine ⟨j, hj, hb, fun i hi hbi hbt => ?_⟩
      have := z_ct_pos (p := fun i => s.testBit i && decide (i ≠ j ∧ K j i < K i j)) hi (by simp [hbi]; exact hbt)
      omega
    | succ v ih =>
      intro j hj hb hv
      by_cases hu : ∃ i, i < n ∧ s.testBit i = true ∧ z_bt K i j
      · obtain ⟨i, hi, hbi, hbt⟩ := hu
        refine ih i hi hbi ?_
        have := z_ct_lt (n := n) (p := fun c => s.testBit c && decide (c ≠ i ∧ K i c < K c i)) (q := fun c => s.testBit c && decide (c ≠ j ∧ K j c < K c j)) (fun c hc hp => by
          simp only [Bool.and_eq_true, decide_eq_true_eq] at hp ⊢
          exact ⟨hp.1, z_bt_trans h hc hi hj hp.2 hbt⟩) ⟨i, hi, by simp, by simp [hbi]; exact hbt⟩
        omega
      · exact ⟨j, hj, hb, fun i hi hbi hbt => hu ⟨i, hi, hbi, hbt⟩⟩
  obtain ⟨j, hj, hb⟩ := hs
  exact key _ j hj hb (Nat.le_refl _)
/-! what the reference counts and compares -/
def z_for : Nat → (Nat → Nat) → (Nat → Nat → Nat) → Nat → Nat → Nat
  | 0, _, _, _, _ => 0
  | b + 1, cn, pl, i, j => z_for b cn pl i j + (if pl b i < pl b j then cn b else 0)
theorem z_for_le {cn : Nat → Nat} {pl : Nat → Nat → Nat} {i j : Nat} : ∀ {b : Nat}, (∀ x, x < b → cn x ≤ 1000000) → z_for b cn pl i j ≤ b * 1000000
  | 0, _ => Nat.zero_le _
  | b + 1, h => by
    have h1 := z_for_le (cn := cn) (pl := pl) (i := i) (j := j) (b := b) (fun x hx => h x (by omega))
    have h2 := h b (by omega)
    have h3 : (b + 1) * 1000000 = b * 1000000 + 1000000 := Nat.succ_mul b 1000000
    rw [h3]
    unfold z_for
    generalize b * 1000000 = w at h1 ⊢
    split <;> omega
def z_PR (pairs : Nat → Int64) (n : Nat) (F : Nat → Nat → Nat) : Prop := ∀ i, i < n → ∀ j, j < n → pairs (8 * i + j) = lN (F i j) ∧ F i j ≤ 41000000
def z_lnk (s : Nat) (F : Nat → Nat → Nat) (i j : Nat) : Prop := i ≠ j ∧ s.testBit i = true ∧ s.testBit j = true ∧ F j i < F i j
def z_LS (m s : Nat) (F : Nat → Nat → Nat) (i j : Nat) : Nat := if (decide (i ≠ j) && (s.testBit i && (s.testBit j && decide (F j i < F i j)))) = true then z_key m (F i j) (F j i) else 0
theorem z_LS_yes {m s : Nat} {F : Nat → Nat → Nat} {i j : Nat} (h : z_lnk s F i j) : z_LS m s F i j = z_key m (F i j) (F j i) := by
  obtain ⟨h1, h2, h3, h4⟩ := h
  unfold z_LS
  rw [if_pos (by simp [h1, h2, h3, h4])]
theorem z_LS_no {m s : Nat} {F : Nat → Nat → Nat} {i j : Nat} (h : ¬ z_lnk s F i j) : z_LS m s F i j = 0 := by
  unfold z_LS
  rw [if_neg (fun q => h (by simpa [z_lnk] using q))]
theorem z_LS_self {m s : Nat} {F : Nat → Nat → Nat} {i : Nat} : z_LS m s F i i = 0 := z_LS_no (fun h => h.1 rfl)
def z_AB1 (m : Nat) (x y : Int64) (k : Nat) : Prop := (k = 0 ∧ x = -lN 1) ∨ ∃ a b, x = lN a ∧ y = lN b ∧ b < a ∧ a ≤ 41000000 ∧ k = z_key m a b
theorem z_m1_lt : -lN 1 < lN 0 := by decide +kernel
theorem z_AB1_none {m k : Nat} {x y : Int64} (h : z_AB1 m x y k) (hx : x < lN 0) : k = 0 := by
  rcases h with ⟨h, _⟩ | ⟨a, b, e, _, hab, ha, _⟩
  · exact h
  · rw [e, pk_lLT (by omega) (by omega)] at hx
    omega
theorem z_AB1_some {m k : Nat} {x y : Int64} (h : z_AB1 m x y k) (hx : ¬ x < lN 0) : ∃ a b, x = lN a ∧ y = lN b ∧ b < a ∧ a ≤ 41000000 ∧ k = z_key m a b := by
  rcases h with ⟨_, e⟩ | h
  · rw [e] at hx
    exact absurd z_m1_lt hx
  · exact h
theorem z_AB1_pos {m k : Nat} {x y : Int64} (h : z_AB1 m x y k) (hx : ¬ x < lN 0) : 0 < k := by
  obtain ⟨a, b, _, _, hab, ha, e⟩ := z_AB1_some h hx
  rw [e]
  exact z_key_pos hab ha
theorem z_AB1_neg {m k : Nat} {x y : Int64} (h : z_AB1 m x y k) (hk : 0 < k) : ¬ x < lN 0 := fun q => by
  have := z_AB1_none h q
  omega
def z_WY (m s : Nat) (F : Nat → Nat → Nat) (n : Nat) (above below : Nat → Int64) (K : Nat → Nat → Nat) : Prop := (∀ i, i < n → ∀ c, c < 8 → z_AB1 m (above (8 * i + c)) (below (8 * i + c)) (K i c)) ∧ z_rows (z_LS m s F) n K
theorem z_upL {f : Nat → Int64} {k j : Nat} {x : Int64} (h : j ≠ k) : vp_updL f k x j = f j := pk_uLn h
/-- the way from one through j, met by k -/
def z_rel (lim fr : Nat) (D : Nat → Nat) (L : Nat → Nat → Nat) (j : Nat) (K : Nat → Nat) : Nat → Nat := fun c => if c < lim ∧ c ≠ fr ∧ D c = 0 then max (K c) (min (K j) (L j c)) else K c
theorem z_ifc {α : Type} {p q : Prop} [Decidable p] [Decidable q] {a b : α} (h : p ↔ q) : (if p then a else b) = if q then a else b := by
  by_cases hp : p
  · rw [if_pos hp, if_pos (h.mp hp)]
  · rw [if_neg hp, if_neg (fun x => hp (h.mpr x))]
theorem z_for_step {b n x y : Nat} {cn : Nat → Nat} {pl : Nat → Nat → Nat} : (if x < n ∧ y < n ∧ pl b x < pl b y then lN (if x < n ∧ y < n then z_for b cn pl x y else 0) + lN (cn b) else lN (if x < n ∧ y < n then z_for b cn pl x y else 0)) = lN (if x < n ∧ y < n then z_for (b + 1) cn pl x y else 0) := by
  by_cases h : x < n ∧ y < n
  · rw [if_pos h, if_pos h]
    show _ = lN (z_for b cn pl x y + _)
    by_cases h2 : pl b x < pl b y
    · rw [if_pos ⟨h.1, h.2, h2⟩, if_pos h2, lN_add]
    · rw [if_neg (fun q => h2 q.2.2), if_neg h2, Nat.add_zero]
  · rw [if_neg h, if_neg h, if_neg (fun q => h ⟨q.1, q.2.1⟩)]
theorem z_str1 {a b c d : Nat} (h1 : b < a) (h2 : d < c) {p : Prop} (h : p) : p := h
theorem z_cnt_no {pq P : Nat → Int64} {i j n : Nat} {q : Nat → Nat} {v : Int64} (h : q j ≤ q i) (m2 : ∀ x, x < 8 → ∀ y, y < 8 → pq (8 * x + y) = if ((x < i ∧ y < n ∨ x = i ∧ y < j) ∧ q x < q y) then P (8 * x + y) + v else P (8 * x + y)) : ∀ x, x < 8 → ∀ y, y < 8 → pq (8 * x + y) = if ((x < i ∧ y < n ∨ x = i ∧ y < j + 1) ∧ q x < q y) then P (8 * x + y) + v else P (8 * x + y) := by
  intro x hx y hy
  rw [m2 x hx y hy]
  by_cases e : x = i ∧ y = j
  · obtain ⟨rfl, rfl⟩ := e
    rw [if_neg (by omega), if_neg (by omega)]
  · exact z_ifc (by omega)
theorem z_cnt_yes {pq P : Nat → Int64} {i j n : Nat} {q : Nat → Nat} {v : Int64} (hi : i < 8) (hj : j < 8) (h : q i < q j) (m2 : ∀ x, x < 8 → ∀ y, y < 8 → pq (8 * x + y) = if ((x < i ∧ y < n ∨ x = i ∧ y < j) ∧ q x < q y) then P (8 * x + y) + v else P (8 * x + y)) : ∀ x, x < 8 → ∀ y, y < 8 → vp_updL pq (8 * i + j) (pq (8 * i + j) + v) (8 * x + y) = if ((x < i ∧ y < n ∨ x = i ∧ y < j + 1) ∧ q x < q y) then P (8 * x + y) + v else P (8 * x + y) := by
  intro x hx y hy
  unfold vp_updL
  by_cases e : x = i ∧ y = j
  · obtain ⟨rfl, rfl⟩ := e
    rw [if_pos rfl, if_pos (by omega), m2 x hx y hy, if_neg (by omega)]
  · rw [if_neg (by omega), m2 x hx y hy]
    exact z_ifc (by omega)
theorem z_im_no {m k1 k2 : Nat} {x y : Int64} (h : z_AB1 m x y k1) (hx : x < lN 0) : ¬ k2 < k1 := by
  rw [z_AB1_none h hx]
  exact Nat.not_lt_zero _
theorem z_im_yes {m k1 k2 : Nat} {x y x2 y2 : Int64} (h : z_AB1 m x y k1) (h2 : z_AB1 m x2 y2 k2) (hx : ¬ x < lN 0) (hx2 : x2 < lN 0) : k2 < k1 := by
  rw [z_AB1_none h2 hx2]
  exact z_AB1_pos h hx
theorem z_tk {m k a b ix : Nat} {A B : Nat → Int64} (hk : k ≤ z_key m a b) (hb : b < a) (ha : a ≤ 41000000) : z_AB1 m (vp_updL A ix (lN a) ix) (vp_updL B ix (lN b) ix) (max k (z_key m a b)) := by
  unfold vp_updL
  rw [if_pos rfl, if_pos rfl, Nat.max_eq_right hk]
  exact Or.inr ⟨a, b, rfl, rfl, hb, ha, rfl⟩
theorem z_tk0 {m k q : Nat} {x y : Int64} (h : z_AB1 m x y k) (hk : ¬ k < q) : z_AB1 m x y (max k q) := by
  rw [Nat.max_eq_left (Nat.not_lt.mp hk)]
  exact h
def z_sl (D K : Nat → Nat) (best : Int32) (j : Nat) : Prop := (best = -nI 1 ∧ ∀ c, c < j → D c = 0 → K c = 0) ∨ ∃ q, best = nI q ∧ q < j ∧ D q = 0 ∧ 0 < K q ∧ ∀ c, c < j → D c = 0 → K c ≤ K q
theorem z_m1_neg : (-nI 1 : Int32) < 0 := by decide +kernel
theorem z_sl_some {D K : Nat → Nat} {best : Int32} {j : Nat} (h : z_sl D K best j) (hb : ¬ best < 0) : ∃ q, best = nI q ∧ q < j ∧ D q = 0 ∧ 0 < K q ∧ ∀ c, c < j → D c = 0 → K c ≤ K q := by
  rcases h with ⟨e, _⟩ | h
  · rw [e] at hb
    exact absurd z_m1_neg hb
  · exact h
theorem z_sl_none {D K : Nat → Nat} {best : Int32} {j : Nat} (h : z_sl D K best j) (hj : j ≤ 8) (hb : best < 0) : ∀ c, c < j → D c = 0 → K c = 0 := by
  rcases h with ⟨_, h⟩ | ⟨q, e, hq, _⟩
  · exact h
  · rw [e] at hb
    exact absurd hb (nI_pos (by omega))
theorem z_sl_skip {D K : Nat → Nat} {best : Int32} {j : Nat} (h : z_sl D K best j) (hj : D j = 0 → K j = 0) : z_sl D K best (j + 1) := by
  rcases h with ⟨e, h⟩ | ⟨q, e, hq, hd, hk, hm⟩
  · refine Or.inl ⟨e, fun c hc hd => ?_⟩
    rcases Nat.lt_or_ge c j with h1 | h1
    · exact h c h1 hd
    · have e2 : c = j := by omega
      subst e2
      exact hj hd
  · refine Or.inr ⟨q, e, by omega, hd, hk, fun c hc hd => ?_⟩
    rcases Nat.lt_or_ge c j with h1 | h1
    · exact hm c h1 hd
    · have e2 : c = j := by omega
      subst e2
      have := hj hd
      omega
theorem z_sl_put {D K : Nat → Nat} {j : Nat} (hm : ∀ c, c < j → D c = 0 → K c ≤ K j) (hd : D j = 0) (hk : 0 < K j) : z_sl D K (nI j) (j + 1) := by
  refine Or.inr ⟨j, rfl, by omega, hd, hk, fun c hc hd => ?_⟩
  rcases Nat.lt_or_ge c j with h1 | h1
  · exact hm c h1 hd
  · have e2 : c = j := by omega
    subst e2
    exact Nat.le_refl _
theorem z_sl_new {D K : Nat → Nat} {best : Int32} {j : Nat} (h : z_sl D K best j) (hj : j ≤ 8) (hb : best < 0) (hd : D j = 0) (hk : 0 < K j) : z_sl D K (nI j) (j + 1) := z_sl_put (fun c hc h1 => by
  rw [z_sl_none h hj hb c hc h1]
  exact Nat.zero_le _) hd hk
theorem z_sl_keep {D K : Nat → Nat} {q j : Nat} (hq : q < j) (hd : D q = 0) (hk : 0 < K q) (hm : ∀ c, c < j → D c = 0 → K c ≤ K q) (h : ¬ K q < K j) : z_sl D K (nI q) (j + 1) := by
  refine Or.inr ⟨q, rfl, by omega, hd, hk, fun c hc h1 => ?_⟩
  rcases Nat.lt_or_ge c j with h2 | h2
  · exact hm c h2 h1
  · have e2 : c = j := by omega
    subst e2
    omega
theorem z_k0 {a b : Nat} : z_key 0 a b = a := rfl
theorem z_k1 {a b : Nat} : z_key 1 a b = a - b := rfl
theorem z_k3 {a b : Nat} : z_key 3 a b = 2 ^ 26 - b := rfl
theorem z_lmul (a b : Nat) : lN a * lN b = lN (a * b) := (Int64.ofNat_mul a b).symm
theorem z_lsub {a b : Nat} (h : b ≤ a) : lN a - lN b = lN (a - b) := by
  have e : lN a = lN (a - b) + lN b := by rw [lN_add, Nat.sub_add_cancel h]
  rw [e]
  exact Int64.add_sub_cancel _ _
theorem z_kst1 {a b c d : Nat} (h1 : b < a) (h2 : d < c) (ha : a ≤ 41000000) (hc : c ≤ 41000000) : (lN a - lN b ≤ lN c - lN d → ¬ z_key 1 c d < z_key 1 a b) ∧ (¬ lN a - lN b ≤ lN c - lN d → z_key 1 c d < z_key 1 a b) := by
  rw [z_lsub (by omega), z_lsub (by omega), pk_lLE (by omega) (by omega), z_k1, z_k1]
  exact ⟨fun h => by omega, fun h => by omega⟩
theorem z_kst2 {a b c d : Nat} (h1 : b < a) (h2 : d < c) (ha : a ≤ 41000000) (hc : c ≤ 41000000) (hb : b ≠ 0) (hd : d ≠ 0) : (lN a * lN d ≤ lN c * lN b → ¬ z_key 2 c d < z_key 2 a b) ∧ (¬ lN a * lN d ≤ lN c * lN b → z_key 2 c d < z_key 2 a b) := by
  have m1 : a * d ≤ 41000000 * 41000000 := Nat.mul_le_mul ha (by omega)
  have m2 : c * b ≤ 41000000 * 41000000 := Nat.mul_le_mul hc (by omega)
  rw [z_lmul, z_lmul, pk_lLE (by omega) (by omega), z_key_two h1 h2 ha hc, if_neg (by omega)]
  exact ⟨fun h => by omega, fun h => by omega⟩
theorem z_rel_self {lim fr j : Nat} {D K : Nat → Nat} {L : Nat → Nat → Nat} (h : D j ≠ 0) : z_rel lim fr D L j K j = K j := by
  unfold z_rel
  rw [if_neg (fun q => h q.2.2)]
theorem z_rel_zero {fr j : Nat} {D K : Nat → Nat} {L : Nat → Nat → Nat} {c : Nat} : z_rel 0 fr D L j K c = K c := by
  unfold z_rel
  rw [if_neg (fun q => absurd q.1 (Nat.not_lt_zero c))]
theorem z_rel_here {k fr j : Nat} {D K : Nat → Nat} {L : Nat → Nat → Nat} : z_rel k fr D L j K k = K k := by
  unfold z_rel
  rw [if_neg (fun q => absurd q.1 (Nat.lt_irrefl k))]
theorem z_rel_skip {k fr j : Nat} {D K : Nat → Nat} {L : Nat → Nat → Nat} (h : k = fr ∨ D k ≠ 0 ∨ L j k = 0) (c : Nat) : z_rel (k + 1) fr D L j K c = z_rel k fr D L j K c := by
  by_cases e : c = k
  · subst e
    rw [z_rel_here]
    unfold z_rel
    rcases h with h | h | h
    · rw [if_neg (fun q => q.2.1 h)]
    · rw [if_neg (fun q => h q.2.2)]
    · rw [h, Nat.min_zero, Nat.max_zero, ite_self]
  · unfold z_rel
    exact z_ifc (by omega)
theorem z_rel_step {k fr j m v : Nat} {D K : Nat → Nat} {L : Nat → Nat → Nat} {ab be ab2 be2 : Nat → Int64} (h : ∀ c, c < 8 → z_AB1 m (ab (8 * fr + c)) (be (8 * fr + c)) (z_rel k fr D L j K c)) (hn : z_AB1 m (ab2 (8 * fr + k)) (be2 (8 * fr + k)) (max (z_rel k fr D L j K k) v)) (ho : ∀ i, i ≠ 8 * fr + k → ab2 i = ab i ∧ be2 i = be i) (hk : k ≠ fr) (hd : D k = 0) (hv : v = min (K j) (L j k)) : ∀ c, c < 8 → z_AB1 m (ab2 (8 * fr + c)) (be2 (8 * fr + c)) (z_rel (k + 1) fr D L j K c) := by
  intro c hc
  by_cases e : c = k
  · subst e
    have e2 : z_rel (c + 1) fr D L j K c = max (z_rel c fr D L j K c) v := by
      rw [z_rel_here, hv]
      unfold z_rel
      rw [if_pos ⟨by omega, hk, hd⟩]
    rw [e2]
    exact hn
  · have e2 : z_rel (k + 1) fr D L j K c = z_rel k fr D L j K c := by
      unfold z_rel
      exact z_ifc (by omega)
    rw [e2, (ho _ (by omega)).1, (ho _ (by omega)).2]
    exact h c hc
/-! the strongest ways of a row, as they grow -/
def z_GR (L : Nat → Nat → Nat) (n fr : Nat) (K D : Nat → Nat) : Prop := K fr = 0 ∧ D fr ≠ 0 ∧ (∀ j, j < n → 0 < K j → z_re2 L n (K j) fr j) ∧ (∀ j, j < n → j ≠ fr → L fr j ≤ K j) ∧ (∀ c, c < n → D c ≠ 0 → c ≠ fr → ∀ j, j < n → j ≠ fr → min (K c) (L c j) ≤ K j) ∧ ∀ c, c < n → D c ≠ 0 → c ≠ fr → ∀ j, j < n → D j = 0 → K j ≤ K c
theorem z_GR_row {L : Nat → Nat → Nat} {n fr : Nat} {K D : Nat → Nat} (h : z_GR L n fr K D) (he : ∀ c, c < n → D c = 0 → K c = 0) : z_row L n fr K := by
  obtain ⟨h1, h2, h3, h4, h5, h6⟩ := h
  refine ⟨h1, h3, h4, fun c hc j hj hne => ?_⟩
  by_cases e : c = fr
  · rw [e, h1, Nat.zero_min]
    exact Nat.zero_le _
  · by_cases d : D c = 0
    · rw [he c hc d, Nat.zero_min]
      exact Nat.zero_le _
    · exact h5 c hc d e j hj hne
theorem z_rel_ge {n fr q : Nat} {D K : Nat → Nat} {L : Nat → Nat → Nat} (c : Nat) : K c ≤ z_rel n fr D L q K c := by
  unfold z_rel
  split
  · exact Nat.le_max_left _ _
  · exact Nat.le_refl _
theorem z_rel_done {n fr q c : Nat} {D K : Nat → Nat} {L : Nat → Nat → Nat} (h : D c ≠ 0) : z_rel n fr D L q K c = K c := by
  unfold z_rel
  rw [if_neg (fun x => h x.2.2)]
theorem z_rel_un {n fr q c : Nat} {D K : Nat → Nat} {L : Nat → Nat → Nat} (hc : c < n) (hf : c ≠ fr) (h : D c = 0) : z_rel n fr D L q K c = max (K c) (min (K q) (L q c)) := by
  unfold z_rel
  rw [if_pos ⟨hc, hf, h⟩]
theorem z_GR_step {L : Nat → Nat → Nat} {n fr q : Nat} {K D D2 : Nat → Nat} (h : z_GR L n fr K D) (hq : q < n) (hf : fr < n) (hd : D q = 0) (hk : 0 < K q) (hm : ∀ c, c < n → D c = 0 → K c ≤ K q) (h2q : D2 q ≠ 0) (h2 : ∀ c, c ≠ q → D2 c = D c) : z_GR L n fr (z_rel n fr D2 L q K) D2 := by
  obtain ⟨h1, h2f, h3, h4, h5, h6⟩ := h
  have hqf : q ≠ fr := fun e => h2f (e ▸ hd)
  have hdf : D2 fr ≠ 0 := by rw [h2 fr (fun e => hqf e.symm)]; exact h2f
  refine ⟨by rw [z_rel_done hdf]; exact h1, hdf, fun j hj hp => ?_, fun j hj hne => Nat.le_trans (h4 j hj hne) (z_rel_ge j), fun c hc hdc hcf j hj hne => ?_, fun c hc hdc hcf j hj hdj => ?_⟩
  · by_cases d : D2 j = 0
    · have hjf : j ≠ fr := fun e => hdf (e ▸ d)
      rw [z_rel_un hj hjf d] at hp ⊢
      rcases Nat.le_total (K j) (min (K q) (L q j)) with e | e
      · rw [Nat.max_eq_right e]
        exact z_re2_app (z_re2_mono (Nat.min_le_left _ _) (h3 q hq hk)) (z_re2_one hj (Nat.min_le_right _ _))
      · rw [Nat.max_eq_left e] at hp ⊢
        exact h3 j hj hp
    · rw [z_rel_done d] at hp ⊢
      exact h3 j hj hp
  · rw [z_rel_done hdc]
    by_cases e : c = q
    · subst e
      by_cases d : D2 j = 0
      · rw [z_rel_un hj hne d]
        exact Nat.le_max_right _ _
      · rw [z_rel_done d]
        by_cases e2 : j = c
        · rw [e2]
          exact Nat.min_le_left _ _
        · rw [h2 j e2] at d
          exact Nat.le_trans (Nat.min_le_left _ _) (h6 j hj d hne c hc hd)
    · rw [h2 c e] at hdc
      exact Nat.le_trans (h5 c hc hdc hcf j hj hne) (z_rel_ge j)
  · have hjf : j ≠ fr := fun e => hdf (e ▸ hdj)
    have hjq : j ≠ q := fun e => h2q (e ▸ hdj)
    have hdj2 : D j = 0 := by rw [← h2 j hjq]; exact hdj
    rw [z_rel_done hdc, z_rel_un hj hjf hdj]
    by_cases e : c = q
    · subst e
      exact Nat.max_le.mpr ⟨hm j hj hdj2, Nat.min_le_left _ _⟩
    · rw [h2 c e] at hdc
      exact Nat.max_le.mpr ⟨h6 c hc hdc hcf j hj hdj2, Nat.le_trans (Nat.min_le_left _ _) (h6 c hc hdc hcf q hq hd)⟩
theorem z_GR_init {L : Nat → Nat → Nat} {n fr : Nat} {K D : Nat → Nat} (hD : ∀ c, c ≠ fr → D c = 0) (hf : D fr ≠ 0) (hK : ∀ c, c < n → K c = if c ≠ fr then L fr c else 0) (hfn : fr < n) : z_GR L n fr K D := by
  refine ⟨by rw [hK fr hfn, if_neg (fun x => x rfl)], hf, fun j hj hp => ?_, fun j hj hne => by rw [hK j hj, if_pos hne]; exact Nat.le_refl _, fun c hc hd hne => absurd (hD c hne) hd, fun c hc hd hne => absurd (hD c hne) hd⟩
  rw [hK j hj] at hp ⊢
  split at hp
  · rw [if_pos (by assumption)]
    exact z_re2_one hj (Nat.le_refl _)
  · exact absurd hp (Nat.lt_irrefl 0)
theorem z_GR_meas {n q : Nat} {D D2 : Nat → Nat} (hq : q < n) (hd : D q = 0) (h2q : D2 q ≠ 0) (h2 : ∀ c, c ≠ q → D2 c = D c) : z_ct n (fun c => decide (D2 c = 0)) < z_ct n (fun c => decide (D c = 0)) := z_ct_lt (fun c _ h => by
  have h' : D2 c = 0 := of_decide_eq_true h
  have e : c ≠ q := fun e => h2q (e ▸ h')
  rw [h2 c e] at h'
  exact decide_eq_true h') ⟨q, hq, decide_eq_false h2q, decide_eq_true hd⟩
theorem z_best {D K : Nat → Nat} {n : Nat} {best : Int32} (h : (∃ q, best = nI q ∧ q < n ∧ D q = 0 ∧ 0 < K q ∧ ∀ c, c < n → D c = 0 → K c ≤ K q) ∨ (best = -nI 1 ∧ ∀ c, c < n → D c = 0 → K c = 0)) (hb : ¬ best < 0) : ∃ q, best = nI q ∧ q < n ∧ D q = 0 ∧ 0 < K q ∧ ∀ c, c < n → D c = 0 → K c ≤ K q := by
  rcases h with h | ⟨e, _⟩
  · exact h
  · rw [e] at hb
    exact absurd z_m1_neg hb
theorem z_best_no {D K : Nat → Nat} {n : Nat} {best : Int32} (hn : n ≤ 8) (h : (∃ q, best = nI q ∧ q < n ∧ D q = 0 ∧ 0 < K q ∧ ∀ c, c < n → D c = 0 → K c ≤ K q) ∨ (best = -nI 1 ∧ ∀ c, c < n → D c = 0 → K c = 0)) (hb : best < 0) : ∀ c, c < n → D c = 0 → K c = 0 := by
  rcases h with ⟨q, e, hq, _⟩ | ⟨_, h⟩
  · rw [e] at hb
    exact absurd hb (nI_pos (by omega))
  · exact h
theorem z_dn_set {dn : Nat → Int32} {D : Nat → Nat} {q : Nat} (h : ∀ c, c < 8 → dn c = nI (D c) ∧ D c < 2) : ∀ c, c < 8 → upd dn q (nI 1) c = nI ((fun c => if c = q then 1 else D c) c) ∧ (fun c => if c = q then 1 else D c) c < 2 := by
  intro c hc
  show (if c = q then nI 1 else dn c) = nI (if c = q then 1 else D c) ∧ (if c = q then 1 else D c) < 2
  split
  · exact ⟨rfl, by omega⟩
  · exact h c hc
theorem z_dn_init {dn : Nat → Int32} {fr : Nat} (h : ∀ c, c < 8 → dn c = nI 0) : ∀ c, c < 8 → upd dn fr (nI 1) c = nI ((fun c => if c = fr then 1 else 0) c) ∧ (fun c => if c = fr then 1 else 0) c < 2 := by
  intro c hc
  show (if c = fr then nI 1 else dn c) = nI (if c = fr then 1 else 0) ∧ (if c = fr then 1 else 0) < 2
  split
  · exact ⟨rfl, by omega⟩
  · exact ⟨h c hc, by omega⟩
theorem z_g0 {ab : Nat → Int64} {dn : Nat → Int32} {fr j : Nat} {v : Int64} {w : Int32} (h : ∀ c, c < j → ab (8 * fr + c) = v ∧ dn c = w) : ∀ c, c < j + 1 → vp_updL ab (8 * fr + j) v (8 * fr + c) = v ∧ upd dn j w c = w := by
  intro c hc
  unfold vp_updL upd
  by_cases e : c = j
  · rw [if_pos (by omega), if_pos e]
    exact ⟨rfl, rfl⟩
  · rw [if_neg (by omega), if_neg e]
    exact h c (by omega)
theorem z_g2 {m s fr j : Nat} {F : Nat → Nat → Nat} (h : ¬ z_lnk s F fr j) (c : Nat) : (if c < j + 1 ∧ c ≠ fr then z_LS m s F fr c else 0) = if c < j ∧ c ≠ fr then z_LS m s F fr c else 0 := by
  by_cases e : c = j
  · rw [e, z_LS_no h, ite_self, ite_self]
  · exact z_ifc (by omega)
theorem z_g1 {m s fr j : Nat} {F : Nat → Nat → Nat} {ab be a2 b2 : Nat → Int64} (h : z_lnk s F fr j) (m2 : ∀ c, c < 8 → z_AB1 m (ab (8 * fr + c)) (be (8 * fr + c)) (if c < j ∧ c ≠ fr then z_LS m s F fr c else 0)) (q : z_AB1 m (a2 (8 * fr + j)) (b2 (8 * fr + j)) (max 0 (z_key m (F fr j) (F j fr))) ∧ ∀ i, i ≠ 8 * fr + j → a2 i = ab i ∧ b2 i = be i) : ∀ c, c < 8 → z_AB1 m (a2 (8 * fr + c)) (b2 (8 * fr + c)) (if c < j + 1 ∧ c ≠ fr then z_LS m s F fr c else 0) := by
  intro c hc
  by_cases e : c = j
  · subst e
    rw [if_pos ⟨by omega, fun x => h.1 x.symm⟩, z_LS_yes h]
    have h1 := q.1
    rw [Nat.zero_max] at h1
    exact h1
  · rw [(q.2 _ (by omega)).1, (q.2 _ (by omega)).2, z_ifc (p := c < j + 1 ∧ c ≠ fr) (q := c < j ∧ c ≠ fr) (by omega)]
    exact m2 c hc
theorem z_wy_step {m s n i : Nat} {F : Nat → Nat → Nat} {ab be a2 b2 : Nat → Int64} (h : ∃ K : Nat → Nat → Nat, ∀ x, x < i → z_row (z_LS m s F) n x (K x) ∧ ∀ c, c < 8 → z_AB1 m (ab (8 * x + c)) (be (8 * x + c)) (K x c)) (q : (∃ K, z_row (z_LS m s F) n i K ∧ ∀ c, c < 8 → z_AB1 m (a2 (8 * i + c)) (b2 (8 * i + c)) (K c)) ∧ ∀ x, (x < 8 * i ∨ 8 * i + 8 ≤ x) → a2 x = ab x ∧ b2 x = be x) : ∃ K : Nat → Nat → Nat, ∀ x, x < i + 1 → z_row (z_LS m s F) n x (K x) ∧ ∀ c, c < 8 → z_AB1 m (a2 (8 * x + c)) (b2 (8 * x + c)) (K x c) := by
  obtain ⟨K, h⟩ := h
  obtain ⟨⟨K2, r, q⟩, o⟩ := q
  refine ⟨fun x => if x = i then K2 else K x, fun x hx => ?_⟩
  show z_row (z_LS m s F) n x (if x = i then K2 else K x) ∧ ∀ c, c < 8 → z_AB1 m (a2 (8 * x + c)) (b2 (8 * x + c)) ((if x = i then K2 else K x) c)
  by_cases e : x = i
  · subst e
    rw [if_pos rfl]
    exact ⟨r, q⟩
  · rw [if_neg e]
    refine ⟨(h x (by omega)).1, fun c hc => ?_⟩
    rw [(o (8 * x + c) (by omega)).1, (o (8 * x + c) (by omega)).2]
    exact (h x (by omega)).2 c hc
