/-! one table of strongest ways, by choice; FIRST as a function -/
theorem z_rows_uniq {L : Nat → Nat → Nat} {n : Nat} {K K2 : Nat → Nat → Nat} (h : z_rows L n K) (h2 : z_rows L n K2) {i j : Nat} (hi : i < n) (hj : j < n) : K i j = K2 i j := by
  by_cases e : j = i
  · subst e
    rw [(h j hi).1, (h2 j hi).1]
  · have key : ∀ A B : Nat → Nat → Nat, z_rows L n A → z_rows L n B → A i j ≤ B i j := by
      intro A B hA hB
      rcases Nat.eq_zero_or_pos (A i j) with q | q
      · omega
      · exact (z_row_iff (hB i hi) hi hj e q).mpr ((z_row_iff (hA i hi) hi hj e q).mp (Nat.le_refl _))
    exact Nat.le_antisymm (key K K2 h h2) (key K2 K h2 h)
noncomputable def z_KK (L : Nat → Nat → Nat) (n : Nat) : Nat → Nat → Nat := Classical.epsilon (fun K => z_rows L n K)
theorem z_KK_ok {L : Nat → Nat → Nat} {n : Nat} {K : Nat → Nat → Nat} (h : z_rows L n K) : z_rows L n (z_KK L n) := Classical.epsilon_spec (p := fun K => z_rows L n K) ⟨K, h⟩
theorem z_KK_eq {L : Nat → Nat → Nat} {n : Nat} {K : Nat → Nat → Nat} (h : z_rows L n K) {i j : Nat} (hi : i < n) (hj : j < n) : K i j = z_KK L n i j := z_rows_uniq h (z_KK_ok h) hi hj
theorem z_ub_congr {n : Nat} {K K2 : Nat → Nat → Nat} {s : Nat} (h : ∀ i, i < n → ∀ j, j < n → K i j = K2 i j) : z_ub n K s = z_ub n K2 s := by
  unfold z_ub
  refine z_set_congr (fun j hj => ?_)
  unfold z_ubb
  rw [z_allb_congr (q := fun i => !(s.testBit i && z_btb K2 i j))]
  intro i hi
  show (!(s.testBit i && z_btb K i j)) = _
  unfold z_btb
  rw [h i hi j hj, h j hj i hi]
noncomputable def z_ffi (n : Nat) (dr : Nat → Nat) (m s : Nat) (F : Nat → Nat → Nat) (s2 : Nat) : Nat := z_fi n dr (z_KK (z_LS m s F) n) s2
theorem z_ffi_eq {n : Nat} {dr : Nat → Nat} {m s : Nat} {F K : Nat → Nat → Nat} (h : z_rows (z_LS m s F) n K) (s2 : Nat) : z_fi n dr K s2 = z_ffi n dr m s F s2 := by
  unfold z_ffi z_fi
  rw [z_ub_congr (fun i hi j hj => z_KK_eq h hi hj)]
/-- FIRST -/
noncomputable def z_ff (n : Nat) (dr : Nat → Nat) (m s : Nat) (F : Nat → Nat → Nat) : Nat := z_ffi n dr m s F s
theorem z_ff_eq {n : Nat} {dr : Nat → Nat} {m s : Nat} {F K : Nat → Nat → Nat} (h : z_rows (z_LS m s F) n K) : z_fd dr (z_ub n K s) n 0 = z_ff n dr m s F := z_ffi_eq h s
def z_WAY (L : Nat → Nat → Nat) (n : Nat) (K : Nat → Nat → Nat) (a b : Nat) (D rw : Nat → Nat) : Prop := 0 < K a b ∧ z_DS L n (K a b) b D ∧ D a < 8 ∧ z_rt L n (K a b) a D rw (D a + 1) ∧ ∀ k, k < D a + 1 → rw k < n
def z_ba (n : Nat) (K : Nat → Nat → Nat) (i j : Nat) : Nat := 2 ^ i ||| z_set n (fun c => decide (c ≠ i ∧ K i j < K i c))
theorem z_or_T {p : Nat → Bool} {j a b : Nat} (hb : b = a ||| z_set j p) (h : p j = true) : b ||| 2 ^ j = a ||| z_set (j + 1) p := by
  rw [hb, Nat.or_assoc, z_set_T rfl h]
theorem z_or_F {p : Nat → Bool} {j a b : Nat} (hb : b = a ||| z_set j p) (h : p j = false) : b = a ||| z_set (j + 1) p := by
  rw [hb, ← z_set_F0 rfl h]
def z_dom (n ins : Nat) (F : Nat → Nat → Nat) (s : Nat) : Prop := ∀ i, i < n → s.testBit i = true → ∀ j, j < n → (z_dif ins s).testBit j = true → z_lnk ins F i j
def z_SM (n ins : Nat) (F : Nat → Nat → Nat) (lim v : Nat) : Prop := v < 2 ^ n ∧ v ≠ 0 ∧ z_dif v ins = 0 ∧ z_dom n ins F v ∧ ∀ x, x < lim → x ≠ 0 → z_dif x ins = 0 → z_dom n ins F x → z_pc v ≤ z_pc x
theorem z_dif_self {s : Nat} (hs : s < 256) : z_dif s s = 0 := by
  apply Nat.eq_of_testBit_eq
  intro i
  rw [z_dif_bit hs, Nat.zero_testBit]
  cases s.testBit i <;> rfl
theorem z_SM_0 {n ins : Nat} {F : Nat → Nat → Nat} (hn : n ≤ 8) (hi : ins < 2 ^ n) (h0 : ins ≠ 0) : z_SM n ins F 1 ins := by
  have := z_p2 hn
  have e := z_dif_self (s := ins) (by omega)
  refine ⟨hi, h0, e, fun i _ _ j _ hb => ?_, fun x hx h1 => absurd hx (by omega)⟩
  rw [e, Nat.zero_testBit] at hb
  cases hb
theorem z_SM_no {n ins x v : Nat} {F : Nat → Nat → Nat} (h : z_SM n ins F x v) (hx : ¬ z_dif x ins = 0 ∨ z_pc v ≤ z_pc x ∨ ¬ z_dom n ins F x) : z_SM n ins F (x + 1) v := by
  obtain ⟨h1, h2, h3, h4, h5⟩ := h
  refine ⟨h1, h2, h3, h4, fun y hy h0 hd hm => ?_⟩
  rcases (by omega : y < x ∨ y = x) with e | e
  · exact h5 y e h0 hd hm
  · subst e
    rcases hx with q | q | q
    · exact absurd hd q
    · exact q
    · exact absurd hm q
theorem z_SM_yes {n ins x v : Nat} {F : Nat → Nat → Nat} (h : z_SM n ins F x v) (hx : z_dif x ins = 0) (hl : z_pc x < z_pc v) (hd : z_dom n ins F x) (hn : x < 2 ^ n) (h0 : x ≠ 0) : z_SM n ins F (x + 1) x := by
  obtain ⟨h1, h2, h3, h4, h5⟩ := h
  refine ⟨hn, h0, hx, hd, fun y hy hy0 hyd hm => ?_⟩
  rcases (by omega : y < x ∨ y = x) with e | e
  · have := h5 y e hy0 hyd hm
    omega
  · subst e
    exact Nat.le_refl _
/-- aside of a set: ahead of all of it, or behind all -/
def z_asd (n : Nat) (q : Nat → Nat) (c s : Nat) : Bool := (true && z_allb n (fun x => !(s.testBit x && !decide (q c < q x)))) || (true && z_allb n (fun x => !(s.testBit x && !decide (q x < q c))))
def z_clo (n ins bm : Nat) (pl : Nat → Nat → Nat) (s : Nat) : Bool := decide (z_dif s ins = 0 ∧ 2 ≤ z_pc s ∧ s ≠ ins) && z_allb bm (fun b => z_allb n (fun c => !((z_dif ins s).testBit c && !z_asd n (pl b) c s)))
theorem z_allb_T {p : Nat → Bool} {i : Nat} (h : z_allb i p = true) (hp : p i = true) : z_allb (i + 1) p = true := by
  show (z_allb i p && p i) = true
  rw [h, hp]; rfl
theorem z_allb_F {p : Nat → Bool} {i n : Nat} (hi : i < n) (hp : p i = false) : z_allb n p = false := by
  cases h : z_allb n p with
  | false => rfl
  | true =>
    rw [z_allb_iff.mp h i hi] at hp
    cases hp
theorem z_ct_T {p : Nat → Bool} {i : Nat} (hp : p i = true) : z_ct (i + 1) p = z_ct i p + 1 := by
  show z_ct i p + _ = _
  rw [if_pos hp]
theorem z_ct_F {p : Nat → Bool} {i : Nat} (hp : p i = false) : z_ct (i + 1) p = z_ct i p := by
  show z_ct i p + _ = _
  rw [if_neg (by rw [hp]; decide), Nat.add_zero]
def z_bh (n ins : Nat) (q : Nat → Nat) (c : Nat) : Nat := z_ct n (fun k => ins.testBit k && decide (q c < q k))
def z_sum : Nat → (Nat → Nat) → Nat
  | 0, _ => 0
  | m + 1, f => z_sum m f + f m
theorem z_sum_le {f : Nat → Nat} {w : Nat} : ∀ {m : Nat}, (∀ i, i < m → f i ≤ w) → z_sum m f ≤ m * w
  | 0, _ => Nat.zero_le _
  | m + 1, h => by
    have h1 := z_sum_le (f := f) (w := w) (m := m) (fun i hi => h i (by omega))
    have h2 := h m (by omega)
    show z_sum m f + f m ≤ _
    rw [Nat.succ_mul]
    omega
/-- what is added up of a ballot: for SUM, for LEADS -/
def z_sf (n ins : Nat) (cn : Nat → Nat) (pl : Nat → Nat → Nat) (c what b : Nat) : Nat := if what = 0 then cn b * z_bh n ins (pl b) c else if z_bh n ins (pl b) c = z_pc ins - 1 then cn b else 0
def z_fadd (q : Nat → Nat) (c : Nat) (F : Nat → Nat → Nat) : Nat → Nat → Nat := fun i j => F i j + (if q i < q j then c else 0)
def z_fsub (q : Nat → Nat) (c : Nat) (F : Nat → Nat → Nat) : Nat → Nat → Nat := fun i j => F i j - (if q i < q j then c else 0)
theorem z_PR_add {P P2 : Nat → Int64} {n c : Nat} {F : Nat → Nat → Nat} {q : Nat → Nat} {v : Int64} (hn : n ≤ 8) (h : z_PR P n F) (hv : v = lN c) (hF : ∀ i, i < n → ∀ j, j < n → F i j + c ≤ 41000000) (he : ∀ x, x < 8 → ∀ y, y < 8 → P2 (8 * x + y) = if (x < n ∧ y < n ∧ q x < q y) then P (8 * x + y) + v else P (8 * x + y)) : z_PR P2 n (z_fadd q c F) := by
  intro i hi j hj
  rw [he i (by omega) j (by omega)]
  have h1 := h i hi j hj
  have h2 := hF i hi j hj
  unfold z_fadd
  by_cases e : q i < q j
  · rw [if_pos ⟨hi, hj, e⟩, if_pos e, h1.1, hv, lN_add]
    exact ⟨rfl, h2⟩
  · rw [if_neg (fun x => e x.2.2), if_neg e, Nat.add_zero]
    exact ⟨h1.1, by omega⟩
theorem z_m1L : (-nI 1).toInt64 = -lN 1 := by decide +kernel
theorem z_subL {a c : Nat} (h : c ≤ a) : lN a + -lN c = lN (a - c) := by
  rw [← z_lsub h]
  exact (Int64.sub_eq_add_neg _ _).symm
theorem z_PR_sub {P P2 : Nat → Int64} {n c : Nat} {F : Nat → Nat → Nat} {q : Nat → Nat} {v : Int64} (hn : n ≤ 8) (h : z_PR P n F) (hv : v = -lN c) (hF : ∀ i, i < n → ∀ j, j < n → q i < q j → c ≤ F i j) (he : ∀ x, x < 8 → ∀ y, y < 8 → P2 (8 * x + y) = if (x < n ∧ y < n ∧ q x < q y) then P (8 * x + y) + v else P (8 * x + y)) : z_PR P2 n (z_fsub q c F) := by
  intro i hi j hj
  rw [he i (by omega) j (by omega)]
  have h1 := h i hi j hj
  unfold z_fsub
  by_cases e : q i < q j
  · have h2 := hF i hi j hj e
    rw [if_pos ⟨hi, hj, e⟩, if_pos e, h1.1, hv, z_subL h2]
    exact ⟨rfl, by omega⟩
  · rw [if_neg (fun x => e x.2.2), if_neg e, Nat.sub_zero]
    exact h1
theorem z_for_ge {cn : Nat → Nat} {pl : Nat → Nat → Nat} {i j b : Nat} : ∀ {m : Nat}, b < m → pl b i < pl b j → cn b ≤ z_for m cn pl i j
  | m + 1, hb, h => by
    show _ ≤ z_for m cn pl i j + _
    rcases (by omega : b < m ∨ b = m) with e | e
    · have := z_for_ge (cn := cn) (m := m) e h
      omega
    · subst e
      rw [if_pos h]
      omega
theorem z_fsub_step {q : Nat → Nat} {c : Nat} {F : Nat → Nat → Nat} : z_fsub q 1 (z_fsub q c F) = z_fsub q (c + 1) F := by
  funext i j
  unfold z_fsub
  split <;> omega
theorem z_fsub_0 {q : Nat → Nat} {F : Nat → Nat → Nat} : z_fsub q 0 F = F := by
  funext i j
  unfold z_fsub
  split <;> rfl
theorem z_fadd_step {q : Nat → Nat} {c : Nat} {F : Nat → Nat → Nat} : z_fadd q 1 (z_fadd q c F) = z_fadd q (c + 1) F := by
  funext i j
  unfold z_fadd
  split <;> omega
theorem z_fadd_0 {q : Nat → Nat} {F : Nat → Nat → Nat} : z_fadd q 0 F = F := by
  funext i j
  unfold z_fadd
  split <;> rfl
theorem z_PR_back {P : Nat → Int64} {n : Nat} {F G : Nat → Nat → Nat} (h : z_PR P n G) (e : ∀ i, i < n → ∀ j, j < n → G i j = F i j) : z_PR P n F := by
  intro i hi j hj
  rw [← e i hi j hj]
  exact h i hi j hj
theorem z_fas {q : Nat → Nat} {c : Nat} {F : Nat → Nat → Nat} {i j : Nat} (h : q i < q j → c ≤ F i j) : z_fadd q c (z_fsub q c F) i j = F i j := by
  unfold z_fadd z_fsub
  by_cases e : q i < q j
  · have := h e
    simp only [if_pos e]
    omega
  · simp only [if_neg e]
    omega
theorem lN_or (a b : Nat) : lN a ||| lN b = lN (a ||| b) := Int64.toBitVec_inj.mp (by rw [Int64.toBitVec_or]; exact BitVec.ofNat_or.symm)
theorem z_lshl : ∀ k, k < 40 → lN 1 <<< ((nI k).toInt64 &&& 63) = lN (2 ^ k) := by decide +kernel
theorem z_nxne {nx y : Nat} (h : nx ≤ y) (hne : ¬ nx = y) : nx + 1 ≤ y := by omega
theorem z_wo_step {L : Nat → Nat → Nat} {n t i cc nx rm : Nat} {D rw : Nat → Nat} {rv : Nat → Int32} (l1 : 1 ≤ rm) (l2 : cc = rw (rm - 1)) (l4 : ∀ k, k < rm → rv k = nI (rw k)) (l5 : z_rt L n t i D rw rm) (l6 : ∀ k, k < rm → rw k < n) (l7 : D cc + (rm - 1) = D i) (m5 : ∀ y, y < nx → ¬ (D y + 1 = D cc ∧ t ≤ L cc y)) (ht : t ≤ L cc nx) (hx : nx < n) (hd : D nx + 1 = D cc) : 1 ≤ rm + 1 ∧ nx = (fun k => if k = rm then nx else rw k) (rm + 1 - 1) ∧ nx < n ∧ (∀ k, k < rm + 1 → upd rv rm (nI nx) k = nI ((fun k => if k = rm then nx else rw k) k)) ∧ z_rt L n t i D (fun k => if k = rm then nx else rw k) (rm + 1) ∧ (∀ k, k < rm + 1 → (fun k => if k = rm then nx else rw k) k < n) ∧ D nx + (rm + 1 - 1) = D i := by
  refine ⟨by omega, by simp, hx, fun k hk => ?_, z_rt_put l5 l1 ⟨hx, by rw [← l2]; exact hd, by rw [← l2]; exact ht, fun y hy => by rw [← l2]; exact m5 y hy⟩, fun k hk => ?_, by omega⟩
  · unfold upd
    by_cases e : k = rm
    · simp only [if_pos e]
    · simp only [if_neg e]
      exact l4 k (by omega)
  · by_cases e : k = rm
    · simp only [if_pos e]; exact hx
    · simp only [if_neg e]; exact l6 k (by omega)
theorem z_wo_end {L : Nat → Nat → Nat} {n i j rm cc : Nat} {K : Nat → Nat → Nat} {D rw : Nat → Nat} (hK : 0 < K i j) (hDS : z_DS L n (K i j) j D) (hDi : D i < 8) (l5 : z_rt L n (K i j) i D rw rm) (l6 : ∀ k, k < rm → rw k < n) (l7 : D cc + (rm - 1) = D i) (h0 : D cc = 0) (h1 : 1 ≤ rm) : z_WAY L n K i j D rw := by
  have e : rm = D i + 1 := by omega
  rw [e] at l5 l6
  exact ⟨hK, hDS, hDi, l5, l6⟩
theorem z_way0 {L : Nat → Nat → Nat} {n i j rm : Nat} {K : Nat → Nat → Nat} {r2 : Nat → Int32} (h : (K i j = 0 ∧ rm = 0) ∨ ∃ D rw, z_WAY L n K i j D rw ∧ rm = D i + 1 ∧ ∀ k, k < rm → r2 k = nI (rw k)) (h0 : rm = 0) : K i j = 0 := by
  rcases h with h | ⟨D, rw, _, e, _⟩
  · exact h.1
  · omega
theorem z_as_s {v i : Nat} {s : Nat} {f : Nat → Bool} (h : v = (true && z_allb i (fun x => !(s.testBit x && !f x))).toNat) (hs : s.testBit i = false) : v = (true && z_allb (i + 1) (fun x => !(s.testBit x && !f x))).toNat := by
  rw [← z_is_T (b := true) h (by show (!(s.testBit i && !f i)) = true; rw [hs]; rfl), h, z_tn1]
theorem z_as_T {v i : Nat} {s : Nat} {f : Nat → Prop} [∀ x, Decidable (f x)] (h : v = (true && z_allb i (fun x => !(s.testBit x && !decide (f x)))).toNat) (hs : f i) : v &&& 1 = (true && z_allb (i + 1) (fun x => !(s.testBit x && !decide (f x)))).toNat :=
  z_is_T (b := true) h (by show (!(s.testBit i && !decide (f i))) = true; rw [decide_eq_true hs]; cases s.testBit i <;> rfl)
theorem z_as_F {v i : Nat} {s : Nat} {f : Nat → Prop} [∀ x, Decidable (f x)] (h : v = (true && z_allb i (fun x => !(s.testBit x && !decide (f x)))).toNat) (hb : s.testBit i = true) (hs : ¬ f i) : v &&& 0 = (true && z_allb (i + 1) (fun x => !(s.testBit x && !decide (f x)))).toNat :=
  z_is_F (b := true) h (by show (!(s.testBit i && !decide (f i))) = false; rw [decide_eq_false hs, hb]; rfl)
theorem z_as_yes {n c s a b : Nat} {q : Nat → Nat} (h1 : a = (true && z_allb n (fun x => !(s.testBit x && !decide (q c < q x)))).toNat) (h2 : b = (true && z_allb n (fun x => !(s.testBit x && !decide (q x < q c)))).toNat) (h : ¬ a = 0 ∨ ¬ b = 0) : z_asd n q c s = true := by
  unfold z_asd
  rcases h with h | h
  · rw [h1] at h
    rw [z_tn_ne h]; rfl
  · rw [h2] at h
    rw [z_tn_ne h, Bool.or_true]
theorem z_as_no {n c s a b : Nat} {q : Nat → Nat} (h1 : a = (true && z_allb n (fun x => !(s.testBit x && !decide (q c < q x)))).toNat) (h2 : b = (true && z_allb n (fun x => !(s.testBit x && !decide (q x < q c)))).toNat) (ha : a = 0) (hb : b = 0) : z_asd n q c s = false := by
  unfold z_asd
  rw [h1] at ha
  rw [h2] at hb
  rw [z_tn_eq ha, z_tn_eq hb]; rfl
theorem z_clo_0 {n ins bm : Nat} {pl : Nat → Nat → Nat} : z_clo n ins bm pl 0 = false := by
  unfold z_clo
  rw [decide_eq_false (fun q => absurd q.2.1 (by decide))]
  rfl
