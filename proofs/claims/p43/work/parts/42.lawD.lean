/-! sums, draws, what is undone: their numbers -/
def y_b1 (s k : Nat) : Nat := (s.testBit k).toNat
theorem y_bt {s k : Nat} (hs : s < 256) (hk : k < 16) : (nI s >>> (nI k &&& 31)) &&& nI 1 = nI (y_b1 s k) := z_all2 (P := fun s k => (nI s >>> (nI k &&& 31)) &&& nI 1 = nI (y_b1 s k)) (m := 256) (n := 16) (by decide +kernel) hs hk
theorem y_b1T {s k : Nat} (h : y_b1 s k = 1) : s.testBit k = true := by
  unfold y_b1 at h
  cases e : s.testBit k with
  | true => rfl
  | false => rw [e] at h; exact absurd h (by decide)
theorem y_b1F {s k : Nat} (h : ¬ y_b1 s k = 1) : s.testBit k = false := by
  unfold y_b1 at h
  cases e : s.testBit k with
  | true => rw [e] at h; exact absurd rfl h
  | false => rfl
theorem y_b1_lt {s k : Nat} : y_b1 s k < 2 := by
  unfold y_b1
  cases s.testBit k <;> decide
theorem y_in2 {n : Nat} (hn : n < 9) : nI (2 ^ n - 1) >>> (nI 1 &&& 31) = nI (2 ^ (n - 1) - 1) := z_all1 (P := fun n => nI (2 ^ n - 1) >>> (nI 1 &&& 31) = nI (2 ^ (n - 1) - 1)) (m := 9) (by decide +kernel) hn
theorem y_ne1 {n : Nat} (hn : n < 9) (h2 : 2 ≤ n) : z_dif (2 ^ n - 1) 0 ≠ 2 ^ (n - 1) := z_all1 (P := fun n => 2 ≤ n → z_dif (2 ^ n - 1) 0 ≠ 2 ^ (n - 1)) (m := 9) (by decide +kernel) hn h2
theorem y_ne2 {n : Nat} (hn : n < 9) (h2 : 2 ≤ n) : z_dif (2 ^ n - 1) (2 ^ (n - 1)) ≠ 2 ^ (n - 1) := z_all1 (P := fun n => 2 ≤ n → z_dif (2 ^ n - 1) (2 ^ (n - 1)) ≠ 2 ^ (n - 1)) (m := 9) (by decide +kernel) hn h2
def y_io (n outs ins : Nat) : Prop := (outs = 0 ∧ ins = 2 ^ n - 1) ∨ (outs = 2 ^ (n - 1) ∧ ins = 2 ^ (n - 1) - 1)
theorem y_io_f {n outs ins : Nat} (hn : n < 9) (h2 : 2 ≤ n) (h : y_io n outs ins) : z_dif (2 ^ n - 1) outs = ins ∧ ins < 256 ∧ (1 ≤ z_pc ins ∧ z_pc ins ≤ 8) ∧ z_dif (2 ^ n - 1) ins = outs := by
  rcases h with ⟨rfl, rfl⟩ | ⟨rfl, rfl⟩
  · exact z_all1 (P := fun n => 2 ≤ n → z_dif (2 ^ n - 1) 0 = 2 ^ n - 1 ∧ 2 ^ n - 1 < 256 ∧ (1 ≤ z_pc (2 ^ n - 1) ∧ z_pc (2 ^ n - 1) ≤ 8) ∧ z_dif (2 ^ n - 1) (2 ^ n - 1) = 0) (m := 9) (by decide +kernel) hn h2
  · exact z_all1 (P := fun n => 2 ≤ n → z_dif (2 ^ n - 1) (2 ^ (n - 1)) = 2 ^ (n - 1) - 1 ∧ 2 ^ (n - 1) - 1 < 256 ∧ (1 ≤ z_pc (2 ^ (n - 1) - 1) ∧ z_pc (2 ^ (n - 1) - 1) ≤ 8) ∧ z_dif (2 ^ n - 1) (2 ^ (n - 1) - 1) = 2 ^ (n - 1)) (m := 9) (by decide +kernel) hn h2
theorem y_upS {g : Nat → Int32} {k : Nat} (h : ∀ i, i < k → g i = nI i) : ∀ i, i < k + 1 → upd g k (nI k) i = nI i := by
  intro i hi
  unfold upd
  split
  · rename_i e; rw [e]
  · exact h i (by omega)
theorem y_frA {dr : Nat → Nat} {w x k : Nat} (h1 : 1 ≤ k) (h2 : k ≤ w) : z_front dr w x k = dr (k - 1) := by
  unfold z_front
  rw [if_neg (by omega), if_pos h2]
theorem y_frB {dr : Nat → Nat} {w x k : Nat} (h2 : w < k) : z_front dr w x k = dr k := by
  unfold z_front
  rw [if_neg (by omega), if_neg (by omega)]
theorem y_sumC {f g : Nat → Nat} : ∀ {m : Nat}, (∀ i, i < m → f i = g i) → z_sum m f = z_sum m g
  | 0, _ => rfl
  | m + 1, h => by
    show z_sum m f + f m = z_sum m g + g m
    rw [y_sumC (m := m) (fun i hi => h i (by omega)), h m (by omega)]
theorem y_sumR1 {f : Nat → Nat} {b : Nat} : ∀ {m : Nat}, b ≤ m → z_sum m (fun x => if x < b then f x else f (x + 1)) + f b = z_sum (m + 1) f
  | 0, h => by
    obtain rfl : b = 0 := by omega
    rfl
  | m + 1, h => by
    rcases (by omega : b ≤ m ∨ b = m + 1) with e | rfl
    · have ih := y_sumR1 (f := f) (m := m) e
      show z_sum m _ + (if m < b then f m else f (m + 1)) + f b = z_sum (m + 1) f + f (m + 1)
      rw [if_neg (by omega)]
      omega
    · show z_sum (m + 1) _ + f (m + 1) = z_sum (m + 1) f + f (m + 1)
      rw [y_sumC (f := fun x => if x < m + 1 then f x else f (x + 1)) (g := f) (fun i hi => if_pos hi)]
theorem y_sumR {f : Nat → Nat} {b m : Nat} (h : b < m) : z_sum (m - 1) (fun x => if x < b then f x else f (x + 1)) = z_sum m f - f b ∧ f b ≤ z_sum m f := by
  obtain ⟨j, rfl⟩ : ∃ j, m = j + 1 := ⟨m - 1, by omega⟩
  have e := y_sumR1 (f := f) (m := j) (show b ≤ j by omega)
  rw [Nat.add_sub_cancel, ← e]
  omega
theorem y_f0 {n bm : Nat} {tp cn : Nat → Nat} {pl : Nat → Nat → Nat} : z_pts n tp 0 1 0 0 bm cn pl (.inl 0) := Or.inl ⟨0, ⟨0, 0, z_nm_no (by omega), Or.inl ⟨by omega, rfl⟩⟩, rfl⟩
/-- no ballot is like that one, once it is away -/
theorem y_gone {n k mn b : Nat} {cv : Nat → Nat} {pv : Nat → Nat → Nat} {pa : Nat → Nat} {pf : Nat → Nat → Int32} {g1 : Nat → Option Nat} {c1 : Nat → Int32} {q : Nat → Nat} (h : y_IV n k mn cv pv pa pf g1 c1) (hb : b < mn) (hq : ∀ c, c < n → q c = pv b c) : ∀ x, x < mn - 1 → ¬ z_same n (fun x => if x < b then pv x else pv (x + 1)) q x := by
  intro x hx hs
  obtain ⟨-, -, -, -, -, h7⟩ := h
  by_cases e : x < b
  · refine h7 b hb x e (fun c hc => ?_)
    have h1 : (if x < b then pv x else pv (x + 1)) c = q c := hs c hc
    rw [if_pos e] at h1
    exact h1.trans (hq c hc)
  · refine h7 (x + 1) (by omega) b (by omega) (fun c hc => ?_)
    have h1 : (if x < b then pv x else pv (x + 1)) c = q c := hs c hc
    rw [if_neg e] at h1
    exact ((hq c hc).symm.trans h1.symm)
theorem m_out1a {n : Nat} {bm : Nat} {ms : Nat} {dr : Nat → Nat} {cn : Nat → Nat} {pl : Nat → Nat → Nat} {I : Option (Nat × Nat × Nat × Nat × (Nat → Nat) × (Nat → Nat) × (Nat → Nat → Nat))} {fd : Nat} {tp : Nat → Nat} {wr : Nat} {pp : Nat → Int32} {sz : Nat → Nat} {ce : Nat → Int64} {k : Nat} {hX : List z_E} (h : y_CI n 0 bm ms dr cn pl I fd tp wr pp sz ce hX) (hk : k < n) (hne : z_dif (2 ^ n - 1) 0 ≠ 2 ^ k) : z_CAL 3 67 [.ref 0, .int (nI k), .int (nI 1)] hX (fun r h2 => r = some (.int (nI 0)) ∧ y_CI n (2 ^ k) bm ms dr cn pl I fd tp wr pp sz ce h2) := by
  refine z_CAL_mono ?_ (m_out1 h hk hne)
  rintro r h2 ⟨rfl, h3⟩
  rw [Nat.zero_or] at h3
  exact ⟨by rw [Nat.zero_testBit]; rfl, h3⟩
theorem m_out1b {n : Nat} {bm : Nat} {ms : Nat} {dr : Nat → Nat} {cn : Nat → Nat} {pl : Nat → Nat → Nat} {I : Option (Nat × Nat × Nat × Nat × (Nat → Nat) × (Nat → Nat) × (Nat → Nat → Nat))} {fd : Nat} {tp : Nat → Nat} {wr : Nat} {pp : Nat → Int32} {sz : Nat → Nat} {ce : Nat → Int64} {k : Nat} {hX : List z_E} (h : y_CI n (2 ^ k) bm ms dr cn pl I fd tp wr pp sz ce hX) (hk : k < n) (hne : z_dif (2 ^ n - 1) (2 ^ k) ≠ 2 ^ k) : z_CAL 3 67 [.ref 0, .int (nI k), .int (nI 1)] hX (fun r h2 => r = some (.int (nI 1)) ∧ y_CI n (2 ^ k) bm ms dr cn pl I fd tp wr pp sz ce h2) := by
  refine z_CAL_mono ?_ (m_out1 h hk hne)
  rintro r h2 ⟨rfl, h3⟩
  rw [Nat.or_self] at h3
  exact ⟨by rw [Nat.testBit_two_pow_self]; rfl, h3⟩
theorem m_sumI {n : Nat} {outs : Nat} {bm : Nat} {ms : Nat} {dr : Nat → Nat} {cn : Nat → Nat} {pl : Nat → Nat → Nat} {I : Option (Nat × Nat × Nat × Nat × (Nat → Nat) × (Nat → Nat) × (Nat → Nat → Nat))} {fd : Nat} {tp : Nat → Nat} {wr : Nat} {pp : Nat → Int32} {sz : Nat → Nat} {ce : Nat → Int64} {c p ins : Nat} {hX : List z_E} (h : y_CI n outs bm ms dr cn pl I fd tp wr pp sz ce hX) (hi : z_dif (2 ^ n - 1) outs = ins) (hc : c < n) (hp : p < 2) (hin : ins.testBit c = true) : z_CAL 5 83 [.ref 0, .int (nI c), .int (nI p)] hX (fun r h2 => r = some (.long (lN (z_sum bm (z_sf n ins cn pl c p)))) ∧ y_CI n outs bm ms dr cn pl I fd tp wr pp sz ce h2) := by
  subst hi
  exact m_sum h hc hp hin
theorem m_sumJ {n : Nat} {outs : Nat} {bm : Nat} {ms : Nat} {dr : Nat → Nat} {cn : Nat → Nat} {pl : Nat → Nat → Nat} {I : Option (Nat × Nat × Nat × Nat × (Nat → Nat) × (Nat → Nat) × (Nat → Nat → Nat))} {fd : Nat} {tp : Nat → Nat} {wr : Nat} {pp : Nat → Int32} {sz : Nat → Nat} {ce : Nat → Int64} {c p ins : Nat} {hX : List z_E} (h : y_CI n outs bm ms dr cn pl I fd tp wr pp sz ce hX) (hi : z_dif (2 ^ n - 1) outs = ins) (hc : c < n) (hin : ins.testBit c = false) : z_CAL 5 83 [.ref 0, .int (nI c), .int (nI p)] hX (fun r h2 => r = some (.long (-lN 9223372036854775808)) ∧ y_CI n outs bm ms dr cn pl I fd tp wr pp sz ce h2) := by
  subst hi
  exact m_sumN h hc hin
theorem m_rankI {n : Nat} {outs : Nat} {bm : Nat} {ms : Nat} {dr : Nat → Nat} {cn : Nat → Nat} {pl : Nat → Nat → Nat} {I : Option (Nat × Nat × Nat × Nat × (Nat → Nat) × (Nat → Nat) × (Nat → Nat → Nat))} {fd : Nat} {tp : Nat → Nat} {wr : Nat} {pp : Nat → Int32} {sz : Nat → Nat} {ce : Nat → Int64} {c ins : Nat} {hX : List z_E} (h : y_CI n outs bm ms dr cn pl I fd tp wr pp sz ce hX) (hi : z_dif (2 ^ n - 1) outs = ins) (hc : c < n) (hin : ins.testBit c = true) : z_CAL 6 81 [.ref 0, .int (nI c)] hX (fun r h2 => ∃ w, w < 8 ∧ r = some (.int (nI w)) ∧ y_CI n outs bm ms dr cn pl I fd tp wr pp sz ce h2) := by
  subst hi
  exact m_rank h hc hin
theorem m_rankJ {n : Nat} {outs : Nat} {bm : Nat} {ms : Nat} {dr : Nat → Nat} {cn : Nat → Nat} {pl : Nat → Nat → Nat} {I : Option (Nat × Nat × Nat × Nat × (Nat → Nat) × (Nat → Nat) × (Nat → Nat → Nat))} {fd : Nat} {tp : Nat → Nat} {wr : Nat} {pp : Nat → Int32} {sz : Nat → Nat} {ce : Nat → Int64} {c ins : Nat} {hX : List z_E} (h : y_CI n outs bm ms dr cn pl I fd tp wr pp sz ce hX) (hi : z_dif (2 ^ n - 1) outs = ins) (hc : c < n) (hin : ins.testBit c = false) : z_CAL 6 81 [.ref 0, .int (nI c)] hX (fun r h2 => r = some (.int (-nI 3)) ∧ y_CI n outs bm ms dr cn pl I fd tp wr pp sz ce h2) := by
  subst hi
  exact m_rankN h hc hin
def law_1045 (ε : y_Ev) (κ : y_K) : Prop := ∀ (ad : Nat → Nat) (q : Int32) (n : Nat) (pA : Nat) (ct : Nat) (mn : Nat) (parts : Nat) (cv : Nat → Nat) (pv : Nat → Nat → Nat) (pa : Nat → Nat) (pf : Nat → Nat → Int32) (g2 : Nat → Option Nat) (c2 : Nat → Int32) (tp : Nat → Nat) (pp : Nat → Int32) (wr : Nat) (all : Nat) (outs : Nat) (ins : Nat) (hX : List z_E), (y_CI n outs mn 0 ((fun k => k)) cv pv none 0 tp wr pp ((fun _ => 0)) ((fun _ => 0)) hX) → (2 ≤ n ∧ n ≤ 8) → (parts ≤ 10) → (1 ≤ mn) → (y_IV n parts mn cv pv pa pf g2 c2) → (all = z_sum mn cv) → (y_io n outs ins) → y_G ε κ zmL_law 14000 1400000 ((pA, .inl (y_c ε 3, 12, .inr (.inr (.inr (.inr g2))))) :: ((ct, .inl (y_c ε 0, 12, .inl c2)) :: ((y_PW ε mn pa pf) ++ (z_W (y_c ε) ad hX)))) (1045, [(0, .ref (y_a ε 42)), (1, .ref (ad 0)), (2, .int q), (3, .int (nI n)), (4, .int (nI 1)), (5, .ref pA), (6, .ref ct), (7, .int (nI mn)), (8, .int (nI all)), (12, .int (nI ins))], [], [])
def law_1278 (ε : y_Ev) (κ : y_K) : Prop := ∀ (ad : Nat → Nat) (q : Int32) (n : Nat) (pA : Nat) (ct : Nat) (mn : Nat) (parts : Nat) (cv : Nat → Nat) (pv : Nat → Nat → Nat) (pa : Nat → Nat) (pf : Nat → Nat → Int32) (g2 : Nat → Option Nat) (c2 : Nat → Int32) (tp : Nat → Nat) (pp : Nat → Int32) (wr : Nat) (all : Nat) (outs : Nat) (ins : Nat) (hX : List z_E), (y_CI n outs mn 0 ((fun k => k)) cv pv none 0 tp wr pp ((fun _ => 0)) ((fun _ => 0)) hX) → (2 ≤ n ∧ n ≤ 8) → (parts ≤ 10) → (1 ≤ mn) → (y_IV n parts mn cv pv pa pf g2 c2) → (all = z_sum mn cv) → (y_io n outs ins) → y_G ε κ zmL_law 14000 1400000 ((pA, .inl (y_c ε 3, 12, .inr (.inr (.inr (.inr g2))))) :: ((ct, .inl (y_c ε 0, 12, .inl c2)) :: ((y_PW ε mn pa pf) ++ (z_W (y_c ε) ad hX)))) (1278, [(0, .ref (y_a ε 42)), (1, .ref (ad 0)), (2, .int q), (3, .int (nI n)), (4, .int (nI 1)), (5, .ref pA), (6, .ref ct), (7, .int (nI mn)), (8, .int (nI all)), (12, .int (nI ins))], [], [])
set_option maxHeartbeats 4000000 in
set_option maxRecDepth 1000000 in
theorem law_p977 {ε : y_Ev} {κ : y_K} (hC : y_ok ε κ zmL_law 14 562 858236 6527540) (k1045 : law_1045 ε κ) : law_977 ε κ := by
  intro ad q n pA ct mn parts cv pv pa pf g2 c2 tp pp wr all hX hCI hn hp hm hIV hall
  have hL : y_L ε ≤ 260 := hC.2.2.2.2.2.2.2.1.2.2.2.2.2.2.2.2.1
  have hm10 := hIV.1
  have hpw : 2 ^ n ≤ 256 := (Nat.pow_le_pow_right (by decide) hn.2 : 2 ^ n ≤ 2 ^ 8)
  have hpw1 : 1 ≤ 2 ^ n := Nat.one_le_two_pow
  have hpv : 2 ^ (n - 1) ≤ 256 := (Nat.pow_le_pow_right (by decide) (by omega) : 2 ^ (n - 1) ≤ 2 ^ 8)
  refine y_steps hC 2 (σ' := (979, [(0, .ref (y_a ε 42)), (1, .ref (ad 0)), (2, .int q), (3, .int (nI n)), (4, .int (nI 1)), (5, .ref pA), (6, .ref ct), (7, .int (nI mn)), (8, .int (nI all))], [.int (nI n), .int (nI 1)], [])) rfl ?_
  refine y_shl hC rfl (by omega) ?_
  refine y_steps hC 1 (σ' := (981, [(0, .ref (y_a ε 42)), (1, .ref (ad 0)), (2, .int q), (3, .int (nI n)), (4, .int (nI 1)), (5, .ref pA), (6, .ref ct), (7, .int (nI mn)), (8, .int (nI all))], [.int (nI 1), .int (nI (2 ^ n))], [])) rfl ?_
  refine y_sbt hC ((2 ^ n) - 1) rfl (by omega) (by omega) ?_
  refine y_steps hC 6 (σ' := (990, [(12, .int (nI ((2 ^ n) - 1))), (0, .ref (y_a ε 42)), (1, .ref (ad 0)), (2, .int q), (3, .int (nI n)), (4, .int (nI 1)), (5, .ref pA), (6, .ref ct), (7, .int (nI mn)), (8, .int (nI all))], [.int ((((q >>> ((nI 6) &&& 31))) &&& (nI 1)))], [])) rfl ?_
  refine y_if hC (c := ¬ (((q >>> ((nI 6) &&& 31))) &&& (nI 1)) = 0) rfl (fun c_990 => ?_) (fun c_990 => ?_)
  · skip
    refine y_steps hC 0 (σ' := (1045, [(12, .int (nI ((2 ^ n) - 1))), (0, .ref (y_a ε 42)), (1, .ref (ad 0)), (2, .int q), (3, .int (nI n)), (4, .int (nI 1)), (5, .ref pA), (6, .ref ct), (7, .int (nI mn)), (8, .int (nI all))], [], [])) rfl ?_
    refine y_sub hC [1, 2, 3, 4, 5, 6, 7, 8, 9, 0] rfl ?_
    refine y_wid (14000) (1400000) (by omega) (by omega) ?_
    exact k1045 ad q n pA ct mn parts cv pv pa pf g2 c2 tp pp wr all 0 ((2 ^ n) - 1) hX (by exact hCI) (by exact hn) (by exact hp) (by exact hm) (by exact hIV) (by exact hall) (by first | exact Or.inl ⟨rfl, rfl⟩ | exact Or.inr ⟨rfl, rfl⟩)
  · skip
    replace c_990 := Decidable.not_not.mp c_990
    refine y_steps hC 4 (σ' := (998, [(12, .int (nI ((2 ^ n) - 1))), (0, .ref (y_a ε 42)), (1, .ref (ad 0)), (2, .int q), (3, .int (nI n)), (4, .int (nI 1)), (5, .ref pA), (6, .ref ct), (7, .int (nI mn)), (8, .int (nI all))], [.int (nI 1), .int (nI n), .ref (ad 0), .int (nI 1)], [])) rfl ?_
    refine y_sbt hC (n - 1) rfl (by first | assumption | omega | rfl | trivial) (by first | rfl | omega) ?_
    refine y_steps hC 1 (σ' := (1000, [(12, .int (nI ((2 ^ n) - 1))), (0, .ref (y_a ε 42)), (1, .ref (ad 0)), (2, .int q), (3, .int (nI n)), (4, .int (nI 1)), (5, .ref pA), (6, .ref ct), (7, .int (nI mn)), (8, .int (nI all))], [.int (nI 1), .int (nI (n - 1)), .ref (ad 0), .int (nI 1)], [])) rfl ?_
    obtain ⟨fs_1000, hh_1000⟩ := y_CI_hd hCI
    refine y_spl [[(pA, .inl (y_c ε 3, 12, .inr (.inr (.inr (.inr g2)))))], [(ct, .inl (y_c ε 0, 12, .inl c2))], y_PW ε mn pa pf] [z_W (y_c ε) ad hX] ?_
    refine y_cls (d := 3) (y := 67) (idx := 130) (ad := ad) (h := hX) (B := y_J [[(pA, .inl (y_c ε 3, 12, .inr (.inr (.inr (.inr g2)))))], [(ct, .inl (y_c ε 0, 12, .inl c2))], y_PW ε mn pa pf]) (av := [.int (nI (n - 1)), .int (nI 1)]) (fs := fs_1000) hC rfl (m_out1a hCI (by omega) (y_ne1 (by omega) hn.1)) rfl hh_1000 rfl (z_t1 (i := 203) rfl rfl) (z_t1 (i := 204) rfl rfl) (z_t1 (i := 205) rfl rfl) (z_t1 (i := 1) rfl rfl) (show _ = some 2 from by decide +kernel) rfl rfl (by omega) (by omega) rfl (fun r_1000 h_1000 p_1000 => ?_)
    obtain ⟨rfl, hCI_1000⟩ := p_1000
    refine y_cmb [[(pA, .inl (y_c ε 3, 12, .inr (.inr (.inr (.inr g2)))))], [(ct, .inl (y_c ε 0, 12, .inl c2))], y_PW ε mn pa pf] [z_W (y_c ε) ad h_1000] ?_
    refine y_steps hC 4 (σ' := (1009, [(12, .int (nI ((2 ^ n) - 1))), (0, .ref (y_a ε 42)), (1, .ref (ad 0)), (2, .int q), (3, .int (nI n)), (4, .int (nI 1)), (5, .ref pA), (6, .ref ct), (7, .int (nI mn)), (8, .int (nI all))], [.int (nI 1), .int (nI n), .ref (ad 0), .int (nI 1)], [])) rfl ?_
    refine y_sbt hC (n - 1) rfl (by first | assumption | omega | rfl | trivial) (by first | rfl | omega) ?_
    refine y_steps hC 1 (σ' := (1011, [(12, .int (nI ((2 ^ n) - 1))), (0, .ref (y_a ε 42)), (1, .ref (ad 0)), (2, .int q), (3, .int (nI n)), (4, .int (nI 1)), (5, .ref pA), (6, .ref ct), (7, .int (nI mn)), (8, .int (nI all))], [.int (nI 1), .int (nI (n - 1)), .ref (ad 0), .int (nI 1)], [])) rfl ?_
    obtain ⟨fs_1011, hh_1011⟩ := y_CI_hd hCI_1000
    refine y_spl [[(pA, .inl (y_c ε 3, 12, .inr (.inr (.inr (.inr g2)))))], [(ct, .inl (y_c ε 0, 12, .inl c2))], y_PW ε mn pa pf] [z_W (y_c ε) ad h_1000] ?_
    refine y_cls (d := 3) (y := 67) (idx := 130) (ad := ad) (h := h_1000) (B := y_J [[(pA, .inl (y_c ε 3, 12, .inr (.inr (.inr (.inr g2)))))], [(ct, .inl (y_c ε 0, 12, .inl c2))], y_PW ε mn pa pf]) (av := [.int (nI (n - 1)), .int (nI 1)]) (fs := fs_1011) hC rfl (m_out1b hCI_1000 (by omega) (y_ne2 (by omega) hn.1)) rfl hh_1011 rfl (z_t1 (i := 203) rfl rfl) (z_t1 (i := 204) rfl rfl) (z_t1 (i := 205) rfl rfl) (z_t1 (i := 1) rfl rfl) (show _ = some 2 from by decide +kernel) rfl rfl (by omega) (by omega) rfl (fun r_1011 h_1011 p_1011 => ?_)
    obtain ⟨rfl, hCI_1011⟩ := p_1011
    refine y_cmb [[(pA, .inl (y_c ε 3, 12, .inr (.inr (.inr (.inr g2)))))], [(ct, .inl (y_c ε 0, 12, .inl c2))], y_PW ε mn pa pf] [z_W (y_c ε) ad h_1011] ?_
    refine y_steps hC 4 (σ' := (1020, [(12, .int (nI ((2 ^ n) - 1))), (0, .ref (y_a ε 42)), (1, .ref (ad 0)), (2, .int q), (3, .int (nI n)), (4, .int (nI 1)), (5, .ref pA), (6, .ref ct), (7, .int (nI mn)), (8, .int (nI all))], [.int (nI 3), .ref (ad 0), .int (nI 1)], [])) rfl ?_
    obtain ⟨fs_1020, hh_1020⟩ := y_CI_hd hCI_1011
    refine y_spl [[(pA, .inl (y_c ε 3, 12, .inr (.inr (.inr (.inr g2)))))], [(ct, .inl (y_c ε 0, 12, .inl c2))], y_PW ε mn pa pf] [z_W (y_c ε) ad h_1011] ?_
    refine y_cls (d := 5) (y := 85) (idx := 85) (ad := ad) (h := h_1011) (B := y_J [[(pA, .inl (y_c ε 3, 12, .inr (.inr (.inr (.inr g2)))))], [(ct, .inl (y_c ε 0, 12, .inl c2))], y_PW ε mn pa pf]) (av := [.int (nI 3)]) (fs := fs_1020) hC rfl (m_told3 hCI_1011 ) rfl hh_1020 rfl (z_t3 (i := 64) rfl rfl) (z_t3 (i := 65) rfl rfl) (z_t3 (i := 66) rfl rfl) (z_t1 (i := 1) rfl rfl) (show _ = some 1 from by decide +kernel) rfl rfl (by omega) (by omega) rfl (fun r_1020 h_1020 p_1020 => ?_)
    obtain ⟨rfl, hCI_1020⟩ := p_1020
    refine y_cmb [[(pA, .inl (y_c ε 3, 12, .inr (.inr (.inr (.inr g2)))))], [(ct, .inl (y_c ε 0, 12, .inl c2))], y_PW ε mn pa pf] [z_W (y_c ε) ad h_1020] ?_
    refine y_steps hC 3 (σ' := (1026, [(12, .int (nI ((2 ^ n) - 1))), (0, .ref (y_a ε 42)), (1, .ref (ad 0)), (2, .int q), (3, .int (nI n)), (4, .int (nI 1)), (5, .ref pA), (6, .ref ct), (7, .int (nI mn)), (8, .int (nI all))], [.int (nI 1), .int (nI n), .int (nI 1), .int (nI (2 ^ (n - 1))), .int (nI 1)], [])) rfl ?_
    refine y_sbt hC (n - 1) rfl (by first | assumption | omega | rfl | trivial) (by first | rfl | omega) ?_
    refine y_steps hC 0 (σ' := (1027, [(12, .int (nI ((2 ^ n) - 1))), (0, .ref (y_a ε 42)), (1, .ref (ad 0)), (2, .int q), (3, .int (nI n)), (4, .int (nI 1)), (5, .ref pA), (6, .ref ct), (7, .int (nI mn)), (8, .int (nI all))], [.int (nI (n - 1)), .int (nI 1), .int (nI (2 ^ (n - 1))), .int (nI 1)], [])) rfl ?_
    refine y_shl hC rfl (by first | assumption | omega | rfl | trivial) ?_
    refine y_steps hC 0 (σ' := (1028, [(12, .int (nI ((2 ^ n) - 1))), (0, .ref (y_a ε 42)), (1, .ref (ad 0)), (2, .int q), (3, .int (nI n)), (4, .int (nI 1)), (5, .ref pA), (6, .ref ct), (7, .int (nI mn)), (8, .int (nI all))], [.int (nI (2 ^ (n - 1))), .int (nI (2 ^ (n - 1))), .int (nI 1)], [])) rfl ?_
    refine y_icne hC rfl rfl (rfl) ?_
    refine y_steps hC 2 (σ' := (1036, [(12, .int (nI ((2 ^ n) - 1))), (0, .ref (y_a ε 42)), (1, .ref (ad 0)), (2, .int q), (3, .int (nI n)), (4, .int (nI 1)), (5, .ref pA), (6, .ref ct), (7, .int (nI mn)), (8, .int (nI all))], [.int (nI 1), .int (nI 1)], [])) rfl ?_
    refine y_and hC (1) rfl (by first | rfl | decide) ?_
    refine y_steps hC 4 (σ' := (1043, [(4, .int (nI 1)), (12, .int (nI ((2 ^ n) - 1))), (0, .ref (y_a ε 42)), (1, .ref (ad 0)), (2, .int q), (3, .int (nI n)), (5, .ref pA), (6, .ref ct), (7, .int (nI mn)), (8, .int (nI all))], [.int (((nI ((2 ^ n) - 1)) >>> ((nI 1) &&& 31)))], [])) rfl ?_
    have er_1042 : ((nI ((2 ^ n) - 1)) >>> ((nI 1) &&& 31)) = nI (2 ^ (n - 1) - 1) := y_in2 (by omega)
    rw [er_1042]
    refine y_steps hC 1 (σ' := (1045, [(12, .int (nI (2 ^ (n - 1) - 1))), (4, .int (nI 1)), (0, .ref (y_a ε 42)), (1, .ref (ad 0)), (2, .int q), (3, .int (nI n)), (5, .ref pA), (6, .ref ct), (7, .int (nI mn)), (8, .int (nI all))], [], [])) rfl ?_
    refine y_sub hC [2, 3, 4, 5, 1, 6, 7, 8, 9, 0] rfl ?_
    refine y_wid (14000) (1400000) (by omega) (by omega) ?_
    exact k1045 ad q n pA ct mn parts cv pv pa pf g2 c2 tp pp wr all (2 ^ (n - 1)) (2 ^ (n - 1) - 1) h_1020 (by exact hCI_1020) (by exact hn) (by exact hp) (by exact hm) (by exact hIV) (by exact hall) (by first | exact Or.inl ⟨rfl, rfl⟩ | exact Or.inr ⟨rfl, rfl⟩)
set_option maxHeartbeats 4000000 in
set_option maxRecDepth 1000000 in
theorem law_p1045 {ε : y_Ev} {κ : y_K} (hC : y_ok ε κ zmL_law 14 562 858236 6527540) (k1278 : law_1278 ε κ) : law_1045 ε κ := by
  intro ad q n pA ct mn parts cv pv pa pf g2 c2 tp pp wr all outs ins hX hCI hn hp hm hIV hall hio
  have hL : y_L ε ≤ 260 := hC.2.2.2.2.2.2.2.1.2.2.2.2.2.2.2.2.1
  have hm10 := hIV.1
  obtain ⟨hi2, hi3, hi4, hi5⟩ := y_io_f (by omega) hn.1 hio
  refine y_steps hC 2 (σ' := (1048, [(13, .int (nI 0)), (0, .ref (y_a ε 42)), (1, .ref (ad 0)), (2, .int q), (3, .int (nI n)), (4, .int (nI 1)), (5, .ref pA), (6, .ref ct), (7, .int (nI mn)), (8, .int (nI all)), (12, .int (nI ins))], [], [])) rfl ?_
  have loop_1048 : ∀ (z_1048 : Nat) (c : Nat) (h1048 : List z_E), n - c < z_1048 → ((y_CI n outs mn 0 ((fun k => k)) cv pv none 0 tp wr pp ((fun _ => 0)) ((fun _ => 0)) h1048) ∧ (c ≤ n)) → y_G ε κ zmL_law 14000 1400000 ((pA, .inl (y_c ε 3, 12, .inr (.inr (.inr (.inr g2))))) :: ((ct, .inl (y_c ε 0, 12, .inl c2)) :: ((y_PW ε mn pa pf) ++ (z_W (y_c ε) ad h1048)))) (1048, [(0, .ref (y_a ε 42)), (1, .ref (ad 0)), (2, .int q), (3, .int (nI n)), (4, .int (nI 1)), (5, .ref pA), (6, .ref ct), (7, .int (nI mn)), (8, .int (nI all)), (12, .int (nI ins)), (13, .int (nI c))], [], []) := by
    intro z_1048
    induction z_1048 with
    | zero => intro c h1048 hm_1048 _; exact absurd hm_1048 (Nat.not_lt_zero _)
    | succ z_1048 ih_1048 =>
      intro c h1048 hm_1048 hi_1048
      obtain ⟨h_cl1048, hi_1048⟩ := hi_1048
      have r1 := hi_1048
      refine y_steps hC 2 (σ' := (1051, [(0, .ref (y_a ε 42)), (1, .ref (ad 0)), (2, .int q), (3, .int (nI n)), (4, .int (nI 1)), (5, .ref pA), (6, .ref ct), (7, .int (nI mn)), (8, .int (nI all)), (12, .int (nI ins)), (13, .int (nI c))], [.int (nI n), .int (nI c)], [])) rfl ?_
      refine y_if hC (c := nI n ≤ nI c) rfl (fun c_1051 => ?_) (fun c_1051 => ?_)
      · skip
        rw [nI_leI (by omega) (by omega)] at c_1051
        refine y_steps hC 0 (σ' := (1278, [(0, .ref (y_a ε 42)), (1, .ref (ad 0)), (2, .int q), (3, .int (nI n)), (4, .int (nI 1)), (5, .ref pA), (6, .ref ct), (7, .int (nI mn)), (8, .int (nI all)), (12, .int (nI ins)), (13, .int (nI c))], [], [])) rfl ?_
        refine y_sub hC [0, 1, 2, 3, 4, 5, 6, 7, 8, 9] rfl ?_
        refine y_wid (14000) (1400000) (by omega) (by omega) ?_
        exact k1278 ad q n pA ct mn parts cv pv pa pf g2 c2 tp pp wr all outs ins h1048 (by exact h_cl1048) (by exact hn) (by exact hp) (by exact hm) (by exact hIV) (by exact hall) (by exact hio)
      · skip
        rw [nI_leI (by omega) (by omega)] at c_1051
        refine y_steps hC 6 (σ' := (1063, [(18, .int (nI 0)), (16, .long (lN 0)), (14, .long (lN 0)), (0, .ref (y_a ε 42)), (1, .ref (ad 0)), (2, .int q), (3, .int (nI n)), (4, .int (nI 1)), (5, .ref pA), (6, .ref ct), (7, .int (nI mn)), (8, .int (nI all)), (12, .int (nI ins)), (13, .int (nI c))], [], [])) rfl ?_
        have loop_1063 : ∀ (z_1063 : Nat) (v : Nat) (u : Nat) (b : Nat), mn - b < z_1063 → ((b ≤ mn ∧ v = z_sum b (z_sf n ins cv pv c 0) ∧ u = z_sum b (z_sf n ins cv pv c 1))) → y_G ε κ zmL_law 14000 1400000 ((pA, .inl (y_c ε 3, 12, .inr (.inr (.inr (.inr g2))))) :: ((ct, .inl (y_c ε 0, 12, .inl c2)) :: ((y_PW ε mn pa pf) ++ (z_W (y_c ε) ad h1048)))) (1063, [(0, .ref (y_a ε 42)), (1, .ref (ad 0)), (2, .int q), (3, .int (nI n)), (4, .int (nI 1)), (5, .ref pA), (6, .ref ct), (7, .int (nI mn)), (8, .int (nI all)), (12, .int (nI ins)), (13, .int (nI c)), (14, .long (lN v)), (16, .long (lN u)), (18, .int (nI b))], [], []) := by
          intro z_1063
          induction z_1063 with
          | zero => intro v u b hm_1063 _; exact absurd hm_1063 (Nat.not_lt_zero _)
          | succ z_1063 ih_1063 =>
            intro v u b hm_1063 hi_1063
            obtain ⟨l1, l2, l3⟩ := hi_1063
            refine y_steps hC 2 (σ' := (1067, [(0, .ref (y_a ε 42)), (1, .ref (ad 0)), (2, .int q), (3, .int (nI n)), (4, .int (nI 1)), (5, .ref pA), (6, .ref ct), (7, .int (nI mn)), (8, .int (nI all)), (12, .int (nI ins)), (13, .int (nI c)), (14, .long (lN v)), (16, .long (lN u)), (18, .int (nI b))], [.int (nI mn), .int (nI b)], [])) rfl ?_
            refine y_if hC (c := nI mn ≤ nI b) rfl (fun c_1067 => ?_) (fun c_1067 => ?_)
            · skip
              rw [nI_leI (by omega) (by omega)] at c_1067
              refine y_steps hC 5 (σ' := (1183, [(0, .ref (y_a ε 42)), (1, .ref (ad 0)), (2, .int q), (3, .int (nI n)), (4, .int (nI 1)), (5, .ref pA), (6, .ref ct), (7, .int (nI mn)), (8, .int (nI all)), (12, .int (nI ins)), (13, .int (nI c)), (14, .long (lN v)), (16, .long (lN u)), (18, .int (nI b))], [.int (((((nI ins) >>> ((nI c) &&& 31))) &&& (nI 1)))], [])) rfl ?_
              have er_1182 : ((((nI ins) >>> ((nI c) &&& 31))) &&& (nI 1)) = nI (y_b1 ins c) := y_bt (by omega) (by omega)
              rw [er_1182]
              refine y_steps hC 1 (σ' := (1184, [(0, .ref (y_a ε 42)), (1, .ref (ad 0)), (2, .int q), (3, .int (nI n)), (4, .int (nI 1)), (5, .ref pA), (6, .ref ct), (7, .int (nI mn)), (8, .int (nI all)), (12, .int (nI ins)), (13, .int (nI c)), (14, .long (lN v)), (16, .long (lN u)), (18, .int (nI b))], [.int (nI 1), .int (nI (y_b1 ins c))], [])) rfl ?_
              refine y_if hC (c := ¬ nI (y_b1 ins c) = nI 1) rfl (fun c_1184 => ?_) (fun c_1184 => ?_)
              · skip
                rw [nI_eq (by have := y_b1_lt (s := ins) (k := c); omega) (by have := y_b1_lt (s := ins) (k := c); omega)] at c_1184
                skip
                have hbc := y_b1F c_1184
                refine y_steps hC 6 (σ' := (1200, [(18, .int (nI 0)), (0, .ref (y_a ε 42)), (1, .ref (ad 0)), (2, .int q), (3, .int (nI n)), (4, .int (nI 1)), (5, .ref pA), (6, .ref ct), (7, .int (nI mn)), (8, .int (nI all)), (12, .int (nI ins)), (13, .int (nI c)), (14, .long (lN v)), (16, .long (lN u))], [.int (nI 0), .int (nI c), .ref (ad 0), .int (nI 1)], [])) rfl ?_
                obtain ⟨fs_1200, hh_1200⟩ := y_CI_hd h_cl1048
                refine y_spl [[(pA, .inl (y_c ε 3, 12, .inr (.inr (.inr (.inr g2)))))], [(ct, .inl (y_c ε 0, 12, .inl c2))], y_PW ε mn pa pf] [z_W (y_c ε) ad h1048] ?_
                refine y_cls (d := 5) (y := 83) (idx := 136) (ad := ad) (h := h1048) (B := y_J [[(pA, .inl (y_c ε 3, 12, .inr (.inr (.inr (.inr g2)))))], [(ct, .inl (y_c ε 0, 12, .inl c2))], y_PW ε mn pa pf]) (av := [.int (nI c), .int (nI 0)]) (fs := fs_1200) hC rfl (m_sumJ h_cl1048 hi2 (by omega) hbc) rfl hh_1200 rfl (z_t3 (i := 30) rfl rfl) (z_t3 (i := 31) rfl rfl) (z_t3 (i := 32) rfl rfl) (z_t1 (i := 1) rfl rfl) (show _ = some 2 from by decide +kernel) rfl rfl (by omega) (by omega) rfl (fun r_1200 h_1200 p_1200 => ?_)
                obtain ⟨rfl, hCI_1200⟩ := p_1200
                refine y_cmb [[(pA, .inl (y_c ε 3, 12, .inr (.inr (.inr (.inr g2)))))], [(ct, .inl (y_c ε 0, 12, .inl c2))], y_PW ε mn pa pf] [z_W (y_c ε) ad h_1200] ?_
                refine y_steps hC 3 (σ' := (1216, [(18, .int (nI 0)), (0, .ref (y_a ε 42)), (1, .ref (ad 0)), (2, .int q), (3, .int (nI n)), (4, .int (nI 1)), (5, .ref pA), (6, .ref ct), (7, .int (nI mn)), (8, .int (nI all)), (12, .int (nI ins)), (13, .int (nI c)), (14, .long (lN v)), (16, .long (lN u))], [.long ((-lN 9223372036854775808)), .long ((-lN 9223372036854775808)), .int (nI 1)], [])) rfl ?_
                refine y_lcne hC rfl rfl rfl (rfl) ?_
                refine y_steps hC 3 (σ' := (1224, [(18, .int (nI 0)), (0, .ref (y_a ε 42)), (1, .ref (ad 0)), (2, .int q), (3, .int (nI n)), (4, .int (nI 1)), (5, .ref pA), (6, .ref ct), (7, .int (nI mn)), (8, .int (nI all)), (12, .int (nI ins)), (13, .int (nI c)), (14, .long (lN v)), (16, .long (lN u))], [.int (nI 1), .int (nI c), .ref (ad 0), .int (nI 1)], [])) rfl ?_
                obtain ⟨fs_1224, hh_1224⟩ := y_CI_hd hCI_1200
                refine y_spl [[(pA, .inl (y_c ε 3, 12, .inr (.inr (.inr (.inr g2)))))], [(ct, .inl (y_c ε 0, 12, .inl c2))], y_PW ε mn pa pf] [z_W (y_c ε) ad h_1200] ?_
                refine y_cls (d := 5) (y := 83) (idx := 136) (ad := ad) (h := h_1200) (B := y_J [[(pA, .inl (y_c ε 3, 12, .inr (.inr (.inr (.inr g2)))))], [(ct, .inl (y_c ε 0, 12, .inl c2))], y_PW ε mn pa pf]) (av := [.int (nI c), .int (nI 1)]) (fs := fs_1224) hC rfl (m_sumJ hCI_1200 hi2 (by omega) hbc) rfl hh_1224 rfl (z_t3 (i := 30) rfl rfl) (z_t3 (i := 31) rfl rfl) (z_t3 (i := 32) rfl rfl) (z_t1 (i := 1) rfl rfl) (show _ = some 2 from by decide +kernel) rfl rfl (by omega) (by omega) rfl (fun r_1224 h_1224 p_1224 => ?_)
                obtain ⟨rfl, hCI_1224⟩ := p_1224
                refine y_cmb [[(pA, .inl (y_c ε 3, 12, .inr (.inr (.inr (.inr g2)))))], [(ct, .inl (y_c ε 0, 12, .inl c2))], y_PW ε mn pa pf] [z_W (y_c ε) ad h_1224] ?_
                refine y_steps hC 3 (σ' := (1240, [(18, .int (nI 0)), (0, .ref (y_a ε 42)), (1, .ref (ad 0)), (2, .int q), (3, .int (nI n)), (4, .int (nI 1)), (5, .ref pA), (6, .ref ct), (7, .int (nI mn)), (8, .int (nI all)), (12, .int (nI ins)), (13, .int (nI c)), (14, .long (lN v)), (16, .long (lN u))], [.long ((-lN 9223372036854775808)), .long ((-lN 9223372036854775808)), .int (nI 1)], [])) rfl ?_
                refine y_lcne hC rfl rfl rfl (rfl) ?_
                refine y_steps hC 2 (σ' := (1247, [(18, .int (nI 0)), (0, .ref (y_a ε 42)), (1, .ref (ad 0)), (2, .int q), (3, .int (nI n)), (4, .int (nI 1)), (5, .ref pA), (6, .ref ct), (7, .int (nI mn)), (8, .int (nI all)), (12, .int (nI ins)), (13, .int (nI c)), (14, .long (lN v)), (16, .long (lN u))], [.int (nI c), .ref (ad 0), .int (nI 1)], [])) rfl ?_
                obtain ⟨fs_1247, hh_1247⟩ := y_CI_hd hCI_1224
                refine y_spl [[(pA, .inl (y_c ε 3, 12, .inr (.inr (.inr (.inr g2)))))], [(ct, .inl (y_c ε 0, 12, .inl c2))], y_PW ε mn pa pf] [z_W (y_c ε) ad h_1224] ?_
                refine y_cls (d := 6) (y := 81) (idx := 144) (ad := ad) (h := h_1224) (B := y_J [[(pA, .inl (y_c ε 3, 12, .inr (.inr (.inr (.inr g2)))))], [(ct, .inl (y_c ε 0, 12, .inl c2))], y_PW ε mn pa pf]) (av := [.int (nI c)]) (fs := fs_1247) hC rfl (m_rankJ hCI_1224 hi2 (by omega) hbc) rfl hh_1247 rfl (z_t2 (i := 231) rfl rfl) (z_t2 (i := 232) rfl rfl) (z_t2 (i := 233) rfl rfl) (z_t1 (i := 1) rfl rfl) (show _ = some 1 from by decide +kernel) rfl rfl (by omega) (by omega) rfl (fun r_1247 h_1247 p_1247 => ?_)
                obtain ⟨rfl, hCI_1247⟩ := p_1247
                refine y_cmb [[(pA, .inl (y_c ε 3, 12, .inr (.inr (.inr (.inr g2)))))], [(ct, .inl (y_c ε 0, 12, .inl c2))], y_PW ε mn pa pf] [z_W (y_c ε) ad h_1247] ?_
                refine y_steps hC 6 (σ' := (1269, [(18, .int (nI 0)), (0, .ref (y_a ε 42)), (1, .ref (ad 0)), (2, .int q), (3, .int (nI n)), (4, .int (nI 1)), (5, .ref pA), (6, .ref ct), (7, .int (nI mn)), (8, .int (nI all)), (12, .int (nI ins)), (13, .int (nI c)), (14, .long (lN v)), (16, .long (lN u))], [.int (nI 1), .int (nI 1)], [])) rfl ?_
                refine y_and hC (1) rfl (by first | rfl | decide) ?_
                refine y_steps hC 1 (σ' := (1272, [(4, .int (nI 1)), (18, .int (nI 0)), (0, .ref (y_a ε 42)), (1, .ref (ad 0)), (2, .int q), (3, .int (nI n)), (5, .ref pA), (6, .ref ct), (7, .int (nI mn)), (8, .int (nI all)), (12, .int (nI ins)), (13, .int (nI c)), (14, .long (lN v)), (16, .long (lN u))], [], [])) rfl ?_
                refine y_inc hC (n := 1) rfl rfl rfl (c + 1) (by rfl) [(13, .int (nI (c + 1))), (4, .int (nI 1)), (18, .int (nI 0)), (0, .ref (y_a ε 42)), (1, .ref (ad 0)), (2, .int q), (3, .int (nI n)), (5, .ref pA), (6, .ref ct), (7, .int (nI mn)), (8, .int (nI all)), (12, .int (nI ins)), (14, .long (lN v)), (16, .long (lN u))] rfl ?_
                refine y_steps hC 1 (σ' := (1048, [(13, .int (nI (c + 1))), (4, .int (nI 1)), (18, .int (nI 0)), (0, .ref (y_a ε 42)), (1, .ref (ad 0)), (2, .int q), (3, .int (nI n)), (5, .ref pA), (6, .ref ct), (7, .int (nI mn)), (8, .int (nI all)), (12, .int (nI ins)), (14, .long (lN v)), (16, .long (lN u))], [], [])) rfl ?_
                refine y_sub hC [3, 4, 5, 6, 1, 7, 8, 9, 10, 11, 0] rfl ?_
                exact ih_1048 (c + 1) h_1247 (by omega) ⟨(by exact hCI_1247), (by omega)⟩
              · skip
                rw [nI_eq (by have := y_b1_lt (s := ins) (k := c); omega) (by have := y_b1_lt (s := ins) (k := c); omega)] at c_1184
                replace c_1184 := Decidable.not_not.mp c_1184
                have hbc := y_b1T c_1184
                refine y_steps hC 7 (σ' := (1200, [(18, .int (nI 1)), (0, .ref (y_a ε 42)), (1, .ref (ad 0)), (2, .int q), (3, .int (nI n)), (4, .int (nI 1)), (5, .ref pA), (6, .ref ct), (7, .int (nI mn)), (8, .int (nI all)), (12, .int (nI ins)), (13, .int (nI c)), (14, .long (lN v)), (16, .long (lN u))], [.int (nI 0), .int (nI c), .ref (ad 0), .int (nI 1)], [])) rfl ?_
                obtain ⟨fs_1200, hh_1200⟩ := y_CI_hd h_cl1048
                refine y_spl [[(pA, .inl (y_c ε 3, 12, .inr (.inr (.inr (.inr g2)))))], [(ct, .inl (y_c ε 0, 12, .inl c2))], y_PW ε mn pa pf] [z_W (y_c ε) ad h1048] ?_
                refine y_cls (d := 5) (y := 83) (idx := 136) (ad := ad) (h := h1048) (B := y_J [[(pA, .inl (y_c ε 3, 12, .inr (.inr (.inr (.inr g2)))))], [(ct, .inl (y_c ε 0, 12, .inl c2))], y_PW ε mn pa pf]) (av := [.int (nI c), .int (nI 0)]) (fs := fs_1200) hC rfl (m_sumI h_cl1048 hi2 (by omega) (by decide) hbc) rfl hh_1200 rfl (z_t3 (i := 30) rfl rfl) (z_t3 (i := 31) rfl rfl) (z_t3 (i := 32) rfl rfl) (z_t1 (i := 1) rfl rfl) (show _ = some 2 from by decide +kernel) rfl rfl (by omega) (by omega) rfl (fun r_1200 h_1200 p_1200 => ?_)
                obtain ⟨rfl, hCI_1200⟩ := p_1200
                refine y_cmb [[(pA, .inl (y_c ε 3, 12, .inr (.inr (.inr (.inr g2)))))], [(ct, .inl (y_c ε 0, 12, .inl c2))], y_PW ε mn pa pf] [z_W (y_c ε) ad h_1200] ?_
                refine y_steps hC 4 (σ' := (1216, [(18, .int (nI 1)), (0, .ref (y_a ε 42)), (1, .ref (ad 0)), (2, .int q), (3, .int (nI n)), (4, .int (nI 1)), (5, .ref pA), (6, .ref ct), (7, .int (nI mn)), (8, .int (nI all)), (12, .int (nI ins)), (13, .int (nI c)), (14, .long (lN v)), (16, .long (lN u))], [.long (lN v), .long (lN (z_sum mn (z_sf n ins cv pv c 0))), .int (nI 1)], [])) rfl ?_
                refine y_lcne hC rfl rfl rfl (congrArg lN (by rw [l2, show b = mn by omega])) ?_
                refine y_steps hC 3 (σ' := (1224, [(18, .int (nI 1)), (0, .ref (y_a ε 42)), (1, .ref (ad 0)), (2, .int q), (3, .int (nI n)), (4, .int (nI 1)), (5, .ref pA), (6, .ref ct), (7, .int (nI mn)), (8, .int (nI all)), (12, .int (nI ins)), (13, .int (nI c)), (14, .long (lN v)), (16, .long (lN u))], [.int (nI 1), .int (nI c), .ref (ad 0), .int (nI 1)], [])) rfl ?_
                obtain ⟨fs_1224, hh_1224⟩ := y_CI_hd hCI_1200
                refine y_spl [[(pA, .inl (y_c ε 3, 12, .inr (.inr (.inr (.inr g2)))))], [(ct, .inl (y_c ε 0, 12, .inl c2))], y_PW ε mn pa pf] [z_W (y_c ε) ad h_1200] ?_
                refine y_cls (d := 5) (y := 83) (idx := 136) (ad := ad) (h := h_1200) (B := y_J [[(pA, .inl (y_c ε 3, 12, .inr (.inr (.inr (.inr g2)))))], [(ct, .inl (y_c ε 0, 12, .inl c2))], y_PW ε mn pa pf]) (av := [.int (nI c), .int (nI 1)]) (fs := fs_1224) hC rfl (m_sumI hCI_1200 hi2 (by omega) (by decide) hbc) rfl hh_1224 rfl (z_t3 (i := 30) rfl rfl) (z_t3 (i := 31) rfl rfl) (z_t3 (i := 32) rfl rfl) (z_t1 (i := 1) rfl rfl) (show _ = some 2 from by decide +kernel) rfl rfl (by omega) (by omega) rfl (fun r_1224 h_1224 p_1224 => ?_)
                obtain ⟨rfl, hCI_1224⟩ := p_1224
                refine y_cmb [[(pA, .inl (y_c ε 3, 12, .inr (.inr (.inr (.inr g2)))))], [(ct, .inl (y_c ε 0, 12, .inl c2))], y_PW ε mn pa pf] [z_W (y_c ε) ad h_1224] ?_
                refine y_steps hC 4 (σ' := (1240, [(18, .int (nI 1)), (0, .ref (y_a ε 42)), (1, .ref (ad 0)), (2, .int q), (3, .int (nI n)), (4, .int (nI 1)), (5, .ref pA), (6, .ref ct), (7, .int (nI mn)), (8, .int (nI all)), (12, .int (nI ins)), (13, .int (nI c)), (14, .long (lN v)), (16, .long (lN u))], [.long (lN u), .long (lN (z_sum mn (z_sf n ins cv pv c 1))), .int (nI 1)], [])) rfl ?_
                refine y_lcne hC rfl rfl rfl (congrArg lN (by rw [l3, show b = mn by omega])) ?_
                refine y_steps hC 2 (σ' := (1247, [(18, .int (nI 1)), (0, .ref (y_a ε 42)), (1, .ref (ad 0)), (2, .int q), (3, .int (nI n)), (4, .int (nI 1)), (5, .ref pA), (6, .ref ct), (7, .int (nI mn)), (8, .int (nI all)), (12, .int (nI ins)), (13, .int (nI c)), (14, .long (lN v)), (16, .long (lN u))], [.int (nI c), .ref (ad 0), .int (nI 1)], [])) rfl ?_
                obtain ⟨fs_1247, hh_1247⟩ := y_CI_hd hCI_1224
                refine y_spl [[(pA, .inl (y_c ε 3, 12, .inr (.inr (.inr (.inr g2)))))], [(ct, .inl (y_c ε 0, 12, .inl c2))], y_PW ε mn pa pf] [z_W (y_c ε) ad h_1224] ?_
                refine y_cls (d := 6) (y := 81) (idx := 144) (ad := ad) (h := h_1224) (B := y_J [[(pA, .inl (y_c ε 3, 12, .inr (.inr (.inr (.inr g2)))))], [(ct, .inl (y_c ε 0, 12, .inl c2))], y_PW ε mn pa pf]) (av := [.int (nI c)]) (fs := fs_1247) hC rfl (m_rankI hCI_1224 hi2 (by omega) hbc) rfl hh_1247 rfl (z_t2 (i := 231) rfl rfl) (z_t2 (i := 232) rfl rfl) (z_t2 (i := 233) rfl rfl) (z_t1 (i := 1) rfl rfl) (show _ = some 1 from by decide +kernel) rfl rfl (by omega) (by omega) rfl (fun r_1247 h_1247 p_1247 => ?_)
                obtain ⟨w_1247, hx_1247, rfl, hCI_1247⟩ := p_1247
                refine y_cmb [[(pA, .inl (y_c ε 3, 12, .inr (.inr (.inr (.inr g2)))))], [(ct, .inl (y_c ε 0, 12, .inl c2))], y_PW ε mn pa pf] [z_W (y_c ε) ad h_1247] ?_
                refine y_steps hC 4 (σ' := (1261, [(18, .int (nI 1)), (0, .ref (y_a ε 42)), (1, .ref (ad 0)), (2, .int q), (3, .int (nI n)), (4, .int (nI 1)), (5, .ref pA), (6, .ref ct), (7, .int (nI mn)), (8, .int (nI all)), (12, .int (nI ins)), (13, .int (nI c)), (14, .long (lN v)), (16, .long (lN u))], [.int (nI 0), .int (nI w_1247), .int (nI 1)], [])) rfl ?_
                refine y_if hC (c := nI w_1247 < nI 0) rfl (fun c_1261 => ?_) (fun c_1261 => ?_)
                · skip
                  rw [nI_ltI (by omega) (by omega)] at c_1261
                  omega
                · skip
                  rw [nI_ltI (by omega) (by omega)] at c_1261
                  refine y_steps hC 2 (σ' := (1269, [(18, .int (nI 1)), (0, .ref (y_a ε 42)), (1, .ref (ad 0)), (2, .int q), (3, .int (nI n)), (4, .int (nI 1)), (5, .ref pA), (6, .ref ct), (7, .int (nI mn)), (8, .int (nI all)), (12, .int (nI ins)), (13, .int (nI c)), (14, .long (lN v)), (16, .long (lN u))], [.int (nI 1), .int (nI 1)], [])) rfl ?_
                  refine y_and hC (1) rfl (by first | rfl | decide) ?_
                  refine y_steps hC 1 (σ' := (1272, [(4, .int (nI 1)), (18, .int (nI 1)), (0, .ref (y_a ε 42)), (1, .ref (ad 0)), (2, .int q), (3, .int (nI n)), (5, .ref pA), (6, .ref ct), (7, .int (nI mn)), (8, .int (nI all)), (12, .int (nI ins)), (13, .int (nI c)), (14, .long (lN v)), (16, .long (lN u))], [], [])) rfl ?_
                  refine y_inc hC (n := 1) rfl rfl rfl (c + 1) (by rfl) [(13, .int (nI (c + 1))), (4, .int (nI 1)), (18, .int (nI 1)), (0, .ref (y_a ε 42)), (1, .ref (ad 0)), (2, .int q), (3, .int (nI n)), (5, .ref pA), (6, .ref ct), (7, .int (nI mn)), (8, .int (nI all)), (12, .int (nI ins)), (14, .long (lN v)), (16, .long (lN u))] rfl ?_
                  refine y_steps hC 1 (σ' := (1048, [(13, .int (nI (c + 1))), (4, .int (nI 1)), (18, .int (nI 1)), (0, .ref (y_a ε 42)), (1, .ref (ad 0)), (2, .int q), (3, .int (nI n)), (5, .ref pA), (6, .ref ct), (7, .int (nI mn)), (8, .int (nI all)), (12, .int (nI ins)), (14, .long (lN v)), (16, .long (lN u))], [], [])) rfl ?_
                  refine y_sub hC [3, 4, 5, 6, 1, 7, 8, 9, 10, 11, 0] rfl ?_
                  exact ih_1048 (c + 1) h_1247 (by omega) ⟨(by exact hCI_1247), (by omega)⟩
            · skip
              rw [nI_leI (by omega) (by omega)] at c_1067
              refine y_steps hC 4 (σ' := (1076, [(20, .int (nI 0)), (19, .int (nI 0)), (0, .ref (y_a ε 42)), (1, .ref (ad 0)), (2, .int q), (3, .int (nI n)), (4, .int (nI 1)), (5, .ref pA), (6, .ref ct), (7, .int (nI mn)), (8, .int (nI all)), (12, .int (nI ins)), (13, .int (nI c)), (14, .long (lN v)), (16, .long (lN u)), (18, .int (nI b))], [], [])) rfl ?_
              have loop_1076 : ∀ (z_1076 : Nat) (h : Nat) (k : Nat), n - k < z_1076 → ((k ≤ n ∧ h = z_ct k (fun k => ins.testBit k && decide (pv b c < pv b k)))) → y_G ε κ zmL_law 14000 1400000 ((pA, .inl (y_c ε 3, 12, .inr (.inr (.inr (.inr g2))))) :: ((ct, .inl (y_c ε 0, 12, .inl c2)) :: ((y_PW ε mn pa pf) ++ (z_W (y_c ε) ad h1048)))) (1076, [(0, .ref (y_a ε 42)), (1, .ref (ad 0)), (2, .int q), (3, .int (nI n)), (4, .int (nI 1)), (5, .ref pA), (6, .ref ct), (7, .int (nI mn)), (8, .int (nI all)), (12, .int (nI ins)), (13, .int (nI c)), (14, .long (lN v)), (16, .long (lN u)), (18, .int (nI b)), (19, .int (nI h)), (20, .int (nI k))], [], []) := by
                intro z_1076
                induction z_1076 with
                | zero => intro h k hm_1076 _; exact absurd hm_1076 (Nat.not_lt_zero _)
                | succ z_1076 ih_1076 =>
                  intro h k hm_1076 hi_1076
                  obtain ⟨m1, m2⟩ := hi_1076; have hct := z_ct_le (fun k => ins.testBit k && decide (pv b c < pv b k)) k
                  refine y_steps hC 2 (σ' := (1079, [(0, .ref (y_a ε 42)), (1, .ref (ad 0)), (2, .int q), (3, .int (nI n)), (4, .int (nI 1)), (5, .ref pA), (6, .ref ct), (7, .int (nI mn)), (8, .int (nI all)), (12, .int (nI ins)), (13, .int (nI c)), (14, .long (lN v)), (16, .long (lN u)), (18, .int (nI b)), (19, .int (nI h)), (20, .int (nI k))], [.int (nI n), .int (nI k)], [])) rfl ?_
                  refine y_if hC (c := nI n ≤ nI k) rfl (fun c_1079 => ?_) (fun c_1079 => ?_)
                  · skip
                    rw [nI_leI (by omega) (by omega)] at c_1079
                    have hh : h = z_bh n ins (pv b) c := (by rw [m2, show k = n by omega]; rfl)
                    refine y_steps hC 3 (σ' := (1134, [(0, .ref (y_a ε 42)), (1, .ref (ad 0)), (2, .int q), (3, .int (nI n)), (4, .int (nI 1)), (5, .ref pA), (6, .ref ct), (7, .int (nI mn)), (8, .int (nI all)), (12, .int (nI ins)), (13, .int (nI c)), (14, .long (lN v)), (16, .long (lN u)), (18, .int (nI b)), (19, .int (nI h)), (20, .int (nI k))], [.int (nI b), .ref ct, .long (lN v)], [])) rfl ?_
                    refine y_ial hC 1 rfl rfl (by first | assumption | omega | rfl | trivial) (by omega) ((hIV.2.2.2.2.1 b (by omega)).1) ?_
                    refine y_steps hC 0 (σ' := (1135, [(0, .ref (y_a ε 42)), (1, .ref (ad 0)), (2, .int q), (3, .int (nI n)), (4, .int (nI 1)), (5, .ref pA), (6, .ref ct), (7, .int (nI mn)), (8, .int (nI all)), (12, .int (nI ins)), (13, .int (nI c)), (14, .long (lN v)), (16, .long (lN u)), (18, .int (nI b)), (19, .int (nI h)), (20, .int (nI k))], [.int (nI (cv b)), .long (lN v)], [])) rfl ?_
                    refine y_i2l hC rfl (by have e1 := (hIV.2.2.2.2.1 b (by omega)).2.2; omega) ?_
                    refine y_steps hC 1 (σ' := (1138, [(0, .ref (y_a ε 42)), (1, .ref (ad 0)), (2, .int q), (3, .int (nI n)), (4, .int (nI 1)), (5, .ref pA), (6, .ref ct), (7, .int (nI mn)), (8, .int (nI all)), (12, .int (nI ins)), (13, .int (nI c)), (14, .long (lN v)), (16, .long (lN u)), (18, .int (nI b)), (19, .int (nI h)), (20, .int (nI k))], [.int (nI h), .long (lN (cv b)), .long (lN v)], [])) rfl ?_
                    refine y_i2l hC rfl (by omega) ?_
                    refine y_steps hC 1 (σ' := (1140, [(0, .ref (y_a ε 42)), (1, .ref (ad 0)), (2, .int q), (3, .int (nI n)), (4, .int (nI 1)), (5, .ref pA), (6, .ref ct), (7, .int (nI mn)), (8, .int (nI all)), (12, .int (nI ins)), (13, .int (nI c)), (14, .long (lN v)), (16, .long (lN u)), (18, .int (nI b)), (19, .int (nI h)), (20, .int (nI k))], [.long (((lN (cv b)) * (lN h))), .long (lN v)], [])) rfl ?_
                    have er_1139 : ((lN (cv b)) * (lN h)) = lN (cv b * h) := z_lmul _ _
                    rw [er_1139]
                    refine y_steps hC 1 (σ' := (1141, [(0, .ref (y_a ε 42)), (1, .ref (ad 0)), (2, .int q), (3, .int (nI n)), (4, .int (nI 1)), (5, .ref pA), (6, .ref ct), (7, .int (nI mn)), (8, .int (nI all)), (12, .int (nI ins)), (13, .int (nI c)), (14, .long (lN v)), (16, .long (lN u)), (18, .int (nI b)), (19, .int (nI h)), (20, .int (nI k))], [.long (((lN v) + (lN (cv b * h))))], [])) rfl ?_
                    have er_1140 : ((lN v) + (lN (cv b * h))) = lN (v + cv b * h) := lN_add _ _
                    rw [er_1140]
                    refine y_steps hC 4 (σ' := (1149, [(14, .long (lN (v + cv b * h))), (0, .ref (y_a ε 42)), (1, .ref (ad 0)), (2, .int q), (3, .int (nI n)), (4, .int (nI 1)), (5, .ref pA), (6, .ref ct), (7, .int (nI mn)), (8, .int (nI all)), (12, .int (nI ins)), (13, .int (nI c)), (16, .long (lN u)), (18, .int (nI b)), (19, .int (nI h)), (20, .int (nI k))], [.int (nI ins), .int (nI h), .long (lN u)], [])) rfl ?_
                    refine y_spl [] [[(pA, .inl (y_c ε 3, 12, .inr (.inr (.inr (.inr g2)))))], [(ct, .inl (y_c ε 0, 12, .inl c2))], y_PW ε mn pa pf, z_W (y_c ε) ad h1048] ?_
                    refine y_callS (pc := 1149) (st := [.int (nI h), .long (lN u)]) (y := 147) (idx := 133) (w := y_J []) (wr := y_J [[(pA, .inl (y_c ε 3, 12, .inr (.inr (.inr (.inr g2)))))], [(ct, .inl (y_c ε 0, 12, .inl c2))], y_PW ε mn pa pf, z_W (y_c ε) ad h1048]) (av := [.int (nI ins)]) hC rfl rfl (z_t4 (i := 171) rfl rfl) (z_t4 (i := 172) rfl rfl) (z_t1 (i := 0) rfl rfl) (c_L_bits (s := ins) (by omega)) (show _ = some 1 from by decide +kernel) rfl rfl (by omega) (by omega) rfl (fun r_1149 w_1149 p_1149 => ?_)
                    obtain ⟨rfl, ew_1149⟩ := p_1149
                    replace ew_1149 := ew_1149.symm
                    subst ew_1149
                    refine y_cmb [] [[(pA, .inl (y_c ε 3, 12, .inr (.inr (.inr (.inr g2)))))], [(ct, .inl (y_c ε 0, 12, .inl c2))], y_PW ε mn pa pf, z_W (y_c ε) ad h1048] ?_
                    refine y_steps hC 1 (σ' := (1153, [(14, .long (lN (v + cv b * h))), (0, .ref (y_a ε 42)), (1, .ref (ad 0)), (2, .int q), (3, .int (nI n)), (4, .int (nI 1)), (5, .ref pA), (6, .ref ct), (7, .int (nI mn)), (8, .int (nI all)), (12, .int (nI ins)), (13, .int (nI c)), (16, .long (lN u)), (18, .int (nI b)), (19, .int (nI h)), (20, .int (nI k))], [.int (nI 1), .int (nI (z_pc ins)), .int (nI h), .long (lN u)], [])) rfl ?_
                    refine y_sbt hC ((z_pc ins) - 1) rfl (by omega) (by omega) ?_
                    refine y_steps hC 0 (σ' := (1154, [(14, .long (lN (v + cv b * h))), (0, .ref (y_a ε 42)), (1, .ref (ad 0)), (2, .int q), (3, .int (nI n)), (4, .int (nI 1)), (5, .ref pA), (6, .ref ct), (7, .int (nI mn)), (8, .int (nI all)), (12, .int (nI ins)), (13, .int (nI c)), (16, .long (lN u)), (18, .int (nI b)), (19, .int (nI h)), (20, .int (nI k))], [.int (nI ((z_pc ins) - 1)), .int (nI h), .long (lN u)], [])) rfl ?_
                    refine y_if hC (c := ¬ nI h = nI ((z_pc ins) - 1)) rfl (fun c_1154 => ?_) (fun c_1154 => ?_)
                    · skip
                      rw [nI_eq (by omega) (by omega)] at c_1154
                      skip
                      refine y_steps hC 2 (σ' := (1168, [(14, .long (lN (v + cv b * h))), (0, .ref (y_a ε 42)), (1, .ref (ad 0)), (2, .int q), (3, .int (nI n)), (4, .int (nI 1)), (5, .ref pA), (6, .ref ct), (7, .int (nI mn)), (8, .int (nI all)), (12, .int (nI ins)), (13, .int (nI c)), (16, .long (lN u)), (18, .int (nI b)), (19, .int (nI h)), (20, .int (nI k))], [.long (((lN u) + (lN 0)))], [])) rfl ?_
                      have er_1167 : ((lN u) + (lN 0)) = lN u := lN_add _ _
                      rw [er_1167]
                      refine y_steps hC 1 (σ' := (1170, [(16, .long (lN u)), (14, .long (lN (v + cv b * h))), (0, .ref (y_a ε 42)), (1, .ref (ad 0)), (2, .int q), (3, .int (nI n)), (4, .int (nI 1)), (5, .ref pA), (6, .ref ct), (7, .int (nI mn)), (8, .int (nI all)), (12, .int (nI ins)), (13, .int (nI c)), (18, .int (nI b)), (19, .int (nI h)), (20, .int (nI k))], [], [])) rfl ?_
                      refine y_inc hC (n := 1) rfl rfl rfl (b + 1) (by rfl) [(18, .int (nI (b + 1))), (16, .long (lN u)), (14, .long (lN (v + cv b * h))), (0, .ref (y_a ε 42)), (1, .ref (ad 0)), (2, .int q), (3, .int (nI n)), (4, .int (nI 1)), (5, .ref pA), (6, .ref ct), (7, .int (nI mn)), (8, .int (nI all)), (12, .int (nI ins)), (13, .int (nI c)), (19, .int (nI h)), (20, .int (nI k))] rfl ?_
                      refine y_steps hC 1 (σ' := (1063, [(18, .int (nI (b + 1))), (16, .long (lN u)), (14, .long (lN (v + cv b * h))), (0, .ref (y_a ε 42)), (1, .ref (ad 0)), (2, .int q), (3, .int (nI n)), (4, .int (nI 1)), (5, .ref pA), (6, .ref ct), (7, .int (nI mn)), (8, .int (nI all)), (12, .int (nI ins)), (13, .int (nI c)), (19, .int (nI h)), (20, .int (nI k))], [], [])) rfl ?_
                      refine y_sub hC [3, 4, 5, 6, 7, 8, 9, 10, 11, 12, 13, 2, 1, 0] rfl ?_
                      exact ih_1063 (v + cv b * h) u (b + 1) (by omega) (by first | exact ⟨by omega, by rw [l2, hh]; show _ = z_sum b _ + z_sf _ _ _ _ _ _ b; rw [z_sf_0 rfl], by rw [l3]; show _ = z_sum b _ + z_sf _ _ _ _ _ _ b; rw [z_sf_1 (by decide) (by omega)]⟩ | exact ⟨by omega, by rw [l2, hh]; show _ = z_sum b _ + z_sf _ _ _ _ _ _ b; rw [z_sf_0 rfl], by rw [l3]; show _ = z_sum b _ + z_sf _ _ _ _ _ _ b; rw [z_sf_2 (by decide) (by omega)]; rfl⟩)
                    · skip
                      rw [nI_eq (by omega) (by omega)] at c_1154
                      replace c_1154 := Decidable.not_not.mp c_1154
                      refine y_steps hC 2 (σ' := (1161, [(14, .long (lN (v + cv b * h))), (0, .ref (y_a ε 42)), (1, .ref (ad 0)), (2, .int q), (3, .int (nI n)), (4, .int (nI 1)), (5, .ref pA), (6, .ref ct), (7, .int (nI mn)), (8, .int (nI all)), (12, .int (nI ins)), (13, .int (nI c)), (16, .long (lN u)), (18, .int (nI b)), (19, .int (nI h)), (20, .int (nI k))], [.int (nI b), .ref ct, .long (lN u)], [])) rfl ?_
                      refine y_ial hC 1 rfl rfl (by first | assumption | omega | rfl | trivial) (by omega) ((hIV.2.2.2.2.1 b (by omega)).1) ?_
                      refine y_steps hC 0 (σ' := (1162, [(14, .long (lN (v + cv b * h))), (0, .ref (y_a ε 42)), (1, .ref (ad 0)), (2, .int q), (3, .int (nI n)), (4, .int (nI 1)), (5, .ref pA), (6, .ref ct), (7, .int (nI mn)), (8, .int (nI all)), (12, .int (nI ins)), (13, .int (nI c)), (16, .long (lN u)), (18, .int (nI b)), (19, .int (nI h)), (20, .int (nI k))], [.int (nI (cv b)), .long (lN u)], [])) rfl ?_
                      refine y_i2l hC rfl (by have e1 := (hIV.2.2.2.2.1 b (by omega)).2.2; omega) ?_
                      refine y_steps hC 2 (σ' := (1168, [(14, .long (lN (v + cv b * h))), (0, .ref (y_a ε 42)), (1, .ref (ad 0)), (2, .int q), (3, .int (nI n)), (4, .int (nI 1)), (5, .ref pA), (6, .ref ct), (7, .int (nI mn)), (8, .int (nI all)), (12, .int (nI ins)), (13, .int (nI c)), (16, .long (lN u)), (18, .int (nI b)), (19, .int (nI h)), (20, .int (nI k))], [.long (((lN u) + (lN (cv b))))], [])) rfl ?_
                      have er_1167 : ((lN u) + (lN (cv b))) = lN (u + cv b) := lN_add _ _
                      rw [er_1167]
                      refine y_steps hC 1 (σ' := (1170, [(16, .long (lN (u + cv b))), (14, .long (lN (v + cv b * h))), (0, .ref (y_a ε 42)), (1, .ref (ad 0)), (2, .int q), (3, .int (nI n)), (4, .int (nI 1)), (5, .ref pA), (6, .ref ct), (7, .int (nI mn)), (8, .int (nI all)), (12, .int (nI ins)), (13, .int (nI c)), (18, .int (nI b)), (19, .int (nI h)), (20, .int (nI k))], [], [])) rfl ?_
                      refine y_inc hC (n := 1) rfl rfl rfl (b + 1) (by rfl) [(18, .int (nI (b + 1))), (16, .long (lN (u + cv b))), (14, .long (lN (v + cv b * h))), (0, .ref (y_a ε 42)), (1, .ref (ad 0)), (2, .int q), (3, .int (nI n)), (4, .int (nI 1)), (5, .ref pA), (6, .ref ct), (7, .int (nI mn)), (8, .int (nI all)), (12, .int (nI ins)), (13, .int (nI c)), (19, .int (nI h)), (20, .int (nI k))] rfl ?_
                      refine y_steps hC 1 (σ' := (1063, [(18, .int (nI (b + 1))), (16, .long (lN (u + cv b))), (14, .long (lN (v + cv b * h))), (0, .ref (y_a ε 42)), (1, .ref (ad 0)), (2, .int q), (3, .int (nI n)), (4, .int (nI 1)), (5, .ref pA), (6, .ref ct), (7, .int (nI mn)), (8, .int (nI all)), (12, .int (nI ins)), (13, .int (nI c)), (19, .int (nI h)), (20, .int (nI k))], [], [])) rfl ?_
                      refine y_sub hC [3, 4, 5, 6, 7, 8, 9, 10, 11, 12, 13, 2, 1, 0] rfl ?_
                      exact ih_1063 (v + cv b * h) (u + cv b) (b + 1) (by omega) (by first | exact ⟨by omega, by rw [l2, hh]; show _ = z_sum b _ + z_sf _ _ _ _ _ _ b; rw [z_sf_0 rfl], by rw [l3]; show _ = z_sum b _ + z_sf _ _ _ _ _ _ b; rw [z_sf_1 (by decide) (by omega)]⟩ | exact ⟨by omega, by rw [l2, hh]; show _ = z_sum b _ + z_sf _ _ _ _ _ _ b; rw [z_sf_0 rfl], by rw [l3]; show _ = z_sum b _ + z_sf _ _ _ _ _ _ b; rw [z_sf_2 (by decide) (by omega)]; rfl⟩)
                  · skip
                    rw [nI_leI (by omega) (by omega)] at c_1079
                    refine y_steps hC 6 (σ' := (1091, [(0, .ref (y_a ε 42)), (1, .ref (ad 0)), (2, .int q), (3, .int (nI n)), (4, .int (nI 1)), (5, .ref pA), (6, .ref ct), (7, .int (nI mn)), (8, .int (nI all)), (12, .int (nI ins)), (13, .int (nI c)), (14, .long (lN v)), (16, .long (lN u)), (18, .int (nI b)), (19, .int (nI h)), (20, .int (nI k))], [.int (((((nI ins) >>> ((nI k) &&& 31))) &&& (nI 1))), .int (nI h)], [])) rfl ?_
                    have er_1090 : ((((nI ins) >>> ((nI k) &&& 31))) &&& (nI 1)) = nI (y_b1 ins k) := y_bt (by omega) (by omega)
                    rw [er_1090]
                    refine y_steps hC 1 (σ' := (1092, [(0, .ref (y_a ε 42)), (1, .ref (ad 0)), (2, .int q), (3, .int (nI n)), (4, .int (nI 1)), (5, .ref pA), (6, .ref ct), (7, .int (nI mn)), (8, .int (nI all)), (12, .int (nI ins)), (13, .int (nI c)), (14, .long (lN v)), (16, .long (lN u)), (18, .int (nI b)), (19, .int (nI h)), (20, .int (nI k))], [.int (nI 1), .int (nI (y_b1 ins k)), .int (nI h)], [])) rfl ?_
                    refine y_if hC (c := ¬ nI (y_b1 ins k) = nI 1) rfl (fun c_1092 => ?_) (fun c_1092 => ?_)
                    · skip
                      rw [nI_eq (by have := y_b1_lt (s := ins) (k := k); omega) (by have := y_b1_lt (s := ins) (k := k); omega)] at c_1092
                      skip
                      have hbt := y_b1F c_1092
                      refine y_steps hC 1 (σ' := (1119, [(0, .ref (y_a ε 42)), (1, .ref (ad 0)), (2, .int q), (3, .int (nI n)), (4, .int (nI 1)), (5, .ref pA), (6, .ref ct), (7, .int (nI mn)), (8, .int (nI all)), (12, .int (nI ins)), (13, .int (nI c)), (14, .long (lN v)), (16, .long (lN u)), (18, .int (nI b)), (19, .int (nI h)), (20, .int (nI k))], [.int (nI 0), .int (nI h)], [])) rfl ?_
                      refine y_add hC (h) rfl (by first | rfl | omega) ?_
                      refine y_steps hC 1 (σ' := (1122, [(19, .int (nI h)), (0, .ref (y_a ε 42)), (1, .ref (ad 0)), (2, .int q), (3, .int (nI n)), (4, .int (nI 1)), (5, .ref pA), (6, .ref ct), (7, .int (nI mn)), (8, .int (nI all)), (12, .int (nI ins)), (13, .int (nI c)), (14, .long (lN v)), (16, .long (lN u)), (18, .int (nI b)), (20, .int (nI k))], [], [])) rfl ?_
                      refine y_inc hC (n := 1) rfl rfl rfl (k + 1) (by rfl) [(20, .int (nI (k + 1))), (19, .int (nI h)), (0, .ref (y_a ε 42)), (1, .ref (ad 0)), (2, .int q), (3, .int (nI n)), (4, .int (nI 1)), (5, .ref pA), (6, .ref ct), (7, .int (nI mn)), (8, .int (nI all)), (12, .int (nI ins)), (13, .int (nI c)), (14, .long (lN v)), (16, .long (lN u)), (18, .int (nI b))] rfl ?_
                      refine y_steps hC 1 (σ' := (1076, [(20, .int (nI (k + 1))), (19, .int (nI h)), (0, .ref (y_a ε 42)), (1, .ref (ad 0)), (2, .int q), (3, .int (nI n)), (4, .int (nI 1)), (5, .ref pA), (6, .ref ct), (7, .int (nI mn)), (8, .int (nI all)), (12, .int (nI ins)), (13, .int (nI c)), (14, .long (lN v)), (16, .long (lN u)), (18, .int (nI b))], [], [])) rfl ?_
                      refine y_sub hC [2, 3, 4, 5, 6, 7, 8, 9, 10, 11, 12, 13, 14, 15, 1, 0] rfl ?_
                      exact ih_1076 h (k + 1) (by omega) (by first | exact ⟨by omega, by rw [z_ct_T (p := (fun k => ins.testBit k && decide (pv b c < pv b k))) (by show (_ && _) = true; rw [hbt]; exact decide_eq_true (by omega)), m2]⟩ | exact ⟨by omega, by rw [z_ct_F (p := (fun k => ins.testBit k && decide (pv b c < pv b k))) (by show (_ && _) = false; rw [hbt]; exact decide_eq_false (by omega)), m2]⟩ | exact ⟨by omega, by rw [z_ct_F (p := (fun k => ins.testBit k && decide (pv b c < pv b k))) (by show (_ && _) = false; rw [hbt]; rfl), m2]⟩)
                    · skip
                      rw [nI_eq (by have := y_b1_lt (s := ins) (k := k); omega) (by have := y_b1_lt (s := ins) (k := k); omega)] at c_1092
                      replace c_1092 := Decidable.not_not.mp c_1092
                      have hbt := y_b1T c_1092
                      refine y_steps hC 2 (σ' := (1099, [(0, .ref (y_a ε 42)), (1, .ref (ad 0)), (2, .int q), (3, .int (nI n)), (4, .int (nI 1)), (5, .ref pA), (6, .ref ct), (7, .int (nI mn)), (8, .int (nI all)), (12, .int (nI ins)), (13, .int (nI c)), (14, .long (lN v)), (16, .long (lN u)), (18, .int (nI b)), (19, .int (nI h)), (20, .int (nI k))], [.int (nI b), .ref pA, .int (nI h)], [])) rfl ?_
                      refine y_aal hC 0 rfl rfl (by first | assumption | omega | rfl | trivial) (by omega) (hIV.2.1 b (by omega)) ?_
                      refine y_steps hC 1 (σ' := (1102, [(0, .ref (y_a ε 42)), (1, .ref (ad 0)), (2, .int q), (3, .int (nI n)), (4, .int (nI 1)), (5, .ref pA), (6, .ref ct), (7, .int (nI mn)), (8, .int (nI all)), (12, .int (nI ins)), (13, .int (nI c)), (14, .long (lN v)), (16, .long (lN u)), (18, .int (nI b)), (19, .int (nI h)), (20, .int (nI k))], [.int (nI k), .ref ((pa b)), .int (nI h)], [])) rfl ?_
                      refine y_mv [[(pA, .inl (y_c ε 3, 12, .inr (.inr (.inr (.inr g2)))))], [(ct, .inl (y_c ε 0, 12, .inl c2))]] (y_PW ε mn pa pf) [z_W (y_c ε) ad h1048] ?_
                      refine y_pm2 (b := y_PW ε mn pa pf) [((pa b), .inl (y_c ε 0, 8, .inl ((pf b))))] (y_PX ε mn pa pf b) [[(pA, .inl (y_c ε 3, 12, .inr (.inr (.inr (.inr g2)))))], [(ct, .inl (y_c ε 0, 12, .inl c2))], z_W (y_c ε) ad h1048] (y_PW_at (by omega)) ?_
                      refine y_steps hC 0 (σ' := (1102, [(0, .ref (y_a ε 42)), (1, .ref (ad 0)), (2, .int q), (3, .int (nI n)), (4, .int (nI 1)), (5, .ref pA), (6, .ref ct), (7, .int (nI mn)), (8, .int (nI all)), (12, .int (nI ins)), (13, .int (nI c)), (14, .long (lN v)), (16, .long (lN u)), (18, .int (nI b)), (19, .int (nI h)), (20, .int (nI k))], [.int (nI k), .ref ((pa b)), .int (nI h)], [])) rfl ?_
                      refine y_mv [[((pa b), .inl (y_c ε 0, 8, .inl ((pf b))))], y_PX ε mn pa pf b, [(pA, .inl (y_c ε 3, 12, .inr (.inr (.inr (.inr g2)))))]] ([(ct, .inl (y_c ε 0, 12, .inl c2))]) [z_W (y_c ε) ad h1048] ?_
                      refine y_mv [[(ct, .inl (y_c ε 0, 12, .inl c2))], [((pa b), .inl (y_c ε 0, 8, .inl ((pf b))))], y_PX ε mn pa pf b] ([(pA, .inl (y_c ε 3, 12, .inr (.inr (.inr (.inr g2)))))]) [z_W (y_c ε) ad h1048] ?_
                      refine y_mv [[(pA, .inl (y_c ε 3, 12, .inr (.inr (.inr (.inr g2)))))], [(ct, .inl (y_c ε 0, 12, .inl c2))]] ([((pa b), .inl (y_c ε 0, 8, .inl ((pf b))))]) [y_PX ε mn pa pf b, z_W (y_c ε) ad h1048] ?_
                      refine y_ial hC 0 rfl rfl (by first | assumption | omega | rfl | trivial) (by omega) ((hIV.2.2.1 b (by omega) k (by omega)).1) ?_
                      refine y_steps hC 0 (σ' := (1103, [(0, .ref (y_a ε 42)), (1, .ref (ad 0)), (2, .int q), (3, .int (nI n)), (4, .int (nI 1)), (5, .ref pA), (6, .ref ct), (7, .int (nI mn)), (8, .int (nI all)), (12, .int (nI ins)), (13, .int (nI c)), (14, .long (lN v)), (16, .long (lN u)), (18, .int (nI b)), (19, .int (nI h)), (20, .int (nI k))], [.int (nI (pv b k)), .int (nI h)], [])) rfl ?_
                      refine y_mv [[((pa b), .inl (y_c ε 0, 8, .inl ((pf b))))], [(pA, .inl (y_c ε 3, 12, .inr (.inr (.inr (.inr g2)))))], [(ct, .inl (y_c ε 0, 12, .inl c2))]] (y_PX ε mn pa pf b) [z_W (y_c ε) ad h1048] ?_
                      refine y_mv [y_PX ε mn pa pf b] ([((pa b), .inl (y_c ε 0, 8, .inl ((pf b))))]) [[(pA, .inl (y_c ε 3, 12, .inr (.inr (.inr (.inr g2)))))], [(ct, .inl (y_c ε 0, 12, .inl c2))], z_W (y_c ε) ad h1048] ?_
                      refine y_pm3 (b1 := [((pa b), .inl (y_c ε 0, 8, .inl ((pf b))))]) (b2 := y_PX ε mn pa pf b) (y_PW ε mn pa pf) [[(pA, .inl (y_c ε 3, 12, .inr (.inr (.inr (.inr g2)))))], [(ct, .inl (y_c ε 0, 12, .inl c2))], z_W (y_c ε) ad h1048] (y_PW_at (by omega)) ?_
                      refine y_steps hC 2 (σ' := (1107, [(0, .ref (y_a ε 42)), (1, .ref (ad 0)), (2, .int q), (3, .int (nI n)), (4, .int (nI 1)), (5, .ref pA), (6, .ref ct), (7, .int (nI mn)), (8, .int (nI all)), (12, .int (nI ins)), (13, .int (nI c)), (14, .long (lN v)), (16, .long (lN u)), (18, .int (nI b)), (19, .int (nI h)), (20, .int (nI k))], [.int (nI b), .ref pA, .int (nI (pv b k)), .int (nI h)], [])) rfl ?_
                      refine y_mv [y_PW ε mn pa pf, [(pA, .inl (y_c ε 3, 12, .inr (.inr (.inr (.inr g2)))))]] ([(ct, .inl (y_c ε 0, 12, .inl c2))]) [z_W (y_c ε) ad h1048] ?_
                      refine y_mv [[(ct, .inl (y_c ε 0, 12, .inl c2))], y_PW ε mn pa pf] ([(pA, .inl (y_c ε 3, 12, .inr (.inr (.inr (.inr g2)))))]) [z_W (y_c ε) ad h1048] ?_
                      refine y_aal hC 0 rfl rfl (by first | assumption | omega | rfl | trivial) (by omega) (hIV.2.1 b (by omega)) ?_
                      refine y_steps hC 1 (σ' := (1110, [(0, .ref (y_a ε 42)), (1, .ref (ad 0)), (2, .int q), (3, .int (nI n)), (4, .int (nI 1)), (5, .ref pA), (6, .ref ct), (7, .int (nI mn)), (8, .int (nI all)), (12, .int (nI ins)), (13, .int (nI c)), (14, .long (lN v)), (16, .long (lN u)), (18, .int (nI b)), (19, .int (nI h)), (20, .int (nI k))], [.int (nI c), .ref ((pa b)), .int (nI (pv b k)), .int (nI h)], [])) rfl ?_
                      refine y_mv [[(pA, .inl (y_c ε 3, 12, .inr (.inr (.inr (.inr g2)))))], [(ct, .inl (y_c ε 0, 12, .inl c2))]] (y_PW ε mn pa pf) [z_W (y_c ε) ad h1048] ?_
                      refine y_pm2 (b := y_PW ε mn pa pf) [((pa b), .inl (y_c ε 0, 8, .inl ((pf b))))] (y_PX ε mn pa pf b) [[(pA, .inl (y_c ε 3, 12, .inr (.inr (.inr (.inr g2)))))], [(ct, .inl (y_c ε 0, 12, .inl c2))], z_W (y_c ε) ad h1048] (y_PW_at (by omega)) ?_
                      refine y_steps hC 0 (σ' := (1110, [(0, .ref (y_a ε 42)), (1, .ref (ad 0)), (2, .int q), (3, .int (nI n)), (4, .int (nI 1)), (5, .ref pA), (6, .ref ct), (7, .int (nI mn)), (8, .int (nI all)), (12, .int (nI ins)), (13, .int (nI c)), (14, .long (lN v)), (16, .long (lN u)), (18, .int (nI b)), (19, .int (nI h)), (20, .int (nI k))], [.int (nI c), .ref ((pa b)), .int (nI (pv b k)), .int (nI h)], [])) rfl ?_
                      refine y_mv [[((pa b), .inl (y_c ε 0, 8, .inl ((pf b))))], y_PX ε mn pa pf b, [(pA, .inl (y_c ε 3, 12, .inr (.inr (.inr (.inr g2)))))]] ([(ct, .inl (y_c ε 0, 12, .inl c2))]) [z_W (y_c ε) ad h1048] ?_
                      refine y_mv [[(ct, .inl (y_c ε 0, 12, .inl c2))], [((pa b), .inl (y_c ε 0, 8, .inl ((pf b))))], y_PX ε mn pa pf b] ([(pA, .inl (y_c ε 3, 12, .inr (.inr (.inr (.inr g2)))))]) [z_W (y_c ε) ad h1048] ?_
                      refine y_mv [[(pA, .inl (y_c ε 3, 12, .inr (.inr (.inr (.inr g2)))))], [(ct, .inl (y_c ε 0, 12, .inl c2))]] ([((pa b), .inl (y_c ε 0, 8, .inl ((pf b))))]) [y_PX ε mn pa pf b, z_W (y_c ε) ad h1048] ?_
                      refine y_ial hC 0 rfl rfl (by first | assumption | omega | rfl | trivial) (by omega) ((hIV.2.2.1 b (by omega) c (by omega)).1) ?_
                      refine y_steps hC 0 (σ' := (1111, [(0, .ref (y_a ε 42)), (1, .ref (ad 0)), (2, .int q), (3, .int (nI n)), (4, .int (nI 1)), (5, .ref pA), (6, .ref ct), (7, .int (nI mn)), (8, .int (nI all)), (12, .int (nI ins)), (13, .int (nI c)), (14, .long (lN v)), (16, .long (lN u)), (18, .int (nI b)), (19, .int (nI h)), (20, .int (nI k))], [.int (nI (pv b c)), .int (nI (pv b k)), .int (nI h)], [])) rfl ?_
                      refine y_mv [[((pa b), .inl (y_c ε 0, 8, .inl ((pf b))))], [(pA, .inl (y_c ε 3, 12, .inr (.inr (.inr (.inr g2)))))], [(ct, .inl (y_c ε 0, 12, .inl c2))]] (y_PX ε mn pa pf b) [z_W (y_c ε) ad h1048] ?_
                      refine y_mv [y_PX ε mn pa pf b] ([((pa b), .inl (y_c ε 0, 8, .inl ((pf b))))]) [[(pA, .inl (y_c ε 3, 12, .inr (.inr (.inr (.inr g2)))))], [(ct, .inl (y_c ε 0, 12, .inl c2))], z_W (y_c ε) ad h1048] ?_
                      refine y_pm3 (b1 := [((pa b), .inl (y_c ε 0, 8, .inl ((pf b))))]) (b2 := y_PX ε mn pa pf b) (y_PW ε mn pa pf) [[(pA, .inl (y_c ε 3, 12, .inr (.inr (.inr (.inr g2)))))], [(ct, .inl (y_c ε 0, 12, .inl c2))], z_W (y_c ε) ad h1048] (y_PW_at (by omega)) ?_
                      refine y_steps hC 0 (σ' := (1111, [(0, .ref (y_a ε 42)), (1, .ref (ad 0)), (2, .int q), (3, .int (nI n)), (4, .int (nI 1)), (5, .ref pA), (6, .ref ct), (7, .int (nI mn)), (8, .int (nI all)), (12, .int (nI ins)), (13, .int (nI c)), (14, .long (lN v)), (16, .long (lN u)), (18, .int (nI b)), (19, .int (nI h)), (20, .int (nI k))], [.int (nI (pv b c)), .int (nI (pv b k)), .int (nI h)], [])) rfl ?_
                      refine y_if hC (c := nI (pv b k) ≤ nI (pv b c)) rfl (fun c_1111 => ?_) (fun c_1111 => ?_)
                      · skip
                        rw [nI_leI (by have e1 := (hIV.2.2.1 b (by omega) k (by omega)).2; have e2 := (hIV.2.2.1 b (by omega) c (by omega)).2; omega) (by have e1 := (hIV.2.2.1 b (by omega) k (by omega)).2; have e2 := (hIV.2.2.1 b (by omega) c (by omega)).2; omega)] at c_1111
                        refine y_steps hC 1 (σ' := (1119, [(0, .ref (y_a ε 42)), (1, .ref (ad 0)), (2, .int q), (3, .int (nI n)), (4, .int (nI 1)), (5, .ref pA), (6, .ref ct), (7, .int (nI mn)), (8, .int (nI all)), (12, .int (nI ins)), (13, .int (nI c)), (14, .long (lN v)), (16, .long (lN u)), (18, .int (nI b)), (19, .int (nI h)), (20, .int (nI k))], [.int (nI 0), .int (nI h)], [])) rfl ?_
                        refine y_add hC (h) rfl (by first | rfl | omega) ?_
                        refine y_steps hC 1 (σ' := (1122, [(19, .int (nI h)), (0, .ref (y_a ε 42)), (1, .ref (ad 0)), (2, .int q), (3, .int (nI n)), (4, .int (nI 1)), (5, .ref pA), (6, .ref ct), (7, .int (nI mn)), (8, .int (nI all)), (12, .int (nI ins)), (13, .int (nI c)), (14, .long (lN v)), (16, .long (lN u)), (18, .int (nI b)), (20, .int (nI k))], [], [])) rfl ?_
                        refine y_inc hC (n := 1) rfl rfl rfl (k + 1) (by rfl) [(20, .int (nI (k + 1))), (19, .int (nI h)), (0, .ref (y_a ε 42)), (1, .ref (ad 0)), (2, .int q), (3, .int (nI n)), (4, .int (nI 1)), (5, .ref pA), (6, .ref ct), (7, .int (nI mn)), (8, .int (nI all)), (12, .int (nI ins)), (13, .int (nI c)), (14, .long (lN v)), (16, .long (lN u)), (18, .int (nI b))] rfl ?_
                        refine y_steps hC 1 (σ' := (1076, [(20, .int (nI (k + 1))), (19, .int (nI h)), (0, .ref (y_a ε 42)), (1, .ref (ad 0)), (2, .int q), (3, .int (nI n)), (4, .int (nI 1)), (5, .ref pA), (6, .ref ct), (7, .int (nI mn)), (8, .int (nI all)), (12, .int (nI ins)), (13, .int (nI c)), (14, .long (lN v)), (16, .long (lN u)), (18, .int (nI b))], [], [])) rfl ?_
                        refine y_mv [y_PW ε mn pa pf, [(pA, .inl (y_c ε 3, 12, .inr (.inr (.inr (.inr g2)))))], [(ct, .inl (y_c ε 0, 12, .inl c2))]] (z_W (y_c ε) ad h1048) [] ?_
                        refine y_mv [z_W (y_c ε) ad h1048] (y_PW ε mn pa pf) [[(pA, .inl (y_c ε 3, 12, .inr (.inr (.inr (.inr g2)))))], [(ct, .inl (y_c ε 0, 12, .inl c2))]] ?_
                        refine y_mv [y_PW ε mn pa pf, z_W (y_c ε) ad h1048, [(pA, .inl (y_c ε 3, 12, .inr (.inr (.inr (.inr g2)))))]] ([(ct, .inl (y_c ε 0, 12, .inl c2))]) [] ?_
                        refine y_mv [[(ct, .inl (y_c ε 0, 12, .inl c2))], y_PW ε mn pa pf, z_W (y_c ε) ad h1048] ([(pA, .inl (y_c ε 3, 12, .inr (.inr (.inr (.inr g2)))))]) [] ?_
                        refine y_sub hC [2, 3, 4, 5, 6, 7, 8, 9, 10, 11, 12, 13, 14, 15, 1, 0] rfl ?_
                        exact ih_1076 h (k + 1) (by omega) (by first | exact ⟨by omega, by rw [z_ct_T (p := (fun k => ins.testBit k && decide (pv b c < pv b k))) (by show (_ && _) = true; rw [hbt]; exact decide_eq_true (by omega)), m2]⟩ | exact ⟨by omega, by rw [z_ct_F (p := (fun k => ins.testBit k && decide (pv b c < pv b k))) (by show (_ && _) = false; rw [hbt]; exact decide_eq_false (by omega)), m2]⟩ | exact ⟨by omega, by rw [z_ct_F (p := (fun k => ins.testBit k && decide (pv b c < pv b k))) (by show (_ && _) = false; rw [hbt]; rfl), m2]⟩)
                      · skip
                        rw [nI_leI (by have e1 := (hIV.2.2.1 b (by omega) k (by omega)).2; have e2 := (hIV.2.2.1 b (by omega) c (by omega)).2; omega) (by have e1 := (hIV.2.2.1 b (by omega) k (by omega)).2; have e2 := (hIV.2.2.1 b (by omega) c (by omega)).2; omega)] at c_1111
                        refine y_steps hC 2 (σ' := (1119, [(0, .ref (y_a ε 42)), (1, .ref (ad 0)), (2, .int q), (3, .int (nI n)), (4, .int (nI 1)), (5, .ref pA), (6, .ref ct), (7, .int (nI mn)), (8, .int (nI all)), (12, .int (nI ins)), (13, .int (nI c)), (14, .long (lN v)), (16, .long (lN u)), (18, .int (nI b)), (19, .int (nI h)), (20, .int (nI k))], [.int (nI 1), .int (nI h)], [])) rfl ?_
                        refine y_add hC (h + 1) rfl (by first | rfl | omega) ?_
                        refine y_steps hC 1 (σ' := (1122, [(19, .int (nI (h + 1))), (0, .ref (y_a ε 42)), (1, .ref (ad 0)), (2, .int q), (3, .int (nI n)), (4, .int (nI 1)), (5, .ref pA), (6, .ref ct), (7, .int (nI mn)), (8, .int (nI all)), (12, .int (nI ins)), (13, .int (nI c)), (14, .long (lN v)), (16, .long (lN u)), (18, .int (nI b)), (20, .int (nI k))], [], [])) rfl ?_
                        refine y_inc hC (n := 1) rfl rfl rfl (k + 1) (by rfl) [(20, .int (nI (k + 1))), (19, .int (nI (h + 1))), (0, .ref (y_a ε 42)), (1, .ref (ad 0)), (2, .int q), (3, .int (nI n)), (4, .int (nI 1)), (5, .ref pA), (6, .ref ct), (7, .int (nI mn)), (8, .int (nI all)), (12, .int (nI ins)), (13, .int (nI c)), (14, .long (lN v)), (16, .long (lN u)), (18, .int (nI b))] rfl ?_
                        refine y_steps hC 1 (σ' := (1076, [(20, .int (nI (k + 1))), (19, .int (nI (h + 1))), (0, .ref (y_a ε 42)), (1, .ref (ad 0)), (2, .int q), (3, .int (nI n)), (4, .int (nI 1)), (5, .ref pA), (6, .ref ct), (7, .int (nI mn)), (8, .int (nI all)), (12, .int (nI ins)), (13, .int (nI c)), (14, .long (lN v)), (16, .long (lN u)), (18, .int (nI b))], [], [])) rfl ?_
                        refine y_mv [y_PW ε mn pa pf, [(pA, .inl (y_c ε 3, 12, .inr (.inr (.inr (.inr g2)))))], [(ct, .inl (y_c ε 0, 12, .inl c2))]] (z_W (y_c ε) ad h1048) [] ?_
                        refine y_mv [z_W (y_c ε) ad h1048] (y_PW ε mn pa pf) [[(pA, .inl (y_c ε 3, 12, .inr (.inr (.inr (.inr g2)))))], [(ct, .inl (y_c ε 0, 12, .inl c2))]] ?_
                        refine y_mv [y_PW ε mn pa pf, z_W (y_c ε) ad h1048, [(pA, .inl (y_c ε 3, 12, .inr (.inr (.inr (.inr g2)))))]] ([(ct, .inl (y_c ε 0, 12, .inl c2))]) [] ?_
                        refine y_mv [[(ct, .inl (y_c ε 0, 12, .inl c2))], y_PW ε mn pa pf, z_W (y_c ε) ad h1048] ([(pA, .inl (y_c ε 3, 12, .inr (.inr (.inr (.inr g2)))))]) [] ?_
                        refine y_sub hC [2, 3, 4, 5, 6, 7, 8, 9, 10, 11, 12, 13, 14, 15, 1, 0] rfl ?_
                        exact ih_1076 (h + 1) (k + 1) (by omega) (by first | exact ⟨by omega, by rw [z_ct_T (p := (fun k => ins.testBit k && decide (pv b c < pv b k))) (by show (_ && _) = true; rw [hbt]; exact decide_eq_true (by omega)), m2]⟩ | exact ⟨by omega, by rw [z_ct_F (p := (fun k => ins.testBit k && decide (pv b c < pv b k))) (by show (_ && _) = false; rw [hbt]; exact decide_eq_false (by omega)), m2]⟩ | exact ⟨by omega, by rw [z_ct_F (p := (fun k => ins.testBit k && decide (pv b c < pv b k))) (by show (_ && _) = false; rw [hbt]; rfl), m2]⟩)
              refine y_sub hC [2, 3, 4, 5, 6, 7, 8, 9, 10, 11, 12, 13, 14, 15, 1, 0] rfl ?_
              exact loop_1076 _ 0 0 (Nat.lt_succ_self _) (by exact ⟨Nat.zero_le _, rfl⟩)
        refine y_sub hC [3, 4, 5, 6, 7, 8, 9, 10, 11, 12, 13, 2, 1, 0] rfl ?_
        exact loop_1063 _ 0 0 0 (Nat.lt_succ_self _) (by exact ⟨Nat.zero_le _, rfl, rfl⟩)
  refine y_sub hC [1, 2, 3, 4, 5, 6, 7, 8, 9, 10, 0] rfl ?_
  exact loop_1048 _ 0 hX (Nat.lt_succ_self _) ⟨(by exact hCI), (by omega)⟩
