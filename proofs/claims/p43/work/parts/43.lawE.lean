/-! the law's walk: draws -/
def law_1372 (ε : y_Ev) (κ : y_K) : Prop := ∀ (ad : Nat → Nat) (q : Int32) (n : Nat) (pA : Nat) (ct : Nat) (mn : Nat) (parts : Nat) (cv : Nat → Nat) (pv : Nat → Nat → Nat) (pa : Nat → Nat) (pf : Nat → Nat → Int32) (g2 : Nat → Option Nat) (c2 : Nat → Int32) (tp : Nat → Nat) (pp : Nat → Int32) (wr : Nat) (all : Nat) (outs : Nat) (ins : Nat) (dA : Nat) (gd : Nat → Int32) (D : Nat → Nat) (hX : List z_E), (y_CI n outs mn 0 ((fun k => k)) cv pv none 0 tp wr pp ((fun _ => 0)) ((fun _ => 0)) hX) → (2 ≤ n ∧ n ≤ 8) → (parts ≤ 10) → (1 ≤ mn) → (y_IV n parts mn cv pv pa pf g2 c2) → (all = z_sum mn cv) → (y_io n outs ins) → (∀ i, i < n → gd i = nI (D i)) → (z_perm n D) → (D = z_shf (n - 1) q (fun i => if i < n then i else (fun k => k) i)) → y_G ε κ zmL_law 14010 1400020 ((dA, .inl (y_c ε 0, 8, .inl gd)) :: ((pA, .inl (y_c ε 3, 12, .inr (.inr (.inr (.inr g2))))) :: ((ct, .inl (y_c ε 0, 12, .inl c2)) :: ((y_PW ε mn pa pf) ++ (z_W (y_c ε) ad hX))))) (1372, [(0, .ref (y_a ε 42)), (1, .ref (ad 0)), (2, .int q), (3, .int (nI n)), (4, .int (nI 1)), (5, .ref pA), (6, .ref ct), (7, .int (nI mn)), (8, .int (nI all)), (12, .int (nI ins)), (13, .ref dA)], [], [])
def law_1495 (ε : y_Ev) (κ : y_K) : Prop := ∀ (ad : Nat → Nat) (q : Int32) (n : Nat) (pA : Nat) (ct : Nat) (mn : Nat) (parts : Nat) (cv : Nat → Nat) (pv : Nat → Nat → Nat) (pa : Nat → Nat) (pf : Nat → Nat → Int32) (g2 : Nat → Option Nat) (c2 : Nat → Int32) (tp : Nat → Nat) (pp : Nat → Int32) (wr : Nat) (all : Nat) (outs : Nat) (ins : Nat) (dA : Nat) (at1 : Nat) (gd : Nat → Int32) (fr : Nat → Nat) (hX : List z_E), (y_CI n outs mn 0 fr cv pv none 0 tp wr pp ((fun _ => 0)) ((fun _ => 0)) hX) → (2 ≤ n ∧ n ≤ 8) → (parts ≤ 10) → (1 ≤ mn) → (y_IV n parts mn cv pv pa pf g2 c2) → (all = z_sum mn cv) → (y_io n outs ins) → (at1 < n) → (gd at1 = nI (fr 0)) → y_G ε κ zmL_law 14010 1400020 ((dA, .inl (y_c ε 0, 8, .inl gd)) :: ((pA, .inl (y_c ε 3, 12, .inr (.inr (.inr (.inr g2))))) :: ((ct, .inl (y_c ε 0, 12, .inl c2)) :: ((y_PW ε mn pa pf) ++ (z_W (y_c ε) ad hX))))) (1495, [(0, .ref (y_a ε 42)), (1, .ref (ad 0)), (2, .int q), (3, .int (nI n)), (4, .int (nI 1)), (5, .ref pA), (6, .ref ct), (7, .int (nI mn)), (8, .int (nI all)), (12, .int (nI ins)), (13, .ref dA), (15, .int (nI at1))], [], [])
set_option maxHeartbeats 4000000 in
set_option maxRecDepth 1000000 in
theorem law_p1278 {ε : y_Ev} {κ : y_K} (hC : y_ok ε κ zmL_law 14 562 858236 6527540) (k1372 : law_1372 ε κ) : law_1278 ε κ := by
  intro ad q n pA ct mn parts cv pv pa pf g2 c2 tp pp wr all outs ins hX hCI hn hp hm hIV hall hio
  have hL : y_L ε ≤ 260 := hC.2.2.2.2.2.2.2.1.2.2.2.2.2.2.2.2.1
  have hm10 := hIV.1
  refine y_steps hC 1 (σ' := (1280, [(0, .ref (y_a ε 42)), (1, .ref (ad 0)), (2, .int q), (3, .int (nI n)), (4, .int (nI 1)), (5, .ref pA), (6, .ref ct), (7, .int (nI mn)), (8, .int (nI all)), (12, .int (nI ins))], [.int (nI 8)], [])) rfl ?_
  refine y_newa (n := 8) (a0 := (8, .inl (fun _ => 0))) hC 0 (atype := .int) (z_t1 (i := 77) rfl rfl) rfl (fun _ => rfl) (by omega) (by decide) (by omega) (by omega) rfl (fun q1280 => ?_)
  refine y_steps hC 5 (σ' := (1290, [(15, .int (nI 0)), (14, .int q), (13, .ref q1280), (0, .ref (y_a ε 42)), (1, .ref (ad 0)), (2, .int q), (3, .int (nI n)), (4, .int (nI 1)), (5, .ref pA), (6, .ref ct), (7, .int (nI mn)), (8, .int (nI all)), (12, .int (nI ins))], [], [])) rfl ?_
  have loop_1290 : ∀ (z_1290 : Nat) (k : Nat) (gi : Nat → Int32), n - k < z_1290 → ((k ≤ n ∧ ∀ i, i < k → gi i = nI i)) → y_G ε κ zmL_law 14001 1400008 ((q1280, .inl (y_c ε 0, 8, .inl gi)) :: ((pA, .inl (y_c ε 3, 12, .inr (.inr (.inr (.inr g2))))) :: ((ct, .inl (y_c ε 0, 12, .inl c2)) :: ((y_PW ε mn pa pf) ++ (z_W (y_c ε) ad hX))))) (1290, [(0, .ref (y_a ε 42)), (1, .ref (ad 0)), (2, .int q), (3, .int (nI n)), (4, .int (nI 1)), (5, .ref pA), (6, .ref ct), (7, .int (nI mn)), (8, .int (nI all)), (12, .int (nI ins)), (13, .ref q1280), (14, .int q), (15, .int (nI k))], [], []) := by
    intro z_1290
    induction z_1290 with
    | zero => intro k gi hm_1290 _; exact absurd hm_1290 (Nat.not_lt_zero _)
    | succ z_1290 ih_1290 =>
      intro k gi hm_1290 hi_1290
      obtain ⟨l1, l2⟩ := hi_1290
      refine y_steps hC 2 (σ' := (1293, [(0, .ref (y_a ε 42)), (1, .ref (ad 0)), (2, .int q), (3, .int (nI n)), (4, .int (nI 1)), (5, .ref pA), (6, .ref ct), (7, .int (nI mn)), (8, .int (nI all)), (12, .int (nI ins)), (13, .ref q1280), (14, .int q), (15, .int (nI k))], [.int (nI n), .int (nI k)], [])) rfl ?_
      refine y_if hC (c := nI n ≤ nI k) rfl (fun c_1293 => ?_) (fun c_1293 => ?_)
      · skip
        rw [nI_leI (by omega) (by omega)] at c_1293
        refine y_steps hC 2 (σ' := (1311, [(0, .ref (y_a ε 42)), (1, .ref (ad 0)), (2, .int q), (3, .int (nI n)), (4, .int (nI 1)), (5, .ref pA), (6, .ref ct), (7, .int (nI mn)), (8, .int (nI all)), (12, .int (nI ins)), (13, .ref q1280), (14, .int q), (15, .int (nI k))], [.int (nI 1), .int (nI n)], [])) rfl ?_
        refine y_sbt hC (n - 1) rfl (by first | assumption | omega | rfl | trivial) (by first | rfl | omega) ?_
        refine y_steps hC 1 (σ' := (1314, [(15, .int (nI (n - 1))), (0, .ref (y_a ε 42)), (1, .ref (ad 0)), (2, .int q), (3, .int (nI n)), (4, .int (nI 1)), (5, .ref pA), (6, .ref ct), (7, .int (nI mn)), (8, .int (nI all)), (12, .int (nI ins)), (13, .ref q1280), (14, .int q)], [], [])) rfl ?_
        have loop_1314 : ∀ (z_1314 : Nat) (z : Int32) (k : Nat) (gm : Nat → Int32) (D : Nat → Nat), k < z_1314 → ((k < n ∧ (∀ i, i < n → gm i = nI (D i)) ∧ z_perm n D ∧ z_shf k z D = z_shf (n - 1) q (fun i => if i < n then i else (fun k => k) i))) → y_G ε κ zmL_law 14001 1400008 ((q1280, .inl (y_c ε 0, 8, .inl gm)) :: ((pA, .inl (y_c ε 3, 12, .inr (.inr (.inr (.inr g2))))) :: ((ct, .inl (y_c ε 0, 12, .inl c2)) :: ((y_PW ε mn pa pf) ++ (z_W (y_c ε) ad hX))))) (1314, [(0, .ref (y_a ε 42)), (1, .ref (ad 0)), (2, .int q), (3, .int (nI n)), (4, .int (nI 1)), (5, .ref pA), (6, .ref ct), (7, .int (nI mn)), (8, .int (nI all)), (12, .int (nI ins)), (13, .ref q1280), (14, .int z), (15, .int (nI k))], [], []) := by
          intro z_1314
          induction z_1314 with
          | zero => intro z k gm D hm_1314 _; exact absurd hm_1314 (Nat.not_lt_zero _)
          | succ z_1314 ih_1314 =>
            intro z k gm D hm_1314 hi_1314
            obtain ⟨l1, hm2, hm4, l5⟩ := hi_1314; have hdw := z_dw_le (z * nI 1103515245 + nI 12345) k
            refine y_steps hC 1 (σ' := (1316, [(0, .ref (y_a ε 42)), (1, .ref (ad 0)), (2, .int q), (3, .int (nI n)), (4, .int (nI 1)), (5, .ref pA), (6, .ref ct), (7, .int (nI mn)), (8, .int (nI all)), (12, .int (nI ins)), (13, .ref q1280), (14, .int z), (15, .int (nI k))], [.int (nI k)], [])) rfl ?_
            refine y_if hC (c := nI k ≤ 0) rfl (fun c_1316 => ?_) (fun c_1316 => ?_)
            · skip
              rw [z0_le (by omega)] at c_1316
              refine y_steps hC 0 (σ' := (1372, [(0, .ref (y_a ε 42)), (1, .ref (ad 0)), (2, .int q), (3, .int (nI n)), (4, .int (nI 1)), (5, .ref pA), (6, .ref ct), (7, .int (nI mn)), (8, .int (nI all)), (12, .int (nI ins)), (13, .ref q1280), (14, .int z), (15, .int (nI k))], [], [])) rfl ?_
              refine y_sub hC [0, 1, 2, 3, 4, 5, 6, 7, 8, 9, 10] rfl ?_
              refine y_wid (14010) (1400020) (by omega) (by omega) ?_
              exact k1372 ad q n pA ct mn parts cv pv pa pf g2 c2 tp pp wr all outs ins q1280 gm D hX (by exact hCI) (by exact hn) (by exact hp) (by exact hm) (by exact hIV) (by exact hall) (by exact hio) (by exact hm2) (by exact hm4) (by rw [show k = 0 by omega] at l5; exact l5)
            · skip
              rw [z0_le (by omega)] at c_1316
              refine y_steps hC 11 (σ' := (1338, [(14, .int ((((z * (nI 1103515245))) + (nI 12345)))), (0, .ref (y_a ε 42)), (1, .ref (ad 0)), (2, .int q), (3, .int (nI n)), (4, .int (nI 1)), (5, .ref pA), (6, .ref ct), (7, .int (nI mn)), (8, .int (nI all)), (12, .int (nI ins)), (13, .ref q1280), (15, .int (nI k))], [.int (nI 1), .int (nI k), .int (((((((z * (nI 1103515245))) + (nI 12345)))).toUInt32 >>> (((nI 9)).toUInt32 &&& Int32.toUInt32 31)).toInt32)], [])) rfl ?_
              refine y_add hC (k + 1) rfl (by first | rfl | omega) ?_
              refine y_steps hC 0 (σ' := (1339, [(14, .int ((((z * (nI 1103515245))) + (nI 12345)))), (0, .ref (y_a ε 42)), (1, .ref (ad 0)), (2, .int q), (3, .int (nI n)), (4, .int (nI 1)), (5, .ref pA), (6, .ref ct), (7, .int (nI mn)), (8, .int (nI all)), (12, .int (nI ins)), (13, .ref q1280), (15, .int (nI k))], [.int (nI (k + 1)), .int (((((((z * (nI 1103515245))) + (nI 12345)))).toUInt32 >>> (((nI 9)).toUInt32 &&& Int32.toUInt32 31)).toInt32)], [])) rfl ?_
              refine y_gd hC (c := ¬ (nI (k + 1)) = 0) rfl (by exact fun q => absurd ((z0_eq (by omega)).mp q) (by omega)) ?_
              refine y_steps hC 0 (σ' := (1340, [(14, .int ((((z * (nI 1103515245))) + (nI 12345)))), (0, .ref (y_a ε 42)), (1, .ref (ad 0)), (2, .int q), (3, .int (nI n)), (4, .int (nI 1)), (5, .ref pA), (6, .ref ct), (7, .int (nI mn)), (8, .int (nI all)), (12, .int (nI ins)), (13, .ref q1280), (15, .int (nI k))], [.int (((((((((z * (nI 1103515245))) + (nI 12345)))).toUInt32 >>> (((nI 9)).toUInt32 &&& Int32.toUInt32 31)).toInt32) - (((((((z * (nI 1103515245))) + (nI 12345)))).toUInt32 >>> (((nI 9)).toUInt32 &&& Int32.toUInt32 31)).toInt32) / (nI (k + 1)) * (nI (k + 1))))], [])) rfl ?_
              have er_1339 : ((((((((z * (nI 1103515245))) + (nI 12345)))).toUInt32 >>> (((nI 9)).toUInt32 &&& Int32.toUInt32 31)).toInt32) - (((((((z * (nI 1103515245))) + (nI 12345)))).toUInt32 >>> (((nI 9)).toUInt32 &&& Int32.toUInt32 31)).toInt32) / (nI (k + 1)) * (nI (k + 1))) = nI (z_dw (z * nI 1103515245 + nI 12345) k) := z_dw_eq _ _ (by omega)
              rw [er_1339]
              refine y_steps hC 3 (σ' := (1346, [(16, .int (nI (z_dw (z * nI 1103515245 + nI 12345) k))), (14, .int ((((z * (nI 1103515245))) + (nI 12345)))), (0, .ref (y_a ε 42)), (1, .ref (ad 0)), (2, .int q), (3, .int (nI n)), (4, .int (nI 1)), (5, .ref pA), (6, .ref ct), (7, .int (nI mn)), (8, .int (nI all)), (12, .int (nI ins)), (13, .ref q1280), (15, .int (nI k))], [.int (nI k), .ref q1280], [])) rfl ?_
              refine y_ial hC 0 rfl rfl (by first | assumption | omega | rfl | trivial) (by omega) (hm2 _ (by omega)) ?_
              refine y_steps hC 5 (σ' := (1357, [(17, .int (nI (D k))), (16, .int (nI (z_dw (z * nI 1103515245 + nI 12345) k))), (14, .int ((((z * (nI 1103515245))) + (nI 12345)))), (0, .ref (y_a ε 42)), (1, .ref (ad 0)), (2, .int q), (3, .int (nI n)), (4, .int (nI 1)), (5, .ref pA), (6, .ref ct), (7, .int (nI mn)), (8, .int (nI all)), (12, .int (nI ins)), (13, .ref q1280), (15, .int (nI k))], [.int (nI (z_dw (z * nI 1103515245 + nI 12345) k)), .ref q1280, .int (nI k), .ref q1280], [])) rfl ?_
              refine y_ial hC 0 rfl rfl (by first | assumption | omega | rfl | trivial) (by omega) (hm2 _ (by omega)) ?_
              refine y_steps hC 0 (σ' := (1358, [(17, .int (nI (D k))), (16, .int (nI (z_dw (z * nI 1103515245 + nI 12345) k))), (14, .int ((((z * (nI 1103515245))) + (nI 12345)))), (0, .ref (y_a ε 42)), (1, .ref (ad 0)), (2, .int q), (3, .int (nI n)), (4, .int (nI 1)), (5, .ref pA), (6, .ref ct), (7, .int (nI mn)), (8, .int (nI all)), (12, .int (nI ins)), (13, .ref q1280), (15, .int (nI k))], [.int (nI (D (z_dw (z * nI 1103515245 + nI 12345) k))), .int (nI k), .ref q1280], [])) rfl ?_
              refine y_ias (ws2 := ((q1280, .inl (y_c ε 0, 8, .inl (upd gm k (nI (D (z_dw (z * nI 1103515245 + nI 12345) k)))))) :: ((pA, .inl (y_c ε 3, 12, .inr (.inr (.inr (.inr g2))))) :: ((ct, .inl (y_c ε 0, 12, .inl c2)) :: ((y_PW ε mn pa pf) ++ (z_W (y_c ε) ad hX)))))) hC 0 rfl rfl (by first | assumption | omega | rfl | trivial) (by omega) rfl ?_
              refine y_steps hC 3 (σ' := (1365, [(17, .int (nI (D k))), (16, .int (nI (z_dw (z * nI 1103515245 + nI 12345) k))), (14, .int ((((z * (nI 1103515245))) + (nI 12345)))), (0, .ref (y_a ε 42)), (1, .ref (ad 0)), (2, .int q), (3, .int (nI n)), (4, .int (nI 1)), (5, .ref pA), (6, .ref ct), (7, .int (nI mn)), (8, .int (nI all)), (12, .int (nI ins)), (13, .ref q1280), (15, .int (nI k))], [.int (nI (D k)), .int (nI (z_dw (z * nI 1103515245 + nI 12345) k)), .ref q1280], [])) rfl ?_
              refine y_ias (ws2 := ((q1280, .inl (y_c ε 0, 8, .inl (upd (upd gm k (nI (D (z_dw (z * nI 1103515245 + nI 12345) k)))) (z_dw (z * nI 1103515245 + nI 12345) k) (nI (D k))))) :: ((pA, .inl (y_c ε 3, 12, .inr (.inr (.inr (.inr g2))))) :: ((ct, .inl (y_c ε 0, 12, .inl c2)) :: ((y_PW ε mn pa pf) ++ (z_W (y_c ε) ad hX)))))) hC 0 rfl rfl (by first | assumption | omega | rfl | trivial) (by omega) rfl ?_
              refine y_steps hC 0 (σ' := (1366, [(17, .int (nI (D k))), (16, .int (nI (z_dw (z * nI 1103515245 + nI 12345) k))), (14, .int ((((z * (nI 1103515245))) + (nI 12345)))), (0, .ref (y_a ε 42)), (1, .ref (ad 0)), (2, .int q), (3, .int (nI n)), (4, .int (nI 1)), (5, .ref pA), (6, .ref ct), (7, .int (nI mn)), (8, .int (nI all)), (12, .int (nI ins)), (13, .ref q1280), (15, .int (nI k))], [], [])) rfl ?_
              refine y_dec hC (n := 0) rfl rfl rfl (k - 1) (by first | assumption | omega | rfl | trivial) (by first | assumption | omega | rfl | trivial) [(15, .int (nI (k - 1))), (17, .int (nI (D k))), (16, .int (nI (z_dw (z * nI 1103515245 + nI 12345) k))), (14, .int ((((z * (nI 1103515245))) + (nI 12345)))), (0, .ref (y_a ε 42)), (1, .ref (ad 0)), (2, .int q), (3, .int (nI n)), (4, .int (nI 1)), (5, .ref pA), (6, .ref ct), (7, .int (nI mn)), (8, .int (nI all)), (12, .int (nI ins)), (13, .ref q1280)] rfl ?_
              refine y_steps hC 1 (σ' := (1314, [(15, .int (nI (k - 1))), (17, .int (nI (D k))), (16, .int (nI (z_dw (z * nI 1103515245 + nI 12345) k))), (14, .int ((((z * (nI 1103515245))) + (nI 12345)))), (0, .ref (y_a ε 42)), (1, .ref (ad 0)), (2, .int q), (3, .int (nI n)), (4, .int (nI 1)), (5, .ref pA), (6, .ref ct), (7, .int (nI mn)), (8, .int (nI all)), (12, .int (nI ins)), (13, .ref q1280)], [], [])) rfl ?_
              refine y_sub hC [4, 5, 6, 7, 8, 9, 10, 11, 12, 13, 14, 3, 0] rfl ?_
              exact ih_1314 (((z * (nI 1103515245))) + (nI 12345)) (k - 1) (upd (upd gm k (nI (D (z_dw (z * nI 1103515245 + nI 12345) k)))) (z_dw (z * nI 1103515245 + nI 12345) k) (nI (D k))) (z_swap D k (z_dw (z * nI 1103515245 + nI 12345) k)) (by omega) (by exact ⟨by omega, z_swC hm2, z_perm_swap hm4 l1 (by omega), (z_shf_step z D (by omega)).trans l5⟩)
        refine y_sub hC [1, 2, 3, 4, 5, 6, 7, 8, 9, 10, 11, 12, 0] rfl ?_
        exact loop_1314 _ q (n - 1) gi (fun i => if i < n then i else (fun k => k) i) (Nat.lt_succ_self _) (by exact ⟨by omega, fun i hi => (by rw [if_pos hi]; exact l2 i (by omega)), z_perm_init n (fun k => k), rfl⟩)
      · skip
        rw [nI_leI (by omega) (by omega)] at c_1293
        refine y_steps hC 3 (σ' := (1302, [(0, .ref (y_a ε 42)), (1, .ref (ad 0)), (2, .int q), (3, .int (nI n)), (4, .int (nI 1)), (5, .ref pA), (6, .ref ct), (7, .int (nI mn)), (8, .int (nI all)), (12, .int (nI ins)), (13, .ref q1280), (14, .int q), (15, .int (nI k))], [.int (nI k), .int (nI k), .ref q1280], [])) rfl ?_
        refine y_ias (ws2 := ((q1280, .inl (y_c ε 0, 8, .inl (upd gi k (nI k)))) :: ((pA, .inl (y_c ε 3, 12, .inr (.inr (.inr (.inr g2))))) :: ((ct, .inl (y_c ε 0, 12, .inl c2)) :: ((y_PW ε mn pa pf) ++ (z_W (y_c ε) ad hX)))))) hC 0 rfl rfl (by first | assumption | omega | rfl | trivial) (by omega) rfl ?_
        refine y_steps hC 0 (σ' := (1303, [(0, .ref (y_a ε 42)), (1, .ref (ad 0)), (2, .int q), (3, .int (nI n)), (4, .int (nI 1)), (5, .ref pA), (6, .ref ct), (7, .int (nI mn)), (8, .int (nI all)), (12, .int (nI ins)), (13, .ref q1280), (14, .int q), (15, .int (nI k))], [], [])) rfl ?_
        refine y_inc hC (n := 1) rfl rfl rfl (k + 1) (by rfl) [(15, .int (nI (k + 1))), (0, .ref (y_a ε 42)), (1, .ref (ad 0)), (2, .int q), (3, .int (nI n)), (4, .int (nI 1)), (5, .ref pA), (6, .ref ct), (7, .int (nI mn)), (8, .int (nI all)), (12, .int (nI ins)), (13, .ref q1280), (14, .int q)] rfl ?_
        refine y_steps hC 1 (σ' := (1290, [(15, .int (nI (k + 1))), (0, .ref (y_a ε 42)), (1, .ref (ad 0)), (2, .int q), (3, .int (nI n)), (4, .int (nI 1)), (5, .ref pA), (6, .ref ct), (7, .int (nI mn)), (8, .int (nI all)), (12, .int (nI ins)), (13, .ref q1280), (14, .int q)], [], [])) rfl ?_
        refine y_sub hC [1, 2, 3, 4, 5, 6, 7, 8, 9, 10, 11, 12, 0] rfl ?_
        exact ih_1290 (k + 1) (upd gi k (nI k)) (by omega) (by exact ⟨by omega, y_upS l2⟩)
  refine y_sub hC [3, 4, 5, 6, 7, 8, 9, 10, 11, 12, 2, 1, 0] rfl ?_
  exact loop_1290 _ 0 (fun _ => 0) (Nat.lt_succ_self _) (by exact ⟨Nat.zero_le _, fun i hi => absurd hi (Nat.not_lt_zero i)⟩)
set_option maxHeartbeats 4000000 in
set_option maxRecDepth 1000000 in
theorem law_p1372 {ε : y_Ev} {κ : y_K} (hC : y_ok ε κ zmL_law 14 562 858236 6527540) (k1495 : law_1495 ε κ) : law_1372 ε κ := by
  intro ad q n pA ct mn parts cv pv pa pf g2 c2 tp pp wr all outs ins dA gd D hX hCI hn hp hm hIV hall hio hgd hpD heD
  have hL : y_L ε ≤ 260 := hC.2.2.2.2.2.2.2.1.2.2.2.2.2.2.2.2.1
  have hm10 := hIV.1
  refine y_steps hC 3 (σ' := (1376, [(0, .ref (y_a ε 42)), (1, .ref (ad 0)), (2, .int q), (3, .int (nI n)), (4, .int (nI 1)), (5, .ref pA), (6, .ref ct), (7, .int (nI mn)), (8, .int (nI all)), (12, .int (nI ins)), (13, .ref dA)], [.int q, .ref (ad 0), .int (nI 1)], [])) rfl ?_
  obtain ⟨fs_1376, hh_1376⟩ := y_CI_hd hCI
  refine y_spl [[(dA, .inl (y_c ε 0, 8, .inl gd))], [(pA, .inl (y_c ε 3, 12, .inr (.inr (.inr (.inr g2)))))], [(ct, .inl (y_c ε 0, 12, .inl c2))], y_PW ε mn pa pf] [z_W (y_c ε) ad hX] ?_
  refine y_cls (d := 3) (y := 70) (idx := 147) (ad := ad) (h := hX) (B := y_J [[(dA, .inl (y_c ε 0, 8, .inl gd))], [(pA, .inl (y_c ε 3, 12, .inr (.inr (.inr (.inr g2)))))], [(ct, .inl (y_c ε 0, 12, .inl c2))], y_PW ε mn pa pf]) (av := [.int q]) (fs := fs_1376) hC rfl (m_shuffle hCI ) rfl hh_1376 rfl (z_t1 (i := 239) rfl rfl) (z_t2 (i := 0) rfl rfl) (z_t2 (i := 1) rfl rfl) (z_t1 (i := 1) rfl rfl) (show _ = some 1 from by decide +kernel) rfl rfl (by omega) (by omega) rfl (fun r_1376 h_1376 p_1376 => ?_)
  obtain ⟨rfl, hCI_1376⟩ := p_1376
  refine y_cmb [[(dA, .inl (y_c ε 0, 8, .inl gd))], [(pA, .inl (y_c ε 3, 12, .inr (.inr (.inr (.inr g2)))))], [(ct, .inl (y_c ε 0, 12, .inl c2))], y_PW ε mn pa pf] [z_W (y_c ε) ad h_1376] ?_
  have hCS : y_CI n outs mn 0 D cv pv none 0 tp wr pp ((fun _ => 0)) ((fun _ => 0)) h_1376 := (by rw [heD]; exact hCI_1376)
  refine y_steps hC 2 (σ' := (1382, [(0, .ref (y_a ε 42)), (1, .ref (ad 0)), (2, .int q), (3, .int (nI n)), (4, .int (nI 1)), (5, .ref pA), (6, .ref ct), (7, .int (nI mn)), (8, .int (nI all)), (12, .int (nI ins)), (13, .ref dA)], [.int (nI 0), .ref dA, .int (nI ((z_shf (n - 1) q (fun i => if i < n then i else (fun k => k) i)) 0)), .int (nI 1)], [])) rfl ?_
  refine y_ial hC 0 rfl rfl (by first | assumption | omega | rfl | trivial) (by omega) (hgd _ (by omega)) ?_
  refine y_steps hC 0 (σ' := (1383, [(0, .ref (y_a ε 42)), (1, .ref (ad 0)), (2, .int q), (3, .int (nI n)), (4, .int (nI 1)), (5, .ref pA), (6, .ref ct), (7, .int (nI mn)), (8, .int (nI all)), (12, .int (nI ins)), (13, .ref dA)], [.int (nI (D 0)), .int (nI ((z_shf (n - 1) q (fun i => if i < n then i else (fun k => k) i)) 0)), .int (nI 1)], [])) rfl ?_
  refine y_icne hC rfl rfl (congrArg nI (congrFun heD 0).symm) ?_
  refine y_steps hC 2 (σ' := (1391, [(0, .ref (y_a ε 42)), (1, .ref (ad 0)), (2, .int q), (3, .int (nI n)), (4, .int (nI 1)), (5, .ref pA), (6, .ref ct), (7, .int (nI mn)), (8, .int (nI all)), (12, .int (nI ins)), (13, .ref dA)], [.int (nI 1), .int (nI 1)], [])) rfl ?_
  refine y_and hC (1) rfl (by first | rfl | decide) ?_
  refine y_steps hC 5 (σ' := (1400, [(4, .int (nI 1)), (0, .ref (y_a ε 42)), (1, .ref (ad 0)), (2, .int q), (3, .int (nI n)), (5, .ref pA), (6, .ref ct), (7, .int (nI mn)), (8, .int (nI all)), (12, .int (nI ins)), (13, .ref dA)], [.int (nI 7), .int ((q >>> ((nI 8) &&& 31)))], [])) rfl ?_
  obtain ⟨w1400, hw1400, ew1400⟩ := y_7_ex (((q >>> ((nI 8) &&& 31))))
  have ey_1400 : (((q >>> ((nI 8) &&& 31))) &&& (nI 7)) = nI w1400 := ew1400
  refine y_one hC (σ' := (1401, [(4, .int (nI 1)), (0, .ref (y_a ε 42)), (1, .ref (ad 0)), (2, .int q), (3, .int (nI n)), (5, .ref pA), (6, .ref ct), (7, .int (nI mn)), (8, .int (nI all)), (12, .int (nI ins)), (13, .ref dA)], [.int ((((q >>> ((nI 8) &&& 31))) &&& (nI 7)))], [])) rfl ?_
  rw [ey_1400]
  refine y_steps hC 1 (σ' := (1402, [(4, .int (nI 1)), (0, .ref (y_a ε 42)), (1, .ref (ad 0)), (2, .int q), (3, .int (nI n)), (5, .ref pA), (6, .ref ct), (7, .int (nI mn)), (8, .int (nI all)), (12, .int (nI ins)), (13, .ref dA)], [.int (nI n), .int (nI w1400)], [])) rfl ?_
  obtain ⟨at1, hat1, eat1⟩ : ∃ c : Nat, (c < n) ∧ ((nI w1400) - (nI w1400) / (nI n) * (nI n)) = nI c := ⟨w1400 % n, Nat.mod_lt _ (by omega), pk_rem (Nat.lt_trans hw1400 (by decide)) (by omega) (by omega)⟩
  have ey_1402 : ((nI w1400) - (nI w1400) / (nI n) * (nI n)) = nI at1 := eat1
  refine y_gd hC (c := ¬ (nI n) = 0) (σ' := (1403, [(4, .int (nI 1)), (0, .ref (y_a ε 42)), (1, .ref (ad 0)), (2, .int q), (3, .int (nI n)), (5, .ref pA), (6, .ref ct), (7, .int (nI mn)), (8, .int (nI all)), (12, .int (nI ins)), (13, .ref dA)], [.int (((nI w1400) - (nI w1400) / (nI n) * (nI n)))], [])) rfl (by exact fun q => absurd ((z0_eq (by omega)).mp q) (by omega)) ?_
  rw [ey_1402]
  refine y_steps hC 5 (σ' := (1412, [(15, .int (nI at1)), (4, .int (nI 1)), (0, .ref (y_a ε 42)), (1, .ref (ad 0)), (2, .int q), (3, .int (nI n)), (5, .ref pA), (6, .ref ct), (7, .int (nI mn)), (8, .int (nI all)), (12, .int (nI ins)), (13, .ref dA)], [.int (nI at1), .ref dA, .ref (ad 0), .int (nI 1)], [])) rfl ?_
  refine y_ial hC 0 rfl rfl (by first | assumption | omega | rfl | trivial) (by omega) (hgd _ (by omega)) ?_
  refine y_steps hC 0 (σ' := (1413, [(15, .int (nI at1)), (4, .int (nI 1)), (0, .ref (y_a ε 42)), (1, .ref (ad 0)), (2, .int q), (3, .int (nI n)), (5, .ref pA), (6, .ref ct), (7, .int (nI mn)), (8, .int (nI all)), (12, .int (nI ins)), (13, .ref dA)], [.int (nI (D at1)), .ref (ad 0), .int (nI 1)], [])) rfl ?_
  obtain ⟨fs_1413, hh_1413⟩ := y_CI_hd hCS
  refine y_spl [[(dA, .inl (y_c ε 0, 8, .inl gd))], [(pA, .inl (y_c ε 3, 12, .inr (.inr (.inr (.inr g2)))))], [(ct, .inl (y_c ε 0, 12, .inl c2))], y_PW ε mn pa pf] [z_W (y_c ε) ad h_1376] ?_
  refine y_cls (d := 2) (y := 69) (idx := 150) (ad := ad) (h := h_1376) (B := y_J [[(dA, .inl (y_c ε 0, 8, .inl gd))], [(pA, .inl (y_c ε 3, 12, .inr (.inr (.inr (.inr g2)))))], [(ct, .inl (y_c ε 0, 12, .inl c2))], y_PW ε mn pa pf]) (av := [.int (nI (D at1))]) (fs := fs_1413) hC rfl (m_ahead hCS hat1 rfl) rfl hh_1413 rfl (z_t1 (i := 231) rfl rfl) (z_t1 (i := 232) rfl rfl) (z_t1 (i := 233) rfl rfl) (z_t1 (i := 1) rfl rfl) (show _ = some 1 from by decide +kernel) rfl rfl (by omega) (by omega) rfl (fun r_1413 h_1413 p_1413 => ?_)
  obtain ⟨rfl, hCI_1413⟩ := p_1413
  refine y_cmb [[(dA, .inl (y_c ε 0, 8, .inl gd))], [(pA, .inl (y_c ε 3, 12, .inr (.inr (.inr (.inr g2)))))], [(ct, .inl (y_c ε 0, 12, .inl c2))], y_PW ε mn pa pf] [z_W (y_c ε) ad h_1413] ?_
  refine y_steps hC 1 (σ' := (1418, [(15, .int (nI at1)), (4, .int (nI 1)), (0, .ref (y_a ε 42)), (1, .ref (ad 0)), (2, .int q), (3, .int (nI n)), (5, .ref pA), (6, .ref ct), (7, .int (nI mn)), (8, .int (nI all)), (12, .int (nI ins)), (13, .ref dA)], [.int (nI at1), .int (nI at1), .int (nI 1)], [])) rfl ?_
  refine y_icne hC rfl rfl (rfl) ?_
  refine y_steps hC 2 (σ' := (1423, [(15, .int (nI at1)), (4, .int (nI 1)), (0, .ref (y_a ε 42)), (1, .ref (ad 0)), (2, .int q), (3, .int (nI n)), (5, .ref pA), (6, .ref ct), (7, .int (nI mn)), (8, .int (nI all)), (12, .int (nI ins)), (13, .ref dA)], [.int (nI 0), .ref (ad 0), .int (nI 1)], [])) rfl ?_
  obtain ⟨fs_1423, hh_1423⟩ := y_CI_hd hCI_1413
  refine y_spl [[(dA, .inl (y_c ε 0, 8, .inl gd))], [(pA, .inl (y_c ε 3, 12, .inr (.inr (.inr (.inr g2)))))], [(ct, .inl (y_c ε 0, 12, .inl c2))], y_PW ε mn pa pf] [z_W (y_c ε) ad h_1413] ?_
  refine y_cls (d := 3) (y := 71) (idx := 153) (ad := ad) (h := h_1413) (B := y_J [[(dA, .inl (y_c ε 0, 8, .inl gd))], [(pA, .inl (y_c ε 3, 12, .inr (.inr (.inr (.inr g2)))))], [(ct, .inl (y_c ε 0, 12, .inl c2))], y_PW ε mn pa pf]) (av := [.int (nI 0)]) (fs := fs_1423) hC rfl (m_drawn hCI_1413 (by omega)) rfl hh_1423 rfl (z_t2 (i := 15) rfl rfl) (z_t2 (i := 16) rfl rfl) (z_t2 (i := 17) rfl rfl) (z_t1 (i := 1) rfl rfl) (show _ = some 1 from by decide +kernel) rfl rfl (by omega) (by omega) rfl (fun r_1423 h_1423 p_1423 => ?_)
  obtain ⟨rfl, hCI_1423⟩ := p_1423
  refine y_cmb [[(dA, .inl (y_c ε 0, 8, .inl gd))], [(pA, .inl (y_c ε 3, 12, .inr (.inr (.inr (.inr g2)))))], [(ct, .inl (y_c ε 0, 12, .inl c2))], y_PW ε mn pa pf] [z_W (y_c ε) ad h_1423] ?_
  refine y_steps hC 2 (σ' := (1430, [(15, .int (nI at1)), (4, .int (nI 1)), (0, .ref (y_a ε 42)), (1, .ref (ad 0)), (2, .int q), (3, .int (nI n)), (5, .ref pA), (6, .ref ct), (7, .int (nI mn)), (8, .int (nI all)), (12, .int (nI ins)), (13, .ref dA)], [.int (nI at1), .ref dA, .int (nI (D at1)), .int (nI 1)], [])) rfl ?_
  refine y_ial hC 0 rfl rfl (by first | assumption | omega | rfl | trivial) (by omega) (hgd _ (by omega)) ?_
  refine y_steps hC 0 (σ' := (1431, [(15, .int (nI at1)), (4, .int (nI 1)), (0, .ref (y_a ε 42)), (1, .ref (ad 0)), (2, .int q), (3, .int (nI n)), (5, .ref pA), (6, .ref ct), (7, .int (nI mn)), (8, .int (nI all)), (12, .int (nI ins)), (13, .ref dA)], [.int (nI (D at1)), .int (nI (D at1)), .int (nI 1)], [])) rfl ?_
  refine y_icne hC rfl rfl (rfl) ?_
  refine y_steps hC 2 (σ' := (1439, [(15, .int (nI at1)), (4, .int (nI 1)), (0, .ref (y_a ε 42)), (1, .ref (ad 0)), (2, .int q), (3, .int (nI n)), (5, .ref pA), (6, .ref ct), (7, .int (nI mn)), (8, .int (nI all)), (12, .int (nI ins)), (13, .ref dA)], [.int (nI 1), .int (nI 1)], [])) rfl ?_
  refine y_and hC (1) rfl (by first | rfl | decide) ?_
  refine y_steps hC 3 (σ' := (1445, [(16, .int (nI 1)), (4, .int (nI 1)), (15, .int (nI at1)), (0, .ref (y_a ε 42)), (1, .ref (ad 0)), (2, .int q), (3, .int (nI n)), (5, .ref pA), (6, .ref ct), (7, .int (nI mn)), (8, .int (nI all)), (12, .int (nI ins)), (13, .ref dA)], [], [])) rfl ?_
  have loop_1445 : ∀ (z_1445 : Nat) (k : Nat) (h1445 : List z_E), n - k < z_1445 → ((y_CI n outs mn 0 ((z_front D at1 (D at1))) cv pv none 0 tp wr pp ((fun _ => 0)) ((fun _ => 0)) h1445) ∧ (1 ≤ k ∧ k ≤ n)) → y_G ε κ zmL_law 14010 1400020 ((dA, .inl (y_c ε 0, 8, .inl gd)) :: ((pA, .inl (y_c ε 3, 12, .inr (.inr (.inr (.inr g2))))) :: ((ct, .inl (y_c ε 0, 12, .inl c2)) :: ((y_PW ε mn pa pf) ++ (z_W (y_c ε) ad h1445))))) (1445, [(0, .ref (y_a ε 42)), (1, .ref (ad 0)), (2, .int q), (3, .int (nI n)), (4, .int (nI 1)), (5, .ref pA), (6, .ref ct), (7, .int (nI mn)), (8, .int (nI all)), (12, .int (nI ins)), (13, .ref dA), (15, .int (nI at1)), (16, .int (nI k))], [], []) := by
    intro z_1445
    induction z_1445 with
    | zero => intro k h1445 hm_1445 _; exact absurd hm_1445 (Nat.not_lt_zero _)
    | succ z_1445 ih_1445 =>
      intro k h1445 hm_1445 hi_1445
      obtain ⟨h_cl1445, hi_1445⟩ := hi_1445
      obtain ⟨l1, l2⟩ := hi_1445
      refine y_steps hC 2 (σ' := (1448, [(0, .ref (y_a ε 42)), (1, .ref (ad 0)), (2, .int q), (3, .int (nI n)), (4, .int (nI 1)), (5, .ref pA), (6, .ref ct), (7, .int (nI mn)), (8, .int (nI all)), (12, .int (nI ins)), (13, .ref dA), (15, .int (nI at1)), (16, .int (nI k))], [.int (nI n), .int (nI k)], [])) rfl ?_
      refine y_if hC (c := nI n ≤ nI k) rfl (fun c_1448 => ?_) (fun c_1448 => ?_)
      · skip
        rw [nI_leI (by omega) (by omega)] at c_1448
        refine y_steps hC 0 (σ' := (1495, [(0, .ref (y_a ε 42)), (1, .ref (ad 0)), (2, .int q), (3, .int (nI n)), (4, .int (nI 1)), (5, .ref pA), (6, .ref ct), (7, .int (nI mn)), (8, .int (nI all)), (12, .int (nI ins)), (13, .ref dA), (15, .int (nI at1)), (16, .int (nI k))], [], [])) rfl ?_
        refine y_sub hC [0, 1, 2, 3, 4, 5, 6, 7, 8, 9, 10, 11] rfl ?_
        refine y_wid (14010) (1400020) (by omega) (by omega) ?_
        exact k1495 ad q n pA ct mn parts cv pv pa pf g2 c2 tp pp wr all outs ins dA at1 gd (z_front D at1 (D at1)) h1445 (by exact h_cl1445) (by exact hn) (by exact hp) (by exact hm) (by exact hIV) (by exact hall) (by exact hio) (by exact hat1) (by exact hgd at1 hat1)
      · skip
        rw [nI_leI (by omega) (by omega)] at c_1448
        refine y_steps hC 3 (σ' := (1456, [(0, .ref (y_a ε 42)), (1, .ref (ad 0)), (2, .int q), (3, .int (nI n)), (4, .int (nI 1)), (5, .ref pA), (6, .ref ct), (7, .int (nI mn)), (8, .int (nI all)), (12, .int (nI ins)), (13, .ref dA), (15, .int (nI at1)), (16, .int (nI k))], [.int (nI k), .ref (ad 0), .int (nI 1)], [])) rfl ?_
        obtain ⟨fs_1456, hh_1456⟩ := y_CI_hd h_cl1445
        refine y_spl [[(dA, .inl (y_c ε 0, 8, .inl gd))], [(pA, .inl (y_c ε 3, 12, .inr (.inr (.inr (.inr g2)))))], [(ct, .inl (y_c ε 0, 12, .inl c2))], y_PW ε mn pa pf] [z_W (y_c ε) ad h1445] ?_
        refine y_cls (d := 3) (y := 71) (idx := 153) (ad := ad) (h := h1445) (B := y_J [[(dA, .inl (y_c ε 0, 8, .inl gd))], [(pA, .inl (y_c ε 3, 12, .inr (.inr (.inr (.inr g2)))))], [(ct, .inl (y_c ε 0, 12, .inl c2))], y_PW ε mn pa pf]) (av := [.int (nI k)]) (fs := fs_1456) hC rfl (m_drawn h_cl1445 (by omega)) rfl hh_1456 rfl (z_t2 (i := 15) rfl rfl) (z_t2 (i := 16) rfl rfl) (z_t2 (i := 17) rfl rfl) (z_t1 (i := 1) rfl rfl) (show _ = some 1 from by decide +kernel) rfl rfl (by omega) (by omega) rfl (fun r_1456 h_1456 p_1456 => ?_)
        obtain ⟨rfl, hCI_1456⟩ := p_1456
        refine y_cmb [[(dA, .inl (y_c ε 0, 8, .inl gd))], [(pA, .inl (y_c ε 3, 12, .inr (.inr (.inr (.inr g2)))))], [(ct, .inl (y_c ε 0, 12, .inl c2))], y_PW ε mn pa pf] [z_W (y_c ε) ad h_1456] ?_
        refine y_steps hC 3 (σ' := (1465, [(0, .ref (y_a ε 42)), (1, .ref (ad 0)), (2, .int q), (3, .int (nI n)), (4, .int (nI 1)), (5, .ref pA), (6, .ref ct), (7, .int (nI mn)), (8, .int (nI all)), (12, .int (nI ins)), (13, .ref dA), (15, .int (nI at1)), (16, .int (nI k))], [.int (nI at1), .int (nI k), .ref dA, .int (nI (z_front D at1 (D at1) k)), .int (nI 1)], [])) rfl ?_
        refine y_if hC (c := nI at1 < nI k) rfl (fun c_1465 => ?_) (fun c_1465 => ?_)
        · skip
          rw [nI_ltI (by omega) (by omega)] at c_1465
          refine y_steps hC 1 (σ' := (1477, [(0, .ref (y_a ε 42)), (1, .ref (ad 0)), (2, .int q), (3, .int (nI n)), (4, .int (nI 1)), (5, .ref pA), (6, .ref ct), (7, .int (nI mn)), (8, .int (nI all)), (12, .int (nI ins)), (13, .ref dA), (15, .int (nI at1)), (16, .int (nI k))], [.int (nI k), .ref dA, .int (nI (z_front D at1 (D at1) k)), .int (nI 1)], [])) rfl ?_
          refine y_ial hC 0 rfl rfl (by first | assumption | omega | rfl | trivial) (by omega) (hgd _ (by omega)) ?_
          refine y_steps hC 0 (σ' := (1478, [(0, .ref (y_a ε 42)), (1, .ref (ad 0)), (2, .int q), (3, .int (nI n)), (4, .int (nI 1)), (5, .ref pA), (6, .ref ct), (7, .int (nI mn)), (8, .int (nI all)), (12, .int (nI ins)), (13, .ref dA), (15, .int (nI at1)), (16, .int (nI k))], [.int (nI (D k)), .int (nI (z_front D at1 (D at1) k)), .int (nI 1)], [])) rfl ?_
          refine y_icne hC rfl rfl (congrArg nI (y_frB (by omega))) ?_
          refine y_steps hC 2 (σ' := (1486, [(0, .ref (y_a ε 42)), (1, .ref (ad 0)), (2, .int q), (3, .int (nI n)), (4, .int (nI 1)), (5, .ref pA), (6, .ref ct), (7, .int (nI mn)), (8, .int (nI all)), (12, .int (nI ins)), (13, .ref dA), (15, .int (nI at1)), (16, .int (nI k))], [.int (nI 1), .int (nI 1)], [])) rfl ?_
          refine y_and hC (1) rfl (by first | rfl | decide) ?_
          refine y_steps hC 1 (σ' := (1489, [(4, .int (nI 1)), (0, .ref (y_a ε 42)), (1, .ref (ad 0)), (2, .int q), (3, .int (nI n)), (5, .ref pA), (6, .ref ct), (7, .int (nI mn)), (8, .int (nI all)), (12, .int (nI ins)), (13, .ref dA), (15, .int (nI at1)), (16, .int (nI k))], [], [])) rfl ?_
          refine y_inc hC (n := 1) rfl rfl rfl (k + 1) (by rfl) [(16, .int (nI (k + 1))), (4, .int (nI 1)), (0, .ref (y_a ε 42)), (1, .ref (ad 0)), (2, .int q), (3, .int (nI n)), (5, .ref pA), (6, .ref ct), (7, .int (nI mn)), (8, .int (nI all)), (12, .int (nI ins)), (13, .ref dA), (15, .int (nI at1))] rfl ?_
          refine y_steps hC 1 (σ' := (1445, [(16, .int (nI (k + 1))), (4, .int (nI 1)), (0, .ref (y_a ε 42)), (1, .ref (ad 0)), (2, .int q), (3, .int (nI n)), (5, .ref pA), (6, .ref ct), (7, .int (nI mn)), (8, .int (nI all)), (12, .int (nI ins)), (13, .ref dA), (15, .int (nI at1))], [], [])) rfl ?_
          refine y_sub hC [2, 3, 4, 5, 1, 6, 7, 8, 9, 10, 11, 12, 0] rfl ?_
          exact ih_1445 (k + 1) h_1456 (by omega) ⟨(by exact hCI_1456), (by omega)⟩
        · skip
          rw [nI_ltI (by omega) (by omega)] at c_1465
          refine y_steps hC 2 (σ' := (1471, [(0, .ref (y_a ε 42)), (1, .ref (ad 0)), (2, .int q), (3, .int (nI n)), (4, .int (nI 1)), (5, .ref pA), (6, .ref ct), (7, .int (nI mn)), (8, .int (nI all)), (12, .int (nI ins)), (13, .ref dA), (15, .int (nI at1)), (16, .int (nI k))], [.int (nI 1), .int (nI k), .ref dA, .int (nI (z_front D at1 (D at1) k)), .int (nI 1)], [])) rfl ?_
          refine y_sbt hC (k - 1) rfl (by first | assumption | omega | rfl | trivial) (by first | rfl | omega) ?_
          refine y_steps hC 1 (σ' := (1477, [(0, .ref (y_a ε 42)), (1, .ref (ad 0)), (2, .int q), (3, .int (nI n)), (4, .int (nI 1)), (5, .ref pA), (6, .ref ct), (7, .int (nI mn)), (8, .int (nI all)), (12, .int (nI ins)), (13, .ref dA), (15, .int (nI at1)), (16, .int (nI k))], [.int (nI (k - 1)), .ref dA, .int (nI (z_front D at1 (D at1) k)), .int (nI 1)], [])) rfl ?_
          refine y_ial hC 0 rfl rfl (by first | assumption | omega | rfl | trivial) (by omega) (hgd _ (by omega)) ?_
          refine y_steps hC 0 (σ' := (1478, [(0, .ref (y_a ε 42)), (1, .ref (ad 0)), (2, .int q), (3, .int (nI n)), (4, .int (nI 1)), (5, .ref pA), (6, .ref ct), (7, .int (nI mn)), (8, .int (nI all)), (12, .int (nI ins)), (13, .ref dA), (15, .int (nI at1)), (16, .int (nI k))], [.int (nI (D (k - 1))), .int (nI (z_front D at1 (D at1) k)), .int (nI 1)], [])) rfl ?_
          refine y_icne hC rfl rfl (congrArg nI (y_frA (by omega) (by omega))) ?_
          refine y_steps hC 2 (σ' := (1486, [(0, .ref (y_a ε 42)), (1, .ref (ad 0)), (2, .int q), (3, .int (nI n)), (4, .int (nI 1)), (5, .ref pA), (6, .ref ct), (7, .int (nI mn)), (8, .int (nI all)), (12, .int (nI ins)), (13, .ref dA), (15, .int (nI at1)), (16, .int (nI k))], [.int (nI 1), .int (nI 1)], [])) rfl ?_
          refine y_and hC (1) rfl (by first | rfl | decide) ?_
          refine y_steps hC 1 (σ' := (1489, [(4, .int (nI 1)), (0, .ref (y_a ε 42)), (1, .ref (ad 0)), (2, .int q), (3, .int (nI n)), (5, .ref pA), (6, .ref ct), (7, .int (nI mn)), (8, .int (nI all)), (12, .int (nI ins)), (13, .ref dA), (15, .int (nI at1)), (16, .int (nI k))], [], [])) rfl ?_
          refine y_inc hC (n := 1) rfl rfl rfl (k + 1) (by rfl) [(16, .int (nI (k + 1))), (4, .int (nI 1)), (0, .ref (y_a ε 42)), (1, .ref (ad 0)), (2, .int q), (3, .int (nI n)), (5, .ref pA), (6, .ref ct), (7, .int (nI mn)), (8, .int (nI all)), (12, .int (nI ins)), (13, .ref dA), (15, .int (nI at1))] rfl ?_
          refine y_steps hC 1 (σ' := (1445, [(16, .int (nI (k + 1))), (4, .int (nI 1)), (0, .ref (y_a ε 42)), (1, .ref (ad 0)), (2, .int q), (3, .int (nI n)), (5, .ref pA), (6, .ref ct), (7, .int (nI mn)), (8, .int (nI all)), (12, .int (nI ins)), (13, .ref dA), (15, .int (nI at1))], [], [])) rfl ?_
          refine y_sub hC [2, 3, 4, 5, 1, 6, 7, 8, 9, 10, 11, 12, 0] rfl ?_
          exact ih_1445 (k + 1) h_1456 (by omega) ⟨(by exact hCI_1456), (by omega)⟩
  refine y_sub hC [3, 4, 5, 6, 1, 7, 8, 9, 10, 11, 12, 2, 0] rfl ?_
  exact loop_1445 _ 1 h_1423 (Nat.lt_succ_self _) ⟨(by exact hCI_1423), (by omega)⟩
