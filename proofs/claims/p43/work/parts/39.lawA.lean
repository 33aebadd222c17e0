/-! the law's walk: its cuts; the start -/
theorem y_7_ex (z : Int32) : ∃ w, w < 8 ∧ z &&& nI 7 = nI w := ⟨y_7 z, y_7_lt z, y_7_eq z⟩
def law_0 (ε : y_Ev) (κ : y_K) : Prop := y_G ε κ zmL_law 0 0 (([] : va_W)) (0, [(0, .ref (y_a ε 42))], [], [])
def law_145 (ε : y_Ev) (κ : y_K) : Prop := ∀ (ad : Nat → Nat) (q : Int32) (n : Nat) (pA : Nat) (ct : Nat) (mn : Nat) (parts : Nat) (cv : Nat → Nat) (pv : Nat → Nat → Nat) (pa : Nat → Nat) (pf : Nat → Nat → Int32) (g2 : Nat → Option Nat) (c2 : Nat → Int32) (tp : Nat → Nat) (pp : Nat → Int32) (hX : List z_E), (y_CI n 0 mn 0 ((fun k => k)) cv pv none 0 tp 0 pp ((fun _ => 0)) ((fun _ => 0)) hX) → (2 ≤ n ∧ n ≤ 8) → (parts ≤ 10) → (1 ≤ mn) → (y_IV n parts mn cv pv pa pf g2 c2) → y_G ε κ zmL_law 6200 613000 ((pA, .inl (y_c ε 3, 12, .inr (.inr (.inr (.inr g2))))) :: ((ct, .inl (y_c ε 0, 12, .inl c2)) :: ((y_PW ε mn pa pf) ++ (z_W (y_c ε) ad hX)))) (145, [(0, .ref (y_a ε 42)), (1, .ref (ad 0)), (2, .int q), (3, .int (nI n)), (4, .int (nI 1)), (5, .ref pA), (6, .ref ct), (7, .int (nI mn))], [], [])
def law_440 (ε : y_Ev) (κ : y_K) : Prop := ∀ (ad : Nat → Nat) (q : Int32) (n : Nat) (pA : Nat) (ct : Nat) (mn : Nat) (parts : Nat) (cv : Nat → Nat) (pv : Nat → Nat → Nat) (pa : Nat → Nat) (pf : Nat → Nat → Int32) (g2 : Nat → Option Nat) (c2 : Nat → Int32) (tp : Nat → Nat) (pp : Nat → Int32) (wr : Nat) (all : Nat) (hX : List z_E), (y_CI n 0 mn 0 ((fun k => k)) cv pv none 0 tp wr pp ((fun _ => 0)) ((fun _ => 0)) hX) → (2 ≤ n ∧ n ≤ 8) → (parts ≤ 10) → (1 ≤ mn) → (y_IV n parts mn cv pv pa pf g2 c2) → (all = z_sum mn cv) → y_G ε κ zmL_law 12200 1223000 ((pA, .inl (y_c ε 3, 12, .inr (.inr (.inr (.inr g2))))) :: ((ct, .inl (y_c ε 0, 12, .inl c2)) :: ((y_PW ε mn pa pf) ++ (z_W (y_c ε) ad hX)))) (440, [(0, .ref (y_a ε 42)), (1, .ref (ad 0)), (2, .int q), (3, .int (nI n)), (4, .int (nI 1)), (5, .ref pA), (6, .ref ct), (7, .int (nI mn)), (8, .int (nI all))], [], [])
set_option maxHeartbeats 4000000 in
set_option maxRecDepth 1000000 in
theorem law_p0 {ε : y_Ev} {κ : y_K} (hC : y_ok ε κ zmL_law 14 562 858236 6527540) (k145 : law_145 ε κ) : law_0 ε κ := by
  have hL : y_L ε ≤ 260 := hC.2.2.2.2.2.2.2.1.2.2.2.2.2.2.2.2.1
  refine y_steps hC 0 (σ' := (0, [(0, .ref (y_a ε 42))], [], [])) rfl ?_
  refine y_new (ci := 5) (fs := [.null, .null, .null, .null, .null, .null, .null, .int (nI 0)]) hC rfl tyX5 tyX5_ok (z_t1 (i := 19) rfl rfl) (z_t1 (i := 20) rfl rfl) (z_t1 (i := 1) rfl rfl) (fun j hj => by match j, hj with | 0, _ => rfl | 1, _ => rfl | 2, _ => rfl | 3, _ => rfl | 4, _ => rfl | 5, _ => rfl | 6, _ => rfl | 7, _ => rfl | j + 8, hj => exact absurd hj (by omega)) (by omega) (by omega) rfl (fun q0 => ?_)
  refine y_steps hC 1 (σ' := (4, [(0, .ref (y_a ε 42))], [.ref q0, .ref q0], [])) rfl ?_
  refine y_init5 (pc := 4) (st := [.ref q0]) (b := q0) (ws := ([] : va_W)) hC rfl (k_X5 ε.1) (z_t1 (i := 23) rfl rfl) (z_t1 (i := 1) rfl rfl) (z_t1 (i := 21) rfl rfl) (z_t1 (i := 22) rfl rfl) rfl (by decide +kernel) rfl rfl (by omega) (by omega) rfl (fun u4 h4 p4 => ?_)
  have hCI_4 := y_CI0 p4 (fun _ => 0) (fun _ _ => 0) (fun _ => 0) (fun _ => 0)
  obtain ⟨ad, had⟩ : ∃ ad : Nat → Nat, ad = zk_ad q0 u4 := ⟨_, rfl⟩
  have had0 : ad 0 = q0 := by rw [had]; rfl
  rw [← had]
  refine y_steps hC 0 (σ' := (7, [(0, .ref (y_a ε 42))], [.ref q0], [])) rfl ?_
  rw [← had0]
  refine y_steps hC 3 (σ' := (10, [(1, .ref (ad 0)), (0, .ref (y_a ε 42))], [.int (nI 0), .ref (y_a ε 42)], [])) rfl ?_
  refine y_spl [] [z_W (y_c ε) ad h4] ?_
  refine y_callS (pc := 10) (st := []) (y := 140) (idx := 45) (w := y_J []) (wr := y_J [z_W (y_c ε) ad h4]) (av := [.ref (y_a ε 42), .int (nI 0)]) hC rfl rfl (z_t3 (i := 127) rfl rfl) (z_t3 (i := 128) rfl rfl) (z_t1 (i := 0) rfl rfl) (c_L_cell (i := 0) (by first | assumption | omega | rfl | trivial) (by first | assumption | omega | rfl | trivial)) (show _ = some 2 from by decide +kernel) rfl rfl (by omega) (by omega) rfl (fun r_10 w_10 p_10 => ?_)
  obtain ⟨v_10, rfl, ew_10⟩ := p_10
  replace ew_10 := ew_10.symm
  subst ew_10
  refine y_cmb [] [z_W (y_c ε) ad h4] ?_
  refine y_steps hC 4 (σ' := (18, [(2, .int v_10), (1, .ref (ad 0)), (0, .ref (y_a ε 42))], [.int (nI 7), .int v_10, .int (nI 2)], [])) rfl ?_
  obtain ⟨w18, hw18, ew18⟩ := y_7_ex (v_10)
  have ey_18 : (v_10 &&& (nI 7)) = nI w18 := ew18
  refine y_one hC (σ' := (19, [(2, .int v_10), (1, .ref (ad 0)), (0, .ref (y_a ε 42))], [.int ((v_10 &&& (nI 7))), .int (nI 2)], [])) rfl ?_
  rw [ey_18]
  refine y_steps hC 1 (σ' := (21, [(2, .int v_10), (1, .ref (ad 0)), (0, .ref (y_a ε 42))], [.int (nI 7), .int (nI w18), .int (nI 2)], [])) rfl ?_
  have ey_21 : ((nI w18) - (nI w18) / (nI 7) * (nI 7)) = nI (w18 % 7) := pk_rem (Nat.lt_trans hw18 (by decide)) (by decide) (by decide)
  refine y_gd hC (c := ¬ (nI 7) = 0) (σ' := (22, [(2, .int v_10), (1, .ref (ad 0)), (0, .ref (y_a ε 42))], [.int (((nI w18) - (nI w18) / (nI 7) * (nI 7))), .int (nI 2)], [])) rfl (by decide) ?_
  rw [ey_21]
  refine y_steps hC 0 (σ' := (22, [(2, .int v_10), (1, .ref (ad 0)), (0, .ref (y_a ε 42))], [.int (nI (w18 % 7)), .int (nI 2)], [])) rfl ?_
  obtain ⟨n, hn, en⟩ : ∃ c : Nat, (2 ≤ c ∧ c ≤ 8) ∧ ((nI 2) + (nI (w18 % 7))) = nI c := ⟨2 + w18 % 7, by omega, nI_add 2 (w18 % 7)⟩
  have ey_22 : ((nI 2) + (nI (w18 % 7))) = nI n := en
  refine y_one hC (σ' := (23, [(2, .int v_10), (1, .ref (ad 0)), (0, .ref (y_a ε 42))], [.int (((nI 2) + (nI (w18 % 7))))], [])) rfl ?_
  rw [ey_22]
  refine y_steps hC 2 (σ' := (25, [(3, .int (nI n)), (2, .int v_10), (1, .ref (ad 0)), (0, .ref (y_a ε 42))], [.ref (ad 0)], [])) rfl ?_
  obtain ⟨fs_25, hh_25⟩ := y_CI_hd hCI_4
  refine y_spl [] [z_W (y_c ε) ad h4] ?_
  refine y_cls (d := 2) (y := 90) (idx := 79) (ad := ad) (h := h4) (B := y_J []) (av := []) (fs := fs_25) hC rfl (m_undo0 hCI_4 rfl) rfl hh_25 rfl (z_t3 (i := 123) rfl rfl) (z_t3 (i := 124) rfl rfl) (z_t3 (i := 125) rfl rfl) (z_t1 (i := 1) rfl rfl) (show _ = some 0 from by decide +kernel) rfl rfl (by omega) (by omega) rfl (fun r_25 h_25 p_25 => ?_)
  obtain ⟨rfl, hCI_25⟩ := p_25
  refine y_cmb [] [z_W (y_c ε) ad h_25] ?_
  refine y_steps hC 4 (σ' := (35, [(3, .int (nI n)), (2, .int v_10), (1, .ref (ad 0)), (0, .ref (y_a ε 42))], [.int (nI n), .ref (ad 0)], [])) rfl ?_
  obtain ⟨fs_35, hh_35⟩ := y_CI_hd hCI_25
  refine y_spl [] [z_W (y_c ε) ad h_25] ?_
  refine y_cls (d := 3) (y := 66) (idx := 82) (ad := ad) (h := h_25) (B := y_J []) (av := [.int (nI n)]) (fs := fs_35) hC rfl (m_begin hCI_25 (by omega) (by omega)) rfl hh_35 rfl (z_t1 (i := 198) rfl rfl) (z_t1 (i := 199) rfl rfl) (z_t1 (i := 200) rfl rfl) (z_t1 (i := 1) rfl rfl) (show _ = some 1 from by decide +kernel) rfl rfl (by omega) (by omega) rfl (fun r_35 h_35 p_35 => ?_)
  obtain ⟨rfl, hCI_35⟩ := p_35
  refine y_cmb [] [z_W (y_c ε) ad h_35] ?_
  refine y_steps hC 4 (σ' := (44, [(3, .int (nI n)), (2, .int v_10), (1, .ref (ad 0)), (0, .ref (y_a ε 42))], [.int (nI 0), .ref (ad 0)], [])) rfl ?_
  obtain ⟨fs_44, hh_44⟩ := y_CI_hd hCI_35
  refine y_spl [] [z_W (y_c ε) ad h_35] ?_
  refine y_cls (d := 5) (y := 85) (idx := 85) (ad := ad) (h := h_35) (B := y_J []) (av := [.int (nI 0)]) (fs := fs_44) hC rfl (m_told0 hCI_35 ) rfl hh_44 rfl (z_t3 (i := 64) rfl rfl) (z_t3 (i := 65) rfl rfl) (z_t3 (i := 66) rfl rfl) (z_t1 (i := 1) rfl rfl) (show _ = some 1 from by decide +kernel) rfl rfl (by omega) (by omega) rfl (fun r_44 h_44 p_44 => ?_)
  obtain ⟨rfl, hCI_44⟩ := p_44
  refine y_cmb [] [z_W (y_c ε) ad h_44] ?_
  refine y_steps hC 1 (σ' := (48, [(3, .int (nI n)), (2, .int v_10), (1, .ref (ad 0)), (0, .ref (y_a ε 42))], [.int (nI n), .int (nI n)], [])) rfl ?_
  refine y_icne hC rfl rfl (rfl) ?_
  refine y_steps hC 2 (σ' := (53, [(3, .int (nI n)), (2, .int v_10), (1, .ref (ad 0)), (0, .ref (y_a ε 42))], [.int (nI 1), .ref (ad 0)], [])) rfl ?_
  obtain ⟨fs_53, hh_53⟩ := y_CI_hd hCI_44
  refine y_spl [] [z_W (y_c ε) ad h_44] ?_
  refine y_cls (d := 5) (y := 85) (idx := 85) (ad := ad) (h := h_44) (B := y_J []) (av := [.int (nI 1)]) (fs := fs_53) hC rfl (m_told1 hCI_44 ) rfl hh_53 rfl (z_t3 (i := 64) rfl rfl) (z_t3 (i := 65) rfl rfl) (z_t3 (i := 66) rfl rfl) (z_t1 (i := 1) rfl rfl) (show _ = some 1 from by decide +kernel) rfl rfl (by omega) (by omega) rfl (fun r_53 h_53 p_53 => ?_)
  obtain ⟨rfl, hCI_53⟩ := p_53
  refine y_cmb [] [z_W (y_c ε) ad h_53] ?_
  refine y_steps hC 4 (σ' := (62, [(3, .int (nI n)), (2, .int v_10), (1, .ref (ad 0)), (0, .ref (y_a ε 42))], [.int (nI 1), .int (nI n), .ref (ad 0)], [])) rfl ?_
  refine y_sbt hC (n - 1) rfl (by first | assumption | omega | rfl | trivial) (by first | rfl | omega) ?_
  refine y_steps hC 0 (σ' := (63, [(3, .int (nI n)), (2, .int v_10), (1, .ref (ad 0)), (0, .ref (y_a ε 42))], [.int (nI (n - 1)), .ref (ad 0)], [])) rfl ?_
  obtain ⟨fs_63, hh_63⟩ := y_CI_hd hCI_53
  refine y_spl [] [z_W (y_c ε) ad h_53] ?_
  refine y_cls (d := 5) (y := 80) (idx := 87) (ad := ad) (h := h_53) (B := y_J []) (av := [.int (nI (n - 1))]) (fs := fs_63) hC rfl (m_ranked hCI_53 rfl rfl rfl (by omega)) rfl hh_63 rfl (z_t2 (i := 218) rfl rfl) (z_t2 (i := 219) rfl rfl) (z_t2 (i := 220) rfl rfl) (z_t1 (i := 1) rfl rfl) (show _ = some 1 from by decide +kernel) rfl rfl (by omega) (by omega) rfl (fun r_63 h_63 p_63 => ?_)
  obtain ⟨rfl, hCI_63⟩ := p_63
  refine y_cmb [] [z_W (y_c ε) ad h_63] ?_
  refine y_steps hC 2 (σ' := (68, [(3, .int (nI n)), (2, .int v_10), (1, .ref (ad 0)), (0, .ref (y_a ε 42))], [.int (nI 1), .int (nI n), .int (nI (n - 1))], [])) rfl ?_
  refine y_sbt hC (n - 1) rfl (by first | assumption | omega | rfl | trivial) (by first | rfl | omega) ?_
  refine y_steps hC 0 (σ' := (69, [(3, .int (nI n)), (2, .int v_10), (1, .ref (ad 0)), (0, .ref (y_a ε 42))], [.int (nI (n - 1)), .int (nI (n - 1))], [])) rfl ?_
  refine y_icne hC rfl rfl (rfl) ?_
  refine y_steps hC 4 (σ' := (81, [(4, .int (nI 1)), (3, .int (nI n)), (2, .int v_10), (1, .ref (ad 0)), (0, .ref (y_a ε 42))], [.int (nI 12)], [])) rfl ?_
  refine y_newq (n := 12) hC (z_t4 (i := 187) rfl rfl) (by decide) (by omega) (by omega) rfl (fun q81 => ?_)
  refine y_steps hC 2 (σ' := (88, [(5, .ref q81), (4, .int (nI 1)), (3, .int (nI n)), (2, .int v_10), (1, .ref (ad 0)), (0, .ref (y_a ε 42))], [.int (nI 12)], [])) rfl ?_
  refine y_newa (n := 12) (a0 := (12, .inl (fun _ => 0))) hC 0 (atype := .int) (z_t1 (i := 77) rfl rfl) rfl (fun _ => rfl) (by omega) (by decide) (by omega) (by omega) rfl (fun q88 => ?_)
  refine y_steps hC 10 (σ' := (102, [(6, .ref q88), (5, .ref q81), (4, .int (nI 1)), (3, .int (nI n)), (2, .int v_10), (1, .ref (ad 0)), (0, .ref (y_a ε 42))], [.int (nI 7), .int ((v_10 >>> ((nI 3) &&& 31))), .int (nI 3), .int (nI n), .int (nI 1), .ref (y_a ε 42), .ref (ad 0)], [])) rfl ?_
  obtain ⟨w102, hw102, ew102⟩ := y_7_ex (((v_10 >>> ((nI 3) &&& 31))))
  have ey_102 : (((v_10 >>> ((nI 3) &&& 31))) &&& (nI 7)) = nI w102 := ew102
  refine y_one hC (σ' := (103, [(6, .ref q88), (5, .ref q81), (4, .int (nI 1)), (3, .int (nI n)), (2, .int v_10), (1, .ref (ad 0)), (0, .ref (y_a ε 42))], [.int ((((v_10 >>> ((nI 3) &&& 31))) &&& (nI 7))), .int (nI 3), .int (nI n), .int (nI 1), .ref (y_a ε 42), .ref (ad 0)], [])) rfl ?_
  rw [ey_102]
  refine y_steps hC 0 (σ' := (103, [(6, .ref q88), (5, .ref q81), (4, .int (nI 1)), (3, .int (nI n)), (2, .int v_10), (1, .ref (ad 0)), (0, .ref (y_a ε 42))], [.int (nI w102), .int (nI 3), .int (nI n), .int (nI 1), .ref (y_a ε 42), .ref (ad 0)], [])) rfl ?_
  obtain ⟨parts, hparts, eparts⟩ : ∃ c : Nat, (3 ≤ c ∧ c ≤ 10) ∧ ((nI 3) + (nI w102)) = nI c := ⟨3 + w102, by omega, nI_add 3 w102⟩
  have ey_103 : ((nI 3) + (nI w102)) = nI parts := eparts
  refine y_one hC (σ' := (104, [(6, .ref q88), (5, .ref q81), (4, .int (nI 1)), (3, .int (nI n)), (2, .int v_10), (1, .ref (ad 0)), (0, .ref (y_a ε 42))], [.int (((nI 3) + (nI w102))), .int (nI n), .int (nI 1), .ref (y_a ε 42), .ref (ad 0)], [])) rfl ?_
  rw [ey_103]
  refine y_steps hC 2 (σ' := (108, [(6, .ref q88), (5, .ref q81), (4, .int (nI 1)), (3, .int (nI n)), (2, .int v_10), (1, .ref (ad 0)), (0, .ref (y_a ε 42))], [.ref q88, .ref q81, .int (nI parts), .int (nI n), .int (nI 1), .ref (y_a ε 42), .ref (ad 0)], [])) rfl ?_
  refine y_mv [[(q88, .inl (y_c ε 0, 12, .inl ((fun _ => 0))))], [(q81, .inl (y_c ε 3, 12, .inr (.inr (.inr (.inr ((fun _ => none)))))))]] (z_W (y_c ε) ad h_63) [] ?_
  refine y_mv [z_W (y_c ε) ad h_63] ([(q88, .inl (y_c ε 0, 12, .inl ((fun _ => 0))))]) [[(q81, .inl (y_c ε 3, 12, .inr (.inr (.inr (.inr ((fun _ => none)))))))]] ?_
  refine y_mv [[(q88, .inl (y_c ε 0, 12, .inl ((fun _ => 0))))], z_W (y_c ε) ad h_63] ([(q81, .inl (y_c ε 3, 12, .inr (.inr (.inr (.inr ((fun _ => none)))))))]) [] ?_
  refine y_spl [[(q81, .inl (y_c ε 3, 12, .inr (.inr (.inr (.inr ((fun _ => none)))))))], [(q88, .inl (y_c ε 0, 12, .inl ((fun _ => 0))))], z_W (y_c ε) ad h_63] [] ?_
  refine y_callS (pc := 108) (st := []) (y := 146) (idx := 92) (w := y_J [[(q81, .inl (y_c ε 3, 12, .inr (.inr (.inr (.inr ((fun _ => none)))))))], [(q88, .inl (y_c ε 0, 12, .inl ((fun _ => 0))))], z_W (y_c ε) ad h_63]) (wr := y_J []) (av := [.ref (ad 0), .ref (y_a ε 42), .int (nI 1), .int (nI n), .int (nI parts), .ref q81, .ref q88]) hC rfl rfl (z_t4 (i := 163) rfl rfl) (z_t4 (i := 164) rfl rfl) (z_t1 (i := 0) rfl rfl) (c_L_comes (pg := (fun _ => none)) (cg := (fun _ => 0)) (n := n) (parts := parts) (pA := q81) (ct := q88) (ad := ad) (hX := h_63) hCI_63 (by first | assumption | omega | rfl | trivial) (by first | assumption | omega | rfl | trivial) (by first | assumption | omega | rfl | trivial) (by first | assumption | omega | rfl | trivial)) (show _ = some 7 from by decide +kernel) rfl rfl (by omega) (by omega) rfl (fun r_108 w_108 p_108 => ?_)
  obtain ⟨mn_108, cv_108, pv_108, pa_108, pf_108, tq_108, g2_108, c2_108, h2_108, rfl, ew_108, hCI_108, q_108⟩ := p_108
  replace ew_108 := ew_108.symm
  subst ew_108
  refine y_cmb [[(q81, .inl (y_c ε 3, 12, .inr (.inr (.inr (.inr g2_108)))))], [(q88, .inl (y_c ε 0, 12, .inl c2_108))], y_PW ε mn_108 pa_108 pf_108, z_W (y_c ε) ad h2_108] [] ?_
  have hmn := q_108.1
  refine y_steps hC 3 (σ' := (117, [(7, .int (nI mn_108)), (6, .ref q88), (5, .ref q81), (4, .int (nI 1)), (3, .int (nI n)), (2, .int v_10), (1, .ref (ad 0)), (0, .ref (y_a ε 42))], [.int (nI mn_108), .int (nI 1)], [])) rfl ?_
  refine y_if hC (c := nI mn_108 ≤ 0) rfl (fun c_117 => ?_) (fun c_117 => ?_)
  · skip
    rw [z0_le (by omega)] at c_117
    omega
  · skip
    rw [z0_le (by omega)] at c_117
    refine y_steps hC 2 (σ' := (122, [(7, .int (nI mn_108)), (6, .ref q88), (5, .ref q81), (4, .int (nI 1)), (3, .int (nI n)), (2, .int v_10), (1, .ref (ad 0)), (0, .ref (y_a ε 42))], [.int (nI 1), .ref (ad 0), .int (nI 1)], [])) rfl ?_
    obtain ⟨fs_122, hh_122⟩ := y_CI_hd hCI_108
    refine y_spl [[(q81, .inl (y_c ε 3, 12, .inr (.inr (.inr (.inr g2_108)))))], [(q88, .inl (y_c ε 0, 12, .inl c2_108))], y_PW ε mn_108 pa_108 pf_108] [z_W (y_c ε) ad h2_108] ?_
    refine y_cls (d := 5) (y := 85) (idx := 85) (ad := ad) (h := h2_108) (B := y_J [[(q81, .inl (y_c ε 3, 12, .inr (.inr (.inr (.inr g2_108)))))], [(q88, .inl (y_c ε 0, 12, .inl c2_108))], y_PW ε mn_108 pa_108 pf_108]) (av := [.int (nI 1)]) (fs := fs_122) hC rfl (m_told1 hCI_108 ) rfl hh_122 rfl (z_t3 (i := 64) rfl rfl) (z_t3 (i := 65) rfl rfl) (z_t3 (i := 66) rfl rfl) (z_t1 (i := 1) rfl rfl) (show _ = some 1 from by decide +kernel) rfl rfl (by omega) (by omega) rfl (fun r_122 h_122 p_122 => ?_)
    obtain ⟨rfl, hCI_122⟩ := p_122
    refine y_cmb [[(q81, .inl (y_c ε 3, 12, .inr (.inr (.inr (.inr g2_108)))))], [(q88, .inl (y_c ε 0, 12, .inl c2_108))], y_PW ε mn_108 pa_108 pf_108] [z_W (y_c ε) ad h_122] ?_
    refine y_steps hC 1 (σ' := (127, [(7, .int (nI mn_108)), (6, .ref q88), (5, .ref q81), (4, .int (nI 1)), (3, .int (nI n)), (2, .int v_10), (1, .ref (ad 0)), (0, .ref (y_a ε 42))], [.int (nI mn_108), .int (nI mn_108), .int (nI 1)], [])) rfl ?_
    refine y_icne hC rfl rfl (rfl) ?_
    refine y_steps hC 2 (σ' := (135, [(7, .int (nI mn_108)), (6, .ref q88), (5, .ref q81), (4, .int (nI 1)), (3, .int (nI n)), (2, .int v_10), (1, .ref (ad 0)), (0, .ref (y_a ε 42))], [.int (nI 1), .int (nI 1)], [])) rfl ?_
    refine y_and hC (1) rfl (by first | rfl | decide) ?_
    refine y_steps hC 3 (σ' := (145, [(4, .int (nI 1)), (7, .int (nI mn_108)), (6, .ref q88), (5, .ref q81), (3, .int (nI n)), (2, .int v_10), (1, .ref (ad 0)), (0, .ref (y_a ε 42))], [], [])) rfl ?_
    refine y_sub hC [7, 6, 5, 4, 0, 3, 2, 1] rfl ?_
    refine y_wid (6200) (613000) (by omega) (by omega) ?_
    exact k145 ad v_10 n q81 q88 mn_108 parts cv_108 pv_108 pa_108 pf_108 g2_108 c2_108 tq_108 (fun _ => 0) h_122 (by exact hCI_122) (by exact hn) (by omega) (by omega) (by exact q_108)
set_option maxHeartbeats 4000000 in
set_option maxRecDepth 1000000 in
theorem law_p145 {ε : y_Ev} {κ : y_K} (hC : y_ok ε κ zmL_law 14 562 858236 6527540) (k440 : law_440 ε κ) : law_145 ε κ := by
  intro ad q n pA ct mn parts cv pv pa pf g2 c2 tp pp hX hCI hn hp hm hIV
  have hL : y_L ε ≤ 260 := hC.2.2.2.2.2.2.2.1.2.2.2.2.2.2.2.2.1
  have hm10 := hIV.1
  refine y_steps hC 4 (σ' := (151, [(9, .int (nI 0)), (8, .int (nI 0)), (0, .ref (y_a ε 42)), (1, .ref (ad 0)), (2, .int q), (3, .int (nI n)), (4, .int (nI 1)), (5, .ref pA), (6, .ref ct), (7, .int (nI mn))], [], [])) rfl ?_
  have loop_151 : ∀ (z_151 : Nat) (all : Nat) (b : Nat) (h151 : List z_E) (tp1 : Nat → Nat) (wr1 : Nat) (pp1 : Nat → Int32), mn - b < z_151 → ((y_CI n 0 mn 0 ((fun k => k)) cv pv none 0 tp1 wr1 pp1 ((fun _ => 0)) ((fun _ => 0)) h151) ∧ (b ≤ mn ∧ all = z_sum b cv)) → y_G ε κ zmL_law (6200 + 600 * b) (613000 + 61000 * b) ((pA, .inl (y_c ε 3, 12, .inr (.inr (.inr (.inr g2))))) :: ((ct, .inl (y_c ε 0, 12, .inl c2)) :: ((y_PW ε mn pa pf) ++ (z_W (y_c ε) ad h151)))) (151, [(0, .ref (y_a ε 42)), (1, .ref (ad 0)), (2, .int q), (3, .int (nI n)), (4, .int (nI 1)), (5, .ref pA), (6, .ref ct), (7, .int (nI mn)), (8, .int (nI all)), (9, .int (nI b))], [], []) := by
    intro z_151
    induction z_151 with
    | zero => intro all b h151 tp1 wr1 pp1 hm_151 _; exact absurd hm_151 (Nat.not_lt_zero _)
    | succ z_151 ih_151 =>
      intro all b h151 tp1 wr1 pp1 hm_151 hi_151
      obtain ⟨h_cl151, hi_151⟩ := hi_151
      obtain ⟨l1, l2⟩ := hi_151
      refine y_steps hC 2 (σ' := (155, [(0, .ref (y_a ε 42)), (1, .ref (ad 0)), (2, .int q), (3, .int (nI n)), (4, .int (nI 1)), (5, .ref pA), (6, .ref ct), (7, .int (nI mn)), (8, .int (nI all)), (9, .int (nI b))], [.int (nI mn), .int (nI b)], [])) rfl ?_
      refine y_if hC (c := nI mn ≤ nI b) rfl (fun c_155 => ?_) (fun c_155 => ?_)
      · skip
        rw [nI_leI (by omega) (by omega)] at c_155
        refine y_steps hC 0 (σ' := (440, [(0, .ref (y_a ε 42)), (1, .ref (ad 0)), (2, .int q), (3, .int (nI n)), (4, .int (nI 1)), (5, .ref pA), (6, .ref ct), (7, .int (nI mn)), (8, .int (nI all)), (9, .int (nI b))], [], [])) rfl ?_
        refine y_sub hC [0, 1, 2, 3, 4, 5, 6, 7, 8] rfl ?_
        refine y_wid (12200) (1223000) (by omega) (by omega) ?_
        exact k440 ad q n pA ct mn parts cv pv pa pf g2 c2 tp1 pp1 wr1 all h151 (by exact h_cl151) (by exact hn) (by exact hp) (by exact hm) (by exact hIV) (by rw [l2, show b = mn by omega])
      · skip
        rw [nI_leI (by omega) (by omega)] at c_155
        refine y_steps hC 2 (σ' := (162, [(0, .ref (y_a ε 42)), (1, .ref (ad 0)), (2, .int q), (3, .int (nI n)), (4, .int (nI 1)), (5, .ref pA), (6, .ref ct), (7, .int (nI mn)), (8, .int (nI all)), (9, .int (nI b))], [.int (nI b), .ref pA], [])) rfl ?_
        refine y_aal hC 0 rfl rfl (by first | assumption | omega | rfl | trivial) (by omega) (hIV.2.1 b (by omega)) ?_
        refine y_steps hC 1 (σ' := (164, [(0, .ref (y_a ε 42)), (1, .ref (ad 0)), (2, .int q), (3, .int (nI n)), (4, .int (nI 1)), (5, .ref pA), (6, .ref ct), (7, .int (nI mn)), (8, .int (nI all)), (9, .int (nI b))], [.int (nI n), .ref ((pa b))], [])) rfl ?_
        refine y_mv [[(pA, .inl (y_c ε 3, 12, .inr (.inr (.inr (.inr g2)))))], [(ct, .inl (y_c ε 0, 12, .inl c2))]] (y_PW ε mn pa pf) [z_W (y_c ε) ad h151] ?_
        refine y_pm2 (b := y_PW ε mn pa pf) [((pa b), .inl (y_c ε 0, 8, .inl ((pf b))))] (y_PX ε mn pa pf b) [[(pA, .inl (y_c ε 3, 12, .inr (.inr (.inr (.inr g2)))))], [(ct, .inl (y_c ε 0, 12, .inl c2))], z_W (y_c ε) ad h151] (y_PW_at (by omega)) ?_
        refine y_steps hC 0 (σ' := (164, [(0, .ref (y_a ε 42)), (1, .ref (ad 0)), (2, .int q), (3, .int (nI n)), (4, .int (nI 1)), (5, .ref pA), (6, .ref ct), (7, .int (nI mn)), (8, .int (nI all)), (9, .int (nI b))], [.int (nI n), .ref ((pa b))], [])) rfl ?_
        refine y_spl [[((pa b), .inl (y_c ε 0, 8, .inl ((pf b))))]] [y_PX ε mn pa pf b, [(pA, .inl (y_c ε 3, 12, .inr (.inr (.inr (.inr g2)))))], [(ct, .inl (y_c ε 0, 12, .inl c2))], z_W (y_c ε) ad h151] ?_
        refine y_callS (pc := 164) (st := []) (y := 143) (idx := 58) (w := y_J [[((pa b), .inl (y_c ε 0, 8, .inl ((pf b))))]]) (wr := y_J [y_PX ε mn pa pf b, [(pA, .inl (y_c ε 3, 12, .inr (.inr (.inr (.inr g2)))))], [(ct, .inl (y_c ε 0, 12, .inl c2))], z_W (y_c ε) ad h151]) (av := [.ref ((pa b)), .int (nI n)]) hC rfl rfl (z_t3 (i := 186) rfl rfl) (z_t3 (i := 187) rfl rfl) (z_t1 (i := 0) rfl rfl) (c_L_places (rf := (pf b)) (ra := (pa b)) (n := n) (q := (pv b)) (by first | assumption | omega | rfl | trivial) (by exact hIV.2.2.1 b (by omega))) (show _ = some 2 from by decide +kernel) rfl rfl (by omega) (by omega) rfl (fun r_164 w_164 p_164 => ?_)
        obtain ⟨rfl, ew_164⟩ := p_164
        replace ew_164 := ew_164.symm
        subst ew_164
        refine y_cmb [[((pa b), .inl (y_c ε 0, 8, .inl ((pf b))))]] [y_PX ε mn pa pf b, [(pA, .inl (y_c ε 3, 12, .inr (.inr (.inr (.inr g2)))))], [(ct, .inl (y_c ε 0, 12, .inl c2))], z_W (y_c ε) ad h151] ?_
        refine y_steps hC 0 (σ' := (167, [(0, .ref (y_a ε 42)), (1, .ref (ad 0)), (2, .int q), (3, .int (nI n)), (4, .int (nI 1)), (5, .ref pA), (6, .ref ct), (7, .int (nI mn)), (8, .int (nI all)), (9, .int (nI b))], [.int (nI (z_mx n ((pv b)) + 1))], [])) rfl ?_
        refine y_pm3 (b1 := [((pa b), .inl (y_c ε 0, 8, .inl ((pf b))))]) (b2 := y_PX ε mn pa pf b) (y_PW ε mn pa pf) [[(pA, .inl (y_c ε 3, 12, .inr (.inr (.inr (.inr g2)))))], [(ct, .inl (y_c ε 0, 12, .inl c2))], z_W (y_c ε) ad h151] (y_PW_at (by omega)) ?_
        have hmx := y_mx_lt (q := pv b) (n := n) (by omega) (fun c hc => (hIV.2.2.1 b (by omega) c hc).2)
        refine y_steps hC 5 (σ' := (175, [(10, .int (nI (z_mx n ((pv b)) + 1))), (0, .ref (y_a ε 42)), (1, .ref (ad 0)), (2, .int q), (3, .int (nI n)), (4, .int (nI 1)), (5, .ref pA), (6, .ref ct), (7, .int (nI mn)), (8, .int (nI all)), (9, .int (nI b))], [.int (nI 0), .int (nI b), .ref (ad 0), .int (nI 1)], [])) rfl ?_
        obtain ⟨fs_175, hh_175⟩ := y_CI_hd h_cl151
        refine y_spl [y_PW ε mn pa pf, [(pA, .inl (y_c ε 3, 12, .inr (.inr (.inr (.inr g2)))))], [(ct, .inl (y_c ε 0, 12, .inl c2))]] [z_W (y_c ε) ad h151] ?_
        refine y_cls (d := 3) (y := 75) (idx := 96) (ad := ad) (h := h151) (B := y_J [y_PW ε mn pa pf, [(pA, .inl (y_c ε 3, 12, .inr (.inr (.inr (.inr g2)))))], [(ct, .inl (y_c ε 0, 12, .inl c2))]]) (av := [.int (nI b), .int (nI 0)]) (fs := fs_175) hC rfl (m_ballot0 h_cl151 (by omega)) rfl hh_175 rfl (z_t2 (i := 126) rfl rfl) (z_t2 (i := 127) rfl rfl) (z_t2 (i := 128) rfl rfl) (z_t1 (i := 1) rfl rfl) (show _ = some 2 from by decide +kernel) rfl rfl (by omega) (by omega) rfl (fun r_175 h_175 p_175 => ?_)
        obtain ⟨rfl, hCI_175⟩ := p_175
        refine y_cmb [y_PW ε mn pa pf, [(pA, .inl (y_c ε 3, 12, .inr (.inr (.inr (.inr g2)))))], [(ct, .inl (y_c ε 0, 12, .inl c2))]] [z_W (y_c ε) ad h_175] ?_
        refine y_steps hC 2 (σ' := (182, [(10, .int (nI (z_mx n ((pv b)) + 1))), (0, .ref (y_a ε 42)), (1, .ref (ad 0)), (2, .int q), (3, .int (nI n)), (4, .int (nI 1)), (5, .ref pA), (6, .ref ct), (7, .int (nI mn)), (8, .int (nI all)), (9, .int (nI b))], [.int (nI b), .ref ct, .int (nI (cv b)), .int (nI 1)], [])) rfl ?_
        refine y_mv [y_PW ε mn pa pf, [(pA, .inl (y_c ε 3, 12, .inr (.inr (.inr (.inr g2)))))]] ([(ct, .inl (y_c ε 0, 12, .inl c2))]) [z_W (y_c ε) ad h_175] ?_
        refine y_mv [[(ct, .inl (y_c ε 0, 12, .inl c2))], y_PW ε mn pa pf] ([(pA, .inl (y_c ε 3, 12, .inr (.inr (.inr (.inr g2)))))]) [z_W (y_c ε) ad h_175] ?_
        refine y_ial hC 1 rfl rfl (by first | assumption | omega | rfl | trivial) (by omega) ((hIV.2.2.2.2.1 b (by omega)).1) ?_
        refine y_steps hC 0 (σ' := (183, [(10, .int (nI (z_mx n ((pv b)) + 1))), (0, .ref (y_a ε 42)), (1, .ref (ad 0)), (2, .int q), (3, .int (nI n)), (4, .int (nI 1)), (5, .ref pA), (6, .ref ct), (7, .int (nI mn)), (8, .int (nI all)), (9, .int (nI b))], [.int (nI (cv b)), .int (nI (cv b)), .int (nI 1)], [])) rfl ?_
        refine y_icne hC rfl rfl (rfl) ?_
        refine y_steps hC 3 (σ' := (190, [(10, .int (nI (z_mx n ((pv b)) + 1))), (0, .ref (y_a ε 42)), (1, .ref (ad 0)), (2, .int q), (3, .int (nI n)), (4, .int (nI 1)), (5, .ref pA), (6, .ref ct), (7, .int (nI mn)), (8, .int (nI all)), (9, .int (nI b))], [.int (nI 1), .int (nI b), .ref (ad 0), .int (nI 1)], [])) rfl ?_
        obtain ⟨fs_190, hh_190⟩ := y_CI_hd hCI_175
        refine y_spl [[(pA, .inl (y_c ε 3, 12, .inr (.inr (.inr (.inr g2)))))], [(ct, .inl (y_c ε 0, 12, .inl c2))], y_PW ε mn pa pf] [z_W (y_c ε) ad h_175] ?_
        refine y_cls (d := 3) (y := 75) (idx := 96) (ad := ad) (h := h_175) (B := y_J [[(pA, .inl (y_c ε 3, 12, .inr (.inr (.inr (.inr g2)))))], [(ct, .inl (y_c ε 0, 12, .inl c2))], y_PW ε mn pa pf]) (av := [.int (nI b), .int (nI 1)]) (fs := fs_190) hC rfl (m_ballot1 hCI_175 (by omega)) rfl hh_190 rfl (z_t2 (i := 126) rfl rfl) (z_t2 (i := 127) rfl rfl) (z_t2 (i := 128) rfl rfl) (z_t1 (i := 1) rfl rfl) (show _ = some 2 from by decide +kernel) rfl rfl (by omega) (by omega) rfl (fun r_190 h_190 p_190 => ?_)
        obtain ⟨rfl, hCI_190⟩ := p_190
        refine y_cmb [[(pA, .inl (y_c ε 3, 12, .inr (.inr (.inr (.inr g2)))))], [(ct, .inl (y_c ε 0, 12, .inl c2))], y_PW ε mn pa pf] [z_W (y_c ε) ad h_190] ?_
        refine y_steps hC 1 (σ' := (195, [(10, .int (nI (z_mx n ((pv b)) + 1))), (0, .ref (y_a ε 42)), (1, .ref (ad 0)), (2, .int q), (3, .int (nI n)), (4, .int (nI 1)), (5, .ref pA), (6, .ref ct), (7, .int (nI mn)), (8, .int (nI all)), (9, .int (nI b))], [.int (nI (z_mx n ((pv b)) + 1)), .int (nI (z_mx n (pv b) + 1)), .int (nI 1)], [])) rfl ?_
        refine y_icne hC rfl rfl (rfl) ?_
        refine y_steps hC 4 (σ' := (204, [(10, .int (nI (z_mx n ((pv b)) + 1))), (0, .ref (y_a ε 42)), (1, .ref (ad 0)), (2, .int q), (3, .int (nI n)), (4, .int (nI 1)), (5, .ref pA), (6, .ref ct), (7, .int (nI mn)), (8, .int (nI all)), (9, .int (nI b))], [.int (nI n), .int (nI 10), .int (nI b), .ref (ad 0), .int (nI 1)], [])) rfl ?_
        refine y_add hC (10 + n) rfl (by first | rfl | omega) ?_
        refine y_steps hC 0 (σ' := (205, [(10, .int (nI (z_mx n ((pv b)) + 1))), (0, .ref (y_a ε 42)), (1, .ref (ad 0)), (2, .int q), (3, .int (nI n)), (4, .int (nI 1)), (5, .ref pA), (6, .ref ct), (7, .int (nI mn)), (8, .int (nI all)), (9, .int (nI b))], [.int (nI (10 + n)), .int (nI b), .ref (ad 0), .int (nI 1)], [])) rfl ?_
        obtain ⟨fs_205, hh_205⟩ := y_CI_hd hCI_190
        refine y_spl [[(pA, .inl (y_c ε 3, 12, .inr (.inr (.inr (.inr g2)))))], [(ct, .inl (y_c ε 0, 12, .inl c2))], y_PW ε mn pa pf] [z_W (y_c ε) ad h_190] ?_
        refine y_cls (d := 3) (y := 75) (idx := 96) (ad := ad) (h := h_190) (B := y_J [[(pA, .inl (y_c ε 3, 12, .inr (.inr (.inr (.inr g2)))))], [(ct, .inl (y_c ε 0, 12, .inl c2))], y_PW ε mn pa pf]) (av := [.int (nI b), .int (nI (10 + n))]) (fs := fs_205) hC rfl (m_ballotN hCI_190 (by omega) (by omega) (by omega)) rfl hh_205 rfl (z_t2 (i := 126) rfl rfl) (z_t2 (i := 127) rfl rfl) (z_t2 (i := 128) rfl rfl) (z_t1 (i := 1) rfl rfl) (show _ = some 2 from by decide +kernel) rfl rfl (by omega) (by omega) rfl (fun r_205 h_205 p_205 => ?_)
        obtain ⟨rfl, hCI_205⟩ := p_205
        refine y_cmb [[(pA, .inl (y_c ε 3, 12, .inr (.inr (.inr (.inr g2)))))], [(ct, .inl (y_c ε 0, 12, .inl c2))], y_PW ε mn pa pf] [z_W (y_c ε) ad h_205] ?_
        refine y_steps hC 4 (σ' := (217, [(10, .int (nI (z_mx n ((pv b)) + 1))), (0, .ref (y_a ε 42)), (1, .ref (ad 0)), (2, .int q), (3, .int (nI n)), (4, .int (nI 1)), (5, .ref pA), (6, .ref ct), (7, .int (nI mn)), (8, .int (nI all)), (9, .int (nI b))], [.int (nI 1), .int (nI 1)], [])) rfl ?_
        refine y_and hC (1) rfl (by first | rfl | decide) ?_
        refine y_steps hC 3 (σ' := (223, [(11, .int (nI 0)), (4, .int (nI 1)), (10, .int (nI (z_mx n ((pv b)) + 1))), (0, .ref (y_a ε 42)), (1, .ref (ad 0)), (2, .int q), (3, .int (nI n)), (5, .ref pA), (6, .ref ct), (7, .int (nI mn)), (8, .int (nI all)), (9, .int (nI b))], [], [])) rfl ?_
        have loop_223 : ∀ (z_223 : Nat) (c : Nat) (h223 : List z_E), n - c < z_223 → ((y_CI n 0 mn 0 ((fun k => k)) cv pv none 0 tp1 wr1 pp1 ((fun _ => 0)) ((fun _ => 0)) h223) ∧ (c ≤ n)) → y_G ε κ zmL_law (6200 + 600 * b) (613000 + 61000 * b) ((pA, .inl (y_c ε 3, 12, .inr (.inr (.inr (.inr g2))))) :: ((ct, .inl (y_c ε 0, 12, .inl c2)) :: ((y_PW ε mn pa pf) ++ (z_W (y_c ε) ad h223)))) (223, [(0, .ref (y_a ε 42)), (1, .ref (ad 0)), (2, .int q), (3, .int (nI n)), (4, .int (nI 1)), (5, .ref pA), (6, .ref ct), (7, .int (nI mn)), (8, .int (nI all)), (9, .int (nI b)), (10, .int (nI (z_mx n ((pv b)) + 1))), (11, .int (nI c))], [], []) := by
          intro z_223
          induction z_223 with
          | zero => intro c h223 hm_223 _; exact absurd hm_223 (Nat.not_lt_zero _)
          | succ z_223 ih_223 =>
            intro c h223 hm_223 hi_223
            obtain ⟨h_cl223, hi_223⟩ := hi_223
            have r1 := hi_223
            refine y_steps hC 2 (σ' := (226, [(0, .ref (y_a ε 42)), (1, .ref (ad 0)), (2, .int q), (3, .int (nI n)), (4, .int (nI 1)), (5, .ref pA), (6, .ref ct), (7, .int (nI mn)), (8, .int (nI all)), (9, .int (nI b)), (10, .int (nI (z_mx n ((pv b)) + 1))), (11, .int (nI c))], [.int (nI n), .int (nI c)], [])) rfl ?_
            refine y_if hC (c := nI n ≤ nI c) rfl (fun c_226 => ?_) (fun c_226 => ?_)
            · skip
              rw [nI_leI (by omega) (by omega)] at c_226
              refine y_steps hC 2 (σ' := (271, [(0, .ref (y_a ε 42)), (1, .ref (ad 0)), (2, .int q), (3, .int (nI n)), (4, .int (nI 1)), (5, .ref pA), (6, .ref ct), (7, .int (nI mn)), (8, .int (nI all)), (9, .int (nI b)), (10, .int (nI (z_mx n ((pv b)) + 1))), (11, .int (nI c))], [.int (nI b), .ref pA], [])) rfl ?_
              refine y_aal hC 0 rfl rfl (by first | assumption | omega | rfl | trivial) (by omega) (hIV.2.1 b (by omega)) ?_
              refine y_steps hC 3 (σ' := (276, [(0, .ref (y_a ε 42)), (1, .ref (ad 0)), (2, .int q), (3, .int (nI n)), (4, .int (nI 1)), (5, .ref pA), (6, .ref ct), (7, .int (nI mn)), (8, .int (nI all)), (9, .int (nI b)), (10, .int (nI (z_mx n ((pv b)) + 1))), (11, .int (nI c))], [.int (nI 1), .int (nI (z_mx n ((pv b)) + 1)), .int (nI n), .ref ((pa b))], [])) rfl ?_
              refine y_if hC (c := nI (z_mx n ((pv b)) + 1) ≤ nI 1) rfl (fun c_276 => ?_) (fun c_276 => ?_)
              · skip
                rw [nI_leI (by omega) (by omega)] at c_276
                refine y_steps hC 1 (σ' := (287, [(0, .ref (y_a ε 42)), (1, .ref (ad 0)), (2, .int q), (3, .int (nI n)), (4, .int (nI 1)), (5, .ref pA), (6, .ref ct), (7, .int (nI mn)), (8, .int (nI all)), (9, .int (nI b)), (10, .int (nI (z_mx n ((pv b)) + 1))), (11, .int (nI c))], [.int (nI 1), .int (nI n), .ref ((pa b))], [])) rfl ?_
                refine y_mv [[(pA, .inl (y_c ε 3, 12, .inr (.inr (.inr (.inr g2)))))], [(ct, .inl (y_c ε 0, 12, .inl c2))]] (y_PW ε mn pa pf) [z_W (y_c ε) ad h223] ?_
                refine y_pm2 (b := y_PW ε mn pa pf) [((pa b), .inl (y_c ε 0, 8, .inl ((pf b))))] (y_PX ε mn pa pf b) [[(pA, .inl (y_c ε 3, 12, .inr (.inr (.inr (.inr g2)))))], [(ct, .inl (y_c ε 0, 12, .inl c2))], z_W (y_c ε) ad h223] (y_PW_at (by omega)) ?_
                refine y_steps hC 0 (σ' := (287, [(0, .ref (y_a ε 42)), (1, .ref (ad 0)), (2, .int q), (3, .int (nI n)), (4, .int (nI 1)), (5, .ref pA), (6, .ref ct), (7, .int (nI mn)), (8, .int (nI all)), (9, .int (nI b)), (10, .int (nI (z_mx n ((pv b)) + 1))), (11, .int (nI c))], [.int (nI 1), .int (nI n), .ref ((pa b))], [])) rfl ?_
                refine y_spl [[((pa b), .inl (y_c ε 0, 8, .inl ((pf b))))]] [y_PX ε mn pa pf b, [(pA, .inl (y_c ε 3, 12, .inr (.inr (.inr (.inr g2)))))], [(ct, .inl (y_c ε 0, 12, .inl c2))], z_W (y_c ε) ad h223] ?_
                refine y_callS (pc := 287) (st := []) (y := 144) (idx := 61) (w := y_J [[((pa b), .inl (y_c ε 0, 8, .inl ((pf b))))]]) (wr := y_J [y_PX ε mn pa pf b, [(pA, .inl (y_c ε 3, 12, .inr (.inr (.inr (.inr g2)))))], [(ct, .inl (y_c ε 0, 12, .inl c2))], z_W (y_c ε) ad h223]) (av := [.ref ((pa b)), .int (nI n), .int (nI 1)]) hC rfl rfl (z_t3 (i := 189) rfl rfl) (z_t3 (i := 190) rfl rfl) (z_t1 (i := 0) rfl rfl) (c_L_told (rf := (pf b)) (ra := (pa b)) (n := n) (m := 1) (q := (pv b)) (by first | assumption | omega | rfl | trivial) (by first | assumption | omega | rfl | trivial) (by exact hIV.2.2.1 b (by omega)) (by exact hIV.2.2.2.1 b (by omega)) (by first | assumption | omega | rfl | trivial) (by first | assumption | omega | rfl | trivial)) (show _ = some 3 from by decide +kernel) rfl rfl (by omega) (by omega) rfl (fun r_287 w_287 p_287 => ?_)
                obtain ⟨t_287_a, t_287_v, t_287_f, t_287_L, t_287_B, rfl, ew_287, h_t_287, q_287⟩ := p_287
                replace ew_287 := ew_287.symm
                subst ew_287
                refine y_cmb [[((pa b), .inl (y_c ε 0, 8, .inl ((pf b))))], t_287_B] [y_PX ε mn pa pf b, [(pA, .inl (y_c ε 3, 12, .inr (.inr (.inr (.inr g2)))))], [(ct, .inl (y_c ε 0, 12, .inl c2))], z_W (y_c ε) ad h223] ?_
                refine y_steps hC 0 (σ' := (290, [(0, .ref (y_a ε 42)), (1, .ref (ad 0)), (2, .int q), (3, .int (nI n)), (4, .int (nI 1)), (5, .ref pA), (6, .ref ct), (7, .int (nI mn)), (8, .int (nI all)), (9, .int (nI b)), (10, .int (nI (z_mx n ((pv b)) + 1))), (11, .int (nI c))], [.ref t_287_a], [])) rfl ?_
                refine y_mv [[((pa b), .inl (y_c ε 0, 8, .inl ((pf b))))], t_287_B] (y_PX ε mn pa pf b) [[(pA, .inl (y_c ε 3, 12, .inr (.inr (.inr (.inr g2)))))], [(ct, .inl (y_c ε 0, 12, .inl c2))], z_W (y_c ε) ad h223] ?_
                refine y_mv [y_PX ε mn pa pf b] ([((pa b), .inl (y_c ε 0, 8, .inl ((pf b))))]) [t_287_B, [(pA, .inl (y_c ε 3, 12, .inr (.inr (.inr (.inr g2)))))], [(ct, .inl (y_c ε 0, 12, .inl c2))], z_W (y_c ε) ad h223] ?_
                refine y_pm3 (b1 := [((pa b), .inl (y_c ε 0, 8, .inl ((pf b))))]) (b2 := y_PX ε mn pa pf b) (y_PW ε mn pa pf) [t_287_B, [(pA, .inl (y_c ε 3, 12, .inr (.inr (.inr (.inr g2)))))], [(ct, .inl (y_c ε 0, 12, .inl c2))], z_W (y_c ε) ad h223] (y_PW_at (by omega)) ?_
                have ht_287 : t_287_L = (z_sp n (pv b) (max 1 (z_mx n (pv b)))) := q_287.trans (congrArg (z_sp n (pv b)) (by omega)); have hs_287 : t_287_L.length ≤ 16 := (by rw [q_287]; exact y_sp_16 (by omega) (by omega) (hIV.2.2.2.1 b (by omega)) (by omega)); have hc_287 : ∀ c ∈ t_287_L, 1 ≤ c := (by rw [q_287]; exact y_sp_c _)
                refine y_steps hC 4 (σ' := (297, [(11, .ref t_287_a), (0, .ref (y_a ε 42)), (1, .ref (ad 0)), (2, .int q), (3, .int (nI n)), (4, .int (nI 1)), (5, .ref pA), (6, .ref ct), (7, .int (nI mn)), (8, .int (nI all)), (9, .int (nI b)), (10, .int (nI (z_mx n ((pv b)) + 1)))], [.int (nI b), .ref (ad 0), .int (nI 1)], [])) rfl ?_
                obtain ⟨fs_297, hh_297⟩ := y_CI_hd h_cl223
                refine y_spl [y_PW ε mn pa pf, t_287_B, [(pA, .inl (y_c ε 3, 12, .inr (.inr (.inr (.inr g2)))))], [(ct, .inl (y_c ε 0, 12, .inl c2))]] [z_W (y_c ε) ad h223] ?_
                refine y_cls (d := 4) (y := 77) (idx := 100) (ad := ad) (h := h223) (B := y_J [y_PW ε mn pa pf, t_287_B, [(pA, .inl (y_c ε 3, 12, .inr (.inr (.inr (.inr g2)))))], [(ct, .inl (y_c ε 0, 12, .inl c2))]]) (av := [.int (nI b)]) (fs := fs_297) hC rfl (m_spell h_cl223 (by omega)) rfl hh_297 rfl (z_t2 (i := 147) rfl rfl) (z_t2 (i := 148) rfl rfl) (z_t2 (i := 149) rfl rfl) (z_t1 (i := 1) rfl rfl) (show _ = some 1 from by decide +kernel) rfl rfl (by omega) (by omega) rfl (fun r_297 h_297 p_297 => ?_)
                obtain ⟨rfl, hCI_297⟩ := p_297
                refine y_cmb [y_PW ε mn pa pf, t_287_B, [(pA, .inl (y_c ε 3, 12, .inr (.inr (.inr (.inr g2)))))], [(ct, .inl (y_c ε 0, 12, .inl c2))]] [z_W (y_c ε) ad h_297] ?_
                refine y_steps hC 1 (σ' := (302, [(11, .ref t_287_a), (0, .ref (y_a ε 42)), (1, .ref (ad 0)), (2, .int q), (3, .int (nI n)), (4, .int (nI 1)), (5, .ref pA), (6, .ref ct), (7, .int (nI mn)), (8, .int (nI all)), (9, .int (nI b)), (10, .int (nI (z_mx n ((pv b)) + 1)))], [.ref t_287_a, .int (nI ((z_sp n (pv b) (max 1 (z_mx n (pv b)))).length)), .int (nI 1)], [])) rfl ?_
                refine y_mv [y_PW ε mn pa pf] (t_287_B) [[(pA, .inl (y_c ε 3, 12, .inr (.inr (.inr (.inr g2)))))], [(ct, .inl (y_c ε 0, 12, .inl c2))], z_W (y_c ε) ad h_297] ?_
                refine y_spl [t_287_B] [y_PW ε mn pa pf, [(pA, .inl (y_c ε 3, 12, .inr (.inr (.inr (.inr g2)))))], [(ct, .inl (y_c ε 0, 12, .inl c2))], z_W (y_c ε) ad h_297] ?_
                refine y_callV (b := t_287_a) (pc := 302) (st := [.int (nI ((z_sp n (pv b) (max 1 (z_mx n (pv b)))).length)), .int (nI 1)]) (y := 118) (idx := 9) (w := y_J [t_287_B]) (wr := y_J [y_PW ε mn pa pf, [(pA, .inl (y_c ε 3, 12, .inr (.inr (.inr (.inr g2)))))], [(ct, .inl (y_c ε 0, 12, .inl c2))], z_W (y_c ε) ad h_297]) (av := []) hC rfl rfl rfl (z_t3 (i := 135) rfl rfl) (z_t3 (i := 136) rfl rfl) (z_t3 (i := 137) rfl rfl) (z_t1 (i := 14) rfl rfl) (fun H locs hP hS => y_trec hC h_t_287 (X := y_J [y_PW ε mn pa pf, [(pA, .inl (y_c ε 3, 12, .inr (.inr (.inr (.inr g2)))))], [(ct, .inl (y_c ε 0, 12, .inl c2))], z_W (y_c ε) ad h_297]) (hP) hS) (c_J0_length_8abf5 (t_a := t_287_a) (t_v := t_287_v) (t_f := t_287_f) (t_L := t_287_L) (t_B := t_287_B) h_t_287) (show _ = some 0 from by decide +kernel) rfl rfl (by omega) (by omega) rfl (fun r_302 w_302 p_302 => ?_)
                obtain ⟨rfl, ew_302⟩ := p_302
                replace ew_302 := ew_302.symm
                subst ew_302
                refine y_cmb [t_287_B] [y_PW ε mn pa pf, [(pA, .inl (y_c ε 3, 12, .inr (.inr (.inr (.inr g2)))))], [(ct, .inl (y_c ε 0, 12, .inl c2))], z_W (y_c ε) ad h_297] ?_
                refine y_steps hC 0 (σ' := (305, [(11, .ref t_287_a), (0, .ref (y_a ε 42)), (1, .ref (ad 0)), (2, .int q), (3, .int (nI n)), (4, .int (nI 1)), (5, .ref pA), (6, .ref ct), (7, .int (nI mn)), (8, .int (nI all)), (9, .int (nI b)), (10, .int (nI (z_mx n ((pv b)) + 1)))], [.int (nI t_287_L.length), .int (nI ((z_sp n (pv b) (max 1 (z_mx n (pv b)))).length)), .int (nI 1)], [])) rfl ?_
                refine y_icne hC rfl rfl (by rw [ht_287]) ?_
                refine y_steps hC 2 (σ' := (311, [(11, .ref t_287_a), (0, .ref (y_a ε 42)), (1, .ref (ad 0)), (2, .int q), (3, .int (nI n)), (4, .int (nI 1)), (5, .ref pA), (6, .ref ct), (7, .int (nI mn)), (8, .int (nI all)), (9, .int (nI b)), (10, .int (nI (z_mx n ((pv b)) + 1)))], [.int (nI 6), .ref (ad 0), .int (nI 1)], [])) rfl ?_
                obtain ⟨fs_311, hh_311⟩ := y_CI_hd hCI_297
                refine y_spl [t_287_B, y_PW ε mn pa pf, [(pA, .inl (y_c ε 3, 12, .inr (.inr (.inr (.inr g2)))))], [(ct, .inl (y_c ε 0, 12, .inl c2))]] [z_W (y_c ε) ad h_297] ?_
                refine y_cls (d := 5) (y := 85) (idx := 85) (ad := ad) (h := h_297) (B := y_J [t_287_B, y_PW ε mn pa pf, [(pA, .inl (y_c ε 3, 12, .inr (.inr (.inr (.inr g2)))))], [(ct, .inl (y_c ε 0, 12, .inl c2))]]) (av := [.int (nI 6)]) (fs := fs_311) hC rfl (m_told6 hCI_297 ) rfl hh_311 rfl (z_t3 (i := 64) rfl rfl) (z_t3 (i := 65) rfl rfl) (z_t3 (i := 66) rfl rfl) (z_t1 (i := 1) rfl rfl) (show _ = some 1 from by decide +kernel) rfl rfl (by omega) (by omega) rfl (fun r_311 h_311 p_311 => ?_)
                obtain ⟨rfl, hCI_311⟩ := p_311
                refine y_cmb [t_287_B, y_PW ε mn pa pf, [(pA, .inl (y_c ε 3, 12, .inr (.inr (.inr (.inr g2)))))], [(ct, .inl (y_c ε 0, 12, .inl c2))]] [z_W (y_c ε) ad h_311] ?_
                refine y_steps hC 1 (σ' := (316, [(11, .ref t_287_a), (0, .ref (y_a ε 42)), (1, .ref (ad 0)), (2, .int q), (3, .int (nI n)), (4, .int (nI 1)), (5, .ref pA), (6, .ref ct), (7, .int (nI mn)), (8, .int (nI all)), (9, .int (nI b)), (10, .int (nI (z_mx n ((pv b)) + 1)))], [.ref t_287_a, .int (nI ((z_sp n (pv b) (max 1 (z_mx n (pv b)))).length)), .int (nI 1)], [])) rfl ?_
                refine y_spl [t_287_B] [y_PW ε mn pa pf, [(pA, .inl (y_c ε 3, 12, .inr (.inr (.inr (.inr g2)))))], [(ct, .inl (y_c ε 0, 12, .inl c2))], z_W (y_c ε) ad h_311] ?_
                refine y_callV (b := t_287_a) (pc := 316) (st := [.int (nI ((z_sp n (pv b) (max 1 (z_mx n (pv b)))).length)), .int (nI 1)]) (y := 118) (idx := 9) (w := y_J [t_287_B]) (wr := y_J [y_PW ε mn pa pf, [(pA, .inl (y_c ε 3, 12, .inr (.inr (.inr (.inr g2)))))], [(ct, .inl (y_c ε 0, 12, .inl c2))], z_W (y_c ε) ad h_311]) (av := []) hC rfl rfl rfl (z_t3 (i := 135) rfl rfl) (z_t3 (i := 136) rfl rfl) (z_t3 (i := 137) rfl rfl) (z_t1 (i := 14) rfl rfl) (fun H locs hP hS => y_trec hC h_t_287 (X := y_J [y_PW ε mn pa pf, [(pA, .inl (y_c ε 3, 12, .inr (.inr (.inr (.inr g2)))))], [(ct, .inl (y_c ε 0, 12, .inl c2))], z_W (y_c ε) ad h_311]) (hP) hS) (c_J0_length_8abf5 (t_a := t_287_a) (t_v := t_287_v) (t_f := t_287_f) (t_L := t_287_L) (t_B := t_287_B) h_t_287) (show _ = some 0 from by decide +kernel) rfl rfl (by omega) (by omega) rfl (fun r_316 w_316 p_316 => ?_)
                obtain ⟨rfl, ew_316⟩ := p_316
                replace ew_316 := ew_316.symm
                subst ew_316
                refine y_cmb [t_287_B] [y_PW ε mn pa pf, [(pA, .inl (y_c ε 3, 12, .inr (.inr (.inr (.inr g2)))))], [(ct, .inl (y_c ε 0, 12, .inl c2))], z_W (y_c ε) ad h_311] ?_
                refine y_steps hC 0 (σ' := (319, [(11, .ref t_287_a), (0, .ref (y_a ε 42)), (1, .ref (ad 0)), (2, .int q), (3, .int (nI n)), (4, .int (nI 1)), (5, .ref pA), (6, .ref ct), (7, .int (nI mn)), (8, .int (nI all)), (9, .int (nI b)), (10, .int (nI (z_mx n ((pv b)) + 1)))], [.int (nI t_287_L.length), .int (nI ((z_sp n (pv b) (max 1 (z_mx n (pv b)))).length)), .int (nI 1)], [])) rfl ?_
                refine y_icne hC rfl rfl (by rw [ht_287]) ?_
                refine y_steps hC 2 (σ' := (327, [(11, .ref t_287_a), (0, .ref (y_a ε 42)), (1, .ref (ad 0)), (2, .int q), (3, .int (nI n)), (4, .int (nI 1)), (5, .ref pA), (6, .ref ct), (7, .int (nI mn)), (8, .int (nI all)), (9, .int (nI b)), (10, .int (nI (z_mx n ((pv b)) + 1)))], [.int (nI 1), .int (nI 1)], [])) rfl ?_
                refine y_and hC (1) rfl (by first | rfl | decide) ?_
                refine y_steps hC 3 (σ' := (333, [(12, .int (nI 0)), (4, .int (nI 1)), (11, .ref t_287_a), (0, .ref (y_a ε 42)), (1, .ref (ad 0)), (2, .int q), (3, .int (nI n)), (5, .ref pA), (6, .ref ct), (7, .int (nI mn)), (8, .int (nI all)), (9, .int (nI b)), (10, .int (nI (z_mx n ((pv b)) + 1)))], [], [])) rfl ?_
                have loop_333 : ∀ (z_333 : Nat) (k : Nat) (h333 : List z_E), t_287_L.length - k < z_333 → ((y_CI n 0 mn 0 ((fun k => k)) cv pv none 0 tp1 ((z_sp n (pv b) (max 1 (z_mx n (pv b)))).length) ((fun k => nI ((z_sp n (pv b) (max 1 (z_mx n (pv b)))).getD k 0))) ((fun _ => 0)) ((fun _ => 0)) h333) ∧ (k ≤ t_287_L.length)) → y_G ε κ zmL_law (6200 + 600 * b + 512) (613000 + 61000 * b + 60000) ((t_287_B) ++ ((y_PW ε mn pa pf) ++ ((pA, .inl (y_c ε 3, 12, .inr (.inr (.inr (.inr g2))))) :: ((ct, .inl (y_c ε 0, 12, .inl c2)) :: (z_W (y_c ε) ad h333))))) (333, [(0, .ref (y_a ε 42)), (1, .ref (ad 0)), (2, .int q), (3, .int (nI n)), (4, .int (nI 1)), (5, .ref pA), (6, .ref ct), (7, .int (nI mn)), (8, .int (nI all)), (9, .int (nI b)), (10, .int (nI (z_mx n ((pv b)) + 1))), (11, .ref t_287_a), (12, .int (nI k))], [], []) := by
                  intro z_333
                  induction z_333 with
                  | zero => intro k h333 hm_333 _; exact absurd hm_333 (Nat.not_lt_zero _)
                  | succ z_333 ih_333 =>
                    intro k h333 hm_333 hi_333
                    obtain ⟨h_cl333, hi_333⟩ := hi_333
                    have r1 := hi_333
                    refine y_steps hC 2 (σ' := (337, [(0, .ref (y_a ε 42)), (1, .ref (ad 0)), (2, .int q), (3, .int (nI n)), (4, .int (nI 1)), (5, .ref pA), (6, .ref ct), (7, .int (nI mn)), (8, .int (nI all)), (9, .int (nI b)), (10, .int (nI (z_mx n ((pv b)) + 1))), (11, .ref t_287_a), (12, .int (nI k))], [.ref t_287_a, .int (nI k)], [])) rfl ?_
                    refine y_spl [t_287_B] [y_PW ε mn pa pf, [(pA, .inl (y_c ε 3, 12, .inr (.inr (.inr (.inr g2)))))], [(ct, .inl (y_c ε 0, 12, .inl c2))], z_W (y_c ε) ad h333] ?_
                    refine y_callV (b := t_287_a) (pc := 337) (st := [.int (nI k)]) (y := 118) (idx := 9) (w := y_J [t_287_B]) (wr := y_J [y_PW ε mn pa pf, [(pA, .inl (y_c ε 3, 12, .inr (.inr (.inr (.inr g2)))))], [(ct, .inl (y_c ε 0, 12, .inl c2))], z_W (y_c ε) ad h333]) (av := []) hC rfl rfl rfl (z_t3 (i := 135) rfl rfl) (z_t3 (i := 136) rfl rfl) (z_t3 (i := 137) rfl rfl) (z_t1 (i := 14) rfl rfl) (fun H locs hP hS => y_trec hC h_t_287 (X := y_J [y_PW ε mn pa pf, [(pA, .inl (y_c ε 3, 12, .inr (.inr (.inr (.inr g2)))))], [(ct, .inl (y_c ε 0, 12, .inl c2))], z_W (y_c ε) ad h333]) (hP) hS) (c_J0_length_8abf5 (t_a := t_287_a) (t_v := t_287_v) (t_f := t_287_f) (t_L := t_287_L) (t_B := t_287_B) h_t_287) (show _ = some 0 from by decide +kernel) rfl rfl (by omega) (by omega) rfl (fun r_337 w_337 p_337 => ?_)
                    obtain ⟨rfl, ew_337⟩ := p_337
                    replace ew_337 := ew_337.symm
                    subst ew_337
                    refine y_cmb [t_287_B] [y_PW ε mn pa pf, [(pA, .inl (y_c ε 3, 12, .inr (.inr (.inr (.inr g2)))))], [(ct, .inl (y_c ε 0, 12, .inl c2))], z_W (y_c ε) ad h333] ?_
                    refine y_steps hC 0 (σ' := (340, [(0, .ref (y_a ε 42)), (1, .ref (ad 0)), (2, .int q), (3, .int (nI n)), (4, .int (nI 1)), (5, .ref pA), (6, .ref ct), (7, .int (nI mn)), (8, .int (nI all)), (9, .int (nI b)), (10, .int (nI (z_mx n ((pv b)) + 1))), (11, .ref t_287_a), (12, .int (nI k))], [.int (nI t_287_L.length), .int (nI k)], [])) rfl ?_
                    refine y_if hC (c := nI t_287_L.length ≤ nI k) rfl (fun c_340 => ?_) (fun c_340 => ?_)
                    · skip
                      rw [nI_leI (by omega) (by omega)] at c_340
                      refine y_steps hC 3 (σ' := (380, [(0, .ref (y_a ε 42)), (1, .ref (ad 0)), (2, .int q), (3, .int (nI n)), (4, .int (nI 1)), (5, .ref pA), (6, .ref ct), (7, .int (nI mn)), (8, .int (nI all)), (9, .int (nI b)), (10, .int (nI (z_mx n ((pv b)) + 1))), (11, .ref t_287_a), (12, .int (nI k))], [.ref t_287_a, .ref (ad 0), .int (nI 1)], [])) rfl ?_
                      refine y_spl [t_287_B] [y_PW ε mn pa pf, [(pA, .inl (y_c ε 3, 12, .inr (.inr (.inr (.inr g2)))))], [(ct, .inl (y_c ε 0, 12, .inl c2))], z_W (y_c ε) ad h333] ?_
                      refine y_callV (b := t_287_a) (pc := 380) (st := [.ref (ad 0), .int (nI 1)]) (y := 118) (idx := 9) (w := y_J [t_287_B]) (wr := y_J [y_PW ε mn pa pf, [(pA, .inl (y_c ε 3, 12, .inr (.inr (.inr (.inr g2)))))], [(ct, .inl (y_c ε 0, 12, .inl c2))], z_W (y_c ε) ad h333]) (av := []) hC rfl rfl rfl (z_t3 (i := 135) rfl rfl) (z_t3 (i := 136) rfl rfl) (z_t3 (i := 137) rfl rfl) (z_t1 (i := 14) rfl rfl) (fun H locs hP hS => y_trec hC h_t_287 (X := y_J [y_PW ε mn pa pf, [(pA, .inl (y_c ε 3, 12, .inr (.inr (.inr (.inr g2)))))], [(ct, .inl (y_c ε 0, 12, .inl c2))], z_W (y_c ε) ad h333]) (hP) hS) (c_J0_length_8abf5 (t_a := t_287_a) (t_v := t_287_v) (t_f := t_287_f) (t_L := t_287_L) (t_B := t_287_B) h_t_287) (show _ = some 0 from by decide +kernel) rfl rfl (by omega) (by omega) rfl (fun r_380 w_380 p_380 => ?_)
                      obtain ⟨rfl, ew_380⟩ := p_380
                      replace ew_380 := ew_380.symm
                      subst ew_380
                      refine y_cmb [t_287_B] [y_PW ε mn pa pf, [(pA, .inl (y_c ε 3, 12, .inr (.inr (.inr (.inr g2)))))], [(ct, .inl (y_c ε 0, 12, .inl c2))], z_W (y_c ε) ad h333] ?_
                      refine y_steps hC 0 (σ' := (383, [(0, .ref (y_a ε 42)), (1, .ref (ad 0)), (2, .int q), (3, .int (nI n)), (4, .int (nI 1)), (5, .ref pA), (6, .ref ct), (7, .int (nI mn)), (8, .int (nI all)), (9, .int (nI b)), (10, .int (nI (z_mx n ((pv b)) + 1))), (11, .ref t_287_a), (12, .int (nI k))], [.int (nI t_287_L.length), .ref (ad 0), .int (nI 1)], [])) rfl ?_
                      obtain ⟨fs_383, hh_383⟩ := y_CI_hd h_cl333
                      refine y_spl [t_287_B, y_PW ε mn pa pf, [(pA, .inl (y_c ε 3, 12, .inr (.inr (.inr (.inr g2)))))], [(ct, .inl (y_c ε 0, 12, .inl c2))]] [z_W (y_c ε) ad h333] ?_
                      refine y_cls (d := 2) (y := 78) (idx := 103) (ad := ad) (h := h333) (B := y_J [t_287_B, y_PW ε mn pa pf, [(pA, .inl (y_c ε 3, 12, .inr (.inr (.inr (.inr g2)))))], [(ct, .inl (y_c ε 0, 12, .inl c2))]]) (av := [.int (nI t_287_L.length)]) (fs := fs_383) hC rfl (m_paperN h_cl333 (Nat.le_of_eq (by rw [ht_287])) (by omega)) rfl hh_383 rfl (z_t2 (i := 165) rfl rfl) (z_t2 (i := 166) rfl rfl) (z_t2 (i := 167) rfl rfl) (z_t1 (i := 1) rfl rfl) (show _ = some 1 from by decide +kernel) rfl rfl (by omega) (by omega) rfl (fun r_383 h_383 p_383 => ?_)
                      obtain ⟨rfl, hCI_383⟩ := p_383
                      refine y_cmb [t_287_B, y_PW ε mn pa pf, [(pA, .inl (y_c ε 3, 12, .inr (.inr (.inr (.inr g2)))))], [(ct, .inl (y_c ε 0, 12, .inl c2))]] [z_W (y_c ε) ad h_383] ?_
                      refine y_steps hC 4 (σ' := (393, [(0, .ref (y_a ε 42)), (1, .ref (ad 0)), (2, .int q), (3, .int (nI n)), (4, .int (nI 1)), (5, .ref pA), (6, .ref ct), (7, .int (nI mn)), (8, .int (nI all)), (9, .int (nI b)), (10, .int (nI (z_mx n ((pv b)) + 1))), (11, .ref t_287_a), (12, .int (nI k))], [.ref t_287_a, .ref (ad 0), .int (nI 1)], [])) rfl ?_
                      refine y_mv [t_287_B, y_PW ε mn pa pf, [(pA, .inl (y_c ε 3, 12, .inr (.inr (.inr (.inr g2)))))], [(ct, .inl (y_c ε 0, 12, .inl c2))]] (z_W (y_c ε) ad h_383) [] ?_
                      refine y_mv [z_W (y_c ε) ad h_383] (t_287_B) [y_PW ε mn pa pf, [(pA, .inl (y_c ε 3, 12, .inr (.inr (.inr (.inr g2)))))], [(ct, .inl (y_c ε 0, 12, .inl c2))]] ?_
                      refine y_spl [t_287_B, z_W (y_c ε) ad h_383] [y_PW ε mn pa pf, [(pA, .inl (y_c ε 3, 12, .inr (.inr (.inr (.inr g2)))))], [(ct, .inl (y_c ε 0, 12, .inl c2))]] ?_
                      refine y_callS (pc := 393) (st := [.int (nI 1)]) (y := 141) (idx := 65) (w := y_J [t_287_B, z_W (y_c ε) ad h_383]) (wr := y_J [y_PW ε mn pa pf, [(pA, .inl (y_c ε 3, 12, .inr (.inr (.inr (.inr g2)))))], [(ct, .inl (y_c ε 0, 12, .inl c2))]]) (av := [.ref (ad 0), .ref t_287_a]) hC rfl rfl (z_t3 (i := 132) rfl rfl) (z_t3 (i := 133) rfl rfl) (z_t1 (i := 0) rfl rfl) (c_L_feeds (t_a := t_287_a) (t_v := t_287_v) (t_f := t_287_f) (t_L := t_287_L) (t_B := t_287_B) (ad := ad) (hX := h_383) h_t_287 hCI_383 (by exact hc_287) (by omega)) (show _ = some 2 from by decide +kernel) rfl rfl (by omega) (by omega) rfl (fun r_393 w_393 p_393 => ?_)
                      obtain ⟨h2_393, tp2_393, rfl, ew_393, hCI_393, q_393⟩ := p_393
                      replace ew_393 := ew_393.symm
                      subst ew_393
                      refine y_cmb [t_287_B, z_W (y_c ε) ad h2_393] [y_PW ε mn pa pf, [(pA, .inl (y_c ε 3, 12, .inr (.inr (.inr (.inr g2)))))], [(ct, .inl (y_c ε 0, 12, .inl c2))]] ?_
                      obtain ⟨q0, e0a, e1⟩ := p_readE (n := n) (r := pv b) (m := max 1 (z_mx n (pv b))) (tp := tp2_393) (fd := t_287_L.length) (p := 0) (by omega) (by omega) (hIV.2.2.2.1 b (by omega)) (by omega) (by omega) (by omega) (by rw [← ht_287]; exact y_at_0 q_393) (by rw [ht_287]; omega) (by rw [ht_287]; omega); have e0 : z_rp n tp2_393 t_287_L.length 8 0 0 (fun _ => 0) 0 = (true, t_287_L.length, q0) := e0a.trans (by rw [ht_287, Nat.zero_add])
                      refine y_steps hC 2 (σ' := (400, [(0, .ref (y_a ε 42)), (1, .ref (ad 0)), (2, .int q), (3, .int (nI n)), (4, .int (nI 1)), (5, .ref pA), (6, .ref ct), (7, .int (nI mn)), (8, .int (nI all)), (9, .int (nI b)), (10, .int (nI (z_mx n ((pv b)) + 1))), (11, .ref t_287_a), (12, .int (nI k))], [.ref (ad 0), .int (nI 1)], [])) rfl ?_
                      refine y_mv [t_287_B, z_W (y_c ε) ad h2_393, y_PW ε mn pa pf, [(pA, .inl (y_c ε 3, 12, .inr (.inr (.inr (.inr g2)))))]] ([(ct, .inl (y_c ε 0, 12, .inl c2))]) [] ?_
                      refine y_mv [[(ct, .inl (y_c ε 0, 12, .inl c2))], t_287_B, z_W (y_c ε) ad h2_393, y_PW ε mn pa pf] ([(pA, .inl (y_c ε 3, 12, .inr (.inr (.inr (.inr g2)))))]) [] ?_
                      refine y_mv [[(pA, .inl (y_c ε 3, 12, .inr (.inr (.inr (.inr g2)))))], [(ct, .inl (y_c ε 0, 12, .inl c2))], t_287_B, z_W (y_c ε) ad h2_393] (y_PW ε mn pa pf) [] ?_
                      refine y_mv [y_PW ε mn pa pf, [(pA, .inl (y_c ε 3, 12, .inr (.inr (.inr (.inr g2)))))], [(ct, .inl (y_c ε 0, 12, .inl c2))]] (t_287_B) [z_W (y_c ε) ad h2_393] ?_
                      obtain ⟨fs_400, hh_400⟩ := y_CI_hd hCI_393
                      refine y_spl [t_287_B, y_PW ε mn pa pf, [(pA, .inl (y_c ε 3, 12, .inr (.inr (.inr (.inr g2)))))], [(ct, .inl (y_c ε 0, 12, .inl c2))]] [z_W (y_c ε) ad h2_393] ?_
                      refine y_cls (d := 5) (y := 76) (idx := 106) (ad := ad) (h := h2_393) (B := y_J [t_287_B, y_PW ε mn pa pf, [(pA, .inl (y_c ε 3, 12, .inr (.inr (.inr (.inr g2)))))], [(ct, .inl (y_c ε 0, 12, .inl c2))]]) (av := []) (fs := fs_400) hC rfl (m_findT hCI_393 e0 (by omega) (fun c hc => (e1 c hc).symm) (fun x hx hs => hIV.2.2.2.2.2 b (by omega) x hx (fun c hc => (hs c hc).trans (e1 c hc)))) rfl hh_400 rfl (z_t2 (i := 138) rfl rfl) (z_t2 (i := 139) rfl rfl) (z_t2 (i := 140) rfl rfl) (z_t1 (i := 1) rfl rfl) (show _ = some 0 from by decide +kernel) rfl rfl (by omega) (by omega) rfl (fun r_400 h_400 p_400 => ?_)
                      obtain ⟨rfl, hCI_400⟩ := p_400
                      refine y_cmb [t_287_B, y_PW ε mn pa pf, [(pA, .inl (y_c ε 3, 12, .inr (.inr (.inr (.inr g2)))))], [(ct, .inl (y_c ε 0, 12, .inl c2))]] [z_W (y_c ε) ad h_400] ?_
                      refine y_steps hC 1 (σ' := (405, [(0, .ref (y_a ε 42)), (1, .ref (ad 0)), (2, .int q), (3, .int (nI n)), (4, .int (nI 1)), (5, .ref pA), (6, .ref ct), (7, .int (nI mn)), (8, .int (nI all)), (9, .int (nI b)), (10, .int (nI (z_mx n ((pv b)) + 1))), (11, .ref t_287_a), (12, .int (nI k))], [.int (nI b), .int (nI b), .int (nI 1)], [])) rfl ?_
                      refine y_icne hC rfl rfl (rfl) ?_
                      refine y_steps hC 2 (σ' := (410, [(0, .ref (y_a ε 42)), (1, .ref (ad 0)), (2, .int q), (3, .int (nI n)), (4, .int (nI 1)), (5, .ref pA), (6, .ref ct), (7, .int (nI mn)), (8, .int (nI all)), (9, .int (nI b)), (10, .int (nI (z_mx n ((pv b)) + 1))), (11, .ref t_287_a), (12, .int (nI k))], [.int (nI 5), .ref (ad 0), .int (nI 1)], [])) rfl ?_
                      obtain ⟨fs_410, hh_410⟩ := y_CI_hd hCI_400
                      refine y_spl [t_287_B, y_PW ε mn pa pf, [(pA, .inl (y_c ε 3, 12, .inr (.inr (.inr (.inr g2)))))], [(ct, .inl (y_c ε 0, 12, .inl c2))]] [z_W (y_c ε) ad h_400] ?_
                      refine y_cls (d := 5) (y := 85) (idx := 85) (ad := ad) (h := h_400) (B := y_J [t_287_B, y_PW ε mn pa pf, [(pA, .inl (y_c ε 3, 12, .inr (.inr (.inr (.inr g2)))))], [(ct, .inl (y_c ε 0, 12, .inl c2))]]) (av := [.int (nI 5)]) (fs := fs_410) hC rfl (m_told5 hCI_400 ) rfl hh_410 rfl (z_t3 (i := 64) rfl rfl) (z_t3 (i := 65) rfl rfl) (z_t3 (i := 66) rfl rfl) (z_t1 (i := 1) rfl rfl) (show _ = some 1 from by decide +kernel) rfl rfl (by omega) (by omega) rfl (fun r_410 h_410 p_410 => ?_)
                      obtain ⟨rfl, hCI_410⟩ := p_410
                      refine y_cmb [t_287_B, y_PW ε mn pa pf, [(pA, .inl (y_c ε 3, 12, .inr (.inr (.inr (.inr g2)))))], [(ct, .inl (y_c ε 0, 12, .inl c2))]] [z_W (y_c ε) ad h_410] ?_
                      refine y_steps hC 3 (σ' := (421, [(0, .ref (y_a ε 42)), (1, .ref (ad 0)), (2, .int q), (3, .int (nI n)), (4, .int (nI 1)), (5, .ref pA), (6, .ref ct), (7, .int (nI mn)), (8, .int (nI all)), (9, .int (nI b)), (10, .int (nI (z_mx n ((pv b)) + 1))), (11, .ref t_287_a), (12, .int (nI k))], [.int (nI 1), .int (nI 1)], [])) rfl ?_
                      refine y_and hC (1) rfl (by first | rfl | decide) ?_
                      refine y_steps hC 4 (σ' := (430, [(4, .int (nI 1)), (0, .ref (y_a ε 42)), (1, .ref (ad 0)), (2, .int q), (3, .int (nI n)), (5, .ref pA), (6, .ref ct), (7, .int (nI mn)), (8, .int (nI all)), (9, .int (nI b)), (10, .int (nI (z_mx n ((pv b)) + 1))), (11, .ref t_287_a), (12, .int (nI k))], [.int (nI b), .ref ct, .int (nI all)], [])) rfl ?_
                      refine y_mv [t_287_B, y_PW ε mn pa pf, [(pA, .inl (y_c ε 3, 12, .inr (.inr (.inr (.inr g2)))))]] ([(ct, .inl (y_c ε 0, 12, .inl c2))]) [z_W (y_c ε) ad h_410] ?_
                      refine y_mv [[(ct, .inl (y_c ε 0, 12, .inl c2))], t_287_B, y_PW ε mn pa pf] ([(pA, .inl (y_c ε 3, 12, .inr (.inr (.inr (.inr g2)))))]) [z_W (y_c ε) ad h_410] ?_
                      refine y_ial hC 1 rfl rfl (by first | assumption | omega | rfl | trivial) (by omega) ((hIV.2.2.2.2.1 b (by omega)).1) ?_
                      refine y_steps hC 0 (σ' := (431, [(4, .int (nI 1)), (0, .ref (y_a ε 42)), (1, .ref (ad 0)), (2, .int q), (3, .int (nI n)), (5, .ref pA), (6, .ref ct), (7, .int (nI mn)), (8, .int (nI all)), (9, .int (nI b)), (10, .int (nI (z_mx n ((pv b)) + 1))), (11, .ref t_287_a), (12, .int (nI k))], [.int (nI (cv b)), .int (nI all)], [])) rfl ?_
                      refine y_add hC (all + cv b) rfl (by first | rfl | omega) ?_
                      refine y_steps hC 1 (σ' := (434, [(8, .int (nI (all + cv b))), (4, .int (nI 1)), (0, .ref (y_a ε 42)), (1, .ref (ad 0)), (2, .int q), (3, .int (nI n)), (5, .ref pA), (6, .ref ct), (7, .int (nI mn)), (9, .int (nI b)), (10, .int (nI (z_mx n ((pv b)) + 1))), (11, .ref t_287_a), (12, .int (nI k))], [], [])) rfl ?_
                      refine y_inc hC (n := 1) rfl rfl rfl (b + 1) (by rfl) [(9, .int (nI (b + 1))), (8, .int (nI (all + cv b))), (4, .int (nI 1)), (0, .ref (y_a ε 42)), (1, .ref (ad 0)), (2, .int q), (3, .int (nI n)), (5, .ref pA), (6, .ref ct), (7, .int (nI mn)), (10, .int (nI (z_mx n ((pv b)) + 1))), (11, .ref t_287_a), (12, .int (nI k))] rfl ?_
                      refine y_steps hC 1 (σ' := (151, [(9, .int (nI (b + 1))), (8, .int (nI (all + cv b))), (4, .int (nI 1)), (0, .ref (y_a ε 42)), (1, .ref (ad 0)), (2, .int q), (3, .int (nI n)), (5, .ref pA), (6, .ref ct), (7, .int (nI mn)), (10, .int (nI (z_mx n ((pv b)) + 1))), (11, .ref t_287_a), (12, .int (nI k))], [], [])) rfl ?_
                      refine y_mv [[(pA, .inl (y_c ε 3, 12, .inr (.inr (.inr (.inr g2)))))], [(ct, .inl (y_c ε 0, 12, .inl c2))], t_287_B, y_PW ε mn pa pf] (z_W (y_c ε) ad h_410) [] ?_
                      refine y_mv [z_W (y_c ε) ad h_410, [(pA, .inl (y_c ε 3, 12, .inr (.inr (.inr (.inr g2)))))], [(ct, .inl (y_c ε 0, 12, .inl c2))], t_287_B] (y_PW ε mn pa pf) [] ?_
                      refine y_mv [y_PW ε mn pa pf, z_W (y_c ε) ad h_410, [(pA, .inl (y_c ε 3, 12, .inr (.inr (.inr (.inr g2)))))]] ([(ct, .inl (y_c ε 0, 12, .inl c2))]) [t_287_B] ?_
                      refine y_mv [[(ct, .inl (y_c ε 0, 12, .inl c2))], y_PW ε mn pa pf, z_W (y_c ε) ad h_410] ([(pA, .inl (y_c ε 3, 12, .inr (.inr (.inr (.inr g2)))))]) [t_287_B] ?_
                      refine y_mv [[(pA, .inl (y_c ε 3, 12, .inr (.inr (.inr (.inr g2)))))], [(ct, .inl (y_c ε 0, 12, .inl c2))], y_PW ε mn pa pf, z_W (y_c ε) ad h_410] (t_287_B) [] ?_
                      refine y_drp (t_287_B) [[(pA, .inl (y_c ε 3, 12, .inr (.inr (.inr (.inr g2)))))], [(ct, .inl (y_c ε 0, 12, .inl c2))], y_PW ε mn pa pf, z_W (y_c ε) ad h_410] ?_
                      refine y_sub hC [3, 4, 5, 6, 2, 7, 8, 9, 1, 0] rfl ?_
                      refine y_wid (6200 + 600 * (b + 1)) (613000 + 61000 * (b + 1)) (by omega) (by omega) ?_
                      exact ih_151 (all + cv b) (b + 1) h_410 tp2_393 ((z_sp n (pv b) (max 1 (z_mx n (pv b)))).length) (fun k => nI ((z_sp n (pv b) (max 1 (z_mx n (pv b)))).getD k 0)) (by omega) ⟨(by exact hCI_410), (by exact ⟨by omega, by rw [l2]; rfl⟩)⟩
                    · skip
                      rw [nI_leI (by omega) (by omega)] at c_340
                      refine y_steps hC 3 (σ' := (348, [(0, .ref (y_a ε 42)), (1, .ref (ad 0)), (2, .int q), (3, .int (nI n)), (4, .int (nI 1)), (5, .ref pA), (6, .ref ct), (7, .int (nI mn)), (8, .int (nI all)), (9, .int (nI b)), (10, .int (nI (z_mx n ((pv b)) + 1))), (11, .ref t_287_a), (12, .int (nI k))], [.int (nI k), .ref (ad 0), .int (nI 1)], [])) rfl ?_
                      obtain ⟨fs_348, hh_348⟩ := y_CI_hd h_cl333
                      refine y_spl [t_287_B, y_PW ε mn pa pf, [(pA, .inl (y_c ε 3, 12, .inr (.inr (.inr (.inr g2)))))], [(ct, .inl (y_c ε 0, 12, .inl c2))]] [z_W (y_c ε) ad h333] ?_
                      refine y_cls (d := 2) (y := 78) (idx := 103) (ad := ad) (h := h333) (B := y_J [t_287_B, y_PW ε mn pa pf, [(pA, .inl (y_c ε 3, 12, .inr (.inr (.inr (.inr g2)))))], [(ct, .inl (y_c ε 0, 12, .inl c2))]]) (av := [.int (nI k)]) (fs := fs_348) hC rfl (m_paper h_cl333 (by rw [← ht_287]; omega)) rfl hh_348 rfl (z_t2 (i := 165) rfl rfl) (z_t2 (i := 166) rfl rfl) (z_t2 (i := 167) rfl rfl) (z_t1 (i := 1) rfl rfl) (show _ = some 1 from by decide +kernel) rfl rfl (by omega) (by omega) rfl (fun r_348 h_348 p_348 => ?_)
                      obtain ⟨rfl, hCI_348⟩ := p_348
                      refine y_cmb [t_287_B, y_PW ε mn pa pf, [(pA, .inl (y_c ε 3, 12, .inr (.inr (.inr (.inr g2)))))], [(ct, .inl (y_c ε 0, 12, .inl c2))]] [z_W (y_c ε) ad h_348] ?_
                      refine y_steps hC 2 (σ' := (355, [(0, .ref (y_a ε 42)), (1, .ref (ad 0)), (2, .int q), (3, .int (nI n)), (4, .int (nI 1)), (5, .ref pA), (6, .ref ct), (7, .int (nI mn)), (8, .int (nI all)), (9, .int (nI b)), (10, .int (nI (z_mx n ((pv b)) + 1))), (11, .ref t_287_a), (12, .int (nI k))], [.int (nI k), .ref t_287_a, .int (nI ((z_sp n (pv b) (max 1 (z_mx n (pv b)))).getD k 0)), .int (nI 1)], [])) rfl ?_
                      refine y_spl [t_287_B] [y_PW ε mn pa pf, [(pA, .inl (y_c ε 3, 12, .inr (.inr (.inr (.inr g2)))))], [(ct, .inl (y_c ε 0, 12, .inl c2))], z_W (y_c ε) ad h_348] ?_
                      refine y_callV (b := t_287_a) (pc := 355) (st := [.int (nI ((z_sp n (pv b) (max 1 (z_mx n (pv b)))).getD k 0)), .int (nI 1)]) (y := 119) (idx := 15) (w := y_J [t_287_B]) (wr := y_J [y_PW ε mn pa pf, [(pA, .inl (y_c ε 3, 12, .inr (.inr (.inr (.inr g2)))))], [(ct, .inl (y_c ε 0, 12, .inl c2))], z_W (y_c ε) ad h_348]) (av := [.int (nI k)]) hC rfl rfl rfl (z_t3 (i := 145) rfl rfl) (z_t3 (i := 146) rfl rfl) (z_t3 (i := 147) rfl rfl) (z_t1 (i := 14) rfl rfl) (fun H locs hP hS => y_trec hC h_t_287 (X := y_J [y_PW ε mn pa pf, [(pA, .inl (y_c ε 3, 12, .inr (.inr (.inr (.inr g2)))))], [(ct, .inl (y_c ε 0, 12, .inl c2))], z_W (y_c ε) ad h_348]) (hP) hS) (c_J0_charAt_5068e (t_a := t_287_a) (t_v := t_287_v) (t_f := t_287_f) (t_L := t_287_L) (t_B := t_287_B) (i := k) h_t_287 (by first | assumption | omega | rfl | trivial)) (show _ = some 1 from by decide +kernel) rfl rfl (by omega) (by omega) rfl (fun r_355 w_355 p_355 => ?_)
                      obtain ⟨rfl, ew_355⟩ := p_355
                      replace ew_355 := ew_355.symm
                      subst ew_355
                      refine y_cmb [t_287_B] [y_PW ε mn pa pf, [(pA, .inl (y_c ε 3, 12, .inr (.inr (.inr (.inr g2)))))], [(ct, .inl (y_c ε 0, 12, .inl c2))], z_W (y_c ε) ad h_348] ?_
                      refine y_steps hC 0 (σ' := (358, [(0, .ref (y_a ε 42)), (1, .ref (ad 0)), (2, .int q), (3, .int (nI n)), (4, .int (nI 1)), (5, .ref pA), (6, .ref ct), (7, .int (nI mn)), (8, .int (nI all)), (9, .int (nI b)), (10, .int (nI (z_mx n ((pv b)) + 1))), (11, .ref t_287_a), (12, .int (nI k))], [.int (nI (t_287_L.getD k 0)), .int (nI ((z_sp n (pv b) (max 1 (z_mx n (pv b)))).getD k 0)), .int (nI 1)], [])) rfl ?_
                      refine y_icne hC rfl rfl (by rw [ht_287]) ?_
                      refine y_steps hC 2 (σ' := (366, [(0, .ref (y_a ε 42)), (1, .ref (ad 0)), (2, .int q), (3, .int (nI n)), (4, .int (nI 1)), (5, .ref pA), (6, .ref ct), (7, .int (nI mn)), (8, .int (nI all)), (9, .int (nI b)), (10, .int (nI (z_mx n ((pv b)) + 1))), (11, .ref t_287_a), (12, .int (nI k))], [.int (nI 1), .int (nI 1)], [])) rfl ?_
                      refine y_and hC (1) rfl (by first | rfl | decide) ?_
                      refine y_steps hC 1 (σ' := (369, [(4, .int (nI 1)), (0, .ref (y_a ε 42)), (1, .ref (ad 0)), (2, .int q), (3, .int (nI n)), (5, .ref pA), (6, .ref ct), (7, .int (nI mn)), (8, .int (nI all)), (9, .int (nI b)), (10, .int (nI (z_mx n ((pv b)) + 1))), (11, .ref t_287_a), (12, .int (nI k))], [], [])) rfl ?_
                      refine y_inc hC (n := 1) rfl rfl rfl (k + 1) (by rfl) [(12, .int (nI (k + 1))), (4, .int (nI 1)), (0, .ref (y_a ε 42)), (1, .ref (ad 0)), (2, .int q), (3, .int (nI n)), (5, .ref pA), (6, .ref ct), (7, .int (nI mn)), (8, .int (nI all)), (9, .int (nI b)), (10, .int (nI (z_mx n ((pv b)) + 1))), (11, .ref t_287_a)] rfl ?_
                      refine y_steps hC 1 (σ' := (333, [(12, .int (nI (k + 1))), (4, .int (nI 1)), (0, .ref (y_a ε 42)), (1, .ref (ad 0)), (2, .int q), (3, .int (nI n)), (5, .ref pA), (6, .ref ct), (7, .int (nI mn)), (8, .int (nI all)), (9, .int (nI b)), (10, .int (nI (z_mx n ((pv b)) + 1))), (11, .ref t_287_a)], [], [])) rfl ?_
                      refine y_sub hC [2, 3, 4, 5, 1, 6, 7, 8, 9, 10, 11, 12, 0] rfl ?_
                      exact ih_333 (k + 1) h_348 (by omega) ⟨(by exact hCI_348), (by first | assumption | omega | rfl | trivial)⟩
                refine y_sub hC [3, 4, 5, 6, 1, 7, 8, 9, 10, 11, 12, 2, 0] rfl ?_
                exact loop_333 _ 0 h_311 (Nat.lt_succ_self _) ⟨(by exact hCI_311), (by first | assumption | omega | rfl | trivial)⟩
              · skip
                rw [nI_leI (by omega) (by omega)] at c_276
                refine y_steps hC 2 (σ' := (282, [(0, .ref (y_a ε 42)), (1, .ref (ad 0)), (2, .int q), (3, .int (nI n)), (4, .int (nI 1)), (5, .ref pA), (6, .ref ct), (7, .int (nI mn)), (8, .int (nI all)), (9, .int (nI b)), (10, .int (nI (z_mx n ((pv b)) + 1))), (11, .int (nI c))], [.int (nI 1), .int (nI (z_mx n ((pv b)) + 1)), .int (nI n), .ref ((pa b))], [])) rfl ?_
                refine y_sbt hC (z_mx n ((pv b))) rfl (by first | assumption | omega | rfl | trivial) (by first | rfl | omega) ?_
                refine y_steps hC 1 (σ' := (287, [(0, .ref (y_a ε 42)), (1, .ref (ad 0)), (2, .int q), (3, .int (nI n)), (4, .int (nI 1)), (5, .ref pA), (6, .ref ct), (7, .int (nI mn)), (8, .int (nI all)), (9, .int (nI b)), (10, .int (nI (z_mx n ((pv b)) + 1))), (11, .int (nI c))], [.int (nI (z_mx n ((pv b)))), .int (nI n), .ref ((pa b))], [])) rfl ?_
                refine y_mv [[(pA, .inl (y_c ε 3, 12, .inr (.inr (.inr (.inr g2)))))], [(ct, .inl (y_c ε 0, 12, .inl c2))]] (y_PW ε mn pa pf) [z_W (y_c ε) ad h223] ?_
                refine y_pm2 (b := y_PW ε mn pa pf) [((pa b), .inl (y_c ε 0, 8, .inl ((pf b))))] (y_PX ε mn pa pf b) [[(pA, .inl (y_c ε 3, 12, .inr (.inr (.inr (.inr g2)))))], [(ct, .inl (y_c ε 0, 12, .inl c2))], z_W (y_c ε) ad h223] (y_PW_at (by omega)) ?_
                refine y_steps hC 0 (σ' := (287, [(0, .ref (y_a ε 42)), (1, .ref (ad 0)), (2, .int q), (3, .int (nI n)), (4, .int (nI 1)), (5, .ref pA), (6, .ref ct), (7, .int (nI mn)), (8, .int (nI all)), (9, .int (nI b)), (10, .int (nI (z_mx n ((pv b)) + 1))), (11, .int (nI c))], [.int (nI (z_mx n ((pv b)))), .int (nI n), .ref ((pa b))], [])) rfl ?_
                refine y_spl [[((pa b), .inl (y_c ε 0, 8, .inl ((pf b))))]] [y_PX ε mn pa pf b, [(pA, .inl (y_c ε 3, 12, .inr (.inr (.inr (.inr g2)))))], [(ct, .inl (y_c ε 0, 12, .inl c2))], z_W (y_c ε) ad h223] ?_
                refine y_callS (pc := 287) (st := []) (y := 144) (idx := 61) (w := y_J [[((pa b), .inl (y_c ε 0, 8, .inl ((pf b))))]]) (wr := y_J [y_PX ε mn pa pf b, [(pA, .inl (y_c ε 3, 12, .inr (.inr (.inr (.inr g2)))))], [(ct, .inl (y_c ε 0, 12, .inl c2))], z_W (y_c ε) ad h223]) (av := [.ref ((pa b)), .int (nI n), .int (nI (z_mx n ((pv b))))]) hC rfl rfl (z_t3 (i := 189) rfl rfl) (z_t3 (i := 190) rfl rfl) (z_t1 (i := 0) rfl rfl) (c_L_told (rf := (pf b)) (ra := (pa b)) (n := n) (m := z_mx n ((pv b))) (q := (pv b)) (by first | assumption | omega | rfl | trivial) (by first | assumption | omega | rfl | trivial) (by exact hIV.2.2.1 b (by omega)) (by exact hIV.2.2.2.1 b (by omega)) (by first | assumption | omega | rfl | trivial) (by first | assumption | omega | rfl | trivial)) (show _ = some 3 from by decide +kernel) rfl rfl (by omega) (by omega) rfl (fun r_287 w_287 p_287 => ?_)
                obtain ⟨t_287_a, t_287_v, t_287_f, t_287_L, t_287_B, rfl, ew_287, h_t_287, q_287⟩ := p_287
                replace ew_287 := ew_287.symm
                subst ew_287
                refine y_cmb [[((pa b), .inl (y_c ε 0, 8, .inl ((pf b))))], t_287_B] [y_PX ε mn pa pf b, [(pA, .inl (y_c ε 3, 12, .inr (.inr (.inr (.inr g2)))))], [(ct, .inl (y_c ε 0, 12, .inl c2))], z_W (y_c ε) ad h223] ?_
                refine y_steps hC 0 (σ' := (290, [(0, .ref (y_a ε 42)), (1, .ref (ad 0)), (2, .int q), (3, .int (nI n)), (4, .int (nI 1)), (5, .ref pA), (6, .ref ct), (7, .int (nI mn)), (8, .int (nI all)), (9, .int (nI b)), (10, .int (nI (z_mx n ((pv b)) + 1))), (11, .int (nI c))], [.ref t_287_a], [])) rfl ?_
                refine y_mv [[((pa b), .inl (y_c ε 0, 8, .inl ((pf b))))], t_287_B] (y_PX ε mn pa pf b) [[(pA, .inl (y_c ε 3, 12, .inr (.inr (.inr (.inr g2)))))], [(ct, .inl (y_c ε 0, 12, .inl c2))], z_W (y_c ε) ad h223] ?_
                refine y_mv [y_PX ε mn pa pf b] ([((pa b), .inl (y_c ε 0, 8, .inl ((pf b))))]) [t_287_B, [(pA, .inl (y_c ε 3, 12, .inr (.inr (.inr (.inr g2)))))], [(ct, .inl (y_c ε 0, 12, .inl c2))], z_W (y_c ε) ad h223] ?_
                refine y_pm3 (b1 := [((pa b), .inl (y_c ε 0, 8, .inl ((pf b))))]) (b2 := y_PX ε mn pa pf b) (y_PW ε mn pa pf) [t_287_B, [(pA, .inl (y_c ε 3, 12, .inr (.inr (.inr (.inr g2)))))], [(ct, .inl (y_c ε 0, 12, .inl c2))], z_W (y_c ε) ad h223] (y_PW_at (by omega)) ?_
                have ht_287 : t_287_L = (z_sp n (pv b) (max 1 (z_mx n (pv b)))) := q_287.trans (congrArg (z_sp n (pv b)) (by omega)); have hs_287 : t_287_L.length ≤ 16 := (by rw [q_287]; exact y_sp_16 (by omega) (by omega) (hIV.2.2.2.1 b (by omega)) (by omega)); have hc_287 : ∀ c ∈ t_287_L, 1 ≤ c := (by rw [q_287]; exact y_sp_c _)
                refine y_steps hC 4 (σ' := (297, [(11, .ref t_287_a), (0, .ref (y_a ε 42)), (1, .ref (ad 0)), (2, .int q), (3, .int (nI n)), (4, .int (nI 1)), (5, .ref pA), (6, .ref ct), (7, .int (nI mn)), (8, .int (nI all)), (9, .int (nI b)), (10, .int (nI (z_mx n ((pv b)) + 1)))], [.int (nI b), .ref (ad 0), .int (nI 1)], [])) rfl ?_
                obtain ⟨fs_297, hh_297⟩ := y_CI_hd h_cl223
                refine y_spl [y_PW ε mn pa pf, t_287_B, [(pA, .inl (y_c ε 3, 12, .inr (.inr (.inr (.inr g2)))))], [(ct, .inl (y_c ε 0, 12, .inl c2))]] [z_W (y_c ε) ad h223] ?_
                refine y_cls (d := 4) (y := 77) (idx := 100) (ad := ad) (h := h223) (B := y_J [y_PW ε mn pa pf, t_287_B, [(pA, .inl (y_c ε 3, 12, .inr (.inr (.inr (.inr g2)))))], [(ct, .inl (y_c ε 0, 12, .inl c2))]]) (av := [.int (nI b)]) (fs := fs_297) hC rfl (m_spell h_cl223 (by omega)) rfl hh_297 rfl (z_t2 (i := 147) rfl rfl) (z_t2 (i := 148) rfl rfl) (z_t2 (i := 149) rfl rfl) (z_t1 (i := 1) rfl rfl) (show _ = some 1 from by decide +kernel) rfl rfl (by omega) (by omega) rfl (fun r_297 h_297 p_297 => ?_)
                obtain ⟨rfl, hCI_297⟩ := p_297
                refine y_cmb [y_PW ε mn pa pf, t_287_B, [(pA, .inl (y_c ε 3, 12, .inr (.inr (.inr (.inr g2)))))], [(ct, .inl (y_c ε 0, 12, .inl c2))]] [z_W (y_c ε) ad h_297] ?_
                refine y_steps hC 1 (σ' := (302, [(11, .ref t_287_a), (0, .ref (y_a ε 42)), (1, .ref (ad 0)), (2, .int q), (3, .int (nI n)), (4, .int (nI 1)), (5, .ref pA), (6, .ref ct), (7, .int (nI mn)), (8, .int (nI all)), (9, .int (nI b)), (10, .int (nI (z_mx n ((pv b)) + 1)))], [.ref t_287_a, .int (nI ((z_sp n (pv b) (max 1 (z_mx n (pv b)))).length)), .int (nI 1)], [])) rfl ?_
                refine y_mv [y_PW ε mn pa pf] (t_287_B) [[(pA, .inl (y_c ε 3, 12, .inr (.inr (.inr (.inr g2)))))], [(ct, .inl (y_c ε 0, 12, .inl c2))], z_W (y_c ε) ad h_297] ?_
                refine y_spl [t_287_B] [y_PW ε mn pa pf, [(pA, .inl (y_c ε 3, 12, .inr (.inr (.inr (.inr g2)))))], [(ct, .inl (y_c ε 0, 12, .inl c2))], z_W (y_c ε) ad h_297] ?_
                refine y_callV (b := t_287_a) (pc := 302) (st := [.int (nI ((z_sp n (pv b) (max 1 (z_mx n (pv b)))).length)), .int (nI 1)]) (y := 118) (idx := 9) (w := y_J [t_287_B]) (wr := y_J [y_PW ε mn pa pf, [(pA, .inl (y_c ε 3, 12, .inr (.inr (.inr (.inr g2)))))], [(ct, .inl (y_c ε 0, 12, .inl c2))], z_W (y_c ε) ad h_297]) (av := []) hC rfl rfl rfl (z_t3 (i := 135) rfl rfl) (z_t3 (i := 136) rfl rfl) (z_t3 (i := 137) rfl rfl) (z_t1 (i := 14) rfl rfl) (fun H locs hP hS => y_trec hC h_t_287 (X := y_J [y_PW ε mn pa pf, [(pA, .inl (y_c ε 3, 12, .inr (.inr (.inr (.inr g2)))))], [(ct, .inl (y_c ε 0, 12, .inl c2))], z_W (y_c ε) ad h_297]) (hP) hS) (c_J0_length_8abf5 (t_a := t_287_a) (t_v := t_287_v) (t_f := t_287_f) (t_L := t_287_L) (t_B := t_287_B) h_t_287) (show _ = some 0 from by decide +kernel) rfl rfl (by omega) (by omega) rfl (fun r_302 w_302 p_302 => ?_)
                obtain ⟨rfl, ew_302⟩ := p_302
                replace ew_302 := ew_302.symm
                subst ew_302
                refine y_cmb [t_287_B] [y_PW ε mn pa pf, [(pA, .inl (y_c ε 3, 12, .inr (.inr (.inr (.inr g2)))))], [(ct, .inl (y_c ε 0, 12, .inl c2))], z_W (y_c ε) ad h_297] ?_
                refine y_steps hC 0 (σ' := (305, [(11, .ref t_287_a), (0, .ref (y_a ε 42)), (1, .ref (ad 0)), (2, .int q), (3, .int (nI n)), (4, .int (nI 1)), (5, .ref pA), (6, .ref ct), (7, .int (nI mn)), (8, .int (nI all)), (9, .int (nI b)), (10, .int (nI (z_mx n ((pv b)) + 1)))], [.int (nI t_287_L.length), .int (nI ((z_sp n (pv b) (max 1 (z_mx n (pv b)))).length)), .int (nI 1)], [])) rfl ?_
                refine y_icne hC rfl rfl (by rw [ht_287]) ?_
                refine y_steps hC 2 (σ' := (311, [(11, .ref t_287_a), (0, .ref (y_a ε 42)), (1, .ref (ad 0)), (2, .int q), (3, .int (nI n)), (4, .int (nI 1)), (5, .ref pA), (6, .ref ct), (7, .int (nI mn)), (8, .int (nI all)), (9, .int (nI b)), (10, .int (nI (z_mx n ((pv b)) + 1)))], [.int (nI 6), .ref (ad 0), .int (nI 1)], [])) rfl ?_
                obtain ⟨fs_311, hh_311⟩ := y_CI_hd hCI_297
                refine y_spl [t_287_B, y_PW ε mn pa pf, [(pA, .inl (y_c ε 3, 12, .inr (.inr (.inr (.inr g2)))))], [(ct, .inl (y_c ε 0, 12, .inl c2))]] [z_W (y_c ε) ad h_297] ?_
                refine y_cls (d := 5) (y := 85) (idx := 85) (ad := ad) (h := h_297) (B := y_J [t_287_B, y_PW ε mn pa pf, [(pA, .inl (y_c ε 3, 12, .inr (.inr (.inr (.inr g2)))))], [(ct, .inl (y_c ε 0, 12, .inl c2))]]) (av := [.int (nI 6)]) (fs := fs_311) hC rfl (m_told6 hCI_297 ) rfl hh_311 rfl (z_t3 (i := 64) rfl rfl) (z_t3 (i := 65) rfl rfl) (z_t3 (i := 66) rfl rfl) (z_t1 (i := 1) rfl rfl) (show _ = some 1 from by decide +kernel) rfl rfl (by omega) (by omega) rfl (fun r_311 h_311 p_311 => ?_)
                obtain ⟨rfl, hCI_311⟩ := p_311
                refine y_cmb [t_287_B, y_PW ε mn pa pf, [(pA, .inl (y_c ε 3, 12, .inr (.inr (.inr (.inr g2)))))], [(ct, .inl (y_c ε 0, 12, .inl c2))]] [z_W (y_c ε) ad h_311] ?_
                refine y_steps hC 1 (σ' := (316, [(11, .ref t_287_a), (0, .ref (y_a ε 42)), (1, .ref (ad 0)), (2, .int q), (3, .int (nI n)), (4, .int (nI 1)), (5, .ref pA), (6, .ref ct), (7, .int (nI mn)), (8, .int (nI all)), (9, .int (nI b)), (10, .int (nI (z_mx n ((pv b)) + 1)))], [.ref t_287_a, .int (nI ((z_sp n (pv b) (max 1 (z_mx n (pv b)))).length)), .int (nI 1)], [])) rfl ?_
                refine y_spl [t_287_B] [y_PW ε mn pa pf, [(pA, .inl (y_c ε 3, 12, .inr (.inr (.inr (.inr g2)))))], [(ct, .inl (y_c ε 0, 12, .inl c2))], z_W (y_c ε) ad h_311] ?_
                refine y_callV (b := t_287_a) (pc := 316) (st := [.int (nI ((z_sp n (pv b) (max 1 (z_mx n (pv b)))).length)), .int (nI 1)]) (y := 118) (idx := 9) (w := y_J [t_287_B]) (wr := y_J [y_PW ε mn pa pf, [(pA, .inl (y_c ε 3, 12, .inr (.inr (.inr (.inr g2)))))], [(ct, .inl (y_c ε 0, 12, .inl c2))], z_W (y_c ε) ad h_311]) (av := []) hC rfl rfl rfl (z_t3 (i := 135) rfl rfl) (z_t3 (i := 136) rfl rfl) (z_t3 (i := 137) rfl rfl) (z_t1 (i := 14) rfl rfl) (fun H locs hP hS => y_trec hC h_t_287 (X := y_J [y_PW ε mn pa pf, [(pA, .inl (y_c ε 3, 12, .inr (.inr (.inr (.inr g2)))))], [(ct, .inl (y_c ε 0, 12, .inl c2))], z_W (y_c ε) ad h_311]) (hP) hS) (c_J0_length_8abf5 (t_a := t_287_a) (t_v := t_287_v) (t_f := t_287_f) (t_L := t_287_L) (t_B := t_287_B) h_t_287) (show _ = some 0 from by decide +kernel) rfl rfl (by omega) (by omega) rfl (fun r_316 w_316 p_316 => ?_)
                obtain ⟨rfl, ew_316⟩ := p_316
                replace ew_316 := ew_316.symm
                subst ew_316
                refine y_cmb [t_287_B] [y_PW ε mn pa pf, [(pA, .inl (y_c ε 3, 12, .inr (.inr (.inr (.inr g2)))))], [(ct, .inl (y_c ε 0, 12, .inl c2))], z_W (y_c ε) ad h_311] ?_
                refine y_steps hC 0 (σ' := (319, [(11, .ref t_287_a), (0, .ref (y_a ε 42)), (1, .ref (ad 0)), (2, .int q), (3, .int (nI n)), (4, .int (nI 1)), (5, .ref pA), (6, .ref ct), (7, .int (nI mn)), (8, .int (nI all)), (9, .int (nI b)), (10, .int (nI (z_mx n ((pv b)) + 1)))], [.int (nI t_287_L.length), .int (nI ((z_sp n (pv b) (max 1 (z_mx n (pv b)))).length)), .int (nI 1)], [])) rfl ?_
                refine y_icne hC rfl rfl (by rw [ht_287]) ?_
                refine y_steps hC 2 (σ' := (327, [(11, .ref t_287_a), (0, .ref (y_a ε 42)), (1, .ref (ad 0)), (2, .int q), (3, .int (nI n)), (4, .int (nI 1)), (5, .ref pA), (6, .ref ct), (7, .int (nI mn)), (8, .int (nI all)), (9, .int (nI b)), (10, .int (nI (z_mx n ((pv b)) + 1)))], [.int (nI 1), .int (nI 1)], [])) rfl ?_
                refine y_and hC (1) rfl (by first | rfl | decide) ?_
                refine y_steps hC 3 (σ' := (333, [(12, .int (nI 0)), (4, .int (nI 1)), (11, .ref t_287_a), (0, .ref (y_a ε 42)), (1, .ref (ad 0)), (2, .int q), (3, .int (nI n)), (5, .ref pA), (6, .ref ct), (7, .int (nI mn)), (8, .int (nI all)), (9, .int (nI b)), (10, .int (nI (z_mx n ((pv b)) + 1)))], [], [])) rfl ?_
                have loop_333 : ∀ (z_333 : Nat) (k : Nat) (h333 : List z_E), t_287_L.length - k < z_333 → ((y_CI n 0 mn 0 ((fun k => k)) cv pv none 0 tp1 ((z_sp n (pv b) (max 1 (z_mx n (pv b)))).length) ((fun k => nI ((z_sp n (pv b) (max 1 (z_mx n (pv b)))).getD k 0))) ((fun _ => 0)) ((fun _ => 0)) h333) ∧ (k ≤ t_287_L.length)) → y_G ε κ zmL_law (6200 + 600 * b + 512) (613000 + 61000 * b + 60000) ((t_287_B) ++ ((y_PW ε mn pa pf) ++ ((pA, .inl (y_c ε 3, 12, .inr (.inr (.inr (.inr g2))))) :: ((ct, .inl (y_c ε 0, 12, .inl c2)) :: (z_W (y_c ε) ad h333))))) (333, [(0, .ref (y_a ε 42)), (1, .ref (ad 0)), (2, .int q), (3, .int (nI n)), (4, .int (nI 1)), (5, .ref pA), (6, .ref ct), (7, .int (nI mn)), (8, .int (nI all)), (9, .int (nI b)), (10, .int (nI (z_mx n ((pv b)) + 1))), (11, .ref t_287_a), (12, .int (nI k))], [], []) := by
                  intro z_333
                  induction z_333 with
                  | zero => intro k h333 hm_333 _; exact absurd hm_333 (Nat.not_lt_zero _)
                  | succ z_333 ih_333 =>
                    intro k h333 hm_333 hi_333
                    obtain ⟨h_cl333, hi_333⟩ := hi_333
                    have r1 := hi_333
                    refine y_steps hC 2 (σ' := (337, [(0, .ref (y_a ε 42)), (1, .ref (ad 0)), (2, .int q), (3, .int (nI n)), (4, .int (nI 1)), (5, .ref pA), (6, .ref ct), (7, .int (nI mn)), (8, .int (nI all)), (9, .int (nI b)), (10, .int (nI (z_mx n ((pv b)) + 1))), (11, .ref t_287_a), (12, .int (nI k))], [.ref t_287_a, .int (nI k)], [])) rfl ?_
                    refine y_spl [t_287_B] [y_PW ε mn pa pf, [(pA, .inl (y_c ε 3, 12, .inr (.inr (.inr (.inr g2)))))], [(ct, .inl (y_c ε 0, 12, .inl c2))], z_W (y_c ε) ad h333] ?_
                    refine y_callV (b := t_287_a) (pc := 337) (st := [.int (nI k)]) (y := 118) (idx := 9) (w := y_J [t_287_B]) (wr := y_J [y_PW ε mn pa pf, [(pA, .inl (y_c ε 3, 12, .inr (.inr (.inr (.inr g2)))))], [(ct, .inl (y_c ε 0, 12, .inl c2))], z_W (y_c ε) ad h333]) (av := []) hC rfl rfl rfl (z_t3 (i := 135) rfl rfl) (z_t3 (i := 136) rfl rfl) (z_t3 (i := 137) rfl rfl) (z_t1 (i := 14) rfl rfl) (fun H locs hP hS => y_trec hC h_t_287 (X := y_J [y_PW ε mn pa pf, [(pA, .inl (y_c ε 3, 12, .inr (.inr (.inr (.inr g2)))))], [(ct, .inl (y_c ε 0, 12, .inl c2))], z_W (y_c ε) ad h333]) (hP) hS) (c_J0_length_8abf5 (t_a := t_287_a) (t_v := t_287_v) (t_f := t_287_f) (t_L := t_287_L) (t_B := t_287_B) h_t_287) (show _ = some 0 from by decide +kernel) rfl rfl (by omega) (by omega) rfl (fun r_337 w_337 p_337 => ?_)
                    obtain ⟨rfl, ew_337⟩ := p_337
                    replace ew_337 := ew_337.symm
                    subst ew_337
                    refine y_cmb [t_287_B] [y_PW ε mn pa pf, [(pA, .inl (y_c ε 3, 12, .inr (.inr (.inr (.inr g2)))))], [(ct, .inl (y_c ε 0, 12, .inl c2))], z_W (y_c ε) ad h333] ?_
                    refine y_steps hC 0 (σ' := (340, [(0, .ref (y_a ε 42)), (1, .ref (ad 0)), (2, .int q), (3, .int (nI n)), (4, .int (nI 1)), (5, .ref pA), (6, .ref ct), (7, .int (nI mn)), (8, .int (nI all)), (9, .int (nI b)), (10, .int (nI (z_mx n ((pv b)) + 1))), (11, .ref t_287_a), (12, .int (nI k))], [.int (nI t_287_L.length), .int (nI k)], [])) rfl ?_
                    refine y_if hC (c := nI t_287_L.length ≤ nI k) rfl (fun c_340 => ?_) (fun c_340 => ?_)
                    · skip
                      rw [nI_leI (by omega) (by omega)] at c_340
                      refine y_steps hC 3 (σ' := (380, [(0, .ref (y_a ε 42)), (1, .ref (ad 0)), (2, .int q), (3, .int (nI n)), (4, .int (nI 1)), (5, .ref pA), (6, .ref ct), (7, .int (nI mn)), (8, .int (nI all)), (9, .int (nI b)), (10, .int (nI (z_mx n ((pv b)) + 1))), (11, .ref t_287_a), (12, .int (nI k))], [.ref t_287_a, .ref (ad 0), .int (nI 1)], [])) rfl ?_
                      refine y_spl [t_287_B] [y_PW ε mn pa pf, [(pA, .inl (y_c ε 3, 12, .inr (.inr (.inr (.inr g2)))))], [(ct, .inl (y_c ε 0, 12, .inl c2))], z_W (y_c ε) ad h333] ?_
                      refine y_callV (b := t_287_a) (pc := 380) (st := [.ref (ad 0), .int (nI 1)]) (y := 118) (idx := 9) (w := y_J [t_287_B]) (wr := y_J [y_PW ε mn pa pf, [(pA, .inl (y_c ε 3, 12, .inr (.inr (.inr (.inr g2)))))], [(ct, .inl (y_c ε 0, 12, .inl c2))], z_W (y_c ε) ad h333]) (av := []) hC rfl rfl rfl (z_t3 (i := 135) rfl rfl) (z_t3 (i := 136) rfl rfl) (z_t3 (i := 137) rfl rfl) (z_t1 (i := 14) rfl rfl) (fun H locs hP hS => y_trec hC h_t_287 (X := y_J [y_PW ε mn pa pf, [(pA, .inl (y_c ε 3, 12, .inr (.inr (.inr (.inr g2)))))], [(ct, .inl (y_c ε 0, 12, .inl c2))], z_W (y_c ε) ad h333]) (hP) hS) (c_J0_length_8abf5 (t_a := t_287_a) (t_v := t_287_v) (t_f := t_287_f) (t_L := t_287_L) (t_B := t_287_B) h_t_287) (show _ = some 0 from by decide +kernel) rfl rfl (by omega) (by omega) rfl (fun r_380 w_380 p_380 => ?_)
                      obtain ⟨rfl, ew_380⟩ := p_380
                      replace ew_380 := ew_380.symm
                      subst ew_380
                      refine y_cmb [t_287_B] [y_PW ε mn pa pf, [(pA, .inl (y_c ε 3, 12, .inr (.inr (.inr (.inr g2)))))], [(ct, .inl (y_c ε 0, 12, .inl c2))], z_W (y_c ε) ad h333] ?_
                      refine y_steps hC 0 (σ' := (383, [(0, .ref (y_a ε 42)), (1, .ref (ad 0)), (2, .int q), (3, .int (nI n)), (4, .int (nI 1)), (5, .ref pA), (6, .ref ct), (7, .int (nI mn)), (8, .int (nI all)), (9, .int (nI b)), (10, .int (nI (z_mx n ((pv b)) + 1))), (11, .ref t_287_a), (12, .int (nI k))], [.int (nI t_287_L.length), .ref (ad 0), .int (nI 1)], [])) rfl ?_
                      obtain ⟨fs_383, hh_383⟩ := y_CI_hd h_cl333
                      refine y_spl [t_287_B, y_PW ε mn pa pf, [(pA, .inl (y_c ε 3, 12, .inr (.inr (.inr (.inr g2)))))], [(ct, .inl (y_c ε 0, 12, .inl c2))]] [z_W (y_c ε) ad h333] ?_
                      refine y_cls (d := 2) (y := 78) (idx := 103) (ad := ad) (h := h333) (B := y_J [t_287_B, y_PW ε mn pa pf, [(pA, .inl (y_c ε 3, 12, .inr (.inr (.inr (.inr g2)))))], [(ct, .inl (y_c ε 0, 12, .inl c2))]]) (av := [.int (nI t_287_L.length)]) (fs := fs_383) hC rfl (m_paperN h_cl333 (Nat.le_of_eq (by rw [ht_287])) (by omega)) rfl hh_383 rfl (z_t2 (i := 165) rfl rfl) (z_t2 (i := 166) rfl rfl) (z_t2 (i := 167) rfl rfl) (z_t1 (i := 1) rfl rfl) (show _ = some 1 from by decide +kernel) rfl rfl (by omega) (by omega) rfl (fun r_383 h_383 p_383 => ?_)
                      obtain ⟨rfl, hCI_383⟩ := p_383
                      refine y_cmb [t_287_B, y_PW ε mn pa pf, [(pA, .inl (y_c ε 3, 12, .inr (.inr (.inr (.inr g2)))))], [(ct, .inl (y_c ε 0, 12, .inl c2))]] [z_W (y_c ε) ad h_383] ?_
                      refine y_steps hC 4 (σ' := (393, [(0, .ref (y_a ε 42)), (1, .ref (ad 0)), (2, .int q), (3, .int (nI n)), (4, .int (nI 1)), (5, .ref pA), (6, .ref ct), (7, .int (nI mn)), (8, .int (nI all)), (9, .int (nI b)), (10, .int (nI (z_mx n ((pv b)) + 1))), (11, .ref t_287_a), (12, .int (nI k))], [.ref t_287_a, .ref (ad 0), .int (nI 1)], [])) rfl ?_
                      refine y_mv [t_287_B, y_PW ε mn pa pf, [(pA, .inl (y_c ε 3, 12, .inr (.inr (.inr (.inr g2)))))], [(ct, .inl (y_c ε 0, 12, .inl c2))]] (z_W (y_c ε) ad h_383) [] ?_
                      refine y_mv [z_W (y_c ε) ad h_383] (t_287_B) [y_PW ε mn pa pf, [(pA, .inl (y_c ε 3, 12, .inr (.inr (.inr (.inr g2)))))], [(ct, .inl (y_c ε 0, 12, .inl c2))]] ?_
                      refine y_spl [t_287_B, z_W (y_c ε) ad h_383] [y_PW ε mn pa pf, [(pA, .inl (y_c ε 3, 12, .inr (.inr (.inr (.inr g2)))))], [(ct, .inl (y_c ε 0, 12, .inl c2))]] ?_
                      refine y_callS (pc := 393) (st := [.int (nI 1)]) (y := 141) (idx := 65) (w := y_J [t_287_B, z_W (y_c ε) ad h_383]) (wr := y_J [y_PW ε mn pa pf, [(pA, .inl (y_c ε 3, 12, .inr (.inr (.inr (.inr g2)))))], [(ct, .inl (y_c ε 0, 12, .inl c2))]]) (av := [.ref (ad 0), .ref t_287_a]) hC rfl rfl (z_t3 (i := 132) rfl rfl) (z_t3 (i := 133) rfl rfl) (z_t1 (i := 0) rfl rfl) (c_L_feeds (t_a := t_287_a) (t_v := t_287_v) (t_f := t_287_f) (t_L := t_287_L) (t_B := t_287_B) (ad := ad) (hX := h_383) h_t_287 hCI_383 (by exact hc_287) (by omega)) (show _ = some 2 from by decide +kernel) rfl rfl (by omega) (by omega) rfl (fun r_393 w_393 p_393 => ?_)
                      obtain ⟨h2_393, tp2_393, rfl, ew_393, hCI_393, q_393⟩ := p_393
                      replace ew_393 := ew_393.symm
                      subst ew_393
                      refine y_cmb [t_287_B, z_W (y_c ε) ad h2_393] [y_PW ε mn pa pf, [(pA, .inl (y_c ε 3, 12, .inr (.inr (.inr (.inr g2)))))], [(ct, .inl (y_c ε 0, 12, .inl c2))]] ?_
                      obtain ⟨q0, e0a, e1⟩ := p_readE (n := n) (r := pv b) (m := max 1 (z_mx n (pv b))) (tp := tp2_393) (fd := t_287_L.length) (p := 0) (by omega) (by omega) (hIV.2.2.2.1 b (by omega)) (by omega) (by omega) (by omega) (by rw [← ht_287]; exact y_at_0 q_393) (by rw [ht_287]; omega) (by rw [ht_287]; omega); have e0 : z_rp n tp2_393 t_287_L.length 8 0 0 (fun _ => 0) 0 = (true, t_287_L.length, q0) := e0a.trans (by rw [ht_287, Nat.zero_add])
                      refine y_steps hC 2 (σ' := (400, [(0, .ref (y_a ε 42)), (1, .ref (ad 0)), (2, .int q), (3, .int (nI n)), (4, .int (nI 1)), (5, .ref pA), (6, .ref ct), (7, .int (nI mn)), (8, .int (nI all)), (9, .int (nI b)), (10, .int (nI (z_mx n ((pv b)) + 1))), (11, .ref t_287_a), (12, .int (nI k))], [.ref (ad 0), .int (nI 1)], [])) rfl ?_
                      refine y_mv [t_287_B, z_W (y_c ε) ad h2_393, y_PW ε mn pa pf, [(pA, .inl (y_c ε 3, 12, .inr (.inr (.inr (.inr g2)))))]] ([(ct, .inl (y_c ε 0, 12, .inl c2))]) [] ?_
                      refine y_mv [[(ct, .inl (y_c ε 0, 12, .inl c2))], t_287_B, z_W (y_c ε) ad h2_393, y_PW ε mn pa pf] ([(pA, .inl (y_c ε 3, 12, .inr (.inr (.inr (.inr g2)))))]) [] ?_
                      refine y_mv [[(pA, .inl (y_c ε 3, 12, .inr (.inr (.inr (.inr g2)))))], [(ct, .inl (y_c ε 0, 12, .inl c2))], t_287_B, z_W (y_c ε) ad h2_393] (y_PW ε mn pa pf) [] ?_
                      refine y_mv [y_PW ε mn pa pf, [(pA, .inl (y_c ε 3, 12, .inr (.inr (.inr (.inr g2)))))], [(ct, .inl (y_c ε 0, 12, .inl c2))]] (t_287_B) [z_W (y_c ε) ad h2_393] ?_
                      obtain ⟨fs_400, hh_400⟩ := y_CI_hd hCI_393
                      refine y_spl [t_287_B, y_PW ε mn pa pf, [(pA, .inl (y_c ε 3, 12, .inr (.inr (.inr (.inr g2)))))], [(ct, .inl (y_c ε 0, 12, .inl c2))]] [z_W (y_c ε) ad h2_393] ?_
                      refine y_cls (d := 5) (y := 76) (idx := 106) (ad := ad) (h := h2_393) (B := y_J [t_287_B, y_PW ε mn pa pf, [(pA, .inl (y_c ε 3, 12, .inr (.inr (.inr (.inr g2)))))], [(ct, .inl (y_c ε 0, 12, .inl c2))]]) (av := []) (fs := fs_400) hC rfl (m_findT hCI_393 e0 (by omega) (fun c hc => (e1 c hc).symm) (fun x hx hs => hIV.2.2.2.2.2 b (by omega) x hx (fun c hc => (hs c hc).trans (e1 c hc)))) rfl hh_400 rfl (z_t2 (i := 138) rfl rfl) (z_t2 (i := 139) rfl rfl) (z_t2 (i := 140) rfl rfl) (z_t1 (i := 1) rfl rfl) (show _ = some 0 from by decide +kernel) rfl rfl (by omega) (by omega) rfl (fun r_400 h_400 p_400 => ?_)
                      obtain ⟨rfl, hCI_400⟩ := p_400
                      refine y_cmb [t_287_B, y_PW ε mn pa pf, [(pA, .inl (y_c ε 3, 12, .inr (.inr (.inr (.inr g2)))))], [(ct, .inl (y_c ε 0, 12, .inl c2))]] [z_W (y_c ε) ad h_400] ?_
                      refine y_steps hC 1 (σ' := (405, [(0, .ref (y_a ε 42)), (1, .ref (ad 0)), (2, .int q), (3, .int (nI n)), (4, .int (nI 1)), (5, .ref pA), (6, .ref ct), (7, .int (nI mn)), (8, .int (nI all)), (9, .int (nI b)), (10, .int (nI (z_mx n ((pv b)) + 1))), (11, .ref t_287_a), (12, .int (nI k))], [.int (nI b), .int (nI b), .int (nI 1)], [])) rfl ?_
                      refine y_icne hC rfl rfl (rfl) ?_
                      refine y_steps hC 2 (σ' := (410, [(0, .ref (y_a ε 42)), (1, .ref (ad 0)), (2, .int q), (3, .int (nI n)), (4, .int (nI 1)), (5, .ref pA), (6, .ref ct), (7, .int (nI mn)), (8, .int (nI all)), (9, .int (nI b)), (10, .int (nI (z_mx n ((pv b)) + 1))), (11, .ref t_287_a), (12, .int (nI k))], [.int (nI 5), .ref (ad 0), .int (nI 1)], [])) rfl ?_
                      obtain ⟨fs_410, hh_410⟩ := y_CI_hd hCI_400
                      refine y_spl [t_287_B, y_PW ε mn pa pf, [(pA, .inl (y_c ε 3, 12, .inr (.inr (.inr (.inr g2)))))], [(ct, .inl (y_c ε 0, 12, .inl c2))]] [z_W (y_c ε) ad h_400] ?_
                      refine y_cls (d := 5) (y := 85) (idx := 85) (ad := ad) (h := h_400) (B := y_J [t_287_B, y_PW ε mn pa pf, [(pA, .inl (y_c ε 3, 12, .inr (.inr (.inr (.inr g2)))))], [(ct, .inl (y_c ε 0, 12, .inl c2))]]) (av := [.int (nI 5)]) (fs := fs_410) hC rfl (m_told5 hCI_400 ) rfl hh_410 rfl (z_t3 (i := 64) rfl rfl) (z_t3 (i := 65) rfl rfl) (z_t3 (i := 66) rfl rfl) (z_t1 (i := 1) rfl rfl) (show _ = some 1 from by decide +kernel) rfl rfl (by omega) (by omega) rfl (fun r_410 h_410 p_410 => ?_)
                      obtain ⟨rfl, hCI_410⟩ := p_410
                      refine y_cmb [t_287_B, y_PW ε mn pa pf, [(pA, .inl (y_c ε 3, 12, .inr (.inr (.inr (.inr g2)))))], [(ct, .inl (y_c ε 0, 12, .inl c2))]] [z_W (y_c ε) ad h_410] ?_
                      refine y_steps hC 3 (σ' := (421, [(0, .ref (y_a ε 42)), (1, .ref (ad 0)), (2, .int q), (3, .int (nI n)), (4, .int (nI 1)), (5, .ref pA), (6, .ref ct), (7, .int (nI mn)), (8, .int (nI all)), (9, .int (nI b)), (10, .int (nI (z_mx n ((pv b)) + 1))), (11, .ref t_287_a), (12, .int (nI k))], [.int (nI 1), .int (nI 1)], [])) rfl ?_
                      refine y_and hC (1) rfl (by first | rfl | decide) ?_
                      refine y_steps hC 4 (σ' := (430, [(4, .int (nI 1)), (0, .ref (y_a ε 42)), (1, .ref (ad 0)), (2, .int q), (3, .int (nI n)), (5, .ref pA), (6, .ref ct), (7, .int (nI mn)), (8, .int (nI all)), (9, .int (nI b)), (10, .int (nI (z_mx n ((pv b)) + 1))), (11, .ref t_287_a), (12, .int (nI k))], [.int (nI b), .ref ct, .int (nI all)], [])) rfl ?_
                      refine y_mv [t_287_B, y_PW ε mn pa pf, [(pA, .inl (y_c ε 3, 12, .inr (.inr (.inr (.inr g2)))))]] ([(ct, .inl (y_c ε 0, 12, .inl c2))]) [z_W (y_c ε) ad h_410] ?_
                      refine y_mv [[(ct, .inl (y_c ε 0, 12, .inl c2))], t_287_B, y_PW ε mn pa pf] ([(pA, .inl (y_c ε 3, 12, .inr (.inr (.inr (.inr g2)))))]) [z_W (y_c ε) ad h_410] ?_
                      refine y_ial hC 1 rfl rfl (by first | assumption | omega | rfl | trivial) (by omega) ((hIV.2.2.2.2.1 b (by omega)).1) ?_
                      refine y_steps hC 0 (σ' := (431, [(4, .int (nI 1)), (0, .ref (y_a ε 42)), (1, .ref (ad 0)), (2, .int q), (3, .int (nI n)), (5, .ref pA), (6, .ref ct), (7, .int (nI mn)), (8, .int (nI all)), (9, .int (nI b)), (10, .int (nI (z_mx n ((pv b)) + 1))), (11, .ref t_287_a), (12, .int (nI k))], [.int (nI (cv b)), .int (nI all)], [])) rfl ?_
                      refine y_add hC (all + cv b) rfl (by first | rfl | omega) ?_
                      refine y_steps hC 1 (σ' := (434, [(8, .int (nI (all + cv b))), (4, .int (nI 1)), (0, .ref (y_a ε 42)), (1, .ref (ad 0)), (2, .int q), (3, .int (nI n)), (5, .ref pA), (6, .ref ct), (7, .int (nI mn)), (9, .int (nI b)), (10, .int (nI (z_mx n ((pv b)) + 1))), (11, .ref t_287_a), (12, .int (nI k))], [], [])) rfl ?_
                      refine y_inc hC (n := 1) rfl rfl rfl (b + 1) (by rfl) [(9, .int (nI (b + 1))), (8, .int (nI (all + cv b))), (4, .int (nI 1)), (0, .ref (y_a ε 42)), (1, .ref (ad 0)), (2, .int q), (3, .int (nI n)), (5, .ref pA), (6, .ref ct), (7, .int (nI mn)), (10, .int (nI (z_mx n ((pv b)) + 1))), (11, .ref t_287_a), (12, .int (nI k))] rfl ?_
                      refine y_steps hC 1 (σ' := (151, [(9, .int (nI (b + 1))), (8, .int (nI (all + cv b))), (4, .int (nI 1)), (0, .ref (y_a ε 42)), (1, .ref (ad 0)), (2, .int q), (3, .int (nI n)), (5, .ref pA), (6, .ref ct), (7, .int (nI mn)), (10, .int (nI (z_mx n ((pv b)) + 1))), (11, .ref t_287_a), (12, .int (nI k))], [], [])) rfl ?_
                      refine y_mv [[(pA, .inl (y_c ε 3, 12, .inr (.inr (.inr (.inr g2)))))], [(ct, .inl (y_c ε 0, 12, .inl c2))], t_287_B, y_PW ε mn pa pf] (z_W (y_c ε) ad h_410) [] ?_
                      refine y_mv [z_W (y_c ε) ad h_410, [(pA, .inl (y_c ε 3, 12, .inr (.inr (.inr (.inr g2)))))], [(ct, .inl (y_c ε 0, 12, .inl c2))], t_287_B] (y_PW ε mn pa pf) [] ?_
                      refine y_mv [y_PW ε mn pa pf, z_W (y_c ε) ad h_410, [(pA, .inl (y_c ε 3, 12, .inr (.inr (.inr (.inr g2)))))]] ([(ct, .inl (y_c ε 0, 12, .inl c2))]) [t_287_B] ?_
                      refine y_mv [[(ct, .inl (y_c ε 0, 12, .inl c2))], y_PW ε mn pa pf, z_W (y_c ε) ad h_410] ([(pA, .inl (y_c ε 3, 12, .inr (.inr (.inr (.inr g2)))))]) [t_287_B] ?_
                      refine y_mv [[(pA, .inl (y_c ε 3, 12, .inr (.inr (.inr (.inr g2)))))], [(ct, .inl (y_c ε 0, 12, .inl c2))], y_PW ε mn pa pf, z_W (y_c ε) ad h_410] (t_287_B) [] ?_
                      refine y_drp (t_287_B) [[(pA, .inl (y_c ε 3, 12, .inr (.inr (.inr (.inr g2)))))], [(ct, .inl (y_c ε 0, 12, .inl c2))], y_PW ε mn pa pf, z_W (y_c ε) ad h_410] ?_
                      refine y_sub hC [3, 4, 5, 6, 2, 7, 8, 9, 1, 0] rfl ?_
                      refine y_wid (6200 + 600 * (b + 1)) (613000 + 61000 * (b + 1)) (by omega) (by omega) ?_
                      exact ih_151 (all + cv b) (b + 1) h_410 tp2_393 ((z_sp n (pv b) (max 1 (z_mx n (pv b)))).length) (fun k => nI ((z_sp n (pv b) (max 1 (z_mx n (pv b)))).getD k 0)) (by omega) ⟨(by exact hCI_410), (by exact ⟨by omega, by rw [l2]; rfl⟩)⟩
                    · skip
                      rw [nI_leI (by omega) (by omega)] at c_340
                      refine y_steps hC 3 (σ' := (348, [(0, .ref (y_a ε 42)), (1, .ref (ad 0)), (2, .int q), (3, .int (nI n)), (4, .int (nI 1)), (5, .ref pA), (6, .ref ct), (7, .int (nI mn)), (8, .int (nI all)), (9, .int (nI b)), (10, .int (nI (z_mx n ((pv b)) + 1))), (11, .ref t_287_a), (12, .int (nI k))], [.int (nI k), .ref (ad 0), .int (nI 1)], [])) rfl ?_
                      obtain ⟨fs_348, hh_348⟩ := y_CI_hd h_cl333
                      refine y_spl [t_287_B, y_PW ε mn pa pf, [(pA, .inl (y_c ε 3, 12, .inr (.inr (.inr (.inr g2)))))], [(ct, .inl (y_c ε 0, 12, .inl c2))]] [z_W (y_c ε) ad h333] ?_
                      refine y_cls (d := 2) (y := 78) (idx := 103) (ad := ad) (h := h333) (B := y_J [t_287_B, y_PW ε mn pa pf, [(pA, .inl (y_c ε 3, 12, .inr (.inr (.inr (.inr g2)))))], [(ct, .inl (y_c ε 0, 12, .inl c2))]]) (av := [.int (nI k)]) (fs := fs_348) hC rfl (m_paper h_cl333 (by rw [← ht_287]; omega)) rfl hh_348 rfl (z_t2 (i := 165) rfl rfl) (z_t2 (i := 166) rfl rfl) (z_t2 (i := 167) rfl rfl) (z_t1 (i := 1) rfl rfl) (show _ = some 1 from by decide +kernel) rfl rfl (by omega) (by omega) rfl (fun r_348 h_348 p_348 => ?_)
                      obtain ⟨rfl, hCI_348⟩ := p_348
                      refine y_cmb [t_287_B, y_PW ε mn pa pf, [(pA, .inl (y_c ε 3, 12, .inr (.inr (.inr (.inr g2)))))], [(ct, .inl (y_c ε 0, 12, .inl c2))]] [z_W (y_c ε) ad h_348] ?_
                      refine y_steps hC 2 (σ' := (355, [(0, .ref (y_a ε 42)), (1, .ref (ad 0)), (2, .int q), (3, .int (nI n)), (4, .int (nI 1)), (5, .ref pA), (6, .ref ct), (7, .int (nI mn)), (8, .int (nI all)), (9, .int (nI b)), (10, .int (nI (z_mx n ((pv b)) + 1))), (11, .ref t_287_a), (12, .int (nI k))], [.int (nI k), .ref t_287_a, .int (nI ((z_sp n (pv b) (max 1 (z_mx n (pv b)))).getD k 0)), .int (nI 1)], [])) rfl ?_
                      refine y_spl [t_287_B] [y_PW ε mn pa pf, [(pA, .inl (y_c ε 3, 12, .inr (.inr (.inr (.inr g2)))))], [(ct, .inl (y_c ε 0, 12, .inl c2))], z_W (y_c ε) ad h_348] ?_
                      refine y_callV (b := t_287_a) (pc := 355) (st := [.int (nI ((z_sp n (pv b) (max 1 (z_mx n (pv b)))).getD k 0)), .int (nI 1)]) (y := 119) (idx := 15) (w := y_J [t_287_B]) (wr := y_J [y_PW ε mn pa pf, [(pA, .inl (y_c ε 3, 12, .inr (.inr (.inr (.inr g2)))))], [(ct, .inl (y_c ε 0, 12, .inl c2))], z_W (y_c ε) ad h_348]) (av := [.int (nI k)]) hC rfl rfl rfl (z_t3 (i := 145) rfl rfl) (z_t3 (i := 146) rfl rfl) (z_t3 (i := 147) rfl rfl) (z_t1 (i := 14) rfl rfl) (fun H locs hP hS => y_trec hC h_t_287 (X := y_J [y_PW ε mn pa pf, [(pA, .inl (y_c ε 3, 12, .inr (.inr (.inr (.inr g2)))))], [(ct, .inl (y_c ε 0, 12, .inl c2))], z_W (y_c ε) ad h_348]) (hP) hS) (c_J0_charAt_5068e (t_a := t_287_a) (t_v := t_287_v) (t_f := t_287_f) (t_L := t_287_L) (t_B := t_287_B) (i := k) h_t_287 (by first | assumption | omega | rfl | trivial)) (show _ = some 1 from by decide +kernel) rfl rfl (by omega) (by omega) rfl (fun r_355 w_355 p_355 => ?_)
                      obtain ⟨rfl, ew_355⟩ := p_355
                      replace ew_355 := ew_355.symm
                      subst ew_355
                      refine y_cmb [t_287_B] [y_PW ε mn pa pf, [(pA, .inl (y_c ε 3, 12, .inr (.inr (.inr (.inr g2)))))], [(ct, .inl (y_c ε 0, 12, .inl c2))], z_W (y_c ε) ad h_348] ?_
                      refine y_steps hC 0 (σ' := (358, [(0, .ref (y_a ε 42)), (1, .ref (ad 0)), (2, .int q), (3, .int (nI n)), (4, .int (nI 1)), (5, .ref pA), (6, .ref ct), (7, .int (nI mn)), (8, .int (nI all)), (9, .int (nI b)), (10, .int (nI (z_mx n ((pv b)) + 1))), (11, .ref t_287_a), (12, .int (nI k))], [.int (nI (t_287_L.getD k 0)), .int (nI ((z_sp n (pv b) (max 1 (z_mx n (pv b)))).getD k 0)), .int (nI 1)], [])) rfl ?_
                      refine y_icne hC rfl rfl (by rw [ht_287]) ?_
                      refine y_steps hC 2 (σ' := (366, [(0, .ref (y_a ε 42)), (1, .ref (ad 0)), (2, .int q), (3, .int (nI n)), (4, .int (nI 1)), (5, .ref pA), (6, .ref ct), (7, .int (nI mn)), (8, .int (nI all)), (9, .int (nI b)), (10, .int (nI (z_mx n ((pv b)) + 1))), (11, .ref t_287_a), (12, .int (nI k))], [.int (nI 1), .int (nI 1)], [])) rfl ?_
                      refine y_and hC (1) rfl (by first | rfl | decide) ?_
                      refine y_steps hC 1 (σ' := (369, [(4, .int (nI 1)), (0, .ref (y_a ε 42)), (1, .ref (ad 0)), (2, .int q), (3, .int (nI n)), (5, .ref pA), (6, .ref ct), (7, .int (nI mn)), (8, .int (nI all)), (9, .int (nI b)), (10, .int (nI (z_mx n ((pv b)) + 1))), (11, .ref t_287_a), (12, .int (nI k))], [], [])) rfl ?_
                      refine y_inc hC (n := 1) rfl rfl rfl (k + 1) (by rfl) [(12, .int (nI (k + 1))), (4, .int (nI 1)), (0, .ref (y_a ε 42)), (1, .ref (ad 0)), (2, .int q), (3, .int (nI n)), (5, .ref pA), (6, .ref ct), (7, .int (nI mn)), (8, .int (nI all)), (9, .int (nI b)), (10, .int (nI (z_mx n ((pv b)) + 1))), (11, .ref t_287_a)] rfl ?_
                      refine y_steps hC 1 (σ' := (333, [(12, .int (nI (k + 1))), (4, .int (nI 1)), (0, .ref (y_a ε 42)), (1, .ref (ad 0)), (2, .int q), (3, .int (nI n)), (5, .ref pA), (6, .ref ct), (7, .int (nI mn)), (8, .int (nI all)), (9, .int (nI b)), (10, .int (nI (z_mx n ((pv b)) + 1))), (11, .ref t_287_a)], [], [])) rfl ?_
                      refine y_sub hC [2, 3, 4, 5, 1, 6, 7, 8, 9, 10, 11, 12, 0] rfl ?_
                      exact ih_333 (k + 1) h_348 (by omega) ⟨(by exact hCI_348), (by first | assumption | omega | rfl | trivial)⟩
                refine y_sub hC [3, 4, 5, 6, 1, 7, 8, 9, 10, 11, 12, 2, 0] rfl ?_
                exact loop_333 _ 0 h_311 (Nat.lt_succ_self _) ⟨(by exact hCI_311), (by first | assumption | omega | rfl | trivial)⟩
            · skip
              rw [nI_leI (by omega) (by omega)] at c_226
              refine y_steps hC 5 (σ' := (238, [(0, .ref (y_a ε 42)), (1, .ref (ad 0)), (2, .int q), (3, .int (nI n)), (4, .int (nI 1)), (5, .ref pA), (6, .ref ct), (7, .int (nI mn)), (8, .int (nI all)), (9, .int (nI b)), (10, .int (nI (z_mx n ((pv b)) + 1))), (11, .int (nI c))], [.int (nI c), .int (nI 10), .int (nI b), .ref (ad 0), .int (nI 1)], [])) rfl ?_
              refine y_add hC (10 + c) rfl (by first | rfl | omega) ?_
              refine y_steps hC 0 (σ' := (239, [(0, .ref (y_a ε 42)), (1, .ref (ad 0)), (2, .int q), (3, .int (nI n)), (4, .int (nI 1)), (5, .ref pA), (6, .ref ct), (7, .int (nI mn)), (8, .int (nI all)), (9, .int (nI b)), (10, .int (nI (z_mx n ((pv b)) + 1))), (11, .int (nI c))], [.int (nI (10 + c)), .int (nI b), .ref (ad 0), .int (nI 1)], [])) rfl ?_
              obtain ⟨fs_239, hh_239⟩ := y_CI_hd h_cl223
              refine y_spl [[(pA, .inl (y_c ε 3, 12, .inr (.inr (.inr (.inr g2)))))], [(ct, .inl (y_c ε 0, 12, .inl c2))], y_PW ε mn pa pf] [z_W (y_c ε) ad h223] ?_
              refine y_cls (d := 3) (y := 75) (idx := 96) (ad := ad) (h := h223) (B := y_J [[(pA, .inl (y_c ε 3, 12, .inr (.inr (.inr (.inr g2)))))], [(ct, .inl (y_c ε 0, 12, .inl c2))], y_PW ε mn pa pf]) (av := [.int (nI b), .int (nI (10 + c))]) (fs := fs_239) hC rfl (m_ballotc h_cl223 (by omega) (by omega)) rfl hh_239 rfl (z_t2 (i := 126) rfl rfl) (z_t2 (i := 127) rfl rfl) (z_t2 (i := 128) rfl rfl) (z_t1 (i := 1) rfl rfl) (show _ = some 2 from by decide +kernel) rfl rfl (by omega) (by omega) rfl (fun r_239 h_239 p_239 => ?_)
              obtain ⟨rfl, hCI_239⟩ := p_239
              refine y_cmb [[(pA, .inl (y_c ε 3, 12, .inr (.inr (.inr (.inr g2)))))], [(ct, .inl (y_c ε 0, 12, .inl c2))], y_PW ε mn pa pf] [z_W (y_c ε) ad h_239] ?_
              refine y_steps hC 2 (σ' := (246, [(0, .ref (y_a ε 42)), (1, .ref (ad 0)), (2, .int q), (3, .int (nI n)), (4, .int (nI 1)), (5, .ref pA), (6, .ref ct), (7, .int (nI mn)), (8, .int (nI all)), (9, .int (nI b)), (10, .int (nI (z_mx n ((pv b)) + 1))), (11, .int (nI c))], [.int (nI b), .ref pA, .int (nI (pv b c)), .int (nI 1)], [])) rfl ?_
              refine y_aal hC 0 rfl rfl (by first | assumption | omega | rfl | trivial) (by omega) (hIV.2.1 b (by omega)) ?_
              refine y_steps hC 1 (σ' := (249, [(0, .ref (y_a ε 42)), (1, .ref (ad 0)), (2, .int q), (3, .int (nI n)), (4, .int (nI 1)), (5, .ref pA), (6, .ref ct), (7, .int (nI mn)), (8, .int (nI all)), (9, .int (nI b)), (10, .int (nI (z_mx n ((pv b)) + 1))), (11, .int (nI c))], [.int (nI c), .ref ((pa b)), .int (nI (pv b c)), .int (nI 1)], [])) rfl ?_
              refine y_mv [[(pA, .inl (y_c ε 3, 12, .inr (.inr (.inr (.inr g2)))))], [(ct, .inl (y_c ε 0, 12, .inl c2))]] (y_PW ε mn pa pf) [z_W (y_c ε) ad h_239] ?_
              refine y_pm2 (b := y_PW ε mn pa pf) [((pa b), .inl (y_c ε 0, 8, .inl ((pf b))))] (y_PX ε mn pa pf b) [[(pA, .inl (y_c ε 3, 12, .inr (.inr (.inr (.inr g2)))))], [(ct, .inl (y_c ε 0, 12, .inl c2))], z_W (y_c ε) ad h_239] (y_PW_at (by omega)) ?_
              refine y_steps hC 0 (σ' := (249, [(0, .ref (y_a ε 42)), (1, .ref (ad 0)), (2, .int q), (3, .int (nI n)), (4, .int (nI 1)), (5, .ref pA), (6, .ref ct), (7, .int (nI mn)), (8, .int (nI all)), (9, .int (nI b)), (10, .int (nI (z_mx n ((pv b)) + 1))), (11, .int (nI c))], [.int (nI c), .ref ((pa b)), .int (nI (pv b c)), .int (nI 1)], [])) rfl ?_
              refine y_mv [[((pa b), .inl (y_c ε 0, 8, .inl ((pf b))))], y_PX ε mn pa pf b, [(pA, .inl (y_c ε 3, 12, .inr (.inr (.inr (.inr g2)))))]] ([(ct, .inl (y_c ε 0, 12, .inl c2))]) [z_W (y_c ε) ad h_239] ?_
              refine y_mv [[(ct, .inl (y_c ε 0, 12, .inl c2))], [((pa b), .inl (y_c ε 0, 8, .inl ((pf b))))], y_PX ε mn pa pf b] ([(pA, .inl (y_c ε 3, 12, .inr (.inr (.inr (.inr g2)))))]) [z_W (y_c ε) ad h_239] ?_
              refine y_mv [[(pA, .inl (y_c ε 3, 12, .inr (.inr (.inr (.inr g2)))))], [(ct, .inl (y_c ε 0, 12, .inl c2))]] ([((pa b), .inl (y_c ε 0, 8, .inl ((pf b))))]) [y_PX ε mn pa pf b, z_W (y_c ε) ad h_239] ?_
              refine y_ial hC 0 rfl rfl (by first | assumption | omega | rfl | trivial) (by omega) ((hIV.2.2.1 b (by omega) c (by omega)).1) ?_
              refine y_steps hC 0 (σ' := (250, [(0, .ref (y_a ε 42)), (1, .ref (ad 0)), (2, .int q), (3, .int (nI n)), (4, .int (nI 1)), (5, .ref pA), (6, .ref ct), (7, .int (nI mn)), (8, .int (nI all)), (9, .int (nI b)), (10, .int (nI (z_mx n ((pv b)) + 1))), (11, .int (nI c))], [.int (nI (pv b c)), .int (nI (pv b c)), .int (nI 1)], [])) rfl ?_
              refine y_mv [[((pa b), .inl (y_c ε 0, 8, .inl ((pf b))))], [(pA, .inl (y_c ε 3, 12, .inr (.inr (.inr (.inr g2)))))], [(ct, .inl (y_c ε 0, 12, .inl c2))]] (y_PX ε mn pa pf b) [z_W (y_c ε) ad h_239] ?_
              refine y_mv [y_PX ε mn pa pf b] ([((pa b), .inl (y_c ε 0, 8, .inl ((pf b))))]) [[(pA, .inl (y_c ε 3, 12, .inr (.inr (.inr (.inr g2)))))], [(ct, .inl (y_c ε 0, 12, .inl c2))], z_W (y_c ε) ad h_239] ?_
              refine y_pm3 (b1 := [((pa b), .inl (y_c ε 0, 8, .inl ((pf b))))]) (b2 := y_PX ε mn pa pf b) (y_PW ε mn pa pf) [[(pA, .inl (y_c ε 3, 12, .inr (.inr (.inr (.inr g2)))))], [(ct, .inl (y_c ε 0, 12, .inl c2))], z_W (y_c ε) ad h_239] (y_PW_at (by omega)) ?_
              refine y_steps hC 0 (σ' := (250, [(0, .ref (y_a ε 42)), (1, .ref (ad 0)), (2, .int q), (3, .int (nI n)), (4, .int (nI 1)), (5, .ref pA), (6, .ref ct), (7, .int (nI mn)), (8, .int (nI all)), (9, .int (nI b)), (10, .int (nI (z_mx n ((pv b)) + 1))), (11, .int (nI c))], [.int (nI (pv b c)), .int (nI (pv b c)), .int (nI 1)], [])) rfl ?_
              refine y_icne hC rfl rfl (rfl) ?_
              refine y_steps hC 2 (σ' := (258, [(0, .ref (y_a ε 42)), (1, .ref (ad 0)), (2, .int q), (3, .int (nI n)), (4, .int (nI 1)), (5, .ref pA), (6, .ref ct), (7, .int (nI mn)), (8, .int (nI all)), (9, .int (nI b)), (10, .int (nI (z_mx n ((pv b)) + 1))), (11, .int (nI c))], [.int (nI 1), .int (nI 1)], [])) rfl ?_
              refine y_and hC (1) rfl (by first | rfl | decide) ?_
              refine y_steps hC 1 (σ' := (261, [(4, .int (nI 1)), (0, .ref (y_a ε 42)), (1, .ref (ad 0)), (2, .int q), (3, .int (nI n)), (5, .ref pA), (6, .ref ct), (7, .int (nI mn)), (8, .int (nI all)), (9, .int (nI b)), (10, .int (nI (z_mx n ((pv b)) + 1))), (11, .int (nI c))], [], [])) rfl ?_
              refine y_inc hC (n := 1) rfl rfl rfl (c + 1) (by rfl) [(11, .int (nI (c + 1))), (4, .int (nI 1)), (0, .ref (y_a ε 42)), (1, .ref (ad 0)), (2, .int q), (3, .int (nI n)), (5, .ref pA), (6, .ref ct), (7, .int (nI mn)), (8, .int (nI all)), (9, .int (nI b)), (10, .int (nI (z_mx n ((pv b)) + 1)))] rfl ?_
              refine y_steps hC 1 (σ' := (223, [(11, .int (nI (c + 1))), (4, .int (nI 1)), (0, .ref (y_a ε 42)), (1, .ref (ad 0)), (2, .int q), (3, .int (nI n)), (5, .ref pA), (6, .ref ct), (7, .int (nI mn)), (8, .int (nI all)), (9, .int (nI b)), (10, .int (nI (z_mx n ((pv b)) + 1)))], [], [])) rfl ?_
              refine y_mv [y_PW ε mn pa pf, [(pA, .inl (y_c ε 3, 12, .inr (.inr (.inr (.inr g2)))))], [(ct, .inl (y_c ε 0, 12, .inl c2))]] (z_W (y_c ε) ad h_239) [] ?_
              refine y_mv [z_W (y_c ε) ad h_239] (y_PW ε mn pa pf) [[(pA, .inl (y_c ε 3, 12, .inr (.inr (.inr (.inr g2)))))], [(ct, .inl (y_c ε 0, 12, .inl c2))]] ?_
              refine y_mv [y_PW ε mn pa pf, z_W (y_c ε) ad h_239, [(pA, .inl (y_c ε 3, 12, .inr (.inr (.inr (.inr g2)))))]] ([(ct, .inl (y_c ε 0, 12, .inl c2))]) [] ?_
              refine y_mv [[(ct, .inl (y_c ε 0, 12, .inl c2))], y_PW ε mn pa pf, z_W (y_c ε) ad h_239] ([(pA, .inl (y_c ε 3, 12, .inr (.inr (.inr (.inr g2)))))]) [] ?_
              refine y_sub hC [2, 3, 4, 5, 1, 6, 7, 8, 9, 10, 11, 0] rfl ?_
              exact ih_223 (c + 1) h_239 (by omega) ⟨(by exact hCI_239), (by first | assumption | omega | rfl | trivial)⟩
        refine y_sub hC [3, 4, 5, 6, 1, 7, 8, 9, 10, 11, 2, 0] rfl ?_
        exact loop_223 _ 0 h_205 (Nat.lt_succ_self _) ⟨(by exact hCI_205), (by first | assumption | omega | rfl | trivial)⟩
  refine y_sub hC [2, 3, 4, 5, 6, 7, 8, 9, 1, 0] rfl ?_
  refine y_wid (6200 + 600 * 0) (613000 + 61000 * 0) (by omega) (by omega) ?_
  exact loop_151 _ 0 0 hX tp 0 pp (Nat.lt_succ_self _) ⟨(by exact hCI), (by exact ⟨Nat.zero_le _, rfl⟩)⟩
