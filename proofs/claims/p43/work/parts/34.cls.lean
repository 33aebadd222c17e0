/-! the class as the law sees it -/
theorem z_nIj {a b : Nat} (ha : a < 2 ^ 31) (hb : b < 2 ^ 31) (h : nI a = nI b) : a = b := (nI_eq ha hb).mp h
def z_TB (tb : Nat → Int32) (fd : Nat) (tp : Nat → Nat) : Prop := ∀ k, k < fd → tb k = nI (tp k) ∧ 1 ≤ tp k ∧ tp k ≤ 127
def y_CI (n : Nat) (outs : Nat) (bm : Nat) (ms : Nat) (dr : Nat → Nat) (cn : Nat → Nat) (pl : Nat → Nat → Nat) (I : Option (Nat × Nat × Nat × Nat × (Nat → Nat) × (Nat → Nat) × (Nat → Nat → Nat))) (fd : Nat) (tp : Nat → Nat) (wr : Nat) (pp : Nat → Int32) (sz : Nat → Nat) (ce : Nat → Int64) (h : List z_E) : Prop := ∃ (ik : Nat) (kn : Nat) (ko : Nat) (kb : Nat) (km : Nat) (kd : Nat → Nat) (kc : Nat → Nat) (kpl : Nat → Nat → Nat) (p_rankings : Nat → Int32) (p_counts : Nat → Int32) (p_draw : Nat → Int32) (p_fors : Nat → Int32) (k_rankings : Nat → Int32) (k_counts : Nat → Int32) (k_draw : Nat → Int32) (k_fors : Nat → Int32) (d_size : Int32) (d_outs : Int32) (d_rule : Int32) (d_filled : Int32) (d_rankings : Nat → Int32) (d_counts : Nat → Int32) (d_draw : Nat → Int32) (d_fors : Nat → Int32) (w_size : Int32) (w_ins : Int32) (w_rule : Int32) (w_steps : Int32) (w_fors : Nat → Int32) (w_draw : Nat → Int32) (w_links : Nat → Int64) (w_best : Nat → Int64) (w_beaters : Nat → Int32) (w_distances : Nat → Int32) (w_route : Nat → Int32) (t_bytes : Nat → Int32) (t_next : Int32) (t_ranking : Int32) (t_count : Int32) (l_cells : Nat → Int64) (l_sizes : Nat → Int32) (s_bytes : Nat → Int32), h = (CH (nI n) (nI outs) (nI ms) (nI bm) p_rankings p_counts p_draw p_fors (nI kn) (nI ko) (nI km) (nI kb) k_rankings k_counts k_draw k_fors d_size d_outs d_rule d_filled d_rankings d_counts d_draw d_fors w_size w_ins w_rule w_steps w_fors w_draw w_links w_best w_beaters w_distances w_route t_bytes (nI fd) t_next t_ranking t_count l_cells l_sizes s_bytes (nI wr) (nI ik)) ∧ (fd ≤ 120) ∧ (wr ≤ 16) ∧ (ik < 2) ∧ ((ik = 0 ∧ I = none) ∨ (ik = 1 ∧ I = some (kn, ko, kb, km, kd, kc, kpl))) ∧ (z_PI p_rankings p_counts p_draw p_fors n outs bm ms dr cn pl) ∧ (ik = 1 → z_PI k_rankings k_counts k_draw k_fors kn ko kb km kd kc kpl) ∧ (z_TB t_bytes fd tp) ∧ (z_LZ l_sizes sz) ∧ (∀ k, k < wr → s_bytes k = pp k) ∧ (∀ x, x < 160 → l_cells x = ce x)
theorem y_CI_mk {n : Nat} {outs : Nat} {bm : Nat} {ms : Nat} {dr : Nat → Nat} {cn : Nat → Nat} {pl : Nat → Nat → Nat} {I : Option (Nat × Nat × Nat × Nat × (Nat → Nat) × (Nat → Nat) × (Nat → Nat → Nat))} {fd : Nat} {tp : Nat → Nat} {wr : Nat} {pp : Nat → Int32} {sz : Nat → Nat} {ce : Nat → Int64} {ik : Nat} {kn : Nat} {ko : Nat} {kb : Nat} {km : Nat} {kd : Nat → Nat} {kc : Nat → Nat} {kpl : Nat → Nat → Nat} {p_rankings : Nat → Int32} {p_counts : Nat → Int32} {p_draw : Nat → Int32} {p_fors : Nat → Int32} {k_rankings : Nat → Int32} {k_counts : Nat → Int32} {k_draw : Nat → Int32} {k_fors : Nat → Int32} {d_size : Int32} {d_outs : Int32} {d_rule : Int32} {d_filled : Int32} {d_rankings : Nat → Int32} {d_counts : Nat → Int32} {d_draw : Nat → Int32} {d_fors : Nat → Int32} {w_size : Int32} {w_ins : Int32} {w_rule : Int32} {w_steps : Int32} {w_fors : Nat → Int32} {w_draw : Nat → Int32} {w_links : Nat → Int64} {w_best : Nat → Int64} {w_beaters : Nat → Int32} {w_distances : Nat → Int32} {w_route : Nat → Int32} {t_bytes : Nat → Int32} {t_next : Int32} {t_ranking : Int32} {t_count : Int32} {l_cells : Nat → Int64} {l_sizes : Nat → Int32} {s_bytes : Nat → Int32} (hfd : fd ≤ 120) (hwr : wr ≤ 16) (hik : ik < 2) (hIm : (ik = 0 ∧ I = none) ∨ (ik = 1 ∧ I = some (kn, ko, kb, km, kd, kc, kpl))) (hI : z_PI p_rankings p_counts p_draw p_fors n outs bm ms dr cn pl) (hkI : ik = 1 → z_PI k_rankings k_counts k_draw k_fors kn ko kb km kd kc kpl) (htp : z_TB t_bytes fd tp) (hz : z_LZ l_sizes sz) (hsb : ∀ k, k < wr → s_bytes k = pp k) (hlc : ∀ x, x < 160 → l_cells x = ce x) : y_CI n outs bm ms dr cn pl I fd tp wr pp sz ce (CH (nI n) (nI outs) (nI ms) (nI bm) p_rankings p_counts p_draw p_fors (nI kn) (nI ko) (nI km) (nI kb) k_rankings k_counts k_draw k_fors d_size d_outs d_rule d_filled d_rankings d_counts d_draw d_fors w_size w_ins w_rule w_steps w_fors w_draw w_links w_best w_beaters w_distances w_route t_bytes (nI fd) t_next t_ranking t_count l_cells l_sizes s_bytes (nI wr) (nI ik)) := ⟨ik, kn, ko, kb, km, kd, kc, kpl, p_rankings, p_counts, p_draw, p_fors, k_rankings, k_counts, k_draw, k_fors, d_size, d_outs, d_rule, d_filled, d_rankings, d_counts, d_draw, d_fors, w_size, w_ins, w_rule, w_steps, w_fors, w_draw, w_links, w_best, w_beaters, w_distances, w_route, t_bytes, t_next, t_ranking, t_count, l_cells, l_sizes, s_bytes, rfl, hfd, hwr, hik, hIm, hI, hkI, htp, hz, hsb, hlc⟩
theorem y_CI_el {C : List z_E → Prop} {n : Nat} {outs : Nat} {bm : Nat} {ms : Nat} {dr : Nat → Nat} {cn : Nat → Nat} {pl : Nat → Nat → Nat} {I : Option (Nat × Nat × Nat × Nat × (Nat → Nat) × (Nat → Nat) × (Nat → Nat → Nat))} {fd : Nat} {tp : Nat → Nat} {wr : Nat} {pp : Nat → Int32} {sz : Nat → Nat} {ce : Nat → Int64} {hX : List z_E} (h : y_CI n outs bm ms dr cn pl I fd tp wr pp sz ce hX) (k : ∀ (ik : Nat) (kn : Nat) (ko : Nat) (kb : Nat) (km : Nat) (kd : Nat → Nat) (kc : Nat → Nat) (kpl : Nat → Nat → Nat) (p_rankings : Nat → Int32) (p_counts : Nat → Int32) (p_draw : Nat → Int32) (p_fors : Nat → Int32) (k_rankings : Nat → Int32) (k_counts : Nat → Int32) (k_draw : Nat → Int32) (k_fors : Nat → Int32) (d_size : Int32) (d_outs : Int32) (d_rule : Int32) (d_filled : Int32) (d_rankings : Nat → Int32) (d_counts : Nat → Int32) (d_draw : Nat → Int32) (d_fors : Nat → Int32) (w_size : Int32) (w_ins : Int32) (w_rule : Int32) (w_steps : Int32) (w_fors : Nat → Int32) (w_draw : Nat → Int32) (w_links : Nat → Int64) (w_best : Nat → Int64) (w_beaters : Nat → Int32) (w_distances : Nat → Int32) (w_route : Nat → Int32) (t_bytes : Nat → Int32) (t_next : Int32) (t_ranking : Int32) (t_count : Int32) (l_cells : Nat → Int64) (l_sizes : Nat → Int32) (s_bytes : Nat → Int32), (fd ≤ 120) → (wr ≤ 16) → (ik < 2) → ((ik = 0 ∧ I = none) ∨ (ik = 1 ∧ I = some (kn, ko, kb, km, kd, kc, kpl))) → (z_PI p_rankings p_counts p_draw p_fors n outs bm ms dr cn pl) → (ik = 1 → z_PI k_rankings k_counts k_draw k_fors kn ko kb km kd kc kpl) → (z_TB t_bytes fd tp) → (z_LZ l_sizes sz) → (∀ k, k < wr → s_bytes k = pp k) → (∀ x, x < 160 → l_cells x = ce x) → C (CH (nI n) (nI outs) (nI ms) (nI bm) p_rankings p_counts p_draw p_fors (nI kn) (nI ko) (nI km) (nI kb) k_rankings k_counts k_draw k_fors d_size d_outs d_rule d_filled d_rankings d_counts d_draw d_fors w_size w_ins w_rule w_steps w_fors w_draw w_links w_best w_beaters w_distances w_route t_bytes (nI fd) t_next t_ranking t_count l_cells l_sizes s_bytes (nI wr) (nI ik))) : C hX := by
  refine h.elim fun ik h => h.elim fun kn h => h.elim fun ko h => h.elim fun kb h => h.elim fun km h => h.elim fun kd h => h.elim fun kc h => h.elim fun kpl h => h.elim fun p_rankings h => h.elim fun p_counts h => h.elim fun p_draw h => h.elim fun p_fors h => h.elim fun k_rankings h => h.elim fun k_counts h => h.elim fun k_draw h => h.elim fun k_fors h => h.elim fun d_size h => h.elim fun d_outs h => h.elim fun d_rule h => h.elim fun d_filled h => h.elim fun d_rankings h => h.elim fun d_counts h => h.elim fun d_draw h => h.elim fun d_fors h => h.elim fun w_size h => h.elim fun w_ins h => h.elim fun w_rule h => h.elim fun w_steps h => h.elim fun w_fors h => h.elim fun w_draw h => h.elim fun w_links h => h.elim fun w_best h => h.elim fun w_beaters h => h.elim fun w_distances h => h.elim fun w_route h => h.elim fun t_bytes h => h.elim fun t_next h => h.elim fun t_ranking h => h.elim fun t_count h => h.elim fun l_cells h => h.elim fun l_sizes h => h.elim fun s_bytes h => ?_
  obtain ⟨rfl, hfd, hwr, hik, hIm, hI, hkI, htp, hz, hsb, hlc⟩ := h
  exact k ik kn ko kb km kd kc kpl p_rankings p_counts p_draw p_fors k_rankings k_counts k_draw k_fors d_size d_outs d_rule d_filled d_rankings d_counts d_draw d_fors w_size w_ins w_rule w_steps w_fors w_draw w_links w_best w_beaters w_distances w_route t_bytes t_next t_ranking t_count l_cells l_sizes s_bytes hfd hwr hik hIm hI hkI htp hz hsb hlc
theorem y_CI_hd {n : Nat} {outs : Nat} {bm : Nat} {ms : Nat} {dr : Nat → Nat} {cn : Nat → Nat} {pl : Nat → Nat → Nat} {I : Option (Nat × Nat × Nat × Nat × (Nat → Nat) × (Nat → Nat) × (Nat → Nat → Nat))} {fd : Nat} {tp : Nat → Nat} {wr : Nat} {pp : Nat → Int32} {sz : Nat → Nat} {ce : Nat → Int64} {hX : List z_E} (h : y_CI n outs bm ms dr cn pl I fd tp wr pp sz ce hX) : ∃ fs, hX[0]? = some (.inr (5, fs)) := y_CI_el (C := fun hX => ∃ fs, hX[0]? = some (.inr (5, fs))) h (fun _ _ _ _ _ _ _ _ _ _ _ _ _ _ _ _ _ _ _ _ _ _ _ _ _ _ _ _ _ _ _ _ _ _ _ _ _ _ _ _ _ _ _ _ _ _ _ _ _ _ _ _ => ⟨_, rfl⟩)
theorem y_CI_PI {n : Nat} {outs : Nat} {bm : Nat} {ms : Nat} {dr : Nat → Nat} {cn : Nat → Nat} {pl : Nat → Nat → Nat} {I : Option (Nat × Nat × Nat × Nat × (Nat → Nat) × (Nat → Nat) × (Nat → Nat → Nat))} {fd : Nat} {tp : Nat → Nat} {wr : Nat} {pp : Nat → Int32} {sz : Nat → Nat} {ce : Nat → Int64} {hX : List z_E} (h : y_CI n outs bm ms dr cn pl I fd tp wr pp sz ce hX) : ∃ R C D F, z_PI R C D F n outs bm ms dr cn pl := y_CI_el (C := fun hX => ∃ R C D F, z_PI R C D F n outs bm ms dr cn pl) h (fun _ _ _ _ _ _ _ _ _ _ _ _ _ _ _ _ _ _ _ _ _ _ _ _ _ _ _ _ _ _ _ _ _ _ _ _ _ _ _ _ _ _ _ _ _ _ hI _ _ _ _ _ => ⟨_, _, _, _, hI⟩)
theorem y_TB_push {b : Nat → Int32} {fd k : Nat} {tp : Nat → Nat} (h : z_TB b fd tp) (h1 : 1 ≤ k) (h2 : k ≤ 127) : z_TB (upd b fd (nI k)) (fd + 1) (fun j => if j = fd then k else tp j) := by
  intro j hj
  dsimp only [upd]
  by_cases e : j = fd
  · rw [if_pos e, if_pos e]
    exact ⟨rfl, h1, h2⟩
  · rw [if_neg e, if_neg e]
    exact h j (by omega)
theorem y_TB_0 {b : Nat → Int32} {tp : Nat → Nat} : z_TB b 0 tp := fun j hj => absurd hj (Nat.not_lt_zero j)
theorem y_pc8 {s : Nat} : z_pc s ≤ 8 := by
  unfold z_pc
  exact Nat.le_trans (List.length_filter_le _ _) (by decide)
theorem y_pc_all {n : Nat} (hn : n ≤ 8) : z_pc (z_dif (2 ^ n - 1) 0) = n := by
  have h : ∀ n, n < 9 → z_pc (z_dif (2 ^ n - 1) 0) = n := by decide +kernel
  exact h n (by omega)
theorem y_LZ_start {s : Nat → Int32} {sz : Nat → Nat} (h : z_LZ s sz) : z_LZ (upd s 0 (nI 2)) (fun l => if l = 0 then 3 else sz l) := by
  intro l hl
  dsimp only [upd]
  by_cases e : l = 0
  · rw [if_pos e, if_pos e]
    exact ⟨rfl, by decide⟩
  · rw [if_neg e, if_neg e]
    exact h l hl
theorem y_for0 {cn : Nat → Nat} {pl : Nat → Nat → Nat} {i j : Nat} : z_for 0 cn pl i j = 0 := rfl
theorem y_LS0 {m s : Nat} {cn : Nat → Nat} {pl : Nat → Nat → Nat} {i j : Nat} : z_LS m s (z_for 0 cn pl) i j = 0 := by
  unfold z_LS
  rw [if_neg]
  intro z
  rw [Bool.and_eq_true, Bool.and_eq_true, Bool.and_eq_true, decide_eq_true_eq, decide_eq_true_eq] at z
  exact absurd z.2.2.2 (Nat.lt_irrefl 0)
theorem y_K0 {n : Nat} {K : Nat → Nat → Nat} {m s : Nat} {cn : Nat → Nat} {pl : Nat → Nat → Nat} (h : z_rows (z_LS m s (z_for 0 cn pl)) n K) : ∀ i, i < n → ∀ j, j < n → K i j = (fun _ _ => 0 : Nat → Nat → Nat) i j := by
  intro i hi j hj
  rcases Nat.eq_zero_or_pos (K i j) with e | e
  · exact e
  · exfalso
    obtain ⟨k, hk⟩ := (h i hi).2.1 j hj e
    cases k with
    | zero =>
      obtain rfl : i = j := hk
      rw [(h i hi).1] at e
      exact absurd e (Nat.lt_irrefl 0)
    | succ k =>
      obtain ⟨x, hx, ht, -⟩ := hk
      rw [y_LS0] at ht
      omega
theorem y_rv0 {n : Nat} {K K2 : Nat → Nat → Nat} {s : Nat} (h : ∀ i, i < n → ∀ j, j < n → K i j = K2 i j) : ∀ k, z_rv n (fun k => k) K s k = z_rv n (fun k => k) K2 s k
  | 0 => rfl
  | k + 1 => by
    unfold z_rv z_fi
    rw [y_rv0 h k, z_ub_congr h]
theorem y_rank0 {n k : Nat} {K : Nat → Nat → Nat} {cn : Nat → Nat} {pl : Nat → Nat → Nat} {ms : Nat} (hn : n ≤ 8) (h : z_rows (z_LS ms (z_dif (2 ^ n - 1) 0) (z_for 0 cn pl)) n K) (hk : k < n) : z_fi n (fun k => k) K (z_rv n (fun k => k) K (z_dif (2 ^ n - 1) 0) k) = k := by
  unfold z_fi
  rw [z_ub_congr (y_K0 h), y_rv0 (y_K0 h)]
  have g : ∀ n, n < 9 → ∀ k, k < n → z_fd (fun k => k) (z_ub n (fun _ _ => 0) (z_rv n (fun k => k) (fun _ _ => 0) (z_dif (2 ^ n - 1) 0) k)) n 0 = k := by decide +kernel
  exact g n (by omega) k hk
theorem y_win2 {K : Nat → Nat → Nat} {cn : Nat → Nat} {pl : Nat → Nat → Nat} {ms : Nat} (h : z_rows (z_LS ms (z_dif (2 ^ 2 - 1) 0) (z_for 0 cn pl)) 2 K) : z_ub 2 K (z_dif (2 ^ 2 - 1) 0) = 3 := by
  rw [z_ub_congr (y_K0 h)]
  decide +kernel
theorem y_smith2 {cn : Nat → Nat} {pl : Nat → Nat → Nat} {v : Nat} (h : z_SM 2 (z_dif (2 ^ 2 - 1) 0) (z_for 0 cn pl) (2 ^ 2) v) : v = 3 := by
  obtain ⟨h1, h2, -, h4, -⟩ := h
  have h1 : v < 4 := h1
  rcases (by omega : v = 1 ∨ v = 2 ∨ v = 3) with e | e | e
  · subst e
    exact absurd (h4 0 (by decide) (by decide) 1 (by decide) (by decide +kernel)).2.2.2 (Nat.lt_irrefl 0)
  · subst e
    exact absurd (h4 1 (by decide) (by decide) 0 (by decide) (by decide +kernel)).2.2.2 (Nat.lt_irrefl 0)
  · exact e
theorem m_undo0 {n : Nat} {outs : Nat} {bm : Nat} {ms : Nat} {dr : Nat → Nat} {cn : Nat → Nat} {pl : Nat → Nat → Nat} {I : Option (Nat × Nat × Nat × Nat × (Nat → Nat) × (Nat → Nat) × (Nat → Nat → Nat))} {fd : Nat} {tp : Nat → Nat} {wr : Nat} {pp : Nat → Int32} {sz : Nat → Nat} {ce : Nat → Int64}  {hX : List z_E} (h : y_CI n outs bm ms dr cn pl I fd tp wr pp sz ce hX) (hI0 : I = none) : z_CAL 2 90 [.ref 0] hX (fun r h2 => r = some (.int (-nI 3)) ∧ y_CI n outs bm ms dr cn pl I fd tp wr pp sz ce h2) := by
  refine y_CI_el (C := fun hX => z_CAL 2 90 [.ref 0] hX (fun r h2 => r = some (.int (-nI 3)) ∧ y_CI n outs bm ms dr cn pl I fd tp wr pp sz ce h2)) h ?_
  intro ik kn ko kb km kd kc kpl p_rankings p_counts p_draw p_fors k_rankings k_counts k_draw k_fors d_size d_outs d_rule d_filled d_rankings d_counts d_draw d_fors w_size w_ins w_rule w_steps w_fors w_draw w_links w_best w_beaters w_distances w_route t_bytes t_next t_ranking t_count l_cells l_sizes s_bytes hfd hwr hik hIm hI hkI htp hz hsb hlc
  have hn8 := hI.1.2
  refine z_CAL_mono ?_ (c_X5_undo 0 hI hik hkI)
  rintro r h2 ⟨n2, o2, m2, b2, pR2, pC2, pD2, pF2, v, rfl, rfl, q⟩
  rcases hIm with ⟨e0, -⟩ | ⟨-, e1⟩
  · rcases q with ⟨-, hv, rfl, rfl, rfl, rfl, rfl, rfl, rfl, rfl⟩ | ⟨e1, -⟩
    · exact ⟨congrArg (fun z => some (Value.int z)) hv, (y_CI_mk hfd hwr hik (Or.inl ⟨e0, hI0⟩) hI hkI htp hz hsb hlc)⟩
    · omega
  · exact absurd (hI0.symm.trans e1) (by simp)
theorem m_undo1 {n : Nat} {outs : Nat} {bm : Nat} {ms : Nat} {dr : Nat → Nat} {cn : Nat → Nat} {pl : Nat → Nat → Nat} {I : Option (Nat × Nat × Nat × Nat × (Nat → Nat) × (Nat → Nat) × (Nat → Nat → Nat))} {fd : Nat} {tp : Nat → Nat} {wr : Nat} {pp : Nat → Int32} {sz : Nat → Nat} {ce : Nat → Int64} {an ao ab am : Nat} {ad ac : Nat → Nat} {ap : Nat → Nat → Nat} {hX : List z_E} (h : y_CI n outs bm ms dr cn pl I fd tp wr pp sz ce hX) (hI0 : I = (some (an, ao, ab, am, ad, ac, ap))) : z_CAL 2 90 [.ref 0] hX (fun r h2 => r = some (.int (nI ab)) ∧ y_CI an ao ab am ad ac ap I fd tp wr pp sz ce h2) := by
  refine y_CI_el (C := fun hX => z_CAL 2 90 [.ref 0] hX (fun r h2 => r = some (.int (nI ab)) ∧ y_CI an ao ab am ad ac ap I fd tp wr pp sz ce h2)) h ?_
  intro ik kn ko kb km kd kc kpl p_rankings p_counts p_draw p_fors k_rankings k_counts k_draw k_fors d_size d_outs d_rule d_filled d_rankings d_counts d_draw d_fors w_size w_ins w_rule w_steps w_fors w_draw w_links w_best w_beaters w_distances w_route t_bytes t_next t_ranking t_count l_cells l_sizes s_bytes hfd hwr hik hIm hI hkI htp hz hsb hlc
  have hn8 := hI.1.2
  refine z_CAL_mono ?_ (c_X5_undo 0 hI hik hkI)
  rintro r h2 ⟨n2, o2, m2, b2, pR2, pC2, pD2, pF2, v, rfl, rfl, q⟩
  rcases hIm with ⟨-, e1⟩ | ⟨e0, e1⟩
  · exact absurd (e1.symm.trans hI0) (by simp)
  · cases Option.some.inj (hI0.symm.trans e1)
    rcases q with ⟨e2, -⟩ | ⟨-, hv, rfl, rfl, rfl, rfl, hP⟩
    · omega
    · exact ⟨congrArg (fun z => some (Value.int z)) hv, (y_CI_mk hfd hwr hik (Or.inr ⟨e0, hI0⟩) hP hkI htp hz hsb hlc)⟩
theorem m_begin {n : Nat} {outs : Nat} {bm : Nat} {ms : Nat} {dr : Nat → Nat} {cn : Nat → Nat} {pl : Nat → Nat → Nat} {I : Option (Nat × Nat × Nat × Nat × (Nat → Nat) × (Nat → Nat) × (Nat → Nat → Nat))} {fd : Nat} {tp : Nat → Nat} {wr : Nat} {pp : Nat → Int32} {sz : Nat → Nat} {ce : Nat → Int64} {k : Nat} {hX : List z_E} (h : y_CI n outs bm ms dr cn pl I fd tp wr pp sz ce hX) (hk1 : 2 ≤ k) (hk2 : k ≤ 8) : z_CAL 3 66 [.ref 0, .int (nI k)] hX (fun r h2 => r = some (.int (nI n)) ∧ y_CI k 0 0 ms (fun k => k) cn pl I fd tp wr pp sz ce h2) := by
  refine y_CI_el (C := fun hX => z_CAL 3 66 [.ref 0, .int (nI k)] hX (fun r h2 => r = some (.int (nI n)) ∧ y_CI k 0 0 ms (fun k => k) cn pl I fd tp wr pp sz ce h2)) h ?_
  intro ik kn ko kb km kd kc kpl p_rankings p_counts p_draw p_fors k_rankings k_counts k_draw k_fors d_size d_outs d_rule d_filled d_rankings d_counts d_draw d_fors w_size w_ins w_rule w_steps w_fors w_draw w_links w_best w_beaters w_distances w_route t_bytes t_next t_ranking t_count l_cells l_sizes s_bytes hfd hwr hik hIm hI hkI htp hz hsb hlc
  have hn8 := hI.1.2
  refine z_CAL_mono ?_ (c_X5_begin 0 hI)
  rintro r h2 ⟨n2, o2, b2, d2, f2, v, rfl, rfl, q⟩
  rcases q with ⟨x0, -⟩ | ⟨k2, x1, x2, x3, hv, rfl, rfl, rfl, x8⟩
  · exact absurd ⟨k, hk1, hk2, rfl⟩ x0
  · obtain rfl : k = n2 := z_nIj (by omega) (by omega) x3
    exact ⟨congrArg (fun z => some (Value.int z)) hv, (y_CI_mk hfd hwr hik hIm (x8 cn pl) hkI htp hz hsb hlc)⟩
theorem m_beginB {n : Nat} {outs : Nat} {bm : Nat} {ms : Nat} {dr : Nat → Nat} {cn : Nat → Nat} {pl : Nat → Nat → Nat} {I : Option (Nat × Nat × Nat × Nat × (Nat → Nat) × (Nat → Nat) × (Nat → Nat → Nat))} {fd : Nat} {tp : Nat → Nat} {wr : Nat} {pp : Nat → Int32} {sz : Nat → Nat} {ce : Nat → Int64} {k : Nat} {hX : List z_E} (h : y_CI n outs bm ms dr cn pl I fd tp wr pp sz ce hX) (hk : k < 2 ∨ 8 < k) (hk3 : k < 1000) : z_CAL 3 66 [.ref 0, .int (nI k)] hX (fun r h2 => r = some (.int (-nI 2)) ∧ y_CI n outs bm ms dr cn pl I fd tp wr pp sz ce h2) := by
  refine y_CI_el (C := fun hX => z_CAL 3 66 [.ref 0, .int (nI k)] hX (fun r h2 => r = some (.int (-nI 2)) ∧ y_CI n outs bm ms dr cn pl I fd tp wr pp sz ce h2)) h ?_
  intro ik kn ko kb km kd kc kpl p_rankings p_counts p_draw p_fors k_rankings k_counts k_draw k_fors d_size d_outs d_rule d_filled d_rankings d_counts d_draw d_fors w_size w_ins w_rule w_steps w_fors w_draw w_links w_best w_beaters w_distances w_route t_bytes t_next t_ranking t_count l_cells l_sizes s_bytes hfd hwr hik hIm hI hkI htp hz hsb hlc
  have hn8 := hI.1.2
  refine z_CAL_mono ?_ (c_X5_begin 0 hI)
  rintro r h2 ⟨n2, o2, b2, d2, f2, v, rfl, rfl, q⟩
  rcases q with ⟨-, hv, rfl, rfl, rfl, rfl, rfl⟩ | ⟨k2, x1, x2, x3, -⟩
  · exact ⟨congrArg (fun z => some (Value.int z)) hv, (y_CI_mk hfd hwr hik hIm hI hkI htp hz hsb hlc)⟩
  · obtain rfl : k = k2 := z_nIj (by omega) (by omega) x3
    omega
theorem m_told0 {n : Nat} {outs : Nat} {bm : Nat} {ms : Nat} {dr : Nat → Nat} {cn : Nat → Nat} {pl : Nat → Nat → Nat} {I : Option (Nat × Nat × Nat × Nat × (Nat → Nat) × (Nat → Nat) × (Nat → Nat → Nat))} {fd : Nat} {tp : Nat → Nat} {wr : Nat} {pp : Nat → Int32} {sz : Nat → Nat} {ce : Nat → Int64}  {hX : List z_E} (h : y_CI n outs bm ms dr cn pl I fd tp wr pp sz ce hX) : z_CAL 5 85 [.ref 0, .int (nI 0)] hX (fun r h2 => r = some (.int (nI n)) ∧ y_CI n outs bm ms dr cn pl I fd tp wr pp sz ce h2) := by
  refine y_CI_el (C := fun hX => z_CAL 5 85 [.ref 0, .int (nI 0)] hX (fun r h2 => r = some (.int (nI n)) ∧ y_CI n outs bm ms dr cn pl I fd tp wr pp sz ce h2)) h ?_
  intro ik kn ko kb km kd kc kpl p_rankings p_counts p_draw p_fors k_rankings k_counts k_draw k_fors d_size d_outs d_rule d_filled d_rankings d_counts d_draw d_fors w_size w_ins w_rule w_steps w_fors w_draw w_links w_best w_beaters w_distances w_route t_bytes t_next t_ranking t_count l_cells l_sizes s_bytes hfd hwr hik hIm hI hkI htp hz hsb hlc
  have hn8 := hI.1.2
  refine z_CAL_mono ?_ (c_X5_told 0 hI)
  rintro r h2 ⟨ws2, wi2, wr2, wst2, wf2, wd2, wl2, wb2, wt2, v, rfl, rfl, q⟩
  obtain hv : v = nI n := by
    rcases q with q | q | q | q | q | q | q | q | q | q
    all_goals first | exact absurd q.1 (by decide) | exact q.2
  exact ⟨congrArg (fun z => some (Value.int z)) hv, (y_CI_mk hfd hwr hik hIm hI hkI htp hz hsb hlc)⟩
theorem m_told1 {n : Nat} {outs : Nat} {bm : Nat} {ms : Nat} {dr : Nat → Nat} {cn : Nat → Nat} {pl : Nat → Nat → Nat} {I : Option (Nat × Nat × Nat × Nat × (Nat → Nat) × (Nat → Nat) × (Nat → Nat → Nat))} {fd : Nat} {tp : Nat → Nat} {wr : Nat} {pp : Nat → Int32} {sz : Nat → Nat} {ce : Nat → Int64}  {hX : List z_E} (h : y_CI n outs bm ms dr cn pl I fd tp wr pp sz ce hX) : z_CAL 5 85 [.ref 0, .int (nI 1)] hX (fun r h2 => r = some (.int (nI bm)) ∧ y_CI n outs bm ms dr cn pl I fd tp wr pp sz ce h2) := by
  refine y_CI_el (C := fun hX => z_CAL 5 85 [.ref 0, .int (nI 1)] hX (fun r h2 => r = some (.int (nI bm)) ∧ y_CI n outs bm ms dr cn pl I fd tp wr pp sz ce h2)) h ?_
  intro ik kn ko kb km kd kc kpl p_rankings p_counts p_draw p_fors k_rankings k_counts k_draw k_fors d_size d_outs d_rule d_filled d_rankings d_counts d_draw d_fors w_size w_ins w_rule w_steps w_fors w_draw w_links w_best w_beaters w_distances w_route t_bytes t_next t_ranking t_count l_cells l_sizes s_bytes hfd hwr hik hIm hI hkI htp hz hsb hlc
  have hn8 := hI.1.2
  refine z_CAL_mono ?_ (c_X5_told 0 hI)
  rintro r h2 ⟨ws2, wi2, wr2, wst2, wf2, wd2, wl2, wb2, wt2, v, rfl, rfl, q⟩
  obtain hv : v = nI bm := by
    rcases q with q | q | q | q | q | q | q | q | q | q
    all_goals first | exact absurd q.1 (by decide) | exact q.2
  exact ⟨congrArg (fun z => some (Value.int z)) hv, (y_CI_mk hfd hwr hik hIm hI hkI htp hz hsb hlc)⟩
theorem m_told2 {n : Nat} {outs : Nat} {bm : Nat} {ms : Nat} {dr : Nat → Nat} {cn : Nat → Nat} {pl : Nat → Nat → Nat} {I : Option (Nat × Nat × Nat × Nat × (Nat → Nat) × (Nat → Nat) × (Nat → Nat → Nat))} {fd : Nat} {tp : Nat → Nat} {wr : Nat} {pp : Nat → Int32} {sz : Nat → Nat} {ce : Nat → Int64}  {hX : List z_E} (h : y_CI n outs bm ms dr cn pl I fd tp wr pp sz ce hX) : z_CAL 5 85 [.ref 0, .int (nI 2)] hX (fun r h2 => r = some (.int (nI (z_sum bm cn))) ∧ y_CI n outs bm ms dr cn pl I fd tp wr pp sz ce h2) := by
  refine y_CI_el (C := fun hX => z_CAL 5 85 [.ref 0, .int (nI 2)] hX (fun r h2 => r = some (.int (nI (z_sum bm cn))) ∧ y_CI n outs bm ms dr cn pl I fd tp wr pp sz ce h2)) h ?_
  intro ik kn ko kb km kd kc kpl p_rankings p_counts p_draw p_fors k_rankings k_counts k_draw k_fors d_size d_outs d_rule d_filled d_rankings d_counts d_draw d_fors w_size w_ins w_rule w_steps w_fors w_draw w_links w_best w_beaters w_distances w_route t_bytes t_next t_ranking t_count l_cells l_sizes s_bytes hfd hwr hik hIm hI hkI htp hz hsb hlc
  have hn8 := hI.1.2
  refine z_CAL_mono ?_ (c_X5_told 0 hI)
  rintro r h2 ⟨ws2, wi2, wr2, wst2, wf2, wd2, wl2, wb2, wt2, v, rfl, rfl, q⟩
  obtain hv : v = nI (z_sum bm cn) := by
    rcases q with q | q | q | q | q | q | q | q | q | q
    all_goals first | exact absurd q.1 (by decide) | exact q.2
  exact ⟨congrArg (fun z => some (Value.int z)) hv, (y_CI_mk hfd hwr hik hIm hI hkI htp hz hsb hlc)⟩
theorem m_told3 {n : Nat} {outs : Nat} {bm : Nat} {ms : Nat} {dr : Nat → Nat} {cn : Nat → Nat} {pl : Nat → Nat → Nat} {I : Option (Nat × Nat × Nat × Nat × (Nat → Nat) × (Nat → Nat) × (Nat → Nat → Nat))} {fd : Nat} {tp : Nat → Nat} {wr : Nat} {pp : Nat → Int32} {sz : Nat → Nat} {ce : Nat → Int64}  {hX : List z_E} (h : y_CI n outs bm ms dr cn pl I fd tp wr pp sz ce hX) : z_CAL 5 85 [.ref 0, .int (nI 3)] hX (fun r h2 => r = some (.int (nI outs)) ∧ y_CI n outs bm ms dr cn pl I fd tp wr pp sz ce h2) := by
  refine y_CI_el (C := fun hX => z_CAL 5 85 [.ref 0, .int (nI 3)] hX (fun r h2 => r = some (.int (nI outs)) ∧ y_CI n outs bm ms dr cn pl I fd tp wr pp sz ce h2)) h ?_
  intro ik kn ko kb km kd kc kpl p_rankings p_counts p_draw p_fors k_rankings k_counts k_draw k_fors d_size d_outs d_rule d_filled d_rankings d_counts d_draw d_fors w_size w_ins w_rule w_steps w_fors w_draw w_links w_best w_beaters w_distances w_route t_bytes t_next t_ranking t_count l_cells l_sizes s_bytes hfd hwr hik hIm hI hkI htp hz hsb hlc
  have hn8 := hI.1.2
  refine z_CAL_mono ?_ (c_X5_told 0 hI)
  rintro r h2 ⟨ws2, wi2, wr2, wst2, wf2, wd2, wl2, wb2, wt2, v, rfl, rfl, q⟩
  obtain hv : v = nI outs := by
    rcases q with q | q | q | q | q | q | q | q | q | q
    all_goals first | exact absurd q.1 (by decide) | exact q.2
  exact ⟨congrArg (fun z => some (Value.int z)) hv, (y_CI_mk hfd hwr hik hIm hI hkI htp hz hsb hlc)⟩
theorem m_told4 {n : Nat} {outs : Nat} {bm : Nat} {ms : Nat} {dr : Nat → Nat} {cn : Nat → Nat} {pl : Nat → Nat → Nat} {I : Option (Nat × Nat × Nat × Nat × (Nat → Nat) × (Nat → Nat) × (Nat → Nat → Nat))} {fd : Nat} {tp : Nat → Nat} {wr : Nat} {pp : Nat → Int32} {sz : Nat → Nat} {ce : Nat → Int64}  {hX : List z_E} (h : y_CI n outs bm ms dr cn pl I fd tp wr pp sz ce hX) : z_CAL 5 85 [.ref 0, .int (nI 4)] hX (fun r h2 => r = some (.int (nI ms)) ∧ y_CI n outs bm ms dr cn pl I fd tp wr pp sz ce h2) := by
  refine y_CI_el (C := fun hX => z_CAL 5 85 [.ref 0, .int (nI 4)] hX (fun r h2 => r = some (.int (nI ms)) ∧ y_CI n outs bm ms dr cn pl I fd tp wr pp sz ce h2)) h ?_
  intro ik kn ko kb km kd kc kpl p_rankings p_counts p_draw p_fors k_rankings k_counts k_draw k_fors d_size d_outs d_rule d_filled d_rankings d_counts d_draw d_fors w_size w_ins w_rule w_steps w_fors w_draw w_links w_best w_beaters w_distances w_route t_bytes t_next t_ranking t_count l_cells l_sizes s_bytes hfd hwr hik hIm hI hkI htp hz hsb hlc
  have hn8 := hI.1.2
  refine z_CAL_mono ?_ (c_X5_told 0 hI)
  rintro r h2 ⟨ws2, wi2, wr2, wst2, wf2, wd2, wl2, wb2, wt2, v, rfl, rfl, q⟩
  obtain hv : v = nI ms := by
    rcases q with q | q | q | q | q | q | q | q | q | q
    all_goals first | exact absurd q.1 (by decide) | exact q.2
  exact ⟨congrArg (fun z => some (Value.int z)) hv, (y_CI_mk hfd hwr hik hIm hI hkI htp hz hsb hlc)⟩
theorem m_told5 {n : Nat} {outs : Nat} {bm : Nat} {ms : Nat} {dr : Nat → Nat} {cn : Nat → Nat} {pl : Nat → Nat → Nat} {I : Option (Nat × Nat × Nat × Nat × (Nat → Nat) × (Nat → Nat) × (Nat → Nat → Nat))} {fd : Nat} {tp : Nat → Nat} {wr : Nat} {pp : Nat → Int32} {sz : Nat → Nat} {ce : Nat → Int64}  {hX : List z_E} (h : y_CI n outs bm ms dr cn pl I fd tp wr pp sz ce hX) : z_CAL 5 85 [.ref 0, .int (nI 5)] hX (fun r h2 => r = some (.int (nI fd)) ∧ y_CI n outs bm ms dr cn pl I fd tp wr pp sz ce h2) := by
  refine y_CI_el (C := fun hX => z_CAL 5 85 [.ref 0, .int (nI 5)] hX (fun r h2 => r = some (.int (nI fd)) ∧ y_CI n outs bm ms dr cn pl I fd tp wr pp sz ce h2)) h ?_
  intro ik kn ko kb km kd kc kpl p_rankings p_counts p_draw p_fors k_rankings k_counts k_draw k_fors d_size d_outs d_rule d_filled d_rankings d_counts d_draw d_fors w_size w_ins w_rule w_steps w_fors w_draw w_links w_best w_beaters w_distances w_route t_bytes t_next t_ranking t_count l_cells l_sizes s_bytes hfd hwr hik hIm hI hkI htp hz hsb hlc
  have hn8 := hI.1.2
  refine z_CAL_mono ?_ (c_X5_told 0 hI)
  rintro r h2 ⟨ws2, wi2, wr2, wst2, wf2, wd2, wl2, wb2, wt2, v, rfl, rfl, q⟩
  obtain hv : v = nI fd := by
    rcases q with q | q | q | q | q | q | q | q | q | q
    all_goals first | exact absurd q.1 (by decide) | exact q.2
  exact ⟨congrArg (fun z => some (Value.int z)) hv, (y_CI_mk hfd hwr hik hIm hI hkI htp hz hsb hlc)⟩
theorem m_told6 {n : Nat} {outs : Nat} {bm : Nat} {ms : Nat} {dr : Nat → Nat} {cn : Nat → Nat} {pl : Nat → Nat → Nat} {I : Option (Nat × Nat × Nat × Nat × (Nat → Nat) × (Nat → Nat) × (Nat → Nat → Nat))} {fd : Nat} {tp : Nat → Nat} {wr : Nat} {pp : Nat → Int32} {sz : Nat → Nat} {ce : Nat → Int64}  {hX : List z_E} (h : y_CI n outs bm ms dr cn pl I fd tp wr pp sz ce hX) : z_CAL 5 85 [.ref 0, .int (nI 6)] hX (fun r h2 => r = some (.int (nI wr)) ∧ y_CI n outs bm ms dr cn pl I fd tp wr pp sz ce h2) := by
  refine y_CI_el (C := fun hX => z_CAL 5 85 [.ref 0, .int (nI 6)] hX (fun r h2 => r = some (.int (nI wr)) ∧ y_CI n outs bm ms dr cn pl I fd tp wr pp sz ce h2)) h ?_
  intro ik kn ko kb km kd kc kpl p_rankings p_counts p_draw p_fors k_rankings k_counts k_draw k_fors d_size d_outs d_rule d_filled d_rankings d_counts d_draw d_fors w_size w_ins w_rule w_steps w_fors w_draw w_links w_best w_beaters w_distances w_route t_bytes t_next t_ranking t_count l_cells l_sizes s_bytes hfd hwr hik hIm hI hkI htp hz hsb hlc
  have hn8 := hI.1.2
  refine z_CAL_mono ?_ (c_X5_told 0 hI)
  rintro r h2 ⟨ws2, wi2, wr2, wst2, wf2, wd2, wl2, wb2, wt2, v, rfl, rfl, q⟩
  obtain hv : v = nI wr := by
    rcases q with q | q | q | q | q | q | q | q | q | q
    all_goals first | exact absurd q.1 (by decide) | exact q.2
  exact ⟨congrArg (fun z => some (Value.int z)) hv, (y_CI_mk hfd hwr hik hIm hI hkI htp hz hsb hlc)⟩
theorem m_told9 {n : Nat} {outs : Nat} {bm : Nat} {ms : Nat} {dr : Nat → Nat} {cn : Nat → Nat} {pl : Nat → Nat → Nat} {I : Option (Nat × Nat × Nat × Nat × (Nat → Nat) × (Nat → Nat) × (Nat → Nat → Nat))} {fd : Nat} {tp : Nat → Nat} {wr : Nat} {pp : Nat → Int32} {sz : Nat → Nat} {ce : Nat → Int64}  {hX : List z_E} (h : y_CI n outs bm ms dr cn pl I fd tp wr pp sz ce hX) : z_CAL 5 85 [.ref 0, .int (nI 9)] hX (fun r h2 => r = some (.int (-nI 1)) ∧ y_CI n outs bm ms dr cn pl I fd tp wr pp sz ce h2) := by
  refine y_CI_el (C := fun hX => z_CAL 5 85 [.ref 0, .int (nI 9)] hX (fun r h2 => r = some (.int (-nI 1)) ∧ y_CI n outs bm ms dr cn pl I fd tp wr pp sz ce h2)) h ?_
  intro ik kn ko kb km kd kc kpl p_rankings p_counts p_draw p_fors k_rankings k_counts k_draw k_fors d_size d_outs d_rule d_filled d_rankings d_counts d_draw d_fors w_size w_ins w_rule w_steps w_fors w_draw w_links w_best w_beaters w_distances w_route t_bytes t_next t_ranking t_count l_cells l_sizes s_bytes hfd hwr hik hIm hI hkI htp hz hsb hlc
  have hn8 := hI.1.2
  refine z_CAL_mono ?_ (c_X5_told 0 hI)
  rintro r h2 ⟨ws2, wi2, wr2, wst2, wf2, wd2, wl2, wb2, wt2, v, rfl, rfl, q⟩
  obtain hv : v = -nI 1 := by
    rcases q with q | q | q | q | q | q | q | q | q | q
    all_goals first | exact absurd q.1 (by decide) | exact q.2
  exact ⟨congrArg (fun z => some (Value.int z)) hv, (y_CI_mk hfd hwr hik hIm hI hkI htp hz hsb hlc)⟩
theorem m_ranked {n : Nat} {outs : Nat} {bm : Nat} {ms : Nat} {dr : Nat → Nat} {cn : Nat → Nat} {pl : Nat → Nat → Nat} {I : Option (Nat × Nat × Nat × Nat × (Nat → Nat) × (Nat → Nat) × (Nat → Nat → Nat))} {fd : Nat} {tp : Nat → Nat} {wr : Nat} {pp : Nat → Int32} {sz : Nat → Nat} {ce : Nat → Int64} {k : Nat} {hX : List z_E} (h : y_CI n outs bm ms dr cn pl I fd tp wr pp sz ce hX) (h0 : outs = 0) (hb0 : bm = 0) (hdr : dr = fun k => k) (hk : k < n) : z_CAL 5 80 [.ref 0, .int (nI k)] hX (fun r h2 => r = some (.int (nI k)) ∧ y_CI n outs bm ms dr cn pl I fd tp wr pp sz ce h2) := by
  refine y_CI_el (C := fun hX => z_CAL 5 80 [.ref 0, .int (nI k)] hX (fun r h2 => r = some (.int (nI k)) ∧ y_CI n outs bm ms dr cn pl I fd tp wr pp sz ce h2)) h ?_
  intro ik kn ko kb km kd kc kpl p_rankings p_counts p_draw p_fors k_rankings k_counts k_draw k_fors d_size d_outs d_rule d_filled d_rankings d_counts d_draw d_fors w_size w_ins w_rule w_steps w_fors w_draw w_links w_best w_beaters w_distances w_route t_bytes t_next t_ranking t_count l_cells l_sizes s_bytes hfd hwr hik hIm hI hkI htp hz hsb hlc
  have hn8 := hI.1.2
  subst h0 hb0 hdr
  refine z_CAL_mono ?_ (c_X5_ranked 0 hI)
  rintro r h2 ⟨ws2, wi2, wr2, wst2, wf2, wd2, wl2, wb2, wt2, v, rfl, rfl, q⟩
  rcases q with ⟨x0, -⟩ | ⟨w, K, x1, x2, x3, x4⟩
  · exact absurd ⟨k, by rw [y_pc_all hn8]; exact hk, rfl⟩ x0
  · obtain rfl : k = w := by
      rw [y_pc_all hn8] at x1
      exact z_nIj (by omega) (by omega) x2
    have hv : v = nI k := x4.trans (congrArg nI (y_rank0 hI.1.2 x3 hk))
    exact ⟨congrArg (fun z => some (Value.int z)) hv, (y_CI_mk hfd hwr hik hIm hI hkI htp hz hsb hlc)⟩
theorem m_feed {n : Nat} {outs : Nat} {bm : Nat} {ms : Nat} {dr : Nat → Nat} {cn : Nat → Nat} {pl : Nat → Nat → Nat} {I : Option (Nat × Nat × Nat × Nat × (Nat → Nat) × (Nat → Nat) × (Nat → Nat → Nat))} {fd : Nat} {tp : Nat → Nat} {wr : Nat} {pp : Nat → Int32} {sz : Nat → Nat} {ce : Nat → Int64} {k : Nat} {hX : List z_E} (h : y_CI n outs bm ms dr cn pl I fd tp wr pp sz ce hX) (hk1 : 1 ≤ k) (hk2 : k ≤ 127) (hfd : fd < 120) : z_CAL 2 72 [.ref 0, .int (nI k)] hX (fun r h2 => r = some (.int (nI (fd + 1))) ∧ y_CI n outs bm ms dr cn pl I (fd + 1) (fun j => if j = fd then k else tp j) wr pp sz ce h2) := by
  refine y_CI_el (C := fun hX => z_CAL 2 72 [.ref 0, .int (nI k)] hX (fun r h2 => r = some (.int (nI (fd + 1))) ∧ y_CI n outs bm ms dr cn pl I (fd + 1) (fun j => if j = fd then k else tp j) wr pp sz ce h2)) h ?_
  intro ik kn ko kb km kd kc kpl p_rankings p_counts p_draw p_fors k_rankings k_counts k_draw k_fors d_size d_outs d_rule d_filled d_rankings d_counts d_draw d_fors w_size w_ins w_rule w_steps w_fors w_draw w_links w_best w_beaters w_distances w_route t_bytes t_next t_ranking t_count l_cells l_sizes s_bytes hfd hwr hik hIm hI hkI htp hz hsb hlc
  have hn8 := hI.1.2
  refine z_CAL_mono ?_ (c_X5_feed 0 hI hfd)
  rintro r h2 ⟨tb2, fd2, v, rfl, rfl, q⟩
  obtain ⟨g1, g2⟩ := q
  rcases g2 with ⟨x0, -⟩ | ⟨k2, x1, x2, x3, ⟨y1, -⟩ | ⟨y1, rfl, hv, rfl⟩⟩
  · exact absurd ⟨k, hk1, hk2, rfl⟩ x0
  · omega
  · obtain rfl : k = k2 := z_nIj (by omega) (by omega) x3
    exact ⟨congrArg (fun z => some (Value.int z)) hv, (y_CI_mk (by omega) hwr hik hIm hI hkI (y_TB_push htp hk1 hk2) hz hsb hlc)⟩
theorem m_feedB {n : Nat} {outs : Nat} {bm : Nat} {ms : Nat} {dr : Nat → Nat} {cn : Nat → Nat} {pl : Nat → Nat → Nat} {I : Option (Nat × Nat × Nat × Nat × (Nat → Nat) × (Nat → Nat) × (Nat → Nat → Nat))} {fd : Nat} {tp : Nat → Nat} {wr : Nat} {pp : Nat → Int32} {sz : Nat → Nat} {ce : Nat → Int64} {k : Nat} {hX : List z_E} (h : y_CI n outs bm ms dr cn pl I fd tp wr pp sz ce hX) (hk : k < 1 ∨ 127 < k) (hk3 : k < 1000) : z_CAL 2 72 [.ref 0, .int (nI k)] hX (fun r h2 => r = some (.int (-nI 2)) ∧ y_CI n outs bm ms dr cn pl I fd tp wr pp sz ce h2) := by
  refine y_CI_el (C := fun hX => z_CAL 2 72 [.ref 0, .int (nI k)] hX (fun r h2 => r = some (.int (-nI 2)) ∧ y_CI n outs bm ms dr cn pl I fd tp wr pp sz ce h2)) h ?_
  intro ik kn ko kb km kd kc kpl p_rankings p_counts p_draw p_fors k_rankings k_counts k_draw k_fors d_size d_outs d_rule d_filled d_rankings d_counts d_draw d_fors w_size w_ins w_rule w_steps w_fors w_draw w_links w_best w_beaters w_distances w_route t_bytes t_next t_ranking t_count l_cells l_sizes s_bytes hfd hwr hik hIm hI hkI htp hz hsb hlc
  have hn8 := hI.1.2
  refine z_CAL_mono ?_ (c_X5_feed 0 hI hfd)
  rintro r h2 ⟨tb2, fd2, v, rfl, rfl, q⟩
  obtain ⟨g1, g2⟩ := q
  rcases g2 with ⟨-, hv, rfl, rfl⟩ | ⟨k2, x1, x2, x3, -⟩
  · exact ⟨congrArg (fun z => some (Value.int z)) hv, (y_CI_mk hfd hwr hik hIm hI hkI htp hz hsb hlc)⟩
  · obtain rfl : k = k2 := z_nIj (by omega) (by omega) x3
    omega
theorem m_ballotsF {n : Nat} {outs : Nat} {bm : Nat} {ms : Nat} {dr : Nat → Nat} {cn : Nat → Nat} {pl : Nat → Nat → Nat} {I : Option (Nat × Nat × Nat × Nat × (Nat → Nat) × (Nat → Nat) × (Nat → Nat → Nat))} {fd : Nat} {tp : Nat → Nat} {wr : Nat} {pp : Nat → Int32} {sz : Nat → Nat} {ce : Nat → Int64} {f ft : Nat} {hX : List z_E} (h : y_CI n outs bm ms dr cn pl I fd tp wr pp sz ce hX) (hp : z_pts n tp fd f 0 0 bm cn pl (.inl ft)) : z_CAL 5 73 [.ref 0] hX (fun r h2 => r = some (.int (-nI 100 - nI ft)) ∧ y_CI n outs bm ms dr cn pl I 0 tp wr pp sz ce h2) := by
  refine y_CI_el (C := fun hX => z_CAL 5 73 [.ref 0] hX (fun r h2 => r = some (.int (-nI 100 - nI ft)) ∧ y_CI n outs bm ms dr cn pl I 0 tp wr pp sz ce h2)) h ?_
  intro ik kn ko kb km kd kc kpl p_rankings p_counts p_draw p_fors k_rankings k_counts k_draw k_fors d_size d_outs d_rule d_filled d_rankings d_counts d_draw d_fors w_size w_ins w_rule w_steps w_fors w_draw w_links w_best w_beaters w_distances w_route t_bytes t_next t_ranking t_count l_cells l_sizes s_bytes hfd hwr hik hIm hI hkI htp hz hsb hlc
  have hn8 := hI.1.2
  refine z_CAL_mono ?_ (c_X5_ballots 0 hI hfd htp)
  rintro r h2 ⟨db2, dR2, dC2, dD2, dF2, nx2, rk2, ct2, b3, pR2, pC2, pD2, pF2, v, rfl, rfl, q⟩
  obtain ⟨R, ⟨f2, g1⟩, g2⟩ := q
  obtain rfl := z_pts_det g1 hp
  rcases g2 with ⟨ft2, x1, x2, hv, rfl, x5⟩ | ⟨k, bm4, cn4, pl4, x1, -⟩
  · cases x1
    exact ⟨congrArg (fun z => some (Value.int z)) hv, (y_CI_mk (Nat.zero_le _) hwr hik hIm x5 hkI y_TB_0 hz hsb hlc)⟩
  · cases x1
theorem m_ballotsT {n : Nat} {outs : Nat} {bm : Nat} {ms : Nat} {dr : Nat → Nat} {cn : Nat → Nat} {pl : Nat → Nat → Nat} {I : Option (Nat × Nat × Nat × Nat × (Nat → Nat) × (Nat → Nat) × (Nat → Nat → Nat))} {fd : Nat} {tp : Nat → Nat} {wr : Nat} {pp : Nat → Int32} {sz : Nat → Nat} {ce : Nat → Int64} {f k bm4 : Nat} {cn4 : Nat → Nat} {pl4 : Nat → Nat → Nat} {hX : List z_E} (h : y_CI n outs bm ms dr cn pl I fd tp wr pp sz ce hX) (hp : z_pts n tp fd f 0 0 bm cn pl (.inr (k, bm4, cn4, pl4))) : z_CAL 5 73 [.ref 0] hX (fun r h2 => r = some (.int (nI k)) ∧ y_CI n outs bm4 ms dr cn4 pl4 I 0 tp wr pp sz ce h2) := by
  refine y_CI_el (C := fun hX => z_CAL 5 73 [.ref 0] hX (fun r h2 => r = some (.int (nI k)) ∧ y_CI n outs bm4 ms dr cn4 pl4 I 0 tp wr pp sz ce h2)) h ?_
  intro ik kn ko kb km kd kc kpl p_rankings p_counts p_draw p_fors k_rankings k_counts k_draw k_fors d_size d_outs d_rule d_filled d_rankings d_counts d_draw d_fors w_size w_ins w_rule w_steps w_fors w_draw w_links w_best w_beaters w_distances w_route t_bytes t_next t_ranking t_count l_cells l_sizes s_bytes hfd hwr hik hIm hI hkI htp hz hsb hlc
  have hn8 := hI.1.2
  refine z_CAL_mono ?_ (c_X5_ballots 0 hI hfd htp)
  rintro r h2 ⟨db2, dR2, dC2, dD2, dF2, nx2, rk2, ct2, b3, pR2, pC2, pD2, pF2, v, rfl, rfl, q⟩
  obtain ⟨R, ⟨f2, g1⟩, g2⟩ := q
  obtain rfl := z_pts_det g1 hp
  rcases g2 with ⟨ft2, x1, -⟩ | ⟨k2, bm5, cn5, pl5, x1, hv, rfl, x4⟩
  · cases x1
  · cases x1
    exact ⟨congrArg (fun z => some (Value.int z)) hv, (y_CI_mk (Nat.zero_le _) hwr hik hIm x4 hkI y_TB_0 hz hsb hlc)⟩
theorem m_ballot0 {n : Nat} {outs : Nat} {bm : Nat} {ms : Nat} {dr : Nat → Nat} {cn : Nat → Nat} {pl : Nat → Nat → Nat} {I : Option (Nat × Nat × Nat × Nat × (Nat → Nat) × (Nat → Nat) × (Nat → Nat → Nat))} {fd : Nat} {tp : Nat → Nat} {wr : Nat} {pp : Nat → Int32} {sz : Nat → Nat} {ce : Nat → Int64} {b : Nat} {hX : List z_E} (h : y_CI n outs bm ms dr cn pl I fd tp wr pp sz ce hX) (hb : b < bm) : z_CAL 3 75 [.ref 0, .int (nI b), .int (nI 0)] hX (fun r h2 => r = some (.int (nI (cn b))) ∧ y_CI n outs bm ms dr cn pl I fd tp wr pp sz ce h2) := by
  refine y_CI_el (C := fun hX => z_CAL 3 75 [.ref 0, .int (nI b), .int (nI 0)] hX (fun r h2 => r = some (.int (nI (cn b))) ∧ y_CI n outs bm ms dr cn pl I fd tp wr pp sz ce h2)) h ?_
  intro ik kn ko kb km kd kc kpl p_rankings p_counts p_draw p_fors k_rankings k_counts k_draw k_fors d_size d_outs d_rule d_filled d_rankings d_counts d_draw d_fors w_size w_ins w_rule w_steps w_fors w_draw w_links w_best w_beaters w_distances w_route t_bytes t_next t_ranking t_count l_cells l_sizes s_bytes hfd hwr hik hIm hI hkI htp hz hsb hlc
  have hn8 := hI.1.2
  refine z_CAL_mono ?_ (c_X5_ballot 0 hI)
  rintro r h2 ⟨v, rfl, rfl, q⟩
  have hb40 := hI.2.2.1
  rcases q with ⟨-, x0⟩ | ⟨k, w, x1, x2, x3, x4⟩
  · exact absurd ⟨b, _, hb, rfl, rfl, by omega⟩ x0
  · obtain rfl : b = k := z_nIj (by omega) (by omega) x2
    have e : 0 = w := z_nIj (by omega) (by omega) x3
    have hv : v = nI (cn b) := by
      rcases x4 with ⟨y1, y2⟩ | ⟨y1, y2⟩ | ⟨y1, y2, y3⟩
      all_goals first
        | (exfalso; omega)
        | exact y2
        | (rw [y3, ← e, Nat.add_sub_cancel_left])
    exact ⟨congrArg (fun z => some (Value.int z)) hv, (y_CI_mk hfd hwr hik hIm hI hkI htp hz hsb hlc)⟩
theorem m_ballot1 {n : Nat} {outs : Nat} {bm : Nat} {ms : Nat} {dr : Nat → Nat} {cn : Nat → Nat} {pl : Nat → Nat → Nat} {I : Option (Nat × Nat × Nat × Nat × (Nat → Nat) × (Nat → Nat) × (Nat → Nat → Nat))} {fd : Nat} {tp : Nat → Nat} {wr : Nat} {pp : Nat → Int32} {sz : Nat → Nat} {ce : Nat → Int64} {b : Nat} {hX : List z_E} (h : y_CI n outs bm ms dr cn pl I fd tp wr pp sz ce hX) (hb : b < bm) : z_CAL 3 75 [.ref 0, .int (nI b), .int (nI 1)] hX (fun r h2 => r = some (.int (nI (z_mx n (pl b) + 1))) ∧ y_CI n outs bm ms dr cn pl I fd tp wr pp sz ce h2) := by
  refine y_CI_el (C := fun hX => z_CAL 3 75 [.ref 0, .int (nI b), .int (nI 1)] hX (fun r h2 => r = some (.int (nI (z_mx n (pl b) + 1))) ∧ y_CI n outs bm ms dr cn pl I fd tp wr pp sz ce h2)) h ?_
  intro ik kn ko kb km kd kc kpl p_rankings p_counts p_draw p_fors k_rankings k_counts k_draw k_fors d_size d_outs d_rule d_filled d_rankings d_counts d_draw d_fors w_size w_ins w_rule w_steps w_fors w_draw w_links w_best w_beaters w_distances w_route t_bytes t_next t_ranking t_count l_cells l_sizes s_bytes hfd hwr hik hIm hI hkI htp hz hsb hlc
  have hn8 := hI.1.2
  refine z_CAL_mono ?_ (c_X5_ballot 0 hI)
  rintro r h2 ⟨v, rfl, rfl, q⟩
  have hb40 := hI.2.2.1
  rcases q with ⟨-, x0⟩ | ⟨k, w, x1, x2, x3, x4⟩
  · exact absurd ⟨b, _, hb, rfl, rfl, by omega⟩ x0
  · obtain rfl : b = k := z_nIj (by omega) (by omega) x2
    have e : 1 = w := z_nIj (by omega) (by omega) x3
    have hv : v = nI (z_mx n (pl b) + 1) := by
      rcases x4 with ⟨y1, y2⟩ | ⟨y1, y2⟩ | ⟨y1, y2, y3⟩
      all_goals first
        | (exfalso; omega)
        | exact y2
        | (rw [y3, ← e, Nat.add_sub_cancel_left])
    exact ⟨congrArg (fun z => some (Value.int z)) hv, (y_CI_mk hfd hwr hik hIm hI hkI htp hz hsb hlc)⟩
theorem m_ballotc {n : Nat} {outs : Nat} {bm : Nat} {ms : Nat} {dr : Nat → Nat} {cn : Nat → Nat} {pl : Nat → Nat → Nat} {I : Option (Nat × Nat × Nat × Nat × (Nat → Nat) × (Nat → Nat) × (Nat → Nat → Nat))} {fd : Nat} {tp : Nat → Nat} {wr : Nat} {pp : Nat → Int32} {sz : Nat → Nat} {ce : Nat → Int64} {b c : Nat} {hX : List z_E} (h : y_CI n outs bm ms dr cn pl I fd tp wr pp sz ce hX) (hb : b < bm) (hc : c < n) : z_CAL 3 75 [.ref 0, .int (nI b), .int (nI (10 + c))] hX (fun r h2 => r = some (.int (nI (pl b c))) ∧ y_CI n outs bm ms dr cn pl I fd tp wr pp sz ce h2) := by
  refine y_CI_el (C := fun hX => z_CAL 3 75 [.ref 0, .int (nI b), .int (nI (10 + c))] hX (fun r h2 => r = some (.int (nI (pl b c))) ∧ y_CI n outs bm ms dr cn pl I fd tp wr pp sz ce h2)) h ?_
  intro ik kn ko kb km kd kc kpl p_rankings p_counts p_draw p_fors k_rankings k_counts k_draw k_fors d_size d_outs d_rule d_filled d_rankings d_counts d_draw d_fors w_size w_ins w_rule w_steps w_fors w_draw w_links w_best w_beaters w_distances w_route t_bytes t_next t_ranking t_count l_cells l_sizes s_bytes hfd hwr hik hIm hI hkI htp hz hsb hlc
  have hn8 := hI.1.2
  refine z_CAL_mono ?_ (c_X5_ballot 0 hI)
  rintro r h2 ⟨v, rfl, rfl, q⟩
  have hb40 := hI.2.2.1
  rcases q with ⟨-, x0⟩ | ⟨k, w, x1, x2, x3, x4⟩
  · exact absurd ⟨b, _, hb, rfl, rfl, by omega⟩ x0
  · obtain rfl : b = k := z_nIj (by omega) (by omega) x2
    have e : (10 + c) = w := z_nIj (by omega) (by omega) x3
    have hv : v = nI (pl b c) := by
      rcases x4 with ⟨y1, y2⟩ | ⟨y1, y2⟩ | ⟨y1, y2, y3⟩
      all_goals first
        | (exfalso; omega)
        | exact y2
        | (rw [y3, ← e, Nat.add_sub_cancel_left])
    exact ⟨congrArg (fun z => some (Value.int z)) hv, (y_CI_mk hfd hwr hik hIm hI hkI htp hz hsb hlc)⟩
theorem m_ballotN {n : Nat} {outs : Nat} {bm : Nat} {ms : Nat} {dr : Nat → Nat} {cn : Nat → Nat} {pl : Nat → Nat → Nat} {I : Option (Nat × Nat × Nat × Nat × (Nat → Nat) × (Nat → Nat) × (Nat → Nat → Nat))} {fd : Nat} {tp : Nat → Nat} {wr : Nat} {pp : Nat → Int32} {sz : Nat → Nat} {ce : Nat → Int64} {b w : Nat} {hX : List z_E} (h : y_CI n outs bm ms dr cn pl I fd tp wr pp sz ce hX) (hb : b < 1000) (hw : w < 1000) (hN : ¬ (b < bm ∧ (w ≤ 1 ∨ (10 ≤ w ∧ w < 10 + n)))) : z_CAL 3 75 [.ref 0, .int (nI b), .int (nI w)] hX (fun r h2 => r = some (.int (-nI 1)) ∧ y_CI n outs bm ms dr cn pl I fd tp wr pp sz ce h2) := by
  refine y_CI_el (C := fun hX => z_CAL 3 75 [.ref 0, .int (nI b), .int (nI w)] hX (fun r h2 => r = some (.int (-nI 1)) ∧ y_CI n outs bm ms dr cn pl I fd tp wr pp sz ce h2)) h ?_
  intro ik kn ko kb km kd kc kpl p_rankings p_counts p_draw p_fors k_rankings k_counts k_draw k_fors d_size d_outs d_rule d_filled d_rankings d_counts d_draw d_fors w_size w_ins w_rule w_steps w_fors w_draw w_links w_best w_beaters w_distances w_route t_bytes t_next t_ranking t_count l_cells l_sizes s_bytes hfd hwr hik hIm hI hkI htp hz hsb hlc
  have hn8 := hI.1.2
  refine z_CAL_mono ?_ (c_X5_ballot 0 hI)
  rintro r h2 ⟨v, rfl, rfl, q⟩
  have hb40 := hI.2.2.1
  rcases q with ⟨hv, -⟩ | ⟨k, w2, x1, x2, x3, x4⟩
  · exact ⟨congrArg (fun z => some (Value.int z)) hv, (y_CI_mk hfd hwr hik hIm hI hkI htp hz hsb hlc)⟩
  · obtain rfl : b = k := z_nIj (by omega) (by omega) x2
    obtain rfl : w = w2 := z_nIj (by omega) (by omega) x3
    omega
theorem m_findF {n : Nat} {outs : Nat} {bm : Nat} {ms : Nat} {dr : Nat → Nat} {cn : Nat → Nat} {pl : Nat → Nat → Nat} {I : Option (Nat × Nat × Nat × Nat × (Nat → Nat) × (Nat → Nat) × (Nat → Nat → Nat))} {fd : Nat} {tp : Nat → Nat} {wr : Nat} {pp : Nat → Int32} {sz : Nat → Nat} {ce : Nat → Int64} {b : Bool} {p : Nat} {q0 : Nat → Nat} {hX : List z_E} (h : y_CI n outs bm ms dr cn pl I fd tp wr pp sz ce hX) (hp : z_rp n tp fd 8 0 0 (fun _ => 0) 0 = (b, p, q0)) (hb : b = false ∨ p ≠ fd) : z_CAL 5 76 [.ref 0] hX (fun r h2 => r = some (.int (-nI 100 - nI p)) ∧ y_CI n outs bm ms dr cn pl I 0 tp wr pp sz ce h2) := by
  refine y_CI_el (C := fun hX => z_CAL 5 76 [.ref 0] hX (fun r h2 => r = some (.int (-nI 100 - nI p)) ∧ y_CI n outs bm ms dr cn pl I 0 tp wr pp sz ce h2)) h ?_
  intro ik kn ko kb km kd kc kpl p_rankings p_counts p_draw p_fors k_rankings k_counts k_draw k_fors d_size d_outs d_rule d_filled d_rankings d_counts d_draw d_fors w_size w_ins w_rule w_steps w_fors w_draw w_links w_best w_beaters w_distances w_route t_bytes t_next t_ranking t_count l_cells l_sizes s_bytes hfd hwr hik hIm hI hkI htp hz hsb hlc
  have hn8 := hI.1.2
  refine z_CAL_mono ?_ (c_X5_find 0 hI hfd htp)
  rintro r h2 ⟨nx2, rk2, v, rfl, rfl, q⟩
  rcases q with ⟨b2, p2, q2, x1, x2, x3, hv⟩ | ⟨q2, x1, -⟩
  · cases x1.symm.trans hp
    exact ⟨congrArg (fun z => some (Value.int z)) hv, (y_CI_mk (Nat.zero_le _) hwr hik hIm hI hkI y_TB_0 hz hsb hlc)⟩
  · cases x1.symm.trans hp
    rcases hb with e | e
    · cases e
    · exact absurd rfl e
theorem m_findT {n : Nat} {outs : Nat} {bm : Nat} {ms : Nat} {dr : Nat → Nat} {cn : Nat → Nat} {pl : Nat → Nat → Nat} {I : Option (Nat × Nat × Nat × Nat × (Nat → Nat) × (Nat → Nat) × (Nat → Nat → Nat))} {fd : Nat} {tp : Nat → Nat} {wr : Nat} {pp : Nat → Int32} {sz : Nat → Nat} {ce : Nat → Int64} {b : Nat} {q0 : Nat → Nat} {hX : List z_E} (h : y_CI n outs bm ms dr cn pl I fd tp wr pp sz ce hX) (hp : z_rp n tp fd 8 0 0 (fun _ => 0) 0 = (true, fd, q0)) (hb1 : b < bm) (hb2 : z_same n pl q0 b) (hb3 : ∀ x, x < b → ¬ z_same n pl q0 x) : z_CAL 5 76 [.ref 0] hX (fun r h2 => r = some (.int (nI b)) ∧ y_CI n outs bm ms dr cn pl I 0 tp wr pp sz ce h2) := by
  refine y_CI_el (C := fun hX => z_CAL 5 76 [.ref 0] hX (fun r h2 => r = some (.int (nI b)) ∧ y_CI n outs bm ms dr cn pl I 0 tp wr pp sz ce h2)) h ?_
  intro ik kn ko kb km kd kc kpl p_rankings p_counts p_draw p_fors k_rankings k_counts k_draw k_fors d_size d_outs d_rule d_filled d_rankings d_counts d_draw d_fors w_size w_ins w_rule w_steps w_fors w_draw w_links w_best w_beaters w_distances w_route t_bytes t_next t_ranking t_count l_cells l_sizes s_bytes hfd hwr hik hIm hI hkI htp hz hsb hlc
  have hn8 := hI.1.2
  refine z_CAL_mono ?_ (c_X5_find 0 hI hfd htp)
  rintro r h2 ⟨nx2, rk2, v, rfl, rfl, q⟩
  rcases q with ⟨b2, p2, q2, x1, x2, x3, hv⟩ | ⟨q2, x1, x2⟩
  · cases x1.symm.trans hp
    rcases x2 with e | e
    · cases e
    · exact absurd rfl e
  · cases x1.symm.trans hp
    rcases x2 with ⟨d, y1, y2, y3, hv⟩ | ⟨y1, -⟩
    · obtain rfl : d = b := by
        rcases Nat.lt_trichotomy d b with e | e | e
        · exact absurd y2 (hb3 d e)
        · exact e
        · exact absurd hb2 (y3 b e)
      exact ⟨congrArg (fun z => some (Value.int z)) hv, (y_CI_mk (Nat.zero_le _) hwr hik hIm hI hkI y_TB_0 hz hsb hlc)⟩
    · exact absurd hb2 (y1 b hb1)
theorem m_findN {n : Nat} {outs : Nat} {bm : Nat} {ms : Nat} {dr : Nat → Nat} {cn : Nat → Nat} {pl : Nat → Nat → Nat} {I : Option (Nat × Nat × Nat × Nat × (Nat → Nat) × (Nat → Nat) × (Nat → Nat → Nat))} {fd : Nat} {tp : Nat → Nat} {wr : Nat} {pp : Nat → Int32} {sz : Nat → Nat} {ce : Nat → Int64} {q0 : Nat → Nat} {hX : List z_E} (h : y_CI n outs bm ms dr cn pl I fd tp wr pp sz ce hX) (hp : z_rp n tp fd 8 0 0 (fun _ => 0) 0 = (true, fd, q0)) (hb3 : ∀ x, x < bm → ¬ z_same n pl q0 x) : z_CAL 5 76 [.ref 0] hX (fun r h2 => r = some (.int (-nI 5)) ∧ y_CI n outs bm ms dr cn pl I 0 tp wr pp sz ce h2) := by
  refine y_CI_el (C := fun hX => z_CAL 5 76 [.ref 0] hX (fun r h2 => r = some (.int (-nI 5)) ∧ y_CI n outs bm ms dr cn pl I 0 tp wr pp sz ce h2)) h ?_
  intro ik kn ko kb km kd kc kpl p_rankings p_counts p_draw p_fors k_rankings k_counts k_draw k_fors d_size d_outs d_rule d_filled d_rankings d_counts d_draw d_fors w_size w_ins w_rule w_steps w_fors w_draw w_links w_best w_beaters w_distances w_route t_bytes t_next t_ranking t_count l_cells l_sizes s_bytes hfd hwr hik hIm hI hkI htp hz hsb hlc
  have hn8 := hI.1.2
  refine z_CAL_mono ?_ (c_X5_find 0 hI hfd htp)
  rintro r h2 ⟨nx2, rk2, v, rfl, rfl, q⟩
  rcases q with ⟨b2, p2, q2, x1, x2, x3, hv⟩ | ⟨q2, x1, x2⟩
  · cases x1.symm.trans hp
    rcases x2 with e | e
    · cases e
    · exact absurd rfl e
  · cases x1.symm.trans hp
    rcases x2 with ⟨d, y1, y2, y3, hv⟩ | ⟨y1, hv⟩
    · exact absurd y2 (hb3 d y1)
    · exact ⟨congrArg (fun z => some (Value.int z)) hv, (y_CI_mk (Nat.zero_le _) hwr hik hIm hI hkI y_TB_0 hz hsb hlc)⟩
theorem m_spell {n : Nat} {outs : Nat} {bm : Nat} {ms : Nat} {dr : Nat → Nat} {cn : Nat → Nat} {pl : Nat → Nat → Nat} {I : Option (Nat × Nat × Nat × Nat × (Nat → Nat) × (Nat → Nat) × (Nat → Nat → Nat))} {fd : Nat} {tp : Nat → Nat} {wr : Nat} {pp : Nat → Int32} {sz : Nat → Nat} {ce : Nat → Int64} {b : Nat} {hX : List z_E} (h : y_CI n outs bm ms dr cn pl I fd tp wr pp sz ce hX) (hb : b < bm) : z_CAL 4 77 [.ref 0, .int (nI b)] hX (fun r h2 => r = some (.int (nI (z_sp n (pl b) (max 1 (z_mx n (pl b)))).length)) ∧ y_CI n outs bm ms dr cn pl I fd tp ((z_sp n (pl b) (max 1 (z_mx n (pl b)))).length) (fun k => nI ((z_sp n (pl b) (max 1 (z_mx n (pl b)))).getD k 0)) sz ce h2) := by
  refine y_CI_el (C := fun hX => z_CAL 4 77 [.ref 0, .int (nI b)] hX (fun r h2 => r = some (.int (nI (z_sp n (pl b) (max 1 (z_mx n (pl b)))).length)) ∧ y_CI n outs bm ms dr cn pl I fd tp ((z_sp n (pl b) (max 1 (z_mx n (pl b)))).length) (fun k => nI ((z_sp n (pl b) (max 1 (z_mx n (pl b)))).getD k 0)) sz ce h2)) h ?_
  intro ik kn ko kb km kd kc kpl p_rankings p_counts p_draw p_fors k_rankings k_counts k_draw k_fors d_size d_outs d_rule d_filled d_rankings d_counts d_draw d_fors w_size w_ins w_rule w_steps w_fors w_draw w_links w_best w_beaters w_distances w_route t_bytes t_next t_ranking t_count l_cells l_sizes s_bytes hfd hwr hik hIm hI hkI htp hz hsb hlc
  have hn8 := hI.1.2
  refine z_CAL_mono ?_ (c_X5_spell 0 hI)
  rintro r h2 ⟨sb2, wr2, v, rfl, rfl, q⟩
  have hb40 := hI.2.2.1
  rcases q with ⟨-, -, -, x0⟩ | ⟨k, x1, x2, x3, rfl, x5, hv⟩
  · exact absurd ⟨b, hb, rfl⟩ x0
  · obtain rfl : b = k := z_nIj (by omega) (by omega) x2
    exact ⟨congrArg (fun z => some (Value.int z)) hv, (y_CI_mk hfd x5 hik hIm hI hkI htp hz x3 hlc)⟩
theorem m_spellN {n : Nat} {outs : Nat} {bm : Nat} {ms : Nat} {dr : Nat → Nat} {cn : Nat → Nat} {pl : Nat → Nat → Nat} {I : Option (Nat × Nat × Nat × Nat × (Nat → Nat) × (Nat → Nat) × (Nat → Nat → Nat))} {fd : Nat} {tp : Nat → Nat} {wr : Nat} {pp : Nat → Int32} {sz : Nat → Nat} {ce : Nat → Int64} {b : Nat} {hX : List z_E} (h : y_CI n outs bm ms dr cn pl I fd tp wr pp sz ce hX) (hb : bm ≤ b) (hb2 : b < 1000) : z_CAL 4 77 [.ref 0, .int (nI b)] hX (fun r h2 => r = some (.int (-nI 1)) ∧ y_CI n outs bm ms dr cn pl I fd tp wr pp sz ce h2) := by
  refine y_CI_el (C := fun hX => z_CAL 4 77 [.ref 0, .int (nI b)] hX (fun r h2 => r = some (.int (-nI 1)) ∧ y_CI n outs bm ms dr cn pl I fd tp wr pp sz ce h2)) h ?_
  intro ik kn ko kb km kd kc kpl p_rankings p_counts p_draw p_fors k_rankings k_counts k_draw k_fors d_size d_outs d_rule d_filled d_rankings d_counts d_draw d_fors w_size w_ins w_rule w_steps w_fors w_draw w_links w_best w_beaters w_distances w_route t_bytes t_next t_ranking t_count l_cells l_sizes s_bytes hfd hwr hik hIm hI hkI htp hz hsb hlc
  have hn8 := hI.1.2
  refine z_CAL_mono ?_ (c_X5_spell 0 hI)
  rintro r h2 ⟨sb2, wr2, v, rfl, rfl, q⟩
  have hb40 := hI.2.2.1
  rcases q with ⟨hv, rfl, rfl, -⟩ | ⟨k, x1, x2, -⟩
  · exact ⟨congrArg (fun z => some (Value.int z)) hv, (y_CI_mk hfd hwr hik hIm hI hkI htp hz hsb hlc)⟩
  · obtain rfl : b = k := z_nIj (by omega) (by omega) x2
    omega
theorem m_paper {n : Nat} {outs : Nat} {bm : Nat} {ms : Nat} {dr : Nat → Nat} {cn : Nat → Nat} {pl : Nat → Nat → Nat} {I : Option (Nat × Nat × Nat × Nat × (Nat → Nat) × (Nat → Nat) × (Nat → Nat → Nat))} {fd : Nat} {tp : Nat → Nat} {wr : Nat} {pp : Nat → Int32} {sz : Nat → Nat} {ce : Nat → Int64} {i : Nat} {hX : List z_E} (h : y_CI n outs bm ms dr cn pl I fd tp wr pp sz ce hX) (hi : i < wr) : z_CAL 2 78 [.ref 0, .int (nI i)] hX (fun r h2 => r = some (.int (pp i)) ∧ y_CI n outs bm ms dr cn pl I fd tp wr pp sz ce h2) := by
  refine y_CI_el (C := fun hX => z_CAL 2 78 [.ref 0, .int (nI i)] hX (fun r h2 => r = some (.int (pp i)) ∧ y_CI n outs bm ms dr cn pl I fd tp wr pp sz ce h2)) h ?_
  intro ik kn ko kb km kd kc kpl p_rankings p_counts p_draw p_fors k_rankings k_counts k_draw k_fors d_size d_outs d_rule d_filled d_rankings d_counts d_draw d_fors w_size w_ins w_rule w_steps w_fors w_draw w_links w_best w_beaters w_distances w_route t_bytes t_next t_ranking t_count l_cells l_sizes s_bytes hfd hwr hik hIm hI hkI htp hz hsb hlc
  have hn8 := hI.1.2
  refine z_CAL_mono ?_ (c_X5_paper 0 hI hwr)
  rintro r h2 ⟨v, rfl, rfl, q⟩
  rcases q with ⟨x0, -⟩ | ⟨k, x1, x2, x3⟩
  · exact absurd ⟨i, hi, rfl⟩ x0
  · obtain rfl : i = k := z_nIj (by omega) (by omega) x2
    have hv : v = pp i := x3.trans (hsb i hi)
    exact ⟨congrArg (fun z => some (Value.int z)) hv, (y_CI_mk hfd hwr hik hIm hI hkI htp hz hsb hlc)⟩
theorem m_paperN {n : Nat} {outs : Nat} {bm : Nat} {ms : Nat} {dr : Nat → Nat} {cn : Nat → Nat} {pl : Nat → Nat → Nat} {I : Option (Nat × Nat × Nat × Nat × (Nat → Nat) × (Nat → Nat) × (Nat → Nat → Nat))} {fd : Nat} {tp : Nat → Nat} {wr : Nat} {pp : Nat → Int32} {sz : Nat → Nat} {ce : Nat → Int64} {i : Nat} {hX : List z_E} (h : y_CI n outs bm ms dr cn pl I fd tp wr pp sz ce hX) (hi : wr ≤ i) (hi2 : i < 1000) : z_CAL 2 78 [.ref 0, .int (nI i)] hX (fun r h2 => r = some (.int (-nI 1)) ∧ y_CI n outs bm ms dr cn pl I fd tp wr pp sz ce h2) := by
  refine y_CI_el (C := fun hX => z_CAL 2 78 [.ref 0, .int (nI i)] hX (fun r h2 => r = some (.int (-nI 1)) ∧ y_CI n outs bm ms dr cn pl I fd tp wr pp sz ce h2)) h ?_
  intro ik kn ko kb km kd kc kpl p_rankings p_counts p_draw p_fors k_rankings k_counts k_draw k_fors d_size d_outs d_rule d_filled d_rankings d_counts d_draw d_fors w_size w_ins w_rule w_steps w_fors w_draw w_links w_best w_beaters w_distances w_route t_bytes t_next t_ranking t_count l_cells l_sizes s_bytes hfd hwr hik hIm hI hkI htp hz hsb hlc
  have hn8 := hI.1.2
  refine z_CAL_mono ?_ (c_X5_paper 0 hI hwr)
  rintro r h2 ⟨v, rfl, rfl, q⟩
  rcases q with ⟨-, hv⟩ | ⟨k, x1, x2, x3⟩
  · exact ⟨congrArg (fun z => some (Value.int z)) hv, (y_CI_mk hfd hwr hik hIm hI hkI htp hz hsb hlc)⟩
  · obtain rfl : i = k := z_nIj (by omega) (by omega) x2
    omega
theorem m_drawn {n : Nat} {outs : Nat} {bm : Nat} {ms : Nat} {dr : Nat → Nat} {cn : Nat → Nat} {pl : Nat → Nat → Nat} {I : Option (Nat × Nat × Nat × Nat × (Nat → Nat) × (Nat → Nat) × (Nat → Nat → Nat))} {fd : Nat} {tp : Nat → Nat} {wr : Nat} {pp : Nat → Int32} {sz : Nat → Nat} {ce : Nat → Int64} {k : Nat} {hX : List z_E} (h : y_CI n outs bm ms dr cn pl I fd tp wr pp sz ce hX) (hk : k < n) : z_CAL 3 71 [.ref 0, .int (nI k)] hX (fun r h2 => r = some (.int (nI (dr k))) ∧ y_CI n outs bm ms dr cn pl I fd tp wr pp sz ce h2) := by
  refine y_CI_el (C := fun hX => z_CAL 3 71 [.ref 0, .int (nI k)] hX (fun r h2 => r = some (.int (nI (dr k))) ∧ y_CI n outs bm ms dr cn pl I fd tp wr pp sz ce h2)) h ?_
  intro ik kn ko kb km kd kc kpl p_rankings p_counts p_draw p_fors k_rankings k_counts k_draw k_fors d_size d_outs d_rule d_filled d_rankings d_counts d_draw d_fors w_size w_ins w_rule w_steps w_fors w_draw w_links w_best w_beaters w_distances w_route t_bytes t_next t_ranking t_count l_cells l_sizes s_bytes hfd hwr hik hIm hI hkI htp hz hsb hlc
  have hn8 := hI.1.2
  refine z_CAL_mono ?_ (c_X5_drawn 0 hI)
  rintro r h2 ⟨v, rfl, rfl, q⟩
  rcases q with ⟨x0, -⟩ | ⟨k2, x1, x2, hv⟩
  · exact absurd ⟨k, hk, rfl⟩ x0
  · obtain rfl : k = k2 := z_nIj (by omega) (by omega) x2
    exact ⟨congrArg (fun z => some (Value.int z)) hv, (y_CI_mk hfd hwr hik hIm hI hkI htp hz hsb hlc)⟩
theorem m_drawnN {n : Nat} {outs : Nat} {bm : Nat} {ms : Nat} {dr : Nat → Nat} {cn : Nat → Nat} {pl : Nat → Nat → Nat} {I : Option (Nat × Nat × Nat × Nat × (Nat → Nat) × (Nat → Nat) × (Nat → Nat → Nat))} {fd : Nat} {tp : Nat → Nat} {wr : Nat} {pp : Nat → Int32} {sz : Nat → Nat} {ce : Nat → Int64} {k : Nat} {hX : List z_E} (h : y_CI n outs bm ms dr cn pl I fd tp wr pp sz ce hX) (hk : n ≤ k) (hk2 : k < 1000) : z_CAL 3 71 [.ref 0, .int (nI k)] hX (fun r h2 => r = some (.int (-nI 1)) ∧ y_CI n outs bm ms dr cn pl I fd tp wr pp sz ce h2) := by
  refine y_CI_el (C := fun hX => z_CAL 3 71 [.ref 0, .int (nI k)] hX (fun r h2 => r = some (.int (-nI 1)) ∧ y_CI n outs bm ms dr cn pl I fd tp wr pp sz ce h2)) h ?_
  intro ik kn ko kb km kd kc kpl p_rankings p_counts p_draw p_fors k_rankings k_counts k_draw k_fors d_size d_outs d_rule d_filled d_rankings d_counts d_draw d_fors w_size w_ins w_rule w_steps w_fors w_draw w_links w_best w_beaters w_distances w_route t_bytes t_next t_ranking t_count l_cells l_sizes s_bytes hfd hwr hik hIm hI hkI htp hz hsb hlc
  have hn8 := hI.1.2
  refine z_CAL_mono ?_ (c_X5_drawn 0 hI)
  rintro r h2 ⟨v, rfl, rfl, q⟩
  rcases q with ⟨-, hv⟩ | ⟨k2, x1, x2, -⟩
  · exact ⟨congrArg (fun z => some (Value.int z)) hv, (y_CI_mk hfd hwr hik hIm hI hkI htp hz hsb hlc)⟩
  · obtain rfl : k = k2 := z_nIj (by omega) (by omega) x2
    omega
theorem m_ahead {n : Nat} {outs : Nat} {bm : Nat} {ms : Nat} {dr : Nat → Nat} {cn : Nat → Nat} {pl : Nat → Nat → Nat} {I : Option (Nat × Nat × Nat × Nat × (Nat → Nat) × (Nat → Nat) × (Nat → Nat → Nat))} {fd : Nat} {tp : Nat → Nat} {wr : Nat} {pp : Nat → Int32} {sz : Nat → Nat} {ce : Nat → Int64} {k w : Nat} {hX : List z_E} (h : y_CI n outs bm ms dr cn pl I fd tp wr pp sz ce hX) (hw : w < n) (hd : dr w = k) : z_CAL 2 69 [.ref 0, .int (nI k)] hX (fun r h2 => r = some (.int (nI w)) ∧ y_CI n outs bm ms (z_front dr w k) cn pl I fd tp wr pp sz ce h2) := by
  refine y_CI_el (C := fun hX => z_CAL 2 69 [.ref 0, .int (nI k)] hX (fun r h2 => r = some (.int (nI w)) ∧ y_CI n outs bm ms (z_front dr w k) cn pl I fd tp wr pp sz ce h2)) h ?_
  intro ik kn ko kb km kd kc kpl p_rankings p_counts p_draw p_fors k_rankings k_counts k_draw k_fors d_size d_outs d_rule d_filled d_rankings d_counts d_draw d_fors w_size w_ins w_rule w_steps w_fors w_draw w_links w_best w_beaters w_distances w_route t_bytes t_next t_ranking t_count l_cells l_sizes s_bytes hfd hwr hik hIm hI hkI htp hz hsb hlc
  have hn8 := hI.1.2
  refine z_CAL_mono ?_ (c_X5_ahead 0 hI)
  rintro r h2 ⟨d2, v, rfl, rfl, q⟩
  rcases q with ⟨x0, -⟩ | ⟨k2, x1, x2, w2, x3, x4, hv, x6⟩
  · exact absurd ⟨k, by rw [← hd]; exact hI.2.2.2.2.1.2.1 w hw, rfl⟩ x0
  · have hkn : k < n := by rw [← hd]; exact hI.2.2.2.2.1.2.1 w hw
    obtain rfl : k = k2 := z_nIj (by omega) (by omega) x2
    obtain rfl : w2 = w := z_perm_inj hI.2.2.2.2.1.2 x3 hw (x4.trans hd.symm)
    exact ⟨congrArg (fun z => some (Value.int z)) hv, (y_CI_mk hfd hwr hik hIm x6 hkI htp hz hsb hlc)⟩
theorem m_aheadN {n : Nat} {outs : Nat} {bm : Nat} {ms : Nat} {dr : Nat → Nat} {cn : Nat → Nat} {pl : Nat → Nat → Nat} {I : Option (Nat × Nat × Nat × Nat × (Nat → Nat) × (Nat → Nat) × (Nat → Nat → Nat))} {fd : Nat} {tp : Nat → Nat} {wr : Nat} {pp : Nat → Int32} {sz : Nat → Nat} {ce : Nat → Int64} {k : Nat} {hX : List z_E} (h : y_CI n outs bm ms dr cn pl I fd tp wr pp sz ce hX) (hk : n ≤ k) (hk2 : k < 1000) : z_CAL 2 69 [.ref 0, .int (nI k)] hX (fun r h2 => r = some (.int (-nI 1)) ∧ y_CI n outs bm ms dr cn pl I fd tp wr pp sz ce h2) := by
  refine y_CI_el (C := fun hX => z_CAL 2 69 [.ref 0, .int (nI k)] hX (fun r h2 => r = some (.int (-nI 1)) ∧ y_CI n outs bm ms dr cn pl I fd tp wr pp sz ce h2)) h ?_
  intro ik kn ko kb km kd kc kpl p_rankings p_counts p_draw p_fors k_rankings k_counts k_draw k_fors d_size d_outs d_rule d_filled d_rankings d_counts d_draw d_fors w_size w_ins w_rule w_steps w_fors w_draw w_links w_best w_beaters w_distances w_route t_bytes t_next t_ranking t_count l_cells l_sizes s_bytes hfd hwr hik hIm hI hkI htp hz hsb hlc
  have hn8 := hI.1.2
  refine z_CAL_mono ?_ (c_X5_ahead 0 hI)
  rintro r h2 ⟨d2, v, rfl, rfl, q⟩
  rcases q with ⟨-, hv, rfl⟩ | ⟨k2, x1, x2, -⟩
  · exact ⟨congrArg (fun z => some (Value.int z)) hv, (y_CI_mk hfd hwr hik hIm hI hkI htp hz hsb hlc)⟩
  · obtain rfl : k = k2 := z_nIj (by omega) (by omega) x2
    omega
theorem m_shuffle {n : Nat} {outs : Nat} {bm : Nat} {ms : Nat} {dr : Nat → Nat} {cn : Nat → Nat} {pl : Nat → Nat → Nat} {I : Option (Nat × Nat × Nat × Nat × (Nat → Nat) × (Nat → Nat) × (Nat → Nat → Nat))} {fd : Nat} {tp : Nat → Nat} {wr : Nat} {pp : Nat → Int32} {sz : Nat → Nat} {ce : Nat → Int64} {seed : Int32} {hX : List z_E} (h : y_CI n outs bm ms dr cn pl I fd tp wr pp sz ce hX) : z_CAL 3 70 [.ref 0, .int seed] hX (fun r h2 => r = some (.int (nI ((z_shf (n - 1) seed (fun i => if i < n then i else dr i)) 0))) ∧ y_CI n outs bm ms (z_shf (n - 1) seed (fun i => if i < n then i else dr i)) cn pl I fd tp wr pp sz ce h2) := by
  refine y_CI_el (C := fun hX => z_CAL 3 70 [.ref 0, .int seed] hX (fun r h2 => r = some (.int (nI ((z_shf (n - 1) seed (fun i => if i < n then i else dr i)) 0))) ∧ y_CI n outs bm ms (z_shf (n - 1) seed (fun i => if i < n then i else dr i)) cn pl I fd tp wr pp sz ce h2)) h ?_
  intro ik kn ko kb km kd kc kpl p_rankings p_counts p_draw p_fors k_rankings k_counts k_draw k_fors d_size d_outs d_rule d_filled d_rankings d_counts d_draw d_fors w_size w_ins w_rule w_steps w_fors w_draw w_links w_best w_beaters w_distances w_route t_bytes t_next t_ranking t_count l_cells l_sizes s_bytes hfd hwr hik hIm hI hkI htp hz hsb hlc
  have hn8 := hI.1.2
  refine z_CAL_mono ?_ (c_X5_shuffle 0 hI)
  rintro r h2 ⟨d2, v, rfl, rfl, q⟩
  obtain ⟨hv, x2⟩ := q
  exact ⟨congrArg (fun z => some (Value.int z)) hv, (y_CI_mk hfd hwr hik hIm x2 hkI htp hz hsb hlc)⟩
theorem m_measure {n : Nat} {outs : Nat} {bm : Nat} {ms : Nat} {dr : Nat → Nat} {cn : Nat → Nat} {pl : Nat → Nat → Nat} {I : Option (Nat × Nat × Nat × Nat × (Nat → Nat) × (Nat → Nat) × (Nat → Nat → Nat))} {fd : Nat} {tp : Nat → Nat} {wr : Nat} {pp : Nat → Int32} {sz : Nat → Nat} {ce : Nat → Int64} {k : Nat} {hX : List z_E} (h : y_CI n outs bm ms dr cn pl I fd tp wr pp sz ce hX) (hk : k < 4) : z_CAL 1 68 [.ref 0, .int (nI k)] hX (fun r h2 => r = some (.int (nI ms)) ∧ y_CI n outs bm k dr cn pl I fd tp wr pp sz ce h2) := by
  refine y_CI_el (C := fun hX => z_CAL 1 68 [.ref 0, .int (nI k)] hX (fun r h2 => r = some (.int (nI ms)) ∧ y_CI n outs bm k dr cn pl I fd tp wr pp sz ce h2)) h ?_
  intro ik kn ko kb km kd kc kpl p_rankings p_counts p_draw p_fors k_rankings k_counts k_draw k_fors d_size d_outs d_rule d_filled d_rankings d_counts d_draw d_fors w_size w_ins w_rule w_steps w_fors w_draw w_links w_best w_beaters w_distances w_route t_bytes t_next t_ranking t_count l_cells l_sizes s_bytes hfd hwr hik hIm hI hkI htp hz hsb hlc
  have hn8 := hI.1.2
  refine z_CAL_mono ?_ (c_X5_measure 0 hI)
  rintro r h2 ⟨m2, v, rfl, rfl, q⟩
  rcases q with ⟨x0, -⟩ | ⟨k2, x1, x2, hv, rfl⟩
  · exact absurd ⟨k, hk, rfl⟩ x0
  · obtain rfl : k = m2 := z_nIj (by omega) (by omega) x2
    exact ⟨congrArg (fun z => some (Value.int z)) hv, (y_CI_mk hfd hwr hik hIm (⟨hI.1, hI.2.1, hI.2.2.1, x1, hI.2.2.2.2⟩) hkI htp hz hsb hlc)⟩
theorem m_image {n : Nat} {outs : Nat} {bm : Nat} {ms : Nat} {dr : Nat → Nat} {cn : Nat → Nat} {pl : Nat → Nat → Nat} {I : Option (Nat × Nat × Nat × Nat × (Nat → Nat) × (Nat → Nat) × (Nat → Nat → Nat))} {fd : Nat} {tp : Nat → Nat} {wr : Nat} {pp : Nat → Int32} {sz : Nat → Nat} {ce : Nat → Int64}  {hX : List z_E} (h : y_CI n outs bm ms dr cn pl I fd tp wr pp sz ce hX) : z_CAL 2 89 [.ref 0] hX (fun r h2 => r = some (.int (nI bm)) ∧ y_CI n outs bm ms dr cn pl (some (n, outs, bm, ms, dr, cn, pl)) fd tp wr pp sz ce h2) := by
  refine y_CI_el (C := fun hX => z_CAL 2 89 [.ref 0] hX (fun r h2 => r = some (.int (nI bm)) ∧ y_CI n outs bm ms dr cn pl (some (n, outs, bm, ms, dr, cn, pl)) fd tp wr pp sz ce h2)) h ?_
  intro ik kn ko kb km kd kc kpl p_rankings p_counts p_draw p_fors k_rankings k_counts k_draw k_fors d_size d_outs d_rule d_filled d_rankings d_counts d_draw d_fors w_size w_ins w_rule w_steps w_fors w_draw w_links w_best w_beaters w_distances w_route t_bytes t_next t_ranking t_count l_cells l_sizes s_bytes hfd hwr hik hIm hI hkI htp hz hsb hlc
  have hn8 := hI.1.2
  refine z_CAL_mono ?_ (c_X5_image 0 hI)
  rintro r h2 ⟨kR2, kC2, kD2, kF2, rfl, rfl, q⟩
  exact ⟨rfl, (y_CI_mk hfd hwr ((by decide : 1 < 2)) (Or.inr ⟨rfl, rfl⟩) hI (fun _ => q) htp hz hsb hlc)⟩
theorem m_out1 {n : Nat} {outs : Nat} {bm : Nat} {ms : Nat} {dr : Nat → Nat} {cn : Nat → Nat} {pl : Nat → Nat → Nat} {I : Option (Nat × Nat × Nat × Nat × (Nat → Nat) × (Nat → Nat) × (Nat → Nat → Nat))} {fd : Nat} {tp : Nat → Nat} {wr : Nat} {pp : Nat → Int32} {sz : Nat → Nat} {ce : Nat → Int64} {k : Nat} {hX : List z_E} (h : y_CI n outs bm ms dr cn pl I fd tp wr pp sz ce hX) (hk : k < n) (hne : z_dif (2 ^ n - 1) outs ≠ 2 ^ k) : z_CAL 3 67 [.ref 0, .int (nI k), .int (nI 1)] hX (fun r h2 => r = some (.int (nI (if outs.testBit k = true then 1 else 0))) ∧ y_CI n (outs ||| 2 ^ k) bm ms dr cn pl I fd tp wr pp sz ce h2) := by
  refine y_CI_el (C := fun hX => z_CAL 3 67 [.ref 0, .int (nI k), .int (nI 1)] hX (fun r h2 => r = some (.int (nI (if outs.testBit k = true then 1 else 0))) ∧ y_CI n (outs ||| 2 ^ k) bm ms dr cn pl I fd tp wr pp sz ce h2)) h ?_
  intro ik kn ko kb km kd kc kpl p_rankings p_counts p_draw p_fors k_rankings k_counts k_draw k_fors d_size d_outs d_rule d_filled d_rankings d_counts d_draw d_fors w_size w_ins w_rule w_steps w_fors w_draw w_links w_best w_beaters w_distances w_route t_bytes t_next t_ranking t_count l_cells l_sizes s_bytes hfd hwr hik hIm hI hkI htp hz hsb hlc
  have hn8 := hI.1.2
  refine z_CAL_mono ?_ (c_X5_out 0 hI)
  rintro r h2 ⟨o2, v, rfl, rfl, q⟩
  rcases q with ⟨x0, -⟩ | ⟨k2, x1, x2, ⟨y1, y2, -⟩ | ⟨y1, y2, hv, rfl, y5⟩ | ⟨y1, -⟩⟩
  · exact absurd ⟨⟨k, hk, rfl⟩, Or.inr rfl⟩ x0
  · obtain rfl : k = k2 := z_nIj (by omega) (by omega) x2
    exact absurd y2 hne
  · obtain rfl : k = k2 := z_nIj (by omega) (by omega) x2
    exact ⟨congrArg (fun z => some (Value.int z)) hv, (y_CI_mk hfd hwr hik hIm y5 hkI htp hz hsb hlc)⟩
  · exact absurd y1 (by decide)
theorem m_outS {n : Nat} {outs : Nat} {bm : Nat} {ms : Nat} {dr : Nat → Nat} {cn : Nat → Nat} {pl : Nat → Nat → Nat} {I : Option (Nat × Nat × Nat × Nat × (Nat → Nat) × (Nat → Nat) × (Nat → Nat → Nat))} {fd : Nat} {tp : Nat → Nat} {wr : Nat} {pp : Nat → Int32} {sz : Nat → Nat} {ce : Nat → Int64} {k : Nat} {hX : List z_E} (h : y_CI n outs bm ms dr cn pl I fd tp wr pp sz ce hX) (hk : k < n) (hne : z_dif (2 ^ n - 1) outs = 2 ^ k) : z_CAL 3 67 [.ref 0, .int (nI k), .int (nI 1)] hX (fun r h2 => r = some (.int (-nI 3)) ∧ y_CI n outs bm ms dr cn pl I fd tp wr pp sz ce h2) := by
  refine y_CI_el (C := fun hX => z_CAL 3 67 [.ref 0, .int (nI k), .int (nI 1)] hX (fun r h2 => r = some (.int (-nI 3)) ∧ y_CI n outs bm ms dr cn pl I fd tp wr pp sz ce h2)) h ?_
  intro ik kn ko kb km kd kc kpl p_rankings p_counts p_draw p_fors k_rankings k_counts k_draw k_fors d_size d_outs d_rule d_filled d_rankings d_counts d_draw d_fors w_size w_ins w_rule w_steps w_fors w_draw w_links w_best w_beaters w_distances w_route t_bytes t_next t_ranking t_count l_cells l_sizes s_bytes hfd hwr hik hIm hI hkI htp hz hsb hlc
  have hn8 := hI.1.2
  refine z_CAL_mono ?_ (c_X5_out 0 hI)
  rintro r h2 ⟨o2, v, rfl, rfl, q⟩
  rcases q with ⟨x0, -⟩ | ⟨k2, x1, x2, ⟨y1, y2, hv, rfl⟩ | ⟨y1, y2, -⟩ | ⟨y1, -⟩⟩
  · exact absurd ⟨⟨k, hk, rfl⟩, Or.inr rfl⟩ x0
  · exact ⟨congrArg (fun z => some (Value.int z)) hv, (y_CI_mk hfd hwr hik hIm hI hkI htp hz hsb hlc)⟩
  · obtain rfl : k = k2 := z_nIj (by omega) (by omega) x2
    exact absurd hne y2
  · exact absurd y1 (by decide)
theorem m_outN {n : Nat} {outs : Nat} {bm : Nat} {ms : Nat} {dr : Nat → Nat} {cn : Nat → Nat} {pl : Nat → Nat → Nat} {I : Option (Nat × Nat × Nat × Nat × (Nat → Nat) × (Nat → Nat) × (Nat → Nat → Nat))} {fd : Nat} {tp : Nat → Nat} {wr : Nat} {pp : Nat → Int32} {sz : Nat → Nat} {ce : Nat → Int64} {k w : Nat} {hX : List z_E} (h : y_CI n outs bm ms dr cn pl I fd tp wr pp sz ce hX) (hk : k < 1000) (hw : w < 1000) (hN : ¬ (k < n ∧ w < 2)) : z_CAL 3 67 [.ref 0, .int (nI k), .int (nI w)] hX (fun r h2 => r = some (.int (-nI 1)) ∧ y_CI n outs bm ms dr cn pl I fd tp wr pp sz ce h2) := by
  refine y_CI_el (C := fun hX => z_CAL 3 67 [.ref 0, .int (nI k), .int (nI w)] hX (fun r h2 => r = some (.int (-nI 1)) ∧ y_CI n outs bm ms dr cn pl I fd tp wr pp sz ce h2)) h ?_
  intro ik kn ko kb km kd kc kpl p_rankings p_counts p_draw p_fors k_rankings k_counts k_draw k_fors d_size d_outs d_rule d_filled d_rankings d_counts d_draw d_fors w_size w_ins w_rule w_steps w_fors w_draw w_links w_best w_beaters w_distances w_route t_bytes t_next t_ranking t_count l_cells l_sizes s_bytes hfd hwr hik hIm hI hkI htp hz hsb hlc
  have hn8 := hI.1.2
  refine z_CAL_mono ?_ (c_X5_out 0 hI)
  rintro r h2 ⟨o2, v, rfl, rfl, q⟩
  rcases q with ⟨-, hv, rfl⟩ | ⟨k2, x1, x2, ⟨y1, -⟩ | ⟨y1, -⟩ | ⟨y1, -⟩⟩
  · exact ⟨congrArg (fun z => some (Value.int z)) hv, (y_CI_mk hfd hwr hik hIm hI hkI htp hz hsb hlc)⟩
  all_goals
    exfalso
    obtain rfl : k = k2 := z_nIj (by omega) (by omega) x2
    have := z_nIj (by omega) (by omega) y1
    omega
theorem m_sum {n : Nat} {outs : Nat} {bm : Nat} {ms : Nat} {dr : Nat → Nat} {cn : Nat → Nat} {pl : Nat → Nat → Nat} {I : Option (Nat × Nat × Nat × Nat × (Nat → Nat) × (Nat → Nat) × (Nat → Nat → Nat))} {fd : Nat} {tp : Nat → Nat} {wr : Nat} {pp : Nat → Int32} {sz : Nat → Nat} {ce : Nat → Int64} {c p : Nat} {hX : List z_E} (h : y_CI n outs bm ms dr cn pl I fd tp wr pp sz ce hX) (hc : c < n) (hp : p < 2) (hin : (z_dif (2 ^ n - 1) outs).testBit c = true) : z_CAL 5 83 [.ref 0, .int (nI c), .int (nI p)] hX (fun r h2 => r = some (.long (lN (z_sum bm (z_sf n (z_dif (2 ^ n - 1) outs) cn pl c p)))) ∧ y_CI n outs bm ms dr cn pl I fd tp wr pp sz ce h2) := by
  refine y_CI_el (C := fun hX => z_CAL 5 83 [.ref 0, .int (nI c), .int (nI p)] hX (fun r h2 => r = some (.long (lN (z_sum bm (z_sf n (z_dif (2 ^ n - 1) outs) cn pl c p)))) ∧ y_CI n outs bm ms dr cn pl I fd tp wr pp sz ce h2)) h ?_
  intro ik kn ko kb km kd kc kpl p_rankings p_counts p_draw p_fors k_rankings k_counts k_draw k_fors d_size d_outs d_rule d_filled d_rankings d_counts d_draw d_fors w_size w_ins w_rule w_steps w_fors w_draw w_links w_best w_beaters w_distances w_route t_bytes t_next t_ranking t_count l_cells l_sizes s_bytes hfd hwr hik hIm hI hkI htp hz hsb hlc
  have hn8 := hI.1.2
  refine z_CAL_mono ?_ (c_X5_sum 0 hI)
  rintro r h2 ⟨v, rfl, rfl, q⟩
  rcases q with ⟨-, x0⟩ | ⟨a, p2, x1, x2, x3, x4, x5, hv⟩
  · exact absurd ⟨c, p, hc, rfl, hp, rfl, hin⟩ x0
  · obtain rfl : c = a := z_nIj (by omega) (by omega) x2
    obtain rfl : p = p2 := z_nIj (by omega) (by omega) x4
    exact ⟨congrArg (fun z => some (Value.long z)) hv, (y_CI_mk hfd hwr hik hIm hI hkI htp hz hsb hlc)⟩
theorem m_sumN {n : Nat} {outs : Nat} {bm : Nat} {ms : Nat} {dr : Nat → Nat} {cn : Nat → Nat} {pl : Nat → Nat → Nat} {I : Option (Nat × Nat × Nat × Nat × (Nat → Nat) × (Nat → Nat) × (Nat → Nat → Nat))} {fd : Nat} {tp : Nat → Nat} {wr : Nat} {pp : Nat → Int32} {sz : Nat → Nat} {ce : Nat → Int64} {c p : Nat} {hX : List z_E} (h : y_CI n outs bm ms dr cn pl I fd tp wr pp sz ce hX) (hc : c < n) (hin : (z_dif (2 ^ n - 1) outs).testBit c = false) : z_CAL 5 83 [.ref 0, .int (nI c), .int (nI p)] hX (fun r h2 => r = some (.long (-lN 9223372036854775808)) ∧ y_CI n outs bm ms dr cn pl I fd tp wr pp sz ce h2) := by
  refine y_CI_el (C := fun hX => z_CAL 5 83 [.ref 0, .int (nI c), .int (nI p)] hX (fun r h2 => r = some (.long (-lN 9223372036854775808)) ∧ y_CI n outs bm ms dr cn pl I fd tp wr pp sz ce h2)) h ?_
  intro ik kn ko kb km kd kc kpl p_rankings p_counts p_draw p_fors k_rankings k_counts k_draw k_fors d_size d_outs d_rule d_filled d_rankings d_counts d_draw d_fors w_size w_ins w_rule w_steps w_fors w_draw w_links w_best w_beaters w_distances w_route t_bytes t_next t_ranking t_count l_cells l_sizes s_bytes hfd hwr hik hIm hI hkI htp hz hsb hlc
  have hn8 := hI.1.2
  refine z_CAL_mono ?_ (c_X5_sum 0 hI)
  rintro r h2 ⟨v, rfl, rfl, q⟩
  rcases q with ⟨hv, -⟩ | ⟨a, p2, x1, x2, x3, x4, x5, -⟩
  · exact ⟨congrArg (fun z => some (Value.long z)) hv, (y_CI_mk hfd hwr hik hIm hI hkI htp hz hsb hlc)⟩
  · obtain rfl : c = a := z_nIj (by omega) (by omega) x2
    exact absurd x5 (by rw [hin]; decide)
-- rank: some place
theorem m_rank {n : Nat} {outs : Nat} {bm : Nat} {ms : Nat} {dr : Nat → Nat} {cn : Nat → Nat} {pl : Nat → Nat → Nat} {I : Option (Nat × Nat × Nat × Nat × (Nat → Nat) × (Nat → Nat) × (Nat → Nat → Nat))} {fd : Nat} {tp : Nat → Nat} {wr : Nat} {pp : Nat → Int32} {sz : Nat → Nat} {ce : Nat → Int64} {c : Nat} {hX : List z_E} (h : y_CI n outs bm ms dr cn pl I fd tp wr pp sz ce hX) (hc : c < n) (hin : (z_dif (2 ^ n - 1) outs).testBit c = true) : z_CAL 6 81 [.ref 0, .int (nI c)] hX (fun r h2 => ∃ w, w < 8 ∧ r = some (.int (nI w)) ∧ y_CI n outs bm ms dr cn pl I fd tp wr pp sz ce h2) := by
  refine y_CI_el (C := fun hX => z_CAL 6 81 [.ref 0, .int (nI c)] hX (fun r h2 => ∃ w, w < 8 ∧ r = some (.int (nI w)) ∧ y_CI n outs bm ms dr cn pl I fd tp wr pp sz ce h2)) h ?_
  intro ik kn ko kb km kd kc kpl p_rankings p_counts p_draw p_fors k_rankings k_counts k_draw k_fors d_size d_outs d_rule d_filled d_rankings d_counts d_draw d_fors w_size w_ins w_rule w_steps w_fors w_draw w_links w_best w_beaters w_distances w_route t_bytes t_next t_ranking t_count l_cells l_sizes s_bytes hfd hwr hik hIm hI hkI htp hz hsb hlc
  have hn8 := hI.1.2
  refine z_CAL_mono ?_ (c_X5_rank 0 hI)
  rintro r h2 ⟨ws2, wi2, wr2, wst2, wf2, wd2, wl2, wb2, wt2, v, rfl, rfl, q⟩
  rcases q with ⟨x0, -⟩ | ⟨a, x1, x2, ⟨y1, -⟩ | ⟨K, w, y1, y2, hv, y4, -⟩⟩
  · exact absurd ⟨c, hc, rfl⟩ x0
  · obtain rfl : c = a := z_nIj (by omega) (by omega) x2
    exact absurd y1 (by rw [hin]; decide)
  · exact ⟨w, Nat.lt_of_lt_of_le y4 y_pc8, congrArg (fun z => some (Value.int z)) hv, (y_CI_mk hfd hwr hik hIm hI hkI htp hz hsb hlc)⟩
theorem m_rankN {n : Nat} {outs : Nat} {bm : Nat} {ms : Nat} {dr : Nat → Nat} {cn : Nat → Nat} {pl : Nat → Nat → Nat} {I : Option (Nat × Nat × Nat × Nat × (Nat → Nat) × (Nat → Nat) × (Nat → Nat → Nat))} {fd : Nat} {tp : Nat → Nat} {wr : Nat} {pp : Nat → Int32} {sz : Nat → Nat} {ce : Nat → Int64} {c : Nat} {hX : List z_E} (h : y_CI n outs bm ms dr cn pl I fd tp wr pp sz ce hX) (hc : c < n) (hin : (z_dif (2 ^ n - 1) outs).testBit c = false) : z_CAL 6 81 [.ref 0, .int (nI c)] hX (fun r h2 => r = some (.int (-nI 3)) ∧ y_CI n outs bm ms dr cn pl I fd tp wr pp sz ce h2) := by
  refine y_CI_el (C := fun hX => z_CAL 6 81 [.ref 0, .int (nI c)] hX (fun r h2 => r = some (.int (-nI 3)) ∧ y_CI n outs bm ms dr cn pl I fd tp wr pp sz ce h2)) h ?_
  intro ik kn ko kb km kd kc kpl p_rankings p_counts p_draw p_fors k_rankings k_counts k_draw k_fors d_size d_outs d_rule d_filled d_rankings d_counts d_draw d_fors w_size w_ins w_rule w_steps w_fors w_draw w_links w_best w_beaters w_distances w_route t_bytes t_next t_ranking t_count l_cells l_sizes s_bytes hfd hwr hik hIm hI hkI htp hz hsb hlc
  have hn8 := hI.1.2
  refine z_CAL_mono ?_ (c_X5_rank 0 hI)
  rintro r h2 ⟨ws2, wi2, wr2, wst2, wf2, wd2, wl2, wb2, wt2, v, rfl, rfl, q⟩
  rcases q with ⟨x0, -⟩ | ⟨a, x1, x2, ⟨y1, hv⟩ | ⟨K, w, y1, -⟩⟩
  · exact absurd ⟨c, hc, rfl⟩ x0
  · exact ⟨congrArg (fun z => some (Value.int z)) hv, (y_CI_mk hfd hwr hik hIm hI hkI htp hz hsb hlc)⟩
  · obtain rfl : c = a := z_nIj (by omega) (by omega) x2
    exact absurd y1 (by rw [hin]; decide)
theorem m_remove {n : Nat} {outs : Nat} {bm : Nat} {ms : Nat} {dr : Nat → Nat} {cn : Nat → Nat} {pl : Nat → Nat → Nat} {I : Option (Nat × Nat × Nat × Nat × (Nat → Nat) × (Nat → Nat) × (Nat → Nat → Nat))} {fd : Nat} {tp : Nat → Nat} {wr : Nat} {pp : Nat → Int32} {sz : Nat → Nat} {ce : Nat → Int64} {b : Nat} {hX : List z_E} (h : y_CI n outs bm ms dr cn pl I fd tp wr pp sz ce hX) (hb : b < bm) : z_CAL 4 74 [.ref 0, .int (nI b), .int (nI (cn b))] hX (fun r h2 => r = some (.int (nI 0)) ∧ y_CI n outs (bm - 1) ms dr (fun x => if x < b then cn x else cn (x + 1)) (fun x => if x < b then pl x else pl (x + 1)) I fd tp wr pp sz ce h2) := by
  refine y_CI_el (C := fun hX => z_CAL 4 74 [.ref 0, .int (nI b), .int (nI (cn b))] hX (fun r h2 => r = some (.int (nI 0)) ∧ y_CI n outs (bm - 1) ms dr (fun x => if x < b then cn x else cn (x + 1)) (fun x => if x < b then pl x else pl (x + 1)) I fd tp wr pp sz ce h2)) h ?_
  intro ik kn ko kb km kd kc kpl p_rankings p_counts p_draw p_fors k_rankings k_counts k_draw k_fors d_size d_outs d_rule d_filled d_rankings d_counts d_draw d_fors w_size w_ins w_rule w_steps w_fors w_draw w_links w_best w_beaters w_distances w_route t_bytes t_next t_ranking t_count l_cells l_sizes s_bytes hfd hwr hik hIm hI hkI htp hz hsb hlc
  have hn8 := hI.1.2
  refine z_CAL_mono ?_ (c_X5_remove 0 hI)
  rintro r h2 ⟨R2, C2, F2, b2, v, rfl, rfl, q⟩
  have hb40 := hI.2.2.1
  have hcb := hI.2.2.2.2.2.1 b hb
  rcases q with ⟨-, -, -, -, -, x0⟩ | ⟨k, x1, x2, ⟨-, -, -, -, -, x3⟩ | ⟨c, bm2, cn2, pl2, x3, x4, x5, x6, x7, rfl, x9⟩⟩
  · exact absurd ⟨b, hb, rfl⟩ x0
  · obtain rfl : b = k := z_nIj (by omega) (by omega) x2
    exact absurd ⟨cn b, hcb.2.1, Nat.le_refl _, rfl⟩ x3
  · obtain rfl : b = k := z_nIj (by omega) (by omega) x2
    obtain rfl : cn b = c := z_nIj (by omega) (by omega) x5
    have hv : v = nI 0 := by rw [x6, Nat.sub_self]
    rcases x7 with ⟨y1, -⟩ | ⟨-, rfl, rfl, rfl⟩
    · omega
    · exact ⟨congrArg (fun z => some (Value.int z)) hv, (y_CI_mk hfd hwr hik hIm x9 hkI htp hz hsb hlc)⟩
theorem m_removeB {n : Nat} {outs : Nat} {bm : Nat} {ms : Nat} {dr : Nat → Nat} {cn : Nat → Nat} {pl : Nat → Nat → Nat} {I : Option (Nat × Nat × Nat × Nat × (Nat → Nat) × (Nat → Nat) × (Nat → Nat → Nat))} {fd : Nat} {tp : Nat → Nat} {wr : Nat} {pp : Nat → Int32} {sz : Nat → Nat} {ce : Nat → Int64} {b c : Nat} {hX : List z_E} (h : y_CI n outs bm ms dr cn pl I fd tp wr pp sz ce hX) (hb : b < bm) (hc : c = 0 ∨ cn b < c) (hc2 : c < 2000000) : z_CAL 4 74 [.ref 0, .int (nI b), .int (nI c)] hX (fun r h2 => r = some (.int (-nI 2)) ∧ y_CI n outs bm ms dr cn pl I fd tp wr pp sz ce h2) := by
  refine y_CI_el (C := fun hX => z_CAL 4 74 [.ref 0, .int (nI b), .int (nI c)] hX (fun r h2 => r = some (.int (-nI 2)) ∧ y_CI n outs bm ms dr cn pl I fd tp wr pp sz ce h2)) h ?_
  intro ik kn ko kb km kd kc kpl p_rankings p_counts p_draw p_fors k_rankings k_counts k_draw k_fors d_size d_outs d_rule d_filled d_rankings d_counts d_draw d_fors w_size w_ins w_rule w_steps w_fors w_draw w_links w_best w_beaters w_distances w_route t_bytes t_next t_ranking t_count l_cells l_sizes s_bytes hfd hwr hik hIm hI hkI htp hz hsb hlc
  have hn8 := hI.1.2
  refine z_CAL_mono ?_ (c_X5_remove 0 hI)
  rintro r h2 ⟨R2, C2, F2, b2, v, rfl, rfl, q⟩
  have hb40 := hI.2.2.1
  have hcb := hI.2.2.2.2.2.1 b hb
  rcases q with ⟨-, -, -, -, -, x0⟩ | ⟨k, x1, x2, ⟨hv, rfl, rfl, rfl, rfl, x3⟩ | ⟨c2, bm2, cn2, pl2, x3, x4, x5, -⟩⟩
  · exact absurd ⟨b, hb, rfl⟩ x0
  · exact ⟨congrArg (fun z => some (Value.int z)) hv, (y_CI_mk hfd hwr hik hIm hI hkI htp hz hsb hlc)⟩
  · obtain rfl : b = k := z_nIj (by omega) (by omega) x2
    obtain rfl : c = c2 := z_nIj (by omega) (by omega) x5
    omega
theorem m_removeN {n : Nat} {outs : Nat} {bm : Nat} {ms : Nat} {dr : Nat → Nat} {cn : Nat → Nat} {pl : Nat → Nat → Nat} {I : Option (Nat × Nat × Nat × Nat × (Nat → Nat) × (Nat → Nat) × (Nat → Nat → Nat))} {fd : Nat} {tp : Nat → Nat} {wr : Nat} {pp : Nat → Int32} {sz : Nat → Nat} {ce : Nat → Int64} {b c : Nat} {hX : List z_E} (h : y_CI n outs bm ms dr cn pl I fd tp wr pp sz ce hX) (hb : bm ≤ b) (hb2 : b < 1000) : z_CAL 4 74 [.ref 0, .int (nI b), .int (nI c)] hX (fun r h2 => r = some (.int (-nI 1)) ∧ y_CI n outs bm ms dr cn pl I fd tp wr pp sz ce h2) := by
  refine y_CI_el (C := fun hX => z_CAL 4 74 [.ref 0, .int (nI b), .int (nI c)] hX (fun r h2 => r = some (.int (-nI 1)) ∧ y_CI n outs bm ms dr cn pl I fd tp wr pp sz ce h2)) h ?_
  intro ik kn ko kb km kd kc kpl p_rankings p_counts p_draw p_fors k_rankings k_counts k_draw k_fors d_size d_outs d_rule d_filled d_rankings d_counts d_draw d_fors w_size w_ins w_rule w_steps w_fors w_draw w_links w_best w_beaters w_distances w_route t_bytes t_next t_ranking t_count l_cells l_sizes s_bytes hfd hwr hik hIm hI hkI htp hz hsb hlc
  have hn8 := hI.1.2
  refine z_CAL_mono ?_ (c_X5_remove 0 hI)
  rintro r h2 ⟨R2, C2, F2, b2, v, rfl, rfl, q⟩
  have hb40 := hI.2.2.1
  rcases q with ⟨hv, rfl, rfl, rfl, rfl, x0⟩ | ⟨k, x1, x2, -⟩
  · exact ⟨congrArg (fun z => some (Value.int z)) hv, (y_CI_mk hfd hwr hik hIm hI hkI htp hz hsb hlc)⟩
  · obtain rfl : b = k := z_nIj (by omega) (by omega) x2
    omega
theorem m_winners2 {n : Nat} {outs : Nat} {bm : Nat} {ms : Nat} {dr : Nat → Nat} {cn : Nat → Nat} {pl : Nat → Nat → Nat} {I : Option (Nat × Nat × Nat × Nat × (Nat → Nat) × (Nat → Nat) × (Nat → Nat → Nat))} {fd : Nat} {tp : Nat → Nat} {wr : Nat} {pp : Nat → Int32} {sz : Nat → Nat} {ce : Nat → Int64}  {hX : List z_E} (h : y_CI n outs bm ms dr cn pl I fd tp wr pp sz ce hX) (e1 : n = 2) (e2 : outs = 0) (e3 : bm = 0) : z_CAL 5 79 [.ref 0] hX (fun r h2 => r = some (.int (nI 3)) ∧ y_CI n outs bm ms dr cn pl I fd tp wr pp sz ce h2) := by
  refine y_CI_el (C := fun hX => z_CAL 5 79 [.ref 0] hX (fun r h2 => r = some (.int (nI 3)) ∧ y_CI n outs bm ms dr cn pl I fd tp wr pp sz ce h2)) h ?_
  intro ik kn ko kb km kd kc kpl p_rankings p_counts p_draw p_fors k_rankings k_counts k_draw k_fors d_size d_outs d_rule d_filled d_rankings d_counts d_draw d_fors w_size w_ins w_rule w_steps w_fors w_draw w_links w_best w_beaters w_distances w_route t_bytes t_next t_ranking t_count l_cells l_sizes s_bytes hfd hwr hik hIm hI hkI htp hz hsb hlc
  have hn8 := hI.1.2
  subst e1 e2 e3
  refine z_CAL_mono ?_ (c_X5_winners 0 hI)
  rintro r h2 ⟨ws2, wi2, wr2, wst2, wf2, wd2, wl2, wb2, wt2, v, rfl, rfl, q⟩
  obtain ⟨K, x1, x2⟩ := q
  have hv : v = 3 := x2.trans (y_win2 x1)
  exact ⟨congrArg (fun z => some (Value.int (nI z))) hv, (y_CI_mk hfd hwr hik hIm hI hkI htp hz hsb hlc)⟩
theorem m_smith2 {n : Nat} {outs : Nat} {bm : Nat} {ms : Nat} {dr : Nat → Nat} {cn : Nat → Nat} {pl : Nat → Nat → Nat} {I : Option (Nat × Nat × Nat × Nat × (Nat → Nat) × (Nat → Nat) × (Nat → Nat → Nat))} {fd : Nat} {tp : Nat → Nat} {wr : Nat} {pp : Nat → Int32} {sz : Nat → Nat} {ce : Nat → Int64}  {hX : List z_E} (h : y_CI n outs bm ms dr cn pl I fd tp wr pp sz ce hX) (e1 : n = 2) (e2 : outs = 0) (e3 : bm = 0) : z_CAL 6 82 [.ref 0] hX (fun r h2 => r = some (.int (nI 3)) ∧ y_CI n outs bm ms dr cn pl I fd tp wr pp sz ce h2) := by
  refine y_CI_el (C := fun hX => z_CAL 6 82 [.ref 0] hX (fun r h2 => r = some (.int (nI 3)) ∧ y_CI n outs bm ms dr cn pl I fd tp wr pp sz ce h2)) h ?_
  intro ik kn ko kb km kd kc kpl p_rankings p_counts p_draw p_fors k_rankings k_counts k_draw k_fors d_size d_outs d_rule d_filled d_rankings d_counts d_draw d_fors w_size w_ins w_rule w_steps w_fors w_draw w_links w_best w_beaters w_distances w_route t_bytes t_next t_ranking t_count l_cells l_sizes s_bytes hfd hwr hik hIm hI hkI htp hz hsb hlc
  have hn8 := hI.1.2
  subst e1 e2 e3
  refine z_CAL_mono ?_ (c_X5_smith 0 hI)
  rintro r h2 ⟨ws2, wi2, wr2, wst2, wf2, wd2, wl2, wb2, wt2, v, rfl, rfl, q⟩
  have hv : v = 3 := y_smith2 q
  exact ⟨congrArg (fun z => some (Value.int (nI z))) hv, (y_CI_mk hfd hwr hik hIm hI hkI htp hz hsb hlc)⟩
theorem m_withoutS {n : Nat} {outs : Nat} {bm : Nat} {ms : Nat} {dr : Nat → Nat} {cn : Nat → Nat} {pl : Nat → Nat → Nat} {I : Option (Nat × Nat × Nat × Nat × (Nat → Nat) × (Nat → Nat) × (Nat → Nat → Nat))} {fd : Nat} {tp : Nat → Nat} {wr : Nat} {pp : Nat → Int32} {sz : Nat → Nat} {ce : Nat → Int64} {k : Nat} {hX : List z_E} (h : y_CI n outs bm ms dr cn pl I fd tp wr pp sz ce hX) (hk : k < n) (hne : z_dif (z_dif (2 ^ n - 1) outs) (2 ^ k) = 0) : z_CAL 5 84 [.ref 0, .int (nI k)] hX (fun r h2 => r = some (.int (-nI 3)) ∧ y_CI n outs bm ms dr cn pl I fd tp wr pp sz ce h2) := by
  refine y_CI_el (C := fun hX => z_CAL 5 84 [.ref 0, .int (nI k)] hX (fun r h2 => r = some (.int (-nI 3)) ∧ y_CI n outs bm ms dr cn pl I fd tp wr pp sz ce h2)) h ?_
  intro ik kn ko kb km kd kc kpl p_rankings p_counts p_draw p_fors k_rankings k_counts k_draw k_fors d_size d_outs d_rule d_filled d_rankings d_counts d_draw d_fors w_size w_ins w_rule w_steps w_fors w_draw w_links w_best w_beaters w_distances w_route t_bytes t_next t_ranking t_count l_cells l_sizes s_bytes hfd hwr hik hIm hI hkI htp hz hsb hlc
  have hn8 := hI.1.2
  refine z_CAL_mono ?_ (c_X5_without 0 hI)
  rintro r h2 ⟨ws2, wi2, wr2, wst2, wf2, wd2, wl2, wb2, wt2, v, rfl, rfl, q⟩
  rcases q with ⟨-, x0⟩ | ⟨a, x1, x2, ⟨y1, hv⟩ | ⟨y1, -⟩⟩
  · exact absurd ⟨k, hk, rfl⟩ x0
  · exact ⟨congrArg (fun z => some (Value.int z)) hv, (y_CI_mk hfd hwr hik hIm hI hkI htp hz hsb hlc)⟩
  · obtain rfl : k = a := z_nIj (by omega) (by omega) x2
    exact absurd hne y1
theorem m_listL {n : Nat} {outs : Nat} {bm : Nat} {ms : Nat} {dr : Nat → Nat} {cn : Nat → Nat} {pl : Nat → Nat → Nat} {I : Option (Nat × Nat × Nat × Nat × (Nat → Nat) × (Nat → Nat) × (Nat → Nat → Nat))} {fd : Nat} {tp : Nat → Nat} {wr : Nat} {pp : Nat → Int32} {sz : Nat → Nat} {ce : Nat → Int64}  {hX : List z_E} (h : y_CI n outs bm ms dr cn pl I fd tp wr pp sz ce hX) : z_CAL 3 86 [.ref 0, .int (nI 0), .int (-nI 1)] hX (fun r h2 => r = some (.int (-nI 14)) ∧ y_CI n outs bm ms dr cn pl I fd tp wr pp sz ce h2) := by
  refine y_CI_el (C := fun hX => z_CAL 3 86 [.ref 0, .int (nI 0), .int (-nI 1)] hX (fun r h2 => r = some (.int (-nI 14)) ∧ y_CI n outs bm ms dr cn pl I fd tp wr pp sz ce h2)) h ?_
  intro ik kn ko kb km kd kc kpl p_rankings p_counts p_draw p_fors k_rankings k_counts k_draw k_fors d_size d_outs d_rule d_filled d_rankings d_counts d_draw d_fors w_size w_ins w_rule w_steps w_fors w_draw w_links w_best w_beaters w_distances w_route t_bytes t_next t_ranking t_count l_cells l_sizes s_bytes hfd hwr hik hIm hI hkI htp hz hsb hlc
  have hn8 := hI.1.2
  refine z_CAL_mono ?_ (c_X5_list 0 hI)
  rintro r h2 ⟨ls2, lc2, v, rfl, rfl, q⟩
  rcases q with ⟨-, -, -, x0⟩ | ⟨l, x1, x2, ⟨y1, -⟩ | ⟨-, hv, rfl, rfl⟩ | ⟨k, y1, y2, -⟩⟩
  · exact absurd ⟨0, by decide, rfl⟩ x0
  · exact absurd y1 (by decide)
  · exact ⟨congrArg (fun z => some (Value.int z)) hv, (y_CI_mk hfd hwr hik hIm hI hkI htp hz hsb hlc)⟩
  · exact absurd (y2 ▸ (by decide : -nI 1 < 0)) (nI_pos (by omega))
theorem m_listB {n : Nat} {outs : Nat} {bm : Nat} {ms : Nat} {dr : Nat → Nat} {cn : Nat → Nat} {pl : Nat → Nat → Nat} {I : Option (Nat × Nat × Nat × Nat × (Nat → Nat) × (Nat → Nat) × (Nat → Nat → Nat))} {fd : Nat} {tp : Nat → Nat} {wr : Nat} {pp : Nat → Int32} {sz : Nat → Nat} {ce : Nat → Int64}  {hX : List z_E} (h : y_CI n outs bm ms dr cn pl I fd tp wr pp sz ce hX) : z_CAL 3 86 [.ref 0, .int (nI 0), .int (nI 41)] hX (fun r h2 => r = some (.int (-nI 2)) ∧ y_CI n outs bm ms dr cn pl I fd tp wr pp sz ce h2) := by
  refine y_CI_el (C := fun hX => z_CAL 3 86 [.ref 0, .int (nI 0), .int (nI 41)] hX (fun r h2 => r = some (.int (-nI 2)) ∧ y_CI n outs bm ms dr cn pl I fd tp wr pp sz ce h2)) h ?_
  intro ik kn ko kb km kd kc kpl p_rankings p_counts p_draw p_fors k_rankings k_counts k_draw k_fors d_size d_outs d_rule d_filled d_rankings d_counts d_draw d_fors w_size w_ins w_rule w_steps w_fors w_draw w_links w_best w_beaters w_distances w_route t_bytes t_next t_ranking t_count l_cells l_sizes s_bytes hfd hwr hik hIm hI hkI htp hz hsb hlc
  have hn8 := hI.1.2
  refine z_CAL_mono ?_ (c_X5_list 0 hI)
  rintro r h2 ⟨ls2, lc2, v, rfl, rfl, q⟩
  rcases q with ⟨-, -, -, x0⟩ | ⟨l, x1, x2, ⟨-, hv, rfl, rfl⟩ | ⟨y1, -⟩ | ⟨k, y1, y2, -⟩⟩
  · exact absurd ⟨0, by decide, rfl⟩ x0
  · exact ⟨congrArg (fun z => some (Value.int z)) hv, (y_CI_mk hfd hwr hik hIm hI hkI htp hz hsb hlc)⟩
  · exact absurd y1 (by decide)
  · have := z_nIj (a := 41) (b := k) (by omega) (by omega) y2
    omega
theorem m_list2 {n : Nat} {outs : Nat} {bm : Nat} {ms : Nat} {dr : Nat → Nat} {cn : Nat → Nat} {pl : Nat → Nat → Nat} {I : Option (Nat × Nat × Nat × Nat × (Nat → Nat) × (Nat → Nat) × (Nat → Nat → Nat))} {fd : Nat} {tp : Nat → Nat} {wr : Nat} {pp : Nat → Int32} {sz : Nat → Nat} {ce : Nat → Int64}  {hX : List z_E} (h : y_CI n outs bm ms dr cn pl I fd tp wr pp sz ce hX) : z_CAL 3 86 [.ref 0, .int (nI 0), .int (nI 2)] hX (fun r h2 => r = some (.int (nI 1)) ∧ y_CI n outs bm ms dr cn pl I fd tp wr pp (fun l => if l = 0 then 3 else sz l) (fun x => if x < 40 then lN 0 else ce x) h2) := by
  refine y_CI_el (C := fun hX => z_CAL 3 86 [.ref 0, .int (nI 0), .int (nI 2)] hX (fun r h2 => r = some (.int (nI 1)) ∧ y_CI n outs bm ms dr cn pl I fd tp wr pp (fun l => if l = 0 then 3 else sz l) (fun x => if x < 40 then lN 0 else ce x) h2)) h ?_
  intro ik kn ko kb km kd kc kpl p_rankings p_counts p_draw p_fors k_rankings k_counts k_draw k_fors d_size d_outs d_rule d_filled d_rankings d_counts d_draw d_fors w_size w_ins w_rule w_steps w_fors w_draw w_links w_best w_beaters w_distances w_route t_bytes t_next t_ranking t_count l_cells l_sizes s_bytes hfd hwr hik hIm hI hkI htp hz hsb hlc
  have hn8 := hI.1.2
  refine z_CAL_mono ?_ (c_X5_list 0 hI)
  rintro r h2 ⟨ls2, lc2, v, rfl, rfl, q⟩
  rcases q with ⟨-, -, -, x0⟩ | ⟨l, x1, x2, ⟨y1, -⟩ | ⟨y1, -⟩ | ⟨k, y1, y2, hv, rfl, y5⟩⟩
  · exact absurd ⟨0, by decide, rfl⟩ x0
  · exact absurd y1 (by decide)
  · exact absurd y1 (by decide)
  · obtain rfl : 0 = l := z_nIj (by omega) (by omega) x2
    obtain rfl : 2 = k := z_nIj (by omega) (by omega) y2
    exact ⟨congrArg (fun z => some (Value.int z)) hv, (y_CI_mk hfd hwr hik hIm hI hkI htp (y_LZ_start hz) hsb (fun x hx => by rw [y5 x]; split; exact (if_pos (by omega)).symm; exact (hlc x hx).trans (if_neg (by omega)).symm))⟩
theorem m_setN {n : Nat} {outs : Nat} {bm : Nat} {ms : Nat} {dr : Nat → Nat} {cn : Nat → Nat} {pl : Nat → Nat → Nat} {I : Option (Nat × Nat × Nat × Nat × (Nat → Nat) × (Nat → Nat) × (Nat → Nat → Nat))} {fd : Nat} {tp : Nat → Nat} {wr : Nat} {pp : Nat → Int32} {sz : Nat → Nat} {ce : Nat → Int64} {w : Int64} {hX : List z_E} (h : y_CI n outs bm ms dr cn pl I fd tp wr pp sz ce hX) (hs0 : sz 0 = 0) : z_CAL 5 87 [.ref 0, .int (nI 0), .int (nI 0), .long w] hX (fun r h2 => r = some (.int (-nI 11)) ∧ y_CI n outs bm ms dr cn pl I fd tp wr pp sz ce h2) := by
  refine y_CI_el (C := fun hX => z_CAL 5 87 [.ref 0, .int (nI 0), .int (nI 0), .long w] hX (fun r h2 => r = some (.int (-nI 11)) ∧ y_CI n outs bm ms dr cn pl I fd tp wr pp sz ce h2)) h ?_
  intro ik kn ko kb km kd kc kpl p_rankings p_counts p_draw p_fors k_rankings k_counts k_draw k_fors d_size d_outs d_rule d_filled d_rankings d_counts d_draw d_fors w_size w_ins w_rule w_steps w_fors w_draw w_links w_best w_beaters w_distances w_route t_bytes t_next t_ranking t_count l_cells l_sizes s_bytes hfd hwr hik hIm hI hkI htp hz hsb hlc
  have hn8 := hI.1.2
  refine z_CAL_mono ?_ (c_X5_set 0 hI hz)
  rintro r h2 ⟨lc2, r2, rfl, rfl, q⟩
  rcases q with ⟨-, -, x0⟩ | ⟨l, x1, x2, ⟨-, hv, rfl⟩ | ⟨y1, -⟩⟩
  · exact absurd ⟨0, by decide, rfl⟩ x0
  · exact ⟨congrArg (fun z => some (Value.int z)) hv, (y_CI_mk hfd hwr hik hIm hI hkI htp hz hsb hlc)⟩
  · obtain rfl : 0 = l := z_nIj (by omega) (by omega) x2
    exact absurd hs0 y1
theorem m_setB {n : Nat} {outs : Nat} {bm : Nat} {ms : Nat} {dr : Nat → Nat} {cn : Nat → Nat} {pl : Nat → Nat → Nat} {I : Option (Nat × Nat × Nat × Nat × (Nat → Nat) × (Nat → Nat) × (Nat → Nat → Nat))} {fd : Nat} {tp : Nat → Nat} {wr : Nat} {pp : Nat → Int32} {sz : Nat → Nat} {ce : Nat → Int64} {w : Int64} {hX : List z_E} (h : y_CI n outs bm ms dr cn pl I fd tp wr pp sz ce hX) (hs0 : sz 0 = 3) : z_CAL 5 87 [.ref 0, .int (nI 0), .int (nI 2), .long w] hX (fun r h2 => r = some (.int (-nI 13)) ∧ y_CI n outs bm ms dr cn pl I fd tp wr pp sz ce h2) := by
  refine y_CI_el (C := fun hX => z_CAL 5 87 [.ref 0, .int (nI 0), .int (nI 2), .long w] hX (fun r h2 => r = some (.int (-nI 13)) ∧ y_CI n outs bm ms dr cn pl I fd tp wr pp sz ce h2)) h ?_
  intro ik kn ko kb km kd kc kpl p_rankings p_counts p_draw p_fors k_rankings k_counts k_draw k_fors d_size d_outs d_rule d_filled d_rankings d_counts d_draw d_fors w_size w_ins w_rule w_steps w_fors w_draw w_links w_best w_beaters w_distances w_route t_bytes t_next t_ranking t_count l_cells l_sizes s_bytes hfd hwr hik hIm hI hkI htp hz hsb hlc
  have hn8 := hI.1.2
  refine z_CAL_mono ?_ (c_X5_set 0 hI hz)
  rintro r h2 ⟨lc2, r2, rfl, rfl, q⟩
  rcases q with ⟨-, -, x0⟩ | ⟨l, x1, x2, ⟨y1, -⟩ | ⟨y1, ⟨x, z1, z2, -⟩ | ⟨-, hv, rfl⟩⟩⟩
  · exact absurd ⟨0, by decide, rfl⟩ x0
  · obtain rfl : 0 = l := z_nIj (by omega) (by omega) x2
    omega
  · obtain rfl : 0 = l := z_nIj (by omega) (by omega) x2
    obtain rfl : 2 = x := z_nIj (by omega) (by omega) z2
    omega
  · exact ⟨congrArg (fun z => some (Value.int z)) hv, (y_CI_mk hfd hwr hik hIm hI hkI htp hz hsb hlc)⟩
theorem m_set1 {n : Nat} {outs : Nat} {bm : Nat} {ms : Nat} {dr : Nat → Nat} {cn : Nat → Nat} {pl : Nat → Nat → Nat} {I : Option (Nat × Nat × Nat × Nat × (Nat → Nat) × (Nat → Nat) × (Nat → Nat → Nat))} {fd : Nat} {tp : Nat → Nat} {wr : Nat} {pp : Nat → Int32} {sz : Nat → Nat} {ce : Nat → Int64} {w : Int64} {hX : List z_E} (h : y_CI n outs bm ms dr cn pl I fd tp wr pp sz ce hX) (hs0 : sz 0 = 3) : z_CAL 5 87 [.ref 0, .int (nI 0), .int (nI 1), .long w] hX (fun r h2 => r = some (.int (nI 1)) ∧ y_CI n outs bm ms dr cn pl I fd tp wr pp sz (fun x => if x = 1 then w else ce x) h2) := by
  refine y_CI_el (C := fun hX => z_CAL 5 87 [.ref 0, .int (nI 0), .int (nI 1), .long w] hX (fun r h2 => r = some (.int (nI 1)) ∧ y_CI n outs bm ms dr cn pl I fd tp wr pp sz (fun x => if x = 1 then w else ce x) h2)) h ?_
  intro ik kn ko kb km kd kc kpl p_rankings p_counts p_draw p_fors k_rankings k_counts k_draw k_fors d_size d_outs d_rule d_filled d_rankings d_counts d_draw d_fors w_size w_ins w_rule w_steps w_fors w_draw w_links w_best w_beaters w_distances w_route t_bytes t_next t_ranking t_count l_cells l_sizes s_bytes hfd hwr hik hIm hI hkI htp hz hsb hlc
  have hn8 := hI.1.2
  refine z_CAL_mono ?_ (c_X5_set 0 hI hz)
  rintro r h2 ⟨lc2, r2, rfl, rfl, q⟩
  rcases q with ⟨-, -, x0⟩ | ⟨l, x1, x2, ⟨y1, -⟩ | ⟨y1, ⟨x, z1, z2, hv, rfl⟩ | ⟨z1, -⟩⟩⟩
  · exact absurd ⟨0, by decide, rfl⟩ x0
  · obtain rfl : 0 = l := z_nIj (by omega) (by omega) x2
    omega
  · obtain rfl : 0 = l := z_nIj (by omega) (by omega) x2
    obtain rfl : 1 = x := z_nIj (by omega) (by omega) z2
    exact ⟨congrArg (fun z => some (Value.int z)) hv, (y_CI_mk hfd hwr hik hIm hI hkI htp hz hsb (fun x hx => by unfold vp_updL; by_cases e : x = 1; exact (if_pos (show x = 40 * 0 + 1 by omega)).trans (if_pos e).symm; exact (if_neg (show ¬ x = 40 * 0 + 1 by omega)).trans ((hlc x hx).trans (if_neg e).symm)))⟩
  · obtain rfl : 0 = l := z_nIj (by omega) (by omega) x2
    exact absurd ⟨1, by omega, rfl⟩ z1
theorem m_get0 {n : Nat} {outs : Nat} {bm : Nat} {ms : Nat} {dr : Nat → Nat} {cn : Nat → Nat} {pl : Nat → Nat → Nat} {I : Option (Nat × Nat × Nat × Nat × (Nat → Nat) × (Nat → Nat) × (Nat → Nat → Nat))} {fd : Nat} {tp : Nat → Nat} {wr : Nat} {pp : Nat → Int32} {sz : Nat → Nat} {ce : Nat → Int64} {x : Nat} {hX : List z_E} (h : y_CI n outs bm ms dr cn pl I fd tp wr pp sz ce hX) (hs0 : sz 0 = 3) (hx : x < 2) : z_CAL 5 88 [.ref 0, .int (nI 0), .int (nI x)] hX (fun r h2 => r = some (.long (ce x)) ∧ y_CI n outs bm ms dr cn pl I fd tp wr pp sz ce h2) := by
  refine y_CI_el (C := fun hX => z_CAL 5 88 [.ref 0, .int (nI 0), .int (nI x)] hX (fun r h2 => r = some (.long (ce x)) ∧ y_CI n outs bm ms dr cn pl I fd tp wr pp sz ce h2)) h ?_
  intro ik kn ko kb km kd kc kpl p_rankings p_counts p_draw p_fors k_rankings k_counts k_draw k_fors d_size d_outs d_rule d_filled d_rankings d_counts d_draw d_fors w_size w_ins w_rule w_steps w_fors w_draw w_links w_best w_beaters w_distances w_route t_bytes t_next t_ranking t_count l_cells l_sizes s_bytes hfd hwr hik hIm hI hkI htp hz hsb hlc
  have hn8 := hI.1.2
  refine z_CAL_mono ?_ (c_X5_get 0 hI hz)
  rintro r h2 ⟨v, rfl, rfl, q⟩
  rcases q with ⟨-, x0⟩ | ⟨l, y, x1, x2, x3, x4, x5⟩
  · exact absurd ⟨0, x, by decide, rfl, by omega, rfl⟩ x0
  · obtain rfl : 0 = l := z_nIj (by omega) (by omega) x2
    obtain rfl : x = y := z_nIj (by omega) (by omega) x4
    have hv : v = ce x := x5.trans ((congrArg l_cells (by omega)).trans (hlc x (by omega)))
    exact ⟨congrArg (fun z => some (Value.long z)) hv, (y_CI_mk hfd hwr hik hIm hI hkI htp hz hsb hlc)⟩
theorem m_getN {n : Nat} {outs : Nat} {bm : Nat} {ms : Nat} {dr : Nat → Nat} {cn : Nat → Nat} {pl : Nat → Nat → Nat} {I : Option (Nat × Nat × Nat × Nat × (Nat → Nat) × (Nat → Nat) × (Nat → Nat → Nat))} {fd : Nat} {tp : Nat → Nat} {wr : Nat} {pp : Nat → Int32} {sz : Nat → Nat} {ce : Nat → Int64}  {hX : List z_E} (h : y_CI n outs bm ms dr cn pl I fd tp wr pp sz ce hX) (hs0 : sz 0 = 0) : z_CAL 5 88 [.ref 0, .int (nI 0), .int (nI 0)] hX (fun r h2 => r = some (.long (-lN 9223372036854775808)) ∧ y_CI n outs bm ms dr cn pl I fd tp wr pp sz ce h2) := by
  refine y_CI_el (C := fun hX => z_CAL 5 88 [.ref 0, .int (nI 0), .int (nI 0)] hX (fun r h2 => r = some (.long (-lN 9223372036854775808)) ∧ y_CI n outs bm ms dr cn pl I fd tp wr pp sz ce h2)) h ?_
  intro ik kn ko kb km kd kc kpl p_rankings p_counts p_draw p_fors k_rankings k_counts k_draw k_fors d_size d_outs d_rule d_filled d_rankings d_counts d_draw d_fors w_size w_ins w_rule w_steps w_fors w_draw w_links w_best w_beaters w_distances w_route t_bytes t_next t_ranking t_count l_cells l_sizes s_bytes hfd hwr hik hIm hI hkI htp hz hsb hlc
  have hn8 := hI.1.2
  refine z_CAL_mono ?_ (c_X5_get 0 hI hz)
  rintro r h2 ⟨v, rfl, rfl, q⟩
  rcases q with ⟨hv, -⟩ | ⟨l, y, x1, x2, x3, -⟩
  · exact ⟨congrArg (fun z => some (Value.long z)) hv, (y_CI_mk hfd hwr hik hIm hI hkI htp hz hsb hlc)⟩
  · obtain rfl : 0 = l := z_nIj (by omega) (by omega) x2
    omega
