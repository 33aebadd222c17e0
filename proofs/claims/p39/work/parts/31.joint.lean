/-! class and reference, side by side -/
theorem z_nIj {a b : Nat} (ha : a < 2 ^ 31) (hb : b < 2 ^ 31) (h : nI a = nI b) : a = b := (nI_eq ha hb).mp h
theorem z_DS_le {L : Nat → Nat → Nat} {n t j : Nat} {D D2 : Nat → Nat} (h : z_DS L n t j D) (h2 : z_DS L n t j D2) : ∀ (d c : Nat), c < n → D c = d → d < 8 → D2 c ≤ d
  | 0, c, hc, e, _ => by
    rw [((h2.1 c hc).2).mpr (((h.1 c hc).2).mp e)]
    exact Nat.le_refl 0
  | d + 1, c, hc, e, hd => by
    obtain ⟨k, hk, e2, ht⟩ := h.2.1 c hc (by omega) (by omega)
    have h3 := z_DS_le h h2 d k hk (by omega) (by omega)
    have h4 := h2.2.2 c hc k hk (by omega) ht
    omega
theorem z_DS_eq {L : Nat → Nat → Nat} {n t j c : Nat} {D D2 : Nat → Nat} (h : z_DS L n t j D) (h2 : z_DS L n t j D2) (hc : c < n) (h8 : D c < 8) : D2 c = D c := by
  have h3 := z_DS_le h h2 (D c) c hc rfl h8
  have h4 := z_DS_le h2 h (D2 c) c hc rfl (by omega)
  omega
theorem z_nx_eq {L : Nat → Nat → Nat} {n t j c x y : Nat} {D D2 : Nat → Nat} (h : z_DS L n t j D) (h2 : z_DS L n t j D2) (hc : c < n) (h8 : D c < 8) (hx : z_nx L n t D c x) (hy : z_nx L n t D2 c y) : x = y := by
  obtain ⟨x1, x2, x3, x4⟩ := hx
  obtain ⟨y1, y2, y3, y4⟩ := hy
  have e := z_DS_eq h h2 hc h8
  have ex := z_DS_eq h h2 x1 (by omega)
  have ey := z_DS_eq h2 h y1 (by omega)
  rcases Nat.lt_trichotomy x y with q | q | q
  · exact absurd ⟨by omega, x3⟩ (y4 x q)
  · exact q
  · exact absurd ⟨by omega, y3⟩ (x4 y q)
theorem z_WAY_uniq {L : Nat → Nat → Nat} {n a b : Nat} {K K2 : Nat → Nat → Nat} {D D2 rw rw2 : Nat → Nat} (ha : a < n) (e : K a b = K2 a b) (h : z_WAY L n K a b D rw) (h2 : z_WAY L n K2 a b D2 rw2) : D2 a = D a ∧ ∀ k, k < D a + 1 → rw2 k = rw k := by
  obtain ⟨a1, a2, a3, a4, a5⟩ := h
  obtain ⟨b1, b2, b3, b4, b5⟩ := h2
  rw [← e] at b2 b4
  have eD := z_DS_eq a2 b2 ha a3
  refine ⟨eD, ?_⟩
  have key : ∀ k, k < D a + 1 → rw2 k = rw k ∧ D (rw k) < 8 := by
    intro k
    induction k with
    | zero => intro _; rw [b4.1, a4.1]; exact ⟨rfl, a3⟩
    | succ k ih =>
      intro hk
      obtain ⟨e1, e2⟩ := ih (by omega)
      have s1 := a4.2 k (by omega)
      have s2 := b4.2 k (by omega)
      rw [e1] at s2
      refine ⟨(z_nx_eq a2 b2 (a5 k (by omega)) e2 s1 s2).symm, ?_⟩
      have := s1.2.1
      omega
  exact fun k hk => (key k hk).1
theorem z_ba_congr {n i j : Nat} {K K2 : Nat → Nat → Nat} (hi : i < n) (hj : j < n) (h : ∀ a, a < n → ∀ b, b < n → K a b = K2 a b) : z_ba n K i j = z_ba n K2 i j := by
  unfold z_ba
  rw [z_set_congr (q := fun c => decide (c ≠ i ∧ K2 i j < K2 i c))]
  intro c hc
  rw [h i hi j hj, h i hi c hc]
theorem z_btb_congr {n i j : Nat} {K K2 : Nat → Nat → Nat} (hi : i < n) (hj : j < n) (h : ∀ a, a < n → ∀ b, b < n → K a b = K2 a b) : z_btb K i j = z_btb K2 i j := by
  unfold z_btb
  rw [h i hi j hj, h j hj i hi]
theorem z_lay_uniq {c1 c2 i1 i2 : Nat → Int64} {l q s m rm bar : Nat} {rw rw2 : Nat → Nat} (hl : l < 4) (hq : s ≤ 41) (hc : ∀ x, x < 160 → c1 x = i1 x) (hr : ∀ k, k < rm → rw2 k = rw k) (h : z_lay c1 c2 l q s m rm rw bar) (h2 : z_lay i1 i2 l q s m rm rw2 bar) : ∀ x, x < 160 → c2 x = i2 x := by
  intro x hx
  rw [h x, h2 x, hc x hx]
  split
  · have : z_pn rm rw bar (x - (40 * l + q)) = z_pn rm rw2 bar (x - (40 * l + q)) := by
      unfold z_pn
      split
      · rfl
      · split
        · rw [hr _ (by omega)]
        · rfl
    rw [this]
  · rfl

/-- what the tape holds -/
def z_TB (tb : Nat → Int32) (fd : Nat) (tp : Nat → Nat) : Prop := ∀ k, k < fd → tb k = nI (tp k) ∧ 1 ≤ tp k ∧ tp k ≤ 127
theorem z_TB_0 {tb : Nat → Int32} {tp : Nat → Nat} : z_TB tb 0 tp := fun k hk => absurd hk (Nat.not_lt_zero k)
theorem z_TB_put {tb : Nat → Int32} {fd c : Nat} {tp : Nat → Nat} (h : z_TB tb fd tp) (h1 : 1 ≤ c) (h2 : c ≤ 127) : z_TB (upd tb fd (nI c)) (fd + 1) (fun x => if x = fd then c else tp x) := by
  intro k hk
  unfold upd
  by_cases e : k = fd
  · rw [if_pos e]
    show nI c = nI (if k = fd then c else tp k) ∧ 1 ≤ (if k = fd then c else tp k) ∧ (if k = fd then c else tp k) ≤ 127
    rw [if_pos e]
    exact ⟨rfl, h1, h2⟩
  · rw [if_neg e]
    show tb k = nI (if k = fd then c else tp k) ∧ 1 ≤ (if k = fd then c else tp k) ∧ (if k = fd then c else tp k) ≤ 127
    rw [if_neg e]
    exact h k (by omega)
theorem z_LZ_put {lz : Nat → Int32} {sz : Nat → Nat} {q k : Nat} (h : z_LZ lz sz) (hk : k ≤ 40) : z_LZ (upd lz q (nI k)) (fun x => if x = q then k + 1 else sz x) := by
  intro l hl
  unfold upd
  by_cases e : l = q
  · rw [if_pos e]
    show nI k = z_lz (if l = q then k + 1 else sz l) ∧ (if l = q then k + 1 else sz l) ≤ 41
    rw [if_pos e]
    exact ⟨by unfold z_lz; rw [if_neg (by omega)]; rfl, by omega⟩
  · rw [if_neg e]
    show lz l = z_lz (if l = q then k + 1 else sz l) ∧ (if l = q then k + 1 else sz l) ≤ 41
    rw [if_neg e]
    exact h l hl
theorem z_lesS_uniq {bm b c bm2 bm3 : Nat} {cn cn2 cn3 : Nat → Nat} {pl pl2 pl3 : Nat → Nat → Nat} (h : z_lesS bm cn pl b c bm2 cn2 pl2) (h2 : z_lesS bm cn pl b c bm3 cn3 pl3) : bm2 = bm3 ∧ cn2 = cn3 ∧ pl2 = pl3 := by
  rcases h with ⟨a1, a2, a3, a4⟩ | ⟨a1, a2, a3, a4⟩
  · rcases h2 with ⟨b1, b2, b3, b4⟩ | ⟨b1, b2, b3, b4⟩
    · exact ⟨a2.trans b2.symm, a3.trans b3.symm, a4.trans b4.symm⟩
    · omega
  · rcases h2 with ⟨b1, b2, b3, b4⟩ | ⟨b1, b2, b3, b4⟩
    · omega
    · exact ⟨a2.trans b2.symm, a3.trans b3.symm, a4.trans b4.symm⟩
/-- class and reference stand for the same -/
def z_JI (hX hM : List z_E) : Prop := ∃ (n : Nat) (outs : Nat) (bm : Nat) (ms : Nat) (dr : Nat → Nat) (cn : Nat → Nat) (pl : Nat → Nat → Nat) (ik : Nat) (kn : Nat) (ko : Nat) (kb : Nat) (km : Nat) (kd : Nat → Nat) (kc : Nat → Nat) (kpl : Nat → Nat → Nat) (fd : Nat) (tp : Nat → Nat) (wr : Nat) (pp : Nat → Int32) (sz : Nat → Nat) (ce : Nat → Int64), (fd ≤ 120 ∧ wr ≤ 16 ∧ ik < 2) ∧ (∃ (p_rankings : Nat → Int32) (p_counts : Nat → Int32) (p_draw : Nat → Int32) (p_fors : Nat → Int32) (k_rankings : Nat → Int32) (k_counts : Nat → Int32) (k_draw : Nat → Int32) (k_fors : Nat → Int32) (d_size : Int32) (d_outs : Int32) (d_rule : Int32) (d_filled : Int32) (d_rankings : Nat → Int32) (d_counts : Nat → Int32) (d_draw : Nat → Int32) (d_fors : Nat → Int32) (w_size : Int32) (w_ins : Int32) (w_rule : Int32) (w_steps : Int32) (w_fors : Nat → Int32) (w_draw : Nat → Int32) (w_links : Nat → Int64) (w_best : Nat → Int64) (w_beaters : Nat → Int32) (w_distances : Nat → Int32) (w_route : Nat → Int32) (t_bytes : Nat → Int32) (t_next : Int32) (t_ranking : Int32) (t_count : Int32) (l_cells : Nat → Int64) (l_sizes : Nat → Int32) (s_bytes : Nat → Int32), hX = (CH (nI n) (nI outs) (nI ms) (nI bm) p_rankings p_counts p_draw p_fors (nI kn) (nI ko) (nI km) (nI kb) k_rankings k_counts k_draw k_fors d_size d_outs d_rule d_filled d_rankings d_counts d_draw d_fors w_size w_ins w_rule w_steps w_fors w_draw w_links w_best w_beaters w_distances w_route t_bytes (nI fd) t_next t_ranking t_count l_cells l_sizes s_bytes (nI wr) (nI ik)) ∧ z_PI p_rankings p_counts p_draw p_fors n outs bm ms dr cn pl ∧ (ik = 1 → z_PI k_rankings k_counts k_draw k_fors kn ko kb km kd kc kpl) ∧ z_TB t_bytes fd tp ∧ z_LZ l_sizes sz ∧ (∀ k, k < wr → s_bytes k = pp k) ∧ (∀ x, x < 160 → l_cells x = ce x)) ∧ ∃ (g : Nat → Int32) (kept : Nat → Int32) (was : Nat → Int32) (tape : Nat → Int32) (flt : Int32) (ranking : Nat → Int32) (paper : Nat → Int32) (pairs : Nat → Int64) (above : Nat → Int64) (below : Nat → Int64) (isDone : Nat → Int32) (dist : Nat → Int32) (rowv : Nat → Int32) (rowMany : Int32) (lsz : Nat → Int32) (itm : Nat → Int64) (weakAbove : Int64) (weakBelow : Int64) (ps : Nat) (tl : Nat), hM = (MH g kept was (nI ik) tape (nI fd) (nI ps) (nI tl) flt ranking paper (nI wr) pairs above below isDone dist rowv rowMany lsz itm weakAbove weakBelow) ∧ ps ≤ tl ∧ tl ≤ 120 ∧ z_GI g n outs bm ms dr cn pl ∧ (ik = 1 → z_GI kept kn ko kb km kd kc kpl) ∧ z_TB tape fd tp ∧ z_LZ lsz sz ∧ (∀ k, k < wr → paper k = pp k) ∧ (∀ x, x < 160 → itm x = ce x)
theorem z_JI_mk {n : Nat} {outs : Nat} {bm : Nat} {ms : Nat} {dr : Nat → Nat} {cn : Nat → Nat} {pl : Nat → Nat → Nat} {ik : Nat} {kn : Nat} {ko : Nat} {kb : Nat} {km : Nat} {kd : Nat → Nat} {kc : Nat → Nat} {kpl : Nat → Nat → Nat} {fd : Nat} {tp : Nat → Nat} {wr : Nat} {pp : Nat → Int32} {sz : Nat → Nat} {ce : Nat → Int64} {p_rankings : Nat → Int32} {p_counts : Nat → Int32} {p_draw : Nat → Int32} {p_fors : Nat → Int32} {k_rankings : Nat → Int32} {k_counts : Nat → Int32} {k_draw : Nat → Int32} {k_fors : Nat → Int32} {d_size : Int32} {d_outs : Int32} {d_rule : Int32} {d_filled : Int32} {d_rankings : Nat → Int32} {d_counts : Nat → Int32} {d_draw : Nat → Int32} {d_fors : Nat → Int32} {w_size : Int32} {w_ins : Int32} {w_rule : Int32} {w_steps : Int32} {w_fors : Nat → Int32} {w_draw : Nat → Int32} {w_links : Nat → Int64} {w_best : Nat → Int64} {w_beaters : Nat → Int32} {w_distances : Nat → Int32} {w_route : Nat → Int32} {t_bytes : Nat → Int32} {t_next : Int32} {t_ranking : Int32} {t_count : Int32} {l_cells : Nat → Int64} {l_sizes : Nat → Int32} {s_bytes : Nat → Int32} {g : Nat → Int32} {kept : Nat → Int32} {was : Nat → Int32} {tape : Nat → Int32} {flt : Int32} {ranking : Nat → Int32} {paper : Nat → Int32} {pairs : Nat → Int64} {above : Nat → Int64} {below : Nat → Int64} {isDone : Nat → Int32} {dist : Nat → Int32} {rowv : Nat → Int32} {rowMany : Int32} {lsz : Nat → Int32} {itm : Nat → Int64} {weakAbove : Int64} {weakBelow : Int64} {ps : Nat} {tl : Nat} (hfd : fd ≤ 120) (hwr : wr ≤ 16) (hik : ik < 2) (hI : z_PI p_rankings p_counts p_draw p_fors n outs bm ms dr cn pl) (hkI : (ik = 1 → z_PI k_rankings k_counts k_draw k_fors kn ko kb km kd kc kpl)) (htp : z_TB t_bytes fd tp) (hz : z_LZ l_sizes sz) (hsb : (∀ k, k < wr → s_bytes k = pp k)) (hlc : (∀ x, x < 160 → l_cells x = ce x)) (hps : ps ≤ tl) (htl : tl ≤ 120) (hG : z_GI g n outs bm ms dr cn pl) (hkG : (ik = 1 → z_GI kept kn ko kb km kd kc kpl)) (htpM : z_TB tape fd tp) (hzM : z_LZ lsz sz) (hpp : (∀ k, k < wr → paper k = pp k)) (hit : (∀ x, x < 160 → itm x = ce x)) : z_JI (CH (nI n) (nI outs) (nI ms) (nI bm) p_rankings p_counts p_draw p_fors (nI kn) (nI ko) (nI km) (nI kb) k_rankings k_counts k_draw k_fors d_size d_outs d_rule d_filled d_rankings d_counts d_draw d_fors w_size w_ins w_rule w_steps w_fors w_draw w_links w_best w_beaters w_distances w_route t_bytes (nI fd) t_next t_ranking t_count l_cells l_sizes s_bytes (nI wr) (nI ik)) (MH g kept was (nI ik) tape (nI fd) (nI ps) (nI tl) flt ranking paper (nI wr) pairs above below isDone dist rowv rowMany lsz itm weakAbove weakBelow) := ⟨n, outs, bm, ms, dr, cn, pl, ik, kn, ko, kb, km, kd, kc, kpl, fd, tp, wr, pp, sz, ce, ⟨hfd, hwr, hik⟩, ⟨p_rankings, p_counts, p_draw, p_fors, k_rankings, k_counts, k_draw, k_fors, d_size, d_outs, d_rule, d_filled, d_rankings, d_counts, d_draw, d_fors, w_size, w_ins, w_rule, w_steps, w_fors, w_draw, w_links, w_best, w_beaters, w_distances, w_route, t_bytes, t_next, t_ranking, t_count, l_cells, l_sizes, s_bytes, rfl, hI, hkI, htp, hz, hsb, hlc⟩, ⟨g, kept, was, tape, flt, ranking, paper, pairs, above, below, isDone, dist, rowv, rowMany, lsz, itm, weakAbove, weakBelow, ps, tl, rfl, hps, htl, hG, hkG, htpM, hzM, hpp, hit⟩⟩
theorem z_JI_el {C : List z_E → List z_E → Prop} {hX hM : List z_E} (h : z_JI hX hM) (k : ∀ (n : Nat) (outs : Nat) (bm : Nat) (ms : Nat) (dr : Nat → Nat) (cn : Nat → Nat) (pl : Nat → Nat → Nat) (ik : Nat) (kn : Nat) (ko : Nat) (kb : Nat) (km : Nat) (kd : Nat → Nat) (kc : Nat → Nat) (kpl : Nat → Nat → Nat) (fd : Nat) (tp : Nat → Nat) (wr : Nat) (pp : Nat → Int32) (sz : Nat → Nat) (ce : Nat → Int64) (p_rankings : Nat → Int32) (p_counts : Nat → Int32) (p_draw : Nat → Int32) (p_fors : Nat → Int32) (k_rankings : Nat → Int32) (k_counts : Nat → Int32) (k_draw : Nat → Int32) (k_fors : Nat → Int32) (d_size : Int32) (d_outs : Int32) (d_rule : Int32) (d_filled : Int32) (d_rankings : Nat → Int32) (d_counts : Nat → Int32) (d_draw : Nat → Int32) (d_fors : Nat → Int32) (w_size : Int32) (w_ins : Int32) (w_rule : Int32) (w_steps : Int32) (w_fors : Nat → Int32) (w_draw : Nat → Int32) (w_links : Nat → Int64) (w_best : Nat → Int64) (w_beaters : Nat → Int32) (w_distances : Nat → Int32) (w_route : Nat → Int32) (t_bytes : Nat → Int32) (t_next : Int32) (t_ranking : Int32) (t_count : Int32) (l_cells : Nat → Int64) (l_sizes : Nat → Int32) (s_bytes : Nat → Int32) (g : Nat → Int32) (kept : Nat → Int32) (was : Nat → Int32) (tape : Nat → Int32) (flt : Int32) (ranking : Nat → Int32) (paper : Nat → Int32) (pairs : Nat → Int64) (above : Nat → Int64) (below : Nat → Int64) (isDone : Nat → Int32) (dist : Nat → Int32) (rowv : Nat → Int32) (rowMany : Int32) (lsz : Nat → Int32) (itm : Nat → Int64) (weakAbove : Int64) (weakBelow : Int64) (ps : Nat) (tl : Nat), fd ≤ 120 → wr ≤ 16 → ik < 2 → z_PI p_rankings p_counts p_draw p_fors n outs bm ms dr cn pl → (ik = 1 → z_PI k_rankings k_counts k_draw k_fors kn ko kb km kd kc kpl) → z_TB t_bytes fd tp → z_LZ l_sizes sz → (∀ k, k < wr → s_bytes k = pp k) → (∀ x, x < 160 → l_cells x = ce x) → ps ≤ tl → tl ≤ 120 → z_GI g n outs bm ms dr cn pl → (ik = 1 → z_GI kept kn ko kb km kd kc kpl) → z_TB tape fd tp → z_LZ lsz sz → (∀ k, k < wr → paper k = pp k) → (∀ x, x < 160 → itm x = ce x) → C (CH (nI n) (nI outs) (nI ms) (nI bm) p_rankings p_counts p_draw p_fors (nI kn) (nI ko) (nI km) (nI kb) k_rankings k_counts k_draw k_fors d_size d_outs d_rule d_filled d_rankings d_counts d_draw d_fors w_size w_ins w_rule w_steps w_fors w_draw w_links w_best w_beaters w_distances w_route t_bytes (nI fd) t_next t_ranking t_count l_cells l_sizes s_bytes (nI wr) (nI ik)) (MH g kept was (nI ik) tape (nI fd) (nI ps) (nI tl) flt ranking paper (nI wr) pairs above below isDone dist rowv rowMany lsz itm weakAbove weakBelow)) : C hX hM := by
  refine h.elim fun n h => h.elim fun outs h => h.elim fun bm h => h.elim fun ms h => h.elim fun dr h => h.elim fun cn h => h.elim fun pl h => h.elim fun ik h => h.elim fun kn h => h.elim fun ko h => h.elim fun kb h => h.elim fun km h => h.elim fun kd h => h.elim fun kc h => h.elim fun kpl h => h.elim fun fd h => h.elim fun tp h => h.elim fun wr h => h.elim fun pp h => h.elim fun sz h => h.elim fun ce h => ?_
  obtain ⟨⟨hfd, hwr, hik⟩, hx, hm⟩ := h
  refine hx.elim fun p_rankings hx => hx.elim fun p_counts hx => hx.elim fun p_draw hx => hx.elim fun p_fors hx => hx.elim fun k_rankings hx => hx.elim fun k_counts hx => hx.elim fun k_draw hx => hx.elim fun k_fors hx => hx.elim fun d_size hx => hx.elim fun d_outs hx => hx.elim fun d_rule hx => hx.elim fun d_filled hx => hx.elim fun d_rankings hx => hx.elim fun d_counts hx => hx.elim fun d_draw hx => hx.elim fun d_fors hx => hx.elim fun w_size hx => hx.elim fun w_ins hx => hx.elim fun w_rule hx => hx.elim fun w_steps hx => hx.elim fun w_fors hx => hx.elim fun w_draw hx => hx.elim fun w_links hx => hx.elim fun w_best hx => hx.elim fun w_beaters hx => hx.elim fun w_distances hx => hx.elim fun w_route hx => hx.elim fun t_bytes hx => hx.elim fun t_next hx => hx.elim fun t_ranking hx => hx.elim fun t_count hx => hx.elim fun l_cells hx => hx.elim fun l_sizes hx => hx.elim fun s_bytes hx => ?_
  obtain ⟨rfl, hI, hkI, htp, hz, hsb, hlc⟩ := hx
  refine hm.elim fun g hm => hm.elim fun kept hm => hm.elim fun was hm => hm.elim fun tape hm => hm.elim fun flt hm => hm.elim fun ranking hm => hm.elim fun paper hm => hm.elim fun pairs hm => hm.elim fun above hm => hm.elim fun below hm => hm.elim fun isDone hm => hm.elim fun dist hm => hm.elim fun rowv hm => hm.elim fun rowMany hm => hm.elim fun lsz hm => hm.elim fun itm hm => hm.elim fun weakAbove hm => hm.elim fun weakBelow hm => hm.elim fun ps hm => hm.elim fun tl hm => ?_
  obtain ⟨rfl, hps, htl, hG, hkG, htpM, hzM, hpp, hit⟩ := hm
  exact k n outs bm ms dr cn pl ik kn ko kb km kd kc kpl fd tp wr pp sz ce p_rankings p_counts p_draw p_fors k_rankings k_counts k_draw k_fors d_size d_outs d_rule d_filled d_rankings d_counts d_draw d_fors w_size w_ins w_rule w_steps w_fors w_draw w_links w_best w_beaters w_distances w_route t_bytes t_next t_ranking t_count l_cells l_sizes s_bytes g kept was tape flt ranking paper pairs above below isDone dist rowv rowMany lsz itm weakAbove weakBelow ps tl hfd hwr hik hI hkI htp hz hsb hlc hps htl hG hkG htpM hzM hpp hit
/-- a call of the class and the same of the reference -/
def z_TW (e : Prop) (yX yM : Nat) (av : List Value) (hX hM : List z_E) : Prop := ∃ PX PM : z_T, z_CAL 60 yX (.ref 0 :: av) hX PX ∧ z_CAL 60 yM (.ref 0 :: av) hM PM ∧ ∀ r hX2 r2 hM2, PX r hX2 → PM r2 hM2 → z_JI hX2 hM2 ∧ (e → r = r2)
theorem pr_begin {hX hM : List z_E} (hJ : z_JI hX hM) (a1 : Int32) : z_TW True 77 141 [.int a1] hX hM := by
  refine z_JI_el (C := fun hX hM => z_TW True 77 141 [.int a1] hX hM) hJ ?_
  intro n outs bm ms dr cn pl ik kn ko kb km kd kc kpl fd tp wr pp sz ce p_rankings p_counts p_draw p_fors k_rankings k_counts k_draw k_fors d_size d_outs d_rule d_filled d_rankings d_counts d_draw d_fors w_size w_ins w_rule w_steps w_fors w_draw w_links w_best w_beaters w_distances w_route t_bytes t_next t_ranking t_count l_cells l_sizes s_bytes g kept was tape flt ranking paper pairs above below isDone dist rowv rowMany lsz itm weakAbove weakBelow ps tl hfd hwr hik hI hkI htp hz hsb hlc hps htl hG hkG htpM hzM hpp hit
  have hn8 := hI.1.2
  refine ⟨_, _, c_X5_begin 57 hI, c_X6_begin 58 hG, ?_⟩
  rintro r hX2 r2 hM2 ⟨n2X, o2X, b2X, d2X, f2X, vX, rfl, rfl, qX⟩ ⟨g2M, vM, rfl, rfl, qM⟩
  rcases qX with ⟨x0, x1, x2, x3, x4, x5, x6⟩ | ⟨k, x1, x2, x3, x4, x5, x6, x7, x8⟩
  · rcases qM with ⟨y0, y1, y2⟩ | ⟨k2, y1, y2, y3, y4, y5⟩
    · subst x2 x3 x4 x5 x6 y2
      exact ⟨(z_JI_mk hfd hwr hik hI hkI htp hz hsb hlc hps htl hG hkG htpM hzM hpp hit), fun _ => by rw [x1, y1]⟩
    · exact absurd ⟨k2, y1, y2, y3⟩ x0
  · rcases qM with ⟨y0, y1, y2⟩ | ⟨k2, y1, y2, y3, y4, y5⟩
    · exact absurd ⟨k, x1, x2, x3⟩ y0
    · have ek := z_nIj (by omega) (by omega) (x3.symm.trans y3)
      subst ek
      subst x5 x6 x7
      exact ⟨(z_JI_mk hfd hwr hik (x8 cn pl) hkI htp hz hsb hlc hps htl (y5 cn pl) hkG htpM hzM hpp hit), fun _ => by rw [x4, y4]⟩
theorem pr_out {hX hM : List z_E} (hJ : z_JI hX hM) (a1 : Int32) (a2 : Int32) : z_TW True 78 142 [.int a1, .int a2] hX hM := by
  refine z_JI_el (C := fun hX hM => z_TW True 78 142 [.int a1, .int a2] hX hM) hJ ?_
  intro n outs bm ms dr cn pl ik kn ko kb km kd kc kpl fd tp wr pp sz ce p_rankings p_counts p_draw p_fors k_rankings k_counts k_draw k_fors d_size d_outs d_rule d_filled d_rankings d_counts d_draw d_fors w_size w_ins w_rule w_steps w_fors w_draw w_links w_best w_beaters w_distances w_route t_bytes t_next t_ranking t_count l_cells l_sizes s_bytes g kept was tape flt ranking paper pairs above below isDone dist rowv rowMany lsz itm weakAbove weakBelow ps tl hfd hwr hik hI hkI htp hz hsb hlc hps htl hG hkG htpM hzM hpp hit
  have hn8 := hI.1.2
  refine ⟨_, _, c_X5_out 57 hI, c_X6_out 57 hG, ?_⟩
  rintro r hX2 r2 hM2 ⟨o2X, vX, rfl, rfl, qX⟩ ⟨g2M, vM, rfl, rfl, qM⟩
  rcases qX with ⟨x0, x1, x2⟩ | ⟨k, x0, x1, x2⟩
  · rcases qM with ⟨y0, y1, y2⟩ | ⟨k2, y0, y1, y2⟩
    · subst x2 y2
      exact ⟨(z_JI_mk hfd hwr hik hI hkI htp hz hsb hlc hps htl hG hkG htpM hzM hpp hit), fun _ => by rw [x1, y1]⟩
    · refine absurd ⟨⟨k2, y0, y1⟩, ?_⟩ x0
      rcases y2 with y2 | y2 | y2
      · exact Or.inr y2.1
      · exact Or.inr y2.1
      · exact Or.inl y2.1
  · rcases qM with ⟨y0, y1, y2⟩ | ⟨k2, y0, y1, y2⟩
    · refine absurd ⟨⟨k, x0, x1⟩, ?_⟩ y0
      rcases x2 with x2 | x2 | x2
      · exact Or.inr x2.1
      · exact Or.inr x2.1
      · exact Or.inl x2.1
    · have ek := z_nIj (by omega) (by omega) (x1.symm.trans y1)
      subst ek
      have hne : ¬ nI 1 = nI 0 := by decide +kernel
      rcases x2 with ⟨x3, x4, x5, x6⟩ | ⟨x3, x4, x5, x6, x7⟩ | ⟨x3, x5, x6, x7⟩
      · rcases y2 with ⟨y3, y4, y5, y6⟩ | ⟨y3, y4, y5, y7⟩ | ⟨y3, y5, y7⟩
        · subst x6 y6
          exact ⟨(z_JI_mk hfd hwr hik hI hkI htp hz hsb hlc hps htl hG hkG htpM hzM hpp hit), fun _ => by rw [x5, y5]⟩
        · exact absurd x4 y4
        · exact absurd (x3.symm.trans y3) hne
      · rcases y2 with ⟨y3, y4, y5, y6⟩ | ⟨y3, y4, y5, y7⟩ | ⟨y3, y5, y7⟩
        · exact absurd y4 x4
        · subst x6
          exact ⟨(z_JI_mk hfd hwr hik x7 hkI htp hz hsb hlc hps htl y7 hkG htpM hzM hpp hit), fun _ => by rw [x5, y5]⟩
        · exact absurd (x3.symm.trans y3) hne
      · rcases y2 with ⟨y3, y4, y5, y6⟩ | ⟨y3, y4, y5, y7⟩ | ⟨y3, y5, y7⟩
        · exact absurd (y3.symm.trans x3) hne
        · exact absurd (y3.symm.trans x3) hne
        · subst x6
          exact ⟨(z_JI_mk hfd hwr hik x7 hkI htp hz hsb hlc hps htl y7 hkG htpM hzM hpp hit), fun _ => by rw [x5, y5]⟩
theorem pr_measure {hX hM : List z_E} (hJ : z_JI hX hM) (a1 : Int32) : z_TW True 79 143 [.int a1] hX hM := by
  refine z_JI_el (C := fun hX hM => z_TW True 79 143 [.int a1] hX hM) hJ ?_
  intro n outs bm ms dr cn pl ik kn ko kb km kd kc kpl fd tp wr pp sz ce p_rankings p_counts p_draw p_fors k_rankings k_counts k_draw k_fors d_size d_outs d_rule d_filled d_rankings d_counts d_draw d_fors w_size w_ins w_rule w_steps w_fors w_draw w_links w_best w_beaters w_distances w_route t_bytes t_next t_ranking t_count l_cells l_sizes s_bytes g kept was tape flt ranking paper pairs above below isDone dist rowv rowMany lsz itm weakAbove weakBelow ps tl hfd hwr hik hI hkI htp hz hsb hlc hps htl hG hkG htpM hzM hpp hit
  have hn8 := hI.1.2
  refine ⟨_, _, c_X5_measure 59 hI, c_X6_measure 58 hG, ?_⟩
  rintro r hX2 r2 hM2 ⟨m2X, vX, rfl, rfl, qX⟩ ⟨g2M, vM, rfl, rfl, qM⟩
  rcases qX with ⟨x0, x1, x2⟩ | ⟨k, x0, x1, x2, x3⟩
  · rcases qM with ⟨y0, y1, y2⟩ | ⟨k2, y0, y1, y2, y3⟩
    · subst x2 y2
      exact ⟨(z_JI_mk hfd hwr hik hI hkI htp hz hsb hlc hps htl hG hkG htpM hzM hpp hit), fun _ => by rw [x1, y1]⟩
    · exact absurd ⟨k2, y0, y1⟩ x0
  · rcases qM with ⟨y0, y1, y2⟩ | ⟨k2, y0, y1, y2, y3⟩
    · exact absurd ⟨k, x0, x1⟩ y0
    · have ek := z_nIj (by omega) (by omega) (x1.symm.trans y1)
      subst ek
      subst x3
      obtain ⟨i1, i2, i3, i4, i5⟩ := hI
      exact ⟨(z_JI_mk hfd hwr hik (⟨i1, i2, i3, x0, i5⟩) hkI htp hz hsb hlc hps htl y3 hkG htpM hzM hpp hit), fun _ => by rw [x2, y2]⟩
theorem pr_ahead {hX hM : List z_E} (hJ : z_JI hX hM) (a1 : Int32) : z_TW True 80 145 [.int a1] hX hM := by
  refine z_JI_el (C := fun hX hM => z_TW True 80 145 [.int a1] hX hM) hJ ?_
  intro n outs bm ms dr cn pl ik kn ko kb km kd kc kpl fd tp wr pp sz ce p_rankings p_counts p_draw p_fors k_rankings k_counts k_draw k_fors d_size d_outs d_rule d_filled d_rankings d_counts d_draw d_fors w_size w_ins w_rule w_steps w_fors w_draw w_links w_best w_beaters w_distances w_route t_bytes t_next t_ranking t_count l_cells l_sizes s_bytes g kept was tape flt ranking paper pairs above below isDone dist rowv rowMany lsz itm weakAbove weakBelow ps tl hfd hwr hik hI hkI htp hz hsb hlc hps htl hG hkG htpM hzM hpp hit
  have hn8 := hI.1.2
  refine ⟨_, _, c_X5_ahead 58 hI, c_X6_ahead 57 hG, ?_⟩
  rintro r hX2 r2 hM2 ⟨d2X, vX, rfl, rfl, qX⟩ ⟨g2M, vM, rfl, rfl, qM⟩
  rcases qX with ⟨x0, x1, x2⟩ | ⟨k, x0, x1, w, x2, x3, x4, x5⟩
  · rcases qM with ⟨y0, y1, y2⟩ | ⟨k2, y0, y1, w2, y2, y3, y4, y5, y6⟩
    · subst x2 y2
      exact ⟨(z_JI_mk hfd hwr hik hI hkI htp hz hsb hlc hps htl hG hkG htpM hzM hpp hit), fun _ => by rw [x1, y1]⟩
    · exact absurd ⟨k2, y0, y1⟩ x0
  · rcases qM with ⟨y0, y1, y2⟩ | ⟨k2, y0, y1, w2, y2, y3, y4, y5, y6⟩
    · exact absurd ⟨k, x0, x1⟩ y0
    · have ek := z_nIj (by omega) (by omega) (x1.symm.trans y1)
      subst ek
      have ew := z_perm_inj hI.2.2.2.2.1.2 x2 y2 (x3.trans y3.symm)
      subst ew
      exact ⟨(z_JI_mk hfd hwr hik x5 hkI htp hz hsb hlc hps htl y6 hkG htpM hzM hpp hit), fun _ => by rw [x4, y5]⟩
theorem pr_shuffle {hX hM : List z_E} (hJ : z_JI hX hM) (a1 : Int32) : z_TW True 81 146 [.int a1] hX hM := by
  refine z_JI_el (C := fun hX hM => z_TW True 81 146 [.int a1] hX hM) hJ ?_
  intro n outs bm ms dr cn pl ik kn ko kb km kd kc kpl fd tp wr pp sz ce p_rankings p_counts p_draw p_fors k_rankings k_counts k_draw k_fors d_size d_outs d_rule d_filled d_rankings d_counts d_draw d_fors w_size w_ins w_rule w_steps w_fors w_draw w_links w_best w_beaters w_distances w_route t_bytes t_next t_ranking t_count l_cells l_sizes s_bytes g kept was tape flt ranking paper pairs above below isDone dist rowv rowMany lsz itm weakAbove weakBelow ps tl hfd hwr hik hI hkI htp hz hsb hlc hps htl hG hkG htpM hzM hpp hit
  have hn8 := hI.1.2
  refine ⟨_, _, c_X5_shuffle 57 hI, c_X6_shuffle 59 hG, ?_⟩
  rintro r hX2 r2 hM2 ⟨d2X, vX, rfl, rfl, qX⟩ ⟨g2M, vM, rfl, rfl, qM⟩
  exact ⟨(z_JI_mk hfd hwr hik qX.2 hkI htp hz hsb hlc hps htl qM.2 hkG htpM hzM hpp hit), fun _ => by rw [qX.1, qM.1]⟩
theorem pr_drawn {hX hM : List z_E} (hJ : z_JI hX hM) (a1 : Int32) : z_TW True 82 147 [.int a1] hX hM := by
  refine z_JI_el (C := fun hX hM => z_TW True 82 147 [.int a1] hX hM) hJ ?_
  intro n outs bm ms dr cn pl ik kn ko kb km kd kc kpl fd tp wr pp sz ce p_rankings p_counts p_draw p_fors k_rankings k_counts k_draw k_fors d_size d_outs d_rule d_filled d_rankings d_counts d_draw d_fors w_size w_ins w_rule w_steps w_fors w_draw w_links w_best w_beaters w_distances w_route t_bytes t_next t_ranking t_count l_cells l_sizes s_bytes g kept was tape flt ranking paper pairs above below isDone dist rowv rowMany lsz itm weakAbove weakBelow ps tl hfd hwr hik hI hkI htp hz hsb hlc hps htl hG hkG htpM hzM hpp hit
  have hn8 := hI.1.2
  refine ⟨_, _, c_X5_drawn 57 hI, c_X6_drawn 57 hG, ?_⟩
  rintro r hX2 r2 hM2 ⟨vX, rfl, rfl, qX⟩ ⟨vM, rfl, rfl, qM⟩
  refine ⟨(z_JI_mk hfd hwr hik hI hkI htp hz hsb hlc hps htl hG hkG htpM hzM hpp hit), fun _ => ?_⟩
  rcases qX with ⟨x0, x1⟩ | ⟨k, x0, x1, x2⟩
  · rcases qM with ⟨y0, y1⟩ | ⟨k2, y0, y1, y2⟩
    · rw [x1, y1]
    · exact absurd ⟨k2, y0, y1⟩ x0
  · rcases qM with ⟨y0, y1⟩ | ⟨k2, y0, y1, y2⟩
    · exact absurd ⟨k, x0, x1⟩ y0
    · have ek := z_nIj (by omega) (by omega) (x1.symm.trans y1)
      subst ek
      rw [x2, y2]
theorem pr_feed {hX hM : List z_E} (hJ : z_JI hX hM) (a1 : Int32) : z_TW True 83 148 [.int a1] hX hM := by
  refine z_JI_el (C := fun hX hM => z_TW True 83 148 [.int a1] hX hM) hJ ?_
  intro n outs bm ms dr cn pl ik kn ko kb km kd kc kpl fd tp wr pp sz ce p_rankings p_counts p_draw p_fors k_rankings k_counts k_draw k_fors d_size d_outs d_rule d_filled d_rankings d_counts d_draw d_fors w_size w_ins w_rule w_steps w_fors w_draw w_links w_best w_beaters w_distances w_route t_bytes t_next t_ranking t_count l_cells l_sizes s_bytes g kept was tape flt ranking paper pairs above below isDone dist rowv rowMany lsz itm weakAbove weakBelow ps tl hfd hwr hik hI hkI htp hz hsb hlc hps htl hG hkG htpM hzM hpp hit
  have hn8 := hI.1.2
  refine ⟨_, _, c_X5_feed 58 hI hfd, c_X6_feed 58 hfd hps htl, ?_⟩
  rintro r hX2 r2 hM2 ⟨tb2X, fd2X, vX, rfl, rfl, qX⟩ ⟨tape2M, fd2M, vM, rfl, rfl, qM⟩
  obtain ⟨hfX, qX⟩ := qX
  obtain ⟨hfM, qM⟩ := qM
  rcases qX with ⟨x0, x1, x2, x3⟩ | ⟨k, x0, x1, x2, x3⟩
  · rcases qM with ⟨y0, y1, y2, y3⟩ | ⟨k2, y0, y1, y2, y3⟩
    · subst x2 x3 y2 y3
      exact ⟨(z_JI_mk hfd hwr hik hI hkI htp hz hsb hlc hps htl hG hkG htpM hzM hpp hit), fun _ => by rw [x1, y1]⟩
    · exact absurd ⟨k2, y0, y1, y2⟩ x0
  · rcases qM with ⟨y0, y1, y2, y3⟩ | ⟨k2, y0, y1, y2, y3⟩
    · exact absurd ⟨k, x0, x1, x2⟩ y0
    · have ek := z_nIj (by omega) (by omega) (x2.symm.trans y2)
      subst ek
      rcases x3 with ⟨x3, x4, x5, x6⟩ | ⟨x3, x4, x5, x6⟩
      · rcases y3 with ⟨y3, y4, y5, y6⟩ | ⟨y3, y4, y5, y6⟩
        · subst x5 x6 y5 y6
          exact ⟨(z_JI_mk hfd hwr hik hI hkI htp hz hsb hlc hps htl hG hkG htpM hzM hpp hit), fun _ => by rw [x4, y4]⟩
        · omega
      · rcases y3 with ⟨y3, y4, y5, y6⟩ | ⟨y3, y4, y5, y6⟩
        · omega
        · subst x6 y6
          rw [x4] at x5 hfX ⊢
          rw [y4] at y5 ⊢
          exact ⟨(z_JI_mk hfX hwr hik hI hkI (z_TB_put htp x0 x1) hz hsb hlc hps htl hG hkG (z_TB_put htpM x0 x1) hzM hpp hit), fun _ => by rw [x5, y5]⟩
theorem pr_clear {hX hM : List z_E} (hJ : z_JI hX hM)  : z_TW True 84 149 [] hX hM := by
  refine z_JI_el (C := fun hX hM => z_TW True 84 149 [] hX hM) hJ ?_
  intro n outs bm ms dr cn pl ik kn ko kb km kd kc kpl fd tp wr pp sz ce p_rankings p_counts p_draw p_fors k_rankings k_counts k_draw k_fors d_size d_outs d_rule d_filled d_rankings d_counts d_draw d_fors w_size w_ins w_rule w_steps w_fors w_draw w_links w_best w_beaters w_distances w_route t_bytes t_next t_ranking t_count l_cells l_sizes s_bytes g kept was tape flt ranking paper pairs above below isDone dist rowv rowMany lsz itm weakAbove weakBelow ps tl hfd hwr hik hI hkI htp hz hsb hlc hps htl hG hkG htpM hzM hpp hit
  have hn8 := hI.1.2
  refine ⟨_, _, c_X5_clear 58 hI, c_X6_clear 59 hfd hps htl, ?_⟩
  rintro r hX2 r2 hM2 ⟨rfl, rfl⟩ ⟨rfl, rfl⟩
  exact ⟨(z_JI_mk (Nat.zero_le _) hwr hik hI hkI (z_TB_0 (tp := tp)) hz hsb hlc hps htl hG hkG z_TB_0 hzM hpp hit), fun _ => rfl⟩
theorem pr_ballot {hX hM : List z_E} (hJ : z_JI hX hM) (a1 : Int32) (a2 : Int32) : z_TW False 87 165 [.int a1, .int a2] hX hM := by
  refine z_JI_el (C := fun hX hM => z_TW False 87 165 [.int a1, .int a2] hX hM) hJ ?_
  intro n outs bm ms dr cn pl ik kn ko kb km kd kc kpl fd tp wr pp sz ce p_rankings p_counts p_draw p_fors k_rankings k_counts k_draw k_fors d_size d_outs d_rule d_filled d_rankings d_counts d_draw d_fors w_size w_ins w_rule w_steps w_fors w_draw w_links w_best w_beaters w_distances w_route t_bytes t_next t_ranking t_count l_cells l_sizes s_bytes g kept was tape flt ranking paper pairs above below isDone dist rowv rowMany lsz itm weakAbove weakBelow ps tl hfd hwr hik hI hkI htp hz hsb hlc hps htl hG hkG htpM hzM hpp hit
  have hn8 := hI.1.2
  refine ⟨_, _, c_X5_ballot 57 hI, c_X6_ballot 57 hG, ?_⟩
  rintro r hX2 r2 hM2 ⟨vX, rfl, rfl, qX⟩ ⟨vM, rfl, rfl, qM⟩
  exact ⟨(z_JI_mk hfd hwr hik hI hkI htp hz hsb hlc hps htl hG hkG htpM hzM hpp hit), False.elim⟩
theorem pr_paper {hX hM : List z_E} (hJ : z_JI hX hM) (a1 : Int32) : z_TW False 90 170 [.int a1] hX hM := by
  refine z_JI_el (C := fun hX hM => z_TW False 90 170 [.int a1] hX hM) hJ ?_
  intro n outs bm ms dr cn pl ik kn ko kb km kd kc kpl fd tp wr pp sz ce p_rankings p_counts p_draw p_fors k_rankings k_counts k_draw k_fors d_size d_outs d_rule d_filled d_rankings d_counts d_draw d_fors w_size w_ins w_rule w_steps w_fors w_draw w_links w_best w_beaters w_distances w_route t_bytes t_next t_ranking t_count l_cells l_sizes s_bytes g kept was tape flt ranking paper pairs above below isDone dist rowv rowMany lsz itm weakAbove weakBelow ps tl hfd hwr hik hI hkI htp hz hsb hlc hps htl hG hkG htpM hzM hpp hit
  have hn8 := hI.1.2
  refine ⟨_, _, c_X5_paper 58 hI hwr, c_X6_paper 58 hwr, ?_⟩
  rintro r hX2 r2 hM2 ⟨vX, rfl, rfl, qX⟩ ⟨vM, rfl, rfl, qM⟩
  exact ⟨(z_JI_mk hfd hwr hik hI hkI htp hz hsb hlc hps htl hG hkG htpM hzM hpp hit), False.elim⟩
theorem pr_pair {hX hM : List z_E} (hJ : z_JI hX hM) (a1 : Int32) (a2 : Int32) : z_TW False 91 175 [.int a1, .int a2] hX hM := by
  refine z_JI_el (C := fun hX hM => z_TW False 91 175 [.int a1, .int a2] hX hM) hJ ?_
  intro n outs bm ms dr cn pl ik kn ko kb km kd kc kpl fd tp wr pp sz ce p_rankings p_counts p_draw p_fors k_rankings k_counts k_draw k_fors d_size d_outs d_rule d_filled d_rankings d_counts d_draw d_fors w_size w_ins w_rule w_steps w_fors w_draw w_links w_best w_beaters w_distances w_route t_bytes t_next t_ranking t_count l_cells l_sizes s_bytes g kept was tape flt ranking paper pairs above below isDone dist rowv rowMany lsz itm weakAbove weakBelow ps tl hfd hwr hik hI hkI htp hz hsb hlc hps htl hG hkG htpM hzM hpp hit
  have hn8 := hI.1.2
  refine ⟨_, _, c_X5_pair 57 hI, c_X6_pair 56 hG, ?_⟩
  rintro r hX2 r2 hM2 ⟨vX, rfl, rfl, qX⟩ ⟨pairs2M, vM, rfl, rfl, qM⟩
  exact ⟨(z_JI_mk hfd hwr hik hI hkI htp hz hsb hlc hps htl hG hkG htpM hzM hpp hit), False.elim⟩
theorem pr_link {hX hM : List z_E} (hJ : z_JI hX hM) (a1 : Int32) (a2 : Int32) : z_TW False 92 177 [.int a1, .int a2] hX hM := by
  refine z_JI_el (C := fun hX hM => z_TW False 92 177 [.int a1, .int a2] hX hM) hJ ?_
  intro n outs bm ms dr cn pl ik kn ko kb km kd kc kpl fd tp wr pp sz ce p_rankings p_counts p_draw p_fors k_rankings k_counts k_draw k_fors d_size d_outs d_rule d_filled d_rankings d_counts d_draw d_fors w_size w_ins w_rule w_steps w_fors w_draw w_links w_best w_beaters w_distances w_route t_bytes t_next t_ranking t_count l_cells l_sizes s_bytes g kept was tape flt ranking paper pairs above below isDone dist rowv rowMany lsz itm weakAbove weakBelow ps tl hfd hwr hik hI hkI htp hz hsb hlc hps htl hG hkG htpM hzM hpp hit
  have hn8 := hI.1.2
  refine ⟨_, _, c_X5_link 57 hI, c_X6_link 56 hG, ?_⟩
  rintro r hX2 r2 hM2 ⟨vX, rfl, rfl, qX⟩ ⟨pairs2M, vM, rfl, rfl, qM⟩
  exact ⟨(z_JI_mk hfd hwr hik hI hkI htp hz hsb hlc hps htl hG hkG htpM hzM hpp hit), False.elim⟩
theorem pr_strength {hX hM : List z_E} (hJ : z_JI hX hM) (a1 : Int32) (a2 : Int32) (a3 : Int32) : z_TW False 93 189 [.int a1, .int a2, .int a3] hX hM := by
  refine z_JI_el (C := fun hX hM => z_TW False 93 189 [.int a1, .int a2, .int a3] hX hM) hJ ?_
  intro n outs bm ms dr cn pl ik kn ko kb km kd kc kpl fd tp wr pp sz ce p_rankings p_counts p_draw p_fors k_rankings k_counts k_draw k_fors d_size d_outs d_rule d_filled d_rankings d_counts d_draw d_fors w_size w_ins w_rule w_steps w_fors w_draw w_links w_best w_beaters w_distances w_route t_bytes t_next t_ranking t_count l_cells l_sizes s_bytes g kept was tape flt ranking paper pairs above below isDone dist rowv rowMany lsz itm weakAbove weakBelow ps tl hfd hwr hik hI hkI htp hz hsb hlc hps htl hG hkG htpM hzM hpp hit
  have hn8 := hI.1.2
  refine ⟨_, _, c_X5_strength 55 hI, c_X6_strength 4 hG, ?_⟩
  rintro r hX2 r2 hM2 ⟨ws2X, wi2X, wr2X, wst2X, wf2X, wd2X, wl2X, wb2X, wt2X, vX, rfl, rfl, qX⟩ ⟨pairs2M, ab2M, be2M, dn2M, vM, rfl, rfl, qM⟩
  exact ⟨(z_JI_mk hfd hwr hik hI hkI htp hz hsb hlc hps htl hG hkG htpM hzM hpp hit), False.elim⟩
theorem pr_way {hX hM : List z_E} (hJ : z_JI hX hM) (a1 : Int32) (a2 : Int32) (a3 : Int32) : z_TW False 94 193 [.int a1, .int a2, .int a3] hX hM := by
  refine z_JI_el (C := fun hX hM => z_TW False 94 193 [.int a1, .int a2, .int a3] hX hM) hJ ?_
  intro n outs bm ms dr cn pl ik kn ko kb km kd kc kpl fd tp wr pp sz ce p_rankings p_counts p_draw p_fors k_rankings k_counts k_draw k_fors d_size d_outs d_rule d_filled d_rankings d_counts d_draw d_fors w_size w_ins w_rule w_steps w_fors w_draw w_links w_best w_beaters w_distances w_route t_bytes t_next t_ranking t_count l_cells l_sizes s_bytes g kept was tape flt ranking paper pairs above below isDone dist rowv rowMany lsz itm weakAbove weakBelow ps tl hfd hwr hik hI hkI htp hz hsb hlc hps htl hG hkG htpM hzM hpp hit
  have hn8 := hI.1.2
  refine ⟨_, _, c_X5_way 54 hI, c_X6_way 53 hG, ?_⟩
  rintro r hX2 r2 hM2 ⟨ws2X, wi2X, wr2X, wst2X, wf2X, wd2X, wl2X, wb2X, wt2X, wq2X, wo2X, vX, rfl, rfl, qX⟩ ⟨pairs2M, ab2M, be2M, dn2M, dist2M, row2M, rm2M, vM, rfl, rfl, qM⟩
  exact ⟨(z_JI_mk hfd hwr hik hI hkI htp hz hsb hlc hps htl hG hkG htpM hzM hpp hit), False.elim⟩
theorem pr_barrier {hX hM : List z_E} (hJ : z_JI hX hM) (a1 : Int32) (a2 : Int32) : z_TW False 95 195 [.int a1, .int a2] hX hM := by
  refine z_JI_el (C := fun hX hM => z_TW False 95 195 [.int a1, .int a2] hX hM) hJ ?_
  intro n outs bm ms dr cn pl ik kn ko kb km kd kc kpl fd tp wr pp sz ce p_rankings p_counts p_draw p_fors k_rankings k_counts k_draw k_fors d_size d_outs d_rule d_filled d_rankings d_counts d_draw d_fors w_size w_ins w_rule w_steps w_fors w_draw w_links w_best w_beaters w_distances w_route t_bytes t_next t_ranking t_count l_cells l_sizes s_bytes g kept was tape flt ranking paper pairs above below isDone dist rowv rowMany lsz itm weakAbove weakBelow ps tl hfd hwr hik hI hkI htp hz hsb hlc hps htl hG hkG htpM hzM hpp hit
  have hn8 := hI.1.2
  refine ⟨_, _, c_X5_barrier 55 hI, c_X6_barrier 53 hG, ?_⟩
  rintro r hX2 r2 hM2 ⟨ws2X, wi2X, wr2X, wst2X, wf2X, wd2X, wl2X, wb2X, wt2X, vX, rfl, rfl, qX⟩ ⟨pairs2M, ab2M, be2M, dn2M, vM, rfl, rfl, qM⟩
  exact ⟨(z_JI_mk hfd hwr hik hI hkI htp hz hsb hlc hps htl hG hkG htpM hzM hpp hit), False.elim⟩
theorem pr_beats {hX hM : List z_E} (hJ : z_JI hX hM) (a1 : Int32) (a2 : Int32) : z_TW False 96 197 [.int a1, .int a2] hX hM := by
  refine z_JI_el (C := fun hX hM => z_TW False 96 197 [.int a1, .int a2] hX hM) hJ ?_
  intro n outs bm ms dr cn pl ik kn ko kb km kd kc kpl fd tp wr pp sz ce p_rankings p_counts p_draw p_fors k_rankings k_counts k_draw k_fors d_size d_outs d_rule d_filled d_rankings d_counts d_draw d_fors w_size w_ins w_rule w_steps w_fors w_draw w_links w_best w_beaters w_distances w_route t_bytes t_next t_ranking t_count l_cells l_sizes s_bytes g kept was tape flt ranking paper pairs above below isDone dist rowv rowMany lsz itm weakAbove weakBelow ps tl hfd hwr hik hI hkI htp hz hsb hlc hps htl hG hkG htpM hzM hpp hit
  have hn8 := hI.1.2
  refine ⟨_, _, c_X5_beats 55 hI, c_X6_beats 53 hG, ?_⟩
  rintro r hX2 r2 hM2 ⟨ws2X, wi2X, wr2X, wst2X, wf2X, wd2X, wl2X, wb2X, wt2X, vX, rfl, rfl, qX⟩ ⟨pairs2M, ab2M, be2M, dn2M, vM, rfl, rfl, qM⟩
  exact ⟨(z_JI_mk hfd hwr hik hI hkI htp hz hsb hlc hps htl hG hkG htpM hzM hpp hit), False.elim⟩
theorem pr_winners {hX hM : List z_E} (hJ : z_JI hX hM)  : z_TW False 97 199 [] hX hM := by
  refine z_JI_el (C := fun hX hM => z_TW False 97 199 [] hX hM) hJ ?_
  intro n outs bm ms dr cn pl ik kn ko kb km kd kc kpl fd tp wr pp sz ce p_rankings p_counts p_draw p_fors k_rankings k_counts k_draw k_fors d_size d_outs d_rule d_filled d_rankings d_counts d_draw d_fors w_size w_ins w_rule w_steps w_fors w_draw w_links w_best w_beaters w_distances w_route t_bytes t_next t_ranking t_count l_cells l_sizes s_bytes g kept was tape flt ranking paper pairs above below isDone dist rowv rowMany lsz itm weakAbove weakBelow ps tl hfd hwr hik hI hkI htp hz hsb hlc hps htl hG hkG htpM hzM hpp hit
  have hn8 := hI.1.2
  refine ⟨_, _, c_X5_winners 55 hI, c_X6_winners 53 hG, ?_⟩
  rintro r hX2 r2 hM2 ⟨ws2X, wi2X, wr2X, wst2X, wf2X, wd2X, wl2X, wb2X, wt2X, vX, rfl, rfl, qX⟩ ⟨pairs2M, ab2M, be2M, dn2M, vM, rfl, rfl, qM⟩
  exact ⟨(z_JI_mk hfd hwr hik hI hkI htp hz hsb hlc hps htl hG hkG htpM hzM hpp hit), False.elim⟩
theorem pr_ranked {hX hM : List z_E} (hJ : z_JI hX hM) (a1 : Int32) : z_TW False 98 201 [.int a1] hX hM := by
  refine z_JI_el (C := fun hX hM => z_TW False 98 201 [.int a1] hX hM) hJ ?_
  intro n outs bm ms dr cn pl ik kn ko kb km kd kc kpl fd tp wr pp sz ce p_rankings p_counts p_draw p_fors k_rankings k_counts k_draw k_fors d_size d_outs d_rule d_filled d_rankings d_counts d_draw d_fors w_size w_ins w_rule w_steps w_fors w_draw w_links w_best w_beaters w_distances w_route t_bytes t_next t_ranking t_count l_cells l_sizes s_bytes g kept was tape flt ranking paper pairs above below isDone dist rowv rowMany lsz itm weakAbove weakBelow ps tl hfd hwr hik hI hkI htp hz hsb hlc hps htl hG hkG htpM hzM hpp hit
  have hn8 := hI.1.2
  refine ⟨_, _, c_X5_ranked 55 hI, c_X6_ranked 53 hG, ?_⟩
  rintro r hX2 r2 hM2 ⟨ws2X, wi2X, wr2X, wst2X, wf2X, wd2X, wl2X, wb2X, wt2X, vX, rfl, rfl, qX⟩ ⟨pairs2M, ab2M, be2M, dn2M, vM, rfl, rfl, qM⟩
  exact ⟨(z_JI_mk hfd hwr hik hI hkI htp hz hsb hlc hps htl hG hkG htpM hzM hpp hit), False.elim⟩
theorem pr_rank {hX hM : List z_E} (hJ : z_JI hX hM) (a1 : Int32) : z_TW False 99 202 [.int a1] hX hM := by
  refine z_JI_el (C := fun hX hM => z_TW False 99 202 [.int a1] hX hM) hJ ?_
  intro n outs bm ms dr cn pl ik kn ko kb km kd kc kpl fd tp wr pp sz ce p_rankings p_counts p_draw p_fors k_rankings k_counts k_draw k_fors d_size d_outs d_rule d_filled d_rankings d_counts d_draw d_fors w_size w_ins w_rule w_steps w_fors w_draw w_links w_best w_beaters w_distances w_route t_bytes t_next t_ranking t_count l_cells l_sizes s_bytes g kept was tape flt ranking paper pairs above below isDone dist rowv rowMany lsz itm weakAbove weakBelow ps tl hfd hwr hik hI hkI htp hz hsb hlc hps htl hG hkG htpM hzM hpp hit
  have hn8 := hI.1.2
  refine ⟨_, _, c_X5_rank 54 hI, c_X6_rank 53 hG, ?_⟩
  rintro r hX2 r2 hM2 ⟨ws2X, wi2X, wr2X, wst2X, wf2X, wd2X, wl2X, wb2X, wt2X, vX, rfl, rfl, qX⟩ ⟨pairs2M, ab2M, be2M, dn2M, vM, rfl, rfl, qM⟩
  exact ⟨(z_JI_mk hfd hwr hik hI hkI htp hz hsb hlc hps htl hG hkG htpM hzM hpp hit), False.elim⟩
theorem pr_smith {hX hM : List z_E} (hJ : z_JI hX hM)  : z_TW False 100 204 [] hX hM := by
  refine z_JI_el (C := fun hX hM => z_TW False 100 204 [] hX hM) hJ ?_
  intro n outs bm ms dr cn pl ik kn ko kb km kd kc kpl fd tp wr pp sz ce p_rankings p_counts p_draw p_fors k_rankings k_counts k_draw k_fors d_size d_outs d_rule d_filled d_rankings d_counts d_draw d_fors w_size w_ins w_rule w_steps w_fors w_draw w_links w_best w_beaters w_distances w_route t_bytes t_next t_ranking t_count l_cells l_sizes s_bytes g kept was tape flt ranking paper pairs above below isDone dist rowv rowMany lsz itm weakAbove weakBelow ps tl hfd hwr hik hI hkI htp hz hsb hlc hps htl hG hkG htpM hzM hpp hit
  have hn8 := hI.1.2
  refine ⟨_, _, c_X5_smith 54 hI, c_X6_smith 56 hG, ?_⟩
  rintro r hX2 r2 hM2 ⟨ws2X, wi2X, wr2X, wst2X, wf2X, wd2X, wl2X, wb2X, wt2X, vX, rfl, rfl, qX⟩ ⟨pairs2M, vM, rfl, rfl, qM⟩
  exact ⟨(z_JI_mk hfd hwr hik hI hkI htp hz hsb hlc hps htl hG hkG htpM hzM hpp hit), False.elim⟩
theorem pr_clones {hX hM : List z_E} (hJ : z_JI hX hM) (a1 : Int32) : z_TW False 101 207 [.int a1] hX hM := by
  refine z_JI_el (C := fun hX hM => z_TW False 101 207 [.int a1] hX hM) hJ ?_
  intro n outs bm ms dr cn pl ik kn ko kb km kd kc kpl fd tp wr pp sz ce p_rankings p_counts p_draw p_fors k_rankings k_counts k_draw k_fors d_size d_outs d_rule d_filled d_rankings d_counts d_draw d_fors w_size w_ins w_rule w_steps w_fors w_draw w_links w_best w_beaters w_distances w_route t_bytes t_next t_ranking t_count l_cells l_sizes s_bytes g kept was tape flt ranking paper pairs above below isDone dist rowv rowMany lsz itm weakAbove weakBelow ps tl hfd hwr hik hI hkI htp hz hsb hlc hps htl hG hkG htpM hzM hpp hit
  have hn8 := hI.1.2
  refine ⟨_, _, c_X5_clones 55 hI, c_X6_clones 56 hG, ?_⟩
  rintro r hX2 r2 hM2 ⟨vX, rfl, rfl, qX⟩ ⟨vM, rfl, rfl, qM⟩
  exact ⟨(z_JI_mk hfd hwr hik hI hkI htp hz hsb hlc hps htl hG hkG htpM hzM hpp hit), False.elim⟩
theorem pr_sum {hX hM : List z_E} (hJ : z_JI hX hM) (a1 : Int32) (a2 : Int32) : z_TW False 102 209 [.int a1, .int a2] hX hM := by
  refine z_JI_el (C := fun hX hM => z_TW False 102 209 [.int a1, .int a2] hX hM) hJ ?_
  intro n outs bm ms dr cn pl ik kn ko kb km kd kc kpl fd tp wr pp sz ce p_rankings p_counts p_draw p_fors k_rankings k_counts k_draw k_fors d_size d_outs d_rule d_filled d_rankings d_counts d_draw d_fors w_size w_ins w_rule w_steps w_fors w_draw w_links w_best w_beaters w_distances w_route t_bytes t_next t_ranking t_count l_cells l_sizes s_bytes g kept was tape flt ranking paper pairs above below isDone dist rowv rowMany lsz itm weakAbove weakBelow ps tl hfd hwr hik hI hkI htp hz hsb hlc hps htl hG hkG htpM hzM hpp hit
  have hn8 := hI.1.2
  refine ⟨_, _, c_X5_sum 55 hI, c_X6_sum 56 hG, ?_⟩
  rintro r hX2 r2 hM2 ⟨vX, rfl, rfl, qX⟩ ⟨vM, rfl, rfl, qM⟩
  exact ⟨(z_JI_mk hfd hwr hik hI hkI htp hz hsb hlc hps htl hG hkG htpM hzM hpp hit), False.elim⟩
theorem pr_without {hX hM : List z_E} (hJ : z_JI hX hM) (a1 : Int32) : z_TW False 103 212 [.int a1] hX hM := by
  refine z_JI_el (C := fun hX hM => z_TW False 103 212 [.int a1] hX hM) hJ ?_
  intro n outs bm ms dr cn pl ik kn ko kb km kd kc kpl fd tp wr pp sz ce p_rankings p_counts p_draw p_fors k_rankings k_counts k_draw k_fors d_size d_outs d_rule d_filled d_rankings d_counts d_draw d_fors w_size w_ins w_rule w_steps w_fors w_draw w_links w_best w_beaters w_distances w_route t_bytes t_next t_ranking t_count l_cells l_sizes s_bytes g kept was tape flt ranking paper pairs above below isDone dist rowv rowMany lsz itm weakAbove weakBelow ps tl hfd hwr hik hI hkI htp hz hsb hlc hps htl hG hkG htpM hzM hpp hit
  have hn8 := hI.1.2
  refine ⟨_, _, c_X5_without 55 hI, c_X6_without 53 hG, ?_⟩
  rintro r hX2 r2 hM2 ⟨ws2X, wi2X, wr2X, wst2X, wf2X, wd2X, wl2X, wb2X, wt2X, vX, rfl, rfl, qX⟩ ⟨pairs2M, ab2M, be2M, dn2M, vM, rfl, rfl, qM⟩
  exact ⟨(z_JI_mk hfd hwr hik hI hkI htp hz hsb hlc hps htl hG hkG htpM hzM hpp hit), False.elim⟩
theorem pr_turners {hX hM : List z_E} (hJ : z_JI hX hM)  : z_TW False 106 215 [] hX hM := by
  refine z_JI_el (C := fun hX hM => z_TW False 106 215 [] hX hM) hJ ?_
  intro n outs bm ms dr cn pl ik kn ko kb km kd kc kpl fd tp wr pp sz ce p_rankings p_counts p_draw p_fors k_rankings k_counts k_draw k_fors d_size d_outs d_rule d_filled d_rankings d_counts d_draw d_fors w_size w_ins w_rule w_steps w_fors w_draw w_links w_best w_beaters w_distances w_route t_bytes t_next t_ranking t_count l_cells l_sizes s_bytes g kept was tape flt ranking paper pairs above below isDone dist rowv rowMany lsz itm weakAbove weakBelow ps tl hfd hwr hik hI hkI htp hz hsb hlc hps htl hG hkG htpM hzM hpp hit
  have hn8 := hI.1.2
  refine ⟨_, _, c_X5_turners 54 hI, c_X6_turners 52 hG, ?_⟩
  rintro r hX2 r2 hM2 ⟨ws2X, wi2X, wr2X, wst2X, wf2X, wd2X, wl2X, wb2X, wt2X, vX, rfl, rfl, qX⟩ ⟨pairs2M, ab2M, be2M, dn2M, vM, rfl, rfl, qM⟩
  exact ⟨(z_JI_mk hfd hwr hik hI hkI htp hz hsb hlc hps htl hG hkG htpM hzM hpp hit), False.elim⟩
theorem pr_agree {hX hM : List z_E} (hJ : z_JI hX hM)  : z_TW False 107 216 [] hX hM := by
  refine z_JI_el (C := fun hX hM => z_TW False 107 216 [] hX hM) hJ ?_
  intro n outs bm ms dr cn pl ik kn ko kb km kd kc kpl fd tp wr pp sz ce p_rankings p_counts p_draw p_fors k_rankings k_counts k_draw k_fors d_size d_outs d_rule d_filled d_rankings d_counts d_draw d_fors w_size w_ins w_rule w_steps w_fors w_draw w_links w_best w_beaters w_distances w_route t_bytes t_next t_ranking t_count l_cells l_sizes s_bytes g kept was tape flt ranking paper pairs above below isDone dist rowv rowMany lsz itm weakAbove weakBelow ps tl hfd hwr hik hI hkI htp hz hsb hlc hps htl hG hkG htpM hzM hpp hit
  have hn8 := hI.1.2
  refine ⟨_, _, c_X5_agree 55 hI, c_X6_agree 52 hG, ?_⟩
  rintro r hX2 r2 hM2 ⟨ws2X, wi2X, wr2X, wst2X, wf2X, wd2X, wl2X, wb2X, wt2X, vX, rfl, rfl, qX⟩ ⟨pairs2M, ab2M, be2M, dn2M, vM, rfl, rfl, qM⟩
  exact ⟨(z_JI_mk hfd hwr hik hI hkI htp hz hsb hlc hps htl hG hkG htpM hzM hpp hit), False.elim⟩
theorem pr_flips {hX hM : List z_E} (hJ : z_JI hX hM) (a1 : Int32) : z_TW False 108 217 [.int a1] hX hM := by
  refine z_JI_el (C := fun hX hM => z_TW False 108 217 [.int a1] hX hM) hJ ?_
  intro n outs bm ms dr cn pl ik kn ko kb km kd kc kpl fd tp wr pp sz ce p_rankings p_counts p_draw p_fors k_rankings k_counts k_draw k_fors d_size d_outs d_rule d_filled d_rankings d_counts d_draw d_fors w_size w_ins w_rule w_steps w_fors w_draw w_links w_best w_beaters w_distances w_route t_bytes t_next t_ranking t_count l_cells l_sizes s_bytes g kept was tape flt ranking paper pairs above below isDone dist rowv rowMany lsz itm weakAbove weakBelow ps tl hfd hwr hik hI hkI htp hz hsb hlc hps htl hG hkG htpM hzM hpp hit
  have hn8 := hI.1.2
  refine ⟨_, _, c_X5_flips 54 hI, c_X6_flips 52 hG, ?_⟩
  rintro r hX2 r2 hM2 ⟨ws2X, wi2X, wr2X, wst2X, wf2X, wd2X, wl2X, wb2X, wt2X, vX, rfl, rfl, qX⟩ ⟨pairs2M, ab2M, be2M, dn2M, vM, rfl, rfl, qM⟩
  exact ⟨(z_JI_mk hfd hwr hik hI hkI htp hz hsb hlc hps htl hG hkG htpM hzM hpp hit), False.elim⟩
theorem pr_told {hX hM : List z_E} (hJ : z_JI hX hM) (a1 : Int32) : z_TW False 111 231 [.int a1] hX hM := by
  refine z_JI_el (C := fun hX hM => z_TW False 111 231 [.int a1] hX hM) hJ ?_
  intro n outs bm ms dr cn pl ik kn ko kb km kd kc kpl fd tp wr pp sz ce p_rankings p_counts p_draw p_fors k_rankings k_counts k_draw k_fors d_size d_outs d_rule d_filled d_rankings d_counts d_draw d_fors w_size w_ins w_rule w_steps w_fors w_draw w_links w_best w_beaters w_distances w_route t_bytes t_next t_ranking t_count l_cells l_sizes s_bytes g kept was tape flt ranking paper pairs above below isDone dist rowv rowMany lsz itm weakAbove weakBelow ps tl hfd hwr hik hI hkI htp hz hsb hlc hps htl hG hkG htpM hzM hpp hit
  have hn8 := hI.1.2
  refine ⟨_, _, c_X5_told 55 hI, c_X6_told_ 52 hG, ?_⟩
  rintro r hX2 r2 hM2 ⟨ws2X, wi2X, wr2X, wst2X, wf2X, wd2X, wl2X, wb2X, wt2X, vX, rfl, rfl, qX⟩ ⟨pairs2M, ab2M, be2M, dn2M, vM, rfl, rfl, qM⟩
  exact ⟨(z_JI_mk hfd hwr hik hI hkI htp hz hsb hlc hps htl hG hkG htpM hzM hpp hit), False.elim⟩
theorem pr_get {hX hM : List z_E} (hJ : z_JI hX hM) (a1 : Int32) (a2 : Int32) : z_TW False 114 234 [.int a1, .int a2] hX hM := by
  refine z_JI_el (C := fun hX hM => z_TW False 114 234 [.int a1, .int a2] hX hM) hJ ?_
  intro n outs bm ms dr cn pl ik kn ko kb km kd kc kpl fd tp wr pp sz ce p_rankings p_counts p_draw p_fors k_rankings k_counts k_draw k_fors d_size d_outs d_rule d_filled d_rankings d_counts d_draw d_fors w_size w_ins w_rule w_steps w_fors w_draw w_links w_best w_beaters w_distances w_route t_bytes t_next t_ranking t_count l_cells l_sizes s_bytes g kept was tape flt ranking paper pairs above below isDone dist rowv rowMany lsz itm weakAbove weakBelow ps tl hfd hwr hik hI hkI htp hz hsb hlc hps htl hG hkG htpM hzM hpp hit
  have hn8 := hI.1.2
  refine ⟨_, _, c_X5_get 55 hI hz, c_X6_get 57 hzM, ?_⟩
  rintro r hX2 r2 hM2 ⟨vX, rfl, rfl, qX⟩ ⟨vM, rfl, rfl, qM⟩
  exact ⟨(z_JI_mk hfd hwr hik hI hkI htp hz hsb hlc hps htl hG hkG htpM hzM hpp hit), False.elim⟩
theorem pr_ballots {hX hM : List z_E} (hJ : z_JI hX hM)  : z_TW True 85 161 [] hX hM := by
  refine z_JI_el (C := fun hX hM => z_TW True 85 161 [] hX hM) hJ ?_
  intro n outs bm ms dr cn pl ik kn ko kb km kd kc kpl fd tp wr pp sz ce p_rankings p_counts p_draw p_fors k_rankings k_counts k_draw k_fors d_size d_outs d_rule d_filled d_rankings d_counts d_draw d_fors w_size w_ins w_rule w_steps w_fors w_draw w_links w_best w_beaters w_distances w_route t_bytes t_next t_ranking t_count l_cells l_sizes s_bytes g kept was tape flt ranking paper pairs above below isDone dist rowv rowMany lsz itm weakAbove weakBelow ps tl hfd hwr hik hI hkI htp hz hsb hlc hps htl hG hkG htpM hzM hpp hit
  have hn8 := hI.1.2
  refine ⟨_, _, c_X5_ballots 55 hI hfd htp, c_X6_ballots 54 hG hfd hps htl htpM, ?_⟩
  rintro r hX2 r2 hM2 ⟨db2X, dR2X, dC2X, dD2X, dF2X, nx2X, rk2X, ct2X, b3X, pR2X, pC2X, pD2X, pF2X, vX, rfl, rfl, qX⟩ ⟨g2M, was2M, ranking2M, ps2M, ft2M, vM, rfl, rfl, qM⟩
  obtain ⟨R, ⟨f, x1⟩, x2⟩ := qX
  obtain ⟨hp2, R2, ⟨f2, y1⟩, y2⟩ := qM
  have eR := z_pts_det x1 y1
  subst eR
  rcases x2 with ⟨ft, x3, x4, x5, x6, x7⟩ | ⟨k, bm4, cn4, pl4, x3, x5, x6, x7⟩
  · rcases y2 with ⟨ft2, y3, y4, y5, y6⟩ | ⟨k2, bm5, cn5, pl5, y3, y5, y6⟩
    · have e := Sum.inl.inj (x3.symm.trans y3)
      subst e x6
      exact ⟨(z_JI_mk (Nat.zero_le _) hwr hik x7 hkI (z_TB_0 (tp := tp)) hz hsb hlc hp2 hfd y6 hkG z_TB_0 hzM hpp hit), fun _ => by rw [x5, y5]⟩
    · exact absurd (x3.symm.trans y3) (by intro h; cases h)
  · rcases y2 with ⟨ft2, y3, y4, y5, y6⟩ | ⟨k2, bm5, cn5, pl5, y3, y5, y6⟩
    · exact absurd (x3.symm.trans y3) (by intro h; cases h)
    · have e := Sum.inr.inj (x3.symm.trans y3)
      simp only [Prod.mk.injEq] at e
      obtain ⟨e1, e2, e3, e4⟩ := e
      subst e1 e2 e3 e4 x6
      exact ⟨(z_JI_mk (Nat.zero_le _) hwr hik x7 hkI (z_TB_0 (tp := tp)) hz hsb hlc hp2 hfd y6 hkG z_TB_0 hzM hpp hit), fun _ => by rw [x5, y5]⟩
theorem pr_remove {hX hM : List z_E} (hJ : z_JI hX hM) (a1 : Int32) (a2 : Int32) : z_TW True 86 163 [.int a1, .int a2] hX hM := by
  refine z_JI_el (C := fun hX hM => z_TW True 86 163 [.int a1, .int a2] hX hM) hJ ?_
  intro n outs bm ms dr cn pl ik kn ko kb km kd kc kpl fd tp wr pp sz ce p_rankings p_counts p_draw p_fors k_rankings k_counts k_draw k_fors d_size d_outs d_rule d_filled d_rankings d_counts d_draw d_fors w_size w_ins w_rule w_steps w_fors w_draw w_links w_best w_beaters w_distances w_route t_bytes t_next t_ranking t_count l_cells l_sizes s_bytes g kept was tape flt ranking paper pairs above below isDone dist rowv rowMany lsz itm weakAbove weakBelow ps tl hfd hwr hik hI hkI htp hz hsb hlc hps htl hG hkG htpM hzM hpp hit
  have hn8 := hI.1.2
  refine ⟨_, _, c_X5_remove 56 hI, c_X6_remove 57 hG, ?_⟩
  rintro r hX2 r2 hM2 ⟨R2X, C2X, F2X, b2X, vX, rfl, rfl, qX⟩ ⟨g2M, vM, rfl, rfl, qM⟩
  rcases qX with ⟨x0, x1, x2, x3, x4, x5⟩ | ⟨k, x1, x2, x3⟩
  · rcases qM with ⟨y0, y1, y2⟩ | ⟨k2, y1, y2, y3⟩
    · subst x1 x2 x3 x4 y1
      exact ⟨(z_JI_mk hfd hwr hik hI hkI htp hz hsb hlc hps htl hG hkG htpM hzM hpp hit), fun _ => by rw [x0, y0]⟩
    · exact absurd ⟨k2, y1, y2⟩ x5
  · rcases qM with ⟨y0, y1, y2⟩ | ⟨k2, y1, y2, y3⟩
    · exact absurd ⟨k, x1, x2⟩ y2
    · have h40 := hI.2.2.1
      have ek := z_nIj (by omega) (by omega) (x2.symm.trans y2)
      subst ek
      have hcb := (hI.2.2.2.2.2.1 k x1).2.2
      rcases x3 with ⟨x3, x4, x5, x6, x7, x8⟩ | ⟨c, bm2, cn2, pl2, x3, x4, x5, x6, x7, x8, x9⟩
      · rcases y3 with ⟨y3, y4, y5⟩ | ⟨c2, bm3, cn3, pl3, y3, y4, y5, y6, y7, y8⟩
        · subst x4 x5 x6 x7 y4
          exact ⟨(z_JI_mk hfd hwr hik hI hkI htp hz hsb hlc hps htl hG hkG htpM hzM hpp hit), fun _ => by rw [x3, y3]⟩
        · exact absurd ⟨c2, y3, y4, y5⟩ x8
      · rcases y3 with ⟨y3, y4, y5⟩ | ⟨c2, bm3, cn3, pl3, y3, y4, y5, y6, y7, y8⟩
        · exact absurd ⟨c, x3, x4, x5⟩ y5
        · have ec := z_nIj (by omega) (by omega) (x5.symm.trans y5)
          subst ec
          obtain ⟨e1, e2, e3⟩ := z_lesS_uniq x7 y7
          subst e1 e2 e3 x8
          exact ⟨(z_JI_mk hfd hwr hik x9 hkI htp hz hsb hlc hps htl y8 hkG htpM hzM hpp hit), fun _ => by rw [x6, y6]⟩
theorem pr_find {hX hM : List z_E} (hJ : z_JI hX hM)  : z_TW False 88 166 [] hX hM := by
  refine z_JI_el (C := fun hX hM => z_TW False 88 166 [] hX hM) hJ ?_
  intro n outs bm ms dr cn pl ik kn ko kb km kd kc kpl fd tp wr pp sz ce p_rankings p_counts p_draw p_fors k_rankings k_counts k_draw k_fors d_size d_outs d_rule d_filled d_rankings d_counts d_draw d_fors w_size w_ins w_rule w_steps w_fors w_draw w_links w_best w_beaters w_distances w_route t_bytes t_next t_ranking t_count l_cells l_sizes s_bytes g kept was tape flt ranking paper pairs above below isDone dist rowv rowMany lsz itm weakAbove weakBelow ps tl hfd hwr hik hI hkI htp hz hsb hlc hps htl hG hkG htpM hzM hpp hit
  have hn8 := hI.1.2
  refine ⟨_, _, c_X5_find 55 hI hfd htp, c_X6_find 54 hG hfd hps htl htpM, ?_⟩
  rintro r hX2 r2 hM2 ⟨nx2X, rk2X, vX, rfl, rfl, qX⟩ ⟨ranking2M, ps2M, ft2M, vM, rfl, rfl, qM⟩
  exact ⟨(z_JI_mk (Nat.zero_le _) hwr hik hI hkI (z_TB_0 (tp := tp)) hz hsb hlc qM.1 hfd hG hkG z_TB_0 hzM hpp hit), False.elim⟩
theorem pr_spell {hX hM : List z_E} (hJ : z_JI hX hM) (a1 : Int32) : z_TW True 89 169 [.int a1] hX hM := by
  refine z_JI_el (C := fun hX hM => z_TW True 89 169 [.int a1] hX hM) hJ ?_
  intro n outs bm ms dr cn pl ik kn ko kb km kd kc kpl fd tp wr pp sz ce p_rankings p_counts p_draw p_fors k_rankings k_counts k_draw k_fors d_size d_outs d_rule d_filled d_rankings d_counts d_draw d_fors w_size w_ins w_rule w_steps w_fors w_draw w_links w_best w_beaters w_distances w_route t_bytes t_next t_ranking t_count l_cells l_sizes s_bytes g kept was tape flt ranking paper pairs above below isDone dist rowv rowMany lsz itm weakAbove weakBelow ps tl hfd hwr hik hI hkI htp hz hsb hlc hps htl hG hkG htpM hzM hpp hit
  have hn8 := hI.1.2
  refine ⟨_, _, c_X5_spell 56 hI, c_X6_spell 57 hG, ?_⟩
  rintro r hX2 r2 hM2 ⟨sb2X, wr2X, vX, rfl, rfl, qX⟩ ⟨paper2M, wr2M, vM, rfl, rfl, qM⟩
  rcases qX with ⟨x0, x1, x2, x3⟩ | ⟨k, x1, x2, x3, x4, x5, x6⟩
  · rcases qM with ⟨y0, y1, y2, y3⟩ | ⟨k2, y1, y2, y3, y4, y5, y6⟩
    · subst x1 x2 y1 y2
      exact ⟨(z_JI_mk hfd hwr hik hI hkI htp hz hsb hlc hps htl hG hkG htpM hzM hpp hit), fun _ => by rw [x0, y0]⟩
    · exact absurd ⟨k2, y1, y2⟩ x3
  · rcases qM with ⟨y0, y1, y2, y3⟩ | ⟨k2, y1, y2, y3, y4, y5, y6⟩
    · exact absurd ⟨k, x1, x2⟩ y3
    · have h40 := hI.2.2.1
      have ek := z_nIj (by omega) (by omega) (x2.symm.trans y2)
      subst ek
      have ew := x4.trans y4.symm
      subst ew
      exact ⟨(z_JI_mk hfd x5 hik hI hkI htp hz (fun k _ => rfl) hlc hps htl hG hkG htpM hzM (fun k hk => (y3 k (by omega)).trans (x3 k (by omega)).symm) hit), fun _ => by rw [x6, y6]⟩
theorem pr_would {hX hM : List z_E} (hJ : z_JI hX hM) (a1 : Int32) : z_TW False 104 213 [.int a1] hX hM := by
  refine z_JI_el (C := fun hX hM => z_TW False 104 213 [.int a1] hX hM) hJ ?_
  intro n outs bm ms dr cn pl ik kn ko kb km kd kc kpl fd tp wr pp sz ce p_rankings p_counts p_draw p_fors k_rankings k_counts k_draw k_fors d_size d_outs d_rule d_filled d_rankings d_counts d_draw d_fors w_size w_ins w_rule w_steps w_fors w_draw w_links w_best w_beaters w_distances w_route t_bytes t_next t_ranking t_count l_cells l_sizes s_bytes g kept was tape flt ranking paper pairs above below isDone dist rowv rowMany lsz itm weakAbove weakBelow ps tl hfd hwr hik hI hkI htp hz hsb hlc hps htl hG hkG htpM hzM hpp hit
  have hn8 := hI.1.2
  refine ⟨_, _, c_X5_would 55 hI hfd htp, c_X6_would 53 hG hfd hps htl htpM, ?_⟩
  rintro r hX2 r2 hM2 ⟨nx2X, rk2X, fd2X, ws2X, wi2X, wr2X, wst2X, wf2X, wd2X, wl2X, wb2X, wt2X, vX, rfl, rfl, qX⟩ ⟨rk2M, ps2M, tl2M, fd2M, ft2M, pairs2M, ab2M, be2M, dn2M, vM, rfl, rfl, qM⟩
  obtain ⟨hp2, ht2, qM⟩ := qM
  rcases qX with ⟨x0, x1, x2⟩ | ⟨x0, k, x1, x2, x3, x4⟩
  · rcases qM with ⟨y0, y1, y2⟩ | ⟨y0, k2, y1, y2, y3, y4⟩
    · subst x1 y1
      exact ⟨(z_JI_mk hfd hwr hik hI hkI htp hz hsb hlc hp2 ht2 hG hkG htpM hzM hpp hit), False.elim⟩
    · exact absurd ⟨k2, y1, y2, y3⟩ x2
  · rcases qM with ⟨y0, y1, y2⟩ | ⟨y0, k2, y1, y2, y3, y4⟩
    · exact absurd ⟨k, x1, x2, x3⟩ y2
    · subst x0 y0
      exact ⟨(z_JI_mk (Nat.zero_le _) hwr hik hI hkI (z_TB_0 (tp := tp)) hz hsb hlc hp2 ht2 hG hkG z_TB_0 hzM hpp hit), False.elim⟩
theorem pr_needs {hX hM : List z_E} (hJ : z_JI hX hM) (a1 : Int32) : z_TW False 105 214 [.int a1] hX hM := by
  refine z_JI_el (C := fun hX hM => z_TW False 105 214 [.int a1] hX hM) hJ ?_
  intro n outs bm ms dr cn pl ik kn ko kb km kd kc kpl fd tp wr pp sz ce p_rankings p_counts p_draw p_fors k_rankings k_counts k_draw k_fors d_size d_outs d_rule d_filled d_rankings d_counts d_draw d_fors w_size w_ins w_rule w_steps w_fors w_draw w_links w_best w_beaters w_distances w_route t_bytes t_next t_ranking t_count l_cells l_sizes s_bytes g kept was tape flt ranking paper pairs above below isDone dist rowv rowMany lsz itm weakAbove weakBelow ps tl hfd hwr hik hI hkI htp hz hsb hlc hps htl hG hkG htpM hzM hpp hit
  have hn8 := hI.1.2
  refine ⟨_, _, c_X5_needs 55 hI hfd htp, c_X6_needs 53 hG hfd hps htl htpM, ?_⟩
  rintro r hX2 r2 hM2 ⟨nx2X, rk2X, fd2X, ws2X, wi2X, wr2X, wst2X, wf2X, wd2X, wl2X, wb2X, wt2X, vX, rfl, rfl, qX⟩ ⟨rk2M, ps2M, tl2M, fd2M, ft2M, pairs2M, ab2M, be2M, dn2M, vM, rfl, rfl, qM⟩
  obtain ⟨hp2, ht2, qM⟩ := qM
  rcases qX with ⟨x0, x1, x2⟩ | ⟨x0, x1, k, x2, x3, x4⟩ | ⟨x0, k, x2, x3, x4, x5⟩
  · rcases qM with ⟨y0, y1, y2⟩ | ⟨y0, y1, k2, y2, y3, y4⟩ | ⟨y0, k2, y2, y3, y4, y5⟩
    · subst x0 y0
      exact ⟨(z_JI_mk hfd hwr hik hI hkI htp hz hsb hlc hp2 ht2 hG hkG htpM hzM hpp hit), False.elim⟩
    · exact absurd ⟨k2, y2, y3⟩ x2
    · exact absurd ⟨k2, y2, y3⟩ x2
  · rcases qM with ⟨y0, y1, y2⟩ | ⟨y0, y1, k2, y2, y3, y4⟩ | ⟨y0, k2, y2, y3, y4, y5⟩
    · exact absurd ⟨k, x2, x3⟩ y2
    · subst x0 y0
      exact ⟨(z_JI_mk hfd hwr hik hI hkI htp hz hsb hlc hp2 ht2 hG hkG htpM hzM hpp hit), False.elim⟩
    · have ek := z_nIj (by omega) (by omega) (x3.symm.trans y3)
      subst ek
      exact Bool.noConfusion (x4.symm.trans y4)
  · rcases qM with ⟨y0, y1, y2⟩ | ⟨y0, y1, k2, y2, y3, y4⟩ | ⟨y0, k2, y2, y3, y4, y5⟩
    · exact absurd ⟨k, x2, x3⟩ y2
    · have ek := z_nIj (by omega) (by omega) (x3.symm.trans y3)
      subst ek
      exact Bool.noConfusion (x4.symm.trans y4)
    · subst x0 y0
      exact ⟨(z_JI_mk (Nat.zero_le _) hwr hik hI hkI (z_TB_0 (tp := tp)) hz hsb hlc hp2 ht2 hG hkG z_TB_0 hzM hpp hit), False.elim⟩
theorem pr_proves {hX hM : List z_E} (hJ : z_JI hX hM) (a1 : Int32) (a2 : Int32) (a3 : Int32) (a4 : Int32) : z_TW False 110 227 [.int a1, .int a2, .int a3, .int a4] hX hM := by
  refine z_JI_el (C := fun hX hM => z_TW False 110 227 [.int a1, .int a2, .int a3, .int a4] hX hM) hJ ?_
  intro n outs bm ms dr cn pl ik kn ko kb km kd kc kpl fd tp wr pp sz ce p_rankings p_counts p_draw p_fors k_rankings k_counts k_draw k_fors d_size d_outs d_rule d_filled d_rankings d_counts d_draw d_fors w_size w_ins w_rule w_steps w_fors w_draw w_links w_best w_beaters w_distances w_route t_bytes t_next t_ranking t_count l_cells l_sizes s_bytes g kept was tape flt ranking paper pairs above below isDone dist rowv rowMany lsz itm weakAbove weakBelow ps tl hfd hwr hik hI hkI htp hz hsb hlc hps htl hG hkG htpM hzM hpp hit
  have hn8 := hI.1.2
  refine ⟨_, _, c_X5_proves 53 hI hz, c_X6_proves 55 hG hzM, ?_⟩
  rintro r hX2 r2 hM2 ⟨ws2X, wi2X, wr2X, wst2X, wf2X, wd2X, wl2X, wb2X, wt2X, vX, rfl, rfl⟩ ⟨pairs2M, wa2M, wb2M, vM, rfl, rfl⟩
  exact ⟨(z_JI_mk hfd hwr hik hI hkI htp hz hsb hlc hps htl hG hkG htpM hzM hpp hit), False.elim⟩
theorem pr_image {hX hM : List z_E} (hJ : z_JI hX hM)  : z_TW True 115 235 [] hX hM := by
  refine z_JI_el (C := fun hX hM => z_TW True 115 235 [] hX hM) hJ ?_
  intro n outs bm ms dr cn pl ik kn ko kb km kd kc kpl fd tp wr pp sz ce p_rankings p_counts p_draw p_fors k_rankings k_counts k_draw k_fors d_size d_outs d_rule d_filled d_rankings d_counts d_draw d_fors w_size w_ins w_rule w_steps w_fors w_draw w_links w_best w_beaters w_distances w_route t_bytes t_next t_ranking t_count l_cells l_sizes s_bytes g kept was tape flt ranking paper pairs above below isDone dist rowv rowMany lsz itm weakAbove weakBelow ps tl hfd hwr hik hI hkI htp hz hsb hlc hps htl hG hkG htpM hzM hpp hit
  have hn8 := hI.1.2
  refine ⟨_, _, c_X5_image 58 hI, c_X6_image 58 hG, ?_⟩
  rintro r hX2 r2 hM2 ⟨kR2X, kC2X, kD2X, kF2X, rfl, rfl, qX⟩ ⟨kept2M, rfl, rfl, qM⟩
  exact ⟨(z_JI_mk hfd hwr (by decide) hI (fun _ => qX) htp hz hsb hlc hps htl hG (fun _ => qM) htpM hzM hpp hit), fun _ => rfl⟩
theorem pr_undo {hX hM : List z_E} (hJ : z_JI hX hM)  : z_TW True 116 236 [] hX hM := by
  refine z_JI_el (C := fun hX hM => z_TW True 116 236 [] hX hM) hJ ?_
  intro n outs bm ms dr cn pl ik kn ko kb km kd kc kpl fd tp wr pp sz ce p_rankings p_counts p_draw p_fors k_rankings k_counts k_draw k_fors d_size d_outs d_rule d_filled d_rankings d_counts d_draw d_fors w_size w_ins w_rule w_steps w_fors w_draw w_links w_best w_beaters w_distances w_route t_bytes t_next t_ranking t_count l_cells l_sizes s_bytes g kept was tape flt ranking paper pairs above below isDone dist rowv rowMany lsz itm weakAbove weakBelow ps tl hfd hwr hik hI hkI htp hz hsb hlc hps htl hG hkG htpM hzM hpp hit
  have hn8 := hI.1.2
  refine ⟨_, _, c_X5_undo 58 hI hik hkI, c_X6_undo 58 hG hik hkG, ?_⟩
  rintro r hX2 r2 hM2 ⟨n2X, o2X, m2X, b2X, pR2X, pC2X, pD2X, pF2X, vX, rfl, rfl, qX⟩ ⟨g2M, vM, rfl, rfl, qM⟩
  rcases qX with ⟨x0, x1, x2, x3, x4, x5, x6, x7, x8, x9⟩ | ⟨x0, x1, x2, x3, x4, x5, x6⟩
  · rcases qM with ⟨y0, y1, y2⟩ | ⟨y0, y1, y2⟩
    · subst x2 x3 x4 x5 x6 x7 x8 x9 y2
      exact ⟨(z_JI_mk hfd hwr hik hI hkI htp hz hsb hlc hps htl hG hkG htpM hzM hpp hit), fun _ => by rw [x1, y1]⟩
    · omega
  · rcases qM with ⟨y0, y1, y2⟩ | ⟨y0, y1, y2⟩
    · omega
    · subst x2 x3 x4 x5
      exact ⟨(z_JI_mk hfd hwr hik x6 hkI htp hz hsb hlc hps htl y2 hkG htpM hzM hpp hit), fun _ => by rw [x1, y1]⟩
theorem pr_list {hX hM : List z_E} (hJ : z_JI hX hM) (a1 : Int32) (a2 : Int32) : z_TW True 112 232 [.int a1, .int a2] hX hM := by
  refine z_JI_el (C := fun hX hM => z_TW True 112 232 [.int a1, .int a2] hX hM) hJ ?_
  intro n outs bm ms dr cn pl ik kn ko kb km kd kc kpl fd tp wr pp sz ce p_rankings p_counts p_draw p_fors k_rankings k_counts k_draw k_fors d_size d_outs d_rule d_filled d_rankings d_counts d_draw d_fors w_size w_ins w_rule w_steps w_fors w_draw w_links w_best w_beaters w_distances w_route t_bytes t_next t_ranking t_count l_cells l_sizes s_bytes g kept was tape flt ranking paper pairs above below isDone dist rowv rowMany lsz itm weakAbove weakBelow ps tl hfd hwr hik hI hkI htp hz hsb hlc hps htl hG hkG htpM hzM hpp hit
  have hn8 := hI.1.2
  refine ⟨_, _, c_X5_list 57 hI, c_X6_list 57 , ?_⟩
  rintro r hX2 r2 hM2 ⟨ls2X, lc2X, vX, rfl, rfl, qX⟩ ⟨lsz2M, itm2M, vM, rfl, rfl, qM⟩
  rcases qX with ⟨x0, x1, x2, x3⟩ | ⟨q, x0, x1, x2⟩
  · rcases qM with ⟨y0, y1, y2, y3⟩ | ⟨q2, y0, y1, y2⟩
    · subst x1 x2 y1 y2
      exact ⟨(z_JI_mk hfd hwr hik hI hkI htp hz hsb hlc hps htl hG hkG htpM hzM hpp hit), fun _ => by rw [x0, y0]⟩
    · exact absurd ⟨q2, y0, y1⟩ x3
  · rcases qM with ⟨y0, y1, y2, y3⟩ | ⟨q2, y0, y1, y2⟩
    · exact absurd ⟨q, x0, x1⟩ y3
    · have eq := z_nIj (by omega) (by omega) (x1.symm.trans y1)
      subst eq
      rcases x2 with ⟨x2, x3, x4, x5⟩ | ⟨x2, x3, x4, x5⟩ | ⟨k, x2, x3, x4, x5, x6⟩
      · rcases y2 with ⟨y2, y3, y4, y5⟩ | ⟨y2, y3, y4, y5⟩ | ⟨k2, y2, y3, y4, y5, y6⟩
        · subst x4 x5 y4 y5
          exact ⟨(z_JI_mk hfd hwr hik hI hkI htp hz hsb hlc hps htl hG hkG htpM hzM hpp hit), fun _ => by rw [x3, y3]⟩
        · exact absurd y2 (fun h => absurd (Int32.lt_trans x2 h) (by decide +kernel))
        · rw [y3] at x2; exact absurd ((nI_ltI (by omega) (by omega)).mp x2) (by omega)
      · rcases y2 with ⟨y2, y3, y4, y5⟩ | ⟨y2, y3, y4, y5⟩ | ⟨k2, y2, y3, y4, y5, y6⟩
        · exact absurd y2 (fun h => absurd (Int32.lt_trans h x2) (by decide +kernel))
        · subst x4 x5 y4 y5
          exact ⟨(z_JI_mk hfd hwr hik hI hkI htp hz hsb hlc hps htl hG hkG htpM hzM hpp hit), fun _ => by rw [x3, y3]⟩
        · rw [y3] at x2; exact absurd x2 (nI_pos (by omega))
      · rcases y2 with ⟨y2, y3, y4, y5⟩ | ⟨y2, y3, y4, y5⟩ | ⟨k2, y2, y3, y4, y5, y6⟩
        · rw [x3] at y2; exact absurd ((nI_ltI (by omega) (by omega)).mp y2) (by omega)
        · rw [x3] at y2; exact absurd y2 (nI_pos (by omega))
        · have ek := z_nIj (by omega) (by omega) (x3.symm.trans y3)
          subst ek x5 y5
          exact ⟨(z_JI_mk hfd hwr hik hI hkI htp (z_LZ_put hz x2) hsb (fun x _ => rfl) hps htl hG hkG htpM (z_LZ_put hzM x2) hpp (fun x hx => by rw [y6 x, x6 x]; split; rfl; exact (hit x hx).trans (hlc x hx).symm)), fun _ => by rw [x4, y4]⟩
theorem pr_set {hX hM : List z_E} (hJ : z_JI hX hM) (a1 : Int32) (a2 : Int32) (a3 : Int64) : z_TW True 113 233 [.int a1, .int a2, .long a3] hX hM := by
  refine z_JI_el (C := fun hX hM => z_TW True 113 233 [.int a1, .int a2, .long a3] hX hM) hJ ?_
  intro n outs bm ms dr cn pl ik kn ko kb km kd kc kpl fd tp wr pp sz ce p_rankings p_counts p_draw p_fors k_rankings k_counts k_draw k_fors d_size d_outs d_rule d_filled d_rankings d_counts d_draw d_fors w_size w_ins w_rule w_steps w_fors w_draw w_links w_best w_beaters w_distances w_route t_bytes t_next t_ranking t_count l_cells l_sizes s_bytes g kept was tape flt ranking paper pairs above below isDone dist rowv rowMany lsz itm weakAbove weakBelow ps tl hfd hwr hik hI hkI htp hz hsb hlc hps htl hG hkG htpM hzM hpp hit
  have hn8 := hI.1.2
  refine ⟨_, _, c_X5_set 55 hI hz, c_X6_set 56 hzM, ?_⟩
  rintro r hX2 r2 hM2 ⟨lc2X, r2X, rfl, rfl, qX⟩ ⟨itm2M, r2M, rfl, rfl, qM⟩
  have h41 : ∀ q, q < 4 → sz q ≤ 41 := fun q hq => (hz q hq).2
  rcases qX with ⟨x0, x1, x2⟩ | ⟨q, x0, x1, x2⟩
  · rcases qM with ⟨y0, y1, y2⟩ | ⟨q2, y0, y1, y2⟩
    · subst x1 y1
      exact ⟨(z_JI_mk hfd hwr hik hI hkI htp hz hsb hlc hps htl hG hkG htpM hzM hpp hit), fun _ => by rw [x0, y0]⟩
    · exact absurd ⟨q2, y0, y1⟩ x2
  · rcases qM with ⟨y0, y1, y2⟩ | ⟨q2, y0, y1, y2⟩
    · exact absurd ⟨q, x0, x1⟩ y2
    · have eq := z_nIj (by omega) (by omega) (x1.symm.trans y1)
      subst eq
      have h4 := h41 q x0
      rcases x2 with ⟨x2, x3, x4⟩ | ⟨x2, x3⟩
      · rcases y2 with ⟨y2, y3, y4⟩ | ⟨y2, y3⟩
        · subst x4 y4
          exact ⟨(z_JI_mk hfd hwr hik hI hkI htp hz hsb hlc hps htl hG hkG htpM hzM hpp hit), fun _ => by rw [x3, y3]⟩
        · exact absurd x2 y2
      · rcases y2 with ⟨y2, y3, y4⟩ | ⟨y2, y3⟩
        · exact absurd y2 x2
        · rcases x3 with ⟨x, x3, x4, x5, x6⟩ | ⟨x3, x5, x6⟩
          · rcases y3 with ⟨x', y3, y4, y5, y6⟩ | ⟨y3, y5, y6⟩
            · have ex := z_nIj (by omega) (by omega) (x4.symm.trans y4)
              subst ex x6 y6
              exact ⟨(z_JI_mk hfd hwr hik hI hkI htp hz hsb (fun x _ => rfl) hps htl hG hkG htpM hzM hpp (fun y hy => by unfold vp_updL; split; rfl; exact (hit y hy).trans (hlc y hy).symm)), fun _ => by rw [x5, y5]⟩
            · exact absurd ⟨x, x3, x4⟩ y3
          · rcases y3 with ⟨x', y3, y4, y5, y6⟩ | ⟨y3, y5, y6⟩
            · exact absurd ⟨x', y3, y4⟩ x3
            · subst x6 y6
              exact ⟨(z_JI_mk hfd hwr hik hI hkI htp hz hsb hlc hps htl hG hkG htpM hzM hpp hit), fun _ => by rw [x5, y5]⟩
theorem pr_prove {hX hM : List z_E} (hJ : z_JI hX hM) (a1 : Int32) (a2 : Int32) (a3 : Int32) (a4 : Int32) : z_TW False 109 223 [.int a1, .int a2, .int a3, .int a4] hX hM := by
  refine z_JI_el (C := fun hX hM => z_TW False 109 223 [.int a1, .int a2, .int a3, .int a4] hX hM) hJ ?_
  intro n outs bm ms dr cn pl ik kn ko kb km kd kc kpl fd tp wr pp sz ce p_rankings p_counts p_draw p_fors k_rankings k_counts k_draw k_fors d_size d_outs d_rule d_filled d_rankings d_counts d_draw d_fors w_size w_ins w_rule w_steps w_fors w_draw w_links w_best w_beaters w_distances w_route t_bytes t_next t_ranking t_count l_cells l_sizes s_bytes g kept was tape flt ranking paper pairs above below isDone dist rowv rowMany lsz itm weakAbove weakBelow ps tl hfd hwr hik hI hkI htp hz hsb hlc hps htl hG hkG htpM hzM hpp hit
  have hn8 := hI.1.2
  refine ⟨_, _, c_X5_prove 54 hI hz, c_X6_prove 53 hG hzM, ?_⟩
  rintro r hX2 r2 hM2 ⟨ws2X, wi2X, wr2X, wst2X, wf2X, wd2X, wl2X, wb2X, wt2X, wq2X, wo2X, lc2X, vX, rfl, rfl, qX⟩ ⟨pairs2M, ab2M, be2M, dn2M, dist2M, row2M, rm2M, itm2M, vM, rfl, rfl, qM⟩
  rcases qX with ⟨x0, x1, x2⟩ | ⟨a, b, q, x1, x2, x3, x4, x5, x6, x7⟩
  · rcases qM with ⟨y0, y1, y2⟩ | ⟨a', b', q', y1, y2, y3, y4, y5, y6, y7, y8⟩
    · subst x1 y1
      exact ⟨(z_JI_mk hfd hwr hik hI hkI htp hz hsb hlc hps htl hG hkG htpM hzM hpp hit), False.elim⟩
    · exact absurd ⟨⟨a', b', y1, y2, y4, y5⟩, q', y6, y7⟩ x2
  · have hxu : a = b → lc2X = l_cells := by
      intro e
      subst e
      rcases x7 with ⟨_, _, u⟩ | ⟨_, K, hK, h⟩
      · exact u
      · rcases h with ⟨_, _, u⟩ | ⟨h, _⟩
        · exact u
        · exact absurd rfl (z_btb_iff.mp h).1
    rcases qM with ⟨y0, y1, y2⟩ | ⟨a', b', q', y1, y2, y3, y4, y5, y6, y7, y8⟩
    · have e : a = b := Decidable.byContradiction (fun h => y2 ⟨⟨a, b, x1, x2, h, x3, x4⟩, q, x5, x6⟩)
      have u := hxu e
      subst u y1
      exact ⟨(z_JI_mk hfd hwr hik hI hkI htp hz hsb hlc hps htl hG hkG htpM hzM hpp hit), False.elim⟩
    · have ea := z_nIj (by omega) (by omega) (x3.symm.trans y4)
      have eb := z_nIj (by omega) (by omega) (x4.symm.trans y5)
      have eq := z_nIj (by omega) (by omega) (x6.symm.trans y7)
      subst ea eb eq
      rcases x7 with ⟨x7, _, u⟩ | ⟨x7, K, hK, x8⟩
      · rcases y8 with ⟨_, _, w⟩ | ⟨y8, _⟩
        · subst u w
          exact ⟨(z_JI_mk hfd hwr hik hI hkI htp hz hsb hlc hps htl hG hkG htpM hzM hpp hit), False.elim⟩
        · exact absurd y8 x7
      · rcases y8 with ⟨y8, _, w⟩ | ⟨y8, K2, hK2, y9⟩
        · exact absurd x7 y8
        · have hKK : ∀ a, a < n → ∀ b, b < n → K a b = K2 a b := fun a ha b hb => z_rows_uniq hK hK2 ha hb
          have hbt := z_btb_congr x1 x2 hKK
          rcases x8 with ⟨x8, _, u⟩ | ⟨x8, x9⟩
          · rcases y9 with ⟨y9, _, w⟩ | ⟨y9, y10⟩
            · subst u w
              exact ⟨(z_JI_mk hfd hwr hik hI hkI htp hz hsb hlc hps htl hG hkG htpM hzM hpp hit), False.elim⟩
            · rw [x8, y9] at hbt; exact Bool.noConfusion hbt
          · rcases y9 with ⟨y9, _, w⟩ | ⟨y9, y10⟩
            · rw [x8, y9] at hbt; exact Bool.noConfusion hbt
            · rcases x9 with ⟨x9, _, u⟩ | ⟨x9, D, rw1, x10, x11⟩
              · rcases y10 with ⟨y10, _, w⟩ | ⟨y10, D2, rw2, y11, y12⟩
                · subst u w
                  exact ⟨(z_JI_mk hfd hwr hik hI hkI htp hz hsb hlc hps htl hG hkG htpM hzM hpp hit), False.elim⟩
                · exact absurd x9 y10
              · rcases y10 with ⟨y10, _, w⟩ | ⟨y10, D2, rw2, y11, y12⟩
                · exact absurd y10 x9
                · have eu := z_WAY_uniq x1 (hKK a x1 b x2) x10 y11
                  rcases x11 with ⟨x11, _, u⟩ | ⟨x, x11, x12, x13, x14⟩
                  · rcases y12 with ⟨_, _, w⟩ | ⟨x', y12, y13, _⟩
                    · subst u w
                      exact ⟨(z_JI_mk hfd hwr hik hI hkI htp hz hsb hlc hps htl hG hkG htpM hzM hpp hit), False.elim⟩
                    · rw [y13] at x11; exact absurd x11 (nI_pos (by omega))
                  · rcases y12 with ⟨y12, _, w⟩ | ⟨x', y12, y14, y13, _⟩
                    · rw [x12] at y12; exact absurd y12 (nI_pos (by omega))
                    · have ex := z_nIj (by omega) (by omega) (x12.symm.trans y14)
                      subst ex
                      rw [eu.1, ← z_ba_congr x2 x1 hKK] at y13
                      exact ⟨(z_JI_mk hfd hwr hik hI hkI htp hz hsb (fun x _ => rfl) hps htl hG hkG htpM hzM hpp (fun x hx => (z_lay_uniq x5 (hz _ x5).2 (fun x hx => (hlc x hx).trans (hit x hx).symm) (fun k hk => (eu.2 k hk)) x13 y13 x hx).symm)), False.elim⟩
