/-! the JDK's methods on texts: appending, new Strings -/
set_option maxHeartbeats 4000000 in
set_option maxRecDepth 1000000 in
theorem c_J5_append_cf1ce {ε : y_Ev} {f : Nat → Int32} {a : Nat} {t_a : Nat} {t_v : Nat} {t_f : Nat → Int32} {t_L : List Nat} {t_B : va_W} {v : Nat} {m : Nat} {L : List Nat} (h_t : y_Tv ε t_a t_v t_f t_L t_B) (hs : y_Sb L m f) (hl : L.length + t_L.length ≤ 100) : y_C ε zmJ5_append_cf1ce 5 151 1 202 [.ref a, .ref t_a] ((a, .inr (7, [.ref v, .int (nI 0), .int (nI 0), .int (nI L.length)])) :: ((v, .inl (y_c ε 2, m, .inl f)) :: t_B)) (fun r w2 => ∃ (v2 : Nat) (m2 : Nat) (f2 : Nat → Int32), r = some (.ref a) ∧ w2 = (a, .inr (7, [.ref v2, .int (nI 0), .int (nI 0), .int (nI ((L ++ t_L).length))])) :: ((v2, .inl (y_c ε 2, m2, .inl f2)) :: t_B) ∧ (y_Sb (L ++ t_L) m2 f2)) := by
  obtain ⟨s1, s2, s3, s4, s5⟩ := id hs; have eL : (L ++ t_L).length = L.length + t_L.length := List.length_append
  refine y_start (y := 104) rfl rfl (fun κ hC hT hN0 => ?_)
  refine y_steps hC 3 (σ' := (10, [(0, .ref a), (1, .ref t_a)], [.ref t_a], [])) rfl ?_
  refine y_mv [[(a, .inr (7, [.ref v, .int (nI 0), .int (nI 0), .int (nI L.length)]))], [(v, .inl (y_c ε 2, m, .inl f))]] (t_B) [] ?_
  refine y_spl [t_B] [[(a, .inr (7, [.ref v, .int (nI 0), .int (nI 0), .int (nI L.length)]))], [(v, .inl (y_c ε 2, m, .inl f))]] ?_
  refine y_callV (b := t_a) (pc := 10) (st := []) (y := 118) (idx := 32) (w := y_J [t_B]) (wr := y_J [[(a, .inr (7, [.ref v, .int (nI 0), .int (nI 0), .int (nI L.length)]))], [(v, .inl (y_c ε 2, m, .inl f))]]) (av := []) hC rfl rfl rfl (z_t4 (i := 44) rfl rfl) (z_t3 (i := 136) rfl rfl) (z_t3 (i := 137) rfl rfl) (z_t1 (i := 14) rfl rfl) (fun H locs hP hS => y_trec hC h_t (X := y_J [[(a, .inr (7, [.ref v, .int (nI 0), .int (nI 0), .int (nI L.length)]))], [(v, .inl (y_c ε 2, m, .inl f))]]) (hP) hS) (c_J0_length_8abf5 (t_a := t_a) (t_v := t_v) (t_f := t_f) (t_L := t_L) (t_B := t_B) h_t) (show _ = some 0 from by decide +kernel) rfl rfl (by omega) (by omega) rfl (fun r_10 w_10 p_10 => ?_)
  obtain ⟨rfl, ew_10⟩ := p_10
  replace ew_10 := ew_10.symm
  subst ew_10
  refine y_cmb [t_B] [[(a, .inr (7, [.ref v, .int (nI 0), .int (nI 0), .int (nI L.length)]))], [(v, .inl (y_c ε 2, m, .inl f))]] ?_
  refine y_steps hC 3 (σ' := (16, [(2, .int (nI t_L.length)), (0, .ref a), (1, .ref t_a)], [.ref a, .ref a], [])) rfl ?_
  refine y_mv [t_B, [(a, .inr (7, [.ref v, .int (nI 0), .int (nI 0), .int (nI L.length)]))]] ([(v, .inl (y_c ε 2, m, .inl f))]) [] ?_
  refine y_mv [[(v, .inl (y_c ε 2, m, .inl f))], t_B] ([(a, .inr (7, [.ref v, .int (nI 0), .int (nI 0), .int (nI L.length)]))]) [] ?_
  refine y_get (k := 0) (ci := 7) (j := 3) hC rfl rfl rfl rfl (z_t3 (i := 213) rfl rfl) rfl ?_
  refine y_steps hC 1 (σ' := (20, [(2, .int (nI t_L.length)), (0, .ref a), (1, .ref t_a)], [.int (nI t_L.length), .int (nI L.length), .ref a], [])) rfl ?_
  refine y_add hC (L.length + t_L.length) rfl (by first | rfl | omega) ?_
  refine y_steps hC 0 (σ' := (21, [(2, .int (nI t_L.length)), (0, .ref a), (1, .ref t_a)], [.int (nI (L.length + t_L.length)), .ref a], [])) rfl ?_
  refine y_spl [[(a, .inr (7, [.ref v, .int (nI 0), .int (nI 0), .int (nI L.length)]))], [(v, .inl (y_c ε 2, m, .inl f))]] [t_B] ?_
  refine y_callU (b := a) (C := "java/lang/StringBuilder") (x := ⟨"java/lang/AbstractStringBuilder", "ensureCapacityInternal", "(I)V"⟩) (pc := 21) (st := []) (y := 102) (idx := 100) (w := y_J [[(a, .inr (7, [.ref v, .int (nI 0), .int (nI 0), .int (nI L.length)]))], [(v, .inl (y_c ε 2, m, .inl f))]]) (wr := y_J [t_B]) (av := [.int (nI (L.length + t_L.length))]) hC rfl rfl rfl (z_t3 (i := 235) rfl rfl) (z_t4 (i := 202) rfl rfl) (y_selM (y := yJ5_ensureCapacityInternal_d00df) (by simp [y_prv]) rfl) (z_t3 (i := 237) rfl rfl) (z_t1 (i := 12) rfl rfl) (fun H locs hP hS => y_rW (ci := 7) (k := 0) hC rfl rfl H locs hP hS) (c_J5_ensureCapacityInternal_d00df (f := f) (a := a) (q := L.length + t_L.length) (v := v) (n := L.length) (m := m) (by first | assumption | omega | rfl | trivial) (by first | assumption | omega | rfl | trivial) (by exact s5)) (show _ = some 1 from by decide +kernel) rfl rfl (by omega) (by omega) rfl (fun r_21 w_21 p_21 => ?_)
  obtain ⟨v2_21, m2_21, f2_21, rfl, ew_21, q_21⟩ := p_21
  replace ew_21 := ew_21.symm
  subst ew_21
  refine y_cmb [[(a, .inr (7, [.ref v2_21, .int (nI 0), .int (nI 0), .int (nI L.length)]))], [(v2_21, .inl (y_c ε 2, m2_21, .inl f2_21))]] [t_B] ?_
  refine y_steps hC 2 (σ' := (26, [(2, .int (nI t_L.length)), (0, .ref a), (1, .ref t_a)], [.ref a, .ref a], [])) rfl ?_
  refine y_get (k := 0) (ci := 7) (j := 3) hC rfl rfl rfl rfl (z_t3 (i := 213) rfl rfl) rfl ?_
  refine y_steps hC 1 (σ' := (30, [(2, .int (nI t_L.length)), (0, .ref a), (1, .ref t_a)], [.ref t_a, .int (nI L.length), .ref a], [])) rfl ?_
  refine y_spl [[(a, .inr (7, [.ref v2_21, .int (nI 0), .int (nI 0), .int (nI L.length)]))], [(v2_21, .inl (y_c ε 2, m2_21, .inl f2_21))], t_B] [] ?_
  refine y_callU (b := a) (C := "java/lang/StringBuilder") (x := ⟨"java/lang/AbstractStringBuilder", "putStringAt", "(ILjava/lang/String;)V"⟩) (pc := 30) (st := []) (y := 110) (idx := 208) (w := y_J [[(a, .inr (7, [.ref v2_21, .int (nI 0), .int (nI 0), .int (nI L.length)]))], [(v2_21, .inl (y_c ε 2, m2_21, .inl f2_21))], t_B]) (wr := y_J []) (av := [.int (nI L.length), .ref t_a]) hC rfl rfl rfl (z_t4 (i := 45) rfl rfl) (z_t4 (i := 204) rfl rfl) (y_selM (y := yJ5_putStringAt_47b60) (by simp [y_prv]) rfl) (z_t4 (i := 47) rfl rfl) (z_t1 (i := 12) rfl rfl) (fun H locs hP hS => y_rW (ci := 7) (k := 0) hC rfl rfl H locs hP hS) (c_J5_putStringAt_47b60 (g := f2_21) (a := a) (i := L.length) (t_a := t_a) (t_v := t_v) (t_f := t_f) (t_L := t_L) (t_B := t_B) (v := v2_21) (n := L.length) (m := m2_21) h_t (by have := q_21.1; omega) (by have := q_21.2.2.1; omega)) (show _ = some 2 from by decide +kernel) rfl rfl (by omega) (by omega) rfl (fun r_30 w_30 p_30 => ?_)
  obtain ⟨rfl, ew_30⟩ := p_30
  replace ew_30 := ew_30.symm
  subst ew_30
  refine y_cmb [[(a, .inr (7, [.ref v2_21, .int (nI 0), .int (nI 0), .int (nI L.length)]))], [(v2_21, .inl (y_c ε 2, m2_21, .inl (va_cpy t_f f2_21 0 L.length t_L.length)))], t_B] [] ?_
  refine y_steps hC 2 (σ' := (35, [(2, .int (nI t_L.length)), (0, .ref a), (1, .ref t_a)], [.ref a, .ref a], [])) rfl ?_
  refine y_get (k := 0) (ci := 7) (j := 3) hC rfl rfl rfl rfl (z_t3 (i := 213) rfl rfl) rfl ?_
  refine y_steps hC 1 (σ' := (39, [(2, .int (nI t_L.length)), (0, .ref a), (1, .ref t_a)], [.int (nI t_L.length), .int (nI L.length), .ref a], [])) rfl ?_
  have ey_39 : ((nI L.length) + (nI t_L.length)) = nI ((L ++ t_L).length) := (nI_add _ _).trans (congrArg nI List.length_append.symm)
  refine y_one hC (σ' := (40, [(2, .int (nI t_L.length)), (0, .ref a), (1, .ref t_a)], [.int (((nI L.length) + (nI t_L.length))), .ref a], [])) rfl ?_
  rw [ey_39]
  refine y_steps hC 0 (σ' := (40, [(2, .int (nI t_L.length)), (0, .ref a), (1, .ref t_a)], [.int (nI ((L ++ t_L).length)), .ref a], [])) rfl ?_
  refine y_put (k := 0) (ci := 7) (j := 3) (ty := .int) (ws2 := ((a, .inr (7, [.ref v2_21, .int (nI 0), .int (nI 0), .int (nI ((L ++ t_L).length))])) :: ((v2_21, .inl (y_c ε 2, m2_21, .inl (va_cpy t_f f2_21 0 L.length t_L.length))) :: t_B))) hC rfl rfl rfl rfl (z_t3 (i := 213) rfl rfl) rfl (by decide +kernel) (by rfl) (by rfl) rfl rfl ?_
  refine y_steps hC 1 (σ' := (44, [(2, .int (nI t_L.length)), (0, .ref a), (1, .ref t_a)], [.ref a], [])) rfl ?_
  exact y_aret hC hT rfl (Or.inl ⟨_, rfl⟩) rfl (by omega) (by omega) ⟨v2_21, m2_21, (va_cpy t_f f2_21 0 L.length t_L.length), rfl, (by rfl), (by exact y_Sb_app hs h_t (by have := q_21.1; omega) q_21.2.2.1 q_21.2.2.2.1 q_21.2.2.2.2)⟩
set_option maxHeartbeats 4000000 in
set_option maxRecDepth 1000000 in
theorem c_J4_append_15ec4 {ε : y_Ev} {f : Nat → Int32} {a : Nat} {t_a : Nat} {t_v : Nat} {t_f : Nat → Int32} {t_L : List Nat} {t_B : va_W} {v : Nat} {m : Nat} {L : List Nat} (h_t : y_Tv ε t_a t_v t_f t_L t_B) (hs : y_Sb L m f) (hl : L.length + t_L.length ≤ 100) : y_C ε zmJ4_append_15ec4 6 173 1 202 [.ref a, .ref t_a] ((a, .inr (7, [.ref v, .int (nI 0), .int (nI 0), .int (nI L.length)])) :: ((v, .inl (y_c ε 2, m, .inl f)) :: t_B)) (fun r w2 => ∃ (v2 : Nat) (m2 : Nat) (f2 : Nat → Int32), r = some (.ref a) ∧ w2 = (a, .inr (7, [.ref v2, .int (nI 0), .int (nI 0), .int (nI ((L ++ t_L).length))])) :: ((v2, .inl (y_c ε 2, m2, .inl f2)) :: t_B) ∧ (y_Sb (L ++ t_L) m2 f2)) := by
  refine y_start (y := 126) rfl rfl (fun κ hC hT hN0 => ?_)
  refine y_steps hC 2 (σ' := (2, [(0, .ref a), (1, .ref t_a)], [.ref t_a, .ref a], [])) rfl ?_
  refine y_spl [[(a, .inr (7, [.ref v, .int (nI 0), .int (nI 0), .int (nI L.length)]))], [(v, .inl (y_c ε 2, m, .inl f))], t_B] [] ?_
  obtain ⟨cC_2, hat_2⟩ := y_at (ci := 7) hC rfl
  refine y_callSU (b := a) (pc := 2) (st := []) (y := 104) (idx := 29) (w := y_J [[(a, .inr (7, [.ref v, .int (nI 0), .int (nI 0), .int (nI L.length)]))], [(v, .inl (y_c ε 2, m, .inl f))], t_B]) (wr := y_J []) (av := [.ref t_a]) hC rfl rfl (by decide) (z_t3 (i := 228) rfl rfl) (z_t4 (i := 200) rfl rfl) (z_t3 (i := 222) rfl rfl) (z_t3 (i := 229) rfl rfl) (z_t1 (i := 12) rfl rfl) hat_2 (fun H locs hP hS => y_rW (ci := 7) (k := 0) hC rfl rfl H locs hP hS) (c_J5_append_cf1ce (f := f) (a := a) (t_a := t_a) (t_v := t_v) (t_f := t_f) (t_L := t_L) (t_B := t_B) (v := v) (m := m) (L := L) h_t (by exact hs) (by first | assumption | omega | rfl | trivial)) (show _ = some 1 from by decide +kernel) rfl rfl (by omega) (by omega) rfl (fun r_2 w_2 p_2 => ?_)
  obtain ⟨v2_2, m2_2, f2_2, rfl, ew_2, q_2⟩ := p_2
  replace ew_2 := ew_2.symm
  subst ew_2
  refine y_cmb [[(a, .inr (7, [.ref v2_2, .int (nI 0), .int (nI 0), .int (nI ((L ++ t_L).length))]))], [(v2_2, .inl (y_c ε 2, m2_2, .inl f2_2))], t_B] [] ?_
  refine y_steps hC 2 (σ' := (7, [(0, .ref a), (1, .ref t_a)], [.ref a], [])) rfl ?_
  exact y_aret hC hT rfl (Or.inl ⟨_, rfl⟩) rfl (by omega) (by omega) ⟨v2_2, m2_2, f2_2, rfl, (by rfl), (by exact q_2)⟩
set_option maxHeartbeats 4000000 in
set_option maxRecDepth 1000000 in
theorem c_J6_stringSize_0f7a4_1 {ε : y_Ev} {x : Nat} (hx : x < 10) : y_C ε zmJ6_stringSize_0f7a4 1 60 0 0 [.int (nI x)] (([] : va_W)) (fun r w2 => r = some (.int (nI 1)) ∧ w2 = ([] : va_W)) := by
  refine y_start (y := 112) rfl rfl (fun κ hC hT hN0 => ?_)
  refine y_steps hC 3 (σ' := (3, [(1, .int (nI 1)), (0, .int (nI x))], [.int (nI x)], [])) rfl ?_
  refine y_ifF hC (c := nI x < 0) rfl (nI_pos (by omega)) ?_
  refine y_steps hC 14 (σ' := (24, [(3, .int (nI 1)), (2, .int ((-nI 10))), (0, .int ((-(nI x)))), (1, .int (nI 0))], [.int ((-nI 10)), .int ((-(nI x)))], [])) rfl ?_
  refine y_ifF hC (c := (-(nI x)) ≤ (-nI 10)) rfl (by first | exact (sb_nle (by omega) (by omega)).mpr (by omega) | (intro z; have := (sb_nle (a := x) (b := 10) (by omega) (by omega)).mp z; omega) | (intro z; rw [show nI 10 * -nI 10 = -nI 100 by decide] at z; have := (sb_nle (a := x) (b := 100) (by omega) (by omega)).mp z; omega)) ?_
  refine y_steps hC 2 (σ' := (29, [(3, .int (nI 1)), (2, .int ((-nI 10))), (0, .int ((-(nI x)))), (1, .int (nI 0))], [.int (nI 0), .int (nI 1)], [])) rfl ?_
  refine y_add hC (1) rfl (by first | rfl | omega) ?_
  refine y_steps hC 0 (σ' := (30, [(3, .int (nI 1)), (2, .int ((-nI 10))), (0, .int ((-(nI x)))), (1, .int (nI 0))], [.int (nI 1)], [])) rfl ?_
  exact y_iret hC hT rfl rfl (by omega) (by omega) ⟨(by rfl), (by rfl)⟩
set_option maxHeartbeats 4000000 in
set_option maxRecDepth 1000000 in
theorem c_J6_getChars_ba4f3_1 {ε : y_Ev} {g : Nat → Int32} {x : Nat} {i : Nat} {d : Nat} {m : Nat} (hx : x < 10) (hi : 1 ≤ i ∧ i ≤ m) (hm : m ≤ 1000) : y_C ε zmJ6_getChars_ba4f3 1 60 0 0 [.int (nI x), .int (nI i), .ref d] ([(d, .inl (y_c ε 2, m, .inl g))]) (fun r w2 => r = some (.int (nI (i - 1))) ∧ w2 = [(d, .inl (y_c ε 2, m, .inl (upd g (i - 1) (nI (48 + x % 10)))))]) := by
  refine y_start (y := 111) rfl rfl (fun κ hC hT hN0 => ?_)
  refine y_steps hC 3 (σ' := (4, [(5, .int (nI i)), (0, .int (nI x)), (1, .int (nI i)), (2, .ref d)], [.int (nI x)], [])) rfl ?_
  refine y_ifT hC (c := 0 ≤ nI x) rfl (nI_pos' (by omega)) ?_
  refine y_steps hC 9 (σ' := (25, [(0, .int ((-(nI x)))), (6, .int (nI 0)), (5, .int (nI i)), (1, .int (nI i)), (2, .ref d)], [.int ((-nI 100)), .int ((-(nI x)))], [])) rfl ?_
  refine y_ifT hC (c := (-nI 100) < (-(nI x))) rfl (by exact (sb_nlt (by omega) (by omega)).mpr (by omega)) ?_
  refine y_steps hC 1 (σ' := (73, [(0, .int ((-(nI x)))), (6, .int (nI 0)), (5, .int (nI i)), (1, .int (nI i)), (2, .ref d)], [.ref d], [])) rfl ?_
  refine y_dec hC (n := 0) rfl rfl rfl (i - 1) (by first | assumption | omega | rfl | trivial) (by first | assumption | omega | rfl | trivial) [(5, .int (nI (i - 1))), (0, .int ((-(nI x)))), (6, .int (nI 0)), (1, .int (nI i)), (2, .ref d)] rfl ?_
  refine y_steps hC 1 (σ' := (78, [(5, .int (nI (i - 1))), (0, .int ((-(nI x)))), (6, .int (nI 0)), (1, .int (nI i)), (2, .ref d)], [.int (nI (i - 1)), .ref d], [])) rfl ?_
  refine y_gs1 hC rfl (z_t4 (i := 94) rfl rfl) ?_
  refine y_steps hC 2 (σ' := (83, [(5, .int (nI (i - 1))), (0, .int ((-(nI x)))), (6, .int (nI 0)), (1, .int (nI i)), (2, .ref d)], [.int ((-((-(nI x))))), .ref (y_a ε 40), .int (nI (i - 1)), .ref d], [])) rfl ?_
  have er_82 : (-((-(nI x)))) = nI x := Int32.neg_neg
  rw [er_82]
  refine y_dg1 hC rfl (by first | assumption | omega | rfl | trivial) ?_
  refine y_steps hC 0 (σ' := (84, [(5, .int (nI (i - 1))), (0, .int ((-(nI x)))), (6, .int (nI 0)), (1, .int (nI i)), (2, .ref d)], [.int (nI (48 + x % 10)), .int (nI (i - 1)), .ref d], [])) rfl ?_
  refine y_bas (ws2 := ([(d, .inl (y_c ε 2, m, .inl (upd g (i - 1) (nI (48 + x % 10)))))])) hC 0 rfl rfl (by first | assumption | omega | rfl | trivial) (by omega) (by exact z_narN _ (by omega)) rfl ?_
  refine y_steps hC 2 (σ' := (88, [(5, .int (nI (i - 1))), (0, .int ((-(nI x)))), (6, .int (nI 0)), (1, .int (nI i)), (2, .ref d)], [.int ((-nI 9)), .int ((-(nI x)))], [])) rfl ?_
  refine y_ifT hC (c := (-nI 9) ≤ (-(nI x))) rfl (by first | exact (sb_nle (by omega) (by omega)).mpr (by omega) | (intro z; have := (sb_nle (a := 9) (b := x) (by omega) (by omega)).mp z; omega)) ?_
  refine y_steps hC 3 (σ' := (120, [(5, .int (nI (i - 1))), (0, .int ((-(nI x)))), (6, .int (nI 0)), (1, .int (nI i)), (2, .ref d)], [.int (nI (i - 1))], [])) rfl ?_
  exact y_iret hC hT rfl rfl (by omega) (by omega) ⟨(by rfl), (by rfl)⟩
set_option maxHeartbeats 4000000 in
set_option maxRecDepth 1000000 in
theorem c_J5_append_c97b9_1 {ε : y_Ev} {f : Nat → Int32} {a : Nat} {x : Nat} {v : Nat} {m : Nat} {L : List Nat} (hs : y_Sb L m f) (hx : x < 10) (hl : L.length + 1 ≤ 100) : y_C ε zmJ5_append_c97b9 5 151 1 202 [.ref a, .int (nI x)] ((a, .inr (7, [.ref v, .int (nI 0), .int (nI 0), .int (nI L.length)])) :: [(v, .inl (y_c ε 2, m, .inl f))]) (fun r w2 => ∃ (v2 : Nat) (m2 : Nat) (f2 : Nat → Int32), r = some (.ref a) ∧ w2 = (a, .inr (7, [.ref v2, .int (nI 0), .int (nI 0), .int (nI ((L ++ [48 + x]).length))])) :: [(v2, .inl (y_c ε 2, m2, .inl f2))] ∧ (y_Sb (L ++ [48 + x]) m2 f2)) := by
  obtain ⟨s1, s2, s3, s4, s5⟩ := id hs; have eL : (L ++ [48 + x]).length = L.length + 1 := List.length_append
  refine y_start (y := 106) rfl rfl (fun κ hC hT hN0 => ?_)
  refine y_steps hC 1 (σ' := (1, [(0, .ref a), (1, .int (nI x))], [.ref a], [])) rfl ?_
  refine y_get (k := 0) (ci := 7) (j := 3) hC rfl rfl rfl rfl (z_t3 (i := 213) rfl rfl) rfl ?_
  refine y_steps hC 3 (σ' := (7, [(2, .int (nI L.length)), (0, .ref a), (1, .int (nI x))], [.int (nI x), .int (nI L.length)], [])) rfl ?_
  refine y_callS (pc := 7) (st := [.int (nI L.length)]) (y := 112) (idx := 245) (w := ([] : va_W)) (wr := (a, .inr (7, [.ref v, .int (nI 0), .int (nI 0), .int (nI L.length)])) :: [(v, .inl (y_c ε 2, m, .inl f))]) (av := [.int (nI x)]) hC rfl rfl (z_t4 (i := 88) rfl rfl) (z_t4 (i := 89) rfl rfl) (z_t1 (i := 11) rfl rfl) (c_J6_stringSize_0f7a4_1 (x := x) (by first | assumption | omega | rfl | trivial)) (show _ = some 1 from by decide +kernel) rfl rfl (by omega) (by omega) rfl (fun r_7 w_7 p_7 => ?_)
  obtain ⟨rfl, ew_7⟩ := p_7
  replace ew_7 := ew_7.symm
  subst ew_7
  refine y_steps hC 0 (σ' := (10, [(2, .int (nI L.length)), (0, .ref a), (1, .int (nI x))], [.int (nI 1), .int (nI L.length)], [])) rfl ?_
  have ey_10 : ((nI L.length) + (nI 1)) = nI ((L ++ [48 + x]).length) := (nI_add _ _).trans (congrArg nI eL.symm)
  refine y_one hC (σ' := (11, [(2, .int (nI L.length)), (0, .ref a), (1, .int (nI x))], [.int (((nI L.length) + (nI 1)))], [])) rfl ?_
  rw [ey_10]
  refine y_steps hC 3 (σ' := (14, [(3, .int (nI ((L ++ [48 + x]).length))), (2, .int (nI L.length)), (0, .ref a), (1, .int (nI x))], [.int (nI ((L ++ [48 + x]).length)), .ref a], [])) rfl ?_
  refine y_callU (b := a) (C := "java/lang/StringBuilder") (x := ⟨"java/lang/AbstractStringBuilder", "ensureCapacityInternal", "(I)V"⟩) (pc := 14) (st := []) (y := 102) (idx := 100) (w := (a, .inr (7, [.ref v, .int (nI 0), .int (nI 0), .int (nI L.length)])) :: [(v, .inl (y_c ε 2, m, .inl f))]) (wr := ([] : va_W)) (av := [.int (nI ((L ++ [48 + x]).length))]) hC rfl rfl rfl (z_t3 (i := 235) rfl rfl) (z_t4 (i := 202) rfl rfl) (y_selM (y := yJ5_ensureCapacityInternal_d00df) (by simp [y_prv]) rfl) (z_t3 (i := 237) rfl rfl) (z_t1 (i := 12) rfl rfl) (fun H locs hP hS => y_rW (ci := 7) (k := 0) hC rfl rfl H locs hP hS) (c_J5_ensureCapacityInternal_d00df (f := f) (a := a) (q := (L ++ [48 + x]).length) (v := v) (n := L.length) (m := m) (by first | assumption | omega | rfl | trivial) (by first | assumption | omega | rfl | trivial) (by exact s5)) (show _ = some 1 from by decide +kernel) rfl rfl (by omega) (by omega) rfl (fun r_14 w_14 p_14 => ?_)
  obtain ⟨v2_14, m2_14, f2_14, rfl, ew_14, q_14⟩ := p_14
  replace ew_14 := ew_14.symm
  subst ew_14
  refine y_steps hC 1 (σ' := (18, [(3, .int (nI ((L ++ [48 + x]).length))), (2, .int (nI L.length)), (0, .ref a), (1, .int (nI x))], [.ref a], [])) rfl ?_
  refine y_callU (b := a) (C := "java/lang/StringBuilder") (x := ⟨"java/lang/AbstractStringBuilder", "isLatin1", "()Z"⟩) (pc := 18) (st := []) (y := 108) (idx := 83) (w := [(a, .inr (7, [.ref v2_14, .int (nI 0), .int (nI 0), .int (nI L.length)]))]) (wr := [(v2_14, .inl (y_c ε 2, m2_14, .inl f2_14))]) (av := []) hC rfl rfl rfl (z_t4 (i := 24) rfl rfl) (z_t4 (i := 26) rfl rfl) (z_t4 (i := 27) rfl rfl) (z_t4 (i := 25) rfl rfl) (z_t1 (i := 12) rfl rfl) (fun H locs hP hS => y_rW (ci := 7) (k := 0) hC rfl rfl H locs hP hS) (c_J5_isLatin1_aae02 (a := a) (v := v2_14) (n := L.length) ) (show _ = some 0 from by decide +kernel) rfl rfl (by omega) (by omega) rfl (fun r_18 w_18 p_18 => ?_)
  obtain ⟨rfl, ew_18⟩ := p_18
  replace ew_18 := ew_18.symm
  subst ew_18
  refine y_steps hC 4 (σ' := (27, [(3, .int (nI ((L ++ [48 + x]).length))), (2, .int (nI L.length)), (0, .ref a), (1, .int (nI x))], [.ref a, .int (nI ((L ++ [48 + x]).length)), .int (nI x)], [])) rfl ?_
  refine y_get (k := 0) (ci := 7) (j := 0) hC rfl rfl rfl rfl (z_t3 (i := 210) rfl rfl) rfl ?_
  refine y_steps hC 0 (σ' := (30, [(3, .int (nI ((L ++ [48 + x]).length))), (2, .int (nI L.length)), (0, .ref a), (1, .int (nI x))], [.ref v2_14, .int (nI ((L ++ [48 + x]).length)), .int (nI x)], [])) rfl ?_
  refine y_mv [[(a, .inr (7, [.ref v2_14, .int (nI 0), .int (nI 0), .int (nI L.length)]))]] ([(v2_14, .inl (y_c ε 2, m2_14, .inl f2_14))]) [] ?_
  refine y_callS (pc := 30) (st := []) (y := 111) (idx := 248) (w := [(v2_14, .inl (y_c ε 2, m2_14, .inl f2_14))]) (wr := [(a, .inr (7, [.ref v2_14, .int (nI 0), .int (nI 0), .int (nI L.length)]))]) (av := [.int (nI x), .int (nI ((L ++ [48 + x]).length)), .ref v2_14]) hC rfl rfl (z_t4 (i := 91) rfl rfl) (z_t4 (i := 92) rfl rfl) (z_t1 (i := 11) rfl rfl) (c_J6_getChars_ba4f3_1 (g := f2_14) (x := x) (i := (L ++ [48 + x]).length) (d := v2_14) (m := m2_14) (by first | assumption | omega | rfl | trivial) (by have := q_14.1; omega) (by have := q_14.2.2.1; omega)) (show _ = some 3 from by decide +kernel) rfl rfl (by omega) (by omega) rfl (fun r_30 w_30 p_30 => ?_)
  obtain ⟨rfl, ew_30⟩ := p_30
  replace ew_30 := ew_30.symm
  subst ew_30
  refine y_steps hC 4 (σ' := (50, [(3, .int (nI ((L ++ [48 + x]).length))), (2, .int (nI L.length)), (0, .ref a), (1, .int (nI x))], [.int (nI ((L ++ [48 + x]).length)), .ref a], [])) rfl ?_
  refine y_put (k := 1) (ci := 7) (j := 3) (ty := .int) (ws2 := ((v2_14, .inl (y_c ε 2, m2_14, .inl (upd f2_14 (((L ++ [48 + x]).length) - 1) (nI (48 + x % 10))))) :: ([(a, .inr (7, [.ref v2_14, .int (nI 0), .int (nI 0), .int (nI ((L ++ [48 + x]).length))]))]))) hC rfl rfl rfl rfl (z_t3 (i := 213) rfl rfl) rfl (by decide +kernel) (by rfl) (by rfl) rfl rfl ?_
  refine y_steps hC 1 (σ' := (54, [(3, .int (nI ((L ++ [48 + x]).length))), (2, .int (nI L.length)), (0, .ref a), (1, .int (nI x))], [.ref a], [])) rfl ?_
  refine y_mv [[(v2_14, .inl (y_c ε 2, m2_14, .inl (upd f2_14 (((L ++ [48 + x]).length) - 1) (nI (48 + x % 10)))))]] ([(a, .inr (7, [.ref v2_14, .int (nI 0), .int (nI 0), .int (nI ((L ++ [48 + x]).length))]))]) [] ?_
  exact y_aret hC hT rfl (Or.inl ⟨_, rfl⟩) rfl (by omega) (by omega) ⟨v2_14, m2_14, (upd f2_14 (((L ++ [48 + x]).length) - 1) (nI (48 + x % 10))), rfl, (by rfl), (by rw [show (L ++ [48 + x]).length - 1 = L.length by omega, show 48 + x % 10 = 48 + x by omega]; exact y_Sb_one hs (by omega) (by have := q_14.1; omega) q_14.2.2.1 q_14.2.2.2.1 q_14.2.2.2.2)⟩
set_option maxHeartbeats 4000000 in
set_option maxRecDepth 1000000 in
theorem c_J4_append_bf812_1 {ε : y_Ev} {f : Nat → Int32} {a : Nat} {x : Nat} {v : Nat} {m : Nat} {L : List Nat} (hs : y_Sb L m f) (hx : x < 10) (hl : L.length + 1 ≤ 100) : y_C ε zmJ4_append_bf812 6 174 1 202 [.ref a, .int (nI x)] ((a, .inr (7, [.ref v, .int (nI 0), .int (nI 0), .int (nI L.length)])) :: [(v, .inl (y_c ε 2, m, .inl f))]) (fun r w2 => ∃ (v2 : Nat) (m2 : Nat) (f2 : Nat → Int32), r = some (.ref a) ∧ w2 = (a, .inr (7, [.ref v2, .int (nI 0), .int (nI 0), .int (nI ((L ++ [48 + x]).length))])) :: [(v2, .inl (y_c ε 2, m2, .inl f2))] ∧ (y_Sb (L ++ [48 + x]) m2 f2)) := by
  refine y_start (y := 128) rfl rfl (fun κ hC hT hN0 => ?_)
  refine y_steps hC 2 (σ' := (2, [(0, .ref a), (1, .int (nI x))], [.int (nI x), .ref a], [])) rfl ?_
  obtain ⟨cC_2, hat_2⟩ := y_at (ci := 7) hC rfl
  refine y_callSU (b := a) (pc := 2) (st := []) (y := 106) (idx := 53) (w := (a, .inr (7, [.ref v, .int (nI 0), .int (nI 0), .int (nI L.length)])) :: [(v, .inl (y_c ε 2, m, .inl f))]) (wr := ([] : va_W)) (av := [.int (nI x)]) hC rfl rfl (by decide) (z_t4 (i := 85) rfl rfl) (z_t4 (i := 207) rfl rfl) (z_t3 (i := 222) rfl rfl) (z_t4 (i := 86) rfl rfl) (z_t1 (i := 12) rfl rfl) hat_2 (fun H locs hP hS => y_rW (ci := 7) (k := 0) hC rfl rfl H locs hP hS) (c_J5_append_c97b9_1 (f := f) (a := a) (x := x) (v := v) (m := m) (L := L) (by exact hs) (by exact hx) (by first | assumption | omega | rfl | trivial)) (show _ = some 1 from by decide +kernel) rfl rfl (by omega) (by omega) rfl (fun r_2 w_2 p_2 => ?_)
  obtain ⟨v2_2, m2_2, f2_2, rfl, ew_2, q_2⟩ := p_2
  replace ew_2 := ew_2.symm
  subst ew_2
  refine y_steps hC 2 (σ' := (7, [(0, .ref a), (1, .int (nI x))], [.ref a], [])) rfl ?_
  exact y_aret hC hT rfl (Or.inl ⟨_, rfl⟩) rfl (by omega) (by omega) ⟨v2_2, m2_2, f2_2, rfl, (by rfl), (by exact q_2)⟩
set_option maxHeartbeats 4000000 in
set_option maxRecDepth 1000000 in
theorem c_J6_stringSize_0f7a4_2 {ε : y_Ev} {x : Nat} (hx : 10 ≤ x ∧ x < 100) : y_C ε zmJ6_stringSize_0f7a4 1 60 0 0 [.int (nI x)] (([] : va_W)) (fun r w2 => r = some (.int (nI 2)) ∧ w2 = ([] : va_W)) := by
  refine y_start (y := 112) rfl rfl (fun κ hC hT hN0 => ?_)
  refine y_steps hC 3 (σ' := (3, [(1, .int (nI 1)), (0, .int (nI x))], [.int (nI x)], [])) rfl ?_
  refine y_ifF hC (c := nI x < 0) rfl (nI_pos (by omega)) ?_
  refine y_steps hC 14 (σ' := (24, [(3, .int (nI 1)), (2, .int ((-nI 10))), (0, .int ((-(nI x)))), (1, .int (nI 0))], [.int ((-nI 10)), .int ((-(nI x)))], [])) rfl ?_
  refine y_ifT hC (c := (-(nI x)) ≤ (-nI 10)) rfl (by first | exact (sb_nle (by omega) (by omega)).mpr (by omega) | (intro z; have := (sb_nle (a := x) (b := 10) (by omega) (by omega)).mp z; omega) | (intro z; rw [show nI 10 * -nI 10 = -nI 100 by decide] at z; have := (sb_nle (a := x) (b := 100) (by omega) (by omega)).mp z; omega)) ?_
  refine y_steps hC 4 (σ' := (36, [(2, .int (((nI 10) * ((-nI 10))))), (3, .int (nI 1)), (0, .int ((-(nI x)))), (1, .int (nI 0))], [], [])) rfl ?_
  refine y_inc hC (n := 1) rfl rfl rfl (2) (by rfl) [(3, .int (nI 2)), (2, .int (((nI 10) * ((-nI 10))))), (0, .int ((-(nI x)))), (1, .int (nI 0))] rfl ?_
  refine y_steps hC 6 (σ' := (24, [(3, .int (nI 2)), (2, .int (((nI 10) * ((-nI 10))))), (0, .int ((-(nI x)))), (1, .int (nI 0))], [.int (((nI 10) * ((-nI 10)))), .int ((-(nI x)))], [])) rfl ?_
  refine y_ifF hC (c := (-(nI x)) ≤ ((nI 10) * ((-nI 10)))) rfl (by first | exact (sb_nle (by omega) (by omega)).mpr (by omega) | (intro z; have := (sb_nle (a := x) (b := 10) (by omega) (by omega)).mp z; omega) | (intro z; rw [show nI 10 * -nI 10 = -nI 100 by decide] at z; have := (sb_nle (a := x) (b := 100) (by omega) (by omega)).mp z; omega)) ?_
  refine y_steps hC 2 (σ' := (29, [(3, .int (nI 2)), (2, .int (((nI 10) * ((-nI 10))))), (0, .int ((-(nI x)))), (1, .int (nI 0))], [.int (nI 0), .int (nI 2)], [])) rfl ?_
  refine y_add hC (2) rfl (by first | rfl | omega) ?_
  refine y_steps hC 0 (σ' := (30, [(3, .int (nI 2)), (2, .int (((nI 10) * ((-nI 10))))), (0, .int ((-(nI x)))), (1, .int (nI 0))], [.int (nI 2)], [])) rfl ?_
  exact y_iret hC hT rfl rfl (by omega) (by omega) ⟨(by rfl), (by rfl)⟩
set_option maxHeartbeats 4000000 in
set_option maxRecDepth 1000000 in
theorem c_J6_getChars_ba4f3_2 {ε : y_Ev} {g : Nat → Int32} {x : Nat} {i : Nat} {d : Nat} {m : Nat} (hx : 10 ≤ x ∧ x < 100) (hi : 2 ≤ i ∧ i ≤ m) (hm : m ≤ 1000) : y_C ε zmJ6_getChars_ba4f3 1 60 0 0 [.int (nI x), .int (nI i), .ref d] ([(d, .inl (y_c ε 2, m, .inl g))]) (fun r w2 => r = some (.int (nI (i - 2))) ∧ w2 = [(d, .inl (y_c ε 2, m, .inl (upd (upd g (i - 1) (nI (48 + x % 10))) (i - 2) (nI (48 + x / 10)))))]) := by
  refine y_start (y := 111) rfl rfl (fun κ hC hT hN0 => ?_)
  refine y_steps hC 3 (σ' := (4, [(5, .int (nI i)), (0, .int (nI x)), (1, .int (nI i)), (2, .ref d)], [.int (nI x)], [])) rfl ?_
  refine y_ifT hC (c := 0 ≤ nI x) rfl (nI_pos' (by omega)) ?_
  refine y_steps hC 9 (σ' := (25, [(0, .int ((-(nI x)))), (6, .int (nI 0)), (5, .int (nI i)), (1, .int (nI i)), (2, .ref d)], [.int ((-nI 100)), .int ((-(nI x)))], [])) rfl ?_
  refine y_ifT hC (c := (-nI 100) < (-(nI x))) rfl (by exact (sb_nlt (by omega) (by omega)).mpr (by omega)) ?_
  refine y_steps hC 1 (σ' := (73, [(0, .int ((-(nI x)))), (6, .int (nI 0)), (5, .int (nI i)), (1, .int (nI i)), (2, .ref d)], [.ref d], [])) rfl ?_
  refine y_dec hC (n := 0) rfl rfl rfl (i - 1) (by first | assumption | omega | rfl | trivial) (by first | assumption | omega | rfl | trivial) [(5, .int (nI (i - 1))), (0, .int ((-(nI x)))), (6, .int (nI 0)), (1, .int (nI i)), (2, .ref d)] rfl ?_
  refine y_steps hC 1 (σ' := (78, [(5, .int (nI (i - 1))), (0, .int ((-(nI x)))), (6, .int (nI 0)), (1, .int (nI i)), (2, .ref d)], [.int (nI (i - 1)), .ref d], [])) rfl ?_
  refine y_gs1 hC rfl (z_t4 (i := 94) rfl rfl) ?_
  refine y_steps hC 2 (σ' := (83, [(5, .int (nI (i - 1))), (0, .int ((-(nI x)))), (6, .int (nI 0)), (1, .int (nI i)), (2, .ref d)], [.int ((-((-(nI x))))), .ref (y_a ε 40), .int (nI (i - 1)), .ref d], [])) rfl ?_
  have er_82 : (-((-(nI x)))) = nI x := Int32.neg_neg
  rw [er_82]
  refine y_dg1 hC rfl (by first | assumption | omega | rfl | trivial) ?_
  refine y_steps hC 0 (σ' := (84, [(5, .int (nI (i - 1))), (0, .int ((-(nI x)))), (6, .int (nI 0)), (1, .int (nI i)), (2, .ref d)], [.int (nI (48 + x % 10)), .int (nI (i - 1)), .ref d], [])) rfl ?_
  refine y_bas (ws2 := ([(d, .inl (y_c ε 2, m, .inl (upd g (i - 1) (nI (48 + x % 10)))))])) hC 0 rfl rfl (by first | assumption | omega | rfl | trivial) (by omega) (by exact z_narN _ (by omega)) rfl ?_
  refine y_steps hC 2 (σ' := (88, [(5, .int (nI (i - 1))), (0, .int ((-(nI x)))), (6, .int (nI 0)), (1, .int (nI i)), (2, .ref d)], [.int ((-nI 9)), .int ((-(nI x)))], [])) rfl ?_
  refine y_ifF hC (c := (-nI 9) ≤ (-(nI x))) rfl (by first | exact (sb_nle (by omega) (by omega)).mpr (by omega) | (intro z; have := (sb_nle (a := 9) (b := x) (by omega) (by omega)).mp z; omega)) ?_
  refine y_steps hC 1 (σ' := (92, [(5, .int (nI (i - 1))), (0, .int ((-(nI x)))), (6, .int (nI 0)), (1, .int (nI i)), (2, .ref d)], [.ref d], [])) rfl ?_
  refine y_dec hC (n := 0) rfl rfl rfl (i - 2) (by first | assumption | omega | rfl | trivial) (by first | assumption | omega | rfl | trivial) [(5, .int (nI (i - 2))), (0, .int ((-(nI x)))), (6, .int (nI 0)), (1, .int (nI i)), (2, .ref d)] rfl ?_
  refine y_steps hC 1 (σ' := (97, [(5, .int (nI (i - 2))), (0, .int ((-(nI x)))), (6, .int (nI 0)), (1, .int (nI i)), (2, .ref d)], [.int (nI (i - 2)), .ref d], [])) rfl ?_
  refine y_gs2 hC rfl (z_t4 (i := 96) rfl rfl) ?_
  refine y_steps hC 2 (σ' := (102, [(5, .int (nI (i - 2))), (0, .int ((-(nI x)))), (6, .int (nI 0)), (1, .int (nI i)), (2, .ref d)], [.int ((-((-(nI x))))), .ref (y_a ε 41), .int (nI (i - 2)), .ref d], [])) rfl ?_
  have er_101 : (-((-(nI x)))) = nI x := Int32.neg_neg
  rw [er_101]
  refine y_dg2 hC rfl (by first | assumption | omega | rfl | trivial) ?_
  refine y_steps hC 0 (σ' := (103, [(5, .int (nI (i - 2))), (0, .int ((-(nI x)))), (6, .int (nI 0)), (1, .int (nI i)), (2, .ref d)], [.int (nI (48 + x / 10)), .int (nI (i - 2)), .ref d], [])) rfl ?_
  refine y_bas (ws2 := ([(d, .inl (y_c ε 2, m, .inl (upd (upd g (i - 1) (nI (48 + x % 10))) (i - 2) (nI (48 + x / 10)))))])) hC 0 rfl rfl (by first | assumption | omega | rfl | trivial) (by omega) (by exact z_narN _ (by omega)) rfl ?_
  refine y_steps hC 3 (σ' := (120, [(5, .int (nI (i - 2))), (0, .int ((-(nI x)))), (6, .int (nI 0)), (1, .int (nI i)), (2, .ref d)], [.int (nI (i - 2))], [])) rfl ?_
  exact y_iret hC hT rfl rfl (by omega) (by omega) ⟨(by rfl), (by rfl)⟩
set_option maxHeartbeats 4000000 in
set_option maxRecDepth 1000000 in
theorem c_J5_append_c97b9_2 {ε : y_Ev} {f : Nat → Int32} {a : Nat} {x : Nat} {v : Nat} {m : Nat} {L : List Nat} (hs : y_Sb L m f) (hx : 10 ≤ x ∧ x < 100) (hl : L.length + 2 ≤ 100) : y_C ε zmJ5_append_c97b9 5 151 1 202 [.ref a, .int (nI x)] ((a, .inr (7, [.ref v, .int (nI 0), .int (nI 0), .int (nI L.length)])) :: [(v, .inl (y_c ε 2, m, .inl f))]) (fun r w2 => ∃ (v2 : Nat) (m2 : Nat) (f2 : Nat → Int32), r = some (.ref a) ∧ w2 = (a, .inr (7, [.ref v2, .int (nI 0), .int (nI 0), .int (nI ((L ++ [48 + x / 10, 48 + x % 10]).length))])) :: [(v2, .inl (y_c ε 2, m2, .inl f2))] ∧ (y_Sb (L ++ [48 + x / 10, 48 + x % 10]) m2 f2)) := by
  obtain ⟨s1, s2, s3, s4, s5⟩ := id hs; have eL : (L ++ [48 + x / 10, 48 + x % 10]).length = L.length + 2 := List.length_append
  refine y_start (y := 106) rfl rfl (fun κ hC hT hN0 => ?_)
  refine y_steps hC 1 (σ' := (1, [(0, .ref a), (1, .int (nI x))], [.ref a], [])) rfl ?_
  refine y_get (k := 0) (ci := 7) (j := 3) hC rfl rfl rfl rfl (z_t3 (i := 213) rfl rfl) rfl ?_
  refine y_steps hC 3 (σ' := (7, [(2, .int (nI L.length)), (0, .ref a), (1, .int (nI x))], [.int (nI x), .int (nI L.length)], [])) rfl ?_
  refine y_callS (pc := 7) (st := [.int (nI L.length)]) (y := 112) (idx := 245) (w := ([] : va_W)) (wr := (a, .inr (7, [.ref v, .int (nI 0), .int (nI 0), .int (nI L.length)])) :: [(v, .inl (y_c ε 2, m, .inl f))]) (av := [.int (nI x)]) hC rfl rfl (z_t4 (i := 88) rfl rfl) (z_t4 (i := 89) rfl rfl) (z_t1 (i := 11) rfl rfl) (c_J6_stringSize_0f7a4_2 (x := x) (by first | assumption | omega | rfl | trivial)) (show _ = some 1 from by decide +kernel) rfl rfl (by omega) (by omega) rfl (fun r_7 w_7 p_7 => ?_)
  obtain ⟨rfl, ew_7⟩ := p_7
  replace ew_7 := ew_7.symm
  subst ew_7
  refine y_steps hC 0 (σ' := (10, [(2, .int (nI L.length)), (0, .ref a), (1, .int (nI x))], [.int (nI 2), .int (nI L.length)], [])) rfl ?_
  have ey_10 : ((nI L.length) + (nI 2)) = nI ((L ++ [48 + x / 10, 48 + x % 10]).length) := (nI_add _ _).trans (congrArg nI eL.symm)
  refine y_one hC (σ' := (11, [(2, .int (nI L.length)), (0, .ref a), (1, .int (nI x))], [.int (((nI L.length) + (nI 2)))], [])) rfl ?_
  rw [ey_10]
  refine y_steps hC 3 (σ' := (14, [(3, .int (nI ((L ++ [48 + x / 10, 48 + x % 10]).length))), (2, .int (nI L.length)), (0, .ref a), (1, .int (nI x))], [.int (nI ((L ++ [48 + x / 10, 48 + x % 10]).length)), .ref a], [])) rfl ?_
  refine y_callU (b := a) (C := "java/lang/StringBuilder") (x := ⟨"java/lang/AbstractStringBuilder", "ensureCapacityInternal", "(I)V"⟩) (pc := 14) (st := []) (y := 102) (idx := 100) (w := (a, .inr (7, [.ref v, .int (nI 0), .int (nI 0), .int (nI L.length)])) :: [(v, .inl (y_c ε 2, m, .inl f))]) (wr := ([] : va_W)) (av := [.int (nI ((L ++ [48 + x / 10, 48 + x % 10]).length))]) hC rfl rfl rfl (z_t3 (i := 235) rfl rfl) (z_t4 (i := 202) rfl rfl) (y_selM (y := yJ5_ensureCapacityInternal_d00df) (by simp [y_prv]) rfl) (z_t3 (i := 237) rfl rfl) (z_t1 (i := 12) rfl rfl) (fun H locs hP hS => y_rW (ci := 7) (k := 0) hC rfl rfl H locs hP hS) (c_J5_ensureCapacityInternal_d00df (f := f) (a := a) (q := (L ++ [48 + x / 10, 48 + x % 10]).length) (v := v) (n := L.length) (m := m) (by first | assumption | omega | rfl | trivial) (by first | assumption | omega | rfl | trivial) (by exact s5)) (show _ = some 1 from by decide +kernel) rfl rfl (by omega) (by omega) rfl (fun r_14 w_14 p_14 => ?_)
  obtain ⟨v2_14, m2_14, f2_14, rfl, ew_14, q_14⟩ := p_14
  replace ew_14 := ew_14.symm
  subst ew_14
  refine y_steps hC 1 (σ' := (18, [(3, .int (nI ((L ++ [48 + x / 10, 48 + x % 10]).length))), (2, .int (nI L.length)), (0, .ref a), (1, .int (nI x))], [.ref a], [])) rfl ?_
  refine y_callU (b := a) (C := "java/lang/StringBuilder") (x := ⟨"java/lang/AbstractStringBuilder", "isLatin1", "()Z"⟩) (pc := 18) (st := []) (y := 108) (idx := 83) (w := [(a, .inr (7, [.ref v2_14, .int (nI 0), .int (nI 0), .int (nI L.length)]))]) (wr := [(v2_14, .inl (y_c ε 2, m2_14, .inl f2_14))]) (av := []) hC rfl rfl rfl (z_t4 (i := 24) rfl rfl) (z_t4 (i := 26) rfl rfl) (z_t4 (i := 27) rfl rfl) (z_t4 (i := 25) rfl rfl) (z_t1 (i := 12) rfl rfl) (fun H locs hP hS => y_rW (ci := 7) (k := 0) hC rfl rfl H locs hP hS) (c_J5_isLatin1_aae02 (a := a) (v := v2_14) (n := L.length) ) (show _ = some 0 from by decide +kernel) rfl rfl (by omega) (by omega) rfl (fun r_18 w_18 p_18 => ?_)
  obtain ⟨rfl, ew_18⟩ := p_18
  replace ew_18 := ew_18.symm
  subst ew_18
  refine y_steps hC 4 (σ' := (27, [(3, .int (nI ((L ++ [48 + x / 10, 48 + x % 10]).length))), (2, .int (nI L.length)), (0, .ref a), (1, .int (nI x))], [.ref a, .int (nI ((L ++ [48 + x / 10, 48 + x % 10]).length)), .int (nI x)], [])) rfl ?_
  refine y_get (k := 0) (ci := 7) (j := 0) hC rfl rfl rfl rfl (z_t3 (i := 210) rfl rfl) rfl ?_
  refine y_steps hC 0 (σ' := (30, [(3, .int (nI ((L ++ [48 + x / 10, 48 + x % 10]).length))), (2, .int (nI L.length)), (0, .ref a), (1, .int (nI x))], [.ref v2_14, .int (nI ((L ++ [48 + x / 10, 48 + x % 10]).length)), .int (nI x)], [])) rfl ?_
  refine y_mv [[(a, .inr (7, [.ref v2_14, .int (nI 0), .int (nI 0), .int (nI L.length)]))]] ([(v2_14, .inl (y_c ε 2, m2_14, .inl f2_14))]) [] ?_
  refine y_callS (pc := 30) (st := []) (y := 111) (idx := 248) (w := [(v2_14, .inl (y_c ε 2, m2_14, .inl f2_14))]) (wr := [(a, .inr (7, [.ref v2_14, .int (nI 0), .int (nI 0), .int (nI L.length)]))]) (av := [.int (nI x), .int (nI ((L ++ [48 + x / 10, 48 + x % 10]).length)), .ref v2_14]) hC rfl rfl (z_t4 (i := 91) rfl rfl) (z_t4 (i := 92) rfl rfl) (z_t1 (i := 11) rfl rfl) (c_J6_getChars_ba4f3_2 (g := f2_14) (x := x) (i := (L ++ [48 + x / 10, 48 + x % 10]).length) (d := v2_14) (m := m2_14) (by first | assumption | omega | rfl | trivial) (by have := q_14.1; omega) (by have := q_14.2.2.1; omega)) (show _ = some 3 from by decide +kernel) rfl rfl (by omega) (by omega) rfl (fun r_30 w_30 p_30 => ?_)
  obtain ⟨rfl, ew_30⟩ := p_30
  replace ew_30 := ew_30.symm
  subst ew_30
  refine y_steps hC 4 (σ' := (50, [(3, .int (nI ((L ++ [48 + x / 10, 48 + x % 10]).length))), (2, .int (nI L.length)), (0, .ref a), (1, .int (nI x))], [.int (nI ((L ++ [48 + x / 10, 48 + x % 10]).length)), .ref a], [])) rfl ?_
  refine y_put (k := 1) (ci := 7) (j := 3) (ty := .int) (ws2 := ((v2_14, .inl (y_c ε 2, m2_14, .inl (upd (upd f2_14 (((L ++ [48 + x / 10, 48 + x % 10]).length) - 1) (nI (48 + x % 10))) (((L ++ [48 + x / 10, 48 + x % 10]).length) - 2) (nI (48 + x / 10))))) :: ([(a, .inr (7, [.ref v2_14, .int (nI 0), .int (nI 0), .int (nI ((L ++ [48 + x / 10, 48 + x % 10]).length))]))]))) hC rfl rfl rfl rfl (z_t3 (i := 213) rfl rfl) rfl (by decide +kernel) (by rfl) (by rfl) rfl rfl ?_
  refine y_steps hC 1 (σ' := (54, [(3, .int (nI ((L ++ [48 + x / 10, 48 + x % 10]).length))), (2, .int (nI L.length)), (0, .ref a), (1, .int (nI x))], [.ref a], [])) rfl ?_
  refine y_mv [[(v2_14, .inl (y_c ε 2, m2_14, .inl (upd (upd f2_14 (((L ++ [48 + x / 10, 48 + x % 10]).length) - 1) (nI (48 + x % 10))) (((L ++ [48 + x / 10, 48 + x % 10]).length) - 2) (nI (48 + x / 10)))))]] ([(a, .inr (7, [.ref v2_14, .int (nI 0), .int (nI 0), .int (nI ((L ++ [48 + x / 10, 48 + x % 10]).length))]))]) [] ?_
  exact y_aret hC hT rfl (Or.inl ⟨_, rfl⟩) rfl (by omega) (by omega) ⟨v2_14, m2_14, (upd (upd f2_14 (((L ++ [48 + x / 10, 48 + x % 10]).length) - 1) (nI (48 + x % 10))) (((L ++ [48 + x / 10, 48 + x % 10]).length) - 2) (nI (48 + x / 10))), rfl, (by rfl), (by rw [show (L ++ [48 + x / 10, 48 + x % 10]).length - 1 = L.length + 1 by omega, show (L ++ [48 + x / 10, 48 + x % 10]).length - 2 = L.length by omega]; exact y_Sb_two hs (by omega) (by omega) (by have := q_14.1; omega) q_14.2.2.1 q_14.2.2.2.1 q_14.2.2.2.2)⟩
set_option maxHeartbeats 4000000 in
set_option maxRecDepth 1000000 in
theorem c_J4_append_bf812_2 {ε : y_Ev} {f : Nat → Int32} {a : Nat} {x : Nat} {v : Nat} {m : Nat} {L : List Nat} (hs : y_Sb L m f) (hx : 10 ≤ x ∧ x < 100) (hl : L.length + 2 ≤ 100) : y_C ε zmJ4_append_bf812 6 174 1 202 [.ref a, .int (nI x)] ((a, .inr (7, [.ref v, .int (nI 0), .int (nI 0), .int (nI L.length)])) :: [(v, .inl (y_c ε 2, m, .inl f))]) (fun r w2 => ∃ (v2 : Nat) (m2 : Nat) (f2 : Nat → Int32), r = some (.ref a) ∧ w2 = (a, .inr (7, [.ref v2, .int (nI 0), .int (nI 0), .int (nI ((L ++ [48 + x / 10, 48 + x % 10]).length))])) :: [(v2, .inl (y_c ε 2, m2, .inl f2))] ∧ (y_Sb (L ++ [48 + x / 10, 48 + x % 10]) m2 f2)) := by
  refine y_start (y := 128) rfl rfl (fun κ hC hT hN0 => ?_)
  refine y_steps hC 2 (σ' := (2, [(0, .ref a), (1, .int (nI x))], [.int (nI x), .ref a], [])) rfl ?_
  obtain ⟨cC_2, hat_2⟩ := y_at (ci := 7) hC rfl
  refine y_callSU (b := a) (pc := 2) (st := []) (y := 106) (idx := 53) (w := (a, .inr (7, [.ref v, .int (nI 0), .int (nI 0), .int (nI L.length)])) :: [(v, .inl (y_c ε 2, m, .inl f))]) (wr := ([] : va_W)) (av := [.int (nI x)]) hC rfl rfl (by decide) (z_t4 (i := 85) rfl rfl) (z_t4 (i := 207) rfl rfl) (z_t3 (i := 222) rfl rfl) (z_t4 (i := 86) rfl rfl) (z_t1 (i := 12) rfl rfl) hat_2 (fun H locs hP hS => y_rW (ci := 7) (k := 0) hC rfl rfl H locs hP hS) (c_J5_append_c97b9_2 (f := f) (a := a) (x := x) (v := v) (m := m) (L := L) (by exact hs) (by exact hx) (by first | assumption | omega | rfl | trivial)) (show _ = some 1 from by decide +kernel) rfl rfl (by omega) (by omega) rfl (fun r_2 w_2 p_2 => ?_)
  obtain ⟨v2_2, m2_2, f2_2, rfl, ew_2, q_2⟩ := p_2
  replace ew_2 := ew_2.symm
  subst ew_2
  refine y_steps hC 2 (σ' := (7, [(0, .ref a), (1, .int (nI x))], [.ref a], [])) rfl ?_
  exact y_aret hC hT rfl (Or.inl ⟨_, rfl⟩) rfl (by omega) (by omega) ⟨v2_2, m2_2, f2_2, rfl, (by rfl), (by exact q_2)⟩
set_option maxHeartbeats 4000000 in
set_option maxRecDepth 1000000 in
theorem c_J1_canEncode_fc78d {ε : y_Ev} {c : Nat} (hc : c < 128) : y_C ε zmJ1_canEncode_fc78d 1 60 0 0 [.int (nI c)] (([] : va_W)) (fun r w2 => r = some (.int (nI 1)) ∧ w2 = ([] : va_W)) := by
  refine y_start (y := 132) rfl rfl (fun κ hC hT hN0 => ?_)
  refine y_steps hC 2 (σ' := (4, [(0, .int (nI c))], [.int (nI 255), .int (nI c)], [])) rfl ?_
  refine y_if hC (c := nI 255 < nI c) rfl (fun c_4 => ?_) (fun c_4 => ?_)
  · skip
    rw [nI_ltI (by omega) (by omega)] at c_4
    omega
  · skip
    rw [nI_ltI (by omega) (by omega)] at c_4
    refine y_steps hC 2 (σ' := (12, [(0, .int (nI c))], [.int (nI 1)], [])) rfl ?_
    exact y_zret hC hT rfl (Or.inl rfl) (by rfl) rfl (by omega) (by omega) ⟨(by rfl), (by rfl)⟩
set_option maxHeartbeats 4000000 in
set_option maxRecDepth 1000000 in
theorem c_J5_append_3fe6f {ε : y_Ev} {f : Nat → Int32} {a : Nat} {c : Nat} {v : Nat} {m : Nat} {L : List Nat} (hs : y_Sb L m f) (hc : c < 128) (hl : L.length + 1 ≤ 100) : y_C ε zmJ5_append_3fe6f 5 151 1 202 [.ref a, .int (nI c)] ((a, .inr (7, [.ref v, .int (nI 0), .int (nI 0), .int (nI L.length)])) :: [(v, .inl (y_c ε 2, m, .inl f))]) (fun r w2 => ∃ (v2 : Nat) (m2 : Nat) (f2 : Nat → Int32), r = some (.ref a) ∧ w2 = (a, .inr (7, [.ref v2, .int (nI 0), .int (nI 0), .int (nI ((L ++ [c]).length))])) :: [(v2, .inl (y_c ε 2, m2, .inl f2))] ∧ (y_Sb (L ++ [c]) m2 f2)) := by
  obtain ⟨s1, s2, s3, s4, s5⟩ := id hs; have eL : (L ++ [c]).length = L.length + 1 := List.length_append
  refine y_start (y := 105) rfl rfl (fun κ hC hT hN0 => ?_)
  refine y_steps hC 2 (σ' := (2, [(0, .ref a), (1, .int (nI c))], [.ref a, .ref a], [])) rfl ?_
  refine y_get (k := 0) (ci := 7) (j := 3) hC rfl rfl rfl rfl (z_t3 (i := 213) rfl rfl) rfl ?_
  refine y_steps hC 1 (σ' := (6, [(0, .ref a), (1, .int (nI c))], [.int (nI 1), .int (nI L.length), .ref a], [])) rfl ?_
  refine y_add hC (L.length + 1) rfl (by first | rfl | omega) ?_
  refine y_steps hC 0 (σ' := (7, [(0, .ref a), (1, .int (nI c))], [.int (nI (L.length + 1)), .ref a], [])) rfl ?_
  refine y_callU (b := a) (C := "java/lang/StringBuilder") (x := ⟨"java/lang/AbstractStringBuilder", "ensureCapacityInternal", "(I)V"⟩) (pc := 7) (st := []) (y := 102) (idx := 100) (w := (a, .inr (7, [.ref v, .int (nI 0), .int (nI 0), .int (nI L.length)])) :: [(v, .inl (y_c ε 2, m, .inl f))]) (wr := ([] : va_W)) (av := [.int (nI (L.length + 1))]) hC rfl rfl rfl (z_t3 (i := 235) rfl rfl) (z_t4 (i := 202) rfl rfl) (y_selM (y := yJ5_ensureCapacityInternal_d00df) (by simp [y_prv]) rfl) (z_t3 (i := 237) rfl rfl) (z_t1 (i := 12) rfl rfl) (fun H locs hP hS => y_rW (ci := 7) (k := 0) hC rfl rfl H locs hP hS) (c_J5_ensureCapacityInternal_d00df (f := f) (a := a) (q := L.length + 1) (v := v) (n := L.length) (m := m) (by first | assumption | omega | rfl | trivial) (by first | assumption | omega | rfl | trivial) (by exact s5)) (show _ = some 1 from by decide +kernel) rfl rfl (by omega) (by omega) rfl (fun r_7 w_7 p_7 => ?_)
  obtain ⟨v2_7, m2_7, f2_7, rfl, ew_7, q_7⟩ := p_7
  replace ew_7 := ew_7.symm
  subst ew_7
  refine y_steps hC 1 (σ' := (11, [(0, .ref a), (1, .int (nI c))], [.ref a], [])) rfl ?_
  refine y_callU (b := a) (C := "java/lang/StringBuilder") (x := ⟨"java/lang/AbstractStringBuilder", "isLatin1", "()Z"⟩) (pc := 11) (st := []) (y := 108) (idx := 83) (w := [(a, .inr (7, [.ref v2_7, .int (nI 0), .int (nI 0), .int (nI L.length)]))]) (wr := [(v2_7, .inl (y_c ε 2, m2_7, .inl f2_7))]) (av := []) hC rfl rfl rfl (z_t4 (i := 24) rfl rfl) (z_t4 (i := 26) rfl rfl) (z_t4 (i := 27) rfl rfl) (z_t4 (i := 25) rfl rfl) (z_t1 (i := 12) rfl rfl) (fun H locs hP hS => y_rW (ci := 7) (k := 0) hC rfl rfl H locs hP hS) (c_J5_isLatin1_aae02 (a := a) (v := v2_7) (n := L.length) ) (show _ = some 0 from by decide +kernel) rfl rfl (by omega) (by omega) rfl (fun r_11 w_11 p_11 => ?_)
  obtain ⟨rfl, ew_11⟩ := p_11
  replace ew_11 := ew_11.symm
  subst ew_11
  refine y_steps hC 2 (σ' := (18, [(0, .ref a), (1, .int (nI c))], [.int (nI c)], [])) rfl ?_
  refine y_callS (pc := 18) (st := []) (y := 132) (idx := 191) (w := ([] : va_W)) (wr := (a, .inr (7, [.ref v2_7, .int (nI 0), .int (nI 0), .int (nI L.length)])) :: [(v2_7, .inl (y_c ε 2, m2_7, .inl f2_7))]) (av := [.int (nI c)]) hC rfl rfl (z_t4 (i := 181) rfl rfl) (z_t4 (i := 182) rfl rfl) (z_t1 (i := 18) rfl rfl) (c_J1_canEncode_fc78d (c := c) (by first | assumption | omega | rfl | trivial)) (show _ = some 1 from by decide +kernel) rfl rfl (by omega) (by omega) rfl (fun r_18 w_18 p_18 => ?_)
  obtain ⟨rfl, ew_18⟩ := p_18
  replace ew_18 := ew_18.symm
  subst ew_18
  refine y_steps hC 2 (σ' := (25, [(0, .ref a), (1, .int (nI c))], [.ref a], [])) rfl ?_
  refine y_get (k := 0) (ci := 7) (j := 0) hC rfl rfl rfl rfl (z_t3 (i := 210) rfl rfl) rfl ?_
  refine y_steps hC 2 (σ' := (30, [(0, .ref a), (1, .int (nI c))], [.ref a, .ref a, .ref v2_7], [])) rfl ?_
  refine y_get (k := 0) (ci := 7) (j := 3) hC rfl rfl rfl rfl (z_t3 (i := 213) rfl rfl) rfl ?_
  refine y_steps hC 2 (σ' := (35, [(0, .ref a), (1, .int (nI c))], [.int (nI 1), .int (nI L.length), .ref a, .int (nI L.length), .ref v2_7], [])) rfl ?_
  have ey_35 : ((nI L.length) + (nI 1)) = nI ((L ++ [c]).length) := (nI_add _ _).trans (congrArg nI eL.symm)
  refine y_one hC (σ' := (36, [(0, .ref a), (1, .int (nI c))], [.int (((nI L.length) + (nI 1))), .ref a, .int (nI L.length), .ref v2_7], [])) rfl ?_
  rw [ey_35]
  refine y_steps hC 0 (σ' := (36, [(0, .ref a), (1, .int (nI c))], [.int (nI ((L ++ [c]).length)), .ref a, .int (nI L.length), .ref v2_7], [])) rfl ?_
  refine y_put (k := 0) (ci := 7) (j := 3) (ty := .int) (ws2 := ((a, .inr (7, [.ref v2_7, .int (nI 0), .int (nI 0), .int (nI ((L ++ [c]).length))])) :: [(v2_7, .inl (y_c ε 2, m2_7, .inl f2_7))])) hC rfl rfl rfl rfl (z_t3 (i := 213) rfl rfl) rfl (by decide +kernel) (by rfl) (by rfl) rfl rfl ?_
  refine y_steps hC 1 (σ' := (40, [(0, .ref a), (1, .int (nI c))], [.int (nI c), .int (nI L.length), .ref v2_7], [])) rfl ?_
  refine y_i2b hC rfl (by omega) ?_
  refine y_steps hC 0 (σ' := (41, [(0, .ref a), (1, .int (nI c))], [.int (nI c), .int (nI L.length), .ref v2_7], [])) rfl ?_
  refine y_bas (ws2 := ((a, .inr (7, [.ref v2_7, .int (nI 0), .int (nI 0), .int (nI ((L ++ [c]).length))])) :: [(v2_7, .inl (y_c ε 2, m2_7, .inl (upd f2_7 L.length (nI c))))])) hC 1 rfl rfl (by have := q_7.1; omega) (by omega) (by exact z_narN _ (by omega)) rfl ?_
  refine y_steps hC 2 (σ' := (76, [(0, .ref a), (1, .int (nI c))], [.ref a], [])) rfl ?_
  exact y_aret hC hT rfl (Or.inl ⟨_, rfl⟩) rfl (by omega) (by omega) ⟨v2_7, m2_7, (upd f2_7 L.length (nI c)), rfl, (by rfl), (by exact y_Sb_one hs hc (by have := q_7.1; omega) q_7.2.2.1 q_7.2.2.2.1 q_7.2.2.2.2)⟩
set_option maxHeartbeats 4000000 in
set_option maxRecDepth 1000000 in
theorem c_J4_append_cf468 {ε : y_Ev} {f : Nat → Int32} {a : Nat} {c : Nat} {v : Nat} {m : Nat} {L : List Nat} (hs : y_Sb L m f) (hc : c < 128) (hl : L.length + 1 ≤ 100) : y_C ε zmJ4_append_cf468 6 172 1 202 [.ref a, .int (nI c)] ((a, .inr (7, [.ref v, .int (nI 0), .int (nI 0), .int (nI L.length)])) :: [(v, .inl (y_c ε 2, m, .inl f))]) (fun r w2 => ∃ (v2 : Nat) (m2 : Nat) (f2 : Nat → Int32), r = some (.ref a) ∧ w2 = (a, .inr (7, [.ref v2, .int (nI 0), .int (nI 0), .int (nI ((L ++ [c]).length))])) :: [(v2, .inl (y_c ε 2, m2, .inl f2))] ∧ (y_Sb (L ++ [c]) m2 f2)) := by
  refine y_start (y := 127) rfl rfl (fun κ hC hT hN0 => ?_)
  refine y_steps hC 2 (σ' := (2, [(0, .ref a), (1, .int (nI c))], [.int (nI c), .ref a], [])) rfl ?_
  obtain ⟨cC_2, hat_2⟩ := y_at (ci := 7) hC rfl
  refine y_callSU (b := a) (pc := 2) (st := []) (y := 105) (idx := 50) (w := (a, .inr (7, [.ref v, .int (nI 0), .int (nI 0), .int (nI L.length)])) :: [(v, .inl (y_c ε 2, m, .inl f))]) (wr := ([] : va_W)) (av := [.int (nI c)]) hC rfl rfl (by decide) (z_t4 (i := 178) rfl rfl) (z_t4 (i := 208) rfl rfl) (z_t3 (i := 222) rfl rfl) (z_t4 (i := 179) rfl rfl) (z_t1 (i := 12) rfl rfl) hat_2 (fun H locs hP hS => y_rW (ci := 7) (k := 0) hC rfl rfl H locs hP hS) (c_J5_append_3fe6f (f := f) (a := a) (c := c) (v := v) (m := m) (L := L) (by exact hs) (by first | assumption | omega | rfl | trivial) (by first | assumption | omega | rfl | trivial)) (show _ = some 1 from by decide +kernel) rfl rfl (by omega) (by omega) rfl (fun r_2 w_2 p_2 => ?_)
  obtain ⟨v2_2, m2_2, f2_2, rfl, ew_2, q_2⟩ := p_2
  replace ew_2 := ew_2.symm
  subst ew_2
  refine y_steps hC 2 (σ' := (7, [(0, .ref a), (1, .int (nI c))], [.ref a], [])) rfl ?_
  exact y_aret hC hT rfl (Or.inl ⟨_, rfl⟩) rfl (by omega) (by omega) ⟨v2_2, m2_2, f2_2, rfl, (by rfl), (by exact q_2)⟩
set_option maxHeartbeats 4000000 in
set_option maxRecDepth 1000000 in
theorem c_J5_init_d00df {ε : y_Ev} {a : Nat}  : y_C ε zmJ5_init_d00df 1 60 1 16 [.ref a, .int (nI 16)] ([(a, .inr (7, [.null, .int (nI 0), .int (nI 0), .int (nI 0)]))]) (fun r w2 => ∃ (v2 : Nat), r = none ∧ w2 = (a, .inr (7, [.ref v2, .int (nI 0), .int (nI 0), .int (nI 0)])) :: [(v2, .inl (y_c ε 2, 16, .inl (fun _ => 0)))]) := by
  refine y_start (y := 100) rfl rfl (fun κ hC hT hN0 => ?_)
  refine y_steps hC 1 (σ' := (1, [(0, .ref a), (1, .int (nI 16))], [.ref a], [])) rfl ?_
  refine y_obj hC rfl (z_t3 (i := 201) rfl rfl) (z_t1 (i := 25) rfl rfl) (z_t1 (i := 26) rfl rfl) (by decide) (by decide) rfl ?_
  refine y_steps hC 0 (σ' := (4, [(0, .ref a), (1, .int (nI 16))], [], [])) rfl ?_
  refine y_gsC hC rfl (z_t3 (i := 202) rfl rfl) ?_
  refine y_steps hC 3 (σ' := (12, [(0, .ref a), (1, .int (nI 16))], [.int (nI 16), .ref a], [])) rfl ?_
  refine y_newa (n := 16) (a0 := (16, .inl (fun _ => 0))) hC 2 (atype := .byte) (z_t3 (i := 223) rfl rfl) rfl (fun _ => rfl) (by omega) (by decide) (by omega) (by omega) rfl (fun q12 => ?_)
  refine y_steps hC 0 (σ' := (14, [(0, .ref a), (1, .int (nI 16))], [.ref q12, .ref a], [])) rfl ?_
  refine y_put (k := 1) (ci := 7) (j := 0) (ty := .array .byte) (ws2 := ((q12, .inl (y_c ε 2, 16, .inl ((fun _ => 0)))) :: ([(a, .inr (7, [.ref q12, .int (nI 0), .int (nI 0), .int (nI 0)]))]))) hC rfl rfl rfl rfl (z_t3 (i := 210) rfl rfl) rfl (by decide +kernel) (by rfl) (by rfl) rfl rfl ?_
  refine y_steps hC 2 (σ' := (19, [(0, .ref a), (1, .int (nI 16))], [.int (nI 0), .ref a], [])) rfl ?_
  refine y_put (k := 1) (ci := 7) (j := 1) (ty := .byte) (ws2 := ((q12, .inl (y_c ε 2, 16, .inl ((fun _ => 0)))) :: ([(a, .inr (7, [.ref q12, .int (nI 0), .int (nI 0), .int (nI 0)]))]))) hC rfl rfl rfl rfl (z_t3 (i := 211) rfl rfl) rfl (by decide +kernel) (by rfl) (by rfl) rfl rfl ?_
  refine y_steps hC 1 (σ' := (38, [(0, .ref a), (1, .int (nI 16))], [], [])) rfl ?_
  refine y_mv [[(q12, .inl (y_c ε 2, 16, .inl ((fun _ => 0))))]] ([(a, .inr (7, [.ref q12, .int (nI 0), .int (nI 0), .int (nI 0)]))]) [] ?_
  exact y_vret hC hT rfl rfl (by omega) (by omega) ⟨q12, rfl, (by rfl)⟩
set_option maxHeartbeats 4000000 in
set_option maxRecDepth 1000000 in
theorem c_J4_init_da8c8 {ε : y_Ev} {a : Nat}  : y_C ε zmJ4_init_da8c8 2 81 1 16 [.ref a] ([(a, .inr (7, [.null, .int (nI 0), .int (nI 0), .int (nI 0)]))]) (fun r w2 => ∃ (v2 : Nat), r = none ∧ w2 = (a, .inr (7, [.ref v2, .int (nI 0), .int (nI 0), .int (nI 0)])) :: [(v2, .inl (y_c ε 2, 16, .inl (fun _ => 0)))]) := by
  refine y_start (y := 125) rfl rfl (fun κ hC hT hN0 => ?_)
  refine y_steps hC 2 (σ' := (3, [(0, .ref a)], [.int (nI 16), .ref a], [])) rfl ?_
  refine y_callI (pc := 3) (st := []) (y := 100) (idx := 1) (w := [(a, .inr (7, [.null, .int (nI 0), .int (nI 0), .int (nI 0)]))]) (wr := ([] : va_W)) (av := [.int (nI 16)]) hC rfl rfl rfl rfl (z_t3 (i := 198) rfl rfl) (z_t3 (i := 199) rfl rfl) (z_t1 (i := 12) rfl rfl) (c_J5_init_d00df (a := a) ) (show _ = some 1 from by decide +kernel) rfl rfl (by omega) (by omega) rfl (fun r_3 w_3 p_3 => ?_)
  obtain ⟨v2_3, rfl, ew_3⟩ := p_3
  replace ew_3 := ew_3.symm
  subst ew_3
  refine y_steps hC 0 (σ' := (6, [(0, .ref a)], [], [])) rfl ?_
  exact y_vret hC hT rfl rfl (by omega) (by omega) ⟨v2_3, rfl, (by rfl)⟩
set_option maxHeartbeats 4000000 in
set_option maxRecDepth 1000000 in
theorem c_J7_copyOfRangeByte_39247 {ε : y_Ev} {f : Nat → Int32} {d : Nat} {n : Nat} {m : Nat} (hn : n ≤ m) (hm : m ≤ 202) (hf : ∀ j, fits .byte (.int (f j)) = true) : y_C ε zmJ7_copyOfRangeByte_39247 2 81 1 202 [.ref d, .int (nI 0), .int (nI n)] ([(d, .inl (y_c ε 2, m, .inl f))]) (fun r w2 => ∃ (bb : Nat) (g : Nat → Int32), r = some (.ref bb) ∧ w2 = (bb, .inl (y_c ε 2, n, .inl g)) :: [(d, .inl (y_c ε 2, m, .inl f))] ∧ (∀ k, k < n → g k = f k)) := by
  refine y_start (y := 137) rfl rfl (fun κ hC hT hN0 => ?_)
  refine y_steps hC 2 (σ' := (2, [(0, .ref d), (1, .int (nI 0)), (2, .int (nI n))], [.int (nI n), .int (nI 0)], [])) rfl ?_
  refine y_callS (pc := 2) (st := []) (y := 135) (idx := 343) (w := ([] : va_W)) (wr := [(d, .inl (y_c ε 2, m, .inl f))]) (av := [.int (nI 0), .int (nI n)]) hC rfl rfl (z_t4 (i := 139) rfl rfl) (z_t4 (i := 140) rfl rfl) (z_t1 (i := 3) rfl rfl) (c_J7_checkLength_df160 (n := n) (by first | assumption | omega | rfl | trivial)) (show _ = some 2 from by decide +kernel) rfl rfl (by omega) (by omega) rfl (fun r_2 w_2 p_2 => ?_)
  obtain ⟨rfl, ew_2⟩ := p_2
  replace ew_2 := ew_2.symm
  subst ew_2
  refine y_steps hC 2 (σ' := (7, [(0, .ref d), (1, .int (nI 0)), (2, .int (nI n))], [.int (nI 0), .int (nI n)], [])) rfl ?_
  have ey_7 : ((nI n) - (nI 0)) = nI n := pk_sub (Nat.zero_le n)
  refine y_one hC (σ' := (8, [(0, .ref d), (1, .int (nI 0)), (2, .int (nI n))], [.int (((nI n) - (nI 0)))], [])) rfl ?_
  rw [ey_7]
  refine y_steps hC 2 (σ' := (10, [(3, .int (nI n)), (0, .ref d), (1, .int (nI 0)), (2, .int (nI n))], [.int (nI n)], [])) rfl ?_
  refine y_newa (n := n) (a0 := (n, .inl (fun _ => 0))) hC 2 (atype := .byte) (z_t3 (i := 223) rfl rfl) rfl (fun _ => rfl) (by omega) (by decide) (by omega) (by omega) rfl (fun q10 => ?_)
  refine y_steps hC 6 (σ' := (20, [(4, .ref q10), (3, .int (nI n)), (0, .ref d), (1, .int (nI 0)), (2, .int (nI n))], [.ref d, .int (nI 0), .ref q10, .int (nI 0), .ref d], [])) rfl ?_
  refine y_alen hC 1 2 rfl rfl rfl ?_
  refine y_steps hC 1 (σ' := (22, [(4, .ref q10), (3, .int (nI n)), (0, .ref d), (1, .int (nI 0)), (2, .int (nI n))], [.int (nI 0), .int (nI m), .int (nI 0), .ref q10, .int (nI 0), .ref d], [])) rfl ?_
  have ey_22 : ((nI m) - (nI 0)) = nI m := pk_sub (Nat.zero_le m)
  refine y_one hC (σ' := (23, [(4, .ref q10), (3, .int (nI n)), (0, .ref d), (1, .int (nI 0)), (2, .int (nI n))], [.int (((nI m) - (nI 0))), .int (nI 0), .ref q10, .int (nI 0), .ref d], [])) rfl ?_
  rw [ey_22]
  refine y_steps hC 1 (σ' := (24, [(4, .ref q10), (3, .int (nI n)), (0, .ref d), (1, .int (nI 0)), (2, .int (nI n))], [.int (nI n), .int (nI m), .int (nI 0), .ref q10, .int (nI 0), .ref d], [])) rfl ?_
  refine y_callS (pc := 24) (st := [.int (nI 0), .ref q10, .int (nI 0), .ref d]) (y := 115) (idx := 304) (w := ([] : va_W)) (wr := (q10, .inl (y_c ε 2, n, .inl ((fun _ => 0)))) :: [(d, .inl (y_c ε 2, m, .inl f))]) (av := [.int (nI m), .int (nI n)]) hC rfl rfl (z_t4 (i := 22) rfl rfl) (z_t2 (i := 8) rfl rfl) (z_t1 (i := 9) rfl rfl) (c_J9_min_7cf53_y (a := m) (b := n) (by first | assumption | omega | rfl | trivial) (by first | assumption | omega | rfl | trivial)) (show _ = some 2 from by decide +kernel) rfl rfl (by omega) (by omega) rfl (fun r_24 w_24 p_24 => ?_)
  obtain ⟨rfl, ew_24⟩ := p_24
  replace ew_24 := ew_24.symm
  subst ew_24
  rw [show min m n = n from by omega]
  refine y_steps hC 0 (σ' := (27, [(4, .ref q10), (3, .int (nI n)), (0, .ref d), (1, .int (nI 0)), (2, .int (nI n))], [.int (nI n), .int (nI 0), .ref q10, .int (nI 0), .ref d], [])) rfl ?_
  refine y_cpyb (k0 := 1) (k1 := 0) (ws2 := ((q10, .inl (y_c ε 2, n, .inl (va_cpy f ((fun _ => 0)) 0 0 n))) :: [(d, .inl (y_c ε 2, m, .inl f))])) hC rfl rfl rfl (z_t4 (i := 23) rfl rfl) (z_t2 (i := 37) rfl rfl) (z_t2 (i := 36) rfl rfl) (z_t1 (i := 8) rfl rfl) (by first | assumption | omega | rfl | trivial) (by first | assumption | omega | rfl | trivial) (by first | assumption | omega | rfl | trivial) (by first | assumption | omega | rfl | trivial) (by exact hf) (by decide) rfl rfl ?_
  refine y_steps hC 1 (σ' := (32, [(4, .ref q10), (3, .int (nI n)), (0, .ref d), (1, .int (nI 0)), (2, .int (nI n))], [.ref q10], [])) rfl ?_
  exact y_aret hC hT rfl (Or.inr ⟨_, rfl⟩) rfl (by omega) (by omega) ⟨q10, (va_cpy f ((fun _ => 0)) 0 0 n), rfl, (by rfl), (by exact fun k hk => y_cpy0 hk)⟩
set_option maxHeartbeats 4000000 in
set_option maxRecDepth 1000000 in
theorem c_J7_copyOfRange_39247 {ε : y_Ev} {f : Nat → Int32} {d : Nat} {n : Nat} {m : Nat} (hn : n ≤ m) (hm : m ≤ 202) (hf : ∀ j, fits .byte (.int (f j)) = true) : y_C ε zmJ7_copyOfRange_39247 3 105 1 202 [.ref d, .int (nI 0), .int (nI n)] ([(d, .inl (y_c ε 2, m, .inl f))]) (fun r w2 => ∃ (bb : Nat) (g : Nat → Int32), r = some (.ref bb) ∧ w2 = (bb, .inl (y_c ε 2, n, .inl g)) :: [(d, .inl (y_c ε 2, m, .inl f))] ∧ (∀ k, k < n → g k = f k)) := by
  refine y_start (y := 136) rfl rfl (fun κ hC hT hN0 => ?_)
  refine y_steps hC 4 (σ' := (6, [(0, .ref d), (1, .int (nI 0)), (2, .int (nI n))], [.ref d, .int (nI n)], [])) rfl ?_
  refine y_alen hC 0 2 rfl rfl rfl ?_
  refine y_steps hC 0 (σ' := (7, [(0, .ref d), (1, .int (nI 0)), (2, .int (nI n))], [.int (nI m), .int (nI n)], [])) rfl ?_
  refine y_if hC (c := nI n = nI m) rfl (fun c_7 => ?_) (fun c_7 => ?_)
  · skip
    rw [nI_eq (by omega) (by omega)] at c_7
    refine y_steps hC 1 (σ' := (18, [(0, .ref d), (1, .int (nI 0)), (2, .int (nI n))], [.ref d], [])) rfl ?_
    refine y_clone hC (k := 0) rfl rfl (z_t4 (i := 15) rfl rfl) (z_t4 (i := 16) rfl rfl) (z_t4 (i := 17) rfl rfl) (z_t4 (i := 18) rfl rfl) (z_t4 (i := 19) rfl rfl) (z_wordN_m (pos := 758) rfl rfl) (by exact hf) (by decide) rfl (by omega) (by omega) (fun q18 => ?_)
    refine y_steps hC 0 (σ' := (21, [(0, .ref d), (1, .int (nI 0)), (2, .int (nI n))], [.ref q18], [])) rfl ?_
    refine y_castB hC (k := 0) rfl rfl (z_t4 (i := 21) rfl rfl) ?_
    refine y_steps hC 0 (σ' := (24, [(0, .ref d), (1, .int (nI 0)), (2, .int (nI n))], [.ref q18], [])) rfl ?_
    exact y_aret hC hT rfl (Or.inr ⟨_, rfl⟩) rfl (by omega) (by omega) ⟨q18, f, rfl, (by first | rfl | (rw [c_7])), (by exact fun _ _ => rfl)⟩
  · skip
    rw [nI_eq (by omega) (by omega)] at c_7
    refine y_steps hC 3 (σ' := (13, [(0, .ref d), (1, .int (nI 0)), (2, .int (nI n))], [.int (nI n), .int (nI 0), .ref d], [])) rfl ?_
    refine y_callS (pc := 13) (st := []) (y := 137) (idx := 339) (w := [(d, .inl (y_c ε 2, m, .inl f))]) (wr := ([] : va_W)) (av := [.ref d, .int (nI 0), .int (nI n)]) hC rfl rfl (z_t4 (i := 136) rfl rfl) (z_t4 (i := 137) rfl rfl) (z_t1 (i := 3) rfl rfl) (c_J7_copyOfRangeByte_39247 (f := f) (d := d) (n := n) (m := m) (by first | assumption | omega | rfl | trivial) (by first | assumption | omega | rfl | trivial) (by exact hf)) (show _ = some 3 from by decide +kernel) rfl rfl (by omega) (by omega) rfl (fun r_13 w_13 p_13 => ?_)
    obtain ⟨bb_13, g_13, rfl, ew_13, q_13⟩ := p_13
    replace ew_13 := ew_13.symm
    subst ew_13
    refine y_steps hC 0 (σ' := (16, [(0, .ref d), (1, .int (nI 0)), (2, .int (nI n))], [.ref bb_13], [])) rfl ?_
    exact y_aret hC hT rfl (Or.inr ⟨_, rfl⟩) rfl (by omega) (by omega) ⟨bb_13, g_13, rfl, (by first | rfl | (rw [c_7])), (by first | exact q_13 | exact fun _ _ => rfl)⟩
set_option maxHeartbeats 4000000 in
set_option maxRecDepth 1000000 in
theorem c_J0_init_db425 {ε : y_Ev} {f : Nat → Int32} {s : Nat} {a : Nat} {v : Nat} {m : Nat} {L : List Nat} (hs : y_Sb L m f) : y_C ε zmJ0_init_db425 4 127 1 202 [.ref s, .ref a, .null] ((s, .inr (6, [.null, .int (nI 0), .int (nI 0), .int (nI 0)])) :: ((a, .inr (7, [.ref v, .int (nI 0), .int (nI 0), .int (nI L.length)])) :: [(v, .inl (y_c ε 2, m, .inl f))])) (fun r w2 => ∃ (v2 : Nat) (f2 : Nat → Int32), r = none ∧ w2 = (s, .inr (6, [.ref v2, .int (nI 0), .int (nI 0), .int (nI 0)])) :: ((v2, .inl (y_c ε 2, L.length, .inl f2)) :: ((a, .inr (7, [.ref v, .int (nI 0), .int (nI 0), .int (nI L.length)])) :: [(v, .inl (y_c ε 2, m, .inl f))])) ∧ (∀ k, k < L.length → f2 k = nI (L.getD k 0))) := by
  obtain ⟨s1, s2, s3, s4, s5⟩ := id hs
  refine y_start (y := 121) rfl rfl (fun κ hC hT hN0 => ?_)
  refine y_steps hC 1 (σ' := (1, [(0, .ref s), (1, .ref a), (2, .null)], [.ref s], [])) rfl ?_
  refine y_obj hC rfl (z_t4 (i := 118) rfl rfl) (z_t1 (i := 25) rfl rfl) (z_t1 (i := 26) rfl rfl) (by decide) (by decide) rfl ?_
  refine y_steps hC 1 (σ' := (5, [(0, .ref s), (1, .ref a), (2, .null)], [.ref a], [])) rfl ?_
  refine y_mv [[(s, .inr (6, [.null, .int (nI 0), .int (nI 0), .int (nI 0)]))]] ([(a, .inr (7, [.ref v, .int (nI 0), .int (nI 0), .int (nI L.length)]))]) [[(v, .inl (y_c ε 2, m, .inl f))]] ?_
  refine y_callU (b := a) (C := "java/lang/StringBuilder") (x := ⟨"java/lang/AbstractStringBuilder", "getValue", "()[B"⟩) (pc := 5) (st := []) (y := 107) (idx := 552) (w := [(a, .inr (7, [.ref v, .int (nI 0), .int (nI 0), .int (nI L.length)]))]) (wr := (s, .inr (6, [.null, .int (nI 0), .int (nI 0), .int (nI 0)])) :: [(v, .inl (y_c ε 2, m, .inl f))]) (av := []) hC rfl rfl rfl (z_t4 (i := 119) rfl rfl) (z_t4 (i := 121) rfl rfl) (z_t4 (i := 122) rfl rfl) (z_t4 (i := 120) rfl rfl) (z_t1 (i := 12) rfl rfl) (fun H locs hP hS => y_rW (ci := 7) (k := 0) hC rfl rfl H locs hP hS) (c_J5_getValue_6d5f1 (a := a) (v := v) (n := L.length) ) (show _ = some 0 from by decide +kernel) rfl rfl (by omega) (by omega) rfl (fun r_5 w_5 p_5 => ?_)
  obtain ⟨rfl, ew_5⟩ := p_5
  replace ew_5 := ew_5.symm
  subst ew_5
  refine y_steps hC 2 (σ' := (10, [(3, .ref v), (0, .ref s), (1, .ref a), (2, .null)], [.ref a], [])) rfl ?_
  refine y_callO (b := a) (C := "java/lang/StringBuilder") (x := ⟨"java/lang/AbstractStringBuilder", "length", "()I"⟩) (pc := 10) (st := []) (y := 130) (idx := 549) (w := [(a, .inr (7, [.ref v, .int (nI 0), .int (nI 0), .int (nI L.length)]))]) (wr := (s, .inr (6, [.null, .int (nI 0), .int (nI 0), .int (nI 0)])) :: [(v, .inl (y_c ε 2, m, .inl f))]) (av := []) hC rfl rfl (z_t4 (i := 131) rfl rfl) ⟨by decide, by decide⟩ (z_t4 (i := 124) rfl rfl) (z_t4 (i := 126) rfl rfl) (z_t4 (i := 125) rfl rfl) (z_t4 (i := 127) rfl rfl) (z_t4 (i := 128) rfl rfl) (z_t1 (i := 13) rfl rfl) (fun H locs hP hS => y_rW (ci := 7) (k := 0) hC rfl rfl H locs hP hS) (c_J4_length_8abf5 (a := a) (v := v) (n := L.length) ) (show _ = some 0 from by decide +kernel) rfl rfl (by omega) (by omega) rfl (fun r_10 w_10 p_10 => ?_)
  obtain ⟨rfl, ew_10⟩ := p_10
  replace ew_10 := ew_10.symm
  subst ew_10
  refine y_steps hC 2 (σ' := (16, [(4, .int (nI L.length)), (3, .ref v), (0, .ref s), (1, .ref a), (2, .null)], [.ref a], [])) rfl ?_
  refine y_callU (b := a) (C := "java/lang/StringBuilder") (x := ⟨"java/lang/AbstractStringBuilder", "isLatin1", "()Z"⟩) (pc := 16) (st := []) (y := 108) (idx := 1047) (w := [(a, .inr (7, [.ref v, .int (nI 0), .int (nI 0), .int (nI L.length)]))]) (wr := (s, .inr (6, [.null, .int (nI 0), .int (nI 0), .int (nI 0)])) :: [(v, .inl (y_c ε 2, m, .inl f))]) (av := []) hC rfl rfl rfl (z_t4 (i := 132) rfl rfl) (z_t4 (i := 26) rfl rfl) (z_t4 (i := 27) rfl rfl) (z_t4 (i := 25) rfl rfl) (z_t1 (i := 12) rfl rfl) (fun H locs hP hS => y_rW (ci := 7) (k := 0) hC rfl rfl H locs hP hS) (c_J5_isLatin1_aae02 (a := a) (v := v) (n := L.length) ) (show _ = some 0 from by decide +kernel) rfl rfl (by omega) (by omega) rfl (fun r_16 w_16 p_16 => ?_)
  obtain ⟨rfl, ew_16⟩ := p_16
  replace ew_16 := ew_16.symm
  subst ew_16
  refine y_steps hC 3 (σ' := (24, [(4, .int (nI L.length)), (3, .ref v), (0, .ref s), (1, .ref a), (2, .null)], [.int (nI 0), .ref s], [])) rfl ?_
  refine y_putF (k := 1) (ci := 6) (j := 1) (ty := .byte) (ws2 := ((a, .inr (7, [.ref v, .int (nI 0), .int (nI 0), .int (nI L.length)])) :: ((s, .inr (6, [.null, .int (nI 0), .int (nI 0), .int (nI 0)])) :: [(v, .inl (y_c ε 2, m, .inl f))]))) hC hN0 rfl rfl rfl rfl (z_t4 (i := 153) rfl rfl) rfl rfl (by decide +kernel) (by rfl) (by rfl) rfl rfl ?_
  refine y_steps hC 4 (σ' := (32, [(4, .int (nI L.length)), (3, .ref v), (0, .ref s), (1, .ref a), (2, .null)], [.int (nI L.length), .int (nI 0), .ref v, .ref s], [])) rfl ?_
  refine y_mv [[(a, .inr (7, [.ref v, .int (nI 0), .int (nI 0), .int (nI L.length)]))], [(s, .inr (6, [.null, .int (nI 0), .int (nI 0), .int (nI 0)]))]] ([(v, .inl (y_c ε 2, m, .inl f))]) [] ?_
  refine y_callS (pc := 32) (st := [.ref s]) (y := 136) (idx := 54) (w := [(v, .inl (y_c ε 2, m, .inl f))]) (wr := (a, .inr (7, [.ref v, .int (nI 0), .int (nI 0), .int (nI L.length)])) :: ([(s, .inr (6, [.null, .int (nI 0), .int (nI 0), .int (nI 0)]))])) (av := [.ref v, .int (nI 0), .int (nI L.length)]) hC rfl rfl (z_t4 (i := 133) rfl rfl) (z_t4 (i := 134) rfl rfl) (z_t1 (i := 3) rfl rfl) (c_J7_copyOfRange_39247 (f := f) (d := v) (n := L.length) (m := m) (by first | assumption | omega | rfl | trivial) (by first | assumption | omega | rfl | trivial) (by exact s5)) (show _ = some 3 from by decide +kernel) rfl rfl (by omega) (by omega) rfl (fun r_32 w_32 p_32 => ?_)
  obtain ⟨bb_32, g_32, rfl, ew_32, q_32⟩ := p_32
  replace ew_32 := ew_32.symm
  subst ew_32
  refine y_steps hC 0 (σ' := (35, [(4, .int (nI L.length)), (3, .ref v), (0, .ref s), (1, .ref a), (2, .null)], [.ref bb_32, .ref s], [])) rfl ?_
  refine y_putF (k := 3) (ci := 6) (j := 0) (ty := .array .byte) (ws2 := ((bb_32, .inl (y_c ε 2, L.length, .inl g_32)) :: ((v, .inl (y_c ε 2, m, .inl f)) :: ((a, .inr (7, [.ref v, .int (nI 0), .int (nI 0), .int (nI L.length)])) :: ([(s, .inr (6, [.ref bb_32, .int (nI 0), .int (nI 0), .int (nI 0)]))]))))) hC hN0 rfl rfl rfl rfl (z_t4 (i := 152) rfl rfl) rfl rfl (by decide +kernel) (by rfl) (by rfl) rfl rfl ?_
  refine y_steps hC 1 (σ' := (97, [(4, .int (nI L.length)), (3, .ref v), (0, .ref s), (1, .ref a), (2, .null)], [], [])) rfl ?_
  refine y_mv [[(bb_32, .inl (y_c ε 2, L.length, .inl g_32))]] ([(v, .inl (y_c ε 2, m, .inl f))]) [[(a, .inr (7, [.ref v, .int (nI 0), .int (nI 0), .int (nI L.length)]))], [(s, .inr (6, [.ref bb_32, .int (nI 0), .int (nI 0), .int (nI 0)]))]] ?_
  refine y_mv [[(v, .inl (y_c ε 2, m, .inl f))], [(bb_32, .inl (y_c ε 2, L.length, .inl g_32))]] ([(a, .inr (7, [.ref v, .int (nI 0), .int (nI 0), .int (nI L.length)]))]) [[(s, .inr (6, [.ref bb_32, .int (nI 0), .int (nI 0), .int (nI 0)]))]] ?_
  refine y_mv [[(a, .inr (7, [.ref v, .int (nI 0), .int (nI 0), .int (nI L.length)]))], [(v, .inl (y_c ε 2, m, .inl f))]] ([(bb_32, .inl (y_c ε 2, L.length, .inl g_32))]) [[(s, .inr (6, [.ref bb_32, .int (nI 0), .int (nI 0), .int (nI 0)]))]] ?_
  refine y_mv [[(bb_32, .inl (y_c ε 2, L.length, .inl g_32))], [(a, .inr (7, [.ref v, .int (nI 0), .int (nI 0), .int (nI L.length)]))], [(v, .inl (y_c ε 2, m, .inl f))]] ([(s, .inr (6, [.ref bb_32, .int (nI 0), .int (nI 0), .int (nI 0)]))]) [] ?_
  exact y_vret hC hT rfl rfl (by omega) (by omega) ⟨bb_32, g_32, rfl, (by rfl), (by exact fun k hk => (q_32 k hk).trans (s3 k hk))⟩
set_option maxHeartbeats 4000000 in
set_option maxRecDepth 1000000 in
theorem c_J0_init_81219 {ε : y_Ev} {f : Nat → Int32} {s : Nat} {a : Nat} {v : Nat} {m : Nat} {L : List Nat} (hs : y_Sb L m f) : y_C ε zmJ0_init_81219 5 151 1 202 [.ref s, .ref a] ((s, .inr (6, [.null, .int (nI 0), .int (nI 0), .int (nI 0)])) :: ((a, .inr (7, [.ref v, .int (nI 0), .int (nI 0), .int (nI L.length)])) :: [(v, .inl (y_c ε 2, m, .inl f))])) (fun r w2 => ∃ (v2 : Nat) (f2 : Nat → Int32), r = none ∧ w2 = (s, .inr (6, [.ref v2, .int (nI 0), .int (nI 0), .int (nI 0)])) :: ((v2, .inl (y_c ε 2, L.length, .inl f2)) :: ((a, .inr (7, [.ref v, .int (nI 0), .int (nI 0), .int (nI L.length)])) :: [(v, .inl (y_c ε 2, m, .inl f))])) ∧ (∀ k, k < L.length → f2 k = nI (L.getD k 0))) := by
  refine y_start (y := 117) rfl rfl (fun κ hC hT hN0 => ?_)
  refine y_steps hC 2 (σ' := (2, [(0, .ref s), (1, .ref a)], [.ref a, .ref s], [])) rfl ?_
  refine y_null hC rfl ?_
  refine y_steps hC 0 (σ' := (3, [(0, .ref s), (1, .ref a)], [.null, .ref a, .ref s], [])) rfl ?_
  refine y_callI (pc := 3) (st := []) (y := 121) (idx := 489) (w := (s, .inr (6, [.null, .int (nI 0), .int (nI 0), .int (nI 0)])) :: ((a, .inr (7, [.ref v, .int (nI 0), .int (nI 0), .int (nI L.length)])) :: [(v, .inl (y_c ε 2, m, .inl f))])) (wr := ([] : va_W)) (av := [.ref a, .null]) hC rfl rfl rfl rfl (z_t4 (i := 115) rfl rfl) (z_t4 (i := 116) rfl rfl) (z_t1 (i := 14) rfl rfl) (c_J0_init_db425 (f := f) (s := s) (a := a) (v := v) (m := m) (L := L) (by exact hs)) (show _ = some 2 from by decide +kernel) rfl rfl (by omega) (by omega) rfl (fun r_3 w_3 p_3 => ?_)
  obtain ⟨v2_3, f2_3, rfl, ew_3, q_3⟩ := p_3
  replace ew_3 := ew_3.symm
  subst ew_3
  refine y_steps hC 0 (σ' := (6, [(0, .ref s), (1, .ref a)], [], [])) rfl ?_
  exact y_vret hC hT rfl rfl (by omega) (by omega) ⟨v2_3, f2_3, rfl, (by rfl), (by exact q_3)⟩
set_option maxHeartbeats 4000000 in
set_option maxRecDepth 1000000 in
theorem c_J4_toString_0e30d {ε : y_Ev} {f : Nat → Int32} {a : Nat} {v : Nat} {m : Nat} {L : List Nat} (hs : y_Sb L m f) (hl : L.length ≤ 200) : y_C ε zmJ4_toString_0e30d 6 172 2 206 [.ref a] ((a, .inr (7, [.ref v, .int (nI 0), .int (nI 0), .int (nI L.length)])) :: [(v, .inl (y_c ε 2, m, .inl f))]) (fun r w2 => ∃ (t_a : Nat) (t_v : Nat) (t_f : Nat → Int32) (t_L : List Nat) (t_B : va_W), r = some (.ref t_a) ∧ w2 = t_B ∧ (y_Tv ε t_a t_v t_f t_L t_B) ∧ (t_L = L)) := by
  obtain ⟨s1, s2, s3, s4, s5⟩ := id hs
  refine y_start (y := 129) rfl rfl (fun κ hC hT hN0 => ?_)
  refine y_steps hC 0 (σ' := (0, [(0, .ref a)], [], [])) rfl ?_
  refine y_new (ci := 6) (fs := [.null, .int (nI 0), .int (nI 0), .int (nI 0)]) hC rfl tyJ0 tyJ0_ok (z_t4 (i := 110) rfl rfl) (z_t4 (i := 111) rfl rfl) (z_t1 (i := 14) rfl rfl) (fun j hj => by match j, hj with | 0, _ => rfl | 1, _ => rfl | 2, _ => rfl | 3, _ => rfl | j + 4, hj => exact absurd hj (by omega)) (by omega) (by omega) rfl (fun q0 => ?_)
  refine y_steps hC 2 (σ' := (5, [(0, .ref a)], [.ref a, .ref q0, .ref q0], [])) rfl ?_
  refine y_callI (pc := 5) (st := [.ref q0]) (y := 117) (idx := 137) (w := (q0, .inr (6, [.null, .int (nI 0), .int (nI 0), .int (nI 0)])) :: ((a, .inr (7, [.ref v, .int (nI 0), .int (nI 0), .int (nI L.length)])) :: [(v, .inl (y_c ε 2, m, .inl f))])) (wr := ([] : va_W)) (av := [.ref a]) hC rfl rfl rfl rfl (z_t4 (i := 112) rfl rfl) (z_t4 (i := 113) rfl rfl) (z_t1 (i := 14) rfl rfl) (c_J0_init_81219 (f := f) (s := q0) (a := a) (v := v) (m := m) (L := L) (by exact hs)) (show _ = some 1 from by decide +kernel) rfl rfl (by omega) (by omega) rfl (fun r_5 w_5 p_5 => ?_)
  obtain ⟨v2_5, f2_5, rfl, ew_5, q_5⟩ := p_5
  replace ew_5 := ew_5.symm
  subst ew_5
  refine y_steps hC 0 (σ' := (8, [(0, .ref a)], [.ref q0], [])) rfl ?_
  refine y_mv [[(q0, .inr (6, [.ref v2_5, .int (nI 0), .int (nI 0), .int (nI 0)])), (v2_5, .inl (y_c ε 2, L.length, .inl f2_5))]] ([(a, .inr (7, [.ref v, .int (nI 0), .int (nI 0), .int (nI L.length)]))]) [[(v, .inl (y_c ε 2, m, .inl f))]] ?_
  refine y_drp ([(a, .inr (7, [.ref v, .int (nI 0), .int (nI 0), .int (nI L.length)]))]) [[(q0, .inr (6, [.ref v2_5, .int (nI 0), .int (nI 0), .int (nI 0)])), (v2_5, .inl (y_c ε 2, L.length, .inl f2_5))], [(v, .inl (y_c ε 2, m, .inl f))]] ?_
  refine y_mv [[(q0, .inr (6, [.ref v2_5, .int (nI 0), .int (nI 0), .int (nI 0)])), (v2_5, .inl (y_c ε 2, L.length, .inl f2_5))]] ([(v, .inl (y_c ε 2, m, .inl f))]) [] ?_
  refine y_drp ([(v, .inl (y_c ε 2, m, .inl f))]) [[(q0, .inr (6, [.ref v2_5, .int (nI 0), .int (nI 0), .int (nI 0)])), (v2_5, .inl (y_c ε 2, L.length, .inl f2_5))]] ?_
  exact y_aret hC hT rfl (Or.inl ⟨_, rfl⟩) rfl (by omega) (by omega) ⟨q0, v2_5, f2_5, L, ([(q0, .inr (6, [.ref v2_5, .int (nI 0), .int (nI 0), .int (nI 0)])), (v2_5, .inl (y_c ε 2, L.length, .inl f2_5))]), rfl, (by rfl), (y_Tm q_5 s4 (by omega)), (by rfl)⟩
