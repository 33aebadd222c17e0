/-! the JDK's methods on texts -/
set_option maxHeartbeats 4000000 in
set_option maxRecDepth 1000000 in
theorem c_J9_max_7cf53_y {ε : y_Ev} {a : Nat} {b : Nat} (ha : a < 2 ^ 31) (hb : b < 2 ^ 31) : y_C ε zmJ9_max_7cf53 1 60 0 0 [.int (nI a), .int (nI b)] (([] : va_W)) (fun r w2 => r = some (.int (nI (max a b))) ∧ w2 = ([] : va_W)) := by
  refine y_start (y := 114) rfl rfl (fun κ hC hT hN0 => ?_)
  refine y_steps hC 2 (σ' := (2, [(0, .int (nI a)), (1, .int (nI b))], [.int (nI b), .int (nI a)], [])) rfl ?_
  refine y_if hC (c := nI a < nI b) rfl (fun c_2 => ?_) (fun c_2 => ?_)
  · skip
    rw [nI_ltI (by omega) (by omega)] at c_2
    refine y_steps hC 1 (σ' := (10, [(0, .int (nI a)), (1, .int (nI b))], [.int (nI b)], [])) rfl ?_
    exact y_iret hC hT rfl rfl (by omega) (by omega) ⟨(by exact congrArg (fun v => some (Value.int (nI v))) (by omega)), (by rfl)⟩
  · skip
    rw [nI_ltI (by omega) (by omega)] at c_2
    refine y_steps hC 2 (σ' := (10, [(0, .int (nI a)), (1, .int (nI b))], [.int (nI a)], [])) rfl ?_
    exact y_iret hC hT rfl rfl (by omega) (by omega) ⟨(by exact congrArg (fun v => some (Value.int (nI v))) (by omega)), (by rfl)⟩
set_option maxHeartbeats 4000000 in
set_option maxRecDepth 1000000 in
theorem c_J9_min_7cf53_y {ε : y_Ev} {a : Nat} {b : Nat} (ha : a < 2 ^ 31) (hb : b < 2 ^ 31) : y_C ε zmJ9_min_7cf53 1 60 0 0 [.int (nI a), .int (nI b)] (([] : va_W)) (fun r w2 => r = some (.int (nI (min a b))) ∧ w2 = ([] : va_W)) := by
  refine y_start (y := 115) rfl rfl (fun κ hC hT hN0 => ?_)
  refine y_steps hC 2 (σ' := (2, [(0, .int (nI a)), (1, .int (nI b))], [.int (nI b), .int (nI a)], [])) rfl ?_
  refine y_if hC (c := nI b < nI a) rfl (fun c_2 => ?_) (fun c_2 => ?_)
  · skip
    rw [nI_ltI (by omega) (by omega)] at c_2
    refine y_steps hC 1 (σ' := (10, [(0, .int (nI a)), (1, .int (nI b))], [.int (nI b)], [])) rfl ?_
    exact y_iret hC hT rfl rfl (by omega) (by omega) ⟨(by exact congrArg (fun v => some (Value.int (nI v))) (by omega)), (by rfl)⟩
  · skip
    rw [nI_ltI (by omega) (by omega)] at c_2
    refine y_steps hC 2 (σ' := (10, [(0, .int (nI a)), (1, .int (nI b))], [.int (nI a)], [])) rfl ?_
    exact y_iret hC hT rfl rfl (by omega) (by omega) ⟨(by exact congrArg (fun v => some (Value.int (nI v))) (by omega)), (by rfl)⟩
set_option maxHeartbeats 4000000 in
set_option maxRecDepth 1000000 in
theorem c_J8_newLength_cabcc {ε : y_Ev} {ol : Nat} {gr : Nat} {pr : Nat} (h1 : ol ≤ 1000) (h2 : gr ≤ 1000) (h3 : pr ≤ 1000 ∧ 1 ≤ pr) : y_C ε zmJ8_newLength_cabcc 2 81 0 0 [.int (nI ol), .int (nI gr), .int (nI pr)] (([] : va_W)) (fun r w2 => r = some (.int (nI (ol + max gr pr))) ∧ w2 = ([] : va_W)) := by
  refine y_start (y := 138) rfl rfl (fun κ hC hT hN0 => ?_)
  refine y_steps hC 3 (σ' := (3, [(0, .int (nI ol)), (1, .int (nI gr)), (2, .int (nI pr))], [.int (nI pr), .int (nI gr), .int (nI ol)], [])) rfl ?_
  refine y_callS (pc := 3) (st := [.int (nI ol)]) (y := 114) (idx := 194) (w := ([] : va_W)) (wr := ([] : va_W)) (av := [.int (nI gr), .int (nI pr)]) hC rfl rfl (z_t4 (i := 6) rfl rfl) (z_t2 (i := 85) rfl rfl) (z_t1 (i := 9) rfl rfl) (c_J9_max_7cf53_y (a := gr) (b := pr) (by first | assumption | omega | rfl | trivial) (by first | assumption | omega | rfl | trivial)) (show _ = some 2 from by decide +kernel) rfl rfl (by omega) (by omega) rfl (fun r_3 w_3 p_3 => ?_)
  obtain ⟨rfl, ew_3⟩ := p_3
  replace ew_3 := ew_3.symm
  subst ew_3
  refine y_steps hC 0 (σ' := (6, [(0, .int (nI ol)), (1, .int (nI gr)), (2, .int (nI pr))], [.int (nI (max gr pr)), .int (nI ol)], [])) rfl ?_
  refine y_add hC (ol + max gr pr) rfl (by rfl) ?_
  refine y_steps hC 3 (σ' := (10, [(3, .int (nI (ol + max gr pr))), (0, .int (nI ol)), (1, .int (nI gr)), (2, .int (nI pr))], [.int (nI (ol + max gr pr)), .int (nI 0)], [])) rfl ?_
  refine y_if hC (c := nI (ol + max gr pr) ≤ nI 0) rfl (fun c_10 => ?_) (fun c_10 => ?_)
  · skip
    rw [nI_leI (by omega) (by omega)] at c_10
    omega
  · skip
    rw [nI_leI (by omega) (by omega)] at c_10
    refine y_steps hC 2 (σ' := (16, [(3, .int (nI (ol + max gr pr))), (0, .int (nI ol)), (1, .int (nI gr)), (2, .int (nI pr))], [.int (nI 2147483639), .int (nI (ol + max gr pr))], [])) rfl ?_
    refine y_if hC (c := nI 2147483639 < nI (ol + max gr pr)) rfl (fun c_16 => ?_) (fun c_16 => ?_)
    · skip
      rw [nI_ltI (by omega) (by omega)] at c_16
      omega
    · skip
      rw [nI_ltI (by omega) (by omega)] at c_16
      refine y_steps hC 1 (σ' := (20, [(3, .int (nI (ol + max gr pr))), (0, .int (nI ol)), (1, .int (nI gr)), (2, .int (nI pr))], [.int (nI (ol + max gr pr))], [])) rfl ?_
      exact y_iret hC hT rfl rfl (by omega) (by omega) ⟨(by rfl), (by rfl)⟩
set_option maxHeartbeats 4000000 in
set_option maxRecDepth 1000000 in
theorem c_J7_checkLength_df160 {ε : y_Ev} {n : Nat} (hn : n < 2 ^ 31) : y_C ε zmJ7_checkLength_df160 1 60 0 0 [.int (nI 0), .int (nI n)] (([] : va_W)) (fun r w2 => r = none ∧ w2 = ([] : va_W)) := by
  refine y_start (y := 135) rfl rfl (fun κ hC hT hN0 => ?_)
  refine y_steps hC 2 (σ' := (2, [(0, .int (nI 0)), (1, .int (nI n))], [.int (nI 0), .int (nI n)], [])) rfl ?_
  refine y_if hC (c := nI 0 ≤ nI n) rfl (fun c_2 => ?_) (fun c_2 => ?_)
  · skip
    rw [nI_leI (by omega) (by omega)] at c_2
    refine y_steps hC 0 (σ' := (37, [(0, .int (nI 0)), (1, .int (nI n))], [], [])) rfl ?_
    exact y_vret hC hT rfl rfl (by omega) (by omega) ⟨rfl, (by rfl)⟩
  · skip
    rw [nI_leI (by omega) (by omega)] at c_2
    omega
set_option maxHeartbeats 4000000 in
set_option maxRecDepth 1000000 in
theorem c_J5_isLatin1_aae02 {ε : y_Ev} {a : Nat} {v : Nat} {n : Nat}  : y_C ε zmJ5_isLatin1_aae02 1 60 0 0 [.ref a] ([(a, .inr (7, [.ref v, .int (nI 0), .int (nI 0), .int (nI n)]))]) (fun r w2 => r = some (.int (nI 1)) ∧ w2 = [(a, .inr (7, [.ref v, .int (nI 0), .int (nI 0), .int (nI n)]))]) := by
  refine y_start (y := 108) rfl rfl (fun κ hC hT hN0 => ?_)
  refine y_steps hC 0 (σ' := (0, [(0, .ref a)], [], [])) rfl ?_
  refine y_gsC hC rfl (z_t3 (i := 202) rfl rfl) ?_
  refine y_steps hC 2 (σ' := (7, [(0, .ref a)], [.ref a], [])) rfl ?_
  refine y_get (k := 0) (ci := 7) (j := 1) hC rfl rfl rfl rfl (z_t3 (i := 211) rfl rfl) rfl ?_
  refine y_steps hC 3 (σ' := (18, [(0, .ref a)], [.int (nI 1)], [])) rfl ?_
  exact y_zret hC hT rfl (Or.inl rfl) (by rfl) rfl (by omega) (by omega) ⟨(by rfl), (by rfl)⟩
set_option maxHeartbeats 4000000 in
set_option maxRecDepth 1000000 in
theorem c_J5_length_8abf5 {ε : y_Ev} {a : Nat} {v : Nat} {n : Nat}  : y_C ε zmJ5_length_8abf5 1 60 0 0 [.ref a] ([(a, .inr (7, [.ref v, .int (nI 0), .int (nI 0), .int (nI n)]))]) (fun r w2 => r = some (.int (nI n)) ∧ w2 = [(a, .inr (7, [.ref v, .int (nI 0), .int (nI 0), .int (nI n)]))]) := by
  refine y_start (y := 101) rfl rfl (fun κ hC hT hN0 => ?_)
  refine y_steps hC 1 (σ' := (1, [(0, .ref a)], [.ref a], [])) rfl ?_
  refine y_get (k := 0) (ci := 7) (j := 3) hC rfl rfl rfl rfl (z_t3 (i := 213) rfl rfl) rfl ?_
  refine y_steps hC 0 (σ' := (4, [(0, .ref a)], [.int (nI n)], [])) rfl ?_
  exact y_iret hC hT rfl rfl (by omega) (by omega) ⟨(by rfl), (by rfl)⟩
set_option maxHeartbeats 4000000 in
set_option maxRecDepth 1000000 in
theorem c_J4_length_8abf5 {ε : y_Ev} {a : Nat} {v : Nat} {n : Nat}  : y_C ε zmJ4_length_8abf5 2 80 0 0 [.ref a] ([(a, .inr (7, [.ref v, .int (nI 0), .int (nI 0), .int (nI n)]))]) (fun r w2 => r = some (.int (nI n)) ∧ w2 = [(a, .inr (7, [.ref v, .int (nI 0), .int (nI 0), .int (nI n)]))]) := by
  refine y_start (y := 130) rfl rfl (fun κ hC hT hN0 => ?_)
  refine y_steps hC 1 (σ' := (1, [(0, .ref a)], [.ref a], [])) rfl ?_
  obtain ⟨cC_1, hat_1⟩ := y_at (ci := 7) hC rfl
  refine y_callSU (b := a) (pc := 1) (st := []) (y := 101) (idx := 343) (w := [(a, .inr (7, [.ref v, .int (nI 0), .int (nI 0), .int (nI n)]))]) (wr := ([] : va_W)) (av := []) hC rfl rfl (by decide) (z_t4 (i := 130) rfl rfl) (z_t4 (i := 126) rfl rfl) (z_t3 (i := 222) rfl rfl) (z_t4 (i := 125) rfl rfl) (z_t1 (i := 12) rfl rfl) hat_1 (fun H locs hP hS => y_rW (ci := 7) (k := 0) hC rfl rfl H locs hP hS) (c_J5_length_8abf5 (a := a) (v := v) (n := n) ) (show _ = some 0 from by decide +kernel) rfl rfl (by omega) (by omega) rfl (fun r_1 w_1 p_1 => ?_)
  obtain ⟨rfl, ew_1⟩ := p_1
  replace ew_1 := ew_1.symm
  subst ew_1
  refine y_steps hC 0 (σ' := (4, [(0, .ref a)], [.int (nI n)], [])) rfl ?_
  exact y_iret hC hT rfl rfl (by omega) (by omega) ⟨(by rfl), (by rfl)⟩
set_option maxHeartbeats 4000000 in
set_option maxRecDepth 1000000 in
theorem c_J5_getValue_6d5f1 {ε : y_Ev} {a : Nat} {v : Nat} {n : Nat}  : y_C ε zmJ5_getValue_6d5f1 1 60 0 0 [.ref a] ([(a, .inr (7, [.ref v, .int (nI 0), .int (nI 0), .int (nI n)]))]) (fun r w2 => r = some (.ref v) ∧ w2 = [(a, .inr (7, [.ref v, .int (nI 0), .int (nI 0), .int (nI n)]))]) := by
  refine y_start (y := 107) rfl rfl (fun κ hC hT hN0 => ?_)
  refine y_steps hC 1 (σ' := (1, [(0, .ref a)], [.ref a], [])) rfl ?_
  refine y_get (k := 0) (ci := 7) (j := 0) hC rfl rfl rfl rfl (z_t3 (i := 210) rfl rfl) rfl ?_
  refine y_steps hC 0 (σ' := (4, [(0, .ref a)], [.ref v], [])) rfl ?_
  exact y_aret hC hT rfl (Or.inr ⟨_, rfl⟩) rfl (by omega) (by omega) ⟨rfl, (by rfl)⟩
set_option maxHeartbeats 4000000 in
set_option maxRecDepth 1000000 in
theorem c_J5_newCapacity_0f7a4 {ε : y_Ev} {f : Nat → Int32} {a : Nat} {q : Nat} {v : Nat} {n : Nat} {m : Nat} (hq : m < q) (hm : m ≤ 202) (hq2 : q ≤ 202) : y_C ε zmJ5_newCapacity_0f7a4 3 104 0 0 [.ref a, .int (nI q)] ((a, .inr (7, [.ref v, .int (nI 0), .int (nI 0), .int (nI n)])) :: [(v, .inl (y_c ε 2, m, .inl f))]) (fun r w2 => r = some (.int (nI (m + max (q - m) (m + 2)))) ∧ w2 = (a, .inr (7, [.ref v, .int (nI 0), .int (nI 0), .int (nI n)])) :: [(v, .inl (y_c ε 2, m, .inl f))]) := by
  refine y_start (y := 103) rfl rfl (fun κ hC hT hN0 => ?_)
  refine y_steps hC 1 (σ' := (1, [(0, .ref a), (1, .int (nI q))], [.ref a], [])) rfl ?_
  refine y_get (k := 0) (ci := 7) (j := 0) hC rfl rfl rfl rfl (z_t3 (i := 210) rfl rfl) rfl ?_
  refine y_steps hC 0 (σ' := (4, [(0, .ref a), (1, .int (nI q))], [.ref v], [])) rfl ?_
  refine y_alen hC 1 2 rfl rfl rfl ?_
  refine y_steps hC 3 (σ' := (8, [(2, .int (nI m)), (0, .ref a), (1, .int (nI q))], [.ref a, .int (nI q)], [])) rfl ?_
  refine y_get (k := 0) (ci := 7) (j := 1) hC rfl rfl rfl rfl (z_t3 (i := 211) rfl rfl) rfl ?_
  refine y_steps hC 0 (σ' := (11, [(2, .int (nI m)), (0, .ref a), (1, .int (nI q))], [.int (nI 0), .int (nI q)], [])) rfl ?_
  refine y_one hC (σ' := (12, [(2, .int (nI m)), (0, .ref a), (1, .int (nI q))], [.int (((nI q) <<< (nI 0 &&& 31)))], [])) rfl ?_
  rw [show (nI q) <<< (nI 0 &&& 31) = nI q from sb_shl0 _]
  refine y_steps hC 3 (σ' := (15, [(3, .int (nI q)), (2, .int (nI m)), (0, .ref a), (1, .int (nI q))], [.int (nI m), .int (nI q)], [])) rfl ?_
  refine y_sbt hC (q - m) rfl (by first | assumption | omega | rfl | trivial) (by first | rfl | omega) ?_
  refine y_steps hC 6 (σ' := (24, [(4, .int (nI (q - m))), (3, .int (nI q)), (2, .int (nI m)), (0, .ref a), (1, .int (nI q))], [.ref a, .int (nI 2), .int (nI m), .int (nI (q - m)), .int (nI m)], [])) rfl ?_
  refine y_get (k := 0) (ci := 7) (j := 1) hC rfl rfl rfl rfl (z_t3 (i := 211) rfl rfl) rfl ?_
  refine y_steps hC 0 (σ' := (27, [(4, .int (nI (q - m))), (3, .int (nI q)), (2, .int (nI m)), (0, .ref a), (1, .int (nI q))], [.int (nI 0), .int (nI 2), .int (nI m), .int (nI (q - m)), .int (nI m)], [])) rfl ?_
  refine y_one hC (σ' := (28, [(4, .int (nI (q - m))), (3, .int (nI q)), (2, .int (nI m)), (0, .ref a), (1, .int (nI q))], [.int (((nI 2) <<< (nI 0 &&& 31))), .int (nI m), .int (nI (q - m)), .int (nI m)], [])) rfl ?_
  rw [show (nI 2) <<< (nI 0 &&& 31) = nI 2 from sb_shl0 _]
  refine y_steps hC 0 (σ' := (28, [(4, .int (nI (q - m))), (3, .int (nI q)), (2, .int (nI m)), (0, .ref a), (1, .int (nI q))], [.int (nI 2), .int (nI m), .int (nI (q - m)), .int (nI m)], [])) rfl ?_
  refine y_add hC (m + 2) rfl (by first | rfl | omega) ?_
  refine y_steps hC 0 (σ' := (29, [(4, .int (nI (q - m))), (3, .int (nI q)), (2, .int (nI m)), (0, .ref a), (1, .int (nI q))], [.int (nI (m + 2)), .int (nI (q - m)), .int (nI m)], [])) rfl ?_
  refine y_callS (pc := 29) (st := []) (y := 138) (idx := 114) (w := ([] : va_W)) (wr := (a, .inr (7, [.ref v, .int (nI 0), .int (nI 0), .int (nI n)])) :: [(v, .inl (y_c ε 2, m, .inl f))]) (av := [.int (nI m), .int (nI (q - m)), .int (nI (m + 2))]) hC rfl rfl (z_t4 (i := 3) rfl rfl) (z_t4 (i := 4) rfl rfl) (z_t1 (i := 16) rfl rfl) (c_J8_newLength_cabcc (ol := m) (gr := q - m) (pr := m + 2) (by first | assumption | omega | rfl | trivial) (by first | assumption | omega | rfl | trivial) (by first | assumption | omega | rfl | trivial)) (show _ = some 3 from by decide +kernel) rfl rfl (by omega) (by omega) rfl (fun r_29 w_29 p_29 => ?_)
  obtain ⟨rfl, ew_29⟩ := p_29
  replace ew_29 := ew_29.symm
  subst ew_29
  refine y_steps hC 3 (σ' := (38, [(5, .int (nI (m + max (q - m) (m + 2)))), (4, .int (nI (q - m))), (3, .int (nI q)), (2, .int (nI m)), (0, .ref a), (1, .int (nI q))], [.int (nI 2147483647), .int (nI (m + max (q - m) (m + 2)))], [])) rfl ?_
  refine y_if hC (c := ¬ nI (m + max (q - m) (m + 2)) = nI 2147483647) rfl (fun c_38 => ?_) (fun c_38 => ?_)
  · skip
    rw [nI_eq (by omega) (by omega)] at c_38
    skip
    refine y_steps hC 2 (σ' := (54, [(5, .int (nI (m + max (q - m) (m + 2)))), (4, .int (nI (q - m))), (3, .int (nI q)), (2, .int (nI m)), (0, .ref a), (1, .int (nI q))], [.ref a, .int (nI (m + max (q - m) (m + 2)))], [])) rfl ?_
    refine y_get (k := 0) (ci := 7) (j := 1) hC rfl rfl rfl rfl (z_t3 (i := 211) rfl rfl) rfl ?_
    refine y_steps hC 0 (σ' := (57, [(5, .int (nI (m + max (q - m) (m + 2)))), (4, .int (nI (q - m))), (3, .int (nI q)), (2, .int (nI m)), (0, .ref a), (1, .int (nI q))], [.int (nI 0), .int (nI (m + max (q - m) (m + 2)))], [])) rfl ?_
    refine y_one hC (σ' := (58, [(5, .int (nI (m + max (q - m) (m + 2)))), (4, .int (nI (q - m))), (3, .int (nI q)), (2, .int (nI m)), (0, .ref a), (1, .int (nI q))], [.int (((nI (m + max (q - m) (m + 2))) >>> (nI 0 &&& 31)))], [])) rfl ?_
    rw [show (nI (m + max (q - m) (m + 2))) >>> (nI 0 &&& 31) = nI (m + max (q - m) (m + 2)) from sb_shr0 _]
    refine y_steps hC 0 (σ' := (58, [(5, .int (nI (m + max (q - m) (m + 2)))), (4, .int (nI (q - m))), (3, .int (nI q)), (2, .int (nI m)), (0, .ref a), (1, .int (nI q))], [.int (nI (m + max (q - m) (m + 2)))], [])) rfl ?_
    exact y_iret hC hT rfl rfl (by omega) (by omega) ⟨(by rfl), (by rfl)⟩
  · skip
    rw [nI_eq (by omega) (by omega)] at c_38
    replace c_38 := Decidable.not_not.mp c_38
    omega
set_option maxHeartbeats 4000000 in
set_option maxRecDepth 1000000 in
theorem c_J7_copyOf_9075b {ε : y_Ev} {f : Nat → Int32} {v : Nat} {k : Nat} {m : Nat} (hk : m < k) (hk2 : k ≤ 202) (hf : ∀ j, fits .byte (.int (f j)) = true) : y_C ε zmJ7_copyOf_9075b 2 81 1 202 [.ref v, .int (nI k)] ([(v, .inl (y_c ε 2, m, .inl f))]) (fun r w2 => ∃ (q : Nat), r = some (.ref q) ∧ w2 = (q, .inl (y_c ε 2, k, .inl (va_cpy f (fun _ => 0) 0 0 m))) :: [(v, .inl (y_c ε 2, m, .inl f))]) := by
  refine y_start (y := 134) rfl rfl (fun κ hC hT hN0 => ?_)
  refine y_steps hC 2 (σ' := (2, [(0, .ref v), (1, .int (nI k))], [.ref v, .int (nI k)], [])) rfl ?_
  refine y_alen hC 0 2 rfl rfl rfl ?_
  refine y_steps hC 0 (σ' := (3, [(0, .ref v), (1, .int (nI k))], [.int (nI m), .int (nI k)], [])) rfl ?_
  refine y_if hC (c := ¬ nI k = nI m) rfl (fun c_3 => ?_) (fun c_3 => ?_)
  · skip
    rw [nI_eq (by omega) (by omega)] at c_3
    skip
    refine y_steps hC 1 (σ' := (15, [(0, .ref v), (1, .int (nI k))], [.int (nI k)], [])) rfl ?_
    refine y_newa (n := k) (a0 := (k, .inl (fun _ => 0))) hC 2 (atype := .byte) (z_t3 (i := 223) rfl rfl) rfl (fun _ => rfl) (by omega) (by decide) (by omega) (by omega) rfl (fun q15 => ?_)
    refine y_steps hC 6 (σ' := (23, [(2, .ref q15), (0, .ref v), (1, .int (nI k))], [.ref v, .int (nI 0), .ref q15, .int (nI 0), .ref v], [])) rfl ?_
    refine y_alen hC 1 2 rfl rfl rfl ?_
    refine y_steps hC 1 (σ' := (25, [(2, .ref q15), (0, .ref v), (1, .int (nI k))], [.int (nI k), .int (nI m), .int (nI 0), .ref q15, .int (nI 0), .ref v], [])) rfl ?_
    refine y_callS (pc := 25) (st := [.int (nI 0), .ref q15, .int (nI 0), .ref v]) (y := 115) (idx := 304) (w := ([] : va_W)) (wr := (q15, .inl (y_c ε 2, k, .inl ((fun _ => 0)))) :: [(v, .inl (y_c ε 2, m, .inl f))]) (av := [.int (nI m), .int (nI k)]) hC rfl rfl (z_t4 (i := 22) rfl rfl) (z_t2 (i := 8) rfl rfl) (z_t1 (i := 9) rfl rfl) (c_J9_min_7cf53_y (a := m) (b := k) (by first | assumption | omega | rfl | trivial) (by first | assumption | omega | rfl | trivial)) (show _ = some 2 from by decide +kernel) rfl rfl (by omega) (by omega) rfl (fun r_25 w_25 p_25 => ?_)
    obtain ⟨rfl, ew_25⟩ := p_25
    replace ew_25 := ew_25.symm
    subst ew_25
    rw [show min m k = m from by omega]
    refine y_steps hC 0 (σ' := (28, [(2, .ref q15), (0, .ref v), (1, .int (nI k))], [.int (nI m), .int (nI 0), .ref q15, .int (nI 0), .ref v], [])) rfl ?_
    refine y_cpyb (k0 := 1) (k1 := 0) (ws2 := ((q15, .inl (y_c ε 2, k, .inl (va_cpy f ((fun _ => 0)) 0 0 m))) :: [(v, .inl (y_c ε 2, m, .inl f))])) hC rfl rfl rfl (z_t4 (i := 23) rfl rfl) (z_t2 (i := 37) rfl rfl) (z_t2 (i := 36) rfl rfl) (z_t1 (i := 8) rfl rfl) (by first | assumption | omega | rfl | trivial) (by first | assumption | omega | rfl | trivial) (by first | assumption | omega | rfl | trivial) (by first | assumption | omega | rfl | trivial) (by exact hf) (by decide) rfl rfl ?_
    refine y_steps hC 1 (σ' := (32, [(2, .ref q15), (0, .ref v), (1, .int (nI k))], [.ref q15], [])) rfl ?_
    exact y_aret hC hT rfl (Or.inr ⟨_, rfl⟩) rfl (by omega) (by omega) ⟨q15, rfl, (by rfl)⟩
  · skip
    rw [nI_eq (by omega) (by omega)] at c_3
    replace c_3 := Decidable.not_not.mp c_3
    omega
set_option maxHeartbeats 4000000 in
set_option maxRecDepth 1000000 in
theorem c_J5_ensureCapacityInternal_d00df {ε : y_Ev} {f : Nat → Int32} {a : Nat} {q : Nat} {v : Nat} {n : Nat} {m : Nat} (hq : q ≤ 100) (hm : m ≤ 202) (hf : ∀ j, fits .byte (.int (f j)) = true) : y_C ε zmJ5_ensureCapacityInternal_d00df 4 129 1 202 [.ref a, .int (nI q)] ((a, .inr (7, [.ref v, .int (nI 0), .int (nI 0), .int (nI n)])) :: [(v, .inl (y_c ε 2, m, .inl f))]) (fun r w2 => ∃ (v2 : Nat) (m2 : Nat) (f2 : Nat → Int32), r = none ∧ w2 = (a, .inr (7, [.ref v2, .int (nI 0), .int (nI 0), .int (nI n)])) :: [(v2, .inl (y_c ε 2, m2, .inl f2))] ∧ (q ≤ m2 ∧ m ≤ m2 ∧ m2 ≤ 202 ∧ (∀ j, j < m → f2 j = f j) ∧ ∀ j, fits .byte (.int (f2 j)) = true)) := by
  refine y_start (y := 102) rfl rfl (fun κ hC hT hN0 => ?_)
  refine y_steps hC 1 (σ' := (1, [(0, .ref a), (1, .int (nI q))], [.ref a], [])) rfl ?_
  refine y_get (k := 0) (ci := 7) (j := 0) hC rfl rfl rfl rfl (z_t3 (i := 210) rfl rfl) rfl ?_
  refine y_steps hC 0 (σ' := (4, [(0, .ref a), (1, .int (nI q))], [.ref v], [])) rfl ?_
  refine y_alen hC 1 2 rfl rfl rfl ?_
  refine y_steps hC 1 (σ' := (6, [(0, .ref a), (1, .int (nI q))], [.ref a, .int (nI m)], [])) rfl ?_
  refine y_get (k := 0) (ci := 7) (j := 1) hC rfl rfl rfl rfl (z_t3 (i := 211) rfl rfl) rfl ?_
  refine y_steps hC 0 (σ' := (9, [(0, .ref a), (1, .int (nI q))], [.int (nI 0), .int (nI m)], [])) rfl ?_
  refine y_one hC (σ' := (10, [(0, .ref a), (1, .int (nI q))], [.int (((nI m) >>> (nI 0 &&& 31)))], [])) rfl ?_
  rw [show (nI m) >>> (nI 0 &&& 31) = nI m from sb_shr0 _]
  refine y_steps hC 4 (σ' := (14, [(2, .int (nI m)), (0, .ref a), (1, .int (nI q))], [.int (((nI q) - (nI m)))], [])) rfl ?_
  refine y_if hC (c := ((nI q) - (nI m)) ≤ 0) rfl (fun c_14 => ?_) (fun c_14 => ?_)
  · skip
    have g14 : q ≤ m := (y_subLe (by omega) (by omega)).mp c_14
    refine y_steps hC 0 (σ' := (38, [(2, .int (nI m)), (0, .ref a), (1, .int (nI q))], [], [])) rfl ?_
    exact y_vret hC hT rfl rfl (by omega) (by omega) ⟨v, m, f, rfl, (by rfl), (by first | exact ⟨g14, Nat.le_refl _, hm, fun _ _ => rfl, hf⟩ | exact ⟨by omega, by omega, by omega, fun j hj => y_cpy0 hj, sb_fitC hf sb_fit0⟩)⟩
  · skip
    have g14 : ¬ q ≤ m := fun z => c_14 ((y_subLe (by omega) (by omega)).mpr z)
    refine y_steps hC 2 (σ' := (19, [(2, .int (nI m)), (0, .ref a), (1, .int (nI q))], [.ref a, .ref a], [])) rfl ?_
    refine y_get (k := 0) (ci := 7) (j := 0) hC rfl rfl rfl rfl (z_t3 (i := 210) rfl rfl) rfl ?_
    refine y_steps hC 2 (σ' := (24, [(2, .int (nI m)), (0, .ref a), (1, .int (nI q))], [.int (nI q), .ref a, .ref v, .ref a], [])) rfl ?_
    refine y_callU (b := a) (C := "java/lang/StringBuilder") (x := ⟨"java/lang/AbstractStringBuilder", "newCapacity", "(I)I"⟩) (pc := 24) (st := [.ref v, .ref a]) (y := 103) (idx := 104) (w := (a, .inr (7, [.ref v, .int (nI 0), .int (nI 0), .int (nI n)])) :: [(v, .inl (y_c ε 2, m, .inl f))]) (wr := ([] : va_W)) (av := [.int (nI q)]) hC rfl rfl rfl (z_t3 (i := 239) rfl rfl) (z_t4 (i := 203) rfl rfl) (y_selM (y := yJ5_newCapacity_0f7a4) (by simp [y_prv]) rfl) (z_t4 (i := 1) rfl rfl) (z_t1 (i := 12) rfl rfl) (fun H locs hP hS => y_rW (ci := 7) (k := 0) hC rfl rfl H locs hP hS) (c_J5_newCapacity_0f7a4 (f := f) (a := a) (q := q) (v := v) (n := n) (m := m) (by first | assumption | omega | rfl | trivial) (by first | assumption | omega | rfl | trivial) (by first | assumption | omega | rfl | trivial)) (show _ = some 1 from by decide +kernel) rfl rfl (by omega) (by omega) rfl (fun r_24 w_24 p_24 => ?_)
    obtain ⟨rfl, ew_24⟩ := p_24
    replace ew_24 := ew_24.symm
    subst ew_24
    refine y_steps hC 1 (σ' := (28, [(2, .int (nI m)), (0, .ref a), (1, .int (nI q))], [.ref a, .int (nI (m + max (q - m) (m + 2))), .ref v, .ref a], [])) rfl ?_
    refine y_get (k := 0) (ci := 7) (j := 1) hC rfl rfl rfl rfl (z_t3 (i := 211) rfl rfl) rfl ?_
    refine y_steps hC 0 (σ' := (31, [(2, .int (nI m)), (0, .ref a), (1, .int (nI q))], [.int (nI 0), .int (nI (m + max (q - m) (m + 2))), .ref v, .ref a], [])) rfl ?_
    refine y_one hC (σ' := (32, [(2, .int (nI m)), (0, .ref a), (1, .int (nI q))], [.int (((nI (m + max (q - m) (m + 2))) <<< (nI 0 &&& 31))), .ref v, .ref a], [])) rfl ?_
    rw [show (nI (m + max (q - m) (m + 2))) <<< (nI 0 &&& 31) = nI (m + max (q - m) (m + 2)) from sb_shl0 _]
    refine y_steps hC 0 (σ' := (32, [(2, .int (nI m)), (0, .ref a), (1, .int (nI q))], [.int (nI (m + max (q - m) (m + 2))), .ref v, .ref a], [])) rfl ?_
    refine y_mv [[(a, .inr (7, [.ref v, .int (nI 0), .int (nI 0), .int (nI n)]))]] ([(v, .inl (y_c ε 2, m, .inl f))]) [] ?_
    refine y_callS (pc := 32) (st := [.ref a]) (y := 134) (idx := 108) (w := [(v, .inl (y_c ε 2, m, .inl f))]) (wr := [(a, .inr (7, [.ref v, .int (nI 0), .int (nI 0), .int (nI n)]))]) (av := [.ref v, .int (nI (m + max (q - m) (m + 2)))]) hC rfl rfl (z_t4 (i := 12) rfl rfl) (z_t4 (i := 13) rfl rfl) (z_t1 (i := 3) rfl rfl) (c_J7_copyOf_9075b (f := f) (v := v) (k := m + max (q - m) (m + 2)) (m := m) (by first | assumption | omega | rfl | trivial) (by first | assumption | omega | rfl | trivial) (by exact hf)) (show _ = some 2 from by decide +kernel) rfl rfl (by omega) (by omega) rfl (fun r_32 w_32 p_32 => ?_)
    obtain ⟨q_32, rfl, ew_32⟩ := p_32
    replace ew_32 := ew_32.symm
    subst ew_32
    refine y_steps hC 0 (σ' := (35, [(2, .int (nI m)), (0, .ref a), (1, .int (nI q))], [.ref q_32, .ref a], [])) rfl ?_
    refine y_put (k := 2) (ci := 7) (j := 0) (ty := .array .byte) (ws2 := ((q_32, .inl (y_c ε 2, m + max (q - m) (m + 2), .inl (va_cpy f (fun _ => 0) 0 0 m))) :: ((v, .inl (y_c ε 2, m, .inl f)) :: ([(a, .inr (7, [.ref q_32, .int (nI 0), .int (nI 0), .int (nI n)]))])))) hC rfl rfl rfl rfl (z_t3 (i := 210) rfl rfl) rfl (by decide +kernel) (by rfl) (by rfl) rfl rfl ?_
    refine y_steps hC 0 (σ' := (38, [(2, .int (nI m)), (0, .ref a), (1, .int (nI q))], [], [])) rfl ?_
    refine y_mv [[(q_32, .inl (y_c ε 2, m + max (q - m) (m + 2), .inl (va_cpy f (fun _ => 0) 0 0 m)))], [(v, .inl (y_c ε 2, m, .inl f))]] ([(a, .inr (7, [.ref q_32, .int (nI 0), .int (nI 0), .int (nI n)]))]) [] ?_
    refine y_mv [[(a, .inr (7, [.ref q_32, .int (nI 0), .int (nI 0), .int (nI n)]))], [(q_32, .inl (y_c ε 2, m + max (q - m) (m + 2), .inl (va_cpy f (fun _ => 0) 0 0 m)))]] ([(v, .inl (y_c ε 2, m, .inl f))]) [] ?_
    refine y_drp ([(v, .inl (y_c ε 2, m, .inl f))]) [[(a, .inr (7, [.ref q_32, .int (nI 0), .int (nI 0), .int (nI n)]))], [(q_32, .inl (y_c ε 2, m + max (q - m) (m + 2), .inl (va_cpy f (fun _ => 0) 0 0 m)))]] ?_
    exact y_vret hC hT rfl rfl (by omega) (by omega) ⟨q_32, (m + max (q - m) (m + 2)), (va_cpy f (fun _ => 0) 0 0 m), rfl, (by rfl), (by first | exact ⟨g14, Nat.le_refl _, hm, fun _ _ => rfl, hf⟩ | exact ⟨by omega, by omega, by omega, fun j hj => y_cpy0 hj, sb_fitC hf sb_fit0⟩)⟩
set_option maxHeartbeats 4000000 in
set_option maxRecDepth 1000000 in
theorem c_J0_coder_7d493 {ε : y_Ev} {t_a : Nat} {t_v : Nat} {t_f : Nat → Int32} {t_L : List Nat} {t_B : va_W} (h_t : y_Tv ε t_a t_v t_f t_L t_B) : y_C ε zmJ0_coder_7d493 1 60 0 0 [.ref t_a] (t_B) (fun r w2 => r = some (.int (nI 0)) ∧ w2 = t_B) := by
  refine y_start (y := 122) rfl rfl (fun κ hC hT hN0 => ?_)
  refine y_steps hC 0 (σ' := (0, [(0, .ref t_a)], [], [])) rfl ?_
  refine y_gsC hC rfl (z_t3 (i := 143) rfl rfl) ?_
  refine y_steps hC 2 (σ' := (7, [(0, .ref t_a)], [.ref t_a], [])) rfl ?_
  refine y_tcod hC h_t (X := []) (k := 0) rfl rfl (z_t4 (i := 153) rfl rfl) ?_
  refine y_steps hC 1 (σ' := (14, [(0, .ref t_a)], [.int (nI 0)], [])) rfl ?_
  exact y_zret hC hT rfl (Or.inr (Or.inl rfl)) (by rfl) rfl (by omega) (by omega) ⟨(by rfl), (by rfl)⟩
set_option maxHeartbeats 4000000 in
set_option maxRecDepth 1000000 in
theorem c_J0_isLatin1_aae02 {ε : y_Ev} {t_a : Nat} {t_v : Nat} {t_f : Nat → Int32} {t_L : List Nat} {t_B : va_W} (h_t : y_Tv ε t_a t_v t_f t_L t_B) : y_C ε zmJ0_isLatin1_aae02 1 60 0 0 [.ref t_a] (t_B) (fun r w2 => r = some (.int (nI 1)) ∧ w2 = t_B) := by
  refine y_start (y := 123) rfl rfl (fun κ hC hT hN0 => ?_)
  refine y_steps hC 0 (σ' := (0, [(0, .ref t_a)], [], [])) rfl ?_
  refine y_gsC hC rfl (z_t3 (i := 143) rfl rfl) ?_
  refine y_steps hC 2 (σ' := (7, [(0, .ref t_a)], [.ref t_a], [])) rfl ?_
  refine y_tcod hC h_t (X := []) (k := 0) rfl rfl (z_t4 (i := 153) rfl rfl) ?_
  refine y_steps hC 3 (σ' := (18, [(0, .ref t_a)], [.int (nI 1)], [])) rfl ?_
  exact y_zret hC hT rfl (Or.inl rfl) (by rfl) rfl (by omega) (by omega) ⟨(by rfl), (by rfl)⟩
set_option maxHeartbeats 4000000 in
set_option maxRecDepth 1000000 in
theorem c_J0_length_8abf5 {ε : y_Ev} {t_a : Nat} {t_v : Nat} {t_f : Nat → Int32} {t_L : List Nat} {t_B : va_W} (h_t : y_Tv ε t_a t_v t_f t_L t_B) : y_C ε zmJ0_length_8abf5 2 80 0 0 [.ref t_a] (t_B) (fun r w2 => r = some (.int (nI t_L.length)) ∧ w2 = t_B) := by
  refine y_start (y := 118) rfl rfl (fun κ hC hT hN0 => ?_)
  refine y_steps hC 1 (σ' := (1, [(0, .ref t_a)], [.ref t_a], [])) rfl ?_
  refine y_tval hC h_t (X := []) (k := 0) rfl rfl (z_t4 (i := 152) rfl rfl) ?_
  refine y_steps hC 0 (σ' := (4, [(0, .ref t_a)], [.ref t_v], [])) rfl ?_
  refine y_tlen hC h_t (X := []) (k := 0) rfl rfl ?_
  refine y_steps hC 1 (σ' := (6, [(0, .ref t_a)], [.ref t_a, .int (nI t_L.length)], [])) rfl ?_
  refine y_spl [t_B] [] ?_
  refine y_callV (b := t_a) (pc := 6) (st := [.int (nI t_L.length)]) (y := 122) (idx := 335) (w := y_J [t_B]) (wr := y_J []) (av := []) hC rfl rfl rfl (z_t3 (i := 139) rfl rfl) (z_t3 (i := 140) rfl rfl) (z_t3 (i := 141) rfl rfl) (z_t1 (i := 14) rfl rfl) (fun H locs hP hS => y_trec hC h_t (X := y_J []) (hP) hS) (c_J0_coder_7d493 (t_a := t_a) (t_v := t_v) (t_f := t_f) (t_L := t_L) (t_B := t_B) h_t) (show _ = some 0 from by decide +kernel) rfl rfl (by omega) (by omega) rfl (fun r_6 w_6 p_6 => ?_)
  obtain ⟨rfl, ew_6⟩ := p_6
  replace ew_6 := ew_6.symm
  subst ew_6
  refine y_cmb [t_B] [] ?_
  refine y_steps hC 0 (σ' := (9, [(0, .ref t_a)], [.int (nI 0), .int (nI t_L.length)], [])) rfl ?_
  refine y_one hC (σ' := (10, [(0, .ref t_a)], [.int (((nI t_L.length) >>> (nI 0 &&& 31)))], [])) rfl ?_
  rw [show (nI t_L.length) >>> (nI 0 &&& 31) = nI t_L.length from sb_shr0 _]
  refine y_steps hC 0 (σ' := (10, [(0, .ref t_a)], [.int (nI t_L.length)], [])) rfl ?_
  exact y_iret hC hT rfl rfl (by omega) (by omega) ⟨(by rfl), (by rfl)⟩
set_option maxHeartbeats 4000000 in
set_option maxRecDepth 1000000 in
theorem c_J3_checkIndex_8e157_n {ε : y_Ev} {i : Nat} {n : Nat} (hi : i < n) (hn : n < 2 ^ 31) : y_C ε zmJ3_checkIndex_8e157 1 60 0 0 [.int (nI i), .int (nI n), .null] (([] : va_W)) (fun r w2 => r = some (.int (nI i)) ∧ w2 = ([] : va_W)) := by
  refine y_start (y := 139) rfl rfl (fun κ hC hT hN0 => ?_)
  refine y_steps hC 1 (σ' := (1, [(0, .int (nI i)), (1, .int (nI n)), (2, .null)], [.int (nI i)], [])) rfl ?_
  refine y_ifF hC (c := nI i < 0) rfl (nI_pos (by omega)) ?_
  refine y_steps hC 2 (σ' := (6, [(0, .int (nI i)), (1, .int (nI n)), (2, .null)], [.int (nI n), .int (nI i)], [])) rfl ?_
  refine y_if hC (c := nI i < nI n) rfl (fun c_6 => ?_) (fun c_6 => ?_)
  · skip
    rw [nI_ltI (by omega) (by omega)] at c_6
    refine y_steps hC 1 (σ' := (17, [(0, .int (nI i)), (1, .int (nI n)), (2, .null)], [.int (nI i)], [])) rfl ?_
    exact y_iret hC hT rfl rfl (by omega) (by omega) ⟨(by rfl), (by rfl)⟩
  · skip
    rw [nI_ltI (by omega) (by omega)] at c_6
    omega
set_option maxHeartbeats 4000000 in
set_option maxRecDepth 1000000 in
theorem c_J3_checkIndex_8e157_r {ε : y_Ev} {i : Nat} {n : Nat} {fm : Nat} (hi : i < n) (hn : n < 2 ^ 31) : y_C ε zmJ3_checkIndex_8e157 1 60 0 0 [.int (nI i), .int (nI n), .ref fm] (([] : va_W)) (fun r w2 => r = some (.int (nI i)) ∧ w2 = ([] : va_W)) := by
  refine y_start (y := 139) rfl rfl (fun κ hC hT hN0 => ?_)
  refine y_steps hC 1 (σ' := (1, [(0, .int (nI i)), (1, .int (nI n)), (2, .ref fm)], [.int (nI i)], [])) rfl ?_
  refine y_ifF hC (c := nI i < 0) rfl (nI_pos (by omega)) ?_
  refine y_steps hC 2 (σ' := (6, [(0, .int (nI i)), (1, .int (nI n)), (2, .ref fm)], [.int (nI n), .int (nI i)], [])) rfl ?_
  refine y_if hC (c := nI i < nI n) rfl (fun c_6 => ?_) (fun c_6 => ?_)
  · skip
    rw [nI_ltI (by omega) (by omega)] at c_6
    refine y_steps hC 1 (σ' := (17, [(0, .int (nI i)), (1, .int (nI n)), (2, .ref fm)], [.int (nI i)], [])) rfl ?_
    exact y_iret hC hT rfl rfl (by omega) (by omega) ⟨(by rfl), (by rfl)⟩
  · skip
    rw [nI_ltI (by omega) (by omega)] at c_6
    omega
set_option maxHeartbeats 4000000 in
set_option maxRecDepth 1000000 in
theorem c_J0_checkIndex_df160 {ε : y_Ev} {i : Nat} {n : Nat} (hi : i < n) (hn : n < 2 ^ 31) : y_C ε zmJ0_checkIndex_df160 2 82 0 0 [.int (nI i), .int (nI n)] (([] : va_W)) (fun r w2 => r = none ∧ w2 = ([] : va_W)) := by
  refine y_start (y := 124) rfl rfl (fun κ hC hT hN0 => ?_)
  refine y_steps hC 2 (σ' := (2, [(0, .int (nI i)), (1, .int (nI n))], [.int (nI n), .int (nI i)], [])) rfl ?_
  refine y_gsF hC rfl (z_t3 (i := 159) rfl rfl) ?_ (fun fm => ?_)
  · skip
    refine y_steps hC 0 (σ' := (5, [(0, .int (nI i)), (1, .int (nI n))], [.null, .int (nI n), .int (nI i)], [])) rfl ?_
    refine y_callS (pc := 5) (st := []) (y := 139) (idx := 1059) (w := ([] : va_W)) (wr := ([] : va_W)) (av := [.int (nI i), .int (nI n), .null]) hC rfl rfl (z_t3 (i := 161) rfl rfl) (z_t3 (i := 162) rfl rfl) (z_t1 (i := 17) rfl rfl) (c_J3_checkIndex_8e157_n (i := i) (n := n) (by first | assumption | omega | rfl | trivial) (by first | assumption | omega | rfl | trivial)) (show _ = some 3 from by decide +kernel) rfl rfl (by omega) (by omega) rfl (fun r_5 w_5 p_5 => ?_)
    obtain ⟨rfl, ew_5⟩ := p_5
    replace ew_5 := ew_5.symm
    subst ew_5
    refine y_steps hC 1 (σ' := (9, [(0, .int (nI i)), (1, .int (nI n))], [], [])) rfl ?_
    exact y_vret hC hT rfl rfl (by omega) (by omega) ⟨rfl, (by rfl)⟩
  · skip
    refine y_steps hC 0 (σ' := (5, [(0, .int (nI i)), (1, .int (nI n))], [.ref fm, .int (nI n), .int (nI i)], [])) rfl ?_
    refine y_callS (pc := 5) (st := []) (y := 139) (idx := 1059) (w := ([] : va_W)) (wr := ([] : va_W)) (av := [.int (nI i), .int (nI n), .ref fm]) hC rfl rfl (z_t3 (i := 161) rfl rfl) (z_t3 (i := 162) rfl rfl) (z_t1 (i := 17) rfl rfl) (c_J3_checkIndex_8e157_r (i := i) (n := n) (fm := fm) (by first | assumption | omega | rfl | trivial) (by first | assumption | omega | rfl | trivial)) (show _ = some 3 from by decide +kernel) rfl rfl (by omega) (by omega) rfl (fun r_5 w_5 p_5 => ?_)
    obtain ⟨rfl, ew_5⟩ := p_5
    replace ew_5 := ew_5.symm
    subst ew_5
    refine y_steps hC 1 (σ' := (9, [(0, .int (nI i)), (1, .int (nI n))], [], [])) rfl ?_
    exact y_vret hC hT rfl rfl (by omega) (by omega) ⟨rfl, (by rfl)⟩
set_option maxHeartbeats 4000000 in
set_option maxRecDepth 1000000 in
theorem c_J1_charAt_3b067 {ε : y_Ev} {t_a : Nat} {t_v : Nat} {t_f : Nat → Int32} {t_L : List Nat} {t_B : va_W} {i : Nat} (h_t : y_Tv ε t_a t_v t_f t_L t_B) (hi : i < t_L.length) : y_C ε zmJ1_charAt_3b067 3 103 0 0 [.ref t_v, .int (nI i)] (t_B) (fun r w2 => r = some (.int (nI (t_L.getD i 0))) ∧ w2 = t_B) := by
  have hc := y_Tc h_t hi; have h200 := h_t.2.2.2
  refine y_start (y := 131) rfl rfl (fun κ hC hT hN0 => ?_)
  refine y_steps hC 2 (σ' := (2, [(0, .ref t_v), (1, .int (nI i))], [.ref t_v, .int (nI i)], [])) rfl ?_
  refine y_tlen hC h_t (X := []) (k := 0) rfl rfl ?_
  refine y_steps hC 0 (σ' := (3, [(0, .ref t_v), (1, .int (nI i))], [.int (nI t_L.length), .int (nI i)], [])) rfl ?_
  refine y_spl [] [t_B] ?_
  refine y_callS (pc := 3) (st := []) (y := 124) (idx := 9) (w := y_J []) (wr := y_J [t_B]) (av := [.int (nI i), .int (nI t_L.length)]) hC rfl rfl (z_t3 (i := 156) rfl rfl) (z_t3 (i := 157) rfl rfl) (z_t1 (i := 14) rfl rfl) (c_J0_checkIndex_df160 (i := i) (n := t_L.length) (by first | assumption | omega | rfl | trivial) (by first | assumption | omega | rfl | trivial)) (show _ = some 2 from by decide +kernel) rfl rfl (by omega) (by omega) rfl (fun r_3 w_3 p_3 => ?_)
  obtain ⟨rfl, ew_3⟩ := p_3
  replace ew_3 := ew_3.symm
  subst ew_3
  refine y_cmb [] [t_B] ?_
  refine y_steps hC 2 (σ' := (8, [(0, .ref t_v), (1, .int (nI i))], [.int (nI i), .ref t_v], [])) rfl ?_
  refine y_tbal hC h_t (X := []) (k := 0) rfl rfl (by first | assumption | omega | rfl | trivial) ?_
  refine y_steps hC 1 (σ' := (12, [(0, .ref t_v), (1, .int (nI i))], [.int (nI 255), .int (nI (t_L.getD i 0))], [])) rfl ?_
  have ey_12 : ((nI (t_L.getD i 0)) &&& (nI 255)) = nI (t_L.getD i 0) := y_and255 _ (by omega)
  refine y_one hC (σ' := (13, [(0, .ref t_v), (1, .int (nI i))], [.int (((nI (t_L.getD i 0)) &&& (nI 255)))], [])) rfl ?_
  rw [ey_12]
  refine y_steps hC 0 (σ' := (13, [(0, .ref t_v), (1, .int (nI i))], [.int (nI (t_L.getD i 0))], [])) rfl ?_
  refine y_i2c hC rfl (by omega) ?_
  refine y_steps hC 0 (σ' := (14, [(0, .ref t_v), (1, .int (nI i))], [.int (nI (t_L.getD i 0))], [])) rfl ?_
  exact y_zret hC hT rfl (Or.inr (Or.inr rfl)) (by exact (pk_charN (by omega)).1) rfl (by omega) (by omega) ⟨(by rfl), (by rfl)⟩
set_option maxHeartbeats 4000000 in
set_option maxRecDepth 1000000 in
theorem c_J0_charAt_5068e {ε : y_Ev} {t_a : Nat} {t_v : Nat} {t_f : Nat → Int32} {t_L : List Nat} {t_B : va_W} {i : Nat} (h_t : y_Tv ε t_a t_v t_f t_L t_B) (hi : i < t_L.length) : y_C ε zmJ0_charAt_5068e 4 124 0 0 [.ref t_a, .int (nI i)] (t_B) (fun r w2 => r = some (.int (nI (t_L.getD i 0))) ∧ w2 = t_B) := by
  have hc := y_Tc h_t hi
  refine y_start (y := 119) rfl rfl (fun κ hC hT hN0 => ?_)
  refine y_steps hC 1 (σ' := (1, [(0, .ref t_a), (1, .int (nI i))], [.ref t_a], [])) rfl ?_
  refine y_spl [t_B] [] ?_
  refine y_callV (b := t_a) (pc := 1) (st := []) (y := 123) (idx := 492) (w := y_J [t_B]) (wr := y_J []) (av := []) hC rfl rfl rfl (z_t3 (i := 149) rfl rfl) (z_t3 (i := 150) rfl rfl) (z_t3 (i := 151) rfl rfl) (z_t1 (i := 14) rfl rfl) (fun H locs hP hS => y_trec hC h_t (X := y_J []) (hP) hS) (c_J0_isLatin1_aae02 (t_a := t_a) (t_v := t_v) (t_f := t_f) (t_L := t_L) (t_B := t_B) h_t) (show _ = some 0 from by decide +kernel) rfl rfl (by omega) (by omega) rfl (fun r_1 w_1 p_1 => ?_)
  obtain ⟨rfl, ew_1⟩ := p_1
  replace ew_1 := ew_1.symm
  subst ew_1
  refine y_cmb [t_B] [] ?_
  refine y_steps hC 2 (σ' := (8, [(0, .ref t_a), (1, .int (nI i))], [.ref t_a], [])) rfl ?_
  refine y_tval hC h_t (X := []) (k := 0) rfl rfl (z_t4 (i := 152) rfl rfl) ?_
  refine y_steps hC 1 (σ' := (12, [(0, .ref t_a), (1, .int (nI i))], [.int (nI i), .ref t_v], [])) rfl ?_
  refine y_spl [t_B] [] ?_
  refine y_callS (pc := 12) (st := []) (y := 131) (idx := 495) (w := y_J [t_B]) (wr := y_J []) (av := [.ref t_v, .int (nI i)]) hC rfl rfl (z_t3 (i := 153) rfl rfl) (z_t3 (i := 154) rfl rfl) (z_t1 (i := 18) rfl rfl) (c_J1_charAt_3b067 (t_a := _) (t_v := t_v) (t_f := t_f) (t_L := t_L) (t_B := t_B) (i := i) h_t (by first | assumption | omega | rfl | trivial)) (show _ = some 2 from by decide +kernel) rfl rfl (by omega) (by omega) rfl (fun r_12 w_12 p_12 => ?_)
  obtain ⟨rfl, ew_12⟩ := p_12
  replace ew_12 := ew_12.symm
  subst ew_12
  refine y_cmb [t_B] [] ?_
  refine y_steps hC 0 (σ' := (15, [(0, .ref t_a), (1, .int (nI i))], [.int (nI (t_L.getD i 0))], [])) rfl ?_
  exact y_zret hC hT rfl (Or.inr (Or.inr rfl)) (by exact (pk_charN (by omega)).1) rfl (by omega) (by omega) ⟨(by rfl), (by rfl)⟩
set_option maxHeartbeats 4000000 in
set_option maxRecDepth 1000000 in
theorem c_J0_getBytes_840e7 {ε : y_Ev} {g : Nat → Int32} {t_a : Nat} {t_v : Nat} {t_f : Nat → Int32} {t_L : List Nat} {t_B : va_W} {d : Nat} {dp : Nat} {m : Nat} (h_t : y_Tv ε t_a t_v t_f t_L t_B) (hd : dp + t_L.length ≤ m) (hm : m ≤ 1000) : y_C ε zmJ0_getBytes_840e7 2 80 0 0 [.ref t_a, .ref d, .int (nI dp), .int (nI 0)] ((d, .inl (y_c ε 2, m, .inl g)) :: t_B) (fun r w2 => r = none ∧ w2 = (d, .inl (y_c ε 2, m, .inl (va_cpy t_f g 0 dp t_L.length))) :: t_B) := by
  refine y_start (y := 120) rfl rfl (fun κ hC hT hN0 => ?_)
  refine y_steps hC 1 (σ' := (1, [(0, .ref t_a), (1, .ref d), (2, .int (nI dp)), (3, .int (nI 0))], [.ref t_a], [])) rfl ?_
  refine y_mv [[(d, .inl (y_c ε 2, m, .inl g))]] (t_B) [] ?_
  refine y_spl [t_B] [[(d, .inl (y_c ε 2, m, .inl g))]] ?_
  refine y_callV (b := t_a) (pc := 1) (st := []) (y := 122) (idx := 335) (w := y_J [t_B]) (wr := y_J [[(d, .inl (y_c ε 2, m, .inl g))]]) (av := []) hC rfl rfl rfl (z_t3 (i := 139) rfl rfl) (z_t3 (i := 140) rfl rfl) (z_t3 (i := 141) rfl rfl) (z_t1 (i := 14) rfl rfl) (fun H locs hP hS => y_trec hC h_t (X := y_J [[(d, .inl (y_c ε 2, m, .inl g))]]) (hP) hS) (c_J0_coder_7d493 (t_a := t_a) (t_v := t_v) (t_f := t_f) (t_L := t_L) (t_B := t_B) h_t) (show _ = some 0 from by decide +kernel) rfl rfl (by omega) (by omega) rfl (fun r_1 w_1 p_1 => ?_)
  obtain ⟨rfl, ew_1⟩ := p_1
  replace ew_1 := ew_1.symm
  subst ew_1
  refine y_cmb [t_B] [[(d, .inl (y_c ε 2, m, .inl g))]] ?_
  refine y_steps hC 3 (σ' := (9, [(0, .ref t_a), (1, .ref d), (2, .int (nI dp)), (3, .int (nI 0))], [.ref t_a], [])) rfl ?_
  refine y_mv [t_B] ([(d, .inl (y_c ε 2, m, .inl g))]) [] ?_
  refine y_tval hC h_t (X := [(d, .inl (y_c ε 2, m, .inl g))]) (k := 1) rfl rfl (z_t4 (i := 152) rfl rfl) ?_
  refine y_steps hC 4 (σ' := (16, [(0, .ref t_a), (1, .ref d), (2, .int (nI dp)), (3, .int (nI 0))], [.int (nI 0), .int (nI dp), .ref d, .int (nI 0), .ref t_v], [])) rfl ?_
  refine y_one hC (σ' := (17, [(0, .ref t_a), (1, .ref d), (2, .int (nI dp)), (3, .int (nI 0))], [.int (((nI dp) <<< (nI 0 &&& 31))), .ref d, .int (nI 0), .ref t_v], [])) rfl ?_
  rw [show (nI dp) <<< (nI 0 &&& 31) = nI dp from sb_shl0 _]
  refine y_steps hC 1 (σ' := (18, [(0, .ref t_a), (1, .ref d), (2, .int (nI dp)), (3, .int (nI 0))], [.ref t_a, .int (nI dp), .ref d, .int (nI 0), .ref t_v], [])) rfl ?_
  refine y_tval hC h_t (X := [(d, .inl (y_c ε 2, m, .inl g))]) (k := 1) rfl rfl (z_t4 (i := 152) rfl rfl) ?_
  refine y_steps hC 0 (σ' := (21, [(0, .ref t_a), (1, .ref d), (2, .int (nI dp)), (3, .int (nI 0))], [.ref t_v, .int (nI dp), .ref d, .int (nI 0), .ref t_v], [])) rfl ?_
  refine y_tlen hC h_t (X := [(d, .inl (y_c ε 2, m, .inl g))]) (k := 1) rfl rfl ?_
  refine y_steps hC 0 (σ' := (22, [(0, .ref t_a), (1, .ref d), (2, .int (nI dp)), (3, .int (nI 0))], [.int (nI t_L.length), .int (nI dp), .ref d, .int (nI 0), .ref t_v], [])) rfl ?_
  refine y_tcpy (k := 0) (X := [(d, .inl (y_c ε 2, m, .inl g))]) (ws2 := [(d, .inl (y_c ε 2, m, .inl (va_cpy t_f g 0 dp t_L.length)))]) hC h_t 0 rfl rfl (z_t4 (i := 77) rfl rfl) (z_t2 (i := 37) rfl rfl) (z_t2 (i := 36) rfl rfl) (z_t1 (i := 8) rfl rfl) (by first | assumption | omega | rfl | trivial) (by omega) (by decide) rfl rfl ?_
  refine y_steps hC 1 (σ' := (43, [(0, .ref t_a), (1, .ref d), (2, .int (nI dp)), (3, .int (nI 0))], [], [])) rfl ?_
  exact y_vret hC hT rfl rfl (by omega) (by omega) ⟨rfl, (by rfl)⟩
set_option maxHeartbeats 4000000 in
set_option maxRecDepth 1000000 in
theorem c_J5_inflateIfNeededFor_a7421 {ε : y_Ev} {a : Nat} {t_a : Nat} {t_v : Nat} {t_f : Nat → Int32} {t_L : List Nat} {t_B : va_W} {v : Nat} {n : Nat} (h_t : y_Tv ε t_a t_v t_f t_L t_B) : y_C ε zmJ5_inflateIfNeededFor_a7421 2 80 0 0 [.ref a, .ref t_a] ((a, .inr (7, [.ref v, .int (nI 0), .int (nI 0), .int (nI n)])) :: t_B) (fun r w2 => r = none ∧ w2 = (a, .inr (7, [.ref v, .int (nI 0), .int (nI 0), .int (nI n)])) :: t_B) := by
  refine y_start (y := 109) rfl rfl (fun κ hC hT hN0 => ?_)
  refine y_steps hC 0 (σ' := (0, [(0, .ref a), (1, .ref t_a)], [], [])) rfl ?_
  refine y_gsC hC rfl (z_t3 (i := 202) rfl rfl) ?_
  refine y_steps hC 2 (σ' := (7, [(0, .ref a), (1, .ref t_a)], [.ref a], [])) rfl ?_
  refine y_get (k := 0) (ci := 7) (j := 1) hC rfl rfl rfl rfl (z_t3 (i := 211) rfl rfl) rfl ?_
  refine y_steps hC 1 (σ' := (11, [(0, .ref a), (1, .ref t_a)], [.ref t_a, .int (nI 0)], [])) rfl ?_
  refine y_mv [[(a, .inr (7, [.ref v, .int (nI 0), .int (nI 0), .int (nI n)]))]] (t_B) [] ?_
  refine y_spl [t_B] [[(a, .inr (7, [.ref v, .int (nI 0), .int (nI 0), .int (nI n)]))]] ?_
  refine y_callV (b := t_a) (pc := 11) (st := [.int (nI 0)]) (y := 122) (idx := 40) (w := y_J [t_B]) (wr := y_J [[(a, .inr (7, [.ref v, .int (nI 0), .int (nI 0), .int (nI n)]))]]) (av := []) hC rfl rfl rfl (z_t4 (i := 53) rfl rfl) (z_t3 (i := 140) rfl rfl) (z_t3 (i := 141) rfl rfl) (z_t1 (i := 14) rfl rfl) (fun H locs hP hS => y_trec hC h_t (X := y_J [[(a, .inr (7, [.ref v, .int (nI 0), .int (nI 0), .int (nI n)]))]]) (hP) hS) (c_J0_coder_7d493 (t_a := t_a) (t_v := t_v) (t_f := t_f) (t_L := t_L) (t_B := t_B) h_t) (show _ = some 0 from by decide +kernel) rfl rfl (by omega) (by omega) rfl (fun r_11 w_11 p_11 => ?_)
  obtain ⟨rfl, ew_11⟩ := p_11
  replace ew_11 := ew_11.symm
  subst ew_11
  refine y_cmb [t_B] [[(a, .inr (7, [.ref v, .int (nI 0), .int (nI 0), .int (nI n)]))]] ?_
  refine y_steps hC 1 (σ' := (21, [(0, .ref a), (1, .ref t_a)], [], [])) rfl ?_
  refine y_mv [t_B] ([(a, .inr (7, [.ref v, .int (nI 0), .int (nI 0), .int (nI n)]))]) [] ?_
  exact y_vret hC hT rfl rfl (by omega) (by omega) ⟨rfl, (by rfl)⟩
set_option maxHeartbeats 4000000 in
set_option maxRecDepth 1000000 in
theorem c_J5_putStringAt_47b60 {ε : y_Ev} {g : Nat → Int32} {a : Nat} {i : Nat} {t_a : Nat} {t_v : Nat} {t_f : Nat → Int32} {t_L : List Nat} {t_B : va_W} {v : Nat} {n : Nat} {m : Nat} (h_t : y_Tv ε t_a t_v t_f t_L t_B) (hd : i + t_L.length ≤ m) (hm : m ≤ 1000) : y_C ε zmJ5_putStringAt_47b60 3 103 0 0 [.ref a, .int (nI i), .ref t_a] ((a, .inr (7, [.ref v, .int (nI 0), .int (nI 0), .int (nI n)])) :: ((v, .inl (y_c ε 2, m, .inl g)) :: t_B)) (fun r w2 => r = none ∧ w2 = (a, .inr (7, [.ref v, .int (nI 0), .int (nI 0), .int (nI n)])) :: ((v, .inl (y_c ε 2, m, .inl (va_cpy t_f g 0 i t_L.length))) :: t_B)) := by
  refine y_start (y := 110) rfl rfl (fun κ hC hT hN0 => ?_)
  refine y_steps hC 2 (σ' := (2, [(0, .ref a), (1, .int (nI i)), (2, .ref t_a)], [.ref t_a, .ref a], [])) rfl ?_
  refine y_mv [[(a, .inr (7, [.ref v, .int (nI 0), .int (nI 0), .int (nI n)]))], [(v, .inl (y_c ε 2, m, .inl g))]] (t_B) [] ?_
  refine y_mv [t_B] ([(a, .inr (7, [.ref v, .int (nI 0), .int (nI 0), .int (nI n)]))]) [[(v, .inl (y_c ε 2, m, .inl g))]] ?_
  refine y_spl [[(a, .inr (7, [.ref v, .int (nI 0), .int (nI 0), .int (nI n)]))], t_B] [[(v, .inl (y_c ε 2, m, .inl g))]] ?_
  refine y_callU (b := a) (C := "java/lang/StringBuilder") (x := ⟨"java/lang/AbstractStringBuilder", "inflateIfNeededFor", "(Ljava/lang/String;)V"⟩) (pc := 2) (st := []) (y := 109) (idx := 397) (w := y_J [[(a, .inr (7, [.ref v, .int (nI 0), .int (nI 0), .int (nI n)]))], t_B]) (wr := y_J [[(v, .inl (y_c ε 2, m, .inl g))]]) (av := [.ref t_a]) hC rfl rfl rfl (z_t4 (i := 49) rfl rfl) (z_t4 (i := 205) rfl rfl) (y_selM (y := yJ5_inflateIfNeededFor_a7421) (by simp [y_prv]) rfl) (z_t4 (i := 51) rfl rfl) (z_t1 (i := 12) rfl rfl) (fun H locs hP hS => y_rW (ci := 7) (k := 0) hC rfl rfl H locs hP hS) (c_J5_inflateIfNeededFor_a7421 (a := a) (t_a := t_a) (t_v := t_v) (t_f := t_f) (t_L := t_L) (t_B := t_B) (v := v) (n := n) h_t) (show _ = some 1 from by decide +kernel) rfl rfl (by omega) (by omega) rfl (fun r_2 w_2 p_2 => ?_)
  obtain ⟨rfl, ew_2⟩ := p_2
  replace ew_2 := ew_2.symm
  subst ew_2
  refine y_cmb [[(a, .inr (7, [.ref v, .int (nI 0), .int (nI 0), .int (nI n)]))], t_B] [[(v, .inl (y_c ε 2, m, .inl g))]] ?_
  refine y_steps hC 2 (σ' := (7, [(0, .ref a), (1, .int (nI i)), (2, .ref t_a)], [.ref a, .ref t_a], [])) rfl ?_
  refine y_mv [[(a, .inr (7, [.ref v, .int (nI 0), .int (nI 0), .int (nI n)]))], t_B] ([(v, .inl (y_c ε 2, m, .inl g))]) [] ?_
  refine y_mv [[(v, .inl (y_c ε 2, m, .inl g))]] ([(a, .inr (7, [.ref v, .int (nI 0), .int (nI 0), .int (nI n)]))]) [t_B] ?_
  refine y_get (k := 0) (ci := 7) (j := 0) hC rfl rfl rfl rfl (z_t3 (i := 210) rfl rfl) rfl ?_
  refine y_steps hC 2 (σ' := (12, [(0, .ref a), (1, .int (nI i)), (2, .ref t_a)], [.ref a, .int (nI i), .ref v, .ref t_a], [])) rfl ?_
  refine y_get (k := 0) (ci := 7) (j := 1) hC rfl rfl rfl rfl (z_t3 (i := 211) rfl rfl) rfl ?_
  refine y_steps hC 0 (σ' := (15, [(0, .ref a), (1, .int (nI i)), (2, .ref t_a)], [.int (nI 0), .int (nI i), .ref v, .ref t_a], [])) rfl ?_
  refine y_mv [[(a, .inr (7, [.ref v, .int (nI 0), .int (nI 0), .int (nI n)]))], [(v, .inl (y_c ε 2, m, .inl g))]] (t_B) [] ?_
  refine y_mv [t_B, [(a, .inr (7, [.ref v, .int (nI 0), .int (nI 0), .int (nI n)]))]] ([(v, .inl (y_c ε 2, m, .inl g))]) [] ?_
  refine y_spl [[(v, .inl (y_c ε 2, m, .inl g))], t_B] [[(a, .inr (7, [.ref v, .int (nI 0), .int (nI 0), .int (nI n)]))]] ?_
  refine y_callV (b := t_a) (pc := 15) (st := []) (y := 120) (idx := 399) (w := y_J [[(v, .inl (y_c ε 2, m, .inl g))], t_B]) (wr := y_J [[(a, .inr (7, [.ref v, .int (nI 0), .int (nI 0), .int (nI n)]))]]) (av := [.ref v, .int (nI i), .int (nI 0)]) hC rfl rfl rfl (z_t4 (i := 73) rfl rfl) (z_t4 (i := 74) rfl rfl) (z_t4 (i := 75) rfl rfl) (z_t1 (i := 14) rfl rfl) (fun H locs hP hS => y_trec hC h_t (X := y_J [[(a, .inr (7, [.ref v, .int (nI 0), .int (nI 0), .int (nI n)]))]]) (zl_Pr (b := [(v, .inl (y_c ε 2, m, .inl g))]) (a := t_B ++ (y_J [[(a, .inr (7, [.ref v, .int (nI 0), .int (nI 0), .int (nI n)]))]])) hP) hS) (c_J0_getBytes_840e7 (g := g) (t_a := t_a) (t_v := t_v) (t_f := t_f) (t_L := t_L) (t_B := t_B) (d := v) (dp := i) (m := m) h_t (by first | assumption | omega | rfl | trivial) (by first | assumption | omega | rfl | trivial)) (show _ = some 3 from by decide +kernel) rfl rfl (by omega) (by omega) rfl (fun r_15 w_15 p_15 => ?_)
  obtain ⟨rfl, ew_15⟩ := p_15
  replace ew_15 := ew_15.symm
  subst ew_15
  refine y_cmb [[(v, .inl (y_c ε 2, m, .inl (va_cpy t_f g 0 i t_L.length)))], t_B] [[(a, .inr (7, [.ref v, .int (nI 0), .int (nI 0), .int (nI n)]))]] ?_
  refine y_steps hC 0 (σ' := (18, [(0, .ref a), (1, .int (nI i)), (2, .ref t_a)], [], [])) rfl ?_
  refine y_mv [[(v, .inl (y_c ε 2, m, .inl (va_cpy t_f g 0 i t_L.length)))]] (t_B) [[(a, .inr (7, [.ref v, .int (nI 0), .int (nI 0), .int (nI n)]))]] ?_
  refine y_mv [t_B] ([(v, .inl (y_c ε 2, m, .inl (va_cpy t_f g 0 i t_L.length)))]) [[(a, .inr (7, [.ref v, .int (nI 0), .int (nI 0), .int (nI n)]))]] ?_
  refine y_mv [[(v, .inl (y_c ε 2, m, .inl (va_cpy t_f g 0 i t_L.length)))], t_B] ([(a, .inr (7, [.ref v, .int (nI 0), .int (nI 0), .int (nI n)]))]) [] ?_
  exact y_vret hC hT rfl rfl (by omega) (by omega) ⟨rfl, (by rfl)⟩
