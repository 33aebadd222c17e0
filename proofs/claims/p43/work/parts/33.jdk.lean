/-! the JDK's methods on texts -/
set_option maxHeartbeats 4000000 in
set_option maxRecDepth 1000000 in
theorem c_J9_max_7cf53_y {ε : y_Ev} {a : Nat} {b : Nat} (ha : a < 2 ^ 31) (hb : b < 2 ^ 31) : y_C ε zmJ9_max_7cf53 1 60 0 0 [.int (nI a), .int (nI b)] (([] : va_W)) (fun r w2 => r = some (.int (nI (max a b))) ∧ w2 = ([] : va_W)) := by
  refine y_start (y := 114) rfl rfl (fun κ hC hT hN0 => ?_)
  refine y_steps hC 2 (σ' := (2, [(0, .int (nI a)), (1, .int (nI b))], [.int (nI b), .int (nI a)], [])) rfl ?_
  refine y_if hC (c := nI a < nI b) rfl (fun c_2 => ?_) (fun c_2 => ?_)
  · skip
    rw [nI_ltI (by omega) (by omega)] at c_2
    refine y_steps hC 1 (σ' := (10, [(0, .int (nI a)), (1, .int (nI b))], [.int (nI b)], [])) rfl ?_
    exact y_iret hC hT rfl rfl (by omega) (by omega) ⟨(by exact congrArg (fun v => some (Value.int (nI v))) (by omega)), (by rfl)⟩
  · skip
    rw [nI_ltI (by omega) (by omega)] at c_2
    refine y_steps hC 2 (σ' := (10, [(0, .int (nI a)), (1, .int (nI b))], [.int (nI a)], [])) rfl ?_
    exact y_iret hC hT rfl rfl (by omega) (by omega) ⟨(by exact congrArg (fun v => some (Value.int (nI v))) (by omega)), (by rfl)⟩
set_option maxHeartbeats 4000000 in
set_option maxRecDepth 1000000 in
theorem c_J9_min_7cf53_y {ε : y_Ev} {a : Nat} {b : Nat} (ha : a < 2 ^ 31) (hb : b < 2 ^ 31) : y_C ε zmJ9_min_7cf53 1 60 0 0 [.int (nI a), .int (nI b)] (([] : va_W)) (fun r w2 => r = some (.int (nI (min a b))) ∧ w2 = ([] : va_W)) := by
  refine y_start (y := 115) rfl rfl (fun κ hC hT hN0 => ?_)
  refine y_steps hC 2 (σ' := (2, [(0, .int (nI a)), (1, .int (nI b))], [.int (nI b), .int (nI a)], [])) rfl ?_
  refine y_if hC (c := nI b < nI a) rfl (fun c_2 => ?_) (fun c_2 => ?_)
  · skip
    rw [nI_ltI (by omega) (by omega)] at c_2
    refine y_steps hC 1 (σ' := (10, [(0, .int (nI a)), (1, .int (nI b))], [.int (nI b)], [])) rfl ?_
    exact y_iret hC hT rfl rfl (by omega) (by omega) ⟨(by exact congrArg (fun v => some (Value.int (nI v))) (by omega)), (by rfl)⟩
  · skip
    rw [nI_ltI (by omega) (by omega)] at c_2
    refine y_steps hC 2 (σ' := (10, [(0, .int (nI a)), (1, .int (nI b))], [.int (nI a)], [])) rfl ?_
    exact y_iret hC hT rfl rfl (by omega) (by omega) ⟨(by exact congrArg (fun v => some (Value.int (nI v))) (by omega)), (by rfl)⟩
set_option maxHeartbeats 4000000 in
set_option maxRecDepth 1000000 in
theorem c_J8_newLength_cabcc {ε : y_Ev} {ol : Nat} {gr : Nat} {pr : Nat} (h1 : ol ≤ 1000) (h2 : gr ≤ 1000) (h3 : pr ≤ 1000 ∧ 1 ≤ pr) : y_C ε zmJ8_newLength_cabcc 2 81 0 0 [.int (nI ol), .int (nI gr), .int (nI pr)] (([] : va_W)) (fun r w2 => r = some (.int (nI (ol + max gr pr))) ∧ w2 = ([] : va_W)) := by
  refine y_start (y := 138) rfl rfl (fun κ hC hT hN0 => ?_)
  refine y_steps hC 3 (σ' := (3, [(0, .int (nI ol)), (1, .int (nI gr)), (2, .int (nI pr))], [.int (nI pr), .int (nI gr), .int (nI ol)], [])) rfl ?_
  refine y_callS (y := 114) (idx := 194) (w := ([] : va_W)) (wr := ([] : va_W)) (av := [.int (nI gr), .int (nI pr)]) hC rfl rfl (z_t4 (i := 6) rfl rfl) (z_t2 (i := 85) rfl rfl) (z_t1 (i := 9) rfl rfl) (c_J9_max_7cf53_y (a := gr) (b := pr) (by first | assumption | omega | rfl | trivial) (by first | assumption | omega | rfl | trivial)) (by decide +kernel) rfl rfl (by omega) (by omega) rfl (fun r_3 w_3 p_3 => ?_)
  obtain ⟨rfl, rfl⟩ := p_3
  refine y_steps hC 0 (σ' := (6, [(0, .int (nI ol)), (1, .int (nI gr)), (2, .int (nI pr))], [.int (nI (max gr pr)), .int (nI ol)], [])) rfl ?_
  refine y_add hC (ol + max gr pr) rfl (by rfl) ?_
  refine y_steps hC 3 (σ' := (10, [(3, .int (nI (ol + max gr pr))), (0, .int (nI ol)), (1, .int (nI gr)), (2, .int (nI pr))], [.int (nI (ol + max gr pr)), .int (nI 0)], [])) rfl ?_
  refine y_if hC (c := nI (ol + max gr pr) ≤ nI 0) rfl (fun c_10 => ?_) (fun c_10 => ?_)
  · skip
    rw [nI_leI (by omega) (by omega)] at c_10
    omega
  · skip
    rw [nI_leI (by omega) (by omega)] at c_10
    refine y_steps hC 2 (σ' := (16, [(3, .int (nI (ol + max gr pr))), (0, .int (nI ol)), (1, .int (nI gr)), (2, .int (nI pr))], [.int (nI 2147483639), .int (nI (ol + max gr pr))], [])) rfl ?_
    refine y_if hC (c := nI 2147483639 < nI (ol + max gr pr)) rfl (fun c_16 => ?_) (fun c_16 => ?_)
    · skip
      rw [nI_ltI (by omega) (by omega)] at c_16
      omega
    · skip
      rw [nI_ltI (by omega) (by omega)] at c_16
      refine y_steps hC 1 (σ' := (20, [(3, .int (nI (ol + max gr pr))), (0, .int (nI ol)), (1, .int (nI gr)), (2, .int (nI pr))], [.int (nI (ol + max gr pr))], [])) rfl ?_
      exact y_iret hC hT rfl rfl (by omega) (by omega) ⟨(by rfl), (by rfl)⟩
set_option maxHeartbeats 4000000 in
set_option maxRecDepth 1000000 in
theorem c_J7_checkLength_df160 {ε : y_Ev} {n : Nat} (hn : n < 2 ^ 31) : y_C ε zmJ7_checkLength_df160 1 60 0 0 [.int (nI 0), .int (nI n)] (([] : va_W)) (fun r w2 => r = none ∧ w2 = ([] : va_W)) := by
  refine y_start (y := 135) rfl rfl (fun κ hC hT hN0 => ?_)
  refine y_steps hC 2 (σ' := (2, [(0, .int (nI 0)), (1, .int (nI n))], [.int (nI 0), .int (nI n)], [])) rfl ?_
  refine y_if hC (c := nI 0 ≤ nI n) rfl (fun c_2 => ?_) (fun c_2 => ?_)
  · skip
    rw [nI_leI (by omega) (by omega)] at c_2
    refine y_steps hC 0 (σ' := (37, [(0, .int (nI 0)), (1, .int (nI n))], [], [])) rfl ?_
    exact y_vret hC hT rfl rfl (by omega) (by omega) ⟨rfl, (by rfl)⟩
  · skip
    rw [nI_leI (by omega) (by omega)] at c_2
    omega
set_option maxHeartbeats 4000000 in
set_option maxRecDepth 1000000 in
theorem c_J5_isLatin1_aae02 {ε : y_Ev} {a : Nat} {v : Nat} {n : Nat}  : y_C ε zmJ5_isLatin1_aae02 1 60 0 0 [.ref a] ([(a, .inr (7, [.ref v, .int (nI 0), .int (nI 0), .int (nI n)]))]) (fun r w2 => r = some (.int (nI 1)) ∧ w2 = [(a, .inr (7, [.ref v, .int (nI 0), .int (nI 0), .int (nI n)]))]) := by
  refine y_start (y := 108) rfl rfl (fun κ hC hT hN0 => ?_)
  refine y_steps hC 0 (σ' := (0, [(0, .ref a)], [], [])) rfl ?_
  refine y_gsC hC rfl (z_t3 (i := 202) rfl rfl) ?_
  refine y_steps hC 2 (σ' := (7, [(0, .ref a)], [.ref a], [])) rfl ?_
  refine y_get (k := 0) (ci := 7) (j := 1) hC rfl rfl rfl rfl (z_t3 (i := 211) rfl rfl) rfl ?_
  refine y_steps hC 3 (σ' := (18, [(0, .ref a)], [.int (nI 1)], [])) rfl ?_
  exact y_zret hC hT rfl (Or.inl rfl) (by rfl) rfl (by omega) (by omega) ⟨(by rfl), (by rfl)⟩
set_option maxHeartbeats 4000000 in
set_option maxRecDepth 1000000 in
theorem c_J5_length_8abf5 {ε : y_Ev} {a : Nat} {v : Nat} {n : Nat}  : y_C ε zmJ5_length_8abf5 1 60 0 0 [.ref a] ([(a, .inr (7, [.ref v, .int (nI 0), .int (nI 0), .int (nI n)]))]) (fun r w2 => r = some (.int (nI n)) ∧ w2 = [(a, .inr (7, [.ref v, .int (nI 0), .int (nI 0), .int (nI n)]))]) := by
  refine y_start (y := 101) rfl rfl (fun κ hC hT hN0 => ?_)
  refine y_steps hC 1 (σ' := (1, [(0, .ref a)], [.ref a], [])) rfl ?_
  refine y_get (k := 0) (ci := 7) (j := 3) hC rfl rfl rfl rfl (z_t3 (i := 213) rfl rfl) rfl ?_
  refine y_steps hC 0 (σ' := (4, [(0, .ref a)], [.int (nI n)], [])) rfl ?_
  exact y_iret hC hT rfl rfl (by omega) (by omega) ⟨(by rfl), (by rfl)⟩
set_option maxHeartbeats 4000000 in
set_option maxRecDepth 1000000 in
theorem c_J4_length_8abf5 {ε : y_Ev} {a : Nat} {v : Nat} {n : Nat}  : y_C ε zmJ4_length_8abf5 2 80 0 0 [.ref a] ([(a, .inr (7, [.ref v, .int (nI 0), .int (nI 0), .int (nI n)]))]) (fun r w2 => r = some (.int (nI n)) ∧ w2 = [(a, .inr (7, [.ref v, .int (nI 0), .int (nI 0), .int (nI n)]))]) := by
  refine y_start (y := 130) rfl rfl (fun κ hC hT hN0 => ?_)
  refine y_steps hC 1 (σ' := (1, [(0, .ref a)], [.ref a], [])) rfl ?_
  obtain ⟨cC_1, hat_1⟩ := y_at (ci := 7) hC rfl
  refine y_callSU (b := a) (y := 101) (idx := 343) (w := [(a, .inr (7, [.ref v, .int (nI 0), .int (nI 0), .int (nI n)]))]) (wr := ([] : va_W)) (av := []) hC rfl rfl (by decide) (z_t4 (i := 130) rfl rfl) (z_t4 (i := 126) rfl rfl) (z_t3 (i := 222) rfl rfl) (z_t4 (i := 125) rfl rfl) (z_t1 (i := 12) rfl rfl) hat_1 (fun H locs hP hS => y_rW (ci := 7) (k := 0) hC rfl rfl H locs hP hS) (c_J5_length_8abf5 (a := a) (v := v) (n := n) ) (by decide +kernel) rfl rfl (by omega) (by omega) rfl (fun r_1 w_1 p_1 => ?_)
  obtain ⟨rfl, rfl⟩ := p_1
  refine y_steps hC 0 (σ' := (4, [(0, .ref a)], [.int (nI n)], [])) rfl ?_
  exact y_iret hC hT rfl rfl (by omega) (by omega) ⟨(by rfl), (by rfl)⟩
set_option maxHeartbeats 4000000 in
set_option maxRecDepth 1000000 in
theorem c_J5_getValue_6d5f1 {ε : y_Ev} {a : Nat} {v : Nat} {n : Nat}  : y_C ε zmJ5_getValue_6d5f1 1 60 0 0 [.ref a] ([(a, .inr (7, [.ref v, .int (nI 0), .int (nI 0), .int (nI n)]))]) (fun r w2 => r = some (.ref v) ∧ w2 = [(a, .inr (7, [.ref v, .int (nI 0), .int (nI 0), .int (nI n)]))]) := by
  refine y_start (y := 107) rfl rfl (fun κ hC hT hN0 => ?_)
  refine y_steps hC 1 (σ' := (1, [(0, .ref a)], [.ref a], [])) rfl ?_
  refine y_get (k := 0) (ci := 7) (j := 0) hC rfl rfl rfl rfl (z_t3 (i := 210) rfl rfl) rfl ?_
  refine y_steps hC 0 (σ' := (4, [(0, .ref a)], [.ref v], [])) rfl ?_
  exact y_aret hC hT rfl (Or.inr ⟨_, rfl⟩) rfl (by omega) (by omega) ⟨rfl, (by rfl)⟩
set_option maxHeartbeats 4000000 in
set_option maxRecDepth 1000000 in
theorem c_J5_newCapacity_0f7a4 {ε : y_Ev} {f : Nat → Int32} {a : Nat} {q : Nat} {v : Nat} {n : Nat} {m : Nat} (hq : m < q) (hm : m ≤ 202) (hq2 : q ≤ 202) : y_C ε zmJ5_newCapacity_0f7a4 3 104 0 0 [.ref a, .int (nI q)] ((a, .inr (7, [.ref v, .int (nI 0), .int (nI 0), .int (nI n)])) :: [(v, .inl (y_c ε 2, m, .inl f))]) (fun r w2 => r = some (.int (nI (m + max (q - m) (m + 2)))) ∧ w2 = (a, .inr (7, [.ref v, .int (nI 0), .int (nI 0), .int (nI n)])) :: [(v, .inl (y_c ε 2, m, .inl f))]) := by
  refine y_start (y := 103) rfl rfl (fun κ hC hT hN0 => ?_)
  refine y_steps hC 1 (σ' := (1, [(0, .ref a), (1, .int (nI q))], [.ref a], [])) rfl ?_
  refine y_get (k := 0) (ci := 7) (j := 0) hC rfl rfl rfl rfl (z_t3 (i := 210) rfl rfl) rfl ?_
  refine y_steps hC 0 (σ' := (4, [(0, .ref a), (1, .int (nI q))], [.ref v], [])) rfl ?_
  refine y_alen hC 1 2 rfl rfl rfl ?_
  refine y_steps hC 3 (σ' := (8, [(2, .int (nI m)), (0, .ref a), (1, .int (nI q))], [.ref a, .int (nI q)], [])) rfl ?_
  refine y_get (k := 0) (ci := 7) (j := 1) hC rfl rfl rfl rfl (z_t3 (i := 211) rfl rfl) rfl ?_
  refine y_steps hC 0 (σ' := (11, [(2, .int (nI m)), (0, .ref a), (1, .int (nI q))], [.int (nI 0), .int (nI q)], [])) rfl ?_
  refine y_one hC (σ' := (12, [(2, .int (nI m)), (0, .ref a), (1, .int (nI q))], [.int (((nI q) <<< (nI 0 &&& 31)))], [])) rfl ?_
  rw [show (nI q) <<< (nI 0 &&& 31) = nI q from sb_shl0 _]
  refine y_steps hC 3 (σ' := (15, [(3, .int (nI q)), (2, .int (nI m)), (0, .ref a), (1, .int (nI q))], [.int (nI m), .int (nI q)], [])) rfl ?_
  refine y_sbt hC (q - m) rfl (by first | assumption | omega | rfl | trivial) (by first | rfl | omega) ?_
  refine y_steps hC 6 (σ' := (24, [(4, .int (nI (q - m))), (3, .int (nI q)), (2, .int (nI m)), (0, .ref a), (1, .int (nI q))], [.ref a, .int (nI 2), .int (nI m), .int (nI (q - m)), .int (nI m)], [])) rfl ?_
  refine y_get (k := 0) (ci := 7) (j := 1) hC rfl rfl rfl rfl (z_t3 (i := 211) rfl rfl) rfl ?_
  refine y_steps hC 0 (σ' := (27, [(4, .int (nI (q - m))), (3, .int (nI q)), (2, .int (nI m)), (0, .ref a), (1, .int (nI q))], [.int (nI 0), .int (nI 2), .int (nI m), .int (nI (q - m)), .int (nI m)], [])) rfl ?_
  refine y_one hC (σ' := (28, [(4, .int (nI (q - m))), (3, .int (nI q)), (2, .int (nI m)), (0, .ref a), (1, .int (nI q))], [.int (((nI 2) <<< (nI 0 &&& 31))), .int (nI m), .int (nI (q - m)), .int (nI m)], [])) rfl ?_
  rw [show (nI 2) <<< (nI 0 &&& 31) = nI 2 from sb_shl0 _]
  refine y_steps hC 0 (σ' := (28, [(4, .int (nI (q - m))), (3, .int (nI q)), (2, .int (nI m)), (0, .ref a), (1, .int (nI q))], [.int (nI 2), .int (nI m), .int (nI (q - m)), .int (nI m)], [])) rfl ?_
  refine y_add hC (m + 2) rfl (by first | rfl | omega) ?_
  refine y_steps hC 0 (σ' := (29, [(4, .int (nI (q - m))), (3, .int (nI q)), (2, .int (nI m)), (0, .ref a), (1, .int (nI q))], [.int (nI (m + 2)), .int (nI (q - m)), .int (nI m)], [])) rfl ?_
  refine y_callS (y := 138) (idx := 114) (w := ([] : va_W)) (wr := (a, .inr (7, [.ref v, .int (nI 0), .int (nI 0), .int (nI n)])) :: [(v, .inl (y_c ε 2, m, .inl f))]) (av := [.int (nI m), .int (nI (q - m)), .int (nI (m + 2))]) hC rfl rfl (z_t4 (i := 3) rfl rfl) (z_t4 (i := 4) rfl rfl) (z_t1 (i := 16) rfl rfl) (c_J8_newLength_cabcc (ol := m) (gr := q - m) (pr := m + 2) (by first | assumption | omega | rfl | trivial) (by first | assumption | omega | rfl | trivial) (by first | assumption | omega | rfl | trivial)) (by decide +kernel) rfl rfl (by omega) (by omega) rfl (fun r_29 w_29 p_29 => ?_)
  obtain ⟨rfl, rfl⟩ := p_29
  refine y_steps hC 3 (σ' := (38, [(5, .int (nI (m + max (q - m) (m + 2)))), (4, .int (nI (q - m))), (3, .int (nI q)), (2, .int (nI m)), (0, .ref a), (1, .int (nI q))], [.int (nI 2147483647), .int (nI (m + max (q - m) (m + 2)))], [])) rfl ?_
  refine y_if hC (c := ¬ nI (m + max (q - m) (m + 2)) = nI 2147483647) rfl (fun c_38 => ?_) (fun c_38 => ?_)
  · skip
    rw [nI_eq (by omega) (by omega)] at c_38
    skip
    refine y_steps hC 2 (σ' := (54, [(5, .int (nI (m + max (q - m) (m + 2)))), (4, .int (nI (q - m))), (3, .int (nI q)), (2, .int (nI m)), (0, .ref a), (1, .int (nI q))], [.ref a, .int (nI (m + max (q - m) (m + 2)))], [])) rfl ?_
    refine y_get (k := 0) (ci := 7) (j := 1) hC rfl rfl rfl rfl (z_t3 (i := 211) rfl rfl) rfl ?_
    refine y_steps hC 0 (σ' := (57, [(5, .int (nI (m + max (q - m) (m + 2)))), (4, .int (nI (q - m))), (3, .int (nI q)), (2, .int (nI m)), (0, .ref a), (1, .int (nI q))], [.int (nI 0), .int (nI (m + max (q - m) (m + 2)))], [])) rfl ?_
    refine y_one hC (σ' := (58, [(5, .int (nI (m + max (q - m) (m + 2)))), (4, .int (nI (q - m))), (3, .int (nI q)), (2, .int (nI m)), (0, .ref a), (1, .int (nI q))], [.int (((nI (m + max (q - m) (m + 2))) >>> (nI 0 &&& 31)))], [])) rfl ?_
    rw [show (nI (m + max (q - m) (m + 2))) >>> (nI 0 &&& 31) = nI (m + max (q - m) (m + 2)) from sb_shr0 _]
    refine y_steps hC 0 (σ' := (58, [(5, .int (nI (m + max (q - m) (m + 2)))), (4, .int (nI (q - m))), (3, .int (nI q)), (2, .int (nI m)), (0, .ref a), (1, .int (nI q))], [.int (nI (m + max (q - m) (m + 2)))], [])) rfl ?_
    exact y_iret hC hT rfl rfl (by omega) (by omega) ⟨(by rfl), (by rfl)⟩
  · skip
    rw [nI_eq (by omega) (by omega)] at c_38
    replace c_38 := Decidable.not_not.mp c_38
    omega
set_option maxHeartbeats 4000000 in
set_option maxRecDepth 1000000 in
theorem c_J7_copyOf_9075b {ε : y_Ev} {f : Nat → Int32} {v : Nat} {k : Nat} {m : Nat} (hk : m < k) (hk2 : k ≤ 1000) (hf : ∀ j, fits .byte (.int (f j)) = true) : y_C ε zmJ7_copyOf_9075b 2 81 1 1000 [.ref v, .int (nI k)] ([(v, .inl (y_c ε 2, m, .inl f))]) (fun r w2 => ∃ (q : Nat), r = some (.ref q) ∧ w2 = (q, .inl (y_c ε 2, k, .inl (va_cpy f (fun _ => 0) 0 0 m))) :: [(v, .inl (y_c ε 2, m, .inl f))]) := by
  refine y_start (y := 134) rfl rfl (fun κ hC hT hN0 => ?_)
  refine y_steps hC 2 (σ' := (2, [(0, .ref v), (1, .int (nI k))], [.ref v, .int (nI k)], [])) rfl ?_
  refine y_alen hC 0 2 rfl rfl rfl ?_
  refine y_steps hC 0 (σ' := (3, [(0, .ref v), (1, .int (nI k))], [.int (nI m), .int (nI k)], [])) rfl ?_
  refine y_if hC (c := ¬ nI k = nI m) rfl (fun c_3 => ?_) (fun c_3 => ?_)
  · skip
    rw [nI_eq (by omega) (by omega)] at c_3
    skip
    refine y_steps hC 1 (σ' := (15, [(0, .ref v), (1, .int (nI k))], [.int (nI k)], [])) rfl ?_
    refine y_newa (n := k) (a0 := (k, .inl (fun _ => 0))) hC 2 (atype := .byte) (z_t3 (i := 223) rfl rfl) rfl (fun _ => rfl) (by omega) (by decide) (by omega) (by omega) rfl (fun q15 => ?_)
    refine y_steps hC 6 (σ' := (23, [(2, .ref q15), (0, .ref v), (1, .int (nI k))], [.ref v, .int (nI 0), .ref q15, .int (nI 0), .ref v], [])) rfl ?_
    refine y_alen hC 1 2 rfl rfl rfl ?_
    refine y_steps hC 1 (σ' := (25, [(2, .ref q15), (0, .ref v), (1, .int (nI k))], [.int (nI k), .int (nI m), .int (nI 0), .ref q15, .int (nI 0), .ref v], [])) rfl ?_
    refine y_callS (y := 115) (idx := 304) (w := ([] : va_W)) (wr := (q15, .inl (y_c ε 2, k, .inl ((fun _ => 0)))) :: [(v, .inl (y_c ε 2, m, .inl f))]) (av := [.int (nI m), .int (nI k)]) hC rfl rfl (z_t4 (i := 22) rfl rfl) (z_t2 (i := 8) rfl rfl) (z_t1 (i := 9) rfl rfl) (c_J9_min_7cf53_y (a := m) (b := k) (by first | assumption | omega | rfl | trivial) (by first | assumption | omega | rfl | trivial)) (by decide +kernel) rfl rfl (by omega) (by omega) rfl (fun r_25 w_25 p_25 => ?_)
    obtain ⟨rfl, rfl⟩ := p_25
    rw [show min m k = m from by omega]
    refine y_steps hC 0 (σ' := (28, [(2, .ref q15), (0, .ref v), (1, .int (nI k))], [.int (nI m), .int (nI 0), .ref q15, .int (nI 0), .ref v], [])) rfl ?_
    refine y_cpyb (k0 := 1) (k1 := 0) (ws2 := ((q15, .inl (y_c ε 2, k, .inl (va_cpy f ((fun _ => 0)) 0 0 m))) :: [(v, .inl (y_c ε 2, m, .inl f))])) hC rfl rfl rfl (z_t4 (i := 23) rfl rfl) (z_t2 (i := 37) rfl rfl) (z_t2 (i := 36) rfl rfl) (z_t1 (i := 8) rfl rfl) (by first | assumption | omega | rfl | trivial) (by first | assumption | omega | rfl | trivial) (by first | assumption | omega | rfl | trivial) (by first | assumption | omega | rfl | trivial) (by exact hf) (by decide) rfl rfl ?_
    refine y_steps hC 1 (σ' := (32, [(2, .ref q15), (0, .ref v), (1, .int (nI k))], [.ref q15], [])) rfl ?_
    exact y_aret hC hT rfl (Or.inr ⟨_, rfl⟩) rfl (by omega) (by omega) ⟨q15, rfl, (by rfl)⟩
  · skip
    rw [nI_eq (by omega) (by omega)] at c_3
    replace c_3 := Decidable.not_not.mp c_3
    omega
set_option maxHeartbeats 4000000 in
set_option maxRecDepth 1000000 in
theorem c_J5_ensureCapacityInternal_d00df {ε : y_Ev} {f : Nat → Int32} {a : Nat} {q : Nat} {v : Nat} {n : Nat} {m : Nat} (hq : q ≤ 100) (hm : m ≤ 202) (hf : ∀ j, fits .byte (.int (f j)) = true) : y_C ε zmJ5_ensureCapacityInternal_d00df 4 129 1 1000 [.ref a, .int (nI q)] ((a, .inr (7, [.ref v, .int (nI 0), .int (nI 0), .int (nI n)])) :: [(v, .inl (y_c ε 2, m, .inl f))]) (fun r w2 => ∃ (v2 : Nat) (m2 : Nat) (f2 : Nat → Int32), r = none ∧ w2 = (a, .inr (7, [.ref v2, .int (nI 0), .int (nI 0), .int (nI n)])) :: [(v2, .inl (y_c ε 2, m2, .inl f2))] ∧ (q ≤ m2 ∧ m ≤ m2 ∧ m2 ≤ 202 ∧ (∀ j, j < m → f2 j = f j) ∧ ∀ j, fits .byte (.int (f2 j)) = true)) := by
  refine y_start (y := 102) rfl rfl (fun κ hC hT hN0 => ?_)
  refine y_steps hC 1 (σ' := (1, [(0, .ref a), (1, .int (nI q))], [.ref a], [])) rfl ?_
  refine y_get (k := 0) (ci := 7) (j := 0) hC rfl rfl rfl rfl (z_t3 (i := 210) rfl rfl) rfl ?_
  refine y_steps hC 0 (σ' := (4, [(0, .ref a), (1, .int (nI q))], [.ref v], [])) rfl ?_
  refine y_alen hC 1 2 rfl rfl rfl ?_
  refine y_steps hC 1 (σ' := (6, [(0, .ref a), (1, .int (nI q))], [.ref a, .int (nI m)], [])) rfl ?_
  refine y_get (k := 0) (ci := 7) (j := 1) hC rfl rfl rfl rfl (z_t3 (i := 211) rfl rfl) rfl ?_
  refine y_steps hC 0 (σ' := (9, [(0, .ref a), (1, .int (nI q))], [.int (nI 0), .int (nI m)], [])) rfl ?_
  refine y_one hC (σ' := (10, [(0, .ref a), (1, .int (nI q))], [.int (((nI m) >>> (nI 0 &&& 31)))], [])) rfl ?_
  rw [show (nI m) >>> (nI 0 &&& 31) = nI m from sb_shr0 _]
  refine y_steps hC 4 (σ' := (14, [(2, .int (nI m)), (0, .ref a), (1, .int (nI q))], [.int (((nI q) - (nI m)))], [])) rfl ?_
  refine y_if hC (c := ((nI q) - (nI m)) ≤ 0) rfl (fun c_14 => ?_) (fun c_14 => ?_)
  · skip
    have g14 : q ≤ m := (y_subLe (by omega) (by omega)).mp c_14
    refine y_steps hC 0 (σ' := (38, [(2, .int (nI m)), (0, .ref a), (1, .int (nI q))], [], [])) rfl ?_
    exact y_vret hC hT rfl rfl (by omega) (by omega) ⟨v, m, f, rfl, (by rfl), (by first | exact ⟨g14, Nat.le_refl _, hm, fun _ _ => rfl, hf⟩ | exact ⟨by omega, by omega, by omega, fun j hj => y_cpy0 hj, sb_fitC hf sb_fit0⟩)⟩
  · skip
    have g14 : ¬ q ≤ m := fun z => c_14 ((y_subLe (by omega) (by omega)).mpr z)
    refine y_steps hC 2 (σ' := (19, [(2, .int (nI m)), (0, .ref a), (1, .int (nI q))], [.ref a, .ref a], [])) rfl ?_
    refine y_get (k := 0) (ci := 7) (j := 0) hC rfl rfl rfl rfl (z_t3 (i := 210) rfl rfl) rfl ?_
    refine y_steps hC 2 (σ' := (24, [(2, .int (nI m)), (0, .ref a), (1, .int (nI q))], [.int (nI q), .ref a, .ref v, .ref a], [])) rfl ?_
    refine y_callP (b := a) (C := "java/lang/StringBuilder") (x := ⟨"java/lang/AbstractStringBuilder", "newCapacity", "(I)I"⟩) (z := ⟨"java/lang/AbstractStringBuilder", "isLatin1", "()Z"⟩) (y := 103) (idx := 104) (w := (a, .inr (7, [.ref v, .int (nI 0), .int (nI 0), .int (nI n)])) :: [(v, .inl (y_c ε 2, m, .inl f))]) (wr := ([] : va_W)) (av := [.int (nI q)]) hC rfl rfl rfl (z_t3 (i := 239) rfl rfl) (z_t4 (i := 203) rfl rfl) (z_t4 (i := 27) rfl rfl) rfl (z_t4 (i := 0) rfl rfl) (z_t4 (i := 1) rfl rfl) (z_t1 (i := 12) rfl rfl) (fun H locs hP hS => y_rW (ci := 7) (k := 0) hC rfl rfl H locs hP hS) (c_J5_newCapacity_0f7a4 (f := f) (a := a) (q := q) (v := v) (n := n) (m := m) (by first | assumption | omega | rfl | trivial) (by first | assumption | omega | rfl | trivial) (by first | assumption | omega | rfl | trivial)) (by decide +kernel) rfl rfl (by omega) (by omega) rfl (fun r_24 w_24 p_24 => ?_)
    obtain ⟨rfl, rfl⟩ := p_24
    refine y_steps hC 1 (σ' := (28, [(2, .int (nI m)), (0, .ref a), (1, .int (nI q))], [.ref a, .int (nI (m + max (q - m) (m + 2))), .ref v, .ref a], [])) rfl ?_
    refine y_get (k := 0) (ci := 7) (j := 1) hC rfl rfl rfl rfl (z_t3 (i := 211) rfl rfl) rfl ?_
    refine y_steps hC 0 (σ' := (31, [(2, .int (nI m)), (0, .ref a), (1, .int (nI q))], [.int (nI 0), .int (nI (m + max (q - m) (m + 2))), .ref v, .ref a], [])) rfl ?_
    refine y_one hC (σ' := (32, [(2, .int (nI m)), (0, .ref a), (1, .int (nI q))], [.int (((nI (m + max (q - m) (m + 2))) <<< (nI 0 &&& 31))), .ref v, .ref a], [])) rfl ?_
    rw [show (nI (m + max (q - m) (m + 2))) <<< (nI 0 &&& 31) = nI (m + max (q - m) (m + 2)) from sb_shl0 _]
    refine y_steps hC 0 (σ' := (32, [(2, .int (nI m)), (0, .ref a), (1, .int (nI q))], [.int (nI (m + max (q - m) (m + 2))), .ref v, .ref a], [])) rfl ?_
    refine y_mv [[(a, .inr (7, [.ref v, .int (nI 0), .int (nI 0), .int (nI n)]))]] ([(v, .inl (y_c ε 2, m, .inl f))]) [] ?_
    refine y_callS (y := 134) (idx := 108) (w := [(v, .inl (y_c ε 2, m, .inl f))]) (wr := [(a, .inr (7, [.ref v, .int (nI 0), .int (nI 0), .int (nI n)]))]) (av := [.ref v, .int (nI (m + max (q - m) (m + 2)))]) hC rfl rfl (z_t4 (i := 12) rfl rfl) (z_t4 (i := 13) rfl rfl) (z_t1 (i := 3) rfl rfl) (c_J7_copyOf_9075b (f := f) (v := v) (k := m + max (q - m) (m + 2)) (m := m) (by first | assumption | omega | rfl | trivial) (by first | assumption | omega | rfl | trivial) (by exact hf)) (by decide +kernel) rfl rfl (by omega) (by omega) rfl (fun r_32 w_32 p_32 => ?_)
    obtain ⟨q_32, rfl, rfl⟩ := p_32
    refine y_steps hC 0 (σ' := (35, [(2, .int (nI m)), (0, .ref a), (1, .int (nI q))], [.ref q_32, .ref a], [])) rfl ?_
    refine y_put (k := 2) (ci := 7) (j := 0) (ty := .array .byte) (ws2 := ((q_32, .inl (y_c ε 2, m + max (q - m) (m + 2), .inl (va_cpy f (fun _ => 0) 0 0 m))) :: ((v, .inl (y_c ε 2, m, .inl f)) :: ([(a, .inr (7, [.ref q_32, .int (nI 0), .int (nI 0), .int (nI n)]))])))) hC rfl rfl rfl rfl (z_t3 (i := 210) rfl rfl) rfl (by decide +kernel) (by rfl) (by rfl) rfl rfl ?_
    refine y_steps hC 0 (σ' := (38, [(2, .int (nI m)), (0, .ref a), (1, .int (nI q))], [], [])) rfl ?_
    refine y_mv [[(q_32, .inl (y_c ε 2, m + max (q - m) (m + 2), .inl (va_cpy f (fun _ => 0) 0 0 m)))], [(v, .inl (y_c ε 2, m, .inl f))]] ([(a, .inr (7, [.ref q_32, .int (nI 0), .int (nI 0), .int (nI n)]))]) [] ?_
    refine y_mv [[(a, .inr (7, [.ref q_32, .int (nI 0), .int (nI 0), .int (nI n)]))], [(q_32, .inl (y_c ε 2, m + max (q - m) (m + 2), .inl (va_cpy f (fun _ => 0) 0 0 m)))]] ([(v, .inl (y_c ε 2, m, .inl f))]) [] ?_
    refine y_drp ([(v, .inl (y_c ε 2, m, .inl f))]) [[(a, .inr (7, [.ref q_32, .int (nI 0), .int (nI 0), .int (nI n)]))], [(q_32, .inl (y_c ε 2, m + max (q - m) (m + 2), .inl (va_cpy f (fun _ => 0) 0 0 m)))]] ?_
    exact y_vret hC hT rfl rfl (by omega) (by omega) ⟨q_32, (m + max (q - m) (m + 2)), (va_cpy f (fun _ => 0) 0 0 m), rfl, (by rfl), (by first | exact ⟨g14, Nat.le_refl _, hm, fun _ _ => rfl, hf⟩ | exact ⟨by omega, by omega, by omega, fun j hj => y_cpy0 hj, sb_fitC hf sb_fit0⟩)⟩
set_option maxHeartbeats 4000000 in
set_option maxRecDepth 1000000 in
theorem c_J0_coder_7d493 {ε : y_Ev} {t_a : Nat} {t_v : Nat} {t_f : Nat → Int32} {t_L : List Nat} {t_B : va_W} (h_t : y_Tv ε t_a t_v t_f t_L t_B) : y_C ε zmJ0_coder_7d493 1 60 0 0 [.ref t_a] (t_B) (fun r w2 => r = some (.int (nI 0)) ∧ w2 = t_B) := by
  refine y_start (y := 122) rfl rfl (fun κ hC hT hN0 => ?_)
  refine y_steps hC 0 (σ' := (0, [(0, .ref t_a)], [], [])) rfl ?_
  refine y_gsC hC rfl (z_t3 (i := 143) rfl rfl) ?_
  refine y_steps hC 2 (σ' := (7, [(0, .ref t_a)], [.ref t_a], [])) rfl ?_
  refine y_tcod hC h_t (X := []) (k := 0) rfl rfl (z_t4 (i := 153) rfl rfl) ?_
  refine y_steps hC 1 (σ' := (14, [(0, .ref t_a)], [.int (nI 0)], [])) rfl ?_
  exact y_zret hC hT rfl (Or.inr (Or.inl rfl)) (by rfl) rfl (by omega) (by omega) ⟨(by rfl), (by rfl)⟩
set_option maxHeartbeats 4000000 in
set_option maxRecDepth 1000000 in
theorem c_J0_isLatin1_aae02 {ε : y_Ev} {t_a : Nat} {t_v : Nat} {t_f : Nat → Int32} {t_L : List Nat} {t_B : va_W} (h_t : y_Tv ε t_a t_v t_f t_L t_B) : y_C ε zmJ0_isLatin1_aae02 1 60 0 0 [.ref t_a] (t_B) (fun r w2 => r = some (.int (nI 1)) ∧ w2 = t_B) := by
  refine y_start (y := 123) rfl rfl (fun κ hC hT hN0 => ?_)
  refine y_steps hC 0 (σ' := (0, [(0, .ref t_a)], [], [])) rfl ?_
  refine y_gsC hC rfl (z_t3 (i := 143) rfl rfl) ?_
  refine y_steps hC 2 (σ' := (7, [(0, .ref t_a)], [.ref t_a], [])) rfl ?_
  refine y_tcod hC h_t (X := []) (k := 0) rfl rfl (z_t4 (i := 153) rfl rfl) ?_
  refine y_steps hC 3 (σ' := (18, [(0, .ref t_a)], [.int (nI 1)], [])) rfl ?_
  exact y_zret hC hT rfl (Or.inl rfl) (by rfl) rfl (by omega) (by omega) ⟨(by rfl), (by rfl)⟩
set_option maxHeartbeats 4000000 in
set_option maxRecDepth 1000000 in
theorem c_J0_length_8abf5 {ε : y_Ev} {t_a : Nat} {t_v : Nat} {t_f : Nat → Int32} {t_L : List Nat} {t_B : va_W} (h_t : y_Tv ε t_a t_v t_f t_L t_B) : y_C ε zmJ0_length_8abf5 2 80 0 0 [.ref t_a] (t_B) (fun r w2 => r = some (.int (nI t_L.length)) ∧ w2 = t_B) := by
  refine y_start (y := 118) rfl rfl (fun κ hC hT hN0 => ?_)
  refine y_steps hC 1 (σ' := (1, [(0, .ref t_a)], [.ref t_a], [])) rfl ?_
  refine y_tval hC h_t (X := []) (k := 0) rfl rfl (z_t4 (i := 152) rfl rfl) ?_
  refine y_steps hC 0 (σ' := (4, [(0, .ref t_a)], [.ref t_v], [])) rfl ?_
  refine y_tlen hC h_t (X := []) (k := 0) rfl rfl ?_
  refine y_steps hC 1 (σ' := (6, [(0, .ref t_a)], [.ref t_a, .int (nI t_L.length)], [])) rfl ?_
  refine y_spl [t_B] [] ?_
  refine y_callV (b := t_a) (y := 122) (idx := 335) (w := y_J [t_B]) (wr := y_J []) (av := []) hC rfl rfl rfl (z_t3 (i := 139) rfl rfl) (z_t3 (i := 140) rfl rfl) (z_t3 (i := 141) rfl rfl) (z_t1 (i := 14) rfl rfl) (fun H locs hP hS => y_trec hC h_t (X := y_J []) (hP) hS) (c_J0_coder_7d493 (t_a := t_a) (t_v := t_v) (t_f := t_f) (t_L := t_L) (t_B := t_B) h_t) (by decide +kernel) rfl rfl (by omega) (by omega) rfl (fun r_6 w_6 p_6 => ?_)
  obtain ⟨rfl, rfl⟩ := p_6
  refine y_cmb [t_B] [] ?_
  refine y_steps hC 0 (σ' := (9, [(0, .ref t_a)], [.int (nI 0), .int (nI t_L.length)], [])) rfl ?_
  refine y_one hC (σ' := (10, [(0, .ref t_a)], [.int (((nI t_L.length) >>> (nI 0 &&& 31)))], [])) rfl ?_
  rw [show (nI t_L.length) >>> (nI 0 &&& 31) = nI t_L.length from sb_shr0 _]
  refine y_steps hC 0 (σ' := (10, [(0, .ref t_a)], [.int (nI t_L.length)], [])) rfl ?_
  exact y_iret hC hT rfl rfl (by omega) (by omega) ⟨(by rfl), (by rfl)⟩
set_option maxHeartbeats 4000000 in
set_option maxRecDepth 1000000 in
theorem c_J3_checkIndex_8e157_n {ε : y_Ev} {i : Nat} {n : Nat} (hi : i < n) (hn : n < 2 ^ 31) : y_C ε zmJ3_checkIndex_8e157 1 60 0 0 [.int (nI i), .int (nI n), .null] (([] : va_W)) (fun r w2 => r = some (.int (nI i)) ∧ w2 = ([] : va_W)) := by
  refine y_start (y := 139) rfl rfl (fun κ hC hT hN0 => ?_)
  refine y_steps hC 1 (σ' := (1, [(0, .int (nI i)), (1, .int (nI n)), (2, .null)], [.int (nI i)], [])) rfl ?_
  refine y_ifF hC (c := nI i < 0) rfl (nI_pos (by omega)) ?_
  refine y_steps hC 2 (σ' := (6, [(0, .int (nI i)), (1, .int (nI n)), (2, .null)], [.int (nI n), .int (nI i)], [])) rfl ?_
  refine y_if hC (c := nI i < nI n) rfl (fun c_6 => ?_) (fun c_6 => ?_)
  · skip
    rw [nI_ltI (by omega) (by omega)] at c_6
    refine y_steps hC 1 (σ' := (17, [(0, .int (nI i)), (1, .int (nI n)), (2, .null)], [.int (nI i)], [])) rfl ?_
    exact y_iret hC hT rfl rfl (by omega) (by omega) ⟨(by rfl), (by rfl)⟩
  · skip
    rw [nI_ltI (by omega) (by omega)] at c_6
    omega
set_option maxHeartbeats 4000000 in
set_option maxRecDepth 1000000 in
theorem c_J3_checkIndex_8e157_r {ε : y_Ev} {i : Nat} {n : Nat} {fm : Nat} (hi : i < n) (hn : n < 2 ^ 31) : y_C ε zmJ3_checkIndex_8e157 1 60 0 0 [.int (nI i), .int (nI n), .ref fm] (([] : va_W)) (fun r w2 => r = some (.int (nI i)) ∧ w2 = ([] : va_W)) := by
  refine y_start (y := 139) rfl rfl (fun κ hC hT hN0 => ?_)
  refine y_steps hC 1 (σ' := (1, [(0, .int (nI i)), (1, .int (nI n)), (2, .ref fm)], [.int (nI i)], [])) rfl ?_
  refine y_ifF hC (c := nI i < 0) rfl (nI_pos (by omega)) ?_
  refine y_steps hC 2 (σ' := (6, [(0, .int (nI i)), (1, .int (nI n)), (2, .ref fm)], [.int (nI n), .int (nI i)], [])) rfl ?_
  refine y_if hC (c := nI i < nI n) rfl (fun c_6 => ?_) (fun c_6 => ?_)
  · skip
    rw [nI_ltI (by omega) (by omega)] at c_6
    refine y_steps hC 1 (σ' := (17, [(0, .int (nI i)), (1, .int (nI n)), (2, .ref fm)], [.int (nI i)], [])) rfl ?_
    exact y_iret hC hT rfl rfl (by omega) (by omega) ⟨(by rfl), (by rfl)⟩
  · skip
    rw [nI_ltI (by omega) (by omega)] at c_6
    omega
set_option maxHeartbeats 4000000 in
set_option maxRecDepth 1000000 in
theorem c_J0_checkIndex_df160 {ε : y_Ev} {i : Nat} {n : Nat} (hi : i < n) (hn : n < 2 ^ 31) : y_C ε zmJ0_checkIndex_df160 2 82 0 0 [.int (nI i), .int (nI n)] (([] : va_W)) (fun r w2 => r = none ∧ w2 = ([] : va_W)) := by
  refine y_start (y := 124) rfl rfl (fun κ hC hT hN0 => ?_)
  refine y_steps hC 2 (σ' := (2, [(0, .int (nI i)), (1, .int (nI n))], [.int (nI n), .int (nI i)], [])) rfl ?_
  refine y_gsF hC rfl (z_t3 (i := 159) rfl rfl) ?_ (fun fm => ?_)
  · skip
    refine y_steps hC 0 (σ' := (5, [(0, .int (nI i)), (1, .int (nI n))], [.null, .int (nI n), .int (nI i)], [])) rfl ?_
    refine y_callS (y := 139) (idx := 1059) (w := ([] : va_W)) (wr := ([] : va_W)) (av := [.int (nI i), .int (nI n), .null]) hC rfl rfl (z_t3 (i := 161) rfl rfl) (z_t3 (i := 162) rfl rfl) (z_t1 (i := 17) rfl rfl) (c_J3_checkIndex_8e157_n (i := i) (n := n) (by first | assumption | omega | rfl | trivial) (by first | assumption | omega | rfl | trivial)) (by decide +kernel) rfl rfl (by omega) (by omega) rfl (fun r_5 w_5 p_5 => ?_)
    obtain ⟨rfl, rfl⟩ := p_5
    refine y_steps hC 1 (σ' := (9, [(0, .int (nI i)), (1, .int (nI n))], [], [])) rfl ?_
    exact y_vret hC hT rfl rfl (by omega) (by omega) ⟨rfl, (by rfl)⟩
  · skip
    refine y_steps hC 0 (σ' := (5, [(0, .int (nI i)), (1, .int (nI n))], [.ref fm, .int (nI n), .int (nI i)], [])) rfl ?_
    refine y_callS (y := 139) (idx := 1059) (w := ([] : va_W)) (wr := ([] : va_W)) (av := [.int (nI i), .int (nI n), .ref fm]) hC rfl rfl (z_t3 (i := 161) rfl rfl) (z_t3 (i := 162) rfl rfl) (z_t1 (i := 17) rfl rfl) (c_J3_checkIndex_8e157_r (i := i) (n := n) (fm := fm) (by first | assumption | omega | rfl | trivial) (by first | assumption | omega | rfl | trivial)) (by decide +kernel) rfl rfl (by omega) (by omega) rfl (fun r_5 w_5 p_5 => ?_)
    obtain ⟨rfl, rfl⟩ := p_5
    refine y_steps hC 1 (σ' := (9, [(0, .int (nI i)), (1, .int (nI n))], [], [])) rfl ?_
    exact y_vret hC hT rfl rfl (by omega) (by omega) ⟨rfl, (by rfl)⟩
set_option maxHeartbeats 4000000 in
set_option maxRecDepth 1000000 in
theorem c_J1_charAt_3b067 {ε : y_Ev} {t_a : Nat} {t_v : Nat} {t_f : Nat → Int32} {t_L : List Nat} {t_B : va_W} {i : Nat} (h_t : y_Tv ε t_a t_v t_f t_L t_B) (hi : i < t_L.length) : y_C ε zmJ1_charAt_3b067 3 103 0 0 [.ref t_v, .int (nI i)] (t_B) (fun r w2 => r = some (.int (nI (t_L.getD i 0))) ∧ w2 = t_B) := by
  have hc := y_Tc h_t hi; have h200 := h_t.2.2.2
  refine y_start (y := 131) rfl rfl (fun κ hC hT hN0 => ?_)
  refine y_steps hC 2 (σ' := (2, [(0, .ref t_v), (1, .int (nI i))], [.ref t_v, .int (nI i)], [])) rfl ?_
  refine y_tlen hC h_t (X := []) (k := 0) rfl rfl ?_
  refine y_steps hC 0 (σ' := (3, [(0, .ref t_v), (1, .int (nI i))], [.int (nI t_L.length), .int (nI i)], [])) rfl ?_
  refine y_callS (y := 124) (idx := 9) (w := ([] : va_W)) (wr := t_B) (av := [.int (nI i), .int (nI t_L.length)]) hC rfl rfl (z_t3 (i := 156) rfl rfl) (z_t3 (i := 157) rfl rfl) (z_t1 (i := 14) rfl rfl) (c_J0_checkIndex_df160 (i := i) (n := t_L.length) (by first | assumption | omega | rfl | trivial) (by first | assumption | omega | rfl | trivial)) (by decide +kernel) rfl rfl (by omega) (by omega) rfl (fun r_3 w_3 p_3 => ?_)
  obtain ⟨rfl, rfl⟩ := p_3
  refine y_steps hC 2 (σ' := (8, [(0, .ref t_v), (1, .int (nI i))], [.int (nI i), .ref t_v], [])) rfl ?_
  refine y_tbal hC h_t (X := []) (k := 0) rfl rfl (by first | assumption | omega | rfl | trivial) ?_
  refine y_steps hC 1 (σ' := (12, [(0, .ref t_v), (1, .int (nI i))], [.int (nI 255), .int (nI (t_L.getD i 0))], [])) rfl ?_
  have ey_12 : ((nI (t_L.getD i 0)) &&& (nI 255)) = nI (t_L.getD i 0) := y_and255 _ (by omega)
  refine y_one hC (σ' := (13, [(0, .ref t_v), (1, .int (nI i))], [.int (((nI (t_L.getD i 0)) &&& (nI 255)))], [])) rfl ?_
  rw [ey_12]
  refine y_steps hC 0 (σ' := (13, [(0, .ref t_v), (1, .int (nI i))], [.int (nI (t_L.getD i 0))], [])) rfl ?_
  refine y_i2c hC rfl (by omega) ?_
  refine y_steps hC 0 (σ' := (14, [(0, .ref t_v), (1, .int (nI i))], [.int (nI (t_L.getD i 0))], [])) rfl ?_
  exact y_zret hC hT rfl (Or.inr (Or.inr rfl)) (by exact (pk_charN (by omega)).1) rfl (by omega) (by omega) ⟨(by rfl), (by rfl)⟩
set_option maxHeartbeats 4000000 in
set_option maxRecDepth 1000000 in
theorem c_J0_charAt_5068e {ε : y_Ev} {t_a : Nat} {t_v : Nat} {t_f : Nat → Int32} {t_L : List Nat} {t_B : va_W} {i : Nat} (h_t : y_Tv ε t_a t_v t_f t_L t_B) (hi : i < t_L.length) : y_C ε zmJ0_charAt_5068e 4 124 0 0 [.ref t_a, .int (nI i)] (t_B) (fun r w2 => r = some (.int (nI (t_L.getD i 0))) ∧ w2 = t_B) := by
  have hc := y_Tc h_t hi
  refine y_start (y := 119) rfl rfl (fun κ hC hT hN0 => ?_)
  refine y_steps hC 1 (σ' := (1, [(0, .ref t_a), (1, .int (nI i))], [.ref t_a], [])) rfl ?_
  refine y_spl [t_B] [] ?_
  refine y_callV (b := t_a) (y := 123) (idx := 492) (w := y_J [t_B]) (wr := y_J []) (av := []) hC rfl rfl rfl (z_t3 (i := 149) rfl rfl) (z_t3 (i := 150) rfl rfl) (z_t3 (i := 151) rfl rfl) (z_t1 (i := 14) rfl rfl) (fun H locs hP hS => y_trec hC h_t (X := y_J []) (hP) hS) (c_J0_isLatin1_aae02 (t_a := t_a) (t_v := t_v) (t_f := t_f) (t_L := t_L) (t_B := t_B) h_t) (by decide +kernel) rfl rfl (by omega) (by omega) rfl (fun r_1 w_1 p_1 => ?_)
  obtain ⟨rfl, rfl⟩ := p_1
  refine y_cmb [t_B] [] ?_
  refine y_steps hC 2 (σ' := (8, [(0, .ref t_a), (1, .int (nI i))], [.ref t_a], [])) rfl ?_
  refine y_tval hC h_t (X := []) (k := 0) rfl rfl (z_t4 (i := 152) rfl rfl) ?_
  refine y_steps hC 1 (σ' := (12, [(0, .ref t_a), (1, .int (nI i))], [.int (nI i), .ref t_v], [])) rfl ?_
  refine y_spl [t_B] [] ?_
  refine y_callS (y := 131) (idx := 495) (w := y_J [t_B]) (wr := y_J []) (av := [.ref t_v, .int (nI i)]) hC rfl rfl (z_t3 (i := 153) rfl rfl) (z_t3 (i := 154) rfl rfl) (z_t1 (i := 18) rfl rfl) (c_J1_charAt_3b067 (t_a := _) (t_v := t_v) (t_f := t_f) (t_L := t_L) (t_B := t_B) (i := i) h_t (by first | assumption | omega | rfl | trivial)) (by decide +kernel) rfl rfl (by omega) (by omega) rfl (fun r_12 w_12 p_12 => ?_)
  obtain ⟨rfl, rfl⟩ := p_12
  refine y_cmb [t_B] [] ?_
  refine y_steps hC 0 (σ' := (15, [(0, .ref t_a), (1, .int (nI i))], [.int (nI (t_L.getD i 0))], [])) rfl ?_
  exact y_zret hC hT rfl (Or.inr (Or.inr rfl)) (by exact (pk_charN (by omega)).1) rfl (by omega) (by omega) ⟨(by rfl), (by rfl)⟩
set_option maxHeartbeats 4000000 in
set_option maxRecDepth 1000000 in
theorem c_J0_getBytes_840e7 {ε : y_Ev} {g : Nat → Int32} {t_a : Nat} {t_v : Nat} {t_f : Nat → Int32} {t_L : List Nat} {t_B : va_W} {d : Nat} {dp : Nat} {m : Nat} (h_t : y_Tv ε t_a t_v t_f t_L t_B) (hd : dp + t_L.length ≤ m) (hm : m ≤ 1000) : y_C ε zmJ0_getBytes_840e7 2 80 0 0 [.ref t_a, .ref d, .int (nI dp), .int (nI 0)] ((d, .inl (y_c ε 2, m, .inl g)) :: t_B) (fun r w2 => r = none ∧ w2 = (d, .inl (y_c ε 2, m, .inl (va_cpy t_f g 0 dp t_L.length))) :: t_B) := by
  refine y_start (y := 120) rfl rfl (fun κ hC hT hN0 => ?_)
  refine y_steps hC 1 (σ' := (1, [(0, .ref t_a), (1, .ref d), (2, .int (nI dp)), (3, .int (nI 0))], [.ref t_a], [])) rfl ?_
  refine y_mv [[(d, .inl (y_c ε 2, m, .inl g))]] (t_B) [] ?_
  refine y_spl [t_B] [[(d, .inl (y_c ε 2, m, .inl g))]] ?_
  refine y_callV (b := t_a) (y := 122) (idx := 335) (w := y_J [t_B]) (wr := y_J [[(d, .inl (y_c ε 2, m, .inl g))]]) (av := []) hC rfl rfl rfl (z_t3 (i := 139) rfl rfl) (z_t3 (i := 140) rfl rfl) (z_t3 (i := 141) rfl rfl) (z_t1 (i := 14) rfl rfl) (fun H locs hP hS => y_trec hC h_t (X := y_J [[(d, .inl (y_c ε 2, m, .inl g))]]) (hP) hS) (c_J0_coder_7d493 (t_a := t_a) (t_v := t_v) (t_f := t_f) (t_L := t_L) (t_B := t_B) h_t) (by decide +kernel) rfl rfl (by omega) (by omega) rfl (fun r_1 w_1 p_1 => ?_)
  obtain ⟨rfl, rfl⟩ := p_1
  refine y_cmb [t_B] [[(d, .inl (y_c ε 2, m, .inl g))]] ?_
  refine y_steps hC 3 (σ' := (9, [(0, .ref t_a), (1, .ref d), (2, .int (nI dp)), (3, .int (nI 0))], [.ref t_a], [])) rfl ?_
  refine y_mv [t_B] ([(d, .inl (y_c ε 2, m, .inl g))]) [] ?_
  refine y_tval hC h_t (X := [(d, .inl (y_c ε 2, m, .inl g))]) (k := 1) rfl rfl (z_t4 (i := 152) rfl rfl) ?_
  refine y_steps hC 4 (σ' := (16, [(0, .ref t_a), (1, .ref d), (2, .int (nI dp)), (3, .int (nI 0))], [.int (nI 0), .int (nI dp), .ref d, .int (nI 0), .ref t_v], [])) rfl ?_
  refine y_one hC (σ' := (17, [(0, .ref t_a), (1, .ref d), (2, .int (nI dp)), (3, .int (nI 0))], [.int (((nI dp) <<< (nI 0 &&& 31))), .ref d, .int (nI 0), .ref t_v], [])) rfl ?_
  rw [show (nI dp) <<< (nI 0 &&& 31) = nI dp from sb_shl0 _]
  refine y_steps hC 1 (σ' := (18, [(0, .ref t_a), (1, .ref d), (2, .int (nI dp)), (3, .int (nI 0))], [.ref t_a, .int (nI dp), .ref d, .int (nI 0), .ref t_v], [])) rfl ?_
  refine y_tval hC h_t (X := [(d, .inl (y_c ε 2, m, .inl g))]) (k := 1) rfl rfl (z_t4 (i := 152) rfl rfl) ?_
  refine y_steps hC 0 (σ' := (21, [(0, .ref t_a), (1, .ref d), (2, .int (nI dp)), (3, .int (nI 0))], [.ref t_v, .int (nI dp), .ref d, .int (nI 0), .ref t_v], [])) rfl ?_
  refine y_tlen hC h_t (X := [(d, .inl (y_c ε 2, m, .inl g))]) (k := 1) rfl rfl ?_
  refine y_steps hC 0 (σ' := (22, [(0, .ref t_a), (1, .ref d), (2, .int (nI dp)), (3, .int (nI 0))], [.int (nI t_L.length), .int (nI dp), .ref d, .int (nI 0), .ref t_v], [])) rfl ?_
  refine y_tcpy (k := 0) (X := [(d, .inl (y_c ε 2, m, .inl g))]) (ws2 := [(d, .inl (y_c ε 2, m, .inl (va_cpy t_f g 0 dp t_L.length)))]) hC h_t 0 rfl rfl (z_t4 (i := 77) rfl rfl) (z_t2 (i := 37) rfl rfl) (z_t2 (i := 36) rfl rfl) (z_t1 (i := 8) rfl rfl) (by first | assumption | omega | rfl | trivial) (by omega) (by decide) rfl rfl ?_
  refine y_steps hC 1 (σ' := (43, [(0, .ref t_a), (1, .ref d), (2, .int (nI dp)), (3, .int (nI 0))], [], [])) rfl ?_
  exact y_vret hC hT rfl rfl (by omega) (by omega) ⟨rfl, (by rfl)⟩
set_option maxHeartbeats 4000000 in
set_option maxRecDepth 1000000 in
theorem c_J5_inflateIfNeededFor_a7421 {ε : y_Ev} {a : Nat} {t_a : Nat} {t_v : Nat} {t_f : Nat → Int32} {t_L : List Nat} {t_B : va_W} {v : Nat} {n : Nat} (h_t : y_Tv ε t_a t_v t_f t_L t_B) : y_C ε zmJ5_inflateIfNeededFor_a7421 2 80 0 0 [.ref a, .ref t_a] ((a, .inr (7, [.ref v, .int (nI 0), .int (nI 0), .int (nI n)])) :: t_B) (fun r w2 => r = none ∧ w2 = (a, .inr (7, [.ref v, .int (nI 0), .int (nI 0), .int (nI n)])) :: t_B) := by
  refine y_start (y := 109) rfl rfl (fun κ hC hT hN0 => ?_)
  refine y_steps hC 0 (σ' := (0, [(0, .ref a), (1, .ref t_a)], [], [])) rfl ?_
  refine y_gsC hC rfl (z_t3 (i := 202) rfl rfl) ?_
  refine y_steps hC 2 (σ' := (7, [(0, .ref a), (1, .ref t_a)], [.ref a], [])) rfl ?_
  refine y_get (k := 0) (ci := 7) (j := 1) hC rfl rfl rfl rfl (z_t3 (i := 211) rfl rfl) rfl ?_
  refine y_steps hC 1 (σ' := (11, [(0, .ref a), (1, .ref t_a)], [.ref t_a, .int (nI 0)], [])) rfl ?_
  refine y_mv [[(a, .inr (7, [.ref v, .int (nI 0), .int (nI 0), .int (nI n)]))]] (t_B) [] ?_
  refine y_spl [t_B] [[(a, .inr (7, [.ref v, .int (nI 0), .int (nI 0), .int (nI n)]))]] ?_
  refine y_callV (b := t_a) (y := 122) (idx := 40) (w := y_J [t_B]) (wr := y_J [[(a, .inr (7, [.ref v, .int (nI 0), .int (nI 0), .int (nI n)]))]]) (av := []) hC rfl rfl rfl (z_t4 (i := 53) rfl rfl) (z_t3 (i := 140) rfl rfl) (z_t3 (i := 141) rfl rfl) (z_t1 (i := 14) rfl rfl) (fun H locs hP hS => y_trec hC h_t (X := y_J [[(a, .inr (7, [.ref v, .int (nI 0), .int (nI 0), .int (nI n)]))]]) (hP) hS) (c_J0_coder_7d493 (t_a := t_a) (t_v := t_v) (t_f := t_f) (t_L := t_L) (t_B := t_B) h_t) (by decide +kernel) rfl rfl (by omega) (by omega) rfl (fun r_11 w_11 p_11 => ?_)
  obtain ⟨rfl, rfl⟩ := p_11
  refine y_cmb [t_B] [[(a, .inr (7, [.ref v, .int (nI 0), .int (nI 0), .int (nI n)]))]] ?_
  refine y_steps hC 1 (σ' := (21, [(0, .ref a), (1, .ref t_a)], [], [])) rfl ?_
  refine y_mv [t_B] ([(a, .inr (7, [.ref v, .int (nI 0), .int (nI 0), .int (nI n)]))]) [] ?_
  exact y_vret hC hT rfl rfl (by omega) (by omega) ⟨rfl, (by rfl)⟩
set_option maxHeartbeats 4000000 in
set_option maxRecDepth 1000000 in
theorem c_J5_putStringAt_47b60 {ε : y_Ev} {g : Nat → Int32} {a : Nat} {i : Nat} {t_a : Nat} {t_v : Nat} {t_f : Nat → Int32} {t_L : List Nat} {t_B : va_W} {v : Nat} {n : Nat} {m : Nat} (h_t : y_Tv ε t_a t_v t_f t_L t_B) (hd : i + t_L.length ≤ m) (hm : m ≤ 1000) : y_C ε zmJ5_putStringAt_47b60 3 103 0 0 [.ref a, .int (nI i), .ref t_a] ((a, .inr (7, [.ref v, .int (nI 0), .int (nI 0), .int (nI n)])) :: ((v, .inl (y_c ε 2, m, .inl g)) :: t_B)) (fun r w2 => r = none ∧ w2 = (a, .inr (7, [.ref v, .int (nI 0), .int (nI 0), .int (nI n)])) :: ((v, .inl (y_c ε 2, m, .inl (va_cpy t_f g 0 i t_L.length))) :: t_B)) := by
  refine y_start (y := 110) rfl rfl (fun κ hC hT hN0 => ?_)
  refine y_steps hC 2 (σ' := (2, [(0, .ref a), (1, .int (nI i)), (2, .ref t_a)], [.ref t_a, .ref a], [])) rfl ?_
  refine y_mv [[(a, .inr (7, [.ref v, .int (nI 0), .int (nI 0), .int (nI n)]))], [(v, .inl (y_c ε 2, m, .inl g))]] (t_B) [] ?_
  refine y_mv [t_B] ([(a, .inr (7, [.ref v, .int (nI 0), .int (nI 0), .int (nI n)]))]) [[(v, .inl (y_c ε 2, m, .inl g))]] ?_
  refine y_spl [[(a, .inr (7, [.ref v, .int (nI 0), .int (nI 0), .int (nI n)]))], t_B] [[(v, .inl (y_c ε 2, m, .inl g))]] ?_
  refine y_callP (b := a) (C := "java/lang/StringBuilder") (x := ⟨"java/lang/AbstractStringBuilder", "inflateIfNeededFor", "(Ljava/lang/String;)V"⟩) (z := ⟨"java/lang/AbstractStringBuilder", "isLatin1", "()Z"⟩) (y := 109) (idx := 397) (w := y_J [[(a, .inr (7, [.ref v, .int (nI 0), .int (nI 0), .int (nI n)]))], t_B]) (wr := y_J [[(v, .inl (y_c ε 2, m, .inl g))]]) (av := [.ref t_a]) hC rfl rfl rfl (z_t4 (i := 49) rfl rfl) (z_t4 (i := 205) rfl rfl) (z_t4 (i := 27) rfl rfl) rfl (z_t4 (i := 50) rfl rfl) (z_t4 (i := 51) rfl rfl) (z_t1 (i := 12) rfl rfl) (fun H locs hP hS => y_rW (ci := 7) (k := 0) hC rfl rfl H locs hP hS) (c_J5_inflateIfNeededFor_a7421 (a := a) (t_a := t_a) (t_v := t_v) (t_f := t_f) (t_L := t_L) (t_B := t_B) (v := v) (n := n) h_t) (by decide +kernel) rfl rfl (by omega) (by omega) rfl (fun r_2 w_2 p_2 => ?_)
  obtain ⟨rfl, rfl⟩ := p_2
  refine y_cmb [[(a, .inr (7, [.ref v, .int (nI 0), .int (nI 0), .int (nI n)]))], t_B] [[(v, .inl (y_c ε 2, m, .inl g))]] ?_
  refine y_steps hC 2 (σ' := (7, [(0, .ref a), (1, .int (nI i)), (2, .ref t_a)], [.ref a, .ref t_a], [])) rfl ?_
  refine y_mv [[(a, .inr (7, [.ref v, .int (nI 0), .int (nI 0), .int (nI n)]))], t_B] ([(v, .inl (y_c ε 2, m, .inl g))]) [] ?_
  refine y_mv [[(v, .inl (y_c ε 2, m, .inl g))]] ([(a, .inr (7, [.ref v, .int (nI 0), .int (nI 0), .int (nI n)]))]) [t_B] ?_
  refine y_get (k := 0) (ci := 7) (j := 0) hC rfl rfl rfl rfl (z_t3 (i := 210) rfl rfl) rfl ?_
  refine y_steps hC 2 (σ' := (12, [(0, .ref a), (1, .int (nI i)), (2, .ref t_a)], [.ref a, .int (nI i), .ref v, .ref t_a], [])) rfl ?_
  refine y_get (k := 0) (ci := 7) (j := 1) hC rfl rfl rfl rfl (z_t3 (i := 211) rfl rfl) rfl ?_
  refine y_steps hC 0 (σ' := (15, [(0, .ref a), (1, .int (nI i)), (2, .ref t_a)], [.int (nI 0), .int (nI i), .ref v, .ref t_a], [])) rfl ?_
  refine y_mv [[(a, .inr (7, [.ref v, .int (nI 0), .int (nI 0), .int (nI n)]))], [(v, .inl (y_c ε 2, m, .inl g))]] (t_B) [] ?_
  refine y_mv [t_B, [(a, .inr (7, [.ref v, .int (nI 0), .int (nI 0), .int (nI n)]))]] ([(v, .inl (y_c ε 2, m, .inl g))]) [] ?_
  refine y_spl [[(v, .inl (y_c ε 2, m, .inl g))], t_B] [[(a, .inr (7, [.ref v, .int (nI 0), .int (nI 0), .int (nI n)]))]] ?_
  refine y_callV (b := t_a) (y := 120) (idx := 399) (w := y_J [[(v, .inl (y_c ε 2, m, .inl g))], t_B]) (wr := y_J [[(a, .inr (7, [.ref v, .int (nI 0), .int (nI 0), .int (nI n)]))]]) (av := [.ref v, .int (nI i), .int (nI 0)]) hC rfl rfl rfl (z_t4 (i := 73) rfl rfl) (z_t4 (i := 74) rfl rfl) (z_t4 (i := 75) rfl rfl) (z_t1 (i := 14) rfl rfl) (fun H locs hP hS => y_trec hC h_t (X := y_J [[(a, .inr (7, [.ref v, .int (nI 0), .int (nI 0), .int (nI n)]))]]) (zl_Pr (b := [(v, .inl (y_c ε 2, m, .inl g))]) (a := t_B ++ (y_J [[(a, .inr (7, [.ref v, .int (nI 0), .int (nI 0), .int (nI n)]))]])) hP) hS) (c_J0_getBytes_840e7 (g := g) (t_a := t_a) (t_v := t_v) (t_f := t_f) (t_L := t_L) (t_B := t_B) (d := v) (dp := i) (m := m) h_t (by first | assumption | omega | rfl | trivial) (by first | assumption | omega | rfl | trivial)) (by decide +kernel) rfl rfl (by omega) (by omega) rfl (fun r_15 w_15 p_15 => ?_)
  obtain ⟨rfl, rfl⟩ := p_15
  refine y_cmb [[(v, .inl (y_c ε 2, m, .inl (va_cpy t_f g 0 i t_L.length)))], t_B] [[(a, .inr (7, [.ref v, .int (nI 0), .int (nI 0), .int (nI n)]))]] ?_
  refine y_steps hC 0 (σ' := (18, [(0, .ref a), (1, .int (nI i)), (2, .ref t_a)], [], [])) rfl ?_
  refine y_mv [[(v, .inl (y_c ε 2, m, .inl (va_cpy t_f g 0 i t_L.length)))]] (t_B) [[(a, .inr (7, [.ref v, .int (nI 0), .int (nI 0), .int (nI n)]))]] ?_
  refine y_mv [t_B] ([(v, .inl (y_c ε 2, m, .inl (va_cpy t_f g 0 i t_L.length)))]) [[(a, .inr (7, [.ref v, .int (nI 0), .int (nI 0), .int (nI n)]))]] ?_
  refine y_mv [[(v, .inl (y_c ε 2, m, .inl (va_cpy t_f g 0 i t_L.length)))], t_B] ([(a, .inr (7, [.ref v, .int (nI 0), .int (nI 0), .int (nI n)]))]) [] ?_
  exact y_vret hC hT rfl rfl (by omega) (by omega) ⟨rfl, (by rfl)⟩
set_option maxHeartbeats 4000000 in
set_option maxRecDepth 1000000 in
theorem c_J5_append_cf1ce {ε : y_Ev} {f : Nat → Int32} {a : Nat} {t_a : Nat} {t_v : Nat} {t_f : Nat → Int32} {t_L : List Nat} {t_B : va_W} {v : Nat} {m : Nat} {L : List Nat} (h_t : y_Tv ε t_a t_v t_f t_L t_B) (hs : y_Sb L m f) (hl : L.length + t_L.length ≤ 100) : y_C ε zmJ5_append_cf1ce 5 151 1 1000 [.ref a, .ref t_a] ((a, .inr (7, [.ref v, .int (nI 0), .int (nI 0), .int (nI L.length)])) :: ((v, .inl (y_c ε 2, m, .inl f)) :: t_B)) (fun r w2 => ∃ (v2 : Nat) (m2 : Nat) (f2 : Nat → Int32), r = some (.ref a) ∧ w2 = (a, .inr (7, [.ref v2, .int (nI 0), .int (nI 0), .int (nI ((L ++ t_L).length))])) :: ((v2, .inl (y_c ε 2, m2, .inl f2)) :: t_B) ∧ (y_Sb (L ++ t_L) m2 f2)) := by
  obtain ⟨s1, s2, s3, s4, s5⟩ := id hs; have eL : (L ++ t_L).length = L.length + t_L.length := List.length_append
  refine y_start (y := 104) rfl rfl (fun κ hC hT hN0 => ?_)
  refine y_steps hC 3 (σ' := (10, [(0, .ref a), (1, .ref t_a)], [.ref t_a], [])) rfl ?_
  refine y_mv [[(a, .inr (7, [.ref v, .int (nI 0), .int (nI 0), .int (nI L.length)]))], [(v, .inl (y_c ε 2, m, .inl f))]] (t_B) [] ?_
  refine y_spl [t_B] [[(a, .inr (7, [.ref v, .int (nI 0), .int (nI 0), .int (nI L.length)]))], [(v, .inl (y_c ε 2, m, .inl f))]] ?_
  refine y_callV (b := t_a) (y := 118) (idx := 32) (w := y_J [t_B]) (wr := y_J [[(a, .inr (7, [.ref v, .int (nI 0), .int (nI 0), .int (nI L.length)]))], [(v, .inl (y_c ε 2, m, .inl f))]]) (av := []) hC rfl rfl rfl (z_t4 (i := 44) rfl rfl) (z_t3 (i := 136) rfl rfl) (z_t3 (i := 137) rfl rfl) (z_t1 (i := 14) rfl rfl) (fun H locs hP hS => y_trec hC h_t (X := y_J [[(a, .inr (7, [.ref v, .int (nI 0), .int (nI 0), .int (nI L.length)]))], [(v, .inl (y_c ε 2, m, .inl f))]]) (hP) hS) (c_J0_length_8abf5 (t_a := t_a) (t_v := t_v) (t_f := t_f) (t_L := t_L) (t_B := t_B) h_t) (by decide +kernel) rfl rfl (by omega) (by omega) rfl (fun r_10 w_10 p_10 => ?_)
  obtain ⟨rfl, rfl⟩ := p_10
  refine y_cmb [t_B] [[(a, .inr (7, [.ref v, .int (nI 0), .int (nI 0), .int (nI L.length)]))], [(v, .inl (y_c ε 2, m, .inl f))]] ?_
  refine y_steps hC 3 (σ' := (16, [(2, .int (nI t_L.length)), (0, .ref a), (1, .ref t_a)], [.ref a, .ref a], [])) rfl ?_
  refine y_mv [t_B, [(a, .inr (7, [.ref v, .int (nI 0), .int (nI 0), .int (nI L.length)]))]] ([(v, .inl (y_c ε 2, m, .inl f))]) [] ?_
  refine y_mv [[(v, .inl (y_c ε 2, m, .inl f))], t_B] ([(a, .inr (7, [.ref v, .int (nI 0), .int (nI 0), .int (nI L.length)]))]) [] ?_
  refine y_get (k := 0) (ci := 7) (j := 3) hC rfl rfl rfl rfl (z_t3 (i := 213) rfl rfl) rfl ?_
  refine y_steps hC 1 (σ' := (20, [(2, .int (nI t_L.length)), (0, .ref a), (1, .ref t_a)], [.int (nI t_L.length), .int (nI L.length), .ref a], [])) rfl ?_
  refine y_add hC (L.length + t_L.length) rfl (by first | rfl | omega) ?_
  refine y_steps hC 0 (σ' := (21, [(2, .int (nI t_L.length)), (0, .ref a), (1, .ref t_a)], [.int (nI (L.length + t_L.length)), .ref a], [])) rfl ?_
  refine y_callP (b := a) (C := "java/lang/StringBuilder") (x := ⟨"java/lang/AbstractStringBuilder", "ensureCapacityInternal", "(I)V"⟩) (z := ⟨"java/lang/AbstractStringBuilder", "isLatin1", "()Z"⟩) (y := 102) (idx := 100) (w := (a, .inr (7, [.ref v, .int (nI 0), .int (nI 0), .int (nI L.length)])) :: [(v, .inl (y_c ε 2, m, .inl f))]) (wr := t_B) (av := [.int (nI (L.length + t_L.length))]) hC rfl rfl rfl (z_t3 (i := 235) rfl rfl) (z_t4 (i := 202) rfl rfl) (z_t4 (i := 27) rfl rfl) rfl (z_t3 (i := 236) rfl rfl) (z_t3 (i := 237) rfl rfl) (z_t1 (i := 12) rfl rfl) (fun H locs hP hS => y_rW (ci := 7) (k := 0) hC rfl rfl H locs hP hS) (c_J5_ensureCapacityInternal_d00df (f := f) (a := a) (q := L.length + t_L.length) (v := v) (n := L.length) (m := m) (by first | assumption | omega | rfl | trivial) (by first | assumption | omega | rfl | trivial) (by exact s5)) (by decide +kernel) rfl rfl (by omega) (by omega) rfl (fun r_21 w_21 p_21 => ?_)
  obtain ⟨v2_21, m2_21, f2_21, rfl, rfl, q_21⟩ := p_21
  refine y_steps hC 2 (σ' := (26, [(2, .int (nI t_L.length)), (0, .ref a), (1, .ref t_a)], [.ref a, .ref a], [])) rfl ?_
  refine y_get (k := 0) (ci := 7) (j := 3) hC rfl rfl rfl rfl (z_t3 (i := 213) rfl rfl) rfl ?_
  refine y_steps hC 1 (σ' := (30, [(2, .int (nI t_L.length)), (0, .ref a), (1, .ref t_a)], [.ref t_a, .int (nI L.length), .ref a], [])) rfl ?_
  refine y_spl [[(a, .inr (7, [.ref v2_21, .int (nI 0), .int (nI 0), .int (nI L.length)]))], [(v2_21, .inl (y_c ε 2, m2_21, .inl f2_21))], t_B] [] ?_
  refine y_callP (b := a) (C := "java/lang/StringBuilder") (x := ⟨"java/lang/AbstractStringBuilder", "putStringAt", "(ILjava/lang/String;)V"⟩) (z := ⟨"java/lang/AbstractStringBuilder", "isLatin1", "()Z"⟩) (y := 110) (idx := 208) (w := y_J [[(a, .inr (7, [.ref v2_21, .int (nI 0), .int (nI 0), .int (nI L.length)]))], [(v2_21, .inl (y_c ε 2, m2_21, .inl f2_21))], t_B]) (wr := y_J []) (av := [.int (nI L.length), .ref t_a]) hC rfl rfl rfl (z_t4 (i := 45) rfl rfl) (z_t4 (i := 204) rfl rfl) (z_t4 (i := 27) rfl rfl) rfl (z_t4 (i := 46) rfl rfl) (z_t4 (i := 47) rfl rfl) (z_t1 (i := 12) rfl rfl) (fun H locs hP hS => y_rW (ci := 7) (k := 0) hC rfl rfl H locs hP hS) (c_J5_putStringAt_47b60 (g := f2_21) (a := a) (i := L.length) (t_a := t_a) (t_v := t_v) (t_f := t_f) (t_L := t_L) (t_B := t_B) (v := v2_21) (n := L.length) (m := m2_21) h_t (by have := q_21.1; omega) (by have := q_21.2.2.1; omega)) (by decide +kernel) rfl rfl (by omega) (by omega) rfl (fun r_30 w_30 p_30 => ?_)
  obtain ⟨rfl, rfl⟩ := p_30
  refine y_cmb [[(a, .inr (7, [.ref v2_21, .int (nI 0), .int (nI 0), .int (nI L.length)]))], [(v2_21, .inl (y_c ε 2, m2_21, .inl (va_cpy t_f f2_21 0 L.length t_L.length)))], t_B] [] ?_
  refine y_steps hC 2 (σ' := (35, [(2, .int (nI t_L.length)), (0, .ref a), (1, .ref t_a)], [.ref a, .ref a], [])) rfl ?_
  refine y_get (k := 0) (ci := 7) (j := 3) hC rfl rfl rfl rfl (z_t3 (i := 213) rfl rfl) rfl ?_
  refine y_steps hC 1 (σ' := (39, [(2, .int (nI t_L.length)), (0, .ref a), (1, .ref t_a)], [.int (nI t_L.length), .int (nI L.length), .ref a], [])) rfl ?_
  have ey_39 : ((nI L.length) + (nI t_L.length)) = nI ((L ++ t_L).length) := (nI_add _ _).trans (congrArg nI List.length_append.symm)
  refine y_one hC (σ' := (40, [(2, .int (nI t_L.length)), (0, .ref a), (1, .ref t_a)], [.int (((nI L.length) + (nI t_L.length))), .ref a], [])) rfl ?_
  rw [ey_39]
  refine y_steps hC 0 (σ' := (40, [(2, .int (nI t_L.length)), (0, .ref a), (1, .ref t_a)], [.int (nI ((L ++ t_L).length)), .ref a], [])) rfl ?_
  refine y_put (k := 0) (ci := 7) (j := 3) (ty := .int) (ws2 := ((a, .inr (7, [.ref v2_21, .int (nI 0), .int (nI 0), .int (nI ((L ++ t_L).length))])) :: ((v2_21, .inl (y_c ε 2, m2_21, .inl (va_cpy t_f f2_21 0 L.length t_L.length))) :: t_B))) hC rfl rfl rfl rfl (z_t3 (i := 213) rfl rfl) rfl (by decide +kernel) (by rfl) (by rfl) rfl rfl ?_
  refine y_steps hC 1 (σ' := (44, [(2, .int (nI t_L.length)), (0, .ref a), (1, .ref t_a)], [.ref a], [])) rfl ?_
  exact y_aret hC hT rfl (Or.inl ⟨_, rfl⟩) rfl (by omega) (by omega) ⟨v2_21, m2_21, (va_cpy t_f f2_21 0 L.length t_L.length), rfl, (by rfl), (by exact y_Sb_app hs h_t (by have := q_21.1; omega) q_21.2.2.1 q_21.2.2.2.1 q_21.2.2.2.2)⟩
set_option maxHeartbeats 4000000 in
set_option maxRecDepth 1000000 in
theorem c_J4_append_15ec4 {ε : y_Ev} {f : Nat → Int32} {a : Nat} {t_a : Nat} {t_v : Nat} {t_f : Nat → Int32} {t_L : List Nat} {t_B : va_W} {v : Nat} {m : Nat} {L : List Nat} (h_t : y_Tv ε t_a t_v t_f t_L t_B) (hs : y_Sb L m f) (hl : L.length + t_L.length ≤ 100) : y_C ε zmJ4_append_15ec4 6 173 1 1000 [.ref a, .ref t_a] ((a, .inr (7, [.ref v, .int (nI 0), .int (nI 0), .int (nI L.length)])) :: ((v, .inl (y_c ε 2, m, .inl f)) :: t_B)) (fun r w2 => ∃ (v2 : Nat) (m2 : Nat) (f2 : Nat → Int32), r = some (.ref a) ∧ w2 = (a, .inr (7, [.ref v2, .int (nI 0), .int (nI 0), .int (nI ((L ++ t_L).length))])) :: ((v2, .inl (y_c ε 2, m2, .inl f2)) :: t_B) ∧ (y_Sb (L ++ t_L) m2 f2)) := by
  refine y_start (y := 126) rfl rfl (fun κ hC hT hN0 => ?_)
  refine y_steps hC 2 (σ' := (2, [(0, .ref a), (1, .ref t_a)], [.ref t_a, .ref a], [])) rfl ?_
  refine y_spl [[(a, .inr (7, [.ref v, .int (nI 0), .int (nI 0), .int (nI L.length)]))], [(v, .inl (y_c ε 2, m, .inl f))], t_B] [] ?_
  obtain ⟨cC_2, hat_2⟩ := y_at (ci := 7) hC rfl
  refine y_callSU (b := a) (y := 104) (idx := 29) (w := y_J [[(a, .inr (7, [.ref v, .int (nI 0), .int (nI 0), .int (nI L.length)]))], [(v, .inl (y_c ε 2, m, .inl f))], t_B]) (wr := y_J []) (av := [.ref t_a]) hC rfl rfl (by decide) (z_t3 (i := 228) rfl rfl) (z_t4 (i := 200) rfl rfl) (z_t3 (i := 222) rfl rfl) (z_t3 (i := 229) rfl rfl) (z_t1 (i := 12) rfl rfl) hat_2 (fun H locs hP hS => y_rW (ci := 7) (k := 0) hC rfl rfl H locs hP hS) (c_J5_append_cf1ce (f := f) (a := a) (t_a := t_a) (t_v := t_v) (t_f := t_f) (t_L := t_L) (t_B := t_B) (v := v) (m := m) (L := L) h_t (by exact hs) (by first | assumption | omega | rfl | trivial)) (by decide +kernel) rfl rfl (by omega) (by omega) rfl (fun r_2 w_2 p_2 => ?_)
  obtain ⟨v2_2, m2_2, f2_2, rfl, rfl, q_2⟩ := p_2
  refine y_cmb [[(a, .inr (7, [.ref v2_2, .int (nI 0), .int (nI 0), .int (nI ((L ++ t_L).length))]))], [(v2_2, .inl (y_c ε 2, m2_2, .inl f2_2))], t_B] [] ?_
  refine y_steps hC 2 (σ' := (7, [(0, .ref a), (1, .ref t_a)], [.ref a], [])) rfl ?_
  exact y_aret hC hT rfl (Or.inl ⟨_, rfl⟩) rfl (by omega) (by omega) ⟨v2_2, m2_2, f2_2, rfl, (by rfl), (by exact q_2)⟩
set_option maxHeartbeats 4000000 in
set_option maxRecDepth 1000000 in
theorem c_J6_stringSize_0f7a4_1 {ε : y_Ev} {x : Nat} (hx : x < 10) : y_C ε zmJ6_stringSize_0f7a4 1 60 0 0 [.int (nI x)] (([] : va_W)) (fun r w2 => r = some (.int (nI 1)) ∧ w2 = ([] : va_W)) := by
  refine y_start (y := 112) rfl rfl (fun κ hC hT hN0 => ?_)
  refine y_steps hC 3 (σ' := (3, [(1, .int (nI 1)), (0, .int (nI x))], [.int (nI x)], [])) rfl ?_
  refine y_ifF hC (c := nI x < 0) rfl (nI_pos (by omega)) ?_
  refine y_steps hC 14 (σ' := (24, [(3, .int (nI 1)), (2, .int ((-nI 10))), (0, .int ((-(nI x)))), (1, .int (nI 0))], [.int ((-nI 10)), .int ((-(nI x)))], [])) rfl ?_
  refine y_ifF hC (c := (-(nI x)) ≤ (-nI 10)) rfl (by first | exact (sb_nle (by omega) (by omega)).mpr (by omega) | (intro z; have := (sb_nle (a := x) (b := 10) (by omega) (by omega)).mp z; omega) | (intro z; rw [show nI 10 * -nI 10 = -nI 100 by decide] at z; have := (sb_nle (a := x) (b := 100) (by omega) (by omega)).mp z; omega)) ?_
  refine y_steps hC 2 (σ' := (29, [(3, .int (nI 1)), (2, .int ((-nI 10))), (0, .int ((-(nI x)))), (1, .int (nI 0))], [.int (nI 0), .int (nI 1)], [])) rfl ?_
  refine y_add hC (1) rfl (by first | rfl | omega) ?_
  refine y_steps hC 0 (σ' := (30, [(3, .int (nI 1)), (2, .int ((-nI 10))), (0, .int ((-(nI x)))), (1, .int (nI 0))], [.int (nI 1)], [])) rfl ?_
  exact y_iret hC hT rfl rfl (by omega) (by omega) ⟨(by rfl), (by rfl)⟩
set_option maxHeartbeats 4000000 in
set_option maxRecDepth 1000000 in
theorem c_J6_getChars_ba4f3_1 {ε : y_Ev} {g : Nat → Int32} {x : Nat} {i : Nat} {d : Nat} {m : Nat} (hx : x < 10) (hi : 1 ≤ i ∧ i ≤ m) (hm : m ≤ 1000) : y_C ε zmJ6_getChars_ba4f3 1 60 0 0 [.int (nI x), .int (nI i), .ref d] ([(d, .inl (y_c ε 2, m, .inl g))]) (fun r w2 => r = some (.int (nI (i - 1))) ∧ w2 = [(d, .inl (y_c ε 2, m, .inl (upd g (i - 1) (nI (48 + x % 10)))))]) := by
  refine y_start (y := 111) rfl rfl (fun κ hC hT hN0 => ?_)
  refine y_steps hC 3 (σ' := (4, [(5, .int (nI i)), (0, .int (nI x)), (1, .int (nI i)), (2, .ref d)], [.int (nI x)], [])) rfl ?_
  refine y_ifT hC (c := 0 ≤ nI x) rfl (nI_pos' (by omega)) ?_
  refine y_steps hC 9 (σ' := (25, [(0, .int ((-(nI x)))), (6, .int (nI 0)), (5, .int (nI i)), (1, .int (nI i)), (2, .ref d)], [.int ((-nI 100)), .int ((-(nI x)))], [])) rfl ?_
  refine y_ifT hC (c := (-nI 100) < (-(nI x))) rfl (by exact (sb_nlt (by omega) (by omega)).mpr (by omega)) ?_
  refine y_steps hC 1 (σ' := (73, [(0, .int ((-(nI x)))), (6, .int (nI 0)), (5, .int (nI i)), (1, .int (nI i)), (2, .ref d)], [.ref d], [])) rfl ?_
  refine y_dec hC (n := 0) rfl rfl rfl (i - 1) (by first | assumption | omega | rfl | trivial) (by first | assumption | omega | rfl | trivial) [(5, .int (nI (i - 1))), (0, .int ((-(nI x)))), (6, .int (nI 0)), (1, .int (nI i)), (2, .ref d)] rfl ?_
  refine y_steps hC 1 (σ' := (78, [(5, .int (nI (i - 1))), (0, .int ((-(nI x)))), (6, .int (nI 0)), (1, .int (nI i)), (2, .ref d)], [.int (nI (i - 1)), .ref d], [])) rfl ?_
  refine y_gs1 hC rfl (z_t4 (i := 94) rfl rfl) ?_
  refine y_steps hC 2 (σ' := (83, [(5, .int (nI (i - 1))), (0, .int ((-(nI x)))), (6, .int (nI 0)), (1, .int (nI i)), (2, .ref d)], [.int ((-((-(nI x))))), .ref (y_a ε 40), .int (nI (i - 1)), .ref d], [])) rfl ?_
  have er_82 : (-((-(nI x)))) = nI x := Int32.neg_neg _
  rw [er_82]
  refine y_dg1 hC rfl (by first | assumption | omega | rfl | trivial) ?_
  refine y_steps hC 0 (σ' := (84, [(5, .int (nI (i - 1))), (0, .int ((-(nI x)))), (6, .int (nI 0)), (1, .int (nI i)), (2, .ref d)], [.int (nI (48 + x % 10)), .int (nI (i - 1)), .ref d], [])) rfl ?_
  refine y_bas (ws2 := ([(d, .inl (y_c ε 2, m, .inl (upd g (i - 1) (nI (48 + x % 10)))))])) hC 0 rfl rfl (by first | assumption | omega | rfl | trivial) (by omega) (by exact z_narN _ (by omega)) rfl ?_
  refine y_steps hC 2 (σ' := (88, [(5, .int (nI (i - 1))), (0, .int ((-(nI x)))), (6, .int (nI 0)), (1, .int (nI i)), (2, .ref d)], [.int ((-nI 9)), .int ((-(nI x)))], [])) rfl ?_
  refine y_ifT hC (c := (-nI 9) ≤ (-(nI x))) rfl (by first | exact (sb_nle (by omega) (by omega)).mpr (by omega) | (intro z; have := (sb_nle (a := 9) (b := x) (by omega) (by omega)).mp z; omega)) ?_
  refine y_steps hC 3 (σ' := (120, [(5, .int (nI (i - 1))), (0, .int ((-(nI x)))), (6, .int (nI 0)), (1, .int (nI i)), (2, .ref d)], [.int (nI (i - 1))], [])) rfl ?_
  exact y_iret hC hT rfl rfl (by omega) (by omega) ⟨(by rfl), (by rfl)⟩
set_option maxHeartbeats 4000000 in
set_option maxRecDepth 1000000 in
theorem c_J5_append_c97b9_1 {ε : y_Ev} {f : Nat → Int32} {a : Nat} {x : Nat} {v : Nat} {m : Nat} {L : List Nat} (hs : y_Sb L m f) (hx : x < 10) (hl : L.length + 1 ≤ 100) : y_C ε zmJ5_append_c97b9 5 151 1 1000 [.ref a, .int (nI x)] ((a, .inr (7, [.ref v, .int (nI 0), .int (nI 0), .int (nI L.length)])) :: [(v, .inl (y_c ε 2, m, .inl f))]) (fun r w2 => ∃ (v2 : Nat) (m2 : Nat) (f2 : Nat → Int32), r = some (.ref a) ∧ w2 = (a, .inr (7, [.ref v2, .int (nI 0), .int (nI 0), .int (nI ((L ++ [48 + x]).length))])) :: [(v2, .inl (y_c ε 2, m2, .inl f2))] ∧ (y_Sb (L ++ [48 + x]) m2 f2)) := by
  obtain ⟨s1, s2, s3, s4, s5⟩ := id hs; have eL : (L ++ [48 + x]).length = L.length + 1 := List.length_append
  refine y_start (y := 106) rfl rfl (fun κ hC hT hN0 => ?_)
  refine y_steps hC 1 (σ' := (1, [(0, .ref a), (1, .int (nI x))], [.ref a], [])) rfl ?_
  refine y_get (k := 0) (ci := 7) (j := 3) hC rfl rfl rfl rfl (z_t3 (i := 213) rfl rfl) rfl ?_
  refine y_steps hC 3 (σ' := (7, [(2, .int (nI L.length)), (0, .ref a), (1, .int (nI x))], [.int (nI x), .int (nI L.length)], [])) rfl ?_
  refine y_callS (y := 112) (idx := 245) (w := ([] : va_W)) (wr := (a, .inr (7, [.ref v, .int (nI 0), .int (nI 0), .int (nI L.length)])) :: [(v, .inl (y_c ε 2, m, .inl f))]) (av := [.int (nI x)]) hC rfl rfl (z_t4 (i := 88) rfl rfl) (z_t4 (i := 89) rfl rfl) (z_t1 (i := 11) rfl rfl) (c_J6_stringSize_0f7a4_1 (x := x) (by first | assumption | omega | rfl | trivial)) (by decide +kernel) rfl rfl (by omega) (by omega) rfl (fun r_7 w_7 p_7 => ?_)
  obtain ⟨rfl, rfl⟩ := p_7
  refine y_steps hC 0 (σ' := (10, [(2, .int (nI L.length)), (0, .ref a), (1, .int (nI x))], [.int (nI 1), .int (nI L.length)], [])) rfl ?_
  have ey_10 : ((nI L.length) + (nI 1)) = nI ((L ++ [48 + x]).length) := (nI_add _ _).trans (congrArg nI eL.symm)
  refine y_one hC (σ' := (11, [(2, .int (nI L.length)), (0, .ref a), (1, .int (nI x))], [.int (((nI L.length) + (nI 1)))], [])) rfl ?_
  rw [ey_10]
  refine y_steps hC 3 (σ' := (14, [(3, .int (nI ((L ++ [48 + x]).length))), (2, .int (nI L.length)), (0, .ref a), (1, .int (nI x))], [.int (nI ((L ++ [48 + x]).length)), .ref a], [])) rfl ?_
  refine y_callP (b := a) (C := "java/lang/StringBuilder") (x := ⟨"java/lang/AbstractStringBuilder", "ensureCapacityInternal", "(I)V"⟩) (z := ⟨"java/lang/AbstractStringBuilder", "isLatin1", "()Z"⟩) (y := 102) (idx := 100) (w := (a, .inr (7, [.ref v, .int (nI 0), .int (nI 0), .int (nI L.length)])) :: [(v, .inl (y_c ε 2, m, .inl f))]) (wr := ([] : va_W)) (av := [.int (nI ((L ++ [48 + x]).length))]) hC rfl rfl rfl (z_t3 (i := 235) rfl rfl) (z_t4 (i := 202) rfl rfl) (z_t4 (i := 27) rfl rfl) rfl (z_t3 (i := 236) rfl rfl) (z_t3 (i := 237) rfl rfl) (z_t1 (i := 12) rfl rfl) (fun H locs hP hS => y_rW (ci := 7) (k := 0) hC rfl rfl H locs hP hS) (c_J5_ensureCapacityInternal_d00df (f := f) (a := a) (q := (L ++ [48 + x]).length) (v := v) (n := L.length) (m := m) (by first | assumption | omega | rfl | trivial) (by first | assumption | omega | rfl | trivial) (by exact s5)) (by decide +kernel) rfl rfl (by omega) (by omega) rfl (fun r_14 w_14 p_14 => ?_)
  obtain ⟨v2_14, m2_14, f2_14, rfl, rfl, q_14⟩ := p_14
  refine y_steps hC 1 (σ' := (18, [(3, .int (nI ((L ++ [48 + x]).length))), (2, .int (nI L.length)), (0, .ref a), (1, .int (nI x))], [.ref a], [])) rfl ?_
  refine y_callU (b := a) (C := "java/lang/StringBuilder") (x := ⟨"java/lang/AbstractStringBuilder", "isLatin1", "()Z"⟩) (y := 108) (idx := 83) (w := [(a, .inr (7, [.ref v2_14, .int (nI 0), .int (nI 0), .int (nI L.length)]))]) (wr := [(v2_14, .inl (y_c ε 2, m2_14, .inl f2_14))]) (av := []) hC rfl rfl rfl (z_t4 (i := 24) rfl rfl) (z_t4 (i := 26) rfl rfl) (z_t4 (i := 27) rfl rfl) (z_t4 (i := 25) rfl rfl) (z_t1 (i := 12) rfl rfl) (fun H locs hP hS => y_rW (ci := 7) (k := 0) hC rfl rfl H locs hP hS) (c_J5_isLatin1_aae02 (a := a) (v := v2_14) (n := L.length) ) (by decide +kernel) rfl rfl (by omega) (by omega) rfl (fun r_18 w_18 p_18 => ?_)
  obtain ⟨rfl, rfl⟩ := p_18
  refine y_steps hC 4 (σ' := (27, [(3, .int (nI ((L ++ [48 + x]).length))), (2, .int (nI L.length)), (0, .ref a), (1, .int (nI x))], [.ref a, .int (nI ((L ++ [48 + x]).length)), .int (nI x)], [])) rfl ?_
  refine y_get (k := 0) (ci := 7) (j := 0) hC rfl rfl rfl rfl (z_t3 (i := 210) rfl rfl) rfl ?_
  refine y_steps hC 0 (σ' := (30, [(3, .int (nI ((L ++ [48 + x]).length))), (2, .int (nI L.length)), (0, .ref a), (1, .int (nI x))], [.ref v2_14, .int (nI ((L ++ [48 + x]).length)), .int (nI x)], [])) rfl ?_
  refine y_mv [[(a, .inr (7, [.ref v2_14, .int (nI 0), .int (nI 0), .int (nI L.length)]))]] ([(v2_14, .inl (y_c ε 2, m2_14, .inl f2_14))]) [] ?_
  refine y_callS (y := 111) (idx := 248) (w := [(v2_14, .inl (y_c ε 2, m2_14, .inl f2_14))]) (wr := [(a, .inr (7, [.ref v2_14, .int (nI 0), .int (nI 0), .int (nI L.length)]))]) (av := [.int (nI x), .int (nI ((L ++ [48 + x]).length)), .ref v2_14]) hC rfl rfl (z_t4 (i := 91) rfl rfl) (z_t4 (i := 92) rfl rfl) (z_t1 (i := 11) rfl rfl) (c_J6_getChars_ba4f3_1 (g := f2_14) (x := x) (i := (L ++ [48 + x]).length) (d := v2_14) (m := m2_14) (by first | assumption | omega | rfl | trivial) (by have := q_14.1; omega) (by have := q_14.2.2.1; omega)) (by decide +kernel) rfl rfl (by omega) (by omega) rfl (fun r_30 w_30 p_30 => ?_)
  obtain ⟨rfl, rfl⟩ := p_30
  refine y_steps hC 4 (σ' := (50, [(3, .int (nI ((L ++ [48 + x]).length))), (2, .int (nI L.length)), (0, .ref a), (1, .int (nI x))], [.int (nI ((L ++ [48 + x]).length)), .ref a], [])) rfl ?_
  refine y_put (k := 1) (ci := 7) (j := 3) (ty := .int) (ws2 := ((v2_14, .inl (y_c ε 2, m2_14, .inl (upd f2_14 (((L ++ [48 + x]).length) - 1) (nI (48 + x % 10))))) :: ([(a, .inr (7, [.ref v2_14, .int (nI 0), .int (nI 0), .int (nI ((L ++ [48 + x]).length))]))]))) hC rfl rfl rfl rfl (z_t3 (i := 213) rfl rfl) rfl (by decide +kernel) (by rfl) (by rfl) rfl rfl ?_
  refine y_steps hC 1 (σ' := (54, [(3, .int (nI ((L ++ [48 + x]).length))), (2, .int (nI L.length)), (0, .ref a), (1, .int (nI x))], [.ref a], [])) rfl ?_
  refine y_mv [[(v2_14, .inl (y_c ε 2, m2_14, .inl (upd f2_14 (((L ++ [48 + x]).length) - 1) (nI (48 + x % 10)))))]] ([(a, .inr (7, [.ref v2_14, .int (nI 0), .int (nI 0), .int (nI ((L ++ [48 + x]).length))]))]) [] ?_
  exact y_aret hC hT rfl (Or.inl ⟨_, rfl⟩) rfl (by omega) (by omega) ⟨v2_14, m2_14, (upd f2_14 (((L ++ [48 + x]).length) - 1) (nI (48 + x % 10))), rfl, (by rfl), (by rw [show (L ++ [48 + x]).length - 1 = L.length by omega, show 48 + x % 10 = 48 + x by omega]; exact y_Sb_one hs (by omega) (by have := q_14.1; omega) q_14.2.2.1 q_14.2.2.2.1 q_14.2.2.2.2)⟩
set_option maxHeartbeats 4000000 in
set_option maxRecDepth 1000000 in
theorem c_J4_append_bf812_1 {ε : y_Ev} {f : Nat → Int32} {a : Nat} {x : Nat} {v : Nat} {m : Nat} {L : List Nat} (hs : y_Sb L m f) (hx : x < 10) (hl : L.length + 1 ≤ 100) : y_C ε zmJ4_append_bf812 6 174 1 1000 [.ref a, .int (nI x)] ((a, .inr (7, [.ref v, .int (nI 0), .int (nI 0), .int (nI L.length)])) :: [(v, .inl (y_c ε 2, m, .inl f))]) (fun r w2 => ∃ (v2 : Nat) (m2 : Nat) (f2 : Nat → Int32), r = some (.ref a) ∧ w2 = (a, .inr (7, [.ref v2, .int (nI 0), .int (nI 0), .int (nI ((L ++ [48 + x]).length))])) :: [(v2, .inl (y_c ε 2, m2, .inl f2))] ∧ (y_Sb (L ++ [48 + x]) m2 f2)) := by
  refine y_start (y := 128) rfl rfl (fun κ hC hT hN0 => ?_)
  refine y_steps hC 2 (σ' := (2, [(0, .ref a), (1, .int (nI x))], [.int (nI x), .ref a], [])) rfl ?_
  obtain ⟨cC_2, hat_2⟩ := y_at (ci := 7) hC rfl
  refine y_callSU (b := a) (y := 106) (idx := 53) (w := (a, .inr (7, [.ref v, .int (nI 0), .int (nI 0), .int (nI L.length)])) :: [(v, .inl (y_c ε 2, m, .inl f))]) (wr := ([] : va_W)) (av := [.int (nI x)]) hC rfl rfl (by decide) (z_t4 (i := 85) rfl rfl) (z_t4 (i := 207) rfl rfl) (z_t3 (i := 222) rfl rfl) (z_t4 (i := 86) rfl rfl) (z_t1 (i := 12) rfl rfl) hat_2 (fun H locs hP hS => y_rW (ci := 7) (k := 0) hC rfl rfl H locs hP hS) (c_J5_append_c97b9_1 (f := f) (a := a) (x := x) (v := v) (m := m) (L := L) (by exact hs) (by exact hx) (by first | assumption | omega | rfl | trivial)) (by decide +kernel) rfl rfl (by omega) (by omega) rfl (fun r_2 w_2 p_2 => ?_)
  obtain ⟨v2_2, m2_2, f2_2, rfl, rfl, q_2⟩ := p_2
  refine y_steps hC 2 (σ' := (7, [(0, .ref a), (1, .int (nI x))], [.ref a], [])) rfl ?_
  exact y_aret hC hT rfl (Or.inl ⟨_, rfl⟩) rfl (by omega) (by omega) ⟨v2_2, m2_2, f2_2, rfl, (by rfl), (by exact q_2)⟩
set_option maxHeartbeats 4000000 in
set_option maxRecDepth 1000000 in
theorem c_J6_stringSize_0f7a4_2 {ε : y_Ev} {x : Nat} (hx : 10 ≤ x ∧ x < 100) : y_C ε zmJ6_stringSize_0f7a4 1 60 0 0 [.int (nI x)] (([] : va_W)) (fun r w2 => r = some (.int (nI 2)) ∧ w2 = ([] : va_W)) := by
  refine y_start (y := 112) rfl rfl (fun κ hC hT hN0 => ?_)
  refine y_steps hC 3 (σ' := (3, [(1, .int (nI 1)), (0, .int (nI x))], [.int (nI x)], [])) rfl ?_
  refine y_ifF hC (c := nI x < 0) rfl (nI_pos (by omega)) ?_
  refine y_steps hC 14 (σ' := (24, [(3, .int (nI 1)), (2, .int ((-nI 10))), (0, .int ((-(nI x)))), (1, .int (nI 0))], [.int ((-nI 10)), .int ((-(nI x)))], [])) rfl ?_
  refine y_ifT hC (c := (-(nI x)) ≤ (-nI 10)) rfl (by first | exact (sb_nle (by omega) (by omega)).mpr (by omega) | (intro z; have := (sb_nle (a := x) (b := 10) (by omega) (by omega)).mp z; omega) | (intro z; rw [show nI 10 * -nI 10 = -nI 100 by decide] at z; have := (sb_nle (a := x) (b := 100) (by omega) (by omega)).mp z; omega)) ?_
  refine y_steps hC 4 (σ' := (36, [(2, .int (((nI 10) * ((-nI 10))))), (3, .int (nI 1)), (0, .int ((-(nI x)))), (1, .int (nI 0))], [], [])) rfl ?_
  refine y_inc hC (n := 1) rfl rfl rfl (2) (by rfl) [(3, .int (nI 2)), (2, .int (((nI 10) * ((-nI 10))))), (0, .int ((-(nI x)))), (1, .int (nI 0))] rfl ?_
  refine y_steps hC 6 (σ' := (24, [(3, .int (nI 2)), (2, .int (((nI 10) * ((-nI 10))))), (0, .int ((-(nI x)))), (1, .int (nI 0))], [.int (((nI 10) * ((-nI 10)))), .int ((-(nI x)))], [])) rfl ?_
  refine y_ifT hC (c := (-(nI x)) ≤ ((nI 10) * ((-nI 10)))) rfl (by first | exact (sb_nle (by omega) (by omega)).mpr (by omega) | (intro z; have := (sb_nle (a := x) (b := 10) (by omega) (by omega)).mp z; omega) | (intro z; rw [show nI 10 * -nI 10 = -nI 100 by decide] at z; have := (sb_nle (a := x) (b := 100) (by omega) (by omega)).mp z; omega)) ?_
  refine y_steps hC 4 (σ' := (36, [(2, .int (((nI 10) * (((nI 10) * ((-nI 10))))))), (3, .int (nI 2)), (0, .int ((-(nI x)))), (1, .int (nI 0))], [], [])) rfl ?_
  refine y_inc hC (n := 1) rfl rfl rfl (3) (by rfl) [(3, .int (nI 3)), (2, .int (((nI 10) * (((nI 10) * ((-nI 10))))))), (0, .int ((-(nI x)))), (1, .int (nI 0))] rfl ?_
  refine y_steps hC 6 (σ' := (24, [(3, .int (nI 3)), (2, .int (((nI 10) * (((nI 10) * ((-nI 10))))))), (0, .int ((-(nI x)))), (1, .int (nI 0))], [.int (((nI 10) * (((nI 10) * ((-nI 10)))))), .int ((-(nI x)))], [])) rfl ?_
  refine y_ifT hC (c := (-(nI x)) ≤ ((nI 10) * (((nI 10) * ((-nI 10)))))) rfl (by first | exact (sb_nle (by omega) (by omega)).mpr (by omega) | (intro z; have := (sb_nle (a := x) (b := 10) (by omega) (by omega)).mp z; omega) | (intro z; rw [show nI 10 * -nI 10 = -nI 100 by decide] at z; have := (sb_nle (a := x) (b := 100) (by omega) (by omega)).mp z; omega)) ?_
  refine y_steps hC 4 (σ' := (36, [(2, .int (((nI 10) * (((nI 10) * (((nI 10) * ((-nI 10))))))))), (3, .int (nI 3)), (0, .int ((-(nI x)))), (1, .int (nI 0))], [], [])) rfl ?_
  refine y_inc hC (n := 1) rfl rfl rfl (4) (by rfl) [(3, .int (nI 4)), (2, .int (((nI 10) * (((nI 10) * (((nI 10) * ((-nI 10))))))))), (0, .int ((-(nI x)))), (1, .int (nI 0))] rfl ?_
  refine y_steps hC 6 (σ' := (24, [(3, .int (nI 4)), (2, .int (((nI 10) * (((nI 10) * (((nI 10) * ((-nI 10))))))))), (0, .int ((-(nI x)))), (1, .int (nI 0))], [.int (((nI 10) * (((nI 10) * (((nI 10) * ((-nI 10)))))))), .int ((-(nI x)))], [])) rfl ?_
  refine y_ifT hC (c := (-(nI x)) ≤ ((nI 10) * (((nI 10) * (((nI 10) * ((-nI 10)))))))) rfl (by first | exact (sb_nle (by omega) (by omega)).mpr (by omega) | (intro z; have := (sb_nle (a := x) (b := 10) (by omega) (by omega)).mp z; omega) | (intro z; rw [show nI 10 * -nI 10 = -nI 100 by decide] at z; have := (sb_nle (a := x) (b := 100) (by omega) (by omega)).mp z; omega)) ?_
  refine y_steps hC 4 (σ' := (36, [(2, .int (((nI 10) * (((nI 10) * (((nI 10) * (((nI 10) * ((-nI 10))))))))))), (3, .int (nI 4)), (0, .int ((-(nI x)))), (1, .int (nI 0))], [], [])) rfl ?_
  refine y_inc hC (n := 1) rfl rfl rfl (5) (by rfl) [(3, .int (nI 5)), (2, .int (((nI 10) * (((nI 10) * (((nI 10) * (((nI 10) * ((-nI 10))))))))))), (0, .int ((-(nI x)))), (1, .int (nI 0))] rfl ?_
  refine y_steps hC 6 (σ' := (24, [(3, .int (nI 5)), (2, .int (((nI 10) * (((nI 10) * (((nI 10) * (((nI 10) * ((-nI 10))))))))))), (0, .int ((-(nI x)))), (1, .int (nI 0))], [.int (((nI 10) * (((nI 10) * (((nI 10) * (((nI 10) * ((-nI 10)))))))))), .int ((-(nI x)))], [])) rfl ?_
  refine y_ifT hC (c := (-(nI x)) ≤ ((nI 10) * (((nI 10) * (((nI 10) * (((nI 10) * ((-nI 10)))))))))) rfl (by first | exact (sb_nle (by omega) (by omega)).mpr (by omega) | (intro z; have := (sb_nle (a := x) (b := 10) (by omega) (by omega)).mp z; omega) | (intro z; rw [show nI 10 * -nI 10 = -nI 100 by decide] at z; have := (sb_nle (a := x) (b := 100) (by omega) (by omega)).mp z; omega)) ?_
  refine y_steps hC 4 (σ' := (36, [(2, .int (((nI 10) * (((nI 10) * (((nI 10) * (((nI 10) * (((nI 10) * ((-nI 10))))))))))))), (3, .int (nI 5)), (0, .int ((-(nI x)))), (1, .int (nI 0))], [], [])) rfl ?_
  refine y_inc hC (n := 1) rfl rfl rfl (6) (by rfl) [(3, .int (nI 6)), (2, .int (((nI 10) * (((nI 10) * (((nI 10) * (((nI 10) * (((nI 10) * ((-nI 10))))))))))))), (0, .int ((-(nI x)))), (1, .int (nI 0))] rfl ?_
  refine y_steps hC 6 (σ' := (24, [(3, .int (nI 6)), (2, .int (((nI 10) * (((nI 10) * (((nI 10) * (((nI 10) * (((nI 10) * ((-nI 10))))))))))))), (0, .int ((-(nI x)))), (1, .int (nI 0))], [.int (((nI 10) * (((nI 10) * (((nI 10) * (((nI 10) * (((nI 10) * ((-nI 10)))))))))))), .int ((-(nI x)))], [])) rfl ?_
  refine y_ifT hC (c := (-(nI x)) ≤ ((nI 10) * (((nI 10) * (((nI 10) * (((nI 10) * (((nI 10) * ((-nI 10)))))))))))) rfl (by first | exact (sb_nle (by omega) (by omega)).mpr (by omega) | (intro z; have := (sb_nle (a := x) (b := 10) (by omega) (by omega)).mp z; omega) | (intro z; rw [show nI 10 * -nI 10 = -nI 100 by decide] at z; have := (sb_nle (a := x) (b := 100) (by omega) (by omega)).mp z; omega)) ?_
  refine y_steps hC 4 (σ' := (36, [(2, .int (((nI 10) * (((nI 10) * (((nI 10) * (((nI 10) * (((nI 10) * (((nI 10) * ((-nI 10))))))))))))))), (3, .int (nI 6)), (0, .int ((-(nI x)))), (1, .int (nI 0))], [], [])) rfl ?_
  refine y_inc hC (n := 1) rfl rfl rfl (7) (by rfl) [(3, .int (nI 7)), (2, .int (((nI 10) * (((nI 10) * (((nI 10) * (((nI 10) * (((nI 10) * (((nI 10) * ((-nI 10))))))))))))))), (0, .int ((-(nI x)))), (1, .int (nI 0))] rfl ?_
  refine y_steps hC 6 (σ' := (24, [(3, .int (nI 7)), (2, .int (((nI 10) * (((nI 10) * (((nI 10) * (((nI 10) * (((nI 10) * (((nI 10) * ((-nI 10))))))))))))))), (0, .int ((-(nI x)))), (1, .int (nI 0))], [.int (((nI 10) * (((nI 10) * (((nI 10) * (((nI 10) * (((nI 10) * (((nI 10) * ((-nI 10)))))))))))))), .int ((-(nI x)))], [])) rfl ?_
  refine y_ifT hC (c := (-(nI x)) ≤ ((nI 10) * (((nI 10) * (((nI 10) * (((nI 10) * (((nI 10) * (((nI 10) * ((-nI 10)))))))))))))) rfl (by first | exact (sb_nle (by omega) (by omega)).mpr (by omega) | (intro z; have := (sb_nle (a := x) (b := 10) (by omega) (by omega)).mp z; omega) | (intro z; rw [show nI 10 * -nI 10 = -nI 100 by decide] at z; have := (sb_nle (a := x) (b := 100) (by omega) (by omega)).mp z; omega)) ?_
  refine y_steps hC 4 (σ' := (36, [(2, .int (((nI 10) * (((nI 10) * (((nI 10) * (((nI 10) * (((nI 10) * (((nI 10) * (((nI 10) * ((-nI 10))))))))))))))))), (3, .int (nI 7)), (0, .int ((-(nI x)))), (1, .int (nI 0))], [], [])) rfl ?_
  refine y_inc hC (n := 1) rfl rfl rfl (8) (by rfl) [(3, .int (nI 8)), (2, .int (((nI 10) * (((nI 10) * (((nI 10) * (((nI 10) * (((nI 10) * (((nI 10) * (((nI 10) * ((-nI 10))))))))))))))))), (0, .int ((-(nI x)))), (1, .int (nI 0))] rfl ?_
  refine y_steps hC 6 (σ' := (24, [(3, .int (nI 8)), (2, .int (((nI 10) * (((nI 10) * (((nI 10) * (((nI 10) * (((nI 10) * (((nI 10) * (((nI 10) * ((-nI 10))))))))))))))))), (0, .int ((-(nI x)))), (1, .int (nI 0))], [.int (((nI 10) * (((nI 10) * (((nI 10) * (((nI 10) * (((nI 10) * (((nI 10) * (((nI 10) * ((-nI 10)))))))))))))))), .int ((-(nI x)))], [])) rfl ?_
  refine y_ifT hC (c := (-(nI x)) ≤ ((nI 10) * (((nI 10) * (((nI 10) * (((nI 10) * (((nI 10) * (((nI 10) * (((nI 10) * ((-nI 10)))))))))))))))) rfl (by first | exact (sb_nle (by omega) (by omega)).mpr (by omega) | (intro z; have := (sb_nle (a := x) (b := 10) (by omega) (by omega)).mp z; omega) | (intro z; rw [show nI 10 * -nI 10 = -nI 100 by decide] at z; have := (sb_nle (a := x) (b := 100) (by omega) (by omega)).mp z; omega)) ?_
  refine y_steps hC 4 (σ' := (36, [(2, .int (((nI 10) * (((nI 10) * (((nI 10) * (((nI 10) * (((nI 10) * (((nI 10) * (((nI 10) * (((nI 10) * ((-nI 10))))))))))))))))))), (3, .int (nI 8)), (0, .int ((-(nI x)))), (1, .int (nI 0))], [], [])) rfl ?_
  refine y_inc hC (n := 1) rfl rfl rfl (9) (by rfl) [(3, .int (nI 9)), (2, .int (((nI 10) * (((nI 10) * (((nI 10) * (((nI 10) * (((nI 10) * (((nI 10) * (((nI 10) * (((nI 10) * ((-nI 10))))))))))))))))))), (0, .int ((-(nI x)))), (1, .int (nI 0))] rfl ?_
  refine y_steps hC 6 (σ' := (24, [(3, .int (nI 9)), (2, .int (((nI 10) * (((nI 10) * (((nI 10) * (((nI 10) * (((nI 10) * (((nI 10) * (((nI 10) * (((nI 10) * ((-nI 10))))))))))))))))))), (0, .int ((-(nI x)))), (1, .int (nI 0))], [.int (((nI 10) * (((nI 10) * (((nI 10) * (((nI 10) * (((nI 10) * (((nI 10) * (((nI 10) * (((nI 10) * ((-nI 10)))))))))))))))))), .int ((-(nI x)))], [])) rfl ?_
  refine y_ifT hC (c := (-(nI x)) ≤ ((nI 10) * (((nI 10) * (((nI 10) * (((nI 10) * (((nI 10) * (((nI 10) * (((nI 10) * (((nI 10) * ((-nI 10)))))))))))))))))) rfl (by first | exact (sb_nle (by omega) (by omega)).mpr (by omega) | (intro z; have := (sb_nle (a := x) (b := 10) (by omega) (by omega)).mp z; omega) | (intro z; rw [show nI 10 * -nI 10 = -nI 100 by decide] at z; have := (sb_nle (a := x) (b := 100) (by omega) (by omega)).mp z; omega)) ?_
  refine y_steps hC 4 (σ' := (36, [(2, .int (((nI 10) * (((nI 10) * (((nI 10) * (((nI 10) * (((nI 10) * (((nI 10) * (((nI 10) * (((nI 10) * (((nI 10) * ((-nI 10))))))))))))))))))))), (3, .int (nI 9)), (0, .int ((-(nI x)))), (1, .int (nI 0))], [], [])) rfl ?_
  refine y_inc hC (n := 1) rfl rfl rfl (10) (by rfl) [(3, .int (nI 10)), (2, .int (((nI 10) * (((nI 10) * (((nI 10) * (((nI 10) * (((nI 10) * (((nI 10) * (((nI 10) * (((nI 10) * (((nI 10) * ((-nI 10))))))))))))))))))))), (0, .int ((-(nI x)))), (1, .int (nI 0))] rfl ?_
  refine y_steps hC 6 (σ' := (45, [(3, .int (nI 10)), (2, .int (((nI 10) * (((nI 10) * (((nI 10) * (((nI 10) * (((nI 10) * (((nI 10) * (((nI 10) * (((nI 10) * (((nI 10) * ((-nI 10))))))))))))))))))))), (0, .int ((-(nI x)))), (1, .int (nI 0))], [.int (nI 0), .int (nI 10)], [])) rfl ?_
  refine y_add hC (10) rfl (by first | rfl | omega) ?_
  refine y_steps hC 0 (σ' := (46, [(3, .int (nI 10)), (2, .int (((nI 10) * (((nI 10) * (((nI 10) * (((nI 10) * (((nI 10) * (((nI 10) * (((nI 10) * (((nI 10) * (((nI 10) * ((-nI 10))))))))))))))))))))), (0, .int ((-(nI x)))), (1, .int (nI 0))], [.int (nI 10)], [])) rfl ?_
  exact y_iret hC hT rfl rfl (by omega) (by omega) ⟨(by rfl), (by rfl)⟩
set_option maxHeartbeats 4000000 in
set_option maxRecDepth 1000000 in
theorem c_J6_getChars_ba4f3_2 {ε : y_Ev} {g : Nat → Int32} {x : Nat} {i : Nat} {d : Nat} {m : Nat} (hx : 10 ≤ x ∧ x < 100) (hi : 2 ≤ i ∧ i ≤ m) (hm : m ≤ 1000) : y_C ε zmJ6_getChars_ba4f3 1 60 0 0 [.int (nI x), .int (nI i), .ref d] ([(d, .inl (y_c ε 2, m, .inl g))]) (fun r w2 => r = some (.int (nI (i - 2))) ∧ w2 = [(d, .inl (y_c ε 2, m, .inl (upd (upd g (i - 1) (nI (48 + x % 10))) (i - 2) (nI (48 + x / 10)))))]) := by
  refine y_start (y := 111) rfl rfl (fun κ hC hT hN0 => ?_)
  refine y_steps hC 3 (σ' := (4, [(5, .int (nI i)), (0, .int (nI x)), (1, .int (nI i)), (2, .ref d)], [.int (nI x)], [])) rfl ?_
  refine y_ifT hC (c := 0 ≤ nI x) rfl (nI_pos' (by omega)) ?_
  refine y_steps hC 9 (σ' := (25, [(0, .int ((-(nI x)))), (6, .int (nI 0)), (5, .int (nI i)), (1, .int (nI i)), (2, .ref d)], [.int ((-nI 100)), .int ((-(nI x)))], [])) rfl ?_
  refine y_ifT hC (c := (-nI 100) < (-(nI x))) rfl (by exact (sb_nlt (by omega) (by omega)).mpr (by omega)) ?_
  refine y_steps hC 1 (σ' := (73, [(0, .int ((-(nI x)))), (6, .int (nI 0)), (5, .int (nI i)), (1, .int (nI i)), (2, .ref d)], [.ref d], [])) rfl ?_
  refine y_dec hC (n := 0) rfl rfl rfl (i - 1) (by first | assumption | omega | rfl | trivial) (by first | assumption | omega | rfl | trivial) [(5, .int (nI (i - 1))), (0, .int ((-(nI x)))), (6, .int (nI 0)), (1, .int (nI i)), (2, .ref d)] rfl ?_
  refine y_steps hC 1 (σ' := (78, [(5, .int (nI (i - 1))), (0, .int ((-(nI x)))), (6, .int (nI 0)), (1, .int (nI i)), (2, .ref d)], [.int (nI (i - 1)), .ref d], [])) rfl ?_
  refine y_gs1 hC rfl (z_t4 (i := 94) rfl rfl) ?_
  refine y_steps hC 2 (σ' := (83, [(5, .int (nI (i - 1))), (0, .int ((-(nI x)))), (6, .int (nI 0)), (1, .int (nI i)), (2, .ref d)], [.int ((-((-(nI x))))), .ref (y_a ε 40), .int (nI (i - 1)), .ref d], [])) rfl ?_
  have er_82 : (-((-(nI x)))) = nI x := Int32.neg_neg _
  rw [er_82]
  refine y_dg1 hC rfl (by first | assumption | omega | rfl | trivial) ?_
  refine y_steps hC 0 (σ' := (84, [(5, .int (nI (i - 1))), (0, .int ((-(nI x)))), (6, .int (nI 0)), (1, .int (nI i)), (2, .ref d)], [.int (nI (48 + x % 10)), .int (nI (i - 1)), .ref d], [])) rfl ?_
  refine y_bas (ws2 := ([(d, .inl (y_c ε 2, m, .inl (upd g (i - 1) (nI (48 + x % 10)))))])) hC 0 rfl rfl (by first | assumption | omega | rfl | trivial) (by omega) (by exact z_narN _ (by omega)) rfl ?_
  refine y_steps hC 2 (σ' := (88, [(5, .int (nI (i - 1))), (0, .int ((-(nI x)))), (6, .int (nI 0)), (1, .int (nI i)), (2, .ref d)], [.int ((-nI 9)), .int ((-(nI x)))], [])) rfl ?_
  refine y_ifF hC (c := (-nI 9) ≤ (-(nI x))) rfl (by first | exact (sb_nle (by omega) (by omega)).mpr (by omega) | (intro z; have := (sb_nle (a := 9) (b := x) (by omega) (by omega)).mp z; omega)) ?_
  refine y_steps hC 1 (σ' := (92, [(5, .int (nI (i - 1))), (0, .int ((-(nI x)))), (6, .int (nI 0)), (1, .int (nI i)), (2, .ref d)], [.ref d], [])) rfl ?_
  refine y_dec hC (n := 0) rfl rfl rfl (i - 2) (by first | assumption | omega | rfl | trivial) (by first | assumption | omega | rfl | trivial) [(5, .int (nI (i - 2))), (0, .int ((-(nI x)))), (6, .int (nI 0)), (1, .int (nI i)), (2, .ref d)] rfl ?_
  refine y_steps hC 1 (σ' := (97, [(5, .int (nI (i - 2))), (0, .int ((-(nI x)))), (6, .int (nI 0)), (1, .int (nI i)), (2, .ref d)], [.int (nI (i - 2)), .ref d], [])) rfl ?_
  refine y_gs2 hC rfl (z_t4 (i := 96) rfl rfl) ?_
  refine y_steps hC 2 (σ' := (102, [(5, .int (nI (i - 2))), (0, .int ((-(nI x)))), (6, .int (nI 0)), (1, .int (nI i)), (2, .ref d)], [.int ((-((-(nI x))))), .ref (y_a ε 41), .int (nI (i - 2)), .ref d], [])) rfl ?_
  have er_101 : (-((-(nI x)))) = nI x := Int32.neg_neg _
  rw [er_101]
  refine y_dg2 hC rfl (by first | assumption | omega | rfl | trivial) ?_
  refine y_steps hC 0 (σ' := (103, [(5, .int (nI (i - 2))), (0, .int ((-(nI x)))), (6, .int (nI 0)), (1, .int (nI i)), (2, .ref d)], [.int (nI (48 + x / 10)), .int (nI (i - 2)), .ref d], [])) rfl ?_
  refine y_bas (ws2 := ([(d, .inl (y_c ε 2, m, .inl (upd (upd g (i - 1) (nI (48 + x % 10))) (i - 2) (nI (48 + x / 10)))))])) hC 0 rfl rfl (by first | assumption | omega | rfl | trivial) (by omega) (by exact z_narN _ (by omega)) rfl ?_
  refine y_steps hC 3 (σ' := (120, [(5, .int (nI (i - 2))), (0, .int ((-(nI x)))), (6, .int (nI 0)), (1, .int (nI i)), (2, .ref d)], [.int (nI (i - 2))], [])) rfl ?_
  exact y_iret hC hT rfl rfl (by omega) (by omega) ⟨(by rfl), (by rfl)⟩
set_option maxHeartbeats 4000000 in
set_option maxRecDepth 1000000 in
theorem c_J5_append_c97b9_2 {ε : y_Ev} {f : Nat → Int32} {a : Nat} {x : Nat} {v : Nat} {m : Nat} {L : List Nat} (hs : y_Sb L m f) (hx : 10 ≤ x ∧ x < 100) (hl : L.length + 2 ≤ 100) : y_C ε zmJ5_append_c97b9 5 151 1 1000 [.ref a, .int (nI x)] ((a, .inr (7, [.ref v, .int (nI 0), .int (nI 0), .int (nI L.length)])) :: [(v, .inl (y_c ε 2, m, .inl f))]) (fun r w2 => ∃ (v2 : Nat) (m2 : Nat) (f2 : Nat → Int32), r = some (.ref a) ∧ w2 = (a, .inr (7, [.ref v2, .int (nI 0), .int (nI 0), .int (nI ((L ++ [48 + x / 10, 48 + x % 10]).length))])) :: [(v2, .inl (y_c ε 2, m2, .inl f2))] ∧ (y_Sb (L ++ [48 + x / 10, 48 + x % 10]) m2 f2)) := by
  obtain ⟨s1, s2, s3, s4, s5⟩ := id hs; have eL : (L ++ [48 + x / 10, 48 + x % 10]).length = L.length + 2 := List.length_append
  refine y_start (y := 106) rfl rfl (fun κ hC hT hN0 => ?_)
  refine y_steps hC 1 (σ' := (1, [(0, .ref a), (1, .int (nI x))], [.ref a], [])) rfl ?_
  refine y_get (k := 0) (ci := 7) (j := 3) hC rfl rfl rfl rfl (z_t3 (i := 213) rfl rfl) rfl ?_
  refine y_steps hC 3 (σ' := (7, [(2, .int (nI L.length)), (0, .ref a), (1, .int (nI x))], [.int (nI x), .int (nI L.length)], [])) rfl ?_
  refine y_callS (y := 112) (idx := 245) (w := ([] : va_W)) (wr := (a, .inr (7, [.ref v, .int (nI 0), .int (nI 0), .int (nI L.length)])) :: [(v, .inl (y_c ε 2, m, .inl f))]) (av := [.int (nI x)]) hC rfl rfl (z_t4 (i := 88) rfl rfl) (z_t4 (i := 89) rfl rfl) (z_t1 (i := 11) rfl rfl) (c_J6_stringSize_0f7a4_2 (x := x) (by first | assumption | omega | rfl | trivial)) (by decide +kernel) rfl rfl (by omega) (by omega) rfl (fun r_7 w_7 p_7 => ?_)
  obtain ⟨rfl, rfl⟩ := p_7
  refine y_steps hC 0 (σ' := (10, [(2, .int (nI L.length)), (0, .ref a), (1, .int (nI x))], [.int (nI 2), .int (nI L.length)], [])) rfl ?_
  have ey_10 : ((nI L.length) + (nI 2)) = nI ((L ++ [48 + x / 10, 48 + x % 10]).length) := (nI_add _ _).trans (congrArg nI eL.symm)
  refine y_one hC (σ' := (11, [(2, .int (nI L.length)), (0, .ref a), (1, .int (nI x))], [.int (((nI L.length) + (nI 2)))], [])) rfl ?_
  rw [ey_10]
  refine y_steps hC 3 (σ' := (14, [(3, .int (nI ((L ++ [48 + x / 10, 48 + x % 10]).length))), (2, .int (nI L.length)), (0, .ref a), (1, .int (nI x))], [.int (nI ((L ++ [48 + x / 10, 48 + x % 10]).length)), .ref a], [])) rfl ?_
  refine y_callP (b := a) (C := "java/lang/StringBuilder") (x := ⟨"java/lang/AbstractStringBuilder", "ensureCapacityInternal", "(I)V"⟩) (z := ⟨"java/lang/AbstractStringBuilder", "isLatin1", "()Z"⟩) (y := 102) (idx := 100) (w := (a, .inr (7, [.ref v, .int (nI 0), .int (nI 0), .int (nI L.length)])) :: [(v, .inl (y_c ε 2, m, .inl f))]) (wr := ([] : va_W)) (av := [.int (nI ((L ++ [48 + x / 10, 48 + x % 10]).length))]) hC rfl rfl rfl (z_t3 (i := 235) rfl rfl) (z_t4 (i := 202) rfl rfl) (z_t4 (i := 27) rfl rfl) rfl (z_t3 (i := 236) rfl rfl) (z_t3 (i := 237) rfl rfl) (z_t1 (i := 12) rfl rfl) (fun H locs hP hS => y_rW (ci := 7) (k := 0) hC rfl rfl H locs hP hS) (c_J5_ensureCapacityInternal_d00df (f := f) (a := a) (q := (L ++ [48 + x / 10, 48 + x % 10]).length) (v := v) (n := L.length) (m := m) (by first | assumption | omega | rfl | trivial) (by first | assumption | omega | rfl | trivial) (by exact s5)) (by decide +kernel) rfl rfl (by omega) (by omega) rfl (fun r_14 w_14 p_14 => ?_)
  obtain ⟨v2_14, m2_14, f2_14, rfl, rfl, q_14⟩ := p_14
  refine y_steps hC 1 (σ' := (18, [(3, .int (nI ((L ++ [48 + x / 10, 48 + x % 10]).length))), (2, .int (nI L.length)), (0, .ref a), (1, .int (nI x))], [.ref a], [])) rfl ?_
  refine y_callU (b := a) (C := "java/lang/StringBuilder") (x := ⟨"java/lang/AbstractStringBuilder", "isLatin1", "()Z"⟩) (y := 108) (idx := 83) (w := [(a, .inr (7, [.ref v2_14, .int (nI 0), .int (nI 0), .int (nI L.length)]))]) (wr := [(v2_14, .inl (y_c ε 2, m2_14, .inl f2_14))]) (av := []) hC rfl rfl rfl (z_t4 (i := 24) rfl rfl) (z_t4 (i := 26) rfl rfl) (z_t4 (i := 27) rfl rfl) (z_t4 (i := 25) rfl rfl) (z_t1 (i := 12) rfl rfl) (fun H locs hP hS => y_rW (ci := 7) (k := 0) hC rfl rfl H locs hP hS) (c_J5_isLatin1_aae02 (a := a) (v := v2_14) (n := L.length) ) (by decide +kernel) rfl rfl (by omega) (by omega) rfl (fun r_18 w_18 p_18 => ?_)
  obtain ⟨rfl, rfl⟩ := p_18
  refine y_steps hC 4 (σ' := (27, [(3, .int (nI ((L ++ [48 + x / 10, 48 + x % 10]).length))), (2, .int (nI L.length)), (0, .ref a), (1, .int (nI x))], [.ref a, .int (nI ((L ++ [48 + x / 10, 48 + x % 10]).length)), .int (nI x)], [])) rfl ?_
  refine y_get (k := 0) (ci := 7) (j := 0) hC rfl rfl rfl rfl (z_t3 (i := 210) rfl rfl) rfl ?_
  refine y_steps hC 0 (σ' := (30, [(3, .int (nI ((L ++ [48 + x / 10, 48 + x % 10]).length))), (2, .int (nI L.length)), (0, .ref a), (1, .int (nI x))], [.ref v2_14, .int (nI ((L ++ [48 + x / 10, 48 + x % 10]).length)), .int (nI x)], [])) rfl ?_
  refine y_mv [[(a, .inr (7, [.ref v2_14, .int (nI 0), .int (nI 0), .int (nI L.length)]))]] ([(v2_14, .inl (y_c ε 2, m2_14, .inl f2_14))]) [] ?_
  refine y_callS (y := 111) (idx := 248) (w := [(v2_14, .inl (y_c ε 2, m2_14, .inl f2_14))]) (wr := [(a, .inr (7, [.ref v2_14, .int (nI 0), .int (nI 0), .int (nI L.length)]))]) (av := [.int (nI x), .int (nI ((L ++ [48 + x / 10, 48 + x % 10]).length)), .ref v2_14]) hC rfl rfl (z_t4 (i := 91) rfl rfl) (z_t4 (i := 92) rfl rfl) (z_t1 (i := 11) rfl rfl) (c_J6_getChars_ba4f3_2 (g := f2_14) (x := x) (i := (L ++ [48 + x / 10, 48 + x % 10]).length) (d := v2_14) (m := m2_14) (by first | assumption | omega | rfl | trivial) (by have := q_14.1; omega) (by have := q_14.2.2.1; omega)) (by decide +kernel) rfl rfl (by omega) (by omega) rfl (fun r_30 w_30 p_30 => ?_)
  obtain ⟨rfl, rfl⟩ := p_30
  refine y_steps hC 4 (σ' := (50, [(3, .int (nI ((L ++ [48 + x / 10, 48 + x % 10]).length))), (2, .int (nI L.length)), (0, .ref a), (1, .int (nI x))], [.int (nI ((L ++ [48 + x / 10, 48 + x % 10]).length)), .ref a], [])) rfl ?_
  refine y_put (k := 1) (ci := 7) (j := 3) (ty := .int) (ws2 := ((v2_14, .inl (y_c ε 2, m2_14, .inl (upd (upd f2_14 (((L ++ [48 + x / 10, 48 + x % 10]).length) - 1) (nI (48 + x % 10))) (((L ++ [48 + x / 10, 48 + x % 10]).length) - 2) (nI (48 + x / 10))))) :: ([(a, .inr (7, [.ref v2_14, .int (nI 0), .int (nI 0), .int (nI ((L ++ [48 + x / 10, 48 + x % 10]).length))]))]))) hC rfl rfl rfl rfl (z_t3 (i := 213) rfl rfl) rfl (by decide +kernel) (by rfl) (by rfl) rfl rfl ?_
  refine y_steps hC 1 (σ' := (54, [(3, .int (nI ((L ++ [48 + x / 10, 48 + x % 10]).length))), (2, .int (nI L.length)), (0, .ref a), (1, .int (nI x))], [.ref a], [])) rfl ?_
  refine y_mv [[(v2_14, .inl (y_c ε 2, m2_14, .inl (upd (upd f2_14 (((L ++ [48 + x / 10, 48 + x % 10]).length) - 1) (nI (48 + x % 10))) (((L ++ [48 + x / 10, 48 + x % 10]).length) - 2) (nI (48 + x / 10)))))]] ([(a, .inr (7, [.ref v2_14, .int (nI 0), .int (nI 0), .int (nI ((L ++ [48 + x / 10, 48 + x % 10]).length))]))]) [] ?_
  exact y_aret hC hT rfl (Or.inl ⟨_, rfl⟩) rfl (by omega) (by omega) ⟨v2_14, m2_14, (upd (upd f2_14 (((L ++ [48 + x / 10, 48 + x % 10]).length) - 1) (nI (48 + x % 10))) (((L ++ [48 + x / 10, 48 + x % 10]).length) - 2) (nI (48 + x / 10))), rfl, (by rfl), (by rw [show (L ++ [48 + x / 10, 48 + x % 10]).length - 1 = L.length + 1 by omega, show (L ++ [48 + x / 10, 48 + x % 10]).length - 2 = L.length by omega]; exact y_Sb_two hs (by omega) (by omega) (by have := q_14.1; omega) q_14.2.2.1 q_14.2.2.2.1 q_14.2.2.2.2)⟩
set_option maxHeartbeats 4000000 in
set_option maxRecDepth 1000000 in
theorem c_J4_append_bf812_2 {ε : y_Ev} {f : Nat → Int32} {a : Nat} {x : Nat} {v : Nat} {m : Nat} {L : List Nat} (hs : y_Sb L m f) (hx : 10 ≤ x ∧ x < 100) (hl : L.length + 2 ≤ 100) : y_C ε zmJ4_append_bf812 6 174 1 1000 [.ref a, .int (nI x)] ((a, .inr (7, [.ref v, .int (nI 0), .int (nI 0), .int (nI L.length)])) :: [(v, .inl (y_c ε 2, m, .inl f))]) (fun r w2 => ∃ (v2 : Nat) (m2 : Nat) (f2 : Nat → Int32), r = some (.ref a) ∧ w2 = (a, .inr (7, [.ref v2, .int (nI 0), .int (nI 0), .int (nI ((L ++ [48 + x / 10, 48 + x % 10]).length))])) :: [(v2, .inl (y_c ε 2, m2, .inl f2))] ∧ (y_Sb (L ++ [48 + x / 10, 48 + x % 10]) m2 f2)) := by
  refine y_start (y := 128) rfl rfl (fun κ hC hT hN0 => ?_)
  refine y_steps hC 2 (σ' := (2, [(0, .ref a), (1, .int (nI x))], [.int (nI x), .ref a], [])) rfl ?_
  obtain ⟨cC_2, hat_2⟩ := y_at (ci := 7) hC rfl
  refine y_callSU (b := a) (y := 106) (idx := 53) (w := (a, .inr (7, [.ref v, .int (nI 0), .int (nI 0), .int (nI L.length)])) :: [(v, .inl (y_c ε 2, m, .inl f))]) (wr := ([] : va_W)) (av := [.int (nI x)]) hC rfl rfl (by decide) (z_t4 (i := 85) rfl rfl) (z_t4 (i := 207) rfl rfl) (z_t3 (i := 222) rfl rfl) (z_t4 (i := 86) rfl rfl) (z_t1 (i := 12) rfl rfl) hat_2 (fun H locs hP hS => y_rW (ci := 7) (k := 0) hC rfl rfl H locs hP hS) (c_J5_append_c97b9_2 (f := f) (a := a) (x := x) (v := v) (m := m) (L := L) (by exact hs) (by exact hx) (by first | assumption | omega | rfl | trivial)) (by decide +kernel) rfl rfl (by omega) (by omega) rfl (fun r_2 w_2 p_2 => ?_)
  obtain ⟨v2_2, m2_2, f2_2, rfl, rfl, q_2⟩ := p_2
  refine y_steps hC 2 (σ' := (7, [(0, .ref a), (1, .int (nI x))], [.ref a], [])) rfl ?_
  exact y_aret hC hT rfl (Or.inl ⟨_, rfl⟩) rfl (by omega) (by omega) ⟨v2_2, m2_2, f2_2, rfl, (by rfl), (by exact q_2)⟩
set_option maxHeartbeats 4000000 in
set_option maxRecDepth 1000000 in
theorem c_J1_canEncode_fc78d {ε : y_Ev} {c : Nat} (hc : c < 128) : y_C ε zmJ1_canEncode_fc78d 1 60 0 0 [.int (nI c)] (([] : va_W)) (fun r w2 => r = some (.int (nI 1)) ∧ w2 = ([] : va_W)) := by
  refine y_start (y := 132) rfl rfl (fun κ hC hT hN0 => ?_)
  refine y_steps hC 2 (σ' := (4, [(0, .int (nI c))], [.int (nI 255), .int (nI c)], [])) rfl ?_
  refine y_if hC (c := nI 255 < nI c) rfl (fun c_4 => ?_) (fun c_4 => ?_)
  · skip
    rw [nI_ltI (by omega) (by omega)] at c_4
    omega
  · skip
    rw [nI_ltI (by omega) (by omega)] at c_4
    refine y_steps hC 2 (σ' := (12, [(0, .int (nI c))], [.int (nI 1)], [])) rfl ?_
    exact y_zret hC hT rfl (Or.inl rfl) (by rfl) rfl (by omega) (by omega) ⟨(by rfl), (by rfl)⟩
set_option maxHeartbeats 4000000 in
set_option maxRecDepth 1000000 in
theorem c_J5_append_3fe6f {ε : y_Ev} {f : Nat → Int32} {a : Nat} {c : Nat} {v : Nat} {m : Nat} {L : List Nat} (hs : y_Sb L m f) (hc : c < 128) (hl : L.length + 1 ≤ 100) : y_C ε zmJ5_append_3fe6f 5 151 1 1000 [.ref a, .int (nI c)] ((a, .inr (7, [.ref v, .int (nI 0), .int (nI 0), .int (nI L.length)])) :: [(v, .inl (y_c ε 2, m, .inl f))]) (fun r w2 => ∃ (v2 : Nat) (m2 : Nat) (f2 : Nat → Int32), r = some (.ref a) ∧ w2 = (a, .inr (7, [.ref v2, .int (nI 0), .int (nI 0), .int (nI ((L ++ [c]).length))])) :: [(v2, .inl (y_c ε 2, m2, .inl f2))] ∧ (y_Sb (L ++ [c]) m2 f2)) := by
  obtain ⟨s1, s2, s3, s4, s5⟩ := id hs; have eL : (L ++ [c]).length = L.length + 1 := List.length_append
  refine y_start (y := 105) rfl rfl (fun κ hC hT hN0 => ?_)
  refine y_steps hC 2 (σ' := (2, [(0, .ref a), (1, .int (nI c))], [.ref a, .ref a], [])) rfl ?_
  refine y_get (k := 0) (ci := 7) (j := 3) hC rfl rfl rfl rfl (z_t3 (i := 213) rfl rfl) rfl ?_
  refine y_steps hC 1 (σ' := (6, [(0, .ref a), (1, .int (nI c))], [.int (nI 1), .int (nI L.length), .ref a], [])) rfl ?_
  refine y_add hC (L.length + 1) rfl (by first | rfl | omega) ?_
  refine y_steps hC 0 (σ' := (7, [(0, .ref a), (1, .int (nI c))], [.int (nI (L.length + 1)), .ref a], [])) rfl ?_
  refine y_callP (b := a) (C := "java/lang/StringBuilder") (x := ⟨"java/lang/AbstractStringBuilder", "ensureCapacityInternal", "(I)V"⟩) (z := ⟨"java/lang/AbstractStringBuilder", "isLatin1", "()Z"⟩) (y := 102) (idx := 100) (w := (a, .inr (7, [.ref v, .int (nI 0), .int (nI 0), .int (nI L.length)])) :: [(v, .inl (y_c ε 2, m, .inl f))]) (wr := ([] : va_W)) (av := [.int (nI (L.length + 1))]) hC rfl rfl rfl (z_t3 (i := 235) rfl rfl) (z_t4 (i := 202) rfl rfl) (z_t4 (i := 27) rfl rfl) rfl (z_t3 (i := 236) rfl rfl) (z_t3 (i := 237) rfl rfl) (z_t1 (i := 12) rfl rfl) (fun H locs hP hS => y_rW (ci := 7) (k := 0) hC rfl rfl H locs hP hS) (c_J5_ensureCapacityInternal_d00df (f := f) (a := a) (q := L.length + 1) (v := v) (n := L.length) (m := m) (by first | assumption | omega | rfl | trivial) (by first | assumption | omega | rfl | trivial) (by exact s5)) (by decide +kernel) rfl rfl (by omega) (by omega) rfl (fun r_7 w_7 p_7 => ?_)
  obtain ⟨v2_7, m2_7, f2_7, rfl, rfl, q_7⟩ := p_7
  refine y_steps hC 1 (σ' := (11, [(0, .ref a), (1, .int (nI c))], [.ref a], [])) rfl ?_
  refine y_callU (b := a) (C := "java/lang/StringBuilder") (x := ⟨"java/lang/AbstractStringBuilder", "isLatin1", "()Z"⟩) (y := 108) (idx := 83) (w := [(a, .inr (7, [.ref v2_7, .int (nI 0), .int (nI 0), .int (nI L.length)]))]) (wr := [(v2_7, .inl (y_c ε 2, m2_7, .inl f2_7))]) (av := []) hC rfl rfl rfl (z_t4 (i := 24) rfl rfl) (z_t4 (i := 26) rfl rfl) (z_t4 (i := 27) rfl rfl) (z_t4 (i := 25) rfl rfl) (z_t1 (i := 12) rfl rfl) (fun H locs hP hS => y_rW (ci := 7) (k := 0) hC rfl rfl H locs hP hS) (c_J5_isLatin1_aae02 (a := a) (v := v2_7) (n := L.length) ) (by decide +kernel) rfl rfl (by omega) (by omega) rfl (fun r_11 w_11 p_11 => ?_)
  obtain ⟨rfl, rfl⟩ := p_11
  refine y_steps hC 2 (σ' := (18, [(0, .ref a), (1, .int (nI c))], [.int (nI c)], [])) rfl ?_
  refine y_callS (y := 132) (idx := 191) (w := ([] : va_W)) (wr := (a, .inr (7, [.ref v2_7, .int (nI 0), .int (nI 0), .int (nI L.length)])) :: [(v2_7, .inl (y_c ε 2, m2_7, .inl f2_7))]) (av := [.int (nI c)]) hC rfl rfl (z_t4 (i := 181) rfl rfl) (z_t4 (i := 182) rfl rfl) (z_t1 (i := 18) rfl rfl) (c_J1_canEncode_fc78d (c := c) (by first | assumption | omega | rfl | trivial)) (by decide +kernel) rfl rfl (by omega) (by omega) rfl (fun r_18 w_18 p_18 => ?_)
  obtain ⟨rfl, rfl⟩ := p_18
  refine y_steps hC 2 (σ' := (25, [(0, .ref a), (1, .int (nI c))], [.ref a], [])) rfl ?_
  refine y_get (k := 0) (ci := 7) (j := 0) hC rfl rfl rfl rfl (z_t3 (i := 210) rfl rfl) rfl ?_
  refine y_steps hC 2 (σ' := (30, [(0, .ref a), (1, .int (nI c))], [.ref a, .ref a, .ref v2_7], [])) rfl ?_
  refine y_get (k := 0) (ci := 7) (j := 3) hC rfl rfl rfl rfl (z_t3 (i := 213) rfl rfl) rfl ?_
  refine y_steps hC 2 (σ' := (35, [(0, .ref a), (1, .int (nI c))], [.int (nI 1), .int (nI L.length), .ref a, .int (nI L.length), .ref v2_7], [])) rfl ?_
  have ey_35 : ((nI L.length) + (nI 1)) = nI ((L ++ [c]).length) := (nI_add _ _).trans (congrArg nI eL.symm)
  refine y_one hC (σ' := (36, [(0, .ref a), (1, .int (nI c))], [.int (((nI L.length) + (nI 1))), .ref a, .int (nI L.length), .ref v2_7], [])) rfl ?_
  rw [ey_35]
  refine y_steps hC 0 (σ' := (36, [(0, .ref a), (1, .int (nI c))], [.int (nI ((L ++ [c]).length)), .ref a, .int (nI L.length), .ref v2_7], [])) rfl ?_
  refine y_put (k := 0) (ci := 7) (j := 3) (ty := .int) (ws2 := ((a, .inr (7, [.ref v2_7, .int (nI 0), .int (nI 0), .int (nI ((L ++ [c]).length))])) :: [(v2_7, .inl (y_c ε 2, m2_7, .inl f2_7))])) hC rfl rfl rfl rfl (z_t3 (i := 213) rfl rfl) rfl (by decide +kernel) (by rfl) (by rfl) rfl rfl ?_
  refine y_steps hC 1 (σ' := (40, [(0, .ref a), (1, .int (nI c))], [.int (nI c), .int (nI L.length), .ref v2_7], [])) rfl ?_
  refine y_i2b hC rfl (by omega) ?_
  refine y_steps hC 0 (σ' := (41, [(0, .ref a), (1, .int (nI c))], [.int (nI c), .int (nI L.length), .ref v2_7], [])) rfl ?_
  refine y_bas (ws2 := ((a, .inr (7, [.ref v2_7, .int (nI 0), .int (nI 0), .int (nI ((L ++ [c]).length))])) :: [(v2_7, .inl (y_c ε 2, m2_7, .inl (upd f2_7 L.length (nI c))))])) hC 1 rfl rfl (by have := q_7.1; omega) (by omega) (by exact z_narN _ (by omega)) rfl ?_
  refine y_steps hC 2 (σ' := (76, [(0, .ref a), (1, .int (nI c))], [.ref a], [])) rfl ?_
  exact y_aret hC hT rfl (Or.inl ⟨_, rfl⟩) rfl (by omega) (by omega) ⟨v2_7, m2_7, (upd f2_7 L.length (nI c)), rfl, (by rfl), (by exact y_Sb_one hs hc (by have := q_7.1; omega) q_7.2.2.1 q_7.2.2.2.1 q_7.2.2.2.2)⟩
set_option maxHeartbeats 4000000 in
set_option maxRecDepth 1000000 in
theorem c_J4_append_cf468 {ε : y_Ev} {f : Nat → Int32} {a : Nat} {c : Nat} {v : Nat} {m : Nat} {L : List Nat} (hs : y_Sb L m f) (hc : c < 128) (hl : L.length + 1 ≤ 100) : y_C ε zmJ4_append_cf468 6 172 1 1000 [.ref a, .int (nI c)] ((a, .inr (7, [.ref v, .int (nI 0), .int (nI 0), .int (nI L.length)])) :: [(v, .inl (y_c ε 2, m, .inl f))]) (fun r w2 => ∃ (v2 : Nat) (m2 : Nat) (f2 : Nat → Int32), r = some (.ref a) ∧ w2 = (a, .inr (7, [.ref v2, .int (nI 0), .int (nI 0), .int (nI ((L ++ [c]).length))])) :: [(v2, .inl (y_c ε 2, m2, .inl f2))] ∧ (y_Sb (L ++ [c]) m2 f2)) := by
  refine y_start (y := 127) rfl rfl (fun κ hC hT hN0 => ?_)
  refine y_steps hC 2 (σ' := (2, [(0, .ref a), (1, .int (nI c))], [.int (nI c), .ref a], [])) rfl ?_
  obtain ⟨cC_2, hat_2⟩ := y_at (ci := 7) hC rfl
  refine y_callSU (b := a) (y := 105) (idx := 50) (w := (a, .inr (7, [.ref v, .int (nI 0), .int (nI 0), .int (nI L.length)])) :: [(v, .inl (y_c ε 2, m, .inl f))]) (wr := ([] : va_W)) (av := [.int (nI c)]) hC rfl rfl (by decide) (z_t4 (i := 178) rfl rfl) (z_t4 (i := 208) rfl rfl) (z_t3 (i := 222) rfl rfl) (z_t4 (i := 179) rfl rfl) (z_t1 (i := 12) rfl rfl) hat_2 (fun H locs hP hS => y_rW (ci := 7) (k := 0) hC rfl rfl H locs hP hS) (c_J5_append_3fe6f (f := f) (a := a) (c := c) (v := v) (m := m) (L := L) (by exact hs) (by first | assumption | omega | rfl | trivial) (by first | assumption | omega | rfl | trivial)) (by decide +kernel) rfl rfl (by omega) (by omega) rfl (fun r_2 w_2 p_2 => ?_)
  obtain ⟨v2_2, m2_2, f2_2, rfl, rfl, q_2⟩ := p_2
  refine y_steps hC 2 (σ' := (7, [(0, .ref a), (1, .int (nI c))], [.ref a], [])) rfl ?_
  exact y_aret hC hT rfl (Or.inl ⟨_, rfl⟩) rfl (by omega) (by omega) ⟨v2_2, m2_2, f2_2, rfl, (by rfl), (by exact q_2)⟩
set_option maxHeartbeats 4000000 in
set_option maxRecDepth 1000000 in
theorem c_J5_init_d00df {ε : y_Ev} {a : Nat}  : y_C ε zmJ5_init_d00df 1 60 1 16 [.ref a, .int (nI 16)] ([(a, .inr (7, [.null, .int (nI 0), .int (nI 0), .int (nI 0)]))]) (fun r w2 => ∃ (v2 : Nat), r = none ∧ w2 = (a, .inr (7, [.ref v2, .int (nI 0), .int (nI 0), .int (nI 0)])) :: [(v2, .inl (y_c ε 2, 16, .inl (fun _ => 0)))]) := by
  refine y_start (y := 100) rfl rfl (fun κ hC hT hN0 => ?_)
  refine y_steps hC 1 (σ' := (1, [(0, .ref a), (1, .int (nI 16))], [.ref a], [])) rfl ?_
  refine y_obj hC rfl (z_t3 (i := 201) rfl rfl) (z_t1 (i := 25) rfl rfl) (z_t1 (i := 26) rfl rfl) (by decide) (by decide) rfl ?_
  refine y_steps hC 0 (σ' := (4, [(0, .ref a), (1, .int (nI 16))], [], [])) rfl ?_
  refine y_gsC hC rfl (z_t3 (i := 202) rfl rfl) ?_
  refine y_steps hC 3 (σ' := (12, [(0, .ref a), (1, .int (nI 16))], [.int (nI 16), .ref a], [])) rfl ?_
  refine y_newa (n := 16) (a0 := (16, .inl (fun _ => 0))) hC 2 (atype := .byte) (z_t3 (i := 223) rfl rfl) rfl (fun _ => rfl) (by omega) (by decide) (by omega) (by omega) rfl (fun q12 => ?_)
  refine y_steps hC 0 (σ' := (14, [(0, .ref a), (1, .int (nI 16))], [.ref q12, .ref a], [])) rfl ?_
  refine y_put (k := 1) (ci := 7) (j := 0) (ty := .array .byte) (ws2 := ((q12, .inl (y_c ε 2, 16, .inl ((fun _ => 0)))) :: ([(a, .inr (7, [.ref q12, .int (nI 0), .int (nI 0), .int (nI 0)]))]))) hC rfl rfl rfl rfl (z_t3 (i := 210) rfl rfl) rfl (by decide +kernel) (by rfl) (by rfl) rfl rfl ?_
  refine y_steps hC 2 (σ' := (19, [(0, .ref a), (1, .int (nI 16))], [.int (nI 0), .ref a], [])) rfl ?_
  refine y_put (k := 1) (ci := 7) (j := 1) (ty := .byte) (ws2 := ((q12, .inl (y_c ε 2, 16, .inl ((fun _ => 0)))) :: ([(a, .inr (7, [.ref q12, .int (nI 0), .int (nI 0), .int (nI 0)]))]))) hC rfl rfl rfl rfl (z_t3 (i := 211) rfl rfl) rfl (by decide +kernel) (by rfl) (by rfl) rfl rfl ?_
  refine y_steps hC 1 (σ' := (38, [(0, .ref a), (1, .int (nI 16))], [], [])) rfl ?_
  refine y_mv [[(q12, .inl (y_c ε 2, 16, .inl ((fun _ => 0))))]] ([(a, .inr (7, [.ref q12, .int (nI 0), .int (nI 0), .int (nI 0)]))]) [] ?_
  exact y_vret hC hT rfl rfl (by omega) (by omega) ⟨q12, rfl, (by rfl)⟩
set_option maxHeartbeats 4000000 in
set_option maxRecDepth 1000000 in
theorem c_J4_init_da8c8 {ε : y_Ev} {a : Nat}  : y_C ε zmJ4_init_da8c8 2 81 1 16 [.ref a] ([(a, .inr (7, [.null, .int (nI 0), .int (nI 0), .int (nI 0)]))]) (fun r w2 => ∃ (v2 : Nat), r = none ∧ w2 = (a, .inr (7, [.ref v2, .int (nI 0), .int (nI 0), .int (nI 0)])) :: [(v2, .inl (y_c ε 2, 16, .inl (fun _ => 0)))]) := by
  refine y_start (y := 125) rfl rfl (fun κ hC hT hN0 => ?_)
  refine y_steps hC 2 (σ' := (3, [(0, .ref a)], [.int (nI 16), .ref a], [])) rfl ?_
  refine y_callI (y := 100) (idx := 1) (w := [(a, .inr (7, [.null, .int (nI 0), .int (nI 0), .int (nI 0)]))]) (wr := ([] : va_W)) (av := [.int (nI 16)]) hC rfl rfl rfl rfl (z_t3 (i := 198) rfl rfl) (z_t3 (i := 199) rfl rfl) (z_t1 (i := 12) rfl rfl) (c_J5_init_d00df (a := a) ) (by decide +kernel) rfl rfl (by omega) (by omega) rfl (fun r_3 w_3 p_3 => ?_)
  obtain ⟨v2_3, rfl, rfl⟩ := p_3
  refine y_steps hC 0 (σ' := (6, [(0, .ref a)], [], [])) rfl ?_
  exact y_vret hC hT rfl rfl (by omega) (by omega) ⟨v2_3, rfl, (by rfl)⟩
set_option maxHeartbeats 4000000 in
set_option maxRecDepth 1000000 in
theorem c_J7_copyOfRangeByte_39247 {ε : y_Ev} {f : Nat → Int32} {d : Nat} {n : Nat} {m : Nat} (hn : n ≤ m) (hm : m ≤ 1000) (hf : ∀ j, fits .byte (.int (f j)) = true) : y_C ε zmJ7_copyOfRangeByte_39247 2 81 1 1000 [.ref d, .int (nI 0), .int (nI n)] ([(d, .inl (y_c ε 2, m, .inl f))]) (fun r w2 => ∃ (q : Nat) (g : Nat → Int32), r = some (.ref q) ∧ w2 = (q, .inl (y_c ε 2, n, .inl g)) :: [(d, .inl (y_c ε 2, m, .inl f))] ∧ (∀ k, k < n → g k = f k)) := by
  refine y_start (y := 137) rfl rfl (fun κ hC hT hN0 => ?_)
  refine y_steps hC 2 (σ' := (2, [(0, .ref d), (1, .int (nI 0)), (2, .int (nI n))], [.int (nI n), .int (nI 0)], [])) rfl ?_
  refine y_callS (y := 135) (idx := 343) (w := ([] : va_W)) (wr := [(d, .inl (y_c ε 2, m, .inl f))]) (av := [.int (nI 0), .int (nI n)]) hC rfl rfl (z_t4 (i := 139) rfl rfl) (z_t4 (i := 140) rfl rfl) (z_t1 (i := 3) rfl rfl) (c_J7_checkLength_df160 (n := n) (by first | assumption | omega | rfl | trivial)) (by decide +kernel) rfl rfl (by omega) (by omega) rfl (fun r_2 w_2 p_2 => ?_)
  obtain ⟨rfl, rfl⟩ := p_2
  refine y_steps hC 2 (σ' := (7, [(0, .ref d), (1, .int (nI 0)), (2, .int (nI n))], [.int (nI 0), .int (nI n)], [])) rfl ?_
  have ey_7 : ((nI n) - (nI 0)) = nI n := pk_sub (Nat.zero_le n)
  refine y_one hC (σ' := (8, [(0, .ref d), (1, .int (nI 0)), (2, .int (nI n))], [.int (((nI n) - (nI 0)))], [])) rfl ?_
  rw [ey_7]
  refine y_steps hC 2 (σ' := (10, [(3, .int (nI n)), (0, .ref d), (1, .int (nI 0)), (2, .int (nI n))], [.int (nI n)], [])) rfl ?_
  refine y_newa (n := n) (a0 := (n, .inl (fun _ => 0))) hC 2 (atype := .byte) (z_t3 (i := 223) rfl rfl) rfl (fun _ => rfl) (by omega) (by decide) (by omega) (by omega) rfl (fun q10 => ?_)
  refine y_steps hC 6 (σ' := (20, [(4, .ref q10), (3, .int (nI n)), (0, .ref d), (1, .int (nI 0)), (2, .int (nI n))], [.ref d, .int (nI 0), .ref q10, .int (nI 0), .ref d], [])) rfl ?_
  refine y_alen hC 1 2 rfl rfl rfl ?_
  refine y_steps hC 1 (σ' := (22, [(4, .ref q10), (3, .int (nI n)), (0, .ref d), (1, .int (nI 0)), (2, .int (nI n))], [.int (nI 0), .int (nI m), .int (nI 0), .ref q10, .int (nI 0), .ref d], [])) rfl ?_
  have ey_22 : ((nI m) - (nI 0)) = nI m := pk_sub (Nat.zero_le m)
  refine y_one hC (σ' := (23, [(4, .ref q10), (3, .int (nI n)), (0, .ref d), (1, .int (nI 0)), (2, .int (nI n))], [.int (((nI m) - (nI 0))), .int (nI 0), .ref q10, .int (nI 0), .ref d], [])) rfl ?_
  rw [ey_22]
  refine y_steps hC 1 (σ' := (24, [(4, .ref q10), (3, .int (nI n)), (0, .ref d), (1, .int (nI 0)), (2, .int (nI n))], [.int (nI n), .int (nI m), .int (nI 0), .ref q10, .int (nI 0), .ref d], [])) rfl ?_
  refine y_callS (y := 115) (idx := 304) (w := ([] : va_W)) (wr := (q10, .inl (y_c ε 2, n, .inl ((fun _ => 0)))) :: [(d, .inl (y_c ε 2, m, .inl f))]) (av := [.int (nI m), .int (nI n)]) hC rfl rfl (z_t4 (i := 22) rfl rfl) (z_t2 (i := 8) rfl rfl) (z_t1 (i := 9) rfl rfl) (c_J9_min_7cf53_y (a := m) (b := n) (by first | assumption | omega | rfl | trivial) (by first | assumption | omega | rfl | trivial)) (by decide +kernel) rfl rfl (by omega) (by omega) rfl (fun r_24 w_24 p_24 => ?_)
  obtain ⟨rfl, rfl⟩ := p_24
  rw [show min m n = n from by omega]
  refine y_steps hC 0 (σ' := (27, [(4, .ref q10), (3, .int (nI n)), (0, .ref d), (1, .int (nI 0)), (2, .int (nI n))], [.int (nI n), .int (nI 0), .ref q10, .int (nI 0), .ref d], [])) rfl ?_
  refine y_cpyb (k0 := 1) (k1 := 0) (ws2 := ((q10, .inl (y_c ε 2, n, .inl (va_cpy f ((fun _ => 0)) 0 0 n))) :: [(d, .inl (y_c ε 2, m, .inl f))])) hC rfl rfl rfl (z_t4 (i := 23) rfl rfl) (z_t2 (i := 37) rfl rfl) (z_t2 (i := 36) rfl rfl) (z_t1 (i := 8) rfl rfl) (by first | assumption | omega | rfl | trivial) (by first | assumption | omega | rfl | trivial) (by first | assumption | omega | rfl | trivial) (by first | assumption | omega | rfl | trivial) (by exact hf) (by decide) rfl rfl ?_
  refine y_steps hC 1 (σ' := (32, [(4, .ref q10), (3, .int (nI n)), (0, .ref d), (1, .int (nI 0)), (2, .int (nI n))], [.ref q10], [])) rfl ?_
  exact y_aret hC hT rfl (Or.inr ⟨_, rfl⟩) rfl (by omega) (by omega) ⟨q10, (va_cpy f ((fun _ => 0)) 0 0 n), rfl, (by rfl), (by exact fun k hk => y_cpy0 hk)⟩
set_option maxHeartbeats 4000000 in
set_option maxRecDepth 1000000 in
theorem c_J7_copyOfRange_39247 {ε : y_Ev} {f : Nat → Int32} {d : Nat} {n : Nat} {m : Nat} (hn : n ≤ m) (hm : m ≤ 1000) (hf : ∀ j, fits .byte (.int (f j)) = true) : y_C ε zmJ7_copyOfRange_39247 3 105 1 1000 [.ref d, .int (nI 0), .int (nI n)] ([(d, .inl (y_c ε 2, m, .inl f))]) (fun r w2 => ∃ (q : Nat) (g : Nat → Int32), r = some (.ref q) ∧ w2 = (q, .inl (y_c ε 2, n, .inl g)) :: [(d, .inl (y_c ε 2, m, .inl f))] ∧ (∀ k, k < n → g k = f k)) := by
  refine y_start (y := 136) rfl rfl (fun κ hC hT hN0 => ?_)
  refine y_steps hC 4 (σ' := (6, [(0, .ref d), (1, .int (nI 0)), (2, .int (nI n))], [.ref d, .int (nI n)], [])) rfl ?_
  refine y_alen hC 0 2 rfl rfl rfl ?_
  refine y_steps hC 0 (σ' := (7, [(0, .ref d), (1, .int (nI 0)), (2, .int (nI n))], [.int (nI m), .int (nI n)], [])) rfl ?_
  refine y_if hC (c := nI n = nI m) rfl (fun c_7 => ?_) (fun c_7 => ?_)
  · skip
    rw [nI_eq (by omega) (by omega)] at c_7
    refine y_steps hC 1 (σ' := (18, [(0, .ref d), (1, .int (nI 0)), (2, .int (nI n))], [.ref d], [])) rfl ?_
    refine y_clone hC (k := 0) rfl rfl (z_t4 (i := 15) rfl rfl) (z_t4 (i := 16) rfl rfl) (z_t4 (i := 17) rfl rfl) (z_t4 (i := 18) rfl rfl) (z_t4 (i := 19) rfl rfl) (z_wordN_m (pos := 758) rfl rfl) (by exact hf) (by decide) rfl (by omega) (by omega) (fun q18 => ?_)
    refine y_steps hC 0 (σ' := (21, [(0, .ref d), (1, .int (nI 0)), (2, .int (nI n))], [.ref q18], [])) rfl ?_
    refine y_castB hC (k := 0) rfl rfl (z_t4 (i := 21) rfl rfl) ?_
    refine y_steps hC 0 (σ' := (24, [(0, .ref d), (1, .int (nI 0)), (2, .int (nI n))], [.ref q18], [])) rfl ?_
    exact y_aret hC hT rfl (Or.inr ⟨_, rfl⟩) rfl (by omega) (by omega) ⟨q18, f, rfl, (by first | rfl | (rw [c_7])), (by exact fun _ _ => rfl)⟩
  · skip
    rw [nI_eq (by omega) (by omega)] at c_7
    refine y_steps hC 3 (σ' := (13, [(0, .ref d), (1, .int (nI 0)), (2, .int (nI n))], [.int (nI n), .int (nI 0), .ref d], [])) rfl ?_
    refine y_callS (y := 137) (idx := 339) (w := [(d, .inl (y_c ε 2, m, .inl f))]) (wr := ([] : va_W)) (av := [.ref d, .int (nI 0), .int (nI n)]) hC rfl rfl (z_t4 (i := 136) rfl rfl) (z_t4 (i := 137) rfl rfl) (z_t1 (i := 3) rfl rfl) (c_J7_copyOfRangeByte_39247 (f := f) (d := d) (n := n) (m := m) (by first | assumption | omega | rfl | trivial) (by first | assumption | omega | rfl | trivial) (by exact hf)) (by decide +kernel) rfl rfl (by omega) (by omega) rfl (fun r_13 w_13 p_13 => ?_)
    obtain ⟨q_13, g_13, rfl, rfl, q_13⟩ := p_13
    refine y_steps hC 0 (σ' := (16, [(0, .ref d), (1, .int (nI 0)), (2, .int (nI n))], [.ref q_13], [])) rfl ?_
    exact y_aret hC hT rfl (Or.inr ⟨_, rfl⟩) rfl (by omega) (by omega) ⟨q_13, g_13, rfl, (by first | rfl | (rw [c_7])), (by first | exact q_13 | exact fun _ _ => rfl)⟩
set_option maxHeartbeats 4000000 in
set_option maxRecDepth 1000000 in
theorem c_J0_init_db425 {ε : y_Ev} {f : Nat → Int32} {s : Nat} {a : Nat} {v : Nat} {m : Nat} {L : List Nat} (hs : y_Sb L m f) : y_C ε zmJ0_init_db425 4 127 1 1000 [.ref s, .ref a, .null] ((s, .inr (6, [.null, .int (nI 0), .int (nI 0), .int (nI 0)])) :: ((a, .inr (7, [.ref v, .int (nI 0), .int (nI 0), .int (nI L.length)])) :: [(v, .inl (y_c ε 2, m, .inl f))])) (fun r w2 => ∃ (v2 : Nat) (f2 : Nat → Int32), r = none ∧ w2 = (s, .inr (6, [.ref v2, .int (nI 0), .int (nI 0), .int (nI 0)])) :: ((v2, .inl (y_c ε 2, L.length, .inl f2)) :: ((a, .inr (7, [.ref v, .int (nI 0), .int (nI 0), .int (nI L.length)])) :: [(v, .inl (y_c ε 2, m, .inl f))])) ∧ (∀ k, k < L.length → f2 k = nI (L.getD k 0))) := by
  obtain ⟨s1, s2, s3, s4, s5⟩ := id hs
  refine y_start (y := 121) rfl rfl (fun κ hC hT hN0 => ?_)
  refine y_steps hC 1 (σ' := (1, [(0, .ref s), (1, .ref a), (2, .null)], [.ref s], [])) rfl ?_
  refine y_obj hC rfl (z_t4 (i := 118) rfl rfl) (z_t1 (i := 25) rfl rfl) (z_t1 (i := 26) rfl rfl) (by decide) (by decide) rfl ?_
  refine y_steps hC 1 (σ' := (5, [(0, .ref s), (1, .ref a), (2, .null)], [.ref a], [])) rfl ?_
  refine y_mv [[(s, .inr (6, [.null, .int (nI 0), .int (nI 0), .int (nI 0)]))]] ([(a, .inr (7, [.ref v, .int (nI 0), .int (nI 0), .int (nI L.length)]))]) [[(v, .inl (y_c ε 2, m, .inl f))]] ?_
  refine y_callU (b := a) (C := "java/lang/StringBuilder") (x := ⟨"java/lang/AbstractStringBuilder", "getValue", "()[B"⟩) (y := 107) (idx := 552) (w := [(a, .inr (7, [.ref v, .int (nI 0), .int (nI 0), .int (nI L.length)]))]) (wr := (s, .inr (6, [.null, .int (nI 0), .int (nI 0), .int (nI 0)])) :: [(v, .inl (y_c ε 2, m, .inl f))]) (av := []) hC rfl rfl rfl (z_t4 (i := 119) rfl rfl) (z_t4 (i := 121) rfl rfl) (z_t4 (i := 122) rfl rfl) (z_t4 (i := 120) rfl rfl) (z_t1 (i := 12) rfl rfl) (fun H locs hP hS => y_rW (ci := 7) (k := 0) hC rfl rfl H locs hP hS) (c_J5_getValue_6d5f1 (a := a) (v := v) (n := L.length) ) (by decide +kernel) rfl rfl (by omega) (by omega) rfl (fun r_5 w_5 p_5 => ?_)
  obtain ⟨rfl, rfl⟩ := p_5
  refine y_steps hC 2 (σ' := (10, [(3, .ref v), (0, .ref s), (1, .ref a), (2, .null)], [.ref a], [])) rfl ?_
  refine y_callO (b := a) (C := "java/lang/StringBuilder") (x := ⟨"java/lang/AbstractStringBuilder", "length", "()I"⟩) (y := 130) (idx := 549) (w := [(a, .inr (7, [.ref v, .int (nI 0), .int (nI 0), .int (nI L.length)]))]) (wr := (s, .inr (6, [.null, .int (nI 0), .int (nI 0), .int (nI 0)])) :: [(v, .inl (y_c ε 2, m, .inl f))]) (av := []) hC rfl rfl (z_t4 (i := 131) rfl rfl) ⟨by decide, by decide⟩ (z_t4 (i := 124) rfl rfl) (z_t4 (i := 126) rfl rfl) (z_t4 (i := 125) rfl rfl) (z_t4 (i := 127) rfl rfl) (z_t4 (i := 128) rfl rfl) (z_t1 (i := 13) rfl rfl) (fun H locs hP hS => y_rW (ci := 7) (k := 0) hC rfl rfl H locs hP hS) (c_J4_length_8abf5 (a := a) (v := v) (n := L.length) ) (by decide +kernel) rfl rfl (by omega) (by omega) rfl (fun r_10 w_10 p_10 => ?_)
  obtain ⟨rfl, rfl⟩ := p_10
  refine y_steps hC 2 (σ' := (16, [(4, .int (nI L.length)), (3, .ref v), (0, .ref s), (1, .ref a), (2, .null)], [.ref a], [])) rfl ?_
  refine y_callU (b := a) (C := "java/lang/StringBuilder") (x := ⟨"java/lang/AbstractStringBuilder", "isLatin1", "()Z"⟩) (y := 108) (idx := 1047) (w := [(a, .inr (7, [.ref v, .int (nI 0), .int (nI 0), .int (nI L.length)]))]) (wr := (s, .inr (6, [.null, .int (nI 0), .int (nI 0), .int (nI 0)])) :: [(v, .inl (y_c ε 2, m, .inl f))]) (av := []) hC rfl rfl rfl (z_t4 (i := 132) rfl rfl) (z_t4 (i := 26) rfl rfl) (z_t4 (i := 27) rfl rfl) (z_t4 (i := 25) rfl rfl) (z_t1 (i := 12) rfl rfl) (fun H locs hP hS => y_rW (ci := 7) (k := 0) hC rfl rfl H locs hP hS) (c_J5_isLatin1_aae02 (a := a) (v := v) (n := L.length) ) (by decide +kernel) rfl rfl (by omega) (by omega) rfl (fun r_16 w_16 p_16 => ?_)
  obtain ⟨rfl, rfl⟩ := p_16
  refine y_steps hC 3 (σ' := (24, [(4, .int (nI L.length)), (3, .ref v), (0, .ref s), (1, .ref a), (2, .null)], [.int (nI 0), .ref s], [])) rfl ?_
  refine y_putF (k := 1) (ci := 6) (j := 1) (ty := .byte) (ws2 := ((a, .inr (7, [.ref v, .int (nI 0), .int (nI 0), .int (nI L.length)])) :: ((s, .inr (6, [.null, .int (nI 0), .int (nI 0), .int (nI 0)])) :: [(v, .inl (y_c ε 2, m, .inl f))]))) hC hN0 rfl rfl rfl rfl (z_t4 (i := 153) rfl rfl) rfl rfl (by decide +kernel) (by rfl) (by rfl) rfl rfl ?_
  refine y_steps hC 4 (σ' := (32, [(4, .int (nI L.length)), (3, .ref v), (0, .ref s), (1, .ref a), (2, .null)], [.int (nI L.length), .int (nI 0), .ref v, .ref s], [])) rfl ?_
  refine y_mv [[(a, .inr (7, [.ref v, .int (nI 0), .int (nI 0), .int (nI L.length)]))], [(s, .inr (6, [.null, .int (nI 0), .int (nI 0), .int (nI 0)]))]] ([(v, .inl (y_c ε 2, m, .inl f))]) [] ?_
  refine y_callS (y := 136) (idx := 54) (w := [(v, .inl (y_c ε 2, m, .inl f))]) (wr := (a, .inr (7, [.ref v, .int (nI 0), .int (nI 0), .int (nI L.length)])) :: ([(s, .inr (6, [.null, .int (nI 0), .int (nI 0), .int (nI 0)]))])) (av := [.ref v, .int (nI 0), .int (nI L.length)]) hC rfl rfl (z_t4 (i := 133) rfl rfl) (z_t4 (i := 134) rfl rfl) (z_t1 (i := 3) rfl rfl) (c_J7_copyOfRange_39247 (f := f) (d := v) (n := L.length) (m := m) (by first | assumption | omega | rfl | trivial) (by first | assumption | omega | rfl | trivial) (by exact s5)) (by decide +kernel) rfl rfl (by omega) (by omega) rfl (fun r_32 w_32 p_32 => ?_)
  obtain ⟨q_32, g_32, rfl, rfl, q_32⟩ := p_32
  refine y_steps hC 0 (σ' := (35, [(4, .int (nI L.length)), (3, .ref v), (0, .ref s), (1, .ref a), (2, .null)], [.ref q_32, .ref s], [])) rfl ?_
  refine y_putF (k := 3) (ci := 6) (j := 0) (ty := .array .byte) (ws2 := ((q_32, .inl (y_c ε 2, L.length, .inl g_32)) :: ((v, .inl (y_c ε 2, m, .inl f)) :: ((a, .inr (7, [.ref v, .int (nI 0), .int (nI 0), .int (nI L.length)])) :: ([(s, .inr (6, [.ref q_32, .int (nI 0), .int (nI 0), .int (nI 0)]))]))))) hC hN0 rfl rfl rfl rfl (z_t4 (i := 152) rfl rfl) rfl rfl (by decide +kernel) (by rfl) (by rfl) rfl rfl ?_
  refine y_steps hC 1 (σ' := (97, [(4, .int (nI L.length)), (3, .ref v), (0, .ref s), (1, .ref a), (2, .null)], [], [])) rfl ?_
  refine y_mv [[(q_32, .inl (y_c ε 2, L.length, .inl g_32))]] ([(v, .inl (y_c ε 2, m, .inl f))]) [[(a, .inr (7, [.ref v, .int (nI 0), .int (nI 0), .int (nI L.length)]))], [(s, .inr (6, [.ref q_32, .int (nI 0), .int (nI 0), .int (nI 0)]))]] ?_
  refine y_mv [[(v, .inl (y_c ε 2, m, .inl f))], [(q_32, .inl (y_c ε 2, L.length, .inl g_32))]] ([(a, .inr (7, [.ref v, .int (nI 0), .int (nI 0), .int (nI L.length)]))]) [[(s, .inr (6, [.ref q_32, .int (nI 0), .int (nI 0), .int (nI 0)]))]] ?_
  refine y_mv [[(a, .inr (7, [.ref v, .int (nI 0), .int (nI 0), .int (nI L.length)]))], [(v, .inl (y_c ε 2, m, .inl f))]] ([(q_32, .inl (y_c ε 2, L.length, .inl g_32))]) [[(s, .inr (6, [.ref q_32, .int (nI 0), .int (nI 0), .int (nI 0)]))]] ?_
  refine y_mv [[(q_32, .inl (y_c ε 2, L.length, .inl g_32))], [(a, .inr (7, [.ref v, .int (nI 0), .int (nI 0), .int (nI L.length)]))], [(v, .inl (y_c ε 2, m, .inl f))]] ([(s, .inr (6, [.ref q_32, .int (nI 0), .int (nI 0), .int (nI 0)]))]) [] ?_
  exact y_vret hC hT rfl rfl (by omega) (by omega) ⟨q_32, g_32, rfl, (by rfl), (by exact fun k hk => (q_32 k hk).trans (s3 k hk))⟩
set_option maxHeartbeats 4000000 in
set_option maxRecDepth 1000000 in
theorem c_J0_init_81219 {ε : y_Ev} {f : Nat → Int32} {s : Nat} {a : Nat} {v : Nat} {m : Nat} {L : List Nat} (hs : y_Sb L m f) : y_C ε zmJ0_init_81219 5 151 1 1000 [.ref s, .ref a] ((s, .inr (6, [.null, .int (nI 0), .int (nI 0), .int (nI 0)])) :: ((a, .inr (7, [.ref v, .int (nI 0), .int (nI 0), .int (nI L.length)])) :: [(v, .inl (y_c ε 2, m, .inl f))])) (fun r w2 => ∃ (v2 : Nat) (f2 : Nat → Int32), r = none ∧ w2 = (s, .inr (6, [.ref v2, .int (nI 0), .int (nI 0), .int (nI 0)])) :: ((v2, .inl (y_c ε 2, L.length, .inl f2)) :: ((a, .inr (7, [.ref v, .int (nI 0), .int (nI 0), .int (nI L.length)])) :: [(v, .inl (y_c ε 2, m, .inl f))])) ∧ (∀ k, k < L.length → f2 k = nI (L.getD k 0))) := by
  refine y_start (y := 117) rfl rfl (fun κ hC hT hN0 => ?_)
  refine y_steps hC 2 (σ' := (2, [(0, .ref s), (1, .ref a)], [.ref a, .ref s], [])) rfl ?_
  refine y_null hC rfl ?_
  refine y_steps hC 0 (σ' := (3, [(0, .ref s), (1, .ref a)], [.null, .ref a, .ref s], [])) rfl ?_
  refine y_callI (y := 121) (idx := 489) (w := (s, .inr (6, [.null, .int (nI 0), .int (nI 0), .int (nI 0)])) :: ((a, .inr (7, [.ref v, .int (nI 0), .int (nI 0), .int (nI L.length)])) :: [(v, .inl (y_c ε 2, m, .inl f))])) (wr := ([] : va_W)) (av := [.ref a, .null]) hC rfl rfl rfl rfl (z_t4 (i := 115) rfl rfl) (z_t4 (i := 116) rfl rfl) (z_t1 (i := 14) rfl rfl) (c_J0_init_db425 (f := f) (s := s) (a := a) (v := v) (m := m) (L := L) (by exact hs)) (by decide +kernel) rfl rfl (by omega) (by omega) rfl (fun r_3 w_3 p_3 => ?_)
  obtain ⟨v2_3, f2_3, rfl, rfl, q_3⟩ := p_3
  refine y_steps hC 0 (σ' := (6, [(0, .ref s), (1, .ref a)], [], [])) rfl ?_
  exact y_vret hC hT rfl rfl (by omega) (by omega) ⟨v2_3, f2_3, rfl, (by rfl), (by exact q_3)⟩
set_option maxHeartbeats 4000000 in
set_option maxRecDepth 1000000 in
theorem c_J4_toString_0e30d {ε : y_Ev} {f : Nat → Int32} {a : Nat} {v : Nat} {m : Nat} {L : List Nat} (hs : y_Sb L m f) : y_C ε zmJ4_toString_0e30d 6 172 2 1004 [.ref a] ((a, .inr (7, [.ref v, .int (nI 0), .int (nI 0), .int (nI L.length)])) :: [(v, .inl (y_c ε 2, m, .inl f))]) (fun r w2 => ∃ (t_a : Nat) (t_v : Nat) (t_f : Nat → Int32) (t_L : List Nat) (t_B : va_W), r = some (.ref t_a) ∧ w2 = t_B ∧ (y_Tv ε t_a t_v t_f t_L t_B) ∧ (t_L = L)) := by
  obtain ⟨s1, s2, s3, s4, s5⟩ := id hs
  refine y_start (y := 129) rfl rfl (fun κ hC hT hN0 => ?_)
  refine y_steps hC 0 (σ' := (0, [(0, .ref a)], [], [])) rfl ?_
  refine y_new (ci := 6) (fs := [.null, .int (nI 0), .int (nI 0), .int (nI 0)]) hC rfl tyJ0 tyJ0_ok (z_t4 (i := 110) rfl rfl) (z_t4 (i := 111) rfl rfl) (z_t1 (i := 14) rfl rfl) (fun j hj => by match j, hj with | 0, _ => rfl | 1, _ => rfl | 2, _ => rfl | 3, _ => rfl | j + 4, hj => exact absurd hj (by omega)) (by omega) (by omega) rfl (fun q0 => ?_)
  refine y_steps hC 2 (σ' := (5, [(0, .ref a)], [.ref a, .ref q0, .ref q0], [])) rfl ?_
  refine y_callI (y := 117) (idx := 137) (w := (q0, .inr (6, [.null, .int (nI 0), .int (nI 0), .int (nI 0)])) :: ((a, .inr (7, [.ref v, .int (nI 0), .int (nI 0), .int (nI L.length)])) :: [(v, .inl (y_c ε 2, m, .inl f))])) (wr := ([] : va_W)) (av := [.ref a]) hC rfl rfl rfl rfl (z_t4 (i := 112) rfl rfl) (z_t4 (i := 113) rfl rfl) (z_t1 (i := 14) rfl rfl) (c_J0_init_81219 (f := f) (s := q0) (a := a) (v := v) (m := m) (L := L) (by exact hs)) (by decide +kernel) rfl rfl (by omega) (by omega) rfl (fun r_5 w_5 p_5 => ?_)
  obtain ⟨v2_5, f2_5, rfl, rfl, q_5⟩ := p_5
  refine y_steps hC 0 (σ' := (8, [(0, .ref a)], [.ref q0], [])) rfl ?_
  refine y_mv [[(q0, .inr (6, [.ref v2_5, .int (nI 0), .int (nI 0), .int (nI 0)])), (v2_5, .inl (y_c ε 2, L.length, .inl f2_5))]] ([(a, .inr (7, [.ref v, .int (nI 0), .int (nI 0), .int (nI L.length)]))]) [[(v, .inl (y_c ε 2, m, .inl f))]] ?_
  refine y_drp ([(a, .inr (7, [.ref v, .int (nI 0), .int (nI 0), .int (nI L.length)]))]) [[(q0, .inr (6, [.ref v2_5, .int (nI 0), .int (nI 0), .int (nI 0)])), (v2_5, .inl (y_c ε 2, L.length, .inl f2_5))], [(v, .inl (y_c ε 2, m, .inl f))]] ?_
  refine y_mv [[(q0, .inr (6, [.ref v2_5, .int (nI 0), .int (nI 0), .int (nI 0)])), (v2_5, .inl (y_c ε 2, L.length, .inl f2_5))]] ([(v, .inl (y_c ε 2, m, .inl f))]) [] ?_
  refine y_drp ([(v, .inl (y_c ε 2, m, .inl f))]) [[(q0, .inr (6, [.ref v2_5, .int (nI 0), .int (nI 0), .int (nI 0)])), (v2_5, .inl (y_c ε 2, L.length, .inl f2_5))]] ?_
  exact y_aret hC hT rfl (Or.inl ⟨_, rfl⟩) rfl (by omega) (by omega) ⟨q0, v2_5, f2_5, L, ([(q0, .inr (6, [.ref v2_5, .int (nI 0), .int (nI 0), .int (nI 0)])), (v2_5, .inl (y_c ε 2, L.length, .inl f2_5))]), rfl, (by rfl), (y_Tm q_5 s4 (by omega)), (by rfl)⟩
