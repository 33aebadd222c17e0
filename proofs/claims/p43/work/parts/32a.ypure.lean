/-! the law's machine: cells by their addresses; instructions that touch none -/
def z_id : Nat → Nat := fun k => k
def y_G0 (p : Program) (l : Launch) (e : Env) (R : Room) (s : State) (m : MethodId) (args : Array Value) (below : List Frame) (meth : Method) (c : Code) (Q : State → Prop) (A : Nat → Prop) (H0 : Heap) (D : va_G) (B : va_W) (nc ns nL : Nat) (σ : z_S) : Prop :=
  ∀ (H : Heap) (locs : List Loc) (ls : Array Slot), lv_has ls nL (z_lm z_id σ.2.1) → va_P D z_cl B H → va_D A B → va_S A H0 H locs → W p l e R s m args below meth c H locs nc ns Q (F0 m σ.1 ls (σ.2.2.1.map (z_re z_id)))
section YS
variable {p : Program} {l : Launch} {e : Env} {R : Room} {s : State} {m : MethodId} {args : Array Value} {below : List Frame} {meth : Method} {c : Code} {Q : State → Prop} {A : Nat → Prop} {H0 : Heap} {D : va_G} {B : va_W} {nc ns nL : Nat} {cc : ByteArray} {own pc n : Nat} {lv : z_L} {st : List Value} {h : List z_E} {σ : z_S}
theorem ys_iconst {lk : Nat → Option z_K} {v : Int}  (hx : p.tables.exec = Jvm.exec) (hb : c.code = cc)(hd : decode cc pc = .ok (.iconst v, n)) (hn : z_lenok (.iconst v) n = true) (hc : z_cok (.iconst v) = true) (hi : z_ins lk nL pc lv st h (.iconst v) = some σ) (k : y_G0 p l e R s m args below meth c Q A H0 D B nc ns nL σ) : y_G0 p l e R s m args below meth c Q A H0 D B nc ns nL (pc, lv, st, h) := by
  obtain rfl : n = z_len (.iconst v) := Nat.eq_of_beq_eq_true hn
  simp only [z_ins] at hi
  cases hi
  exact fun H locs ls hl hP hD hS => lv_iconst hx hb hd (of_decide_eq_true hc) (k H locs ls hl hP hD hS)
theorem ys_bipush {lk : Nat → Option z_K} {v : Int}  (hx : p.tables.exec = Jvm.exec) (hb : c.code = cc)(hd : decode cc pc = .ok (.bipush v, n)) (hn : z_lenok (.bipush v) n = true) (hc : z_cok (.bipush v) = true) (hi : z_ins lk nL pc lv st h (.bipush v) = some σ) (k : y_G0 p l e R s m args below meth c Q A H0 D B nc ns nL σ) : y_G0 p l e R s m args below meth c Q A H0 D B nc ns nL (pc, lv, st, h) := by
  obtain rfl : n = z_len (.bipush v) := Nat.eq_of_beq_eq_true hn
  simp only [z_ins] at hi
  cases hi
  exact fun H locs ls hl hP hD hS => lv_bipush hx hb hd (of_decide_eq_true hc) (k H locs ls hl hP hD hS)
theorem ys_sipush {lk : Nat → Option z_K} {v : Int}  (hx : p.tables.exec = Jvm.exec) (hb : c.code = cc)(hd : decode cc pc = .ok (.sipush v, n)) (hn : z_lenok (.sipush v) n = true) (hc : z_cok (.sipush v) = true) (hi : z_ins lk nL pc lv st h (.sipush v) = some σ) (k : y_G0 p l e R s m args below meth c Q A H0 D B nc ns nL σ) : y_G0 p l e R s m args below meth c Q A H0 D B nc ns nL (pc, lv, st, h) := by
  obtain rfl : n = z_len (.sipush v) := Nat.eq_of_beq_eq_true hn
  simp only [z_ins] at hi
  cases hi
  exact fun H locs ls hl hP hD hS => lv_sipush hx hb hd (of_decide_eq_true hc) (k H locs ls hl hP hD hS)
theorem ys_lconst {lk : Nat → Option z_K} {v : Fin 2}  (hx : p.tables.exec = Jvm.exec) (hb : c.code = cc)(hd : decode cc pc = .ok (.lconst v, n)) (hn : z_lenok (.lconst v) n = true) (hi : z_ins lk nL pc lv st h (.lconst v) = some σ) (k : y_G0 p l e R s m args below meth c Q A H0 D B nc ns nL σ) : y_G0 p l e R s m args below meth c Q A H0 D B nc ns nL (pc, lv, st, h) := by
  obtain rfl : n = z_len (.lconst v) := Nat.eq_of_beq_eq_true hn
  simp only [z_ins] at hi
  cases hi
  exact fun H locs ls hl hP hD hS => lv_lconst hx hb hd rfl (k H locs ls hl hP hD hS)
theorem ys_iadd {lk : Nat → Option z_K}  (hx : p.tables.exec = Jvm.exec) (hb : c.code = cc)(hd : decode cc pc = .ok (.iadd, n)) (hn : z_lenok (.iadd) n = true) (hi : z_ins lk nL pc lv st h (.iadd) = some σ) (k : y_G0 p l e R s m args below meth c Q A H0 D B nc ns nL σ) : y_G0 p l e R s m args below meth c Q A H0 D B nc ns nL (pc, lv, st, h) := by
  obtain rfl : n = z_len (.iadd) := Nat.eq_of_beq_eq_true hn
  simp only [z_ins] at hi
  split at hi
  · cases hi
    exact fun H locs ls hl hP hD hS => lv_iadd hx hb hd (k H locs ls hl hP hD hS)
  · cases hi
theorem ys_isub {lk : Nat → Option z_K}  (hx : p.tables.exec = Jvm.exec) (hb : c.code = cc)(hd : decode cc pc = .ok (.isub, n)) (hn : z_lenok (.isub) n = true) (hi : z_ins lk nL pc lv st h (.isub) = some σ) (k : y_G0 p l e R s m args below meth c Q A H0 D B nc ns nL σ) : y_G0 p l e R s m args below meth c Q A H0 D B nc ns nL (pc, lv, st, h) := by
  obtain rfl : n = z_len (.isub) := Nat.eq_of_beq_eq_true hn
  simp only [z_ins] at hi
  split at hi
  · cases hi
    exact fun H locs ls hl hP hD hS => lv_isub hx hb hd (k H locs ls hl hP hD hS)
  · cases hi
theorem ys_imul {lk : Nat → Option z_K}  (hx : p.tables.exec = Jvm.exec) (hb : c.code = cc)(hd : decode cc pc = .ok (.imul, n)) (hn : z_lenok (.imul) n = true) (hi : z_ins lk nL pc lv st h (.imul) = some σ) (k : y_G0 p l e R s m args below meth c Q A H0 D B nc ns nL σ) : y_G0 p l e R s m args below meth c Q A H0 D B nc ns nL (pc, lv, st, h) := by
  obtain rfl : n = z_len (.imul) := Nat.eq_of_beq_eq_true hn
  simp only [z_ins] at hi
  split at hi
  · cases hi
    exact fun H locs ls hl hP hD hS => lv_imul hx hb hd (k H locs ls hl hP hD hS)
  · cases hi
theorem ys_iand {lk : Nat → Option z_K}  (hx : p.tables.exec = Jvm.exec) (hb : c.code = cc)(hd : decode cc pc = .ok (.iand, n)) (hn : z_lenok (.iand) n = true) (hi : z_ins lk nL pc lv st h (.iand) = some σ) (k : y_G0 p l e R s m args below meth c Q A H0 D B nc ns nL σ) : y_G0 p l e R s m args below meth c Q A H0 D B nc ns nL (pc, lv, st, h) := by
  obtain rfl : n = z_len (.iand) := Nat.eq_of_beq_eq_true hn
  simp only [z_ins] at hi
  split at hi
  · cases hi
    exact fun H locs ls hl hP hD hS => lv_iand hx hb hd (k H locs ls hl hP hD hS)
  · cases hi
theorem ys_ior {lk : Nat → Option z_K}  (hx : p.tables.exec = Jvm.exec) (hb : c.code = cc)(hd : decode cc pc = .ok (.ior, n)) (hn : z_lenok (.ior) n = true) (hi : z_ins lk nL pc lv st h (.ior) = some σ) (k : y_G0 p l e R s m args below meth c Q A H0 D B nc ns nL σ) : y_G0 p l e R s m args below meth c Q A H0 D B nc ns nL (pc, lv, st, h) := by
  obtain rfl : n = z_len (.ior) := Nat.eq_of_beq_eq_true hn
  simp only [z_ins] at hi
  split at hi
  · cases hi
    exact fun H locs ls hl hP hD hS => lv_ior hx hb hd (k H locs ls hl hP hD hS)
  · cases hi
theorem ys_ixor {lk : Nat → Option z_K}  (hx : p.tables.exec = Jvm.exec) (hb : c.code = cc)(hd : decode cc pc = .ok (.ixor, n)) (hn : z_lenok (.ixor) n = true) (hi : z_ins lk nL pc lv st h (.ixor) = some σ) (k : y_G0 p l e R s m args below meth c Q A H0 D B nc ns nL σ) : y_G0 p l e R s m args below meth c Q A H0 D B nc ns nL (pc, lv, st, h) := by
  obtain rfl : n = z_len (.ixor) := Nat.eq_of_beq_eq_true hn
  simp only [z_ins] at hi
  split at hi
  · cases hi
    exact fun H locs ls hl hP hD hS => lv_ixor hx hb hd (k H locs ls hl hP hD hS)
  · cases hi
theorem ys_ineg {lk : Nat → Option z_K}  (hx : p.tables.exec = Jvm.exec) (hb : c.code = cc)(hd : decode cc pc = .ok (.ineg, n)) (hn : z_lenok (.ineg) n = true) (hi : z_ins lk nL pc lv st h (.ineg) = some σ) (k : y_G0 p l e R s m args below meth c Q A H0 D B nc ns nL σ) : y_G0 p l e R s m args below meth c Q A H0 D B nc ns nL (pc, lv, st, h) := by
  obtain rfl : n = z_len (.ineg) := Nat.eq_of_beq_eq_true hn
  simp only [z_ins] at hi
  split at hi
  · cases hi
    exact fun H locs ls hl hP hD hS => lv_ineg hx hb hd (k H locs ls hl hP hD hS)
  · cases hi
theorem ys_ishl {lk : Nat → Option z_K}  (hx : p.tables.exec = Jvm.exec) (hb : c.code = cc)(hd : decode cc pc = .ok (.ishl, n)) (hn : z_lenok (.ishl) n = true) (hi : z_ins lk nL pc lv st h (.ishl) = some σ) (k : y_G0 p l e R s m args below meth c Q A H0 D B nc ns nL σ) : y_G0 p l e R s m args below meth c Q A H0 D B nc ns nL (pc, lv, st, h) := by
  obtain rfl : n = z_len (.ishl) := Nat.eq_of_beq_eq_true hn
  simp only [z_ins] at hi
  split at hi
  · cases hi
    exact fun H locs ls hl hP hD hS => lv_ishl hx hb hd (k H locs ls hl hP hD hS)
  · cases hi
theorem ys_ishr {lk : Nat → Option z_K}  (hx : p.tables.exec = Jvm.exec) (hb : c.code = cc)(hd : decode cc pc = .ok (.ishr, n)) (hn : z_lenok (.ishr) n = true) (hi : z_ins lk nL pc lv st h (.ishr) = some σ) (k : y_G0 p l e R s m args below meth c Q A H0 D B nc ns nL σ) : y_G0 p l e R s m args below meth c Q A H0 D B nc ns nL (pc, lv, st, h) := by
  obtain rfl : n = z_len (.ishr) := Nat.eq_of_beq_eq_true hn
  simp only [z_ins] at hi
  split at hi
  · cases hi
    exact fun H locs ls hl hP hD hS => lv_ishr hx hb hd (k H locs ls hl hP hD hS)
  · cases hi
theorem ys_ladd {lk : Nat → Option z_K}  (hx : p.tables.exec = Jvm.exec) (hb : c.code = cc)(hd : decode cc pc = .ok (.ladd, n)) (hn : z_lenok (.ladd) n = true) (hi : z_ins lk nL pc lv st h (.ladd) = some σ) (k : y_G0 p l e R s m args below meth c Q A H0 D B nc ns nL σ) : y_G0 p l e R s m args below meth c Q A H0 D B nc ns nL (pc, lv, st, h) := by
  obtain rfl : n = z_len (.ladd) := Nat.eq_of_beq_eq_true hn
  simp only [z_ins] at hi
  split at hi
  · cases hi
    exact fun H locs ls hl hP hD hS => lv_ladd hx hb hd (k H locs ls hl hP hD hS)
  · cases hi
theorem ys_lsub {lk : Nat → Option z_K}  (hx : p.tables.exec = Jvm.exec) (hb : c.code = cc)(hd : decode cc pc = .ok (.lsub, n)) (hn : z_lenok (.lsub) n = true) (hi : z_ins lk nL pc lv st h (.lsub) = some σ) (k : y_G0 p l e R s m args below meth c Q A H0 D B nc ns nL σ) : y_G0 p l e R s m args below meth c Q A H0 D B nc ns nL (pc, lv, st, h) := by
  obtain rfl : n = z_len (.lsub) := Nat.eq_of_beq_eq_true hn
  simp only [z_ins] at hi
  split at hi
  · cases hi
    exact fun H locs ls hl hP hD hS => lv_lsub hx hb hd (k H locs ls hl hP hD hS)
  · cases hi
theorem ys_lmul {lk : Nat → Option z_K}  (hx : p.tables.exec = Jvm.exec) (hb : c.code = cc)(hd : decode cc pc = .ok (.lmul, n)) (hn : z_lenok (.lmul) n = true) (hi : z_ins lk nL pc lv st h (.lmul) = some σ) (k : y_G0 p l e R s m args below meth c Q A H0 D B nc ns nL σ) : y_G0 p l e R s m args below meth c Q A H0 D B nc ns nL (pc, lv, st, h) := by
  obtain rfl : n = z_len (.lmul) := Nat.eq_of_beq_eq_true hn
  simp only [z_ins] at hi
  split at hi
  · cases hi
    exact fun H locs ls hl hP hD hS => lv_lmul hx hb hd (k H locs ls hl hP hD hS)
  · cases hi
theorem ys_land {lk : Nat → Option z_K}  (hx : p.tables.exec = Jvm.exec) (hb : c.code = cc)(hd : decode cc pc = .ok (.land, n)) (hn : z_lenok (.land) n = true) (hi : z_ins lk nL pc lv st h (.land) = some σ) (k : y_G0 p l e R s m args below meth c Q A H0 D B nc ns nL σ) : y_G0 p l e R s m args below meth c Q A H0 D B nc ns nL (pc, lv, st, h) := by
  obtain rfl : n = z_len (.land) := Nat.eq_of_beq_eq_true hn
  simp only [z_ins] at hi
  split at hi
  · cases hi
    exact fun H locs ls hl hP hD hS => lv_land hx hb hd (k H locs ls hl hP hD hS)
  · cases hi
theorem ys_lor {lk : Nat → Option z_K}  (hx : p.tables.exec = Jvm.exec) (hb : c.code = cc)(hd : decode cc pc = .ok (.lor, n)) (hn : z_lenok (.lor) n = true) (hi : z_ins lk nL pc lv st h (.lor) = some σ) (k : y_G0 p l e R s m args below meth c Q A H0 D B nc ns nL σ) : y_G0 p l e R s m args below meth c Q A H0 D B nc ns nL (pc, lv, st, h) := by
  obtain rfl : n = z_len (.lor) := Nat.eq_of_beq_eq_true hn
  simp only [z_ins] at hi
  split at hi
  · cases hi
    exact fun H locs ls hl hP hD hS => lv_lor hx hb hd (k H locs ls hl hP hD hS)
  · cases hi
theorem ys_iushr {lk : Nat → Option z_K}  (hx : p.tables.exec = Jvm.exec) (hb : c.code = cc)(hd : decode cc pc = .ok (.iushr, n)) (hn : z_lenok (.iushr) n = true) (hi : z_ins lk nL pc lv st h (.iushr) = some σ) (k : y_G0 p l e R s m args below meth c Q A H0 D B nc ns nL σ) : y_G0 p l e R s m args below meth c Q A H0 D B nc ns nL (pc, lv, st, h) := by
  obtain rfl : n = z_len (.iushr) := Nat.eq_of_beq_eq_true hn
  simp only [z_ins] at hi
  split at hi
  · cases hi
    exact fun H locs ls hl hP hD hS => lv_iushr hx hb hd rfl (k H locs ls hl hP hD hS)
  · cases hi
theorem ys_lshl {lk : Nat → Option z_K}  (hx : p.tables.exec = Jvm.exec) (hb : c.code = cc)(hd : decode cc pc = .ok (.lshl, n)) (hn : z_lenok (.lshl) n = true) (hi : z_ins lk nL pc lv st h (.lshl) = some σ) (k : y_G0 p l e R s m args below meth c Q A H0 D B nc ns nL σ) : y_G0 p l e R s m args below meth c Q A H0 D B nc ns nL (pc, lv, st, h) := by
  obtain rfl : n = z_len (.lshl) := Nat.eq_of_beq_eq_true hn
  simp only [z_ins] at hi
  split at hi
  · cases hi
    exact fun H locs ls hl hP hD hS => lv_lshl hx hb hd rfl (k H locs ls hl hP hD hS)
  · cases hi
theorem ys_i2l {lk : Nat → Option z_K}  (hx : p.tables.exec = Jvm.exec) (hb : c.code = cc)(hd : decode cc pc = .ok (.i2l, n)) (hn : z_lenok (.i2l) n = true) (hi : z_ins lk nL pc lv st h (.i2l) = some σ) (k : y_G0 p l e R s m args below meth c Q A H0 D B nc ns nL σ) : y_G0 p l e R s m args below meth c Q A H0 D B nc ns nL (pc, lv, st, h) := by
  obtain rfl : n = z_len (.i2l) := Nat.eq_of_beq_eq_true hn
  simp only [z_ins] at hi
  split at hi
  · cases hi
    exact fun H locs ls hl hP hD hS => lv_i2l hx hb hd rfl (k H locs ls hl hP hD hS)
  · cases hi
theorem ys_l2i {lk : Nat → Option z_K}  (hx : p.tables.exec = Jvm.exec) (hb : c.code = cc)(hd : decode cc pc = .ok (.l2i, n)) (hn : z_lenok (.l2i) n = true) (hi : z_ins lk nL pc lv st h (.l2i) = some σ) (k : y_G0 p l e R s m args below meth c Q A H0 D B nc ns nL σ) : y_G0 p l e R s m args below meth c Q A H0 D B nc ns nL (pc, lv, st, h) := by
  obtain rfl : n = z_len (.l2i) := Nat.eq_of_beq_eq_true hn
  simp only [z_ins] at hi
  split at hi
  · cases hi
    exact fun H locs ls hl hP hD hS => lv_l2i hx hb hd rfl (k H locs ls hl hP hD hS)
  · cases hi
theorem ys_lcmp {lk : Nat → Option z_K}  (hx : p.tables.exec = Jvm.exec) (hb : c.code = cc)(hd : decode cc pc = .ok (.lcmp, n)) (hn : z_lenok (.lcmp) n = true) (hi : z_ins lk nL pc lv st h (.lcmp) = some σ) (k : y_G0 p l e R s m args below meth c Q A H0 D B nc ns nL σ) : y_G0 p l e R s m args below meth c Q A H0 D B nc ns nL (pc, lv, st, h) := by
  obtain rfl : n = z_len (.lcmp) := Nat.eq_of_beq_eq_true hn
  simp only [z_ins] at hi
  split at hi
  · cases hi
    exact fun H locs ls hl hP hD hS => W.lcmp hx hb hd (k H locs ls hl hP hD hS)
  · cases hi
theorem ys_idiv {lk : Nat → Option z_K}  (hx : p.tables.exec = Jvm.exec) (hb : c.code = cc)(hd : decode cc pc = .ok (.idiv, n)) (hn : z_lenok (.idiv) n = true) (hi : z_ins lk nL pc lv st h (.idiv) = some σ) (k : y_G0 p l e R s m args below meth c Q A H0 D B nc ns nL σ) : y_G0 p l e R s m args below meth c Q A H0 D B nc ns nL (pc, lv, st, h) := by
  obtain rfl : n = z_len (.idiv) := Nat.eq_of_beq_eq_true hn
  simp only [z_ins] at hi
  split at hi
  · split at hi
    · rename_i hne
      cases hi
      exact fun H locs ls hl hP hD hS => lv_idiv hx hb hd hne (k H locs ls hl hP hD hS)
    · cases hi
  · cases hi
theorem ys_irem {lk : Nat → Option z_K}  (hx : p.tables.exec = Jvm.exec) (hb : c.code = cc)(hd : decode cc pc = .ok (.irem, n)) (hn : z_lenok (.irem) n = true) (hi : z_ins lk nL pc lv st h (.irem) = some σ) (k : y_G0 p l e R s m args below meth c Q A H0 D B nc ns nL σ) : y_G0 p l e R s m args below meth c Q A H0 D B nc ns nL (pc, lv, st, h) := by
  obtain rfl : n = z_len (.irem) := Nat.eq_of_beq_eq_true hn
  simp only [z_ins] at hi
  split at hi
  · split at hi
    · rename_i hne
      cases hi
      exact fun H locs ls hl hP hD hS => lv_irem hx hb hd hne (k H locs ls hl hP hD hS)
    · cases hi
  · cases hi
theorem ys_ldiv {lk : Nat → Option z_K}  (hx : p.tables.exec = Jvm.exec) (hb : c.code = cc)(hd : decode cc pc = .ok (.ldiv, n)) (hn : z_lenok (.ldiv) n = true) (hi : z_ins lk nL pc lv st h (.ldiv) = some σ) (k : y_G0 p l e R s m args below meth c Q A H0 D B nc ns nL σ) : y_G0 p l e R s m args below meth c Q A H0 D B nc ns nL (pc, lv, st, h) := by
  obtain rfl : n = z_len (.ldiv) := Nat.eq_of_beq_eq_true hn
  simp only [z_ins] at hi
  split at hi
  · split at hi
    · rename_i hne
      cases hi
      exact fun H locs ls hl hP hD hS => lv_ldiv hx hb hd hne (k H locs ls hl hP hD hS)
    · cases hi
  · cases hi
theorem ys_lrem {lk : Nat → Option z_K}  (hx : p.tables.exec = Jvm.exec) (hb : c.code = cc)(hd : decode cc pc = .ok (.lrem, n)) (hn : z_lenok (.lrem) n = true) (hi : z_ins lk nL pc lv st h (.lrem) = some σ) (k : y_G0 p l e R s m args below meth c Q A H0 D B nc ns nL σ) : y_G0 p l e R s m args below meth c Q A H0 D B nc ns nL (pc, lv, st, h) := by
  obtain rfl : n = z_len (.lrem) := Nat.eq_of_beq_eq_true hn
  simp only [z_ins] at hi
  split at hi
  · split at hi
    · rename_i hne
      cases hi
      exact fun H locs ls hl hP hD hS => lv_lrem hx hb hd hne (k H locs ls hl hP hD hS)
    · cases hi
  · cases hi
theorem ys_iload_n {lk : Nat → Option z_K} {v : Fin 4}  (hx : p.tables.exec = Jvm.exec) (hb : c.code = cc)(hd : decode cc pc = .ok (.iload_n v, n)) (hn : z_lenok (.iload_n v) n = true) (hi : z_ins lk nL pc lv st h (.iload_n v) = some σ) (k : y_G0 p l e R s m args below meth c Q A H0 D B nc ns nL σ) : y_G0 p l e R s m args below meth c Q A H0 D B nc ns nL (pc, lv, st, h) := by
  obtain rfl : n = z_len (.iload_n v) := Nat.eq_of_beq_eq_true hn
  simp only [z_ins] at hi
  split at hi
  · rename_i hv
    cases hi
    exact fun H locs ls hl hP hD hS => lv_iload_n hx hb hd rfl (z_lm_get hl hv) (k H locs ls hl hP hD hS)
  · cases hi
theorem ys_lload_n {lk : Nat → Option z_K} {v : Fin 4}  (hx : p.tables.exec = Jvm.exec) (hb : c.code = cc)(hd : decode cc pc = .ok (.lload_n v, n)) (hn : z_lenok (.lload_n v) n = true) (hi : z_ins lk nL pc lv st h (.lload_n v) = some σ) (k : y_G0 p l e R s m args below meth c Q A H0 D B nc ns nL σ) : y_G0 p l e R s m args below meth c Q A H0 D B nc ns nL (pc, lv, st, h) := by
  obtain rfl : n = z_len (.lload_n v) := Nat.eq_of_beq_eq_true hn
  simp only [z_ins] at hi
  split at hi
  · rename_i hv
    cases hi
    exact fun H locs ls hl hP hD hS => lv_lload_n hx hb hd rfl (z_lm_get hl hv) (k H locs ls hl hP hD hS)
  · cases hi
theorem ys_aload_n {lk : Nat → Option z_K} {v : Fin 4}  (hx : p.tables.exec = Jvm.exec) (hb : c.code = cc)(hd : decode cc pc = .ok (.aload_n v, n)) (hn : z_lenok (.aload_n v) n = true) (hi : z_ins lk nL pc lv st h (.aload_n v) = some σ) (k : y_G0 p l e R s m args below meth c Q A H0 D B nc ns nL σ) : y_G0 p l e R s m args below meth c Q A H0 D B nc ns nL (pc, lv, st, h) := by
  obtain rfl : n = z_len (.aload_n v) := Nat.eq_of_beq_eq_true hn
  simp only [z_ins] at hi
  split at hi
  · rename_i hv
    cases hi
    exact fun H locs ls hl hP hD hS => lv_aload_n hx hb hd rfl (z_lm_get hl hv) (k H locs ls hl hP hD hS)
  · cases hi
theorem ys_iload {lk : Nat → Option z_K} {v : Nat}  (hx : p.tables.exec = Jvm.exec) (hb : c.code = cc)(hd : decode cc pc = .ok (.iload v, n)) (hn : z_lenok (.iload v) n = true) (hi : z_ins lk nL pc lv st h (.iload v) = some σ) (k : y_G0 p l e R s m args below meth c Q A H0 D B nc ns nL σ) : y_G0 p l e R s m args below meth c Q A H0 D B nc ns nL (pc, lv, st, h) := by
  obtain rfl : n = z_len (.iload v) := Nat.eq_of_beq_eq_true hn
  simp only [z_ins] at hi
  split at hi
  · rename_i hv
    cases hi
    exact fun H locs ls hl hP hD hS => lv_iload hx hb hd (z_lm_get hl hv) (k H locs ls hl hP hD hS)
  · cases hi
theorem ys_lload {lk : Nat → Option z_K} {v : Nat}  (hx : p.tables.exec = Jvm.exec) (hb : c.code = cc)(hd : decode cc pc = .ok (.lload v, n)) (hn : z_lenok (.lload v) n = true) (hi : z_ins lk nL pc lv st h (.lload v) = some σ) (k : y_G0 p l e R s m args below meth c Q A H0 D B nc ns nL σ) : y_G0 p l e R s m args below meth c Q A H0 D B nc ns nL (pc, lv, st, h) := by
  obtain rfl : n = z_len (.lload v) := Nat.eq_of_beq_eq_true hn
  simp only [z_ins] at hi
  split at hi
  · rename_i hv
    cases hi
    exact fun H locs ls hl hP hD hS => lv_lload hx hb hd (z_lm_get hl hv) (k H locs ls hl hP hD hS)
  · cases hi
theorem ys_aload {lk : Nat → Option z_K} {v : Nat}  (hx : p.tables.exec = Jvm.exec) (hb : c.code = cc)(hd : decode cc pc = .ok (.aload v, n)) (hn : z_lenok (.aload v) n = true) (hi : z_ins lk nL pc lv st h (.aload v) = some σ) (k : y_G0 p l e R s m args below meth c Q A H0 D B nc ns nL σ) : y_G0 p l e R s m args below meth c Q A H0 D B nc ns nL (pc, lv, st, h) := by
  obtain rfl : n = z_len (.aload v) := Nat.eq_of_beq_eq_true hn
  simp only [z_ins] at hi
  split at hi
  · rename_i hv
    cases hi
    exact fun H locs ls hl hP hD hS => lv_aload hx hb hd (z_lm_get hl hv) (k H locs ls hl hP hD hS)
  · cases hi
theorem ys_istore_n {lk : Nat → Option z_K} {v : Fin 4}  (hx : p.tables.exec = Jvm.exec) (hb : c.code = cc)(hd : decode cc pc = .ok (.istore_n v, n)) (hn : z_lenok (.istore_n v) n = true) (hi : z_ins lk nL pc lv st h (.istore_n v) = some σ) (k : y_G0 p l e R s m args below meth c Q A H0 D B nc ns nL σ) : y_G0 p l e R s m args below meth c Q A H0 D B nc ns nL (pc, lv, st, h) := by
  obtain rfl : n = z_len (.istore_n v) := Nat.eq_of_beq_eq_true hn
  simp only [z_ins] at hi
  split at hi
  · rename_i x r
    cases hq : Nat.ble ((v : Nat) + 1) nL with
    | true =>
      rw [hq] at hi
      cases hi
      have hlt := Nat.le_of_ble_eq_true hq
      exact fun H locs ls hl hP hD hS => lv_istore_n hx hb hd rfl hl (by omega) (z_lm_st1 z_id lv v (.int x)) (fun ls' h' => k H locs ls' h' hP hD hS)
    | false =>
      rw [hq] at hi
      cases hi
  · cases hi
theorem ys_istore {lk : Nat → Option z_K} {v : Nat}  (hx : p.tables.exec = Jvm.exec) (hb : c.code = cc)(hd : decode cc pc = .ok (.istore v, n)) (hn : z_lenok (.istore v) n = true) (hi : z_ins lk nL pc lv st h (.istore v) = some σ) (k : y_G0 p l e R s m args below meth c Q A H0 D B nc ns nL σ) : y_G0 p l e R s m args below meth c Q A H0 D B nc ns nL (pc, lv, st, h) := by
  obtain rfl : n = z_len (.istore v) := Nat.eq_of_beq_eq_true hn
  simp only [z_ins] at hi
  split at hi
  · rename_i x r
    cases hq : Nat.ble (v + 1) nL with
    | true =>
      rw [hq] at hi
      cases hi
      have hlt := Nat.le_of_ble_eq_true hq
      exact fun H locs ls hl hP hD hS => lv_istore hx hb hd hl (by omega) (z_lm_st1 z_id lv v (.int x)) (fun ls' h' => k H locs ls' h' hP hD hS)
    | false =>
      rw [hq] at hi
      cases hi
  · cases hi
theorem ys_lstore_n {lk : Nat → Option z_K} {v : Fin 4}  (hx : p.tables.exec = Jvm.exec) (hb : c.code = cc)(hd : decode cc pc = .ok (.lstore_n v, n)) (hn : z_lenok (.lstore_n v) n = true) (hi : z_ins lk nL pc lv st h (.lstore_n v) = some σ) (k : y_G0 p l e R s m args below meth c Q A H0 D B nc ns nL σ) : y_G0 p l e R s m args below meth c Q A H0 D B nc ns nL (pc, lv, st, h) := by
  obtain rfl : n = z_len (.lstore_n v) := Nat.eq_of_beq_eq_true hn
  simp only [z_ins] at hi
  split at hi
  · rename_i x r
    cases hq : Nat.ble ((v : Nat) + 2) nL with
    | true =>
      rw [hq] at hi
      cases hi
      have hlt := Nat.le_of_ble_eq_true hq
      exact fun H locs ls hl hP hD hS => lv_lstore_n hx hb hd rfl hl (by omega) (z_lm_st2 z_id lv v (.long x)) (fun ls' h' => k H locs ls' h' hP hD hS)
    | false =>
      rw [hq] at hi
      cases hi
  · cases hi
theorem ys_lstore {lk : Nat → Option z_K} {v : Nat}  (hx : p.tables.exec = Jvm.exec) (hb : c.code = cc)(hd : decode cc pc = .ok (.lstore v, n)) (hn : z_lenok (.lstore v) n = true) (hi : z_ins lk nL pc lv st h (.lstore v) = some σ) (k : y_G0 p l e R s m args below meth c Q A H0 D B nc ns nL σ) : y_G0 p l e R s m args below meth c Q A H0 D B nc ns nL (pc, lv, st, h) := by
  obtain rfl : n = z_len (.lstore v) := Nat.eq_of_beq_eq_true hn
  simp only [z_ins] at hi
  split at hi
  · rename_i x r
    cases hq : Nat.ble (v + 2) nL with
    | true =>
      rw [hq] at hi
      cases hi
      have hlt := Nat.le_of_ble_eq_true hq
      exact fun H locs ls hl hP hD hS => lv_lstore hx hb hd hl (by omega) (z_lm_st2 z_id lv v (.long x)) (fun ls' h' => k H locs ls' h' hP hD hS)
    | false =>
      rw [hq] at hi
      cases hi
  · cases hi
theorem ys_iinc {lk : Nat → Option z_K} {v : Nat} {d : Int}  (hx : p.tables.exec = Jvm.exec) (hb : c.code = cc)(hd : decode cc pc = .ok (.iinc v d, n)) (hn : z_lenok (.iinc v d) n = true) (hc : z_cok (.iinc v d) = true) (hi : z_ins lk nL pc lv st h (.iinc v d) = some σ) (k : y_G0 p l e R s m args below meth c Q A H0 D B nc ns nL σ) : y_G0 p l e R s m args below meth c Q A H0 D B nc ns nL (pc, lv, st, h) := by
  obtain rfl : n = z_len (.iinc v d) := Nat.eq_of_beq_eq_true hn
  simp only [z_ins] at hi
  split at hi
  · rename_i x hv
    cases hq : Nat.ble (v + 1) nL with
    | true =>
      rw [hq] at hi
      cases hi
      have hlt := Nat.le_of_ble_eq_true hq
      intro H locs ls hl hP hD hS
      obtain ⟨j, hj⟩ := List.getElem?_of_mem (z_lm_mem (ad := z_id) (z_ld_mem hv))
      exact lv_iinc (k := j) hx hb hd hl hj (by rw [show Int32.ofInt d = z_c d from of_decide_eq_true hc]) (by omega) (z_lm_st1 z_id lv v (.int (x + z_c d))) (fun ls' h' => k H locs ls' h' hP hD hS)
    | false =>
      rw [hq] at hi
      cases hi
  · cases hi
theorem ys_pop {lk : Nat → Option z_K}  (hx : p.tables.exec = Jvm.exec) (hb : c.code = cc)(hd : decode cc pc = .ok (.pop, n)) (hn : z_lenok (.pop) n = true) (hi : z_ins lk nL pc lv st h (.pop) = some σ) (k : y_G0 p l e R s m args below meth c Q A H0 D B nc ns nL σ) : y_G0 p l e R s m args below meth c Q A H0 D B nc ns nL (pc, lv, st, h) := by
  obtain rfl : n = z_len (.pop) := Nat.eq_of_beq_eq_true hn
  simp only [z_ins] at hi
  split at hi
  · rename_i v r
    cases hq : Nat.beq v.category 1 with
    | true =>
      rw [hq] at hi
      cases hi
      have hcat := Nat.eq_of_beq_eq_true hq
      exact fun H locs ls hl hP hD hS => lv_pop hx hb hd (by rw [z_re_cat]; exact hcat) (k H locs ls hl hP hD hS)
    | false =>
      rw [hq] at hi
      cases hi
  · cases hi
theorem ys_dup {lk : Nat → Option z_K}  (hx : p.tables.exec = Jvm.exec) (hb : c.code = cc)(hd : decode cc pc = .ok (.dup, n)) (hn : z_lenok (.dup) n = true) (hi : z_ins lk nL pc lv st h (.dup) = some σ) (k : y_G0 p l e R s m args below meth c Q A H0 D B nc ns nL σ) : y_G0 p l e R s m args below meth c Q A H0 D B nc ns nL (pc, lv, st, h) := by
  obtain rfl : n = z_len (.dup) := Nat.eq_of_beq_eq_true hn
  simp only [z_ins] at hi
  split at hi
  · rename_i v r
    cases hq : Nat.beq v.category 1 with
    | true =>
      rw [hq] at hi
      cases hi
      have hcat := Nat.eq_of_beq_eq_true hq
      exact fun H locs ls hl hP hD hS => lv_dup hx hb hd (by rw [z_re_cat]; exact hcat) (k H locs ls hl hP hD hS)
    | false =>
      rw [hq] at hi
      cases hi
  · cases hi
theorem ys_dup2 {lk : Nat → Option z_K}  (hx : p.tables.exec = Jvm.exec) (hb : c.code = cc)(hd : decode cc pc = .ok (.dup2, n)) (hn : z_lenok (.dup2) n = true) (hi : z_ins lk nL pc lv st h (.dup2) = some σ) (k : y_G0 p l e R s m args below meth c Q A H0 D B nc ns nL σ) : y_G0 p l e R s m args below meth c Q A H0 D B nc ns nL (pc, lv, st, h) := by
  obtain rfl : n = z_len (.dup2) := Nat.eq_of_beq_eq_true hn
  simp only [z_ins] at hi
  split at hi
  · rename_i v w r
    cases hq : (Nat.beq v.category 1 && Nat.beq w.category 1) with
    | true =>
      rw [hq] at hi
      cases hi
      rw [Bool.and_eq_true] at hq
      have h1 := Nat.eq_of_beq_eq_true hq.1
      have h2 := Nat.eq_of_beq_eq_true hq.2
      exact fun H locs ls hl hP hD hS => lv_dup2_11 hx hb hd (by rw [z_re_cat]; exact h1) (by rw [z_re_cat]; exact h2) (k H locs ls hl hP hD hS)
    | false =>
      rw [hq] at hi
      cases hi
  · cases hi
theorem ys_goto {lk : Nat → Option z_K} {v : Int}  (hx : p.tables.exec = Jvm.exec) (hb : c.code = cc)(hd : decode cc pc = .ok (.goto v, n)) (hn : z_lenok (.goto v) n = true) (hi : z_ins lk nL pc lv st h (.goto v) = some σ) (k : y_G0 p l e R s m args below meth c Q A H0 D B nc ns nL σ) : y_G0 p l e R s m args below meth c Q A H0 D B nc ns nL (pc, lv, st, h) := by
  obtain rfl : n = z_len (.goto v) := Nat.eq_of_beq_eq_true hn
  simp only [z_ins] at hi
  split at hi
  · rename_i t ht
    cases hi
    exact fun H locs ls hl hP hD hS => lv_goto hx hb hd (z_tgt_ok ht) (k H locs ls hl hP hD hS)
  · cases hi
theorem ys_if_eq {lk : Nat → Option z_K} {v : Int}  (hx : p.tables.exec = Jvm.exec) (hb : c.code = cc)(hd : decode cc pc = .ok (.ifCond .eq v, n)) (hn : z_lenok (.ifCond .eq v) n = true) (hi : z_ins lk nL pc lv st h (.ifCond .eq v) = some σ) (k : y_G0 p l e R s m args below meth c Q A H0 D B nc ns nL σ) : y_G0 p l e R s m args below meth c Q A H0 D B nc ns nL (pc, lv, st, h) := by
  obtain rfl : n = z_len (.ifCond .eq v) := Nat.eq_of_beq_eq_true hn
  simp only [z_ins, z_if] at hi
  split at hi
  · obtain ⟨t, ht, ⟨hc, rfl⟩ | ⟨hc, rfl⟩⟩ := z_br_ok hi
    · exact fun H locs ls hl hP hD hS => lv_if_eq hx hb hd ht (fun hc' => k H locs ls hl hP hD hS) (fun hc' => absurd hc hc')
    · exact fun H locs ls hl hP hD hS => lv_if_eq hx hb hd ht (fun hc' => absurd hc' hc) (fun hc' => k H locs ls hl hP hD hS)
  · cases hi
theorem ys_if_ne {lk : Nat → Option z_K} {v : Int}  (hx : p.tables.exec = Jvm.exec) (hb : c.code = cc)(hd : decode cc pc = .ok (.ifCond .ne v, n)) (hn : z_lenok (.ifCond .ne v) n = true) (hi : z_ins lk nL pc lv st h (.ifCond .ne v) = some σ) (k : y_G0 p l e R s m args below meth c Q A H0 D B nc ns nL σ) : y_G0 p l e R s m args below meth c Q A H0 D B nc ns nL (pc, lv, st, h) := by
  obtain rfl : n = z_len (.ifCond .ne v) := Nat.eq_of_beq_eq_true hn
  simp only [z_ins, z_if] at hi
  split at hi
  · obtain ⟨t, ht, ⟨hc, rfl⟩ | ⟨hc, rfl⟩⟩ := z_br_ok hi
    · exact fun H locs ls hl hP hD hS => lv_if_ne hx hb hd ht (fun hc' => k H locs ls hl hP hD hS) (fun hc' => absurd hc' hc)
    · exact fun H locs ls hl hP hD hS => lv_if_ne hx hb hd ht (fun hc' => absurd hc' hc) (fun hc' => k H locs ls hl hP hD hS)
  · cases hi
theorem ys_if_lt {lk : Nat → Option z_K} {v : Int}  (hx : p.tables.exec = Jvm.exec) (hb : c.code = cc)(hd : decode cc pc = .ok (.ifCond .lt v, n)) (hn : z_lenok (.ifCond .lt v) n = true) (hi : z_ins lk nL pc lv st h (.ifCond .lt v) = some σ) (k : y_G0 p l e R s m args below meth c Q A H0 D B nc ns nL σ) : y_G0 p l e R s m args below meth c Q A H0 D B nc ns nL (pc, lv, st, h) := by
  obtain rfl : n = z_len (.ifCond .lt v) := Nat.eq_of_beq_eq_true hn
  simp only [z_ins, z_if] at hi
  split at hi
  · obtain ⟨t, ht, ⟨hc, rfl⟩ | ⟨hc, rfl⟩⟩ := z_br_ok hi
    · exact fun H locs ls hl hP hD hS => lv_if_lt hx hb hd ht (fun hc' => k H locs ls hl hP hD hS) (fun hc' => absurd hc hc')
    · exact fun H locs ls hl hP hD hS => lv_if_lt hx hb hd ht (fun hc' => absurd hc' hc) (fun hc' => k H locs ls hl hP hD hS)
  · cases hi
theorem ys_if_ge {lk : Nat → Option z_K} {v : Int}  (hx : p.tables.exec = Jvm.exec) (hb : c.code = cc)(hd : decode cc pc = .ok (.ifCond .ge v, n)) (hn : z_lenok (.ifCond .ge v) n = true) (hi : z_ins lk nL pc lv st h (.ifCond .ge v) = some σ) (k : y_G0 p l e R s m args below meth c Q A H0 D B nc ns nL σ) : y_G0 p l e R s m args below meth c Q A H0 D B nc ns nL (pc, lv, st, h) := by
  obtain rfl : n = z_len (.ifCond .ge v) := Nat.eq_of_beq_eq_true hn
  simp only [z_ins, z_if] at hi
  split at hi
  · obtain ⟨t, ht, ⟨hc, rfl⟩ | ⟨hc, rfl⟩⟩ := z_br_ok hi
    · exact fun H locs ls hl hP hD hS => lv_if_ge hx hb hd ht (fun hc' => k H locs ls hl hP hD hS) (fun hc' => absurd hc hc')
    · exact fun H locs ls hl hP hD hS => lv_if_ge hx hb hd ht (fun hc' => absurd hc' hc) (fun hc' => k H locs ls hl hP hD hS)
  · cases hi
theorem ys_if_gt {lk : Nat → Option z_K} {v : Int}  (hx : p.tables.exec = Jvm.exec) (hb : c.code = cc)(hd : decode cc pc = .ok (.ifCond .gt v, n)) (hn : z_lenok (.ifCond .gt v) n = true) (hi : z_ins lk nL pc lv st h (.ifCond .gt v) = some σ) (k : y_G0 p l e R s m args below meth c Q A H0 D B nc ns nL σ) : y_G0 p l e R s m args below meth c Q A H0 D B nc ns nL (pc, lv, st, h) := by
  obtain rfl : n = z_len (.ifCond .gt v) := Nat.eq_of_beq_eq_true hn
  simp only [z_ins, z_if] at hi
  split at hi
  · obtain ⟨t, ht, ⟨hc, rfl⟩ | ⟨hc, rfl⟩⟩ := z_br_ok hi
    · exact fun H locs ls hl hP hD hS => lv_if_gt hx hb hd ht (fun hc' => k H locs ls hl hP hD hS) (fun hc' => absurd hc hc')
    · exact fun H locs ls hl hP hD hS => lv_if_gt hx hb hd ht (fun hc' => absurd hc' hc) (fun hc' => k H locs ls hl hP hD hS)
  · cases hi
theorem ys_if_le {lk : Nat → Option z_K} {v : Int}  (hx : p.tables.exec = Jvm.exec) (hb : c.code = cc)(hd : decode cc pc = .ok (.ifCond .le v, n)) (hn : z_lenok (.ifCond .le v) n = true) (hi : z_ins lk nL pc lv st h (.ifCond .le v) = some σ) (k : y_G0 p l e R s m args below meth c Q A H0 D B nc ns nL σ) : y_G0 p l e R s m args below meth c Q A H0 D B nc ns nL (pc, lv, st, h) := by
  obtain rfl : n = z_len (.ifCond .le v) := Nat.eq_of_beq_eq_true hn
  simp only [z_ins, z_if] at hi
  split at hi
  · obtain ⟨t, ht, ⟨hc, rfl⟩ | ⟨hc, rfl⟩⟩ := z_br_ok hi
    · exact fun H locs ls hl hP hD hS => lv_if_le hx hb hd ht (fun hc' => k H locs ls hl hP hD hS) (fun hc' => absurd hc hc')
    · exact fun H locs ls hl hP hD hS => lv_if_le hx hb hd ht (fun hc' => absurd hc' hc) (fun hc' => k H locs ls hl hP hD hS)
  · cases hi
theorem ys_icmp_eq {lk : Nat → Option z_K} {v : Int}  (hx : p.tables.exec = Jvm.exec) (hb : c.code = cc)(hd : decode cc pc = .ok (.if_icmp .eq v, n)) (hn : z_lenok (.if_icmp .eq v) n = true) (hi : z_ins lk nL pc lv st h (.if_icmp .eq v) = some σ) (k : y_G0 p l e R s m args below meth c Q A H0 D B nc ns nL σ) : y_G0 p l e R s m args below meth c Q A H0 D B nc ns nL (pc, lv, st, h) := by
  obtain rfl : n = z_len (.if_icmp .eq v) := Nat.eq_of_beq_eq_true hn
  simp only [z_ins, z_if] at hi
  split at hi
  · obtain ⟨t, ht, ⟨hc, rfl⟩ | ⟨hc, rfl⟩⟩ := z_br_ok hi
    · exact fun H locs ls hl hP hD hS => lv_icmp_eq hx hb hd ht (fun hc' => k H locs ls hl hP hD hS) (fun hc' => absurd hc hc')
    · exact fun H locs ls hl hP hD hS => lv_icmp_eq hx hb hd ht (fun hc' => absurd hc' hc) (fun hc' => k H locs ls hl hP hD hS)
  · cases hi
theorem ys_icmp_ne {lk : Nat → Option z_K} {v : Int}  (hx : p.tables.exec = Jvm.exec) (hb : c.code = cc)(hd : decode cc pc = .ok (.if_icmp .ne v, n)) (hn : z_lenok (.if_icmp .ne v) n = true) (hi : z_ins lk nL pc lv st h (.if_icmp .ne v) = some σ) (k : y_G0 p l e R s m args below meth c Q A H0 D B nc ns nL σ) : y_G0 p l e R s m args below meth c Q A H0 D B nc ns nL (pc, lv, st, h) := by
  obtain rfl : n = z_len (.if_icmp .ne v) := Nat.eq_of_beq_eq_true hn
  simp only [z_ins, z_if] at hi
  split at hi
  · obtain ⟨t, ht, ⟨hc, rfl⟩ | ⟨hc, rfl⟩⟩ := z_br_ok hi
    · exact fun H locs ls hl hP hD hS => lv_icmp_ne hx hb hd ht (fun hc' => k H locs ls hl hP hD hS) (fun hc' => absurd hc' hc)
    · exact fun H locs ls hl hP hD hS => lv_icmp_ne hx hb hd ht (fun hc' => absurd hc' hc) (fun hc' => k H locs ls hl hP hD hS)
  · cases hi
theorem ys_icmp_lt {lk : Nat → Option z_K} {v : Int}  (hx : p.tables.exec = Jvm.exec) (hb : c.code = cc)(hd : decode cc pc = .ok (.if_icmp .lt v, n)) (hn : z_lenok (.if_icmp .lt v) n = true) (hi : z_ins lk nL pc lv st h (.if_icmp .lt v) = some σ) (k : y_G0 p l e R s m args below meth c Q A H0 D B nc ns nL σ) : y_G0 p l e R s m args below meth c Q A H0 D B nc ns nL (pc, lv, st, h) := by
  obtain rfl : n = z_len (.if_icmp .lt v) := Nat.eq_of_beq_eq_true hn
  simp only [z_ins, z_if] at hi
  split at hi
  · obtain ⟨t, ht, ⟨hc, rfl⟩ | ⟨hc, rfl⟩⟩ := z_br_ok hi
    · exact fun H locs ls hl hP hD hS => lv_icmp_lt hx hb hd ht (fun hc' => k H locs ls hl hP hD hS) (fun hc' => absurd hc hc')
    · exact fun H locs ls hl hP hD hS => lv_icmp_lt hx hb hd ht (fun hc' => absurd hc' hc) (fun hc' => k H locs ls hl hP hD hS)
  · cases hi
theorem ys_icmp_ge {lk : Nat → Option z_K} {v : Int}  (hx : p.tables.exec = Jvm.exec) (hb : c.code = cc)(hd : decode cc pc = .ok (.if_icmp .ge v, n)) (hn : z_lenok (.if_icmp .ge v) n = true) (hi : z_ins lk nL pc lv st h (.if_icmp .ge v) = some σ) (k : y_G0 p l e R s m args below meth c Q A H0 D B nc ns nL σ) : y_G0 p l e R s m args below meth c Q A H0 D B nc ns nL (pc, lv, st, h) := by
  obtain rfl : n = z_len (.if_icmp .ge v) := Nat.eq_of_beq_eq_true hn
  simp only [z_ins, z_if] at hi
  split at hi
  · obtain ⟨t, ht, ⟨hc, rfl⟩ | ⟨hc, rfl⟩⟩ := z_br_ok hi
    · exact fun H locs ls hl hP hD hS => lv_icmp_ge hx hb hd ht (fun hc' => k H locs ls hl hP hD hS) (fun hc' => absurd hc hc')
    · exact fun H locs ls hl hP hD hS => lv_icmp_ge hx hb hd ht (fun hc' => absurd hc' hc) (fun hc' => k H locs ls hl hP hD hS)
  · cases hi
theorem ys_icmp_gt {lk : Nat → Option z_K} {v : Int}  (hx : p.tables.exec = Jvm.exec) (hb : c.code = cc)(hd : decode cc pc = .ok (.if_icmp .gt v, n)) (hn : z_lenok (.if_icmp .gt v) n = true) (hi : z_ins lk nL pc lv st h (.if_icmp .gt v) = some σ) (k : y_G0 p l e R s m args below meth c Q A H0 D B nc ns nL σ) : y_G0 p l e R s m args below meth c Q A H0 D B nc ns nL (pc, lv, st, h) := by
  obtain rfl : n = z_len (.if_icmp .gt v) := Nat.eq_of_beq_eq_true hn
  simp only [z_ins, z_if] at hi
  split at hi
  · obtain ⟨t, ht, ⟨hc, rfl⟩ | ⟨hc, rfl⟩⟩ := z_br_ok hi
    · exact fun H locs ls hl hP hD hS => lv_icmp_gt hx hb hd ht (fun hc' => k H locs ls hl hP hD hS) (fun hc' => absurd hc hc')
    · exact fun H locs ls hl hP hD hS => lv_icmp_gt hx hb hd ht (fun hc' => absurd hc' hc) (fun hc' => k H locs ls hl hP hD hS)
  · cases hi
theorem ys_icmp_le {lk : Nat → Option z_K} {v : Int}  (hx : p.tables.exec = Jvm.exec) (hb : c.code = cc)(hd : decode cc pc = .ok (.if_icmp .le v, n)) (hn : z_lenok (.if_icmp .le v) n = true) (hi : z_ins lk nL pc lv st h (.if_icmp .le v) = some σ) (k : y_G0 p l e R s m args below meth c Q A H0 D B nc ns nL σ) : y_G0 p l e R s m args below meth c Q A H0 D B nc ns nL (pc, lv, st, h) := by
  obtain rfl : n = z_len (.if_icmp .le v) := Nat.eq_of_beq_eq_true hn
  simp only [z_ins, z_if] at hi
  split at hi
  · obtain ⟨t, ht, ⟨hc, rfl⟩ | ⟨hc, rfl⟩⟩ := z_br_ok hi
    · exact fun H locs ls hl hP hD hS => lv_icmp_le hx hb hd ht (fun hc' => k H locs ls hl hP hD hS) (fun hc' => absurd hc hc')
    · exact fun H locs ls hl hP hD hS => lv_icmp_le hx hb hd ht (fun hc' => absurd hc' hc) (fun hc' => k H locs ls hl hP hD hS)
  · cases hi
theorem ys_i2b {lk : Nat → Option z_K}  (hx : p.tables.exec = Jvm.exec) (hb : c.code = cc)(hd : decode cc pc = .ok (.i2b, n)) (hn : z_lenok (.i2b) n = true) (hi : z_ins lk nL pc lv st h (.i2b) = some σ) (k : y_G0 p l e R s m args below meth c Q A H0 D B nc ns nL σ) : y_G0 p l e R s m args below meth c Q A H0 D B nc ns nL (pc, lv, st, h) := by
  obtain rfl : n = z_len (.i2b) := Nat.eq_of_beq_eq_true hn
  simp only [z_ins] at hi
  split at hi
  · cases hi
    exact fun H locs ls hl hP hD hS => lv_i2b hx hb hd rfl (k H locs ls hl hP hD hS)
  · cases hi
theorem ys_i2c {lk : Nat → Option z_K}  (hx : p.tables.exec = Jvm.exec) (hb : c.code = cc)(hd : decode cc pc = .ok (.i2c, n)) (hn : z_lenok (.i2c) n = true) (hi : z_ins lk nL pc lv st h (.i2c) = some σ) (k : y_G0 p l e R s m args below meth c Q A H0 D B nc ns nL σ) : y_G0 p l e R s m args below meth c Q A H0 D B nc ns nL (pc, lv, st, h) := by
  obtain rfl : n = z_len (.i2c) := Nat.eq_of_beq_eq_true hn
  simp only [z_ins] at hi
  split at hi
  · cases hi
    exact fun H locs ls hl hP hD hS => lv_i2c hx hb hd rfl (k H locs ls hl hP hD hS)
  · cases hi
theorem ys_astore_n {lk : Nat → Option z_K} {v : Fin 4}  (hx : p.tables.exec = Jvm.exec) (hb : c.code = cc)(hd : decode cc pc = .ok (.astore_n v, n)) (hn : z_lenok (.astore_n v) n = true) (hi : z_ins lk nL pc lv st h (.astore_n v) = some σ) (k : y_G0 p l e R s m args below meth c Q A H0 D B nc ns nL σ) : y_G0 p l e R s m args below meth c Q A H0 D B nc ns nL (pc, lv, st, h) := by
  obtain rfl : n = z_len (.astore_n v) := Nat.eq_of_beq_eq_true hn
  simp only [z_ins] at hi
  split at hi
  · rename_i x r
    cases hq : Nat.ble ((v : Nat) + 1) nL with
    | true =>
      rw [hq] at hi
      cases hi
      have hlt := Nat.le_of_ble_eq_true hq
      exact fun H locs ls hl hP hD hS => lv_astore_n hx hb hd rfl hl (by omega) (z_lm_st1 z_id lv v (.ref x)) (fun ls' h' => k H locs ls' h' hP hD hS)
    | false =>
      rw [hq] at hi
      cases hi
  · cases hi
theorem ys_astore {lk : Nat → Option z_K} {v : Nat}  (hx : p.tables.exec = Jvm.exec) (hb : c.code = cc)(hd : decode cc pc = .ok (.astore v, n)) (hn : z_lenok (.astore v) n = true) (hi : z_ins lk nL pc lv st h (.astore v) = some σ) (k : y_G0 p l e R s m args below meth c Q A H0 D B nc ns nL σ) : y_G0 p l e R s m args below meth c Q A H0 D B nc ns nL (pc, lv, st, h) := by
  obtain rfl : n = z_len (.astore v) := Nat.eq_of_beq_eq_true hn
  simp only [z_ins] at hi
  split at hi
  · rename_i x r
    cases hq : Nat.ble (v + 1) nL with
    | true =>
      rw [hq] at hi
      cases hi
      have hlt := Nat.le_of_ble_eq_true hq
      exact fun H locs ls hl hP hD hS => lv_astore hx hb hd hl (by omega) (z_lm_st1 z_id lv v (.ref x)) (fun ls' h' => k H locs ls' h' hP hD hS)
    | false =>
      rw [hq] at hi
      cases hi
  · cases hi
theorem ys_dup_x1 {lk : Nat → Option z_K}  (hx : p.tables.exec = Jvm.exec) (hb : c.code = cc)(hd : decode cc pc = .ok (.dup_x1, n)) (hn : z_lenok (.dup_x1) n = true) (hi : z_ins lk nL pc lv st h (.dup_x1) = some σ) (k : y_G0 p l e R s m args below meth c Q A H0 D B nc ns nL σ) : y_G0 p l e R s m args below meth c Q A H0 D B nc ns nL (pc, lv, st, h) := by
  obtain rfl : n = z_len (.dup_x1) := Nat.eq_of_beq_eq_true hn
  simp only [z_ins] at hi
  split at hi
  · rename_i v w r
    cases hq : (Nat.beq v.category 1 && Nat.beq w.category 1) with
    | true =>
      rw [hq] at hi
      cases hi
      rw [Bool.and_eq_true] at hq
      have h1 := Nat.eq_of_beq_eq_true hq.1
      have h2 := Nat.eq_of_beq_eq_true hq.2
      exact fun H locs ls hl hP hD hS => lv_dup_x1 hx hb hd (by rw [z_re_cat]; exact h1) (by rw [z_re_cat]; exact h2) (k H locs ls hl hP hD hS)
    | false =>
      rw [hq] at hi
      cases hi
  · cases hi
theorem ys_ifnonnull {lk : Nat → Option z_K} {v : Int}  (hx : p.tables.exec = Jvm.exec) (hb : c.code = cc)(hd : decode cc pc = .ok (.ifnonnull v, n)) (hn : z_lenok (.ifnonnull v) n = true) (hi : z_ins lk nL pc lv st h (.ifnonnull v) = some σ) (k : y_G0 p l e R s m args below meth c Q A H0 D B nc ns nL σ) : y_G0 p l e R s m args below meth c Q A H0 D B nc ns nL (pc, lv, st, h) := by
  obtain rfl : n = z_len (.ifnonnull v) := Nat.eq_of_beq_eq_true hn
  simp only [z_ins] at hi
  split at hi
  · split at hi
    · rename_i t ht
      cases hi
      exact fun H locs ls hl hP hD hS => lv_ifnonnull hx hb hd (z_tgt_ok ht) (k H locs ls hl hP hD hS)
    · cases hi
  · cases hi
theorem ys_ldc {v : Nat}  (hx : p.tables.exec = Jvm.exec) (hb : c.code = cc)(hts : ∀ w ∈ z_AW, w.before args s = true) (hown : s.vm.findClass (z_own own) = some m.cls) (hd : decode cc pc = .ok (.ldc v, n)) (hn : z_lenok (.ldc v) n = true) (hi : z_ins (z_lk own) nL pc lv st h (.ldc v) = some σ) (k : y_G0 p l e R s m args below meth c Q A H0 D B nc ns nL σ) : y_G0 p l e R s m args below meth c Q A H0 D B nc ns nL (pc, lv, st, h) := by
  obtain rfl : n = z_len (.ldc v) := Nat.eq_of_beq_eq_true hn
  simp only [z_ins] at hi
  split at hi
  · rename_i hk
    cases hi
    have hg := z_lk_ok _ _ _ hk
    unfold z_lgood at hg
    split at hg
    · cases hg
    · exact fun H locs ls hl hP hD hS => lv_ldc hx hb hown (hts _ (z_word_mem hg)) hd (k H locs ls hl hP hD hS)
  · cases hi
theorem ys_ldc_w {v : Nat}  (hx : p.tables.exec = Jvm.exec) (hb : c.code = cc)(hts : ∀ w ∈ z_AW, w.before args s = true) (hown : s.vm.findClass (z_own own) = some m.cls) (hd : decode cc pc = .ok (.ldc_w v, n)) (hn : z_lenok (.ldc_w v) n = true) (hi : z_ins (z_lk own) nL pc lv st h (.ldc_w v) = some σ) (k : y_G0 p l e R s m args below meth c Q A H0 D B nc ns nL σ) : y_G0 p l e R s m args below meth c Q A H0 D B nc ns nL (pc, lv, st, h) := by
  obtain rfl : n = z_len (.ldc_w v) := Nat.eq_of_beq_eq_true hn
  simp only [z_ins] at hi
  split at hi
  · rename_i hk
    cases hi
    have hg := z_lk_ok _ _ _ hk
    unfold z_lgood at hg
    split at hg
    · cases hg
    · exact fun H locs ls hl hP hD hS => lv_ldcw hx hb hown (hts _ (z_word_mem hg)) hd (k H locs ls hl hP hD hS)
  · cases hi
theorem ys_ldc2_w {v : Nat}  (hx : p.tables.exec = Jvm.exec) (hb : c.code = cc)(hts : ∀ w ∈ z_AW, w.before args s = true) (hown : s.vm.findClass (z_own own) = some m.cls) (hd : decode cc pc = .ok (.ldc2_w v, n)) (hn : z_lenok (.ldc2_w v) n = true) (hi : z_ins (z_lk own) nL pc lv st h (.ldc2_w v) = some σ) (k : y_G0 p l e R s m args below meth c Q A H0 D B nc ns nL σ) : y_G0 p l e R s m args below meth c Q A H0 D B nc ns nL (pc, lv, st, h) := by
  obtain rfl : n = z_len (.ldc2_w v) := Nat.eq_of_beq_eq_true hn
  simp only [z_ins] at hi
  split at hi
  · rename_i hk
    cases hi
    have hg := z_lk_ok _ _ _ hk
    unfold z_lgood at hg
    split at hg
    · cases hg
    · exact fun H locs ls hl hP hD hS => lv_ldc2 hx hb hown (hts _ (z_word_mem hg)) hd (k H locs ls hl hP hD hS)
  · cases hi
theorem ys_tableswitch {lk : Nat → Option z_K} {d lo hi' : Int} {offs : Array Int} (hx : p.tables.exec = Jvm.exec) (hb : c.code = cc) (hd : decode cc pc = .ok (.tableswitch d lo hi' offs, n)) (hi : z_ins lk nL pc lv st h (.tableswitch d lo hi' offs) = some σ) (k : y_G0 p l e R s m args below meth c Q A H0 D B nc ns nL σ) : y_G0 p l e R s m args below meth c Q A H0 D B nc ns nL (pc, lv, st, h) := by
  simp only [z_ins] at hi
  split at hi
  · split at hi
    · rename_i hc
      split at hi
      · rename_i t ht
        cases hi
        exact fun H locs ls hl hP hD hS => lv_tableOut hx hb hd hc (z_tgt_ok ht) (k H locs ls hl hP hD hS)
      · cases hi
    · rename_i hc
      split at hi
      · rename_i off ho
        split at hi
        · rename_i t ht
          cases hi
          exact fun H locs ls hl hP hD hS => lv_tableIn hx hb hd (fun q => hc (Or.inl q)) (fun q => hc (Or.inr q)) ho (z_tgt_ok ht) (k H locs ls hl hP hD hS)
        · cases hi
      · cases hi
  · cases hi
end YS
def y_pure : Instr → Bool
  | .iadd | .isub | .imul | .iand | .ior | .ixor | .ineg | .ishl | .ishr | .iushr | .ladd | .lsub | .lmul | .land | .lor | .lshl | .i2l | .l2i | .lcmp | .idiv | .irem | .ldiv | .lrem | .pop | .dup | .dup2 | .i2b | .i2c | .dup_x1 | .lconst _ | .iload_n _ | .lload_n _ | .aload_n _ | .iload _ | .lload _ | .aload _ | .istore_n _ | .istore _ | .lstore_n _ | .lstore _ | .goto _ | .astore_n _ | .astore _ | .ifnonnull _ | .iconst _ | .bipush _ | .sipush _ | .iinc _ _ | .ldc _ | .ldc_w _ | .ldc2_w _ | .tableswitch _ _ _ _ | .ifCond _ _ | .if_icmp _ _ => true
  | _ => false
theorem ys_ins {p : Program} {l : Launch} {e : Env} {R : Room} {s : State} {m : MethodId} {args : Array Value} {below : List Frame} {meth : Method} {c : Code} {Q : State → Prop} {A : Nat → Prop} {H0 : Heap} {D : va_G} {B : va_W} {nc ns nL : Nat} {cc : ByteArray} {own pc n : Nat} {lv : z_L} {st : List Value} {h : List z_E} {σ : z_S} (hx : p.tables.exec = Jvm.exec) (hb : c.code = cc) (hts : ∀ w ∈ z_AW, w.before args s = true) (hown : s.vm.findClass (z_own own) = some m.cls) {i : Instr} (hp : y_pure i = true) (hd : decode cc pc = .ok (i, n)) (hn : z_lenok i n = true) (hc : z_cok i = true) (hi : z_ins (z_lk own) nL pc lv st h i = some σ) (k : y_G0 p l e R s m args below meth c Q A H0 D B nc ns nL σ) : y_G0 p l e R s m args below meth c Q A H0 D B nc ns nL (pc, lv, st, h) := by
  cases i with
  | iadd => exact ys_iadd hx hb hd hn hi k
  | isub => exact ys_isub hx hb hd hn hi k
  | imul => exact ys_imul hx hb hd hn hi k
  | iand => exact ys_iand hx hb hd hn hi k
  | ior => exact ys_ior hx hb hd hn hi k
  | ixor => exact ys_ixor hx hb hd hn hi k
  | ineg => exact ys_ineg hx hb hd hn hi k
  | ishl => exact ys_ishl hx hb hd hn hi k
  | ishr => exact ys_ishr hx hb hd hn hi k
  | iushr => exact ys_iushr hx hb hd hn hi k
  | ladd => exact ys_ladd hx hb hd hn hi k
  | lsub => exact ys_lsub hx hb hd hn hi k
  | lmul => exact ys_lmul hx hb hd hn hi k
  | land => exact ys_land hx hb hd hn hi k
  | lor => exact ys_lor hx hb hd hn hi k
  | lshl => exact ys_lshl hx hb hd hn hi k
  | i2l => exact ys_i2l hx hb hd hn hi k
  | l2i => exact ys_l2i hx hb hd hn hi k
  | lcmp => exact ys_lcmp hx hb hd hn hi k
  | idiv => exact ys_idiv hx hb hd hn hi k
  | irem => exact ys_irem hx hb hd hn hi k
  | ldiv => exact ys_ldiv hx hb hd hn hi k
  | lrem => exact ys_lrem hx hb hd hn hi k
  | pop => exact ys_pop hx hb hd hn hi k
  | dup => exact ys_dup hx hb hd hn hi k
  | dup2 => exact ys_dup2 hx hb hd hn hi k
  | i2b => exact ys_i2b hx hb hd hn hi k
  | i2c => exact ys_i2c hx hb hd hn hi k
  | dup_x1 => exact ys_dup_x1 hx hb hd hn hi k
  | lconst v => exact ys_lconst hx hb hd hn hi k
  | iload_n v => exact ys_iload_n hx hb hd hn hi k
  | lload_n v => exact ys_lload_n hx hb hd hn hi k
  | aload_n v => exact ys_aload_n hx hb hd hn hi k
  | iload v => exact ys_iload hx hb hd hn hi k
  | lload v => exact ys_lload hx hb hd hn hi k
  | aload v => exact ys_aload hx hb hd hn hi k
  | istore_n v => exact ys_istore_n hx hb hd hn hi k
  | istore v => exact ys_istore hx hb hd hn hi k
  | lstore_n v => exact ys_lstore_n hx hb hd hn hi k
  | lstore v => exact ys_lstore hx hb hd hn hi k
  | goto v => exact ys_goto hx hb hd hn hi k
  | astore_n v => exact ys_astore_n hx hb hd hn hi k
  | astore v => exact ys_astore hx hb hd hn hi k
  | ifnonnull v => exact ys_ifnonnull hx hb hd hn hi k
  | iconst v => exact ys_iconst hx hb hd hn hc hi k
  | bipush v => exact ys_bipush hx hb hd hn hc hi k
  | sipush v => exact ys_sipush hx hb hd hn hc hi k
  | iinc v d => exact ys_iinc hx hb hd hn hc hi k
  | ldc v => exact ys_ldc hx hb hts hown hd hn hi k
  | ldc_w v => exact ys_ldc_w hx hb hts hown hd hn hi k
  | ldc2_w v => exact ys_ldc2_w hx hb hts hown hd hn hi k
  | tableswitch d lo hi offs => exact ys_tableswitch hx hb hd hi k
  | ifCond cd v =>
    cases cd with
    | eq => exact ys_if_eq hx hb hd hn hi k
    | ne => exact ys_if_ne hx hb hd hn hi k
    | lt => exact ys_if_lt hx hb hd hn hi k
    | ge => exact ys_if_ge hx hb hd hn hi k
    | gt => exact ys_if_gt hx hb hd hn hi k
    | le => exact ys_if_le hx hb hd hn hi k
  | if_icmp cd v =>
    cases cd with
    | eq => exact ys_icmp_eq hx hb hd hn hi k
    | ne => exact ys_icmp_ne hx hb hd hn hi k
    | lt => exact ys_icmp_lt hx hb hd hn hi k
    | ge => exact ys_icmp_ge hx hb hd hn hi k
    | gt => exact ys_icmp_gt hx hb hd hn hi k
    | le => exact ys_icmp_le hx hb hd hn hi k
  | _ => exact (Bool.false_ne_true hp).elim
