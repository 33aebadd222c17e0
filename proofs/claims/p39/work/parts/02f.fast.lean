/-! a fast decoder -/
/-- a byte of a code -/
def zb (cc : ByteArray) (p : Nat) : Option Nat := match cc.data.toList[p]? with
  | some b => some b.toNat
  | none => none
theorem zb_u1 {cc : ByteArray} {p k : Nat} (h : zb cc p = some k) : (Reader.u1 : Decoder Nat) cc p = .ok (k, p + 1) := by
  unfold zb at h
  split at h
  · rename_i b hb
    obtain ⟨hp, e⟩ := List.getElem?_eq_some_iff.mp hb
    have hp2 : p < cc.size := hp
    have e2 : cc[p].toNat = k := by
      rw [← Option.some.inj h, ← e]
      rfl
    unfold Reader.u1
    show (dite (p < cc.size) _ _ : Decoder Nat) cc p = _
    rw [dif_pos hp2]
    show Except.ok (cc[p].toNat, p + 1) = _
    rw [e2]
  · cases h
theorem zb_u2 {cc : ByteArray} {p a b : Nat} (h : zb cc p = some a) (h2 : zb cc (p + 1) = some b) : (Reader.u2 : Decoder Nat) cc p = .ok (a * 256 + b, p + 2) := by
  show Except.bind ((Reader.u1 : Decoder Nat) cc p) _ = _
  rw [zb_u1 h]
  show Except.bind ((Reader.u1 : Decoder Nat) cc (p + 1)) _ = _
  rw [zb_u1 h2]
  rfl
theorem zb_s1 {cc : ByteArray} {p a : Nat} (h : zb cc p = some a) : (Reader.s1 : Decoder Int) cc p = .ok (Reader.signed 8 a, p + 1) := by
  show Except.bind ((Reader.u1 : Decoder Nat) cc p) _ = _
  rw [zb_u1 h]
  rfl
theorem zb_s2 {cc : ByteArray} {p a b : Nat} (h : zb cc p = some a) (h2 : zb cc (p + 1) = some b) : (Reader.s2 : Decoder Int) cc p = .ok (Reader.signed 16 (a * 256 + b), p + 2) := by
  show Except.bind ((Reader.u2 : Decoder Nat) cc p) _ = _
  rw [zb_u2 h h2]
  rfl
def z_h0 : List UInt8 → Option Nat
  | b :: _ => some b.toNat
  | [] => none
def z_h1 : List UInt8 → Option Nat
  | _ :: t => z_h0 t
  | [] => none
def z_h2 : List UInt8 → Option Nat
  | _ :: t => z_h1 t
  | [] => none
theorem z_h0_get : ∀ l : List UInt8, z_h0 l = (match l[0]? with
  | some b => some b.toNat
  | none => none)
  | [] => rfl
  | _ :: _ => rfl
theorem z_h1_get : ∀ l : List UInt8, z_h1 l = (match l[1]? with
  | some b => some b.toNat
  | none => none)
  | [] => rfl
  | [_] => rfl
  | _ :: _ :: _ => rfl
theorem z_h2_get : ∀ l : List UInt8, z_h2 l = (match l[2]? with
  | some b => some b.toNat
  | none => none)
  | [] => rfl
  | [_] => rfl
  | [_, _] => rfl
  | _ :: _ :: _ :: _ => rfl
theorem z_h0_ok {cc : ByteArray} {p : Nat} : z_h0 (cc.data.toList.drop p) = zb cc p := by
  rw [z_h0_get, List.getElem?_drop]
  rfl
theorem z_h1_ok {cc : ByteArray} {p : Nat} : z_h1 (cc.data.toList.drop p) = zb cc (p + 1) := by
  rw [z_h1_get, List.getElem?_drop]
  rfl
theorem z_h2_ok {cc : ByteArray} {p : Nat} : z_h2 (cc.data.toList.drop p) = zb cc (p + 1 + 1) := by
  rw [z_h2_get, List.getElem?_drop]
  rfl
def z_fs1 (l : List UInt8) (f : Int → Instr) : Option (Instr × Nat) := match z_h1 l with
  | some a => some (f (Reader.signed 8 a), 2)
  | none => none
def z_fu1 (l : List UInt8) (f : Nat → Instr) : Option (Instr × Nat) := match z_h1 l with
  | some a => some (f a, 2)
  | none => none
def z_fs2 (l : List UInt8) (f : Int → Instr) : Option (Instr × Nat) := match z_h1 l, z_h2 l with
  | some a, some b => some (f (Reader.signed 16 (a * 256 + b)), 3)
  | _, _ => none
def z_fu2 (l : List UInt8) (f : Nat → Instr) : Option (Instr × Nat) := match z_h1 l, z_h2 l with
  | some a, some b => some (f (a * 256 + b), 3)
  | _, _ => none
def z_fus (l : List UInt8) (f : Nat → Int → Instr) : Option (Instr × Nat) := match z_h1 l, z_h2 l with
  | some a, some b => some (f a (Reader.signed 8 b), 3)
  | _, _ => none
theorem zo_2 {cc : ByteArray} {pc n : Nat} {i : Instr} (hk : zb cc pc = some 2) (h : some (Instr.iconst (-1), 1) = some (i, n)) : decode cc pc = .ok (i, n) := by
  cases h
  show Except.bind (Except.bind ((Reader.u1 : Decoder Nat) cc pc) _) _ = _
  rw [zb_u1 hk]
  show (Except.ok (Instr.iconst (-1), pc + 1 - pc) : Except DecodeError (Instr × Nat)) = _
  rw [Nat.add_sub_cancel_left]
theorem zo_3 {cc : ByteArray} {pc n : Nat} {i : Instr} (hk : zb cc pc = some 3) (h : some (Instr.iconst 0, 1) = some (i, n)) : decode cc pc = .ok (i, n) := by
  cases h
  show Except.bind (Except.bind ((Reader.u1 : Decoder Nat) cc pc) _) _ = _
  rw [zb_u1 hk]
  show (Except.ok (Instr.iconst 0, pc + 1 - pc) : Except DecodeError (Instr × Nat)) = _
  rw [Nat.add_sub_cancel_left]
theorem zo_4 {cc : ByteArray} {pc n : Nat} {i : Instr} (hk : zb cc pc = some 4) (h : some (Instr.iconst 1, 1) = some (i, n)) : decode cc pc = .ok (i, n) := by
  cases h
  show Except.bind (Except.bind ((Reader.u1 : Decoder Nat) cc pc) _) _ = _
  rw [zb_u1 hk]
  show (Except.ok (Instr.iconst 1, pc + 1 - pc) : Except DecodeError (Instr × Nat)) = _
  rw [Nat.add_sub_cancel_left]
theorem zo_5 {cc : ByteArray} {pc n : Nat} {i : Instr} (hk : zb cc pc = some 5) (h : some (Instr.iconst 2, 1) = some (i, n)) : decode cc pc = .ok (i, n) := by
  cases h
  show Except.bind (Except.bind ((Reader.u1 : Decoder Nat) cc pc) _) _ = _
  rw [zb_u1 hk]
  show (Except.ok (Instr.iconst 2, pc + 1 - pc) : Except DecodeError (Instr × Nat)) = _
  rw [Nat.add_sub_cancel_left]
theorem zo_6 {cc : ByteArray} {pc n : Nat} {i : Instr} (hk : zb cc pc = some 6) (h : some (Instr.iconst 3, 1) = some (i, n)) : decode cc pc = .ok (i, n) := by
  cases h
  show Except.bind (Except.bind ((Reader.u1 : Decoder Nat) cc pc) _) _ = _
  rw [zb_u1 hk]
  show (Except.ok (Instr.iconst 3, pc + 1 - pc) : Except DecodeError (Instr × Nat)) = _
  rw [Nat.add_sub_cancel_left]
theorem zo_7 {cc : ByteArray} {pc n : Nat} {i : Instr} (hk : zb cc pc = some 7) (h : some (Instr.iconst 4, 1) = some (i, n)) : decode cc pc = .ok (i, n) := by
  cases h
  show Except.bind (Except.bind ((Reader.u1 : Decoder Nat) cc pc) _) _ = _
  rw [zb_u1 hk]
  show (Except.ok (Instr.iconst 4, pc + 1 - pc) : Except DecodeError (Instr × Nat)) = _
  rw [Nat.add_sub_cancel_left]
theorem zo_8 {cc : ByteArray} {pc n : Nat} {i : Instr} (hk : zb cc pc = some 8) (h : some (Instr.iconst 5, 1) = some (i, n)) : decode cc pc = .ok (i, n) := by
  cases h
  show Except.bind (Except.bind ((Reader.u1 : Decoder Nat) cc pc) _) _ = _
  rw [zb_u1 hk]
  show (Except.ok (Instr.iconst 5, pc + 1 - pc) : Except DecodeError (Instr × Nat)) = _
  rw [Nat.add_sub_cancel_left]
theorem zo_9 {cc : ByteArray} {pc n : Nat} {i : Instr} (hk : zb cc pc = some 9) (h : some (Instr.lconst 0, 1) = some (i, n)) : decode cc pc = .ok (i, n) := by
  cases h
  show Except.bind (Except.bind ((Reader.u1 : Decoder Nat) cc pc) _) _ = _
  rw [zb_u1 hk]
  show (Except.ok (Instr.lconst 0, pc + 1 - pc) : Except DecodeError (Instr × Nat)) = _
  rw [Nat.add_sub_cancel_left]
theorem zo_10 {cc : ByteArray} {pc n : Nat} {i : Instr} (hk : zb cc pc = some 10) (h : some (Instr.lconst 1, 1) = some (i, n)) : decode cc pc = .ok (i, n) := by
  cases h
  show Except.bind (Except.bind ((Reader.u1 : Decoder Nat) cc pc) _) _ = _
  rw [zb_u1 hk]
  show (Except.ok (Instr.lconst 1, pc + 1 - pc) : Except DecodeError (Instr × Nat)) = _
  rw [Nat.add_sub_cancel_left]
theorem zo_16 {cc : ByteArray} {pc n : Nat} {i : Instr} (hk : zb cc pc = some 16) (h : z_fs1 (cc.data.toList.drop pc) (fun v : Int => Instr.bipush v) = some (i, n)) : decode cc pc = .ok (i, n) := by
  unfold z_fs1 at h
  split at h
  · rename_i a ha
    rw [z_h1_ok] at ha
    cases h
    show Except.bind (Except.bind ((Reader.u1 : Decoder Nat) cc pc) _) _ = _
    rw [zb_u1 hk]
    show Except.bind (Except.bind ((Reader.s1 : Decoder Int) cc (pc + 1)) _) _ = _
    rw [zb_s1 ha]
    show (Except.ok (Instr.bipush (Reader.signed 8 a), pc + 1 + 1 - pc) : Except DecodeError (Instr × Nat)) = _
    rw [show pc + 1 + 1 - pc = 2 by omega]
  · cases h
theorem zo_17 {cc : ByteArray} {pc n : Nat} {i : Instr} (hk : zb cc pc = some 17) (h : z_fs2 (cc.data.toList.drop pc) (fun v : Int => Instr.sipush v) = some (i, n)) : decode cc pc = .ok (i, n) := by
  unfold z_fs2 at h
  split at h
  · rename_i a b ha hb
    rw [z_h1_ok] at ha
    rw [z_h2_ok] at hb
    cases h
    show Except.bind (Except.bind ((Reader.u1 : Decoder Nat) cc pc) _) _ = _
    rw [zb_u1 hk]
    show Except.bind (Except.bind ((Reader.s2 : Decoder Int) cc (pc + 1)) _) _ = _
    rw [zb_s2 ha hb]
    show (Except.ok (Instr.sipush (Reader.signed 16 (a * 256 + b)), pc + 1 + 2 - pc) : Except DecodeError (Instr × Nat)) = _
    rw [show pc + 1 + 2 - pc = 3 by omega]
  · cases h
theorem zo_18 {cc : ByteArray} {pc n : Nat} {i : Instr} (hk : zb cc pc = some 18) (h : z_fu1 (cc.data.toList.drop pc) (fun v : Nat => Instr.ldc v) = some (i, n)) : decode cc pc = .ok (i, n) := by
  unfold z_fu1 at h
  split at h
  · rename_i a ha
    rw [z_h1_ok] at ha
    cases h
    show Except.bind (Except.bind ((Reader.u1 : Decoder Nat) cc pc) _) _ = _
    rw [zb_u1 hk]
    show Except.bind (Except.bind ((Reader.u1 : Decoder Nat) cc (pc + 1)) _) _ = _
    rw [zb_u1 ha]
    show (Except.ok (Instr.ldc a, pc + 1 + 1 - pc) : Except DecodeError (Instr × Nat)) = _
    rw [show pc + 1 + 1 - pc = 2 by omega]
  · cases h
theorem zo_19 {cc : ByteArray} {pc n : Nat} {i : Instr} (hk : zb cc pc = some 19) (h : z_fu2 (cc.data.toList.drop pc) (fun v : Nat => Instr.ldc_w v) = some (i, n)) : decode cc pc = .ok (i, n) := by
  unfold z_fu2 at h
  split at h
  · rename_i a b ha hb
    rw [z_h1_ok] at ha
    rw [z_h2_ok] at hb
    cases h
    show Except.bind (Except.bind ((Reader.u1 : Decoder Nat) cc pc) _) _ = _
    rw [zb_u1 hk]
    show Except.bind (Except.bind ((Reader.u2 : Decoder Nat) cc (pc + 1)) _) _ = _
    rw [zb_u2 ha hb]
    show (Except.ok (Instr.ldc_w (a * 256 + b), pc + 1 + 2 - pc) : Except DecodeError (Instr × Nat)) = _
    rw [show pc + 1 + 2 - pc = 3 by omega]
  · cases h
theorem zo_20 {cc : ByteArray} {pc n : Nat} {i : Instr} (hk : zb cc pc = some 20) (h : z_fu2 (cc.data.toList.drop pc) (fun v : Nat => Instr.ldc2_w v) = some (i, n)) : decode cc pc = .ok (i, n) := by
  unfold z_fu2 at h
  split at h
  · rename_i a b ha hb
    rw [z_h1_ok] at ha
    rw [z_h2_ok] at hb
    cases h
    show Except.bind (Except.bind ((Reader.u1 : Decoder Nat) cc pc) _) _ = _
    rw [zb_u1 hk]
    show Except.bind (Except.bind ((Reader.u2 : Decoder Nat) cc (pc + 1)) _) _ = _
    rw [zb_u2 ha hb]
    show (Except.ok (Instr.ldc2_w (a * 256 + b), pc + 1 + 2 - pc) : Except DecodeError (Instr × Nat)) = _
    rw [show pc + 1 + 2 - pc = 3 by omega]
  · cases h
theorem zo_21 {cc : ByteArray} {pc n : Nat} {i : Instr} (hk : zb cc pc = some 21) (h : z_fu1 (cc.data.toList.drop pc) (fun v : Nat => Instr.iload v) = some (i, n)) : decode cc pc = .ok (i, n) := by
  unfold z_fu1 at h
  split at h
  · rename_i a ha
    rw [z_h1_ok] at ha
    cases h
    show Except.bind (Except.bind ((Reader.u1 : Decoder Nat) cc pc) _) _ = _
    rw [zb_u1 hk]
    show Except.bind (Except.bind ((Reader.u1 : Decoder Nat) cc (pc + 1)) _) _ = _
    rw [zb_u1 ha]
    show (Except.ok (Instr.iload a, pc + 1 + 1 - pc) : Except DecodeError (Instr × Nat)) = _
    rw [show pc + 1 + 1 - pc = 2 by omega]
  · cases h
theorem zo_22 {cc : ByteArray} {pc n : Nat} {i : Instr} (hk : zb cc pc = some 22) (h : z_fu1 (cc.data.toList.drop pc) (fun v : Nat => Instr.lload v) = some (i, n)) : decode cc pc = .ok (i, n) := by
  unfold z_fu1 at h
  split at h
  · rename_i a ha
    rw [z_h1_ok] at ha
    cases h
    show Except.bind (Except.bind ((Reader.u1 : Decoder Nat) cc pc) _) _ = _
    rw [zb_u1 hk]
    show Except.bind (Except.bind ((Reader.u1 : Decoder Nat) cc (pc + 1)) _) _ = _
    rw [zb_u1 ha]
    show (Except.ok (Instr.lload a, pc + 1 + 1 - pc) : Except DecodeError (Instr × Nat)) = _
    rw [show pc + 1 + 1 - pc = 2 by omega]
  · cases h
theorem zo_26 {cc : ByteArray} {pc n : Nat} {i : Instr} (hk : zb cc pc = some 26) (h : some (Instr.iload_n 0, 1) = some (i, n)) : decode cc pc = .ok (i, n) := by
  cases h
  show Except.bind (Except.bind ((Reader.u1 : Decoder Nat) cc pc) _) _ = _
  rw [zb_u1 hk]
  show (Except.ok (Instr.iload_n 0, pc + 1 - pc) : Except DecodeError (Instr × Nat)) = _
  rw [Nat.add_sub_cancel_left]
theorem zo_27 {cc : ByteArray} {pc n : Nat} {i : Instr} (hk : zb cc pc = some 27) (h : some (Instr.iload_n 1, 1) = some (i, n)) : decode cc pc = .ok (i, n) := by
  cases h
  show Except.bind (Except.bind ((Reader.u1 : Decoder Nat) cc pc) _) _ = _
  rw [zb_u1 hk]
  show (Except.ok (Instr.iload_n 1, pc + 1 - pc) : Except DecodeError (Instr × Nat)) = _
  rw [Nat.add_sub_cancel_left]
theorem zo_28 {cc : ByteArray} {pc n : Nat} {i : Instr} (hk : zb cc pc = some 28) (h : some (Instr.iload_n 2, 1) = some (i, n)) : decode cc pc = .ok (i, n) := by
  cases h
  show Except.bind (Except.bind ((Reader.u1 : Decoder Nat) cc pc) _) _ = _
  rw [zb_u1 hk]
  show (Except.ok (Instr.iload_n 2, pc + 1 - pc) : Except DecodeError (Instr × Nat)) = _
  rw [Nat.add_sub_cancel_left]
theorem zo_29 {cc : ByteArray} {pc n : Nat} {i : Instr} (hk : zb cc pc = some 29) (h : some (Instr.iload_n 3, 1) = some (i, n)) : decode cc pc = .ok (i, n) := by
  cases h
  show Except.bind (Except.bind ((Reader.u1 : Decoder Nat) cc pc) _) _ = _
  rw [zb_u1 hk]
  show (Except.ok (Instr.iload_n 3, pc + 1 - pc) : Except DecodeError (Instr × Nat)) = _
  rw [Nat.add_sub_cancel_left]
theorem zo_30 {cc : ByteArray} {pc n : Nat} {i : Instr} (hk : zb cc pc = some 30) (h : some (Instr.lload_n 0, 1) = some (i, n)) : decode cc pc = .ok (i, n) := by
  cases h
  show Except.bind (Except.bind ((Reader.u1 : Decoder Nat) cc pc) _) _ = _
  rw [zb_u1 hk]
  show (Except.ok (Instr.lload_n 0, pc + 1 - pc) : Except DecodeError (Instr × Nat)) = _
  rw [Nat.add_sub_cancel_left]
theorem zo_31 {cc : ByteArray} {pc n : Nat} {i : Instr} (hk : zb cc pc = some 31) (h : some (Instr.lload_n 1, 1) = some (i, n)) : decode cc pc = .ok (i, n) := by
  cases h
  show Except.bind (Except.bind ((Reader.u1 : Decoder Nat) cc pc) _) _ = _
  rw [zb_u1 hk]
  show (Except.ok (Instr.lload_n 1, pc + 1 - pc) : Except DecodeError (Instr × Nat)) = _
  rw [Nat.add_sub_cancel_left]
theorem zo_32 {cc : ByteArray} {pc n : Nat} {i : Instr} (hk : zb cc pc = some 32) (h : some (Instr.lload_n 2, 1) = some (i, n)) : decode cc pc = .ok (i, n) := by
  cases h
  show Except.bind (Except.bind ((Reader.u1 : Decoder Nat) cc pc) _) _ = _
  rw [zb_u1 hk]
  show (Except.ok (Instr.lload_n 2, pc + 1 - pc) : Except DecodeError (Instr × Nat)) = _
  rw [Nat.add_sub_cancel_left]
theorem zo_33 {cc : ByteArray} {pc n : Nat} {i : Instr} (hk : zb cc pc = some 33) (h : some (Instr.lload_n 3, 1) = some (i, n)) : decode cc pc = .ok (i, n) := by
  cases h
  show Except.bind (Except.bind ((Reader.u1 : Decoder Nat) cc pc) _) _ = _
  rw [zb_u1 hk]
  show (Except.ok (Instr.lload_n 3, pc + 1 - pc) : Except DecodeError (Instr × Nat)) = _
  rw [Nat.add_sub_cancel_left]
theorem zo_42 {cc : ByteArray} {pc n : Nat} {i : Instr} (hk : zb cc pc = some 42) (h : some (Instr.aload_n 0, 1) = some (i, n)) : decode cc pc = .ok (i, n) := by
  cases h
  show Except.bind (Except.bind ((Reader.u1 : Decoder Nat) cc pc) _) _ = _
  rw [zb_u1 hk]
  show (Except.ok (Instr.aload_n 0, pc + 1 - pc) : Except DecodeError (Instr × Nat)) = _
  rw [Nat.add_sub_cancel_left]
theorem zo_43 {cc : ByteArray} {pc n : Nat} {i : Instr} (hk : zb cc pc = some 43) (h : some (Instr.aload_n 1, 1) = some (i, n)) : decode cc pc = .ok (i, n) := by
  cases h
  show Except.bind (Except.bind ((Reader.u1 : Decoder Nat) cc pc) _) _ = _
  rw [zb_u1 hk]
  show (Except.ok (Instr.aload_n 1, pc + 1 - pc) : Except DecodeError (Instr × Nat)) = _
  rw [Nat.add_sub_cancel_left]
theorem zo_44 {cc : ByteArray} {pc n : Nat} {i : Instr} (hk : zb cc pc = some 44) (h : some (Instr.aload_n 2, 1) = some (i, n)) : decode cc pc = .ok (i, n) := by
  cases h
  show Except.bind (Except.bind ((Reader.u1 : Decoder Nat) cc pc) _) _ = _
  rw [zb_u1 hk]
  show (Except.ok (Instr.aload_n 2, pc + 1 - pc) : Except DecodeError (Instr × Nat)) = _
  rw [Nat.add_sub_cancel_left]
theorem zo_45 {cc : ByteArray} {pc n : Nat} {i : Instr} (hk : zb cc pc = some 45) (h : some (Instr.aload_n 3, 1) = some (i, n)) : decode cc pc = .ok (i, n) := by
  cases h
  show Except.bind (Except.bind ((Reader.u1 : Decoder Nat) cc pc) _) _ = _
  rw [zb_u1 hk]
  show (Except.ok (Instr.aload_n 3, pc + 1 - pc) : Except DecodeError (Instr × Nat)) = _
  rw [Nat.add_sub_cancel_left]
theorem zo_46 {cc : ByteArray} {pc n : Nat} {i : Instr} (hk : zb cc pc = some 46) (h : some (Instr.iaload, 1) = some (i, n)) : decode cc pc = .ok (i, n) := by
  cases h
  show Except.bind (Except.bind ((Reader.u1 : Decoder Nat) cc pc) _) _ = _
  rw [zb_u1 hk]
  show (Except.ok (Instr.iaload, pc + 1 - pc) : Except DecodeError (Instr × Nat)) = _
  rw [Nat.add_sub_cancel_left]
theorem zo_47 {cc : ByteArray} {pc n : Nat} {i : Instr} (hk : zb cc pc = some 47) (h : some (Instr.laload, 1) = some (i, n)) : decode cc pc = .ok (i, n) := by
  cases h
  show Except.bind (Except.bind ((Reader.u1 : Decoder Nat) cc pc) _) _ = _
  rw [zb_u1 hk]
  show (Except.ok (Instr.laload, pc + 1 - pc) : Except DecodeError (Instr × Nat)) = _
  rw [Nat.add_sub_cancel_left]
theorem zo_51 {cc : ByteArray} {pc n : Nat} {i : Instr} (hk : zb cc pc = some 51) (h : some (Instr.baload, 1) = some (i, n)) : decode cc pc = .ok (i, n) := by
  cases h
  show Except.bind (Except.bind ((Reader.u1 : Decoder Nat) cc pc) _) _ = _
  rw [zb_u1 hk]
  show (Except.ok (Instr.baload, pc + 1 - pc) : Except DecodeError (Instr × Nat)) = _
  rw [Nat.add_sub_cancel_left]
theorem zo_54 {cc : ByteArray} {pc n : Nat} {i : Instr} (hk : zb cc pc = some 54) (h : z_fu1 (cc.data.toList.drop pc) (fun v : Nat => Instr.istore v) = some (i, n)) : decode cc pc = .ok (i, n) := by
  unfold z_fu1 at h
  split at h
  · rename_i a ha
    rw [z_h1_ok] at ha
    cases h
    show Except.bind (Except.bind ((Reader.u1 : Decoder Nat) cc pc) _) _ = _
    rw [zb_u1 hk]
    show Except.bind (Except.bind ((Reader.u1 : Decoder Nat) cc (pc + 1)) _) _ = _
    rw [zb_u1 ha]
    show (Except.ok (Instr.istore a, pc + 1 + 1 - pc) : Except DecodeError (Instr × Nat)) = _
    rw [show pc + 1 + 1 - pc = 2 by omega]
  · cases h
theorem zo_55 {cc : ByteArray} {pc n : Nat} {i : Instr} (hk : zb cc pc = some 55) (h : z_fu1 (cc.data.toList.drop pc) (fun v : Nat => Instr.lstore v) = some (i, n)) : decode cc pc = .ok (i, n) := by
  unfold z_fu1 at h
  split at h
  · rename_i a ha
    rw [z_h1_ok] at ha
    cases h
    show Except.bind (Except.bind ((Reader.u1 : Decoder Nat) cc pc) _) _ = _
    rw [zb_u1 hk]
    show Except.bind (Except.bind ((Reader.u1 : Decoder Nat) cc (pc + 1)) _) _ = _
    rw [zb_u1 ha]
    show (Except.ok (Instr.lstore a, pc + 1 + 1 - pc) : Except DecodeError (Instr × Nat)) = _
    rw [show pc + 1 + 1 - pc = 2 by omega]
  · cases h
theorem zo_59 {cc : ByteArray} {pc n : Nat} {i : Instr} (hk : zb cc pc = some 59) (h : some (Instr.istore_n 0, 1) = some (i, n)) : decode cc pc = .ok (i, n) := by
  cases h
  show Except.bind (Except.bind ((Reader.u1 : Decoder Nat) cc pc) _) _ = _
  rw [zb_u1 hk]
  show (Except.ok (Instr.istore_n 0, pc + 1 - pc) : Except DecodeError (Instr × Nat)) = _
  rw [Nat.add_sub_cancel_left]
theorem zo_60 {cc : ByteArray} {pc n : Nat} {i : Instr} (hk : zb cc pc = some 60) (h : some (Instr.istore_n 1, 1) = some (i, n)) : decode cc pc = .ok (i, n) := by
  cases h
  show Except.bind (Except.bind ((Reader.u1 : Decoder Nat) cc pc) _) _ = _
  rw [zb_u1 hk]
  show (Except.ok (Instr.istore_n 1, pc + 1 - pc) : Except DecodeError (Instr × Nat)) = _
  rw [Nat.add_sub_cancel_left]
theorem zo_61 {cc : ByteArray} {pc n : Nat} {i : Instr} (hk : zb cc pc = some 61) (h : some (Instr.istore_n 2, 1) = some (i, n)) : decode cc pc = .ok (i, n) := by
  cases h
  show Except.bind (Except.bind ((Reader.u1 : Decoder Nat) cc pc) _) _ = _
  rw [zb_u1 hk]
  show (Except.ok (Instr.istore_n 2, pc + 1 - pc) : Except DecodeError (Instr × Nat)) = _
  rw [Nat.add_sub_cancel_left]
theorem zo_62 {cc : ByteArray} {pc n : Nat} {i : Instr} (hk : zb cc pc = some 62) (h : some (Instr.istore_n 3, 1) = some (i, n)) : decode cc pc = .ok (i, n) := by
  cases h
  show Except.bind (Except.bind ((Reader.u1 : Decoder Nat) cc pc) _) _ = _
  rw [zb_u1 hk]
  show (Except.ok (Instr.istore_n 3, pc + 1 - pc) : Except DecodeError (Instr × Nat)) = _
  rw [Nat.add_sub_cancel_left]
theorem zo_63 {cc : ByteArray} {pc n : Nat} {i : Instr} (hk : zb cc pc = some 63) (h : some (Instr.lstore_n 0, 1) = some (i, n)) : decode cc pc = .ok (i, n) := by
  cases h
  show Except.bind (Except.bind ((Reader.u1 : Decoder Nat) cc pc) _) _ = _
  rw [zb_u1 hk]
  show (Except.ok (Instr.lstore_n 0, pc + 1 - pc) : Except DecodeError (Instr × Nat)) = _
  rw [Nat.add_sub_cancel_left]
theorem zo_64 {cc : ByteArray} {pc n : Nat} {i : Instr} (hk : zb cc pc = some 64) (h : some (Instr.lstore_n 1, 1) = some (i, n)) : decode cc pc = .ok (i, n) := by
  cases h
  show Except.bind (Except.bind ((Reader.u1 : Decoder Nat) cc pc) _) _ = _
  rw [zb_u1 hk]
  show (Except.ok (Instr.lstore_n 1, pc + 1 - pc) : Except DecodeError (Instr × Nat)) = _
  rw [Nat.add_sub_cancel_left]
theorem zo_65 {cc : ByteArray} {pc n : Nat} {i : Instr} (hk : zb cc pc = some 65) (h : some (Instr.lstore_n 2, 1) = some (i, n)) : decode cc pc = .ok (i, n) := by
  cases h
  show Except.bind (Except.bind ((Reader.u1 : Decoder Nat) cc pc) _) _ = _
  rw [zb_u1 hk]
  show (Except.ok (Instr.lstore_n 2, pc + 1 - pc) : Except DecodeError (Instr × Nat)) = _
  rw [Nat.add_sub_cancel_left]
theorem zo_66 {cc : ByteArray} {pc n : Nat} {i : Instr} (hk : zb cc pc = some 66) (h : some (Instr.lstore_n 3, 1) = some (i, n)) : decode cc pc = .ok (i, n) := by
  cases h
  show Except.bind (Except.bind ((Reader.u1 : Decoder Nat) cc pc) _) _ = _
  rw [zb_u1 hk]
  show (Except.ok (Instr.lstore_n 3, pc + 1 - pc) : Except DecodeError (Instr × Nat)) = _
  rw [Nat.add_sub_cancel_left]
theorem zo_75 {cc : ByteArray} {pc n : Nat} {i : Instr} (hk : zb cc pc = some 75) (h : some (Instr.astore_n 0, 1) = some (i, n)) : decode cc pc = .ok (i, n) := by
  cases h
  show Except.bind (Except.bind ((Reader.u1 : Decoder Nat) cc pc) _) _ = _
  rw [zb_u1 hk]
  show (Except.ok (Instr.astore_n 0, pc + 1 - pc) : Except DecodeError (Instr × Nat)) = _
  rw [Nat.add_sub_cancel_left]
theorem zo_76 {cc : ByteArray} {pc n : Nat} {i : Instr} (hk : zb cc pc = some 76) (h : some (Instr.astore_n 1, 1) = some (i, n)) : decode cc pc = .ok (i, n) := by
  cases h
  show Except.bind (Except.bind ((Reader.u1 : Decoder Nat) cc pc) _) _ = _
  rw [zb_u1 hk]
  show (Except.ok (Instr.astore_n 1, pc + 1 - pc) : Except DecodeError (Instr × Nat)) = _
  rw [Nat.add_sub_cancel_left]
theorem zo_77 {cc : ByteArray} {pc n : Nat} {i : Instr} (hk : zb cc pc = some 77) (h : some (Instr.astore_n 2, 1) = some (i, n)) : decode cc pc = .ok (i, n) := by
  cases h
  show Except.bind (Except.bind ((Reader.u1 : Decoder Nat) cc pc) _) _ = _
  rw [zb_u1 hk]
  show (Except.ok (Instr.astore_n 2, pc + 1 - pc) : Except DecodeError (Instr × Nat)) = _
  rw [Nat.add_sub_cancel_left]
theorem zo_78 {cc : ByteArray} {pc n : Nat} {i : Instr} (hk : zb cc pc = some 78) (h : some (Instr.astore_n 3, 1) = some (i, n)) : decode cc pc = .ok (i, n) := by
  cases h
  show Except.bind (Except.bind ((Reader.u1 : Decoder Nat) cc pc) _) _ = _
  rw [zb_u1 hk]
  show (Except.ok (Instr.astore_n 3, pc + 1 - pc) : Except DecodeError (Instr × Nat)) = _
  rw [Nat.add_sub_cancel_left]
theorem zo_79 {cc : ByteArray} {pc n : Nat} {i : Instr} (hk : zb cc pc = some 79) (h : some (Instr.iastore, 1) = some (i, n)) : decode cc pc = .ok (i, n) := by
  cases h
  show Except.bind (Except.bind ((Reader.u1 : Decoder Nat) cc pc) _) _ = _
  rw [zb_u1 hk]
  show (Except.ok (Instr.iastore, pc + 1 - pc) : Except DecodeError (Instr × Nat)) = _
  rw [Nat.add_sub_cancel_left]
theorem zo_80 {cc : ByteArray} {pc n : Nat} {i : Instr} (hk : zb cc pc = some 80) (h : some (Instr.lastore, 1) = some (i, n)) : decode cc pc = .ok (i, n) := by
  cases h
  show Except.bind (Except.bind ((Reader.u1 : Decoder Nat) cc pc) _) _ = _
  rw [zb_u1 hk]
  show (Except.ok (Instr.lastore, pc + 1 - pc) : Except DecodeError (Instr × Nat)) = _
  rw [Nat.add_sub_cancel_left]
theorem zo_84 {cc : ByteArray} {pc n : Nat} {i : Instr} (hk : zb cc pc = some 84) (h : some (Instr.bastore, 1) = some (i, n)) : decode cc pc = .ok (i, n) := by
  cases h
  show Except.bind (Except.bind ((Reader.u1 : Decoder Nat) cc pc) _) _ = _
  rw [zb_u1 hk]
  show (Except.ok (Instr.bastore, pc + 1 - pc) : Except DecodeError (Instr × Nat)) = _
  rw [Nat.add_sub_cancel_left]
theorem zo_87 {cc : ByteArray} {pc n : Nat} {i : Instr} (hk : zb cc pc = some 87) (h : some (Instr.pop, 1) = some (i, n)) : decode cc pc = .ok (i, n) := by
  cases h
  show Except.bind (Except.bind ((Reader.u1 : Decoder Nat) cc pc) _) _ = _
  rw [zb_u1 hk]
  show (Except.ok (Instr.pop, pc + 1 - pc) : Except DecodeError (Instr × Nat)) = _
  rw [Nat.add_sub_cancel_left]
theorem zo_88 {cc : ByteArray} {pc n : Nat} {i : Instr} (hk : zb cc pc = some 88) (h : some (Instr.pop2, 1) = some (i, n)) : decode cc pc = .ok (i, n) := by
  cases h
  show Except.bind (Except.bind ((Reader.u1 : Decoder Nat) cc pc) _) _ = _
  rw [zb_u1 hk]
  show (Except.ok (Instr.pop2, pc + 1 - pc) : Except DecodeError (Instr × Nat)) = _
  rw [Nat.add_sub_cancel_left]
theorem zo_89 {cc : ByteArray} {pc n : Nat} {i : Instr} (hk : zb cc pc = some 89) (h : some (Instr.dup, 1) = some (i, n)) : decode cc pc = .ok (i, n) := by
  cases h
  show Except.bind (Except.bind ((Reader.u1 : Decoder Nat) cc pc) _) _ = _
  rw [zb_u1 hk]
  show (Except.ok (Instr.dup, pc + 1 - pc) : Except DecodeError (Instr × Nat)) = _
  rw [Nat.add_sub_cancel_left]
theorem zo_92 {cc : ByteArray} {pc n : Nat} {i : Instr} (hk : zb cc pc = some 92) (h : some (Instr.dup2, 1) = some (i, n)) : decode cc pc = .ok (i, n) := by
  cases h
  show Except.bind (Except.bind ((Reader.u1 : Decoder Nat) cc pc) _) _ = _
  rw [zb_u1 hk]
  show (Except.ok (Instr.dup2, pc + 1 - pc) : Except DecodeError (Instr × Nat)) = _
  rw [Nat.add_sub_cancel_left]
theorem zo_96 {cc : ByteArray} {pc n : Nat} {i : Instr} (hk : zb cc pc = some 96) (h : some (Instr.iadd, 1) = some (i, n)) : decode cc pc = .ok (i, n) := by
  cases h
  show Except.bind (Except.bind ((Reader.u1 : Decoder Nat) cc pc) _) _ = _
  rw [zb_u1 hk]
  show (Except.ok (Instr.iadd, pc + 1 - pc) : Except DecodeError (Instr × Nat)) = _
  rw [Nat.add_sub_cancel_left]
theorem zo_97 {cc : ByteArray} {pc n : Nat} {i : Instr} (hk : zb cc pc = some 97) (h : some (Instr.ladd, 1) = some (i, n)) : decode cc pc = .ok (i, n) := by
  cases h
  show Except.bind (Except.bind ((Reader.u1 : Decoder Nat) cc pc) _) _ = _
  rw [zb_u1 hk]
  show (Except.ok (Instr.ladd, pc + 1 - pc) : Except DecodeError (Instr × Nat)) = _
  rw [Nat.add_sub_cancel_left]
theorem zo_100 {cc : ByteArray} {pc n : Nat} {i : Instr} (hk : zb cc pc = some 100) (h : some (Instr.isub, 1) = some (i, n)) : decode cc pc = .ok (i, n) := by
  cases h
  show Except.bind (Except.bind ((Reader.u1 : Decoder Nat) cc pc) _) _ = _
  rw [zb_u1 hk]
  show (Except.ok (Instr.isub, pc + 1 - pc) : Except DecodeError (Instr × Nat)) = _
  rw [Nat.add_sub_cancel_left]
theorem zo_101 {cc : ByteArray} {pc n : Nat} {i : Instr} (hk : zb cc pc = some 101) (h : some (Instr.lsub, 1) = some (i, n)) : decode cc pc = .ok (i, n) := by
  cases h
  show Except.bind (Except.bind ((Reader.u1 : Decoder Nat) cc pc) _) _ = _
  rw [zb_u1 hk]
  show (Except.ok (Instr.lsub, pc + 1 - pc) : Except DecodeError (Instr × Nat)) = _
  rw [Nat.add_sub_cancel_left]
theorem zo_104 {cc : ByteArray} {pc n : Nat} {i : Instr} (hk : zb cc pc = some 104) (h : some (Instr.imul, 1) = some (i, n)) : decode cc pc = .ok (i, n) := by
  cases h
  show Except.bind (Except.bind ((Reader.u1 : Decoder Nat) cc pc) _) _ = _
  rw [zb_u1 hk]
  show (Except.ok (Instr.imul, pc + 1 - pc) : Except DecodeError (Instr × Nat)) = _
  rw [Nat.add_sub_cancel_left]
theorem zo_105 {cc : ByteArray} {pc n : Nat} {i : Instr} (hk : zb cc pc = some 105) (h : some (Instr.lmul, 1) = some (i, n)) : decode cc pc = .ok (i, n) := by
  cases h
  show Except.bind (Except.bind ((Reader.u1 : Decoder Nat) cc pc) _) _ = _
  rw [zb_u1 hk]
  show (Except.ok (Instr.lmul, pc + 1 - pc) : Except DecodeError (Instr × Nat)) = _
  rw [Nat.add_sub_cancel_left]
theorem zo_108 {cc : ByteArray} {pc n : Nat} {i : Instr} (hk : zb cc pc = some 108) (h : some (Instr.idiv, 1) = some (i, n)) : decode cc pc = .ok (i, n) := by
  cases h
  show Except.bind (Except.bind ((Reader.u1 : Decoder Nat) cc pc) _) _ = _
  rw [zb_u1 hk]
  show (Except.ok (Instr.idiv, pc + 1 - pc) : Except DecodeError (Instr × Nat)) = _
  rw [Nat.add_sub_cancel_left]
theorem zo_109 {cc : ByteArray} {pc n : Nat} {i : Instr} (hk : zb cc pc = some 109) (h : some (Instr.ldiv, 1) = some (i, n)) : decode cc pc = .ok (i, n) := by
  cases h
  show Except.bind (Except.bind ((Reader.u1 : Decoder Nat) cc pc) _) _ = _
  rw [zb_u1 hk]
  show (Except.ok (Instr.ldiv, pc + 1 - pc) : Except DecodeError (Instr × Nat)) = _
  rw [Nat.add_sub_cancel_left]
theorem zo_112 {cc : ByteArray} {pc n : Nat} {i : Instr} (hk : zb cc pc = some 112) (h : some (Instr.irem, 1) = some (i, n)) : decode cc pc = .ok (i, n) := by
  cases h
  show Except.bind (Except.bind ((Reader.u1 : Decoder Nat) cc pc) _) _ = _
  rw [zb_u1 hk]
  show (Except.ok (Instr.irem, pc + 1 - pc) : Except DecodeError (Instr × Nat)) = _
  rw [Nat.add_sub_cancel_left]
theorem zo_113 {cc : ByteArray} {pc n : Nat} {i : Instr} (hk : zb cc pc = some 113) (h : some (Instr.lrem, 1) = some (i, n)) : decode cc pc = .ok (i, n) := by
  cases h
  show Except.bind (Except.bind ((Reader.u1 : Decoder Nat) cc pc) _) _ = _
  rw [zb_u1 hk]
  show (Except.ok (Instr.lrem, pc + 1 - pc) : Except DecodeError (Instr × Nat)) = _
  rw [Nat.add_sub_cancel_left]
theorem zo_116 {cc : ByteArray} {pc n : Nat} {i : Instr} (hk : zb cc pc = some 116) (h : some (Instr.ineg, 1) = some (i, n)) : decode cc pc = .ok (i, n) := by
  cases h
  show Except.bind (Except.bind ((Reader.u1 : Decoder Nat) cc pc) _) _ = _
  rw [zb_u1 hk]
  show (Except.ok (Instr.ineg, pc + 1 - pc) : Except DecodeError (Instr × Nat)) = _
  rw [Nat.add_sub_cancel_left]
theorem zo_120 {cc : ByteArray} {pc n : Nat} {i : Instr} (hk : zb cc pc = some 120) (h : some (Instr.ishl, 1) = some (i, n)) : decode cc pc = .ok (i, n) := by
  cases h
  show Except.bind (Except.bind ((Reader.u1 : Decoder Nat) cc pc) _) _ = _
  rw [zb_u1 hk]
  show (Except.ok (Instr.ishl, pc + 1 - pc) : Except DecodeError (Instr × Nat)) = _
  rw [Nat.add_sub_cancel_left]
theorem zo_121 {cc : ByteArray} {pc n : Nat} {i : Instr} (hk : zb cc pc = some 121) (h : some (Instr.lshl, 1) = some (i, n)) : decode cc pc = .ok (i, n) := by
  cases h
  show Except.bind (Except.bind ((Reader.u1 : Decoder Nat) cc pc) _) _ = _
  rw [zb_u1 hk]
  show (Except.ok (Instr.lshl, pc + 1 - pc) : Except DecodeError (Instr × Nat)) = _
  rw [Nat.add_sub_cancel_left]
theorem zo_122 {cc : ByteArray} {pc n : Nat} {i : Instr} (hk : zb cc pc = some 122) (h : some (Instr.ishr, 1) = some (i, n)) : decode cc pc = .ok (i, n) := by
  cases h
  show Except.bind (Except.bind ((Reader.u1 : Decoder Nat) cc pc) _) _ = _
  rw [zb_u1 hk]
  show (Except.ok (Instr.ishr, pc + 1 - pc) : Except DecodeError (Instr × Nat)) = _
  rw [Nat.add_sub_cancel_left]
theorem zo_124 {cc : ByteArray} {pc n : Nat} {i : Instr} (hk : zb cc pc = some 124) (h : some (Instr.iushr, 1) = some (i, n)) : decode cc pc = .ok (i, n) := by
  cases h
  show Except.bind (Except.bind ((Reader.u1 : Decoder Nat) cc pc) _) _ = _
  rw [zb_u1 hk]
  show (Except.ok (Instr.iushr, pc + 1 - pc) : Except DecodeError (Instr × Nat)) = _
  rw [Nat.add_sub_cancel_left]
theorem zo_126 {cc : ByteArray} {pc n : Nat} {i : Instr} (hk : zb cc pc = some 126) (h : some (Instr.iand, 1) = some (i, n)) : decode cc pc = .ok (i, n) := by
  cases h
  show Except.bind (Except.bind ((Reader.u1 : Decoder Nat) cc pc) _) _ = _
  rw [zb_u1 hk]
  show (Except.ok (Instr.iand, pc + 1 - pc) : Except DecodeError (Instr × Nat)) = _
  rw [Nat.add_sub_cancel_left]
theorem zo_127 {cc : ByteArray} {pc n : Nat} {i : Instr} (hk : zb cc pc = some 127) (h : some (Instr.land, 1) = some (i, n)) : decode cc pc = .ok (i, n) := by
  cases h
  show Except.bind (Except.bind ((Reader.u1 : Decoder Nat) cc pc) _) _ = _
  rw [zb_u1 hk]
  show (Except.ok (Instr.land, pc + 1 - pc) : Except DecodeError (Instr × Nat)) = _
  rw [Nat.add_sub_cancel_left]
theorem zo_128 {cc : ByteArray} {pc n : Nat} {i : Instr} (hk : zb cc pc = some 128) (h : some (Instr.ior, 1) = some (i, n)) : decode cc pc = .ok (i, n) := by
  cases h
  show Except.bind (Except.bind ((Reader.u1 : Decoder Nat) cc pc) _) _ = _
  rw [zb_u1 hk]
  show (Except.ok (Instr.ior, pc + 1 - pc) : Except DecodeError (Instr × Nat)) = _
  rw [Nat.add_sub_cancel_left]
theorem zo_129 {cc : ByteArray} {pc n : Nat} {i : Instr} (hk : zb cc pc = some 129) (h : some (Instr.lor, 1) = some (i, n)) : decode cc pc = .ok (i, n) := by
  cases h
  show Except.bind (Except.bind ((Reader.u1 : Decoder Nat) cc pc) _) _ = _
  rw [zb_u1 hk]
  show (Except.ok (Instr.lor, pc + 1 - pc) : Except DecodeError (Instr × Nat)) = _
  rw [Nat.add_sub_cancel_left]
theorem zo_130 {cc : ByteArray} {pc n : Nat} {i : Instr} (hk : zb cc pc = some 130) (h : some (Instr.ixor, 1) = some (i, n)) : decode cc pc = .ok (i, n) := by
  cases h
  show Except.bind (Except.bind ((Reader.u1 : Decoder Nat) cc pc) _) _ = _
  rw [zb_u1 hk]
  show (Except.ok (Instr.ixor, pc + 1 - pc) : Except DecodeError (Instr × Nat)) = _
  rw [Nat.add_sub_cancel_left]
theorem zo_132 {cc : ByteArray} {pc n : Nat} {i : Instr} (hk : zb cc pc = some 132) (h : z_fus (cc.data.toList.drop pc) (fun (u : Nat) (v : Int) => Instr.iinc u v) = some (i, n)) : decode cc pc = .ok (i, n) := by
  unfold z_fus at h
  split at h
  · rename_i a b ha hb
    rw [z_h1_ok] at ha
    rw [z_h2_ok] at hb
    cases h
    show Except.bind (Except.bind ((Reader.u1 : Decoder Nat) cc pc) _) _ = _
    rw [zb_u1 hk]
    show Except.bind (Except.bind ((Reader.u1 : Decoder Nat) cc (pc + 1)) _) _ = _
    rw [zb_u1 ha]
    show Except.bind (Except.bind ((Reader.s1 : Decoder Int) cc (pc + 1 + 1)) _) _ = _
    rw [zb_s1 hb]
    show (Except.ok (Instr.iinc a (Reader.signed 8 b), pc + 1 + 1 + 1 - pc) : Except DecodeError (Instr × Nat)) = _
    rw [show pc + 1 + 1 + 1 - pc = 3 by omega]
  · cases h
theorem zo_133 {cc : ByteArray} {pc n : Nat} {i : Instr} (hk : zb cc pc = some 133) (h : some (Instr.i2l, 1) = some (i, n)) : decode cc pc = .ok (i, n) := by
  cases h
  show Except.bind (Except.bind ((Reader.u1 : Decoder Nat) cc pc) _) _ = _
  rw [zb_u1 hk]
  show (Except.ok (Instr.i2l, pc + 1 - pc) : Except DecodeError (Instr × Nat)) = _
  rw [Nat.add_sub_cancel_left]
theorem zo_136 {cc : ByteArray} {pc n : Nat} {i : Instr} (hk : zb cc pc = some 136) (h : some (Instr.l2i, 1) = some (i, n)) : decode cc pc = .ok (i, n) := by
  cases h
  show Except.bind (Except.bind ((Reader.u1 : Decoder Nat) cc pc) _) _ = _
  rw [zb_u1 hk]
  show (Except.ok (Instr.l2i, pc + 1 - pc) : Except DecodeError (Instr × Nat)) = _
  rw [Nat.add_sub_cancel_left]
theorem zo_148 {cc : ByteArray} {pc n : Nat} {i : Instr} (hk : zb cc pc = some 148) (h : some (Instr.lcmp, 1) = some (i, n)) : decode cc pc = .ok (i, n) := by
  cases h
  show Except.bind (Except.bind ((Reader.u1 : Decoder Nat) cc pc) _) _ = _
  rw [zb_u1 hk]
  show (Except.ok (Instr.lcmp, pc + 1 - pc) : Except DecodeError (Instr × Nat)) = _
  rw [Nat.add_sub_cancel_left]
theorem zo_153 {cc : ByteArray} {pc n : Nat} {i : Instr} (hk : zb cc pc = some 153) (h : z_fs2 (cc.data.toList.drop pc) (fun v : Int => Instr.ifCond .eq v) = some (i, n)) : decode cc pc = .ok (i, n) := by
  unfold z_fs2 at h
  split at h
  · rename_i a b ha hb
    rw [z_h1_ok] at ha
    rw [z_h2_ok] at hb
    cases h
    show Except.bind (Except.bind ((Reader.u1 : Decoder Nat) cc pc) _) _ = _
    rw [zb_u1 hk]
    show Except.bind (Except.bind ((Reader.s2 : Decoder Int) cc (pc + 1)) _) _ = _
    rw [zb_s2 ha hb]
    show (Except.ok (Instr.ifCond .eq (Reader.signed 16 (a * 256 + b)), pc + 1 + 2 - pc) : Except DecodeError (Instr × Nat)) = _
    rw [show pc + 1 + 2 - pc = 3 by omega]
  · cases h
theorem zo_154 {cc : ByteArray} {pc n : Nat} {i : Instr} (hk : zb cc pc = some 154) (h : z_fs2 (cc.data.toList.drop pc) (fun v : Int => Instr.ifCond .ne v) = some (i, n)) : decode cc pc = .ok (i, n) := by
  unfold z_fs2 at h
  split at h
  · rename_i a b ha hb
    rw [z_h1_ok] at ha
    rw [z_h2_ok] at hb
    cases h
    show Except.bind (Except.bind ((Reader.u1 : Decoder Nat) cc pc) _) _ = _
    rw [zb_u1 hk]
    show Except.bind (Except.bind ((Reader.s2 : Decoder Int) cc (pc + 1)) _) _ = _
    rw [zb_s2 ha hb]
    show (Except.ok (Instr.ifCond .ne (Reader.signed 16 (a * 256 + b)), pc + 1 + 2 - pc) : Except DecodeError (Instr × Nat)) = _
    rw [show pc + 1 + 2 - pc = 3 by omega]
  · cases h
theorem zo_155 {cc : ByteArray} {pc n : Nat} {i : Instr} (hk : zb cc pc = some 155) (h : z_fs2 (cc.data.toList.drop pc) (fun v : Int => Instr.ifCond .lt v) = some (i, n)) : decode cc pc = .ok (i, n) := by
  unfold z_fs2 at h
  split at h
  · rename_i a b ha hb
    rw [z_h1_ok] at ha
    rw [z_h2_ok] at hb
    cases h
    show Except.bind (Except.bind ((Reader.u1 : Decoder Nat) cc pc) _) _ = _
    rw [zb_u1 hk]
    show Except.bind (Except.bind ((Reader.s2 : Decoder Int) cc (pc + 1)) _) _ = _
    rw [zb_s2 ha hb]
    show (Except.ok (Instr.ifCond .lt (Reader.signed 16 (a * 256 + b)), pc + 1 + 2 - pc) : Except DecodeError (Instr × Nat)) = _
    rw [show pc + 1 + 2 - pc = 3 by omega]
  · cases h
theorem zo_156 {cc : ByteArray} {pc n : Nat} {i : Instr} (hk : zb cc pc = some 156) (h : z_fs2 (cc.data.toList.drop pc) (fun v : Int => Instr.ifCond .ge v) = some (i, n)) : decode cc pc = .ok (i, n) := by
  unfold z_fs2 at h
  split at h
  · rename_i a b ha hb
    rw [z_h1_ok] at ha
    rw [z_h2_ok] at hb
    cases h
    show Except.bind (Except.bind ((Reader.u1 : Decoder Nat) cc pc) _) _ = _
    rw [zb_u1 hk]
    show Except.bind (Except.bind ((Reader.s2 : Decoder Int) cc (pc + 1)) _) _ = _
    rw [zb_s2 ha hb]
    show (Except.ok (Instr.ifCond .ge (Reader.signed 16 (a * 256 + b)), pc + 1 + 2 - pc) : Except DecodeError (Instr × Nat)) = _
    rw [show pc + 1 + 2 - pc = 3 by omega]
  · cases h
theorem zo_157 {cc : ByteArray} {pc n : Nat} {i : Instr} (hk : zb cc pc = some 157) (h : z_fs2 (cc.data.toList.drop pc) (fun v : Int => Instr.ifCond .gt v) = some (i, n)) : decode cc pc = .ok (i, n) := by
  unfold z_fs2 at h
  split at h
  · rename_i a b ha hb
    rw [z_h1_ok] at ha
    rw [z_h2_ok] at hb
    cases h
    show Except.bind (Except.bind ((Reader.u1 : Decoder Nat) cc pc) _) _ = _
    rw [zb_u1 hk]
    show Except.bind (Except.bind ((Reader.s2 : Decoder Int) cc (pc + 1)) _) _ = _
    rw [zb_s2 ha hb]
    show (Except.ok (Instr.ifCond .gt (Reader.signed 16 (a * 256 + b)), pc + 1 + 2 - pc) : Except DecodeError (Instr × Nat)) = _
    rw [show pc + 1 + 2 - pc = 3 by omega]
  · cases h
theorem zo_158 {cc : ByteArray} {pc n : Nat} {i : Instr} (hk : zb cc pc = some 158) (h : z_fs2 (cc.data.toList.drop pc) (fun v : Int => Instr.ifCond .le v) = some (i, n)) : decode cc pc = .ok (i, n) := by
  unfold z_fs2 at h
  split at h
  · rename_i a b ha hb
    rw [z_h1_ok] at ha
    rw [z_h2_ok] at hb
    cases h
    show Except.bind (Except.bind ((Reader.u1 : Decoder Nat) cc pc) _) _ = _
    rw [zb_u1 hk]
    show Except.bind (Except.bind ((Reader.s2 : Decoder Int) cc (pc + 1)) _) _ = _
    rw [zb_s2 ha hb]
    show (Except.ok (Instr.ifCond .le (Reader.signed 16 (a * 256 + b)), pc + 1 + 2 - pc) : Except DecodeError (Instr × Nat)) = _
    rw [show pc + 1 + 2 - pc = 3 by omega]
  · cases h
theorem zo_159 {cc : ByteArray} {pc n : Nat} {i : Instr} (hk : zb cc pc = some 159) (h : z_fs2 (cc.data.toList.drop pc) (fun v : Int => Instr.if_icmp .eq v) = some (i, n)) : decode cc pc = .ok (i, n) := by
  unfold z_fs2 at h
  split at h
  · rename_i a b ha hb
    rw [z_h1_ok] at ha
    rw [z_h2_ok] at hb
    cases h
    show Except.bind (Except.bind ((Reader.u1 : Decoder Nat) cc pc) _) _ = _
    rw [zb_u1 hk]
    show Except.bind (Except.bind ((Reader.s2 : Decoder Int) cc (pc + 1)) _) _ = _
    rw [zb_s2 ha hb]
    show (Except.ok (Instr.if_icmp .eq (Reader.signed 16 (a * 256 + b)), pc + 1 + 2 - pc) : Except DecodeError (Instr × Nat)) = _
    rw [show pc + 1 + 2 - pc = 3 by omega]
  · cases h
theorem zo_160 {cc : ByteArray} {pc n : Nat} {i : Instr} (hk : zb cc pc = some 160) (h : z_fs2 (cc.data.toList.drop pc) (fun v : Int => Instr.if_icmp .ne v) = some (i, n)) : decode cc pc = .ok (i, n) := by
  unfold z_fs2 at h
  split at h
  · rename_i a b ha hb
    rw [z_h1_ok] at ha
    rw [z_h2_ok] at hb
    cases h
    show Except.bind (Except.bind ((Reader.u1 : Decoder Nat) cc pc) _) _ = _
    rw [zb_u1 hk]
    show Except.bind (Except.bind ((Reader.s2 : Decoder Int) cc (pc + 1)) _) _ = _
    rw [zb_s2 ha hb]
    show (Except.ok (Instr.if_icmp .ne (Reader.signed 16 (a * 256 + b)), pc + 1 + 2 - pc) : Except DecodeError (Instr × Nat)) = _
    rw [show pc + 1 + 2 - pc = 3 by omega]
  · cases h
theorem zo_161 {cc : ByteArray} {pc n : Nat} {i : Instr} (hk : zb cc pc = some 161) (h : z_fs2 (cc.data.toList.drop pc) (fun v : Int => Instr.if_icmp .lt v) = some (i, n)) : decode cc pc = .ok (i, n) := by
  unfold z_fs2 at h
  split at h
  · rename_i a b ha hb
    rw [z_h1_ok] at ha
    rw [z_h2_ok] at hb
    cases h
    show Except.bind (Except.bind ((Reader.u1 : Decoder Nat) cc pc) _) _ = _
    rw [zb_u1 hk]
    show Except.bind (Except.bind ((Reader.s2 : Decoder Int) cc (pc + 1)) _) _ = _
    rw [zb_s2 ha hb]
    show (Except.ok (Instr.if_icmp .lt (Reader.signed 16 (a * 256 + b)), pc + 1 + 2 - pc) : Except DecodeError (Instr × Nat)) = _
    rw [show pc + 1 + 2 - pc = 3 by omega]
  · cases h
theorem zo_162 {cc : ByteArray} {pc n : Nat} {i : Instr} (hk : zb cc pc = some 162) (h : z_fs2 (cc.data.toList.drop pc) (fun v : Int => Instr.if_icmp .ge v) = some (i, n)) : decode cc pc = .ok (i, n) := by
  unfold z_fs2 at h
  split at h
  · rename_i a b ha hb
    rw [z_h1_ok] at ha
    rw [z_h2_ok] at hb
    cases h
    show Except.bind (Except.bind ((Reader.u1 : Decoder Nat) cc pc) _) _ = _
    rw [zb_u1 hk]
    show Except.bind (Except.bind ((Reader.s2 : Decoder Int) cc (pc + 1)) _) _ = _
    rw [zb_s2 ha hb]
    show (Except.ok (Instr.if_icmp .ge (Reader.signed 16 (a * 256 + b)), pc + 1 + 2 - pc) : Except DecodeError (Instr × Nat)) = _
    rw [show pc + 1 + 2 - pc = 3 by omega]
  · cases h
theorem zo_163 {cc : ByteArray} {pc n : Nat} {i : Instr} (hk : zb cc pc = some 163) (h : z_fs2 (cc.data.toList.drop pc) (fun v : Int => Instr.if_icmp .gt v) = some (i, n)) : decode cc pc = .ok (i, n) := by
  unfold z_fs2 at h
  split at h
  · rename_i a b ha hb
    rw [z_h1_ok] at ha
    rw [z_h2_ok] at hb
    cases h
    show Except.bind (Except.bind ((Reader.u1 : Decoder Nat) cc pc) _) _ = _
    rw [zb_u1 hk]
    show Except.bind (Except.bind ((Reader.s2 : Decoder Int) cc (pc + 1)) _) _ = _
    rw [zb_s2 ha hb]
    show (Except.ok (Instr.if_icmp .gt (Reader.signed 16 (a * 256 + b)), pc + 1 + 2 - pc) : Except DecodeError (Instr × Nat)) = _
    rw [show pc + 1 + 2 - pc = 3 by omega]
  · cases h
theorem zo_164 {cc : ByteArray} {pc n : Nat} {i : Instr} (hk : zb cc pc = some 164) (h : z_fs2 (cc.data.toList.drop pc) (fun v : Int => Instr.if_icmp .le v) = some (i, n)) : decode cc pc = .ok (i, n) := by
  unfold z_fs2 at h
  split at h
  · rename_i a b ha hb
    rw [z_h1_ok] at ha
    rw [z_h2_ok] at hb
    cases h
    show Except.bind (Except.bind ((Reader.u1 : Decoder Nat) cc pc) _) _ = _
    rw [zb_u1 hk]
    show Except.bind (Except.bind ((Reader.s2 : Decoder Int) cc (pc + 1)) _) _ = _
    rw [zb_s2 ha hb]
    show (Except.ok (Instr.if_icmp .le (Reader.signed 16 (a * 256 + b)), pc + 1 + 2 - pc) : Except DecodeError (Instr × Nat)) = _
    rw [show pc + 1 + 2 - pc = 3 by omega]
  · cases h
theorem zo_167 {cc : ByteArray} {pc n : Nat} {i : Instr} (hk : zb cc pc = some 167) (h : z_fs2 (cc.data.toList.drop pc) (fun v : Int => Instr.goto v) = some (i, n)) : decode cc pc = .ok (i, n) := by
  unfold z_fs2 at h
  split at h
  · rename_i a b ha hb
    rw [z_h1_ok] at ha
    rw [z_h2_ok] at hb
    cases h
    show Except.bind (Except.bind ((Reader.u1 : Decoder Nat) cc pc) _) _ = _
    rw [zb_u1 hk]
    show Except.bind (Except.bind ((Reader.s2 : Decoder Int) cc (pc + 1)) _) _ = _
    rw [zb_s2 ha hb]
    show (Except.ok (Instr.goto (Reader.signed 16 (a * 256 + b)), pc + 1 + 2 - pc) : Except DecodeError (Instr × Nat)) = _
    rw [show pc + 1 + 2 - pc = 3 by omega]
  · cases h
theorem zo_172 {cc : ByteArray} {pc n : Nat} {i : Instr} (hk : zb cc pc = some 172) (h : some (Instr.ireturn, 1) = some (i, n)) : decode cc pc = .ok (i, n) := by
  cases h
  show Except.bind (Except.bind ((Reader.u1 : Decoder Nat) cc pc) _) _ = _
  rw [zb_u1 hk]
  show (Except.ok (Instr.ireturn, pc + 1 - pc) : Except DecodeError (Instr × Nat)) = _
  rw [Nat.add_sub_cancel_left]
theorem zo_173 {cc : ByteArray} {pc n : Nat} {i : Instr} (hk : zb cc pc = some 173) (h : some (Instr.lreturn, 1) = some (i, n)) : decode cc pc = .ok (i, n) := by
  cases h
  show Except.bind (Except.bind ((Reader.u1 : Decoder Nat) cc pc) _) _ = _
  rw [zb_u1 hk]
  show (Except.ok (Instr.lreturn, pc + 1 - pc) : Except DecodeError (Instr × Nat)) = _
  rw [Nat.add_sub_cancel_left]
theorem zo_177 {cc : ByteArray} {pc n : Nat} {i : Instr} (hk : zb cc pc = some 177) (h : some (Instr.return_, 1) = some (i, n)) : decode cc pc = .ok (i, n) := by
  cases h
  show Except.bind (Except.bind ((Reader.u1 : Decoder Nat) cc pc) _) _ = _
  rw [zb_u1 hk]
  show (Except.ok (Instr.return_, pc + 1 - pc) : Except DecodeError (Instr × Nat)) = _
  rw [Nat.add_sub_cancel_left]
theorem zo_180 {cc : ByteArray} {pc n : Nat} {i : Instr} (hk : zb cc pc = some 180) (h : z_fu2 (cc.data.toList.drop pc) (fun v : Nat => Instr.getfield v) = some (i, n)) : decode cc pc = .ok (i, n) := by
  unfold z_fu2 at h
  split at h
  · rename_i a b ha hb
    rw [z_h1_ok] at ha
    rw [z_h2_ok] at hb
    cases h
    show Except.bind (Except.bind ((Reader.u1 : Decoder Nat) cc pc) _) _ = _
    rw [zb_u1 hk]
    show Except.bind (Except.bind ((Reader.u2 : Decoder Nat) cc (pc + 1)) _) _ = _
    rw [zb_u2 ha hb]
    show (Except.ok (Instr.getfield (a * 256 + b), pc + 1 + 2 - pc) : Except DecodeError (Instr × Nat)) = _
    rw [show pc + 1 + 2 - pc = 3 by omega]
  · cases h
theorem zo_181 {cc : ByteArray} {pc n : Nat} {i : Instr} (hk : zb cc pc = some 181) (h : z_fu2 (cc.data.toList.drop pc) (fun v : Nat => Instr.putfield v) = some (i, n)) : decode cc pc = .ok (i, n) := by
  unfold z_fu2 at h
  split at h
  · rename_i a b ha hb
    rw [z_h1_ok] at ha
    rw [z_h2_ok] at hb
    cases h
    show Except.bind (Except.bind ((Reader.u1 : Decoder Nat) cc pc) _) _ = _
    rw [zb_u1 hk]
    show Except.bind (Except.bind ((Reader.u2 : Decoder Nat) cc (pc + 1)) _) _ = _
    rw [zb_u2 ha hb]
    show (Except.ok (Instr.putfield (a * 256 + b), pc + 1 + 2 - pc) : Except DecodeError (Instr × Nat)) = _
    rw [show pc + 1 + 2 - pc = 3 by omega]
  · cases h
theorem zo_182 {cc : ByteArray} {pc n : Nat} {i : Instr} (hk : zb cc pc = some 182) (h : z_fu2 (cc.data.toList.drop pc) (fun v : Nat => Instr.invokevirtual v) = some (i, n)) : decode cc pc = .ok (i, n) := by
  unfold z_fu2 at h
  split at h
  · rename_i a b ha hb
    rw [z_h1_ok] at ha
    rw [z_h2_ok] at hb
    cases h
    show Except.bind (Except.bind ((Reader.u1 : Decoder Nat) cc pc) _) _ = _
    rw [zb_u1 hk]
    show Except.bind (Except.bind ((Reader.u2 : Decoder Nat) cc (pc + 1)) _) _ = _
    rw [zb_u2 ha hb]
    show (Except.ok (Instr.invokevirtual (a * 256 + b), pc + 1 + 2 - pc) : Except DecodeError (Instr × Nat)) = _
    rw [show pc + 1 + 2 - pc = 3 by omega]
  · cases h
theorem zo_183 {cc : ByteArray} {pc n : Nat} {i : Instr} (hk : zb cc pc = some 183) (h : z_fu2 (cc.data.toList.drop pc) (fun v : Nat => Instr.invokespecial v) = some (i, n)) : decode cc pc = .ok (i, n) := by
  unfold z_fu2 at h
  split at h
  · rename_i a b ha hb
    rw [z_h1_ok] at ha
    rw [z_h2_ok] at hb
    cases h
    show Except.bind (Except.bind ((Reader.u1 : Decoder Nat) cc pc) _) _ = _
    rw [zb_u1 hk]
    show Except.bind (Except.bind ((Reader.u2 : Decoder Nat) cc (pc + 1)) _) _ = _
    rw [zb_u2 ha hb]
    show (Except.ok (Instr.invokespecial (a * 256 + b), pc + 1 + 2 - pc) : Except DecodeError (Instr × Nat)) = _
    rw [show pc + 1 + 2 - pc = 3 by omega]
  · cases h
theorem zo_184 {cc : ByteArray} {pc n : Nat} {i : Instr} (hk : zb cc pc = some 184) (h : z_fu2 (cc.data.toList.drop pc) (fun v : Nat => Instr.invokestatic v) = some (i, n)) : decode cc pc = .ok (i, n) := by
  unfold z_fu2 at h
  split at h
  · rename_i a b ha hb
    rw [z_h1_ok] at ha
    rw [z_h2_ok] at hb
    cases h
    show Except.bind (Except.bind ((Reader.u1 : Decoder Nat) cc pc) _) _ = _
    rw [zb_u1 hk]
    show Except.bind (Except.bind ((Reader.u2 : Decoder Nat) cc (pc + 1)) _) _ = _
    rw [zb_u2 ha hb]
    show (Except.ok (Instr.invokestatic (a * 256 + b), pc + 1 + 2 - pc) : Except DecodeError (Instr × Nat)) = _
    rw [show pc + 1 + 2 - pc = 3 by omega]
  · cases h
theorem zo_187 {cc : ByteArray} {pc n : Nat} {i : Instr} (hk : zb cc pc = some 187) (h : z_fu2 (cc.data.toList.drop pc) (fun v : Nat => Instr.new v) = some (i, n)) : decode cc pc = .ok (i, n) := by
  unfold z_fu2 at h
  split at h
  · rename_i a b ha hb
    rw [z_h1_ok] at ha
    rw [z_h2_ok] at hb
    cases h
    show Except.bind (Except.bind ((Reader.u1 : Decoder Nat) cc pc) _) _ = _
    rw [zb_u1 hk]
    show Except.bind (Except.bind ((Reader.u2 : Decoder Nat) cc (pc + 1)) _) _ = _
    rw [zb_u2 ha hb]
    show (Except.ok (Instr.new (a * 256 + b), pc + 1 + 2 - pc) : Except DecodeError (Instr × Nat)) = _
    rw [show pc + 1 + 2 - pc = 3 by omega]
  · cases h
theorem zo_190 {cc : ByteArray} {pc n : Nat} {i : Instr} (hk : zb cc pc = some 190) (h : some (Instr.arraylength, 1) = some (i, n)) : decode cc pc = .ok (i, n) := by
  cases h
  show Except.bind (Except.bind ((Reader.u1 : Decoder Nat) cc pc) _) _ = _
  rw [zb_u1 hk]
  show (Except.ok (Instr.arraylength, pc + 1 - pc) : Except DecodeError (Instr × Nat)) = _
  rw [Nat.add_sub_cancel_left]
def z_fo (l : List UInt8) (k : Nat) : Option (Instr × Nat) := (bif Nat.ble k 87 then (bif Nat.ble k 33 then (bif Nat.ble k 18 then (bif Nat.ble k 7 then (bif Nat.ble k 4 then (bif Nat.ble k 2 then (bif Nat.beq k 2 then some (Instr.iconst (-1), 1) else none) else (bif Nat.ble k 3 then (bif Nat.beq k 3 then some (Instr.iconst 0, 1) else none) else (bif Nat.beq k 4 then some (Instr.iconst 1, 1) else none))) else (bif Nat.ble k 5 then (bif Nat.beq k 5 then some (Instr.iconst 2, 1) else none) else (bif Nat.ble k 6 then (bif Nat.beq k 6 then some (Instr.iconst 3, 1) else none) else (bif Nat.beq k 7 then some (Instr.iconst 4, 1) else none)))) else (bif Nat.ble k 10 then (bif Nat.ble k 8 then (bif Nat.beq k 8 then some (Instr.iconst 5, 1) else none) else (bif Nat.ble k 9 then (bif Nat.beq k 9 then some (Instr.lconst 0, 1) else none) else (bif Nat.beq k 10 then some (Instr.lconst 1, 1) else none))) else (bif Nat.ble k 16 then (bif Nat.beq k 16 then z_fs1 l (fun v : Int => Instr.bipush v) else none) else (bif Nat.ble k 17 then (bif Nat.beq k 17 then z_fs2 l (fun v : Int => Instr.sipush v) else none) else (bif Nat.beq k 18 then z_fu1 l (fun v : Nat => Instr.ldc v) else none))))) else (bif Nat.ble k 27 then (bif Nat.ble k 21 then (bif Nat.ble k 19 then (bif Nat.beq k 19 then z_fu2 l (fun v : Nat => Instr.ldc_w v) else none) else (bif Nat.ble k 20 then (bif Nat.beq k 20 then z_fu2 l (fun v : Nat => Instr.ldc2_w v) else none) else (bif Nat.beq k 21 then z_fu1 l (fun v : Nat => Instr.iload v) else none))) else (bif Nat.ble k 22 then (bif Nat.beq k 22 then z_fu1 l (fun v : Nat => Instr.lload v) else none) else (bif Nat.ble k 26 then (bif Nat.beq k 26 then some (Instr.iload_n 0, 1) else none) else (bif Nat.beq k 27 then some (Instr.iload_n 1, 1) else none)))) else (bif Nat.ble k 30 then (bif Nat.ble k 28 then (bif Nat.beq k 28 then some (Instr.iload_n 2, 1) else none) else (bif Nat.ble k 29 then (bif Nat.beq k 29 then some (Instr.iload_n 3, 1) else none) else (bif Nat.beq k 30 then some (Instr.lload_n 0, 1) else none))) else (bif Nat.ble k 31 then (bif Nat.beq k 31 then some (Instr.lload_n 1, 1) else none) else (bif Nat.ble k 32 then (bif Nat.beq k 32 then some (Instr.lload_n 2, 1) else none) else (bif Nat.beq k 33 then some (Instr.lload_n 3, 1) else none)))))) else (bif Nat.ble k 61 then (bif Nat.ble k 47 then (bif Nat.ble k 44 then (bif Nat.ble k 42 then (bif Nat.beq k 42 then some (Instr.aload_n 0, 1) else none) else (bif Nat.ble k 43 then (bif Nat.beq k 43 then some (Instr.aload_n 1, 1) else none) else (bif Nat.beq k 44 then some (Instr.aload_n 2, 1) else none))) else (bif Nat.ble k 45 then (bif Nat.beq k 45 then some (Instr.aload_n 3, 1) else none) else (bif Nat.ble k 46 then (bif Nat.beq k 46 then some (Instr.iaload, 1) else none) else (bif Nat.beq k 47 then some (Instr.laload, 1) else none)))) else (bif Nat.ble k 55 then (bif Nat.ble k 51 then (bif Nat.beq k 51 then some (Instr.baload, 1) else none) else (bif Nat.ble k 54 then (bif Nat.beq k 54 then z_fu1 l (fun v : Nat => Instr.istore v) else none) else (bif Nat.beq k 55 then z_fu1 l (fun v : Nat => Instr.lstore v) else none))) else (bif Nat.ble k 59 then (bif Nat.beq k 59 then some (Instr.istore_n 0, 1) else none) else (bif Nat.ble k 60 then (bif Nat.beq k 60 then some (Instr.istore_n 1, 1) else none) else (bif Nat.beq k 61 then some (Instr.istore_n 2, 1) else none))))) else (bif Nat.ble k 75 then (bif Nat.ble k 64 then (bif Nat.ble k 62 then (bif Nat.beq k 62 then some (Instr.istore_n 3, 1) else none) else (bif Nat.ble k 63 then (bif Nat.beq k 63 then some (Instr.lstore_n 0, 1) else none) else (bif Nat.beq k 64 then some (Instr.lstore_n 1, 1) else none))) else (bif Nat.ble k 65 then (bif Nat.beq k 65 then some (Instr.lstore_n 2, 1) else none) else (bif Nat.ble k 66 then (bif Nat.beq k 66 then some (Instr.lstore_n 3, 1) else none) else (bif Nat.beq k 75 then some (Instr.astore_n 0, 1) else none)))) else (bif Nat.ble k 78 then (bif Nat.ble k 76 then (bif Nat.beq k 76 then some (Instr.astore_n 1, 1) else none) else (bif Nat.ble k 77 then (bif Nat.beq k 77 then some (Instr.astore_n 2, 1) else none) else (bif Nat.beq k 78 then some (Instr.astore_n 3, 1) else none))) else (bif Nat.ble k 80 then (bif Nat.ble k 79 then (bif Nat.beq k 79 then some (Instr.iastore, 1) else none) else (bif Nat.beq k 80 then some (Instr.lastore, 1) else none)) else (bif Nat.ble k 84 then (bif Nat.beq k 84 then some (Instr.bastore, 1) else none) else (bif Nat.beq k 87 then some (Instr.pop, 1) else none))))))) else (bif Nat.ble k 133 then (bif Nat.ble k 112 then (bif Nat.ble k 100 then (bif Nat.ble k 92 then (bif Nat.ble k 88 then (bif Nat.beq k 88 then some (Instr.pop2, 1) else none) else (bif Nat.ble k 89 then (bif Nat.beq k 89 then some (Instr.dup, 1) else none) else (bif Nat.beq k 92 then some (Instr.dup2, 1) else none))) else (bif Nat.ble k 96 then (bif Nat.beq k 96 then some (Instr.iadd, 1) else none) else (bif Nat.ble k 97 then (bif Nat.beq k 97 then some (Instr.ladd, 1) else none) else (bif Nat.beq k 100 then some (Instr.isub, 1) else none)))) else (bif Nat.ble k 105 then (bif Nat.ble k 101 then (bif Nat.beq k 101 then some (Instr.lsub, 1) else none) else (bif Nat.ble k 104 then (bif Nat.beq k 104 then some (Instr.imul, 1) else none) else (bif Nat.beq k 105 then some (Instr.lmul, 1) else none))) else (bif Nat.ble k 108 then (bif Nat.beq k 108 then some (Instr.idiv, 1) else none) else (bif Nat.ble k 109 then (bif Nat.beq k 109 then some (Instr.ldiv, 1) else none) else (bif Nat.beq k 112 then some (Instr.irem, 1) else none))))) else (bif Nat.ble k 124 then (bif Nat.ble k 120 then (bif Nat.ble k 113 then (bif Nat.beq k 113 then some (Instr.lrem, 1) else none) else (bif Nat.ble k 116 then (bif Nat.beq k 116 then some (Instr.ineg, 1) else none) else (bif Nat.beq k 120 then some (Instr.ishl, 1) else none))) else (bif Nat.ble k 121 then (bif Nat.beq k 121 then some (Instr.lshl, 1) else none) else (bif Nat.ble k 122 then (bif Nat.beq k 122 then some (Instr.ishr, 1) else none) else (bif Nat.beq k 124 then some (Instr.iushr, 1) else none)))) else (bif Nat.ble k 128 then (bif Nat.ble k 126 then (bif Nat.beq k 126 then some (Instr.iand, 1) else none) else (bif Nat.ble k 127 then (bif Nat.beq k 127 then some (Instr.land, 1) else none) else (bif Nat.beq k 128 then some (Instr.ior, 1) else none))) else (bif Nat.ble k 130 then (bif Nat.ble k 129 then (bif Nat.beq k 129 then some (Instr.lor, 1) else none) else (bif Nat.beq k 130 then some (Instr.ixor, 1) else none)) else (bif Nat.ble k 132 then (bif Nat.beq k 132 then z_fus l (fun (u : Nat) (v : Int) => Instr.iinc u v) else none) else (bif Nat.beq k 133 then some (Instr.i2l, 1) else none)))))) else (bif Nat.ble k 162 then (bif Nat.ble k 156 then (bif Nat.ble k 153 then (bif Nat.ble k 136 then (bif Nat.beq k 136 then some (Instr.l2i, 1) else none) else (bif Nat.ble k 148 then (bif Nat.beq k 148 then some (Instr.lcmp, 1) else none) else (bif Nat.beq k 153 then z_fs2 l (fun v : Int => Instr.ifCond .eq v) else none))) else (bif Nat.ble k 154 then (bif Nat.beq k 154 then z_fs2 l (fun v : Int => Instr.ifCond .ne v) else none) else (bif Nat.ble k 155 then (bif Nat.beq k 155 then z_fs2 l (fun v : Int => Instr.ifCond .lt v) else none) else (bif Nat.beq k 156 then z_fs2 l (fun v : Int => Instr.ifCond .ge v) else none)))) else (bif Nat.ble k 159 then (bif Nat.ble k 157 then (bif Nat.beq k 157 then z_fs2 l (fun v : Int => Instr.ifCond .gt v) else none) else (bif Nat.ble k 158 then (bif Nat.beq k 158 then z_fs2 l (fun v : Int => Instr.ifCond .le v) else none) else (bif Nat.beq k 159 then z_fs2 l (fun v : Int => Instr.if_icmp .eq v) else none))) else (bif Nat.ble k 160 then (bif Nat.beq k 160 then z_fs2 l (fun v : Int => Instr.if_icmp .ne v) else none) else (bif Nat.ble k 161 then (bif Nat.beq k 161 then z_fs2 l (fun v : Int => Instr.if_icmp .lt v) else none) else (bif Nat.beq k 162 then z_fs2 l (fun v : Int => Instr.if_icmp .ge v) else none))))) else (bif Nat.ble k 177 then (bif Nat.ble k 167 then (bif Nat.ble k 163 then (bif Nat.beq k 163 then z_fs2 l (fun v : Int => Instr.if_icmp .gt v) else none) else (bif Nat.ble k 164 then (bif Nat.beq k 164 then z_fs2 l (fun v : Int => Instr.if_icmp .le v) else none) else (bif Nat.beq k 167 then z_fs2 l (fun v : Int => Instr.goto v) else none))) else (bif Nat.ble k 172 then (bif Nat.beq k 172 then some (Instr.ireturn, 1) else none) else (bif Nat.ble k 173 then (bif Nat.beq k 173 then some (Instr.lreturn, 1) else none) else (bif Nat.beq k 177 then some (Instr.return_, 1) else none)))) else (bif Nat.ble k 182 then (bif Nat.ble k 180 then (bif Nat.beq k 180 then z_fu2 l (fun v : Nat => Instr.getfield v) else none) else (bif Nat.ble k 181 then (bif Nat.beq k 181 then z_fu2 l (fun v : Nat => Instr.putfield v) else none) else (bif Nat.beq k 182 then z_fu2 l (fun v : Nat => Instr.invokevirtual v) else none))) else (bif Nat.ble k 184 then (bif Nat.ble k 183 then (bif Nat.beq k 183 then z_fu2 l (fun v : Nat => Instr.invokespecial v) else none) else (bif Nat.beq k 184 then z_fu2 l (fun v : Nat => Instr.invokestatic v) else none)) else (bif Nat.ble k 187 then (bif Nat.beq k 187 then z_fu2 l (fun v : Nat => Instr.new v) else none) else (bif Nat.beq k 190 then some (Instr.arraylength, 1) else none))))))))
theorem z_fo_ok {cc : ByteArray} {pc k n : Nat} {i : Instr} (hk : zb cc pc = some k) (h : z_fo (cc.data.toList.drop pc) k = some (i, n)) : decode cc pc = .ok (i, n) := by
  unfold z_fo at h
  cases b0 : Nat.ble k 87 with
  | true =>
    rw [b0, cond_true] at h
    cases b1 : Nat.ble k 33 with
    | true =>
      rw [b1, cond_true] at h
      cases b2 : Nat.ble k 18 with
      | true =>
        rw [b2, cond_true] at h
        cases b3 : Nat.ble k 7 with
        | true =>
          rw [b3, cond_true] at h
          cases b4 : Nat.ble k 4 with
          | true =>
            rw [b4, cond_true] at h
            cases b5 : Nat.ble k 2 with
            | true =>
              rw [b5, cond_true] at h
              cases b6 : Nat.beq k 2 with
              | true => rw [b6, cond_true] at h; obtain rfl := Nat.eq_of_beq_eq_true b6; exact zo_2 hk h
              | false => rw [b6, cond_false] at h; cases h
            | false =>
              rw [b5, cond_false] at h
              cases b6 : Nat.ble k 3 with
              | true =>
                rw [b6, cond_true] at h
                cases b7 : Nat.beq k 3 with
                | true => rw [b7, cond_true] at h; obtain rfl := Nat.eq_of_beq_eq_true b7; exact zo_3 hk h
                | false => rw [b7, cond_false] at h; cases h
              | false =>
                rw [b6, cond_false] at h
                cases b7 : Nat.beq k 4 with
                | true => rw [b7, cond_true] at h; obtain rfl := Nat.eq_of_beq_eq_true b7; exact zo_4 hk h
                | false => rw [b7, cond_false] at h; cases h
          | false =>
            rw [b4, cond_false] at h
            cases b5 : Nat.ble k 5 with
            | true =>
              rw [b5, cond_true] at h
              cases b6 : Nat.beq k 5 with
              | true => rw [b6, cond_true] at h; obtain rfl := Nat.eq_of_beq_eq_true b6; exact zo_5 hk h
              | false => rw [b6, cond_false] at h; cases h
            | false =>
              rw [b5, cond_false] at h
              cases b6 : Nat.ble k 6 with
              | true =>
                rw [b6, cond_true] at h
                cases b7 : Nat.beq k 6 with
                | true => rw [b7, cond_true] at h; obtain rfl := Nat.eq_of_beq_eq_true b7; exact zo_6 hk h
                | false => rw [b7, cond_false] at h; cases h
              | false =>
                rw [b6, cond_false] at h
                cases b7 : Nat.beq k 7 with
                | true => rw [b7, cond_true] at h; obtain rfl := Nat.eq_of_beq_eq_true b7; exact zo_7 hk h
                | false => rw [b7, cond_false] at h; cases h
        | false =>
          rw [b3, cond_false] at h
          cases b4 : Nat.ble k 10 with
          | true =>
            rw [b4, cond_true] at h
            cases b5 : Nat.ble k 8 with
            | true =>
              rw [b5, cond_true] at h
              cases b6 : Nat.beq k 8 with
              | true => rw [b6, cond_true] at h; obtain rfl := Nat.eq_of_beq_eq_true b6; exact zo_8 hk h
              | false => rw [b6, cond_false] at h; cases h
            | false =>
              rw [b5, cond_false] at h
              cases b6 : Nat.ble k 9 with
              | true =>
                rw [b6, cond_true] at h
                cases b7 : Nat.beq k 9 with
                | true => rw [b7, cond_true] at h; obtain rfl := Nat.eq_of_beq_eq_true b7; exact zo_9 hk h
                | false => rw [b7, cond_false] at h; cases h
              | false =>
                rw [b6, cond_false] at h
                cases b7 : Nat.beq k 10 with
                | true => rw [b7, cond_true] at h; obtain rfl := Nat.eq_of_beq_eq_true b7; exact zo_10 hk h
                | false => rw [b7, cond_false] at h; cases h
          | false =>
            rw [b4, cond_false] at h
            cases b5 : Nat.ble k 16 with
            | true =>
              rw [b5, cond_true] at h
              cases b6 : Nat.beq k 16 with
              | true => rw [b6, cond_true] at h; obtain rfl := Nat.eq_of_beq_eq_true b6; exact zo_16 hk h
              | false => rw [b6, cond_false] at h; cases h
            | false =>
              rw [b5, cond_false] at h
              cases b6 : Nat.ble k 17 with
              | true =>
                rw [b6, cond_true] at h
                cases b7 : Nat.beq k 17 with
                | true => rw [b7, cond_true] at h; obtain rfl := Nat.eq_of_beq_eq_true b7; exact zo_17 hk h
                | false => rw [b7, cond_false] at h; cases h
              | false =>
                rw [b6, cond_false] at h
                cases b7 : Nat.beq k 18 with
                | true => rw [b7, cond_true] at h; obtain rfl := Nat.eq_of_beq_eq_true b7; exact zo_18 hk h
                | false => rw [b7, cond_false] at h; cases h
      | false =>
        rw [b2, cond_false] at h
        cases b3 : Nat.ble k 27 with
        | true =>
          rw [b3, cond_true] at h
          cases b4 : Nat.ble k 21 with
          | true =>
            rw [b4, cond_true] at h
            cases b5 : Nat.ble k 19 with
            | true =>
              rw [b5, cond_true] at h
              cases b6 : Nat.beq k 19 with
              | true => rw [b6, cond_true] at h; obtain rfl := Nat.eq_of_beq_eq_true b6; exact zo_19 hk h
              | false => rw [b6, cond_false] at h; cases h
            | false =>
              rw [b5, cond_false] at h
              cases b6 : Nat.ble k 20 with
              | true =>
                rw [b6, cond_true] at h
                cases b7 : Nat.beq k 20 with
                | true => rw [b7, cond_true] at h; obtain rfl := Nat.eq_of_beq_eq_true b7; exact zo_20 hk h
                | false => rw [b7, cond_false] at h; cases h
              | false =>
                rw [b6, cond_false] at h
                cases b7 : Nat.beq k 21 with
                | true => rw [b7, cond_true] at h; obtain rfl := Nat.eq_of_beq_eq_true b7; exact zo_21 hk h
                | false => rw [b7, cond_false] at h; cases h
          | false =>
            rw [b4, cond_false] at h
            cases b5 : Nat.ble k 22 with
            | true =>
              rw [b5, cond_true] at h
              cases b6 : Nat.beq k 22 with
              | true => rw [b6, cond_true] at h; obtain rfl := Nat.eq_of_beq_eq_true b6; exact zo_22 hk h
              | false => rw [b6, cond_false] at h; cases h
            | false =>
              rw [b5, cond_false] at h
              cases b6 : Nat.ble k 26 with
              | true =>
                rw [b6, cond_true] at h
                cases b7 : Nat.beq k 26 with
                | true => rw [b7, cond_true] at h; obtain rfl := Nat.eq_of_beq_eq_true b7; exact zo_26 hk h
                | false => rw [b7, cond_false] at h; cases h
              | false =>
                rw [b6, cond_false] at h
                cases b7 : Nat.beq k 27 with
                | true => rw [b7, cond_true] at h; obtain rfl := Nat.eq_of_beq_eq_true b7; exact zo_27 hk h
                | false => rw [b7, cond_false] at h; cases h
        | false =>
          rw [b3, cond_false] at h
          cases b4 : Nat.ble k 30 with
          | true =>
            rw [b4, cond_true] at h
            cases b5 : Nat.ble k 28 with
            | true =>
              rw [b5, cond_true] at h
              cases b6 : Nat.beq k 28 with
              | true => rw [b6, cond_true] at h; obtain rfl := Nat.eq_of_beq_eq_true b6; exact zo_28 hk h
              | false => rw [b6, cond_false] at h; cases h
            | false =>
              rw [b5, cond_false] at h
              cases b6 : Nat.ble k 29 with
              | true =>
                rw [b6, cond_true] at h
                cases b7 : Nat.beq k 29 with
                | true => rw [b7, cond_true] at h; obtain rfl := Nat.eq_of_beq_eq_true b7; exact zo_29 hk h
                | false => rw [b7, cond_false] at h; cases h
              | false =>
                rw [b6, cond_false] at h
                cases b7 : Nat.beq k 30 with
                | true => rw [b7, cond_true] at h; obtain rfl := Nat.eq_of_beq_eq_true b7; exact zo_30 hk h
                | false => rw [b7, cond_false] at h; cases h
          | false =>
            rw [b4, cond_false] at h
            cases b5 : Nat.ble k 31 with
            | true =>
              rw [b5, cond_true] at h
              cases b6 : Nat.beq k 31 with
              | true => rw [b6, cond_true] at h; obtain rfl := Nat.eq_of_beq_eq_true b6; exact zo_31 hk h
              | false => rw [b6, cond_false] at h; cases h
            | false =>
              rw [b5, cond_false] at h
              cases b6 : Nat.ble k 32 with
              | true =>
                rw [b6, cond_true] at h
                cases b7 : Nat.beq k 32 with
                | true => rw [b7, cond_true] at h; obtain rfl := Nat.eq_of_beq_eq_true b7; exact zo_32 hk h
                | false => rw [b7, cond_false] at h; cases h
              | false =>
                rw [b6, cond_false] at h
                cases b7 : Nat.beq k 33 with
                | true => rw [b7, cond_true] at h; obtain rfl := Nat.eq_of_beq_eq_true b7; exact zo_33 hk h
                | false => rw [b7, cond_false] at h; cases h
    | false =>
      rw [b1, cond_false] at h
      cases b2 : Nat.ble k 61 with
      | true =>
        rw [b2, cond_true] at h
        cases b3 : Nat.ble k 47 with
        | true =>
          rw [b3, cond_true] at h
          cases b4 : Nat.ble k 44 with
          | true =>
            rw [b4, cond_true] at h
            cases b5 : Nat.ble k 42 with
            | true =>
              rw [b5, cond_true] at h
              cases b6 : Nat.beq k 42 with
              | true => rw [b6, cond_true] at h; obtain rfl := Nat.eq_of_beq_eq_true b6; exact zo_42 hk h
              | false => rw [b6, cond_false] at h; cases h
            | false =>
              rw [b5, cond_false] at h
              cases b6 : Nat.ble k 43 with
              | true =>
                rw [b6, cond_true] at h
                cases b7 : Nat.beq k 43 with
                | true => rw [b7, cond_true] at h; obtain rfl := Nat.eq_of_beq_eq_true b7; exact zo_43 hk h
                | false => rw [b7, cond_false] at h; cases h
              | false =>
                rw [b6, cond_false] at h
                cases b7 : Nat.beq k 44 with
                | true => rw [b7, cond_true] at h; obtain rfl := Nat.eq_of_beq_eq_true b7; exact zo_44 hk h
                | false => rw [b7, cond_false] at h; cases h
          | false =>
            rw [b4, cond_false] at h
            cases b5 : Nat.ble k 45 with
            | true =>
              rw [b5, cond_true] at h
              cases b6 : Nat.beq k 45 with
              | true => rw [b6, cond_true] at h; obtain rfl := Nat.eq_of_beq_eq_true b6; exact zo_45 hk h
              | false => rw [b6, cond_false] at h; cases h
            | false =>
              rw [b5, cond_false] at h
              cases b6 : Nat.ble k 46 with
              | true =>
                rw [b6, cond_true] at h
                cases b7 : Nat.beq k 46 with
                | true => rw [b7, cond_true] at h; obtain rfl := Nat.eq_of_beq_eq_true b7; exact zo_46 hk h
                | false => rw [b7, cond_false] at h; cases h
              | false =>
                rw [b6, cond_false] at h
                cases b7 : Nat.beq k 47 with
                | true => rw [b7, cond_true] at h; obtain rfl := Nat.eq_of_beq_eq_true b7; exact zo_47 hk h
                | false => rw [b7, cond_false] at h; cases h
        | false =>
          rw [b3, cond_false] at h
          cases b4 : Nat.ble k 55 with
          | true =>
            rw [b4, cond_true] at h
            cases b5 : Nat.ble k 51 with
            | true =>
              rw [b5, cond_true] at h
              cases b6 : Nat.beq k 51 with
              | true => rw [b6, cond_true] at h; obtain rfl := Nat.eq_of_beq_eq_true b6; exact zo_51 hk h
              | false => rw [b6, cond_false] at h; cases h
            | false =>
              rw [b5, cond_false] at h
              cases b6 : Nat.ble k 54 with
              | true =>
                rw [b6, cond_true] at h
                cases b7 : Nat.beq k 54 with
                | true => rw [b7, cond_true] at h; obtain rfl := Nat.eq_of_beq_eq_true b7; exact zo_54 hk h
                | false => rw [b7, cond_false] at h; cases h
              | false =>
                rw [b6, cond_false] at h
                cases b7 : Nat.beq k 55 with
                | true => rw [b7, cond_true] at h; obtain rfl := Nat.eq_of_beq_eq_true b7; exact zo_55 hk h
                | false => rw [b7, cond_false] at h; cases h
          | false =>
            rw [b4, cond_false] at h
            cases b5 : Nat.ble k 59 with
            | true =>
              rw [b5, cond_true] at h
              cases b6 : Nat.beq k 59 with
              | true => rw [b6, cond_true] at h; obtain rfl := Nat.eq_of_beq_eq_true b6; exact zo_59 hk h
              | false => rw [b6, cond_false] at h; cases h
            | false =>
              rw [b5, cond_false] at h
              cases b6 : Nat.ble k 60 with
              | true =>
                rw [b6, cond_true] at h
                cases b7 : Nat.beq k 60 with
                | true => rw [b7, cond_true] at h; obtain rfl := Nat.eq_of_beq_eq_true b7; exact zo_60 hk h
                | false => rw [b7, cond_false] at h; cases h
              | false =>
                rw [b6, cond_false] at h
                cases b7 : Nat.beq k 61 with
                | true => rw [b7, cond_true] at h; obtain rfl := Nat.eq_of_beq_eq_true b7; exact zo_61 hk h
                | false => rw [b7, cond_false] at h; cases h
      | false =>
        rw [b2, cond_false] at h
        cases b3 : Nat.ble k 75 with
        | true =>
          rw [b3, cond_true] at h
          cases b4 : Nat.ble k 64 with
          | true =>
            rw [b4, cond_true] at h
            cases b5 : Nat.ble k 62 with
            | true =>
              rw [b5, cond_true] at h
              cases b6 : Nat.beq k 62 with
              | true => rw [b6, cond_true] at h; obtain rfl := Nat.eq_of_beq_eq_true b6; exact zo_62 hk h
              | false => rw [b6, cond_false] at h; cases h
            | false =>
              rw [b5, cond_false] at h
              cases b6 : Nat.ble k 63 with
              | true =>
                rw [b6, cond_true] at h
                cases b7 : Nat.beq k 63 with
                | true => rw [b7, cond_true] at h; obtain rfl := Nat.eq_of_beq_eq_true b7; exact zo_63 hk h
                | false => rw [b7, cond_false] at h; cases h
              | false =>
                rw [b6, cond_false] at h
                cases b7 : Nat.beq k 64 with
                | true => rw [b7, cond_true] at h; obtain rfl := Nat.eq_of_beq_eq_true b7; exact zo_64 hk h
                | false => rw [b7, cond_false] at h; cases h
          | false =>
            rw [b4, cond_false] at h
            cases b5 : Nat.ble k 65 with
            | true =>
              rw [b5, cond_true] at h
              cases b6 : Nat.beq k 65 with
              | true => rw [b6, cond_true] at h; obtain rfl := Nat.eq_of_beq_eq_true b6; exact zo_65 hk h
              | false => rw [b6, cond_false] at h; cases h
            | false =>
              rw [b5, cond_false] at h
              cases b6 : Nat.ble k 66 with
              | true =>
                rw [b6, cond_true] at h
                cases b7 : Nat.beq k 66 with
                | true => rw [b7, cond_true] at h; obtain rfl := Nat.eq_of_beq_eq_true b7; exact zo_66 hk h
                | false => rw [b7, cond_false] at h; cases h
              | false =>
                rw [b6, cond_false] at h
                cases b7 : Nat.beq k 75 with
                | true => rw [b7, cond_true] at h; obtain rfl := Nat.eq_of_beq_eq_true b7; exact zo_75 hk h
                | false => rw [b7, cond_false] at h; cases h
        | false =>
          rw [b3, cond_false] at h
          cases b4 : Nat.ble k 78 with
          | true =>
            rw [b4, cond_true] at h
            cases b5 : Nat.ble k 76 with
            | true =>
              rw [b5, cond_true] at h
              cases b6 : Nat.beq k 76 with
              | true => rw [b6, cond_true] at h; obtain rfl := Nat.eq_of_beq_eq_true b6; exact zo_76 hk h
              | false => rw [b6, cond_false] at h; cases h
            | false =>
              rw [b5, cond_false] at h
              cases b6 : Nat.ble k 77 with
              | true =>
                rw [b6, cond_true] at h
                cases b7 : Nat.beq k 77 with
                | true => rw [b7, cond_true] at h; obtain rfl := Nat.eq_of_beq_eq_true b7; exact zo_77 hk h
                | false => rw [b7, cond_false] at h; cases h
              | false =>
                rw [b6, cond_false] at h
                cases b7 : Nat.beq k 78 with
                | true => rw [b7, cond_true] at h; obtain rfl := Nat.eq_of_beq_eq_true b7; exact zo_78 hk h
                | false => rw [b7, cond_false] at h; cases h
          | false =>
            rw [b4, cond_false] at h
            cases b5 : Nat.ble k 80 with
            | true =>
              rw [b5, cond_true] at h
              cases b6 : Nat.ble k 79 with
              | true =>
                rw [b6, cond_true] at h
                cases b7 : Nat.beq k 79 with
                | true => rw [b7, cond_true] at h; obtain rfl := Nat.eq_of_beq_eq_true b7; exact zo_79 hk h
                | false => rw [b7, cond_false] at h; cases h
              | false =>
                rw [b6, cond_false] at h
                cases b7 : Nat.beq k 80 with
                | true => rw [b7, cond_true] at h; obtain rfl := Nat.eq_of_beq_eq_true b7; exact zo_80 hk h
                | false => rw [b7, cond_false] at h; cases h
            | false =>
              rw [b5, cond_false] at h
              cases b6 : Nat.ble k 84 with
              | true =>
                rw [b6, cond_true] at h
                cases b7 : Nat.beq k 84 with
                | true => rw [b7, cond_true] at h; obtain rfl := Nat.eq_of_beq_eq_true b7; exact zo_84 hk h
                | false => rw [b7, cond_false] at h; cases h
              | false =>
                rw [b6, cond_false] at h
                cases b7 : Nat.beq k 87 with
                | true => rw [b7, cond_true] at h; obtain rfl := Nat.eq_of_beq_eq_true b7; exact zo_87 hk h
                | false => rw [b7, cond_false] at h; cases h
  | false =>
    rw [b0, cond_false] at h
    cases b1 : Nat.ble k 133 with
    | true =>
      rw [b1, cond_true] at h
      cases b2 : Nat.ble k 112 with
      | true =>
        rw [b2, cond_true] at h
        cases b3 : Nat.ble k 100 with
        | true =>
          rw [b3, cond_true] at h
          cases b4 : Nat.ble k 92 with
          | true =>
            rw [b4, cond_true] at h
            cases b5 : Nat.ble k 88 with
            | true =>
              rw [b5, cond_true] at h
              cases b6 : Nat.beq k 88 with
              | true => rw [b6, cond_true] at h; obtain rfl := Nat.eq_of_beq_eq_true b6; exact zo_88 hk h
              | false => rw [b6, cond_false] at h; cases h
            | false =>
              rw [b5, cond_false] at h
              cases b6 : Nat.ble k 89 with
              | true =>
                rw [b6, cond_true] at h
                cases b7 : Nat.beq k 89 with
                | true => rw [b7, cond_true] at h; obtain rfl := Nat.eq_of_beq_eq_true b7; exact zo_89 hk h
                | false => rw [b7, cond_false] at h; cases h
              | false =>
                rw [b6, cond_false] at h
                cases b7 : Nat.beq k 92 with
                | true => rw [b7, cond_true] at h; obtain rfl := Nat.eq_of_beq_eq_true b7; exact zo_92 hk h
                | false => rw [b7, cond_false] at h; cases h
          | false =>
            rw [b4, cond_false] at h
            cases b5 : Nat.ble k 96 with
            | true =>
              rw [b5, cond_true] at h
              cases b6 : Nat.beq k 96 with
              | true => rw [b6, cond_true] at h; obtain rfl := Nat.eq_of_beq_eq_true b6; exact zo_96 hk h
              | false => rw [b6, cond_false] at h; cases h
            | false =>
              rw [b5, cond_false] at h
              cases b6 : Nat.ble k 97 with
              | true =>
                rw [b6, cond_true] at h
                cases b7 : Nat.beq k 97 with
                | true => rw [b7, cond_true] at h; obtain rfl := Nat.eq_of_beq_eq_true b7; exact zo_97 hk h
                | false => rw [b7, cond_false] at h; cases h
              | false =>
                rw [b6, cond_false] at h
                cases b7 : Nat.beq k 100 with
                | true => rw [b7, cond_true] at h; obtain rfl := Nat.eq_of_beq_eq_true b7; exact zo_100 hk h
                | false => rw [b7, cond_false] at h; cases h
        | false =>
          rw [b3, cond_false] at h
          cases b4 : Nat.ble k 105 with
          | true =>
            rw [b4, cond_true] at h
            cases b5 : Nat.ble k 101 with
            | true =>
              rw [b5, cond_true] at h
              cases b6 : Nat.beq k 101 with
              | true => rw [b6, cond_true] at h; obtain rfl := Nat.eq_of_beq_eq_true b6; exact zo_101 hk h
              | false => rw [b6, cond_false] at h; cases h
            | false =>
              rw [b5, cond_false] at h
              cases b6 : Nat.ble k 104 with
              | true =>
                rw [b6, cond_true] at h
                cases b7 : Nat.beq k 104 with
                | true => rw [b7, cond_true] at h; obtain rfl := Nat.eq_of_beq_eq_true b7; exact zo_104 hk h
                | false => rw [b7, cond_false] at h; cases h
              | false =>
                rw [b6, cond_false] at h
                cases b7 : Nat.beq k 105 with
                | true => rw [b7, cond_true] at h; obtain rfl := Nat.eq_of_beq_eq_true b7; exact zo_105 hk h
                | false => rw [b7, cond_false] at h; cases h
          | false =>
            rw [b4, cond_false] at h
            cases b5 : Nat.ble k 108 with
            | true =>
              rw [b5, cond_true] at h
              cases b6 : Nat.beq k 108 with
              | true => rw [b6, cond_true] at h; obtain rfl := Nat.eq_of_beq_eq_true b6; exact zo_108 hk h
              | false => rw [b6, cond_false] at h; cases h
            | false =>
              rw [b5, cond_false] at h
              cases b6 : Nat.ble k 109 with
              | true =>
                rw [b6, cond_true] at h
                cases b7 : Nat.beq k 109 with
                | true => rw [b7, cond_true] at h; obtain rfl := Nat.eq_of_beq_eq_true b7; exact zo_109 hk h
                | false => rw [b7, cond_false] at h; cases h
              | false =>
                rw [b6, cond_false] at h
                cases b7 : Nat.beq k 112 with
                | true => rw [b7, cond_true] at h; obtain rfl := Nat.eq_of_beq_eq_true b7; exact zo_112 hk h
                | false => rw [b7, cond_false] at h; cases h
      | false =>
        rw [b2, cond_false] at h
        cases b3 : Nat.ble k 124 with
        | true =>
          rw [b3, cond_true] at h
          cases b4 : Nat.ble k 120 with
          | true =>
            rw [b4, cond_true] at h
            cases b5 : Nat.ble k 113 with
            | true =>
              rw [b5, cond_true] at h
              cases b6 : Nat.beq k 113 with
              | true => rw [b6, cond_true] at h; obtain rfl := Nat.eq_of_beq_eq_true b6; exact zo_113 hk h
              | false => rw [b6, cond_false] at h; cases h
            | false =>
              rw [b5, cond_false] at h
              cases b6 : Nat.ble k 116 with
              | true =>
                rw [b6, cond_true] at h
                cases b7 : Nat.beq k 116 with
                | true => rw [b7, cond_true] at h; obtain rfl := Nat.eq_of_beq_eq_true b7; exact zo_116 hk h
                | false => rw [b7, cond_false] at h; cases h
              | false =>
                rw [b6, cond_false] at h
                cases b7 : Nat.beq k 120 with
                | true => rw [b7, cond_true] at h; obtain rfl := Nat.eq_of_beq_eq_true b7; exact zo_120 hk h
                | false => rw [b7, cond_false] at h; cases h
          | false =>
            rw [b4, cond_false] at h
            cases b5 : Nat.ble k 121 with
            | true =>
              rw [b5, cond_true] at h
              cases b6 : Nat.beq k 121 with
              | true => rw [b6, cond_true] at h; obtain rfl := Nat.eq_of_beq_eq_true b6; exact zo_121 hk h
              | false => rw [b6, cond_false] at h; cases h
            | false =>
              rw [b5, cond_false] at h
              cases b6 : Nat.ble k 122 with
              | true =>
                rw [b6, cond_true] at h
                cases b7 : Nat.beq k 122 with
                | true => rw [b7, cond_true] at h; obtain rfl := Nat.eq_of_beq_eq_true b7; exact zo_122 hk h
                | false => rw [b7, cond_false] at h; cases h
              | false =>
                rw [b6, cond_false] at h
                cases b7 : Nat.beq k 124 with
                | true => rw [b7, cond_true] at h; obtain rfl := Nat.eq_of_beq_eq_true b7; exact zo_124 hk h
                | false => rw [b7, cond_false] at h; cases h
        | false =>
          rw [b3, cond_false] at h
          cases b4 : Nat.ble k 128 with
          | true =>
            rw [b4, cond_true] at h
            cases b5 : Nat.ble k 126 with
            | true =>
              rw [b5, cond_true] at h
              cases b6 : Nat.beq k 126 with
              | true => rw [b6, cond_true] at h; obtain rfl := Nat.eq_of_beq_eq_true b6; exact zo_126 hk h
              | false => rw [b6, cond_false] at h; cases h
            | false =>
              rw [b5, cond_false] at h
              cases b6 : Nat.ble k 127 with
              | true =>
                rw [b6, cond_true] at h
                cases b7 : Nat.beq k 127 with
                | true => rw [b7, cond_true] at h; obtain rfl := Nat.eq_of_beq_eq_true b7; exact zo_127 hk h
                | false => rw [b7, cond_false] at h; cases h
              | false =>
                rw [b6, cond_false] at h
                cases b7 : Nat.beq k 128 with
                | true => rw [b7, cond_true] at h; obtain rfl := Nat.eq_of_beq_eq_true b7; exact zo_128 hk h
                | false => rw [b7, cond_false] at h; cases h
          | false =>
            rw [b4, cond_false] at h
            cases b5 : Nat.ble k 130 with
            | true =>
              rw [b5, cond_true] at h
              cases b6 : Nat.ble k 129 with
              | true =>
                rw [b6, cond_true] at h
                cases b7 : Nat.beq k 129 with
                | true => rw [b7, cond_true] at h; obtain rfl := Nat.eq_of_beq_eq_true b7; exact zo_129 hk h
                | false => rw [b7, cond_false] at h; cases h
              | false =>
                rw [b6, cond_false] at h
                cases b7 : Nat.beq k 130 with
                | true => rw [b7, cond_true] at h; obtain rfl := Nat.eq_of_beq_eq_true b7; exact zo_130 hk h
                | false => rw [b7, cond_false] at h; cases h
            | false =>
              rw [b5, cond_false] at h
              cases b6 : Nat.ble k 132 with
              | true =>
                rw [b6, cond_true] at h
                cases b7 : Nat.beq k 132 with
                | true => rw [b7, cond_true] at h; obtain rfl := Nat.eq_of_beq_eq_true b7; exact zo_132 hk h
                | false => rw [b7, cond_false] at h; cases h
              | false =>
                rw [b6, cond_false] at h
                cases b7 : Nat.beq k 133 with
                | true => rw [b7, cond_true] at h; obtain rfl := Nat.eq_of_beq_eq_true b7; exact zo_133 hk h
                | false => rw [b7, cond_false] at h; cases h
    | false =>
      rw [b1, cond_false] at h
      cases b2 : Nat.ble k 162 with
      | true =>
        rw [b2, cond_true] at h
        cases b3 : Nat.ble k 156 with
        | true =>
          rw [b3, cond_true] at h
          cases b4 : Nat.ble k 153 with
          | true =>
            rw [b4, cond_true] at h
            cases b5 : Nat.ble k 136 with
            | true =>
              rw [b5, cond_true] at h
              cases b6 : Nat.beq k 136 with
              | true => rw [b6, cond_true] at h; obtain rfl := Nat.eq_of_beq_eq_true b6; exact zo_136 hk h
              | false => rw [b6, cond_false] at h; cases h
            | false =>
              rw [b5, cond_false] at h
              cases b6 : Nat.ble k 148 with
              | true =>
                rw [b6, cond_true] at h
                cases b7 : Nat.beq k 148 with
                | true => rw [b7, cond_true] at h; obtain rfl := Nat.eq_of_beq_eq_true b7; exact zo_148 hk h
                | false => rw [b7, cond_false] at h; cases h
              | false =>
                rw [b6, cond_false] at h
                cases b7 : Nat.beq k 153 with
                | true => rw [b7, cond_true] at h; obtain rfl := Nat.eq_of_beq_eq_true b7; exact zo_153 hk h
                | false => rw [b7, cond_false] at h; cases h
          | false =>
            rw [b4, cond_false] at h
            cases b5 : Nat.ble k 154 with
            | true =>
              rw [b5, cond_true] at h
              cases b6 : Nat.beq k 154 with
              | true => rw [b6, cond_true] at h; obtain rfl := Nat.eq_of_beq_eq_true b6; exact zo_154 hk h
              | false => rw [b6, cond_false] at h; cases h
            | false =>
              rw [b5, cond_false] at h
              cases b6 : Nat.ble k 155 with
              | true =>
                rw [b6, cond_true] at h
                cases b7 : Nat.beq k 155 with
                | true => rw [b7, cond_true] at h; obtain rfl := Nat.eq_of_beq_eq_true b7; exact zo_155 hk h
                | false => rw [b7, cond_false] at h; cases h
              | false =>
                rw [b6, cond_false] at h
                cases b7 : Nat.beq k 156 with
                | true => rw [b7, cond_true] at h; obtain rfl := Nat.eq_of_beq_eq_true b7; exact zo_156 hk h
                | false => rw [b7, cond_false] at h; cases h
        | false =>
          rw [b3, cond_false] at h
          cases b4 : Nat.ble k 159 with
          | true =>
            rw [b4, cond_true] at h
            cases b5 : Nat.ble k 157 with
            | true =>
              rw [b5, cond_true] at h
              cases b6 : Nat.beq k 157 with
              | true => rw [b6, cond_true] at h; obtain rfl := Nat.eq_of_beq_eq_true b6; exact zo_157 hk h
              | false => rw [b6, cond_false] at h; cases h
            | false =>
              rw [b5, cond_false] at h
              cases b6 : Nat.ble k 158 with
              | true =>
                rw [b6, cond_true] at h
                cases b7 : Nat.beq k 158 with
                | true => rw [b7, cond_true] at h; obtain rfl := Nat.eq_of_beq_eq_true b7; exact zo_158 hk h
                | false => rw [b7, cond_false] at h; cases h
              | false =>
                rw [b6, cond_false] at h
                cases b7 : Nat.beq k 159 with
                | true => rw [b7, cond_true] at h; obtain rfl := Nat.eq_of_beq_eq_true b7; exact zo_159 hk h
                | false => rw [b7, cond_false] at h; cases h
          | false =>
            rw [b4, cond_false] at h
            cases b5 : Nat.ble k 160 with
            | true =>
              rw [b5, cond_true] at h
              cases b6 : Nat.beq k 160 with
              | true => rw [b6, cond_true] at h; obtain rfl := Nat.eq_of_beq_eq_true b6; exact zo_160 hk h
              | false => rw [b6, cond_false] at h; cases h
            | false =>
              rw [b5, cond_false] at h
              cases b6 : Nat.ble k 161 with
              | true =>
                rw [b6, cond_true] at h
                cases b7 : Nat.beq k 161 with
                | true => rw [b7, cond_true] at h; obtain rfl := Nat.eq_of_beq_eq_true b7; exact zo_161 hk h
                | false => rw [b7, cond_false] at h; cases h
              | false =>
                rw [b6, cond_false] at h
                cases b7 : Nat.beq k 162 with
                | true => rw [b7, cond_true] at h; obtain rfl := Nat.eq_of_beq_eq_true b7; exact zo_162 hk h
                | false => rw [b7, cond_false] at h; cases h
      | false =>
        rw [b2, cond_false] at h
        cases b3 : Nat.ble k 177 with
        | true =>
          rw [b3, cond_true] at h
          cases b4 : Nat.ble k 167 with
          | true =>
            rw [b4, cond_true] at h
            cases b5 : Nat.ble k 163 with
            | true =>
              rw [b5, cond_true] at h
              cases b6 : Nat.beq k 163 with
              | true => rw [b6, cond_true] at h; obtain rfl := Nat.eq_of_beq_eq_true b6; exact zo_163 hk h
              | false => rw [b6, cond_false] at h; cases h
            | false =>
              rw [b5, cond_false] at h
              cases b6 : Nat.ble k 164 with
              | true =>
                rw [b6, cond_true] at h
                cases b7 : Nat.beq k 164 with
                | true => rw [b7, cond_true] at h; obtain rfl := Nat.eq_of_beq_eq_true b7; exact zo_164 hk h
                | false => rw [b7, cond_false] at h; cases h
              | false =>
                rw [b6, cond_false] at h
                cases b7 : Nat.beq k 167 with
                | true => rw [b7, cond_true] at h; obtain rfl := Nat.eq_of_beq_eq_true b7; exact zo_167 hk h
                | false => rw [b7, cond_false] at h; cases h
          | false =>
            rw [b4, cond_false] at h
            cases b5 : Nat.ble k 172 with
            | true =>
              rw [b5, cond_true] at h
              cases b6 : Nat.beq k 172 with
              | true => rw [b6, cond_true] at h; obtain rfl := Nat.eq_of_beq_eq_true b6; exact zo_172 hk h
              | false => rw [b6, cond_false] at h; cases h
            | false =>
              rw [b5, cond_false] at h
              cases b6 : Nat.ble k 173 with
              | true =>
                rw [b6, cond_true] at h
                cases b7 : Nat.beq k 173 with
                | true => rw [b7, cond_true] at h; obtain rfl := Nat.eq_of_beq_eq_true b7; exact zo_173 hk h
                | false => rw [b7, cond_false] at h; cases h
              | false =>
                rw [b6, cond_false] at h
                cases b7 : Nat.beq k 177 with
                | true => rw [b7, cond_true] at h; obtain rfl := Nat.eq_of_beq_eq_true b7; exact zo_177 hk h
                | false => rw [b7, cond_false] at h; cases h
        | false =>
          rw [b3, cond_false] at h
          cases b4 : Nat.ble k 182 with
          | true =>
            rw [b4, cond_true] at h
            cases b5 : Nat.ble k 180 with
            | true =>
              rw [b5, cond_true] at h
              cases b6 : Nat.beq k 180 with
              | true => rw [b6, cond_true] at h; obtain rfl := Nat.eq_of_beq_eq_true b6; exact zo_180 hk h
              | false => rw [b6, cond_false] at h; cases h
            | false =>
              rw [b5, cond_false] at h
              cases b6 : Nat.ble k 181 with
              | true =>
                rw [b6, cond_true] at h
                cases b7 : Nat.beq k 181 with
                | true => rw [b7, cond_true] at h; obtain rfl := Nat.eq_of_beq_eq_true b7; exact zo_181 hk h
                | false => rw [b7, cond_false] at h; cases h
              | false =>
                rw [b6, cond_false] at h
                cases b7 : Nat.beq k 182 with
                | true => rw [b7, cond_true] at h; obtain rfl := Nat.eq_of_beq_eq_true b7; exact zo_182 hk h
                | false => rw [b7, cond_false] at h; cases h
          | false =>
            rw [b4, cond_false] at h
            cases b5 : Nat.ble k 184 with
            | true =>
              rw [b5, cond_true] at h
              cases b6 : Nat.ble k 183 with
              | true =>
                rw [b6, cond_true] at h
                cases b7 : Nat.beq k 183 with
                | true => rw [b7, cond_true] at h; obtain rfl := Nat.eq_of_beq_eq_true b7; exact zo_183 hk h
                | false => rw [b7, cond_false] at h; cases h
              | false =>
                rw [b6, cond_false] at h
                cases b7 : Nat.beq k 184 with
                | true => rw [b7, cond_true] at h; obtain rfl := Nat.eq_of_beq_eq_true b7; exact zo_184 hk h
                | false => rw [b7, cond_false] at h; cases h
            | false =>
              rw [b5, cond_false] at h
              cases b6 : Nat.ble k 187 with
              | true =>
                rw [b6, cond_true] at h
                cases b7 : Nat.beq k 187 with
                | true => rw [b7, cond_true] at h; obtain rfl := Nat.eq_of_beq_eq_true b7; exact zo_187 hk h
                | false => rw [b7, cond_false] at h; cases h
              | false =>
                rw [b6, cond_false] at h
                cases b7 : Nat.beq k 190 with
                | true => rw [b7, cond_true] at h; obtain rfl := Nat.eq_of_beq_eq_true b7; exact zo_190 hk h
                | false => rw [b7, cond_false] at h; cases h
def zq_d (l : List UInt8) : Option (Instr × Nat) := match z_h0 l with
  | some k => z_fo l k
  | none => none
theorem zq_d_ok {cc : ByteArray} {pc n : Nat} {i : Instr} (h : zq_d (cc.data.toList.drop pc) = some (i, n)) : decode cc pc = .ok (i, n) := by
  unfold zq_d at h
  split at h
  · rename_i k hk
    rw [z_h0_ok] at hk
    exact z_fo_ok hk h
  · cases h
def z_is (cc : ByteArray) (pc : Nat) (i : Instr) (n : Nat) : Bool := match zq_d (cc.data.toList.drop pc) with
  | some (j, k) => decide (j = i) && Nat.beq k n
  | none => false
theorem z_is_ok {cc : ByteArray} {pc n : Nat} {i : Instr} (h : z_is cc pc i n = true) : decode cc pc = .ok (i, n) := by
  unfold z_is at h
  split at h
  · rename_i j k hk
    rw [Bool.and_eq_true] at h
    have e1 : j = i := of_decide_eq_true h.1
    have e2 : k = n := Nat.eq_of_beq_eq_true h.2
    subst e1 e2
    exact zq_d_ok hk
  · cases h
