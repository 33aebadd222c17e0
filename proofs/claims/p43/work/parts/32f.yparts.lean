/-! the law's machine: the world's parts in another order -/
section YP
variable {ε : y_Ev} {κ : y_K} {q : z_M} {fr lo mc ms nc ns : Nat} {ws ws2 : va_W} {σ : z_S}
theorem y_perm (hp : ws2.Perm ws) (k : y_G ε κ q nc ns ws2 σ) : y_G ε κ q nc ns ws σ := by
  intro H locs ls hl hP hD hS
  refine k H locs ls hl (fun j r hj => ?_) ?_ hS
  · obtain ⟨i, hi⟩ := List.getElem?_of_mem (hp.mem_iff.mp (List.mem_of_getElem? hj))
    exact hP i r hi
  · obtain ⟨h1, h2⟩ := y_Dn.mp hD
    exact y_Dn.mpr ⟨(hp.map Prod.fst).nodup_iff.mpr h1, fun q hq => h2 q (hp.mem_iff.mp hq)⟩
/-- b comes to the front -/
theorem y_front (a b c : va_W) (k : y_G ε κ q nc ns (b ++ (a ++ c)) σ) : y_G ε κ q nc ns (a ++ (b ++ c)) σ := by
  refine y_perm ?_ k
  rw [← List.append_assoc, ← List.append_assoc]
  exact List.perm_append_comm.append_right c
/-- parts of the world, joined -/
def y_J : List va_W → va_W
  | [] => []
  | [a] => a
  | a :: b :: t => a ++ y_J (b :: t)
theorem y_J_eq : ∀ S : List va_W, y_J S = S.flatten
  | [] => rfl
  | [a] => by
    show a = a ++ []
    rw [List.append_nil]
  | a :: b :: t => by
    show a ++ y_J (b :: t) = a ++ (b :: t).flatten
    rw [y_J_eq (b :: t)]
/-- b comes to the front -/
theorem y_mv (l1 : List va_W) (b : va_W) (l2 : List va_W) (k : y_G ε κ q nc ns (y_J (b :: (l1 ++ l2))) σ) : y_G ε κ q nc ns (y_J (l1 ++ b :: l2)) σ := by
  refine y_perm ?_ k
  rw [y_J_eq, y_J_eq, List.flatten_cons, List.flatten_append, List.flatten_append, List.flatten_cons, ← List.append_assoc, ← List.append_assoc]
  exact List.perm_append_comm.append_right _
/-- b isn't needed any more -/
theorem y_drop (b c : va_W) (k : y_G ε κ q nc ns c σ) : y_G ε κ q nc ns (b ++ c) σ := fun H locs ls hl hP hD hS => k H locs ls hl (zl_Pr hP) (zl_Dr hD) hS
theorem y_spl (S1 S2 : List va_W) (k : y_G ε κ q nc ns (y_J S1 ++ y_J S2) σ) : y_G ε κ q nc ns (y_J (S1 ++ S2)) σ := by
  have e : y_J (S1 ++ S2) = y_J S1 ++ y_J S2 := by rw [y_J_eq, y_J_eq, y_J_eq, List.flatten_append]
  rw [e]
  exact k
theorem y_cmb (S1 S2 : List va_W) (k : y_G ε κ q nc ns (y_J (S1 ++ S2)) σ) : y_G ε κ q nc ns (y_J S1 ++ y_J S2) σ := by
  have e : y_J (S1 ++ S2) = y_J S1 ++ y_J S2 := by rw [y_J_eq, y_J_eq, y_J_eq, List.flatten_append]
  rw [← e]
  exact k
theorem y_drp (b : va_W) (S : List va_W) (k : y_G ε κ q nc ns (y_J S) σ) : y_G ε κ q nc ns (y_J (b :: S)) σ := by
  have e : y_J (b :: S) = b ++ y_J S := by rw [y_J_eq, y_J_eq, List.flatten_cons]
  rw [e]
  exact y_drop _ _ k
theorem y_drop0 {b : va_W} (k : y_G ε κ q nc ns [] σ) : y_G ε κ q nc ns b σ := fun H locs ls hl hP hD hS => k H locs ls hl (fun k q h => by simp at h) ⟨fun i j p q h => by simp at h, fun k q h => by simp at h⟩ hS
theorem y_eqw (ws2 : va_W) (h : ws = ws2) (k : y_G ε κ q nc ns ws2 σ) : y_G ε κ q nc ns ws σ := h ▸ k
/-- cells of the world are apart -/
theorem y_ne {a b : Nat} {i j : Nat} {x y : va_E} (h1 : ws[i]? = some (a, x)) (h2 : ws[j]? = some (b, y)) (hij : i ≠ j) (k : a ≠ b → y_G ε κ q nc ns ws σ) : y_G ε κ q nc ns ws σ := fun H locs ls hl hP hD hS => k (fun e => hij (hD.1 i j _ _ h1 h2 e)) H locs ls hl hP hD hS
end YP
theorem y_Tk (ε : y_Ev) : ∀ i, i < 13 → y_Tv ε (y_a ε i) (y_a ε (i + 20)) (fun j => (y_byt.getD i []).getD j 0) (y_bts i) [] := by
  intro i hi
  refine ⟨Or.inr ⟨rfl, i, hi, rfl, rfl, rfl, rfl⟩, ?_⟩
  have h : ∀ i, i < 13 → (∀ k, k < (y_bts i).length → (y_byt.getD i []).getD k 0 = nI ((y_bts i).getD k 0)) ∧ (∀ c ∈ y_bts i, c < 128) ∧ (y_bts i).length ≤ 200 := by decide +kernel
  exact h i hi
/-- a made String out of its cells -/
theorem y_Tm {ε : y_Ev} {a v : Nat} {f : Nat → Int32} {L : List Nat} {h z : Int32} (hf : ∀ k, k < L.length → f k = nI (L.getD k 0)) (hc : ∀ c ∈ L, c < 128) (hl : L.length ≤ 200) : y_Tv ε a v f L [(a, .inr (6, [.ref v, .int (nI 0), .int h, .int z])), (v, .inl (y_c ε 2, L.length, .inl f))] := ⟨Or.inl ⟨h, z, rfl⟩, hf, hc, hl⟩
/-- a StringBuilder's bytes -/
def y_Sb (L : List Nat) (m : Nat) (f : Nat → Int32) : Prop := L.length ≤ m ∧ m ≤ 202 ∧ (∀ k, k < L.length → f k = nI (L.getD k 0)) ∧ (∀ c ∈ L, c < 128) ∧ ∀ j, fits .byte (.int (f j)) = true
section YQ
variable {ε : y_Ev} {κ : y_K} {q : z_M} {fr lo mc ms nc ns : Nat} {ws : va_W} {pc : Nat} {lv : z_L} {st : List Value}
theorem y_null (hC : y_ok ε κ q fr lo mc ms) (hF : z_F q pc = some .aconst_null) (kk : y_G ε κ q nc ns ws (pc + 1, lv, .null :: st, [])) : y_G ε κ q nc ns ws (pc, lv, st, []) := by
  obtain ⟨hx, hb, hml, hts, hown, hK, hN, hE, hA, hR, hdec⟩ := id hC
  exact y_inW (fun H locs ls hl hP hD hS => lv_null hx hb (y_dcd hC hF) (y_outW kk hl hP hD hS))
theorem y_i2b_ : ∀ c, c < 128 → (nI c).toInt8.toInt32 = nI c := by decide +kernel
theorem y_i2c_ : ∀ c, c < 256 → ((nI c).toUInt32 % 65536).toInt32 = nI c := by decide +kernel
theorem y_and255 : ∀ c, c < 256 → nI c &&& nI 255 = nI c := by decide +kernel
theorem y_i2b {c : Nat} (hC : y_ok ε κ q fr lo mc ms) (hF : z_F q pc = some .i2b) (hc : c < 128) (k : y_G ε κ q nc ns ws (pc + 1, lv, .int (nI c) :: st, [])) : y_G ε κ q nc ns ws (pc, lv, .int (nI c) :: st, []) := by
  refine y_one hC (σ' := (pc + 1, lv, .int (nI c).toInt8.toInt32 :: st, [])) ?_ (by rw [y_i2b_ c hc]; exact k)
  simp only [y_stp, y_pure, cond_true, hF, z_ins]
theorem y_i2c {c : Nat} (hC : y_ok ε κ q fr lo mc ms) (hF : z_F q pc = some .i2c) (hc : c < 256) (k : y_G ε κ q nc ns ws (pc + 1, lv, .int (nI c) :: st, [])) : y_G ε κ q nc ns ws (pc, lv, .int (nI c) :: st, []) := by
  refine y_one hC (σ' := (pc + 1, lv, .int ((nI c).toUInt32 % 65536).toInt32 :: st, [])) ?_ (by rw [y_i2c_ c hc]; exact k)
  simp only [y_stp, y_pure, cond_true, hF, z_ins]
end YQ
theorem z_wordN_m {pos : Nat} {w : Cond} (h : lw_tbl[pos]? = some w) (g : z_isN w = true) : w ∈ z_NW := List.mem_filter.mpr ⟨List.mem_of_getElem? h, g⟩
theorem y_subLe {a b : Nat} (ha : a < 2 ^ 30) (hb : b < 2 ^ 30) : nI a - nI b ≤ 0 ↔ a ≤ b := by
  rw [Int32.le_iff_toInt_le, pk_sub_toInt (by omega) (by omega), Int32.toInt_zero]
  omega
theorem y_Tc {ε : y_Ev} {a v : Nat} {f : Nat → Int32} {L : List Nat} {B : va_W} (hT : y_Tv ε a v f L B) {i : Nat} (hi : i < L.length) : L.getD i 0 < 128 := by
  refine hT.2.2.1 _ ?_
  rw [List.getD_eq_getElem?_getD, List.getElem?_eq_getElem hi]
  exact List.getElem_mem hi
theorem y_cpyL {f g : Nat → Int32} {n k j : Nat} (h : j < k) : va_cpy f g 0 k n j = g j := pk_cpy_out (by omega)
theorem y_Sb_app {ε : y_Ev} {a v : Nat} {tf f f2 : Nat → Int32} {L T : List Nat} {B : va_W} {m m2 : Nat} (hS : y_Sb L m f) (hT : y_Tv ε a v tf T B) (hm : (L ++ T).length ≤ m2) (h2 : m2 ≤ 202) (hk : ∀ j, j < m → f2 j = f j) (hf : ∀ j, fits .byte (.int (f2 j)) = true) : y_Sb (L ++ T) m2 (va_cpy tf f2 0 L.length T.length) := by
  obtain ⟨s1, s2, s3, s4, s5⟩ := hS
  obtain ⟨-, t1, t2, t3⟩ := hT
  have el : (L ++ T).length = L.length + T.length := List.length_append
  refine ⟨hm, h2, fun k hk2 => ?_, fun c hc => ?_, fun j => ?_⟩
  · by_cases h : k < L.length
    · rw [y_cpyL h, hk k (by omega), s3 k h, List.getD_eq_getElem?_getD, List.getD_eq_getElem?_getD, List.getElem?_append_left h]
    · rw [pk_cpy_in (by omega) (by omega), show 0 + (k - L.length) = k - L.length by omega, t1 _ (by omega), List.getD_eq_getElem?_getD, List.getD_eq_getElem?_getD, List.getElem?_append_right (by omega)]
  · rcases List.mem_append.mp hc with h | h
    · exact s4 c h
    · exact t2 c h
  · by_cases h : L.length ≤ j ∧ j < L.length + T.length
    · rw [pk_cpy_in (by omega) (by omega), show 0 + (j - L.length) = j - L.length by omega, t1 _ (by omega)]
      exact y_fitN _ (t2 _ (by rw [List.getD_eq_getElem?_getD, List.getElem?_eq_getElem (by omega)]; exact List.getElem_mem _))
    · rw [pk_cpy_out (by omega)]
      exact hf j
theorem y_Sb_one {f f2 : Nat → Int32} {L : List Nat} {m m2 c : Nat} (hS : y_Sb L m f) (hc : c < 128) (hm : (L ++ [c]).length ≤ m2) (h2 : m2 ≤ 202) (hk : ∀ j, j < m → f2 j = f j) (hf : ∀ j, fits .byte (.int (f2 j)) = true) : y_Sb (L ++ [c]) m2 (upd f2 L.length (nI c)) := by
  obtain ⟨s1, s2, s3, s4, s5⟩ := hS
  have el : (L ++ [c]).length = L.length + 1 := List.length_append
  refine ⟨hm, h2, fun k hk2 => ?_, fun x hx => ?_, fun j => ?_⟩
  · by_cases h : k < L.length
    · rw [show upd f2 L.length (nI c) k = f2 k from if_neg (by omega), hk k (by omega), s3 k h, List.getD_eq_getElem?_getD, List.getD_eq_getElem?_getD, List.getElem?_append_left h]
    · obtain rfl : k = L.length := by omega
      rw [show upd f2 L.length (nI c) L.length = nI c from if_pos rfl, List.getD_eq_getElem?_getD, List.getElem?_append_right (Nat.le_refl _), Nat.sub_self]
      rfl
  · rcases List.mem_append.mp hx with h | h
    · exact s4 x h
    · rw [List.mem_singleton.mp h]; exact hc
  · by_cases h : j = L.length
    · rw [show upd f2 L.length (nI c) j = nI c from if_pos h]; exact y_fitN c hc
    · rw [show upd f2 L.length (nI c) j = f2 j from if_neg h]; exact hf j
theorem y_upd_swap {f : Nat → Int32} {a b : Nat} {x y : Int32} (h : a ≠ b) : upd (upd f a x) b y = upd (upd f b y) a x := by
  funext j
  unfold upd
  by_cases h1 : j = b
  · rw [if_pos h1, if_neg (by omega), if_pos h1]
  · rw [if_neg h1]
    by_cases h2 : j = a
    · rw [if_pos h2, if_pos h2]
    · rw [if_neg h2, if_neg h2, if_neg h1]
/-- decimal figures below 100 -/
def y_fig (x : Nat) : List Nat := if x < 10 then [48 + x] else [48 + x / 10, 48 + x % 10]
theorem y_Sb_two {f f2 : Nat → Int32} {L : List Nat} {m m2 c d : Nat} (hS : y_Sb L m f) (hc : c < 128) (hd : d < 128) (hm : (L ++ [c, d]).length ≤ m2) (h2 : m2 ≤ 202) (hk : ∀ j, j < m → f2 j = f j) (hf : ∀ j, fits .byte (.int (f2 j)) = true) : y_Sb (L ++ [c, d]) m2 (upd (upd f2 (L.length + 1) (nI d)) L.length (nI c)) := by
  have el : (L ++ [c, d]).length = L.length + 2 := List.length_append
  have e1 : (L ++ [c]).length = L.length + 1 := List.length_append
  have h1 := y_Sb_one hS hc (m2 := m2) (by omega) h2 hk hf
  have h3 := y_Sb_one h1 hd (m2 := m2) (f2 := upd f2 L.length (nI c)) (by rw [List.append_assoc]; exact hm) h2 (fun j _ => rfl) h1.2.2.2.2
  rw [List.append_assoc, e1] at h3
  rw [y_upd_swap (by omega)]
  exact h3
theorem y_cpy0 {f g : Nat → Int32} {n j : Nat} (h : j < n) : va_cpy f g 0 0 n j = f j := sb_cpy0 h
