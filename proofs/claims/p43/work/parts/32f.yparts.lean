/-! the law's machine: the world's parts in another order -/
section YP
variable {ε : y_Ev} {κ : y_K} {q : z_M} {fr lo mc ms nc ns : Nat} {ws ws2 : va_W} {σ : z_S}
theorem y_perm (hp : ws2.Perm ws) (k : y_G ε κ q nc ns ws2 σ) : y_G ε κ q nc ns ws σ := by
  intro H locs ls hl hP hD hS
  refine k H locs ls hl (fun j r hj => ?_) ?_ hS
  · obtain ⟨i, hi⟩ := List.getElem?_of_mem (hp.mem_iff.mp (List.mem_of_getElem? hj))
    exact hP i r hi
  · obtain ⟨h1, h2⟩ := y_Dn.mp hD
    exact y_Dn.mpr ⟨(hp.map Prod.fst).nodup_iff.mpr h1, fun q hq => h2 q (hp.mem_iff.mp hq)⟩
/-- b comes to the front -/
theorem y_front (a b c : va_W) (k : y_G ε κ q nc ns (b ++ (a ++ c)) σ) : y_G ε κ q nc ns (a ++ (b ++ c)) σ := by
  refine y_perm ?_ k
  rw [← List.append_assoc, ← List.append_assoc]
  exact List.perm_append_comm.append_right c
/-- b isn't needed any more -/
theorem y_drop (b c : va_W) (k : y_G ε κ q nc ns c σ) : y_G ε κ q nc ns (b ++ c) σ := fun H locs ls hl hP hD hS => k H locs ls hl (zl_Pr hP) (zl_Dr hD) hS
theorem y_eqw (ws2 : va_W) (h : ws = ws2) (k : y_G ε κ q nc ns ws2 σ) : y_G ε κ q nc ns ws σ := h ▸ k
/-- cells of the world are apart -/
theorem y_ne {a b : Nat} {i j : Nat} {x y : va_E} (h1 : ws[i]? = some (a, x)) (h2 : ws[j]? = some (b, y)) (hij : i ≠ j) (k : a ≠ b → y_G ε κ q nc ns ws σ) : y_G ε κ q nc ns ws σ := fun H locs ls hl hP hD hS => k (fun e => hij (hD.1 i j _ _ h1 h2 e)) H locs ls hl hP hD hS
end YP
theorem y_Tk (ε : y_Ev) : ∀ i, i < 13 → y_Tv ε (y_a ε i) (y_a ε (i + 20)) (fun j => (y_byt.getD i []).getD j 0) (y_bts i) [] := by
  intro i hi
  refine ⟨Or.inr ⟨rfl, i, hi, rfl, rfl, rfl, rfl⟩, ?_⟩
  have h : ∀ i, i < 13 → (∀ k, k < (y_bts i).length → (y_byt.getD i []).getD k 0 = nI ((y_bts i).getD k 0)) ∧ (∀ c ∈ y_bts i, c < 128) ∧ (y_bts i).length ≤ 200 := by decide +kernel
  exact h i hi
/-- a made String out of its cells -/
theorem y_Tm {ε : y_Ev} {a v : Nat} {f : Nat → Int32} {L : List Nat} {h z : Int32} (hf : ∀ k, k < L.length → f k = nI (L.getD k 0)) (hc : ∀ c ∈ L, c < 128) (hl : L.length ≤ 200) : y_Tv ε a v f L [(a, .inr (6, [.ref v, .int (nI 0), .int h, .int z])), (v, .inl (y_c ε 2, L.length, .inl f))] := ⟨Or.inl ⟨h, z, rfl⟩, hf, hc, hl⟩
/-- a StringBuilder's bytes -/
def y_Sb (L : List Nat) (m : Nat) (f : Nat → Int32) : Prop := L.length ≤ m ∧ m ≤ 202 ∧ (∀ k, k < L.length → f k = nI (L.getD k 0)) ∧ (∀ c ∈ L, c < 128) ∧ ∀ j, fits .byte (.int (f j)) = true
