/-! the law's own rows: a call on the left of two worlds -/
theorem zl_L {α : Type} (a b : List α) : (List.range a.length).map (fun i => (a ++ b)[i]?) = a.map some := by
  rw [← z_all a]
  apply List.map_congr_left
  intro i hi
  rw [List.getElem?_append_left (List.mem_range.mp hi)]
theorem zl_R {α : Type} (a b : List α) : ((List.range b.length).map (fun i => i + a.length)).map (fun i => (a ++ b)[i]?) = b.map some := by
  rw [← z_all b, List.map_map]
  apply List.map_congr_left
  intro i hi
  show (a ++ b)[i + a.length]? = b[i]?
  rw [List.getElem?_append_right (by omega)]
  congr 1
  omega
theorem zl_nd (k : Nat) : ∀ (l : List Nat), l.Nodup → va_nd (l.map (fun i => i + k)) = true
  | [], _ => rfl
  | a :: l, h => by
    obtain ⟨h1, h2⟩ := List.nodup_cons.mp h
    show (decide (a + k ∉ l.map (fun i => i + k)) && va_nd (l.map (fun i => i + k))) = true
    rw [zl_nd k l h2, Bool.and_true, decide_eq_true_eq]
    intro q
    obtain ⟨b, hb, e⟩ := List.mem_map.mp q
    have : b = a := by omega
    exact h1 (this ▸ hb)
theorem zl_nd0 : ∀ (l : List Nat), l.Nodup → va_nd l = true
  | [], _ => rfl
  | a :: l, h => by
    obtain ⟨h1, h2⟩ := List.nodup_cons.mp h
    show (decide (a ∉ l) && va_nd l) = true
    rw [zl_nd0 l h2, Bool.and_true, decide_eq_true_eq]
    exact h1
theorem zl_Pl {D : va_G} {cl : List vw_C} {a b : va_W} {H : Heap} (h : va_P D cl (a ++ b) H) : va_P D cl a H := fun k q hk => h k q (by rw [List.getElem?_append_left]; exact hk; rcases Nat.lt_or_ge k a.length with h | h; exact h; rw [List.getElem?_eq_none h] at hk; cases hk)
theorem zl_Dl {A : Nat → Prop} {a b : va_W} (h : va_D A (a ++ b)) : va_D A a := h.sub (List.range a.length) (zl_nd0 _ List.nodup_range) (zl_L a b)
theorem zl_GoodV {own : String} {idx : Nat} {y : z_M} {C : String} (h1 : Cond.methodLink own idx y.1 ∈ z_AW) (h2 : Cond.instanceMethod y.1 ∈ z_AW) (h3 : Cond.selects C y.1 y.1 ∈ z_AW) (h4 : Cond.initialized C ∈ z_AW) (h5 : Cond.code y.1 y.2.1 y.2.2.1 y.2.2.2.1 ∈ z_AW) : GoodIn z_AW (wsV own idx C y.1 (Cond.code y.1 y.2.1 y.2.2.1 y.2.2.2.1 :: z_AW)) := by
  intro w hw
  refine z_AW_good w ?_
  unfold wsV at hw
  simp only [List.cons_append, List.nil_append, List.mem_cons] at hw
  rcases hw with rfl | rfl | rfl | rfl | rfl | hw
  · exact h1
  · exact h2
  · exact h3
  · exact h4
  · exact h5
  · exact hw
