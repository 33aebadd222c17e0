/-! the law's own rows: a call on the left of two worlds -/
theorem zl_L {α : Type} (a b : List α) : (List.range a.length).map (fun i => (a ++ b)[i]?) = a.map some := by
  rw [← z_all a]
  apply List.map_congr_left
  intro i hi
  rw [List.getElem?_append_left (List.mem_range.mp hi)]
theorem zl_R {α : Type} (a b : List α) : ((List.range b.length).map (fun i => i + a.length)).map (fun i => (a ++ b)[i]?) = b.map some := by
  rw [← z_all b, List.map_map]
  apply List.map_congr_left
  intro i hi
  show (a ++ b)[i + a.length]? = b[i]?
  rw [List.getElem?_append_right (by omega)]
  congr 1
  omega
theorem zl_nd (k : Nat) : ∀ (l : List Nat), l.Nodup → va_nd (l.map (fun i => i + k)) = true
  | [], _ => rfl
  | a :: l, h => by
    obtain ⟨h1, h2⟩ := List.nodup_cons.mp h
    show (decide (a + k ∉ l.map (fun i => i + k)) && va_nd (l.map (fun i => i + k))) = true
    rw [zl_nd k l h2, Bool.and_true, decide_eq_true_eq]
    intro q
    obtain ⟨b, hb, e⟩ := List.mem_map.mp q
    have : b = a := by omega
    exact h1 (this ▸ hb)
theorem zl_nd0 : ∀ (l : List Nat), l.Nodup → va_nd l = true
  | [], _ => rfl
  | a :: l, h => by
    obtain ⟨h1, h2⟩ := List.nodup_cons.mp h
    show (decide (a ∉ l) && va_nd l) = true
    rw [zl_nd0 l h2, Bool.and_true, decide_eq_true_eq]
    exact h1
theorem zl_Pl {D : va_G} {cl : List vw_C} {a b : va_W} {H : Heap} (h : va_P D cl (a ++ b) H) : va_P D cl a H := fun k q hk => h k q (by rw [List.getElem?_append_left]; exact hk; rcases Nat.lt_or_ge k a.length with h | h; exact h; rw [List.getElem?_eq_none h] at hk; cases hk)
theorem zl_Dl {A : Nat → Prop} {a b : va_W} (h : va_D A (a ++ b)) : va_D A a := h.sub (List.range a.length) (zl_nd0 _ List.nodup_range) (zl_L a b)
theorem zl_GoodV {own : String} {idx : Nat} {y : z_M} {C : String} (h1 : Cond.methodLink own idx y.1 ∈ z_AW) (h2 : Cond.instanceMethod y.1 ∈ z_AW) (h3 : Cond.selects C y.1 y.1 ∈ z_AW) (h4 : Cond.initialized C ∈ z_AW) (h5 : Cond.code y.1 y.2.1 y.2.2.1 y.2.2.2.1 ∈ z_AW) : GoodIn z_AW (wsV own idx C y.1 (Cond.code y.1 y.2.1 y.2.2.1 y.2.2.2.1 :: z_AW)) := by
  intro w hw
  refine z_AW_good w ?_
  unfold wsV at hw
  simp only [List.cons_append, List.nil_append, List.mem_cons] at hw
  rcases hw with rfl | rfl | rfl | rfl | rfl | hw
  · exact h1
  · exact h2
  · exact h3
  · exact h4
  · exact h5
  · exact hw
theorem zl_join {A0 : Nat → Prop} {D : va_G} {cl : List vw_C} {a b a1 : va_W} {H H1 : Heap} (hP : va_P D cl (a ++ b) H) (hD : va_D A0 (a ++ b)) (hk : ∀ q : Nat, q < H.size → ¬ va_A a H.size q → H1[q]? = H[q]?) (hF : ∀ q, va_A a H.size q → A0 q) (hP1 : va_P D cl a1 H1) (hD1 : va_D (va_A a H.size) a1) : va_P D cl (b ++ a1) H1 ∧ va_D A0 (b ++ a1) :=
  va_join hP hD (List.range a.length) ((List.range b.length).map (fun i => i + a.length)) (zl_L a b) (zl_R a b) (zl_nd a.length _ List.nodup_range) (fun i hi q => by
    obtain ⟨j, _, rfl⟩ := List.mem_map.mp hi
    have := List.mem_range.mp q
    omega) hk hF hP1 hD1
section ZL
variable {p : Program} {l : Launch} {e : Env} {R : Room} {s : State} {m : MethodId} {args : Array Value} {below : List Frame} {meth : Method} {c : Code} {Q : State → Prop}
theorem zl_call {cc : ByteArray} {own C : String} {D : va_G} {cA : Nat → ClassId} {ad : Nat → Nat} {A : Nat → Prop} {H0 H : Heap} {locs : List Loc} {cells slots nL pc idx b ci d y N : Nat} {T : u_T} {fs : List Value} {ls : Array Slot} {av rest : List Value} {h : List z_E} {B : va_W} {P : z_T} {qy : z_M}
    (hx : p.tables.exec = Jvm.exec) (hb : c.code = cc) (hml : c.maxLocals = nL) (hown : s.vm.findClass own = some m.cls) (hts : ∀ w ∈ z_AW, w.before args s = true) (hN : z_N s) (hK : va_K D z_cl (z_tys cA) s) (hRf : d + 1 ≤ R.frames) (hRl : 64 * (d + 1) ≤ R.locals) (hcs : cells ≤ R.cells ∧ slots ≤ R.slots) (hls : ls.size = nL)
    (hA : ∀ q, H0.size ≤ q → A q) (hP : va_P D z_cl (z_W cA ad h ++ B) H) (hD : va_D A (z_W cA ad h ++ B)) (hS : va_S A H0 H locs)
    (hC : z_CAL d y (.ref b :: av) h P) (hy : z_mt[y]? = some qy) (hcl : z_cl[ci]? = some (C, T, N)) (hrc : h[b]? = some (.inr (ci, fs)))
    (g1 : qy.1.cls = C) (g2 : Cond.methodLink own idx qy.1 ∈ z_AW) (g3 : Cond.instanceMethod qy.1 ∈ z_AW) (g4 : Cond.selects C qy.1 qy.1 ∈ z_AW) (g5 : Cond.initialized C ∈ z_AW) (hnp : (parseMethodDescriptor qy.1.desc).map (fun d => d.parameters.length) = some av.length)
    (hcat : (rest.map fun v => v.category).sum ≤ 8) (hd : decode cc pc = .ok (.invokevirtual idx, 3))
    (kk : ∀ (r : Option Value) (h' : List z_E) (H1 : Heap) (locs1 : List Loc), P r h' → va_P D z_cl (B ++ z_W cA ad h') H1 → va_D A (B ++ z_W cA ad h') → va_S A H0 H1 locs1 → W p l e R s m args below meth c H1 locs1 cells slots Q (F0 m (pc + 3) ls (r.toList ++ rest))) :
    W p l e R s m args below meth c H locs cells slots Q (F0 m pc ls ((av.map (z_re ad)).reverse ++ .ref (ad b) :: rest)) := by
  have hF : ∀ q, va_A (z_W cA ad h) H.size q → A q := va_free hD hS hA (List.range (z_W cA ad h).length) (zl_L _ _)
  have hPl := zl_Pl hP
  have hDl := zl_Dl hD
  have hyf := z_m_of hy
  have hM := z_snd l D cA d y _ h P hC qy hy ad H.size
  have hr := va_runV (As := av.map (z_re ad)) (b := ad b) (rest := rest) (g := F0 m pc ls ((av.map (z_re ad)).reverse ++ .ref (ad b) :: rest)) (own := own) (index := idx) (C := C) (nL := nL) (cells := cells) (slots := slots) (H := H) (locs := locs) (below := below) (meth := meth) (e := e) (R := R) ⟨hx, hb, hml, hown, hts⟩ hM (cwV av.length hts (zl_GoodV g2 g3 g4 g5 hyf.1) rfl rfl rfl ⟨g1, hyf.2.2.2.2.1.1, hyf.2.2.2.2.1.2, hnp⟩ ⟨hRf, by show 8 + (qy.2.2.1 + 11) + 64 * d ≤ R.locals; have := hyf.2.2.1; omega⟩) ⟨z_blind, va_recv hK hPl hcl (z_W_get hrc), z_pre hPl hDl hK hN⟩ rfl (by simp) hls rfl (lv_room hcat) hd ⟨hcs.1, hcs.2⟩
  generalize qy.2.2.2.1 = ret at hr
  unfold z_Q at hr
  split at hr
  · refine va_callv hr hS (fun q _ h => hF q h) hF (fun u t H1 locs1 ht hvm hw hB hz1 hk1 hS1 => ?_)
    obtain ⟨hP1, -, hD1⟩ := hB
    rw [ht] at hP1
    obtain ⟨hP2, hD2⟩ := zl_join hP hD hk1 hF hP1 hD1
    exact kk none u H1 locs1 hw hP2 hD2 hS1
  · refine va_calll hr hS (fun q _ h => hF q h) hF (fun r u t H1 locs1 ht hvm hw hB hz1 hk1 hS1 => ?_)
    obtain ⟨hP1, -, hD1⟩ := hB
    rw [ht] at hP1
    obtain ⟨hP2, hD2⟩ := zl_join hP hD hk1 hF hP1 hD1
    exact kk (some (.long r)) u H1 locs1 hw hP2 hD2 hS1
  · refine va_calli hr hS (fun q _ h => hF q h) hF (fun r u t H1 locs1 ht hvm hw hB hz1 hk1 hS1 => ?_)
    obtain ⟨hP1, -, hD1⟩ := hB
    rw [ht] at hP1
    obtain ⟨hP2, hD2⟩ := zl_join hP hD hk1 hF hP1 hD1
    exact kk (some (.int r)) u H1 locs1 hw hP2 hD2 hS1
end ZL
