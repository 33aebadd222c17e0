/-! the law's machine: what holds of a run, its rows -/
abbrev y_T : Type := Option Value → va_W → Prop
/-- launch, classes, array classes, addresses of old cells (String constants 0 .., their bytes 20 .., digits 40, 41, the script 42), the formatter, the script -/
abbrev y_Ev : Type := Launch × va_G × (Nat → ClassId) × (Nat → Nat) × Value × Nat × (Nat → Int32)
abbrev y_K : Type := Program × Env × Room × State × MethodId × Array Value × List Frame × Method × Code × (State → Prop) × (Nat → Prop)
abbrev k_p (κ : y_K) : Program := κ.1
abbrev k_e (κ : y_K) : Env := κ.2.1
abbrev k_R (κ : y_K) : Room := κ.2.2.1
abbrev k_s (κ : y_K) : State := κ.2.2.2.1
abbrev k_m (κ : y_K) : MethodId := κ.2.2.2.2.1
abbrev k_a (κ : y_K) : Array Value := κ.2.2.2.2.2.1
abbrev k_b (κ : y_K) : List Frame := κ.2.2.2.2.2.2.1
abbrev k_me (κ : y_K) : Method := κ.2.2.2.2.2.2.2.1
abbrev k_c (κ : y_K) : Code := κ.2.2.2.2.2.2.2.2.1
abbrev k_Q (κ : y_K) : State → Prop := κ.2.2.2.2.2.2.2.2.2.1
abbrev k_A (κ : y_K) : Nat → Prop := κ.2.2.2.2.2.2.2.2.2.2
abbrev y_D (ε : y_Ev) : va_G := ε.2.1
abbrev y_c (ε : y_Ev) : Nat → ClassId := ε.2.2.1
abbrev y_a (ε : y_Ev) : Nat → Nat := ε.2.2.2.1
abbrev y_f (ε : y_Ev) : Value := ε.2.2.2.2.1
abbrev y_L (ε : y_Ev) : Nat := ε.2.2.2.2.2.1
abbrev y_x (ε : y_Ev) : Nat → Int32 := ε.2.2.2.2.2.2
theorem z_re_id (v : Value) : z_re z_id v = v := by cases v <;> rfl
theorem z_re_ids (st : List Value) : st.map (z_re z_id) = st := by
  rw [show (z_re z_id) = id from funext z_re_id, List.map_id]
theorem z_lm_id (lv : z_L) : z_lm z_id lv = lv := by
  unfold z_lm
  rw [show (fun q : Nat × Value => (q.1, z_re z_id q.2)) = id from funext fun q => by rw [z_re_id]; rfl, List.map_id]
/-- from here on the method comes to its end -/
def y_G (ε : y_Ev) (κ : y_K) (q : z_M) (nc ns : Nat) (ws : va_W) (σ : z_S) : Prop := y_G0 (k_p κ) ε.1 (k_e κ) (k_R κ) (k_s κ) (k_m κ) (k_a κ) (k_b κ) (k_me κ) (k_c κ) (k_Q κ) (k_A κ) (k_s κ).heap (y_D ε) ws nc ns q.2.2.1 σ
/-- the texts of the law's constants -/
def y_bts : Nat → List Nat
  | 1 => [62]
  | 2 => [61]
  | 3 => [58]
  | 4 => [50, 58]
  | 5 => [59, 48, 58]
  | 6 => [59]
  | 7 => [49, 48, 48, 48, 48, 48, 49, 58]
  | 8 => [51, 58]
  | 9 => [51, 59]
  | 10 => [120]
  | 11 => [49, 58]
  | 12 => [49, 48, 48, 48, 48, 48, 48, 58]
  | _ => []
def y_tx : List String := ["", ">", "=", ":", "2:", ";0:", ";", "1000001:", "3:", "3;", "x", "1:", "1000000:"]
def y_ix : List Nat := [25, 34, 36, 55, 109, 111, 113, 115, 117, 122, 124, 126, 128]
def y_len : List Nat := (List.range 13).map (fun i => (y_bts i).length)
def y_byt : List (List Int32) := (List.range 13).map (fun i => (y_bts i).map nI)
/-- arrays over int[] stay -/
def y_OV (s : State) : Prop := ∀ a : Array Value, (Cond.arrayOver (.array .int)).before a s = true
theorem y_OV.moved {s U : State} (hal : s.vm.Alike U.vm) (h : y_OV s) : y_OV U := by
  intro a
  have h := h a
  simp only [Cond.before, Cond.holds, Cond.value] at h ⊢
  rw [hal.findClass]
  cases hf : s.vm.findClass (FieldType.array .int).toString with
  | none => rw [hf] at h; simp at h
  | some comp =>
    rw [hf] at h
    simp only [Option.bind_some] at h ⊢
    rw [hal.findIdx_congr _ (fun _ _ _ _ => rfl)]
    generalize hF : (s.vm.classes.findIdx? fun (x : Class) => match x.kind with | .array component _ => component == comp | _ => false) = fi at h ⊢
    cases fi with
    | none => simp at h
    | some c =>
      simp only [Option.bind_some] at h ⊢
      cases hk : s.vm.classes[c]? with
      | none => rw [hk] at h; simp at h
      | some k =>
        obtain ⟨k2, hk2, ek⟩ := hal.2.2 _ _ hk
        rw [hk] at h
        rw [hk2, hal.findClass]
        have e2 : k2.kind = k.kind := by rw [ek]
        simp only [Option.map_some] at h ⊢
        rw [e2]
        exact h
/-- what stands in old cells -/
def y_E (ε : y_Ev) (A : Nat → Prop) (s : State) (H : Heap) : Prop := va_Z "java/lang/String" "COMPACT_STRINGS" "Z" (.int 1) A s H ∧ va_Z "jdk/internal/util/Preconditions" "SIOOBE_FORMATTER" "Ljava/util/function/BiFunction;" (y_f ε) A s H ∧ (va_Z "java/lang/Integer" "DigitOnes" "[B" (.ref (y_a ε 40)) A s H ∧ va_T .byte (y_a ε 40) 100 (fun j => .int (nI (48 + j % 10))) A s H) ∧ (va_Z "java/lang/Integer" "DigitTens" "[B" (.ref (y_a ε 41)) A s H ∧ va_T .byte (y_a ε 41) 100 (fun j => .int (nI (48 + j / 10))) A s H) ∧ vk_S 13 y_len y_byt (y_a ε) (fun i => y_a ε (i + 20)) A s H ∧ (∀ i, i < 13 → vk_R "BallotWaysLaw" (y_ix.getD i 0) (y_tx.getD i "") (y_a ε i) s) ∧ (y_f ε = .null ∨ ∃ a, y_f ε = .ref a) ∧ va_T .int (y_a ε 42) (y_L ε) (fun j => .int (y_x ε j)) A s H ∧ y_L ε ≤ 260 ∧ y_OV s
theorem y_E.step {ε : y_Ev} {A A1 : Nat → Prop} {s U : State} {H : Heap} {locs : List Loc} (h : y_E ε A s s.heap) (hS : va_S A s.heap H locs) (hF : ∀ q, A1 q → A q) (hU : U.heap = H) (hW : s.WarmedH U.vm) : y_E ε A1 U U.heap := by
  obtain ⟨h1, h2, ⟨h3, h4⟩, ⟨h5, h6⟩, h7, h8, h9, h10, h11, h12⟩ := h
  have hk := hS.2.1
  rw [hU]
  exact ⟨(va_Z.moved hW.alike (h1.kept hk)).narrow hF, (va_Z.moved hW.alike (h2.kept hk)).narrow hF, ⟨(va_Z.moved hW.alike (h3.kept hk)).narrow hF, (va_T.moved hW.alike (h4.kept hk)).narrow hF⟩, ⟨(va_Z.moved hW.alike (h5.kept hk)).narrow hF, (va_T.moved hW.alike (h6.kept hk)).narrow hF⟩, (vk_S.moved hW.alike (h7.kept hk)).narrow hF, fun i hi => vk_R.warm hW (h8 i hi), h9, (va_T.moved hW.alike (h10.kept hk)).narrow hF, h11, h12.moved hW.alike⟩
theorem y_E.same {ε : y_Ev} {A : Nat → Prop} {u U : State} {H : Heap} (hvm : U.vm = u.vm) (h : y_E ε A u H) : y_E ε A U H := by
  obtain ⟨h1, h2, ⟨h3, h4⟩, ⟨h5, h6⟩, h7, h8, h9, h10, h11, h12⟩ := h
  have ha : u.vm.Alike U.vm := by rw [hvm]; exact Vm.Alike.refl _
  exact ⟨va_Z.moved ha h1, va_Z.moved ha h2, ⟨va_Z.moved ha h3, va_T.moved ha h4⟩, ⟨va_Z.moved ha h5, va_T.moved ha h6⟩, vk_S.moved ha h7, fun i hi => vk_R.same hvm (h8 i hi), h9, va_T.moved ha h10, h11, h12.moved ha⟩
def y_P (ε : y_Ev) (sz : Nat) (w : va_W) : State → Prop := fun U => U.heap.size = sz ∧ va_P (y_D ε) z_cl w U.heap ∧ va_K (y_D ε) z_cl (z_tys (y_c ε)) U ∧ va_D (fun _ => True) w ∧ z_N U ∧ y_E ε (va_A w sz) U U.heap
def y_B (ε : y_Ev) (A : Nat → Prop) (w : va_W) (t : State) : Prop := va_P (y_D ε) z_cl w t.heap ∧ va_K (y_D ε) z_cl (z_tys (y_c ε)) t ∧ va_D A w
def y_Q (ret : Option FieldType) (P : y_T) (ε : y_Ev) (A : Nat → Prop) : Array Value → State → Outcome → State → Prop := match ret with
  | none => va_Qv (fun w : va_W => P none w) (y_B ε A) A
  | some .long => va_Ql (fun (r : Int64) (w : va_W) => P (some (.long r)) w) (y_B ε A) A
  | some (.object _) => va_Qr (fun u : Nat × va_W => P (some (.ref u.1)) u.2) (fun u ra t => u.1 = ra ∧ y_B ε A u.2 t) A
  | some (.array _) => va_Qr (fun u : Nat × va_W => P (some (.ref u.1)) u.2) (fun u ra t => u.1 = ra ∧ y_B ε A u.2 t) A
  | some _ => va_Qi (fun (r : Int32) (w : va_W) => P (some (.int r)) w) (y_B ε A) A
/-- a method's contract: frames, locals, cells, slots -/
def y_C (ε : y_Ev) (q : z_M) (fr lo mc ms : Nat) (av : List Value) (w : va_W) (P : y_T) : Prop := ∀ sz : Nat, Met ε.1 q.1 (Cond.code q.1 q.2.1 q.2.2.1 q.2.2.2.1 :: z_AW) { frames := fr, cells := mc, slots := ms, locals := lo } (va_Pc av (y_P ε sz w)) (y_Q q.2.2.2.1 P ε (va_A w sz)) mc ms (va_A w sz)
/-- what a row asks of a run -/
def y_ok (ε : y_Ev) (κ : y_K) (q : z_M) (fr lo mc ms : Nat) : Prop := (k_p κ).tables.exec = Jvm.exec ∧ (k_c κ).code = q.2.1 ∧ (k_c κ).maxLocals = q.2.2.1 ∧ (∀ w ∈ z_AW, w.before (k_a κ) (k_s κ) = true) ∧ (k_s κ).vm.findClass (z_own q.2.2.2.2.1) = some (k_m κ).cls ∧ va_K (y_D ε) z_cl (z_tys (y_c ε)) (k_s κ) ∧ z_N (k_s κ) ∧ y_E ε (k_A κ) (k_s κ) (k_s κ).heap ∧ (∀ a, (k_s κ).heap.size ≤ a → k_A κ a) ∧ k_R κ = { frames := fr, cells := mc, slots := ms, locals := lo } ∧ ∀ (pc : Nat) (i : Instr), z_F q pc = some i → ∃ n : Nat, decode q.2.1 pc = .ok (i, n) ∧ z_lenok i n = true ∧ z_cok i = true
/-- what its end asks -/
def y_rt (ε : y_Ev) (κ : y_K) (q : z_M) (mc ms : Nat) (P : y_T) : Prop := (k_me κ).sig.returnType = q.2.2.2.1 ∧ (k_me κ).locks = false ∧ k_Q κ = MQ (k_b κ) (y_Q q.2.2.2.1 P ε (k_A κ)) (k_a κ) (k_s κ) mc ms (k_A κ)
theorem y_blind {ε : y_Ev} {av : List Value} {sz : Nat} {w : va_W} : FrameBlind (va_Pc av (y_P ε sz w)) := by
  intro a U g mk q
  obtain ⟨q0, q1, qP, qK, qD, qN, qE⟩ := q
  exact ⟨q0, q1, qP, va_K.moved (u := U) (U := U.calling g mk a) (Vm.Alike.refl U.vm) qK, qD, z_N_same (u := U) (U := U.calling g mk a) rfl qN, y_E.same (u := U) (U := U.calling g mk a) rfl qE⟩
theorem y_comm {D : va_G} {cl : List vw_C} {a b : va_W} {H : Heap} (h : va_P D cl (a ++ b) H) : va_P D cl (b ++ a) H := by
  intro k q hk
  rcases Nat.lt_or_ge k b.length with hl | hl
  · rw [List.getElem?_append_left hl] at hk
    exact zl_Pr h k q hk
  · rw [List.getElem?_append_right hl] at hk
    exact zl_Pl h _ q hk
theorem y_Dn {A : Nat → Prop} {ws : va_W} : va_D A ws ↔ (ws.map Prod.fst).Nodup ∧ ∀ q ∈ ws, A q.1 := by
  constructor
  · intro h
    refine ⟨?_, fun q hq => ?_⟩
    · unfold List.Nodup
      rw [List.pairwise_iff_getElem]
      intro i j hi hj hij e
      rw [List.getElem_map, List.getElem_map] at e
      rw [List.length_map] at hi hj
      have := h.1 i j _ _ (List.getElem?_eq_getElem hi) (List.getElem?_eq_getElem hj) e
      omega
    · obtain ⟨k, hk⟩ := List.getElem?_of_mem hq
      exact h.2 k q hk
  · rintro ⟨h1, h2⟩
    refine ⟨fun i j p q hi hj e => ?_, fun k q hk => h2 q (List.mem_of_getElem? hk)⟩
    unfold List.Nodup at h1
    rw [List.pairwise_iff_getElem] at h1
    obtain ⟨hi', ei⟩ := List.getElem?_eq_some_iff.mp hi
    obtain ⟨hj', ej⟩ := List.getElem?_eq_some_iff.mp hj
    rcases Nat.lt_trichotomy i j with h | h | h
    · exact absurd (by rw [List.getElem_map, List.getElem_map, ei, ej]; exact e) (h1 i j (by rw [List.length_map]; exact hi') (by rw [List.length_map]; exact hj') h)
    · exact h
    · exact absurd (by rw [List.getElem_map, List.getElem_map, ei, ej]; exact e.symm) (h1 j i (by rw [List.length_map]; exact hj') (by rw [List.length_map]; exact hi') h)
theorem y_commD {A : Nat → Prop} {a b : va_W} (h : va_D A (a ++ b)) : va_D A (b ++ a) := by
  obtain ⟨h1, h2⟩ := y_Dn.mp h
  exact y_Dn.mpr ⟨(List.perm_append_comm.map Prod.fst).nodup_iff.mp h1, fun q hq => h2 q (List.perm_append_comm.mem_iff.mp hq)⟩
theorem y_joinL {A0 : Nat → Prop} {D : va_G} {cl : List vw_C} {a b a1 : va_W} {H H1 : Heap} (hP : va_P D cl (a ++ b) H) (hD : va_D A0 (a ++ b)) (hk : ∀ q : Nat, q < H.size → ¬ va_A a H.size q → H1[q]? = H[q]?) (hF : ∀ q, va_A a H.size q → A0 q) (hP1 : va_P D cl a1 H1) (hD1 : va_D (va_A a H.size) a1) : va_P D cl (a1 ++ b) H1 ∧ va_D A0 (a1 ++ b) := by
  obtain ⟨h1, h2⟩ := zl_join hP hD hk hF hP1 hD1
  exact ⟨y_comm h1, y_commD h2⟩
section YM
variable {ε : y_Ev} {κ : y_K} {q : z_M} {fr lo mc ms nc ns : Nat} {ws ws' : va_W} {pc : Nat} {lv lv' : z_L} {st : List Value} {σ σ' σ1 σ2 : z_S} {P : y_T}
def y_stp (q : z_M) (σ : z_S) : Option z_S := match z_F q σ.1 with
  | some i => bif y_pure i then z_ins (z_lk q.2.2.2.2.1) q.2.2.1 σ.1 σ.2.1 σ.2.2.1 σ.2.2.2 i else none
  | none => none
def y_stpN (q : z_M) : Nat → z_S → Option z_S
  | 0, σ => some σ
  | k + 1, σ => match y_stp q σ with
    | some σ' => y_stpN q k σ'
    | none => none
theorem y_one (hC : y_ok ε κ q fr lo mc ms) (hs : y_stp q σ = some σ') (k : y_G ε κ q nc ns ws σ') : y_G ε κ q nc ns ws σ := by
  obtain ⟨hx, hb, hml, hts, hown, hK, hN, hE, hA, hR, hdec⟩ := hC
  obtain ⟨pc, lv, st, h⟩ := σ
  unfold y_stp at hs
  simp only at hs
  split at hs
  · rename_i i hF
    cases hp : y_pure i with
    | false => rw [hp] at hs; cases hs
    | true =>
      rw [hp, cond_true] at hs
      obtain ⟨n1, hd, hn1, hc1⟩ := hdec _ _ hF
      exact ys_ins hx hb hts hown hp hd hn1 hc1 hs k
  · cases hs
theorem y_steps (hC : y_ok ε κ q fr lo mc ms) : ∀ (k : Nat) {σ σ' : z_S}, y_stpN q k σ = some σ' → y_G ε κ q nc ns ws σ' → y_G ε κ q nc ns ws σ
  | 0, σ, _, hs, hk => by cases hs; exact hk
  | k + 1, σ, _, hs, hk => by
    unfold y_stpN at hs
    split at hs
    · rename_i σ2 h2
      exact y_one hC h2 (y_steps hC k hs hk)
    · cases hs
theorem y_if {c : Prop} [Decidable c] (hC : y_ok ε κ q fr lo mc ms) (hs : y_stp q σ = if c then some σ1 else some σ2) (k1 : c → y_G ε κ q nc ns ws σ1) (k2 : ¬ c → y_G ε κ q nc ns ws σ2) : y_G ε κ q nc ns ws σ := by
  by_cases hc : c
  · rw [if_pos hc] at hs; exact y_one hC hs (k1 hc)
  · rw [if_neg hc] at hs; exact y_one hC hs (k2 hc)
theorem y_ifT {c : Prop} [Decidable c] (hC : y_ok ε κ q fr lo mc ms) (hs : y_stp q σ = if c then some σ1 else some σ2) (hc : c) (k1 : y_G ε κ q nc ns ws σ1) : y_G ε κ q nc ns ws σ := by
  rw [if_pos hc] at hs; exact y_one hC hs k1
theorem y_ifF {c : Prop} [Decidable c] (hC : y_ok ε κ q fr lo mc ms) (hs : y_stp q σ = if c then some σ1 else some σ2) (hc : ¬ c) (k2 : y_G ε κ q nc ns ws σ2) : y_G ε κ q nc ns ws σ := by
  rw [if_neg hc] at hs; exact y_one hC hs k2
theorem y_gd {c : Prop} [Decidable c] (hC : y_ok ε κ q fr lo mc ms) (hs : y_stp q σ = if c then some σ' else none) (hc : c) (k : y_G ε κ q nc ns ws σ') : y_G ε κ q nc ns ws σ := by
  rw [if_pos hc] at hs; exact y_one hC hs k
theorem y_sub (hC : y_ok ε κ q fr lo mc ms) (ks : List Nat) (hp : lv_pick lv ks = lv') (k : y_G ε κ q nc ns ws (pc, lv', st, [])) : y_G ε κ q nc ns ws (pc, lv, st, []) := by
  intro H locs ls hl hP hD hS
  refine k H locs ls ?_ hP hD hS
  subst hp
  exact lv_sub hl ks (z_lm_pick z_id lv ks)
theorem y_eqst (h1 : σ = σ') (k : y_G ε κ q nc ns ws σ') : y_G ε κ q nc ns ws σ := by rw [h1]; exact k
theorem y_wid (a b : Nat) (h1 : nc ≤ a) (h2 : ns ≤ b) (k : y_G ε κ q a b ws σ) : y_G ε κ q nc ns ws σ := fun H locs ls hl hP hD hS => W.widen h1 h2 (k H locs ls hl hP hD hS)
theorem y_swap {X Y : va_W} (k : y_G ε κ q nc ns (Y ++ X) σ) : y_G ε κ q nc ns (X ++ Y) σ := fun H locs ls hl hP hD hS => k H locs ls hl (y_comm hP) (y_commD hD) hS
theorem y_inW (h : ∀ (H : Heap) (locs : List Loc) (ls : Array Slot), lv_has ls q.2.2.1 lv → va_P (y_D ε) z_cl ws H → va_D (k_A κ) ws → va_S (k_A κ) (k_s κ).heap H locs → W (k_p κ) ε.1 (k_e κ) (k_R κ) (k_s κ) (k_m κ) (k_a κ) (k_b κ) (k_me κ) (k_c κ) H locs nc ns (k_Q κ) (F0 (k_m κ) pc ls st)) : y_G ε κ q nc ns ws (pc, lv, st, []) := by
  intro H locs ls hl hP hD hS
  rw [z_lm_id] at hl
  show W _ _ _ _ _ _ _ _ _ _ _ _ _ _ _ (F0 _ _ _ (st.map (z_re z_id)))
  rw [z_re_ids]
  exact h H locs ls hl hP hD hS
theorem y_outW (k : y_G ε κ q nc ns ws (pc, lv, st, [])) {H : Heap} {locs : List Loc} {ls : Array Slot} (hl : lv_has ls q.2.2.1 lv) (hP : va_P (y_D ε) z_cl ws H) (hD : va_D (k_A κ) ws) (hS : va_S (k_A κ) (k_s κ).heap H locs) : W (k_p κ) ε.1 (k_e κ) (k_R κ) (k_s κ) (k_m κ) (k_a κ) (k_b κ) (k_me κ) (k_c κ) H locs nc ns (k_Q κ) (F0 (k_m κ) pc ls st) := by
  have h := k H locs ls (by rw [z_lm_id]; exact hl) hP hD hS
  rw [show (pc, lv, st, ([] : List z_E)).2.2.1.map (z_re z_id) = st from z_re_ids st] at h
  exact h
theorem y_dcd (hC : y_ok ε κ q fr lo mc ms) {i : Instr} (hF : z_F q pc = some i) (ht : (match i with | .tableswitch _ _ _ _ => false | _ => true) = true := by rfl) : decode q.2.1 pc = .ok (i, z_len i) := by
  obtain ⟨n, hd, hn, -⟩ := hC.2.2.2.2.2.2.2.2.2.2 _ _ hF
  have : n = z_len i := by
    unfold z_lenok at hn
    split at hn
    · cases ht
    · exact Nat.eq_of_beq_eq_true hn
  rw [this] at hd
  exact hd
end YM
