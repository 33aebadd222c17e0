/-! p43, a told RANKING is read back. z_rp, z_nm, z_pts are of part 08z. -/
/-- candidates with the byte behind each (the last one's byte isn't looked at) -/
def p_at (tp : Nat → Nat) (fd : Nat) : Nat → List (Nat × Nat) → Prop
  | _, [] => False
  | p, (c, s) :: t => p < fd ∧ tp p = 48 + c ∧ ((t = [] ∧ ¬ (p + 1 < fd ∧ (tp (p + 1) = 62 ∨ tp (p + 1) = 61))) ∨ (t ≠ [] ∧ p + 1 < fd ∧ tp (p + 1) = s ∧ (s = 62 ∨ s = 61) ∧ p_at tp fd (p + 1 + 1) t))
/-- what is read -/
def p_go : List (Nat × Nat) → Nat → Nat → (Nat → Nat) → Nat → Nat
  | [], _, _, q => q
  | (c, s) :: t, td, pl, q => match t with
    | [] => fun x => if (td ||| 2 ^ c).testBit x = true then (if x = c then pl else q x) else pl + 1
    | _ :: _ => p_go t (td ||| 2 ^ c) (if s = 62 then pl + 1 else pl) (fun x => if x = c then pl else q x)
theorem p_rp {n fd : Nat} {tp : Nat → Nat} (hn : n ≤ 10) : ∀ (l : List (Nat × Nat)) (f td pl : Nat) (q : Nat → Nat) (p : Nat), p_at tp fd p l → l.length ≤ f → (∀ e ∈ l, e.1 < n) → (l.map Prod.fst).Nodup → (∀ e ∈ l, td.testBit e.1 = false) → z_rp n tp fd f td pl q p = (true, p + (2 * l.length - 1), p_go l td pl q)
  | [], _, _, _, _, _, h, _, _, _, _ => absurd h id
  | (c, s) :: t, f, td, pl, q, p, h, hf, hc, hd, ht => by
    obtain ⟨f, rfl⟩ : ∃ g, f = g + 1 := ⟨f - 1, by have : ((c, s) :: t).length = t.length + 1 := rfl; omega⟩
    obtain ⟨h1, h2, h3⟩ := h
    have hcn : c < n := hc (c, s) List.mem_cons_self
    have htd : td.testBit c = false := ht (c, s) List.mem_cons_self
    have e48 : tp p - 48 = c := by omega
    have hg : p < fd ∧ 48 ≤ tp p ∧ tp p ≤ 57 ∧ tp p - 48 < n ∧ td.testBit (tp p - 48) = false := ⟨h1, by omega, by omega, by rw [e48]; exact hcn, by rw [e48]; exact htd⟩
    unfold z_rp
    rw [if_pos hg, e48]
    rcases h3 with ⟨h4, h5⟩ | ⟨h4, h5, h6, h7, h8⟩
    · subst h4
      rw [if_neg (fun z => h5 ⟨z.1, Or.inl z.2⟩), if_neg (fun z => h5 ⟨z.1, Or.inr z.2⟩)]
      rfl
    · have hd2 := List.nodup_cons.mp hd
      have hl : (t.length + 1 : Nat) ≤ f + 1 := hf
      have ht2 : ∀ e ∈ t, (td ||| 2 ^ c).testBit e.1 = false := by
        intro e he
        have hne : c ≠ e.1 := fun z => hd2.1 (by show c ∈ t.map Prod.fst; rw [z]; exact List.mem_map_of_mem he)
        rw [Nat.testBit_or, ht e (List.mem_cons_of_mem _ he), Nat.testBit_two_pow_of_ne hne]
        rfl
      have ih := fun pl2 => p_rp hn t f (td ||| 2 ^ c) pl2 (fun x => if x = c then pl else q x) (p + 1 + 1) h8 (by omega) (fun e he => hc e (List.mem_cons_of_mem _ he)) hd2.2 ht2
      have hpos : 1 ≤ t.length := by
        cases t with
        | nil => exact absurd rfl h4
        | cons a b => show 1 ≤ b.length + 1; omega
      have hlen : p + 1 + 1 + (2 * t.length - 1) = p + (2 * ((c, s) :: t).length - 1) := by
        have : ((c, s) :: t).length = t.length + 1 := rfl
        omega
      have hgo : ∀ pl2, (if s = 62 then pl + 1 else pl) = pl2 → p_go ((c, s) :: t) td pl q = p_go t (td ||| 2 ^ c) pl2 (fun x => if x = c then pl else q x) := by
        intro pl2 e
        subst e
        cases t with
        | nil => exact absurd rfl h4
        | cons a b => rfl
      rcases h7 with h7 | h7
      · rw [if_pos ⟨h5, h6.trans h7⟩, ih (pl + 1), hlen, hgo (pl + 1) (if_pos h7)]
      · rw [if_neg (fun z => by have := z.2; omega), if_pos ⟨h5, h6.trans h7⟩, ih pl, hlen, hgo pl (if_neg (by omega))]
/-- the candidates of place p below c, behind L; those of the first m places -/
def p_l1 (r : Nat → Nat) (p : Nat) : Nat → List Nat → List Nat
  | 0, L => L
  | c + 1, L => if r c = p then p_l1 r p c L ++ [c] else p_l1 r p c L
def p_l (n : Nat) (r : Nat → Nat) : Nat → List Nat
  | 0 => []
  | m + 1 => p_l1 r m n (p_l n r m)
/-- their text -/
def p_by (r : Nat → Nat) : List Nat → List Nat
  | [] => []
  | c :: t => (48 + c) :: (match t with
    | [] => []
    | d :: _ => (if r c = r d then 61 else 62) :: p_by r t)
theorem p_by_snoc {r : Nat → Nat} : ∀ (L : List Nat) (c : Nat), L ≠ [] → p_by r (L ++ [c]) = p_by r L ++ [if r (L.getLastD 0) = r c then 61 else 62, 48 + c]
  | [], _, h => absurd rfl h
  | [a], c, _ => rfl
  | a :: b :: t, c, _ => by
    have ih := p_by_snoc (r := r) (b :: t) c (by simp)
    show (48 + a) :: (if r a = r b then 61 else 62) :: p_by r (b :: t ++ [c]) = _
    rw [ih]
    rfl
theorem p_by_nil {r : Nat → Nat} {L : List Nat} : p_by r L = [] ↔ L = [] := by
  cases L with
  | nil => exact ⟨fun _ => rfl, fun _ => rfl⟩
  | cons a t => exact ⟨fun h => (by cases h), fun h => (by cases h)⟩
theorem p_l1_last {r : Nat → Nat} {p : Nat} {L0 : List Nat} : ∀ (c : Nat), (z_ct c (fun x => decide (r x = p)) = 0 → p_l1 r p c L0 = L0) ∧ (z_ct c (fun x => decide (r x = p)) ≠ 0 → p_l1 r p c L0 ≠ [] ∧ r ((p_l1 r p c L0).getLastD 0) = p)
  | 0 => ⟨fun _ => rfl, fun h => absurd rfl h⟩
  | c + 1 => by
    have ih := p_l1_last (r := r) (p := p) (L0 := L0) c
    by_cases h : r c = p
    · have e2 : p_l1 r p (c + 1) L0 = p_l1 r p c L0 ++ [c] := by
        show (if r c = p then _ else _) = _
        rw [if_pos h]
      rw [z_ct_T' (p := fun x => decide (r x = p)) (decide_eq_true h), e2]
      refine ⟨fun z => by omega, fun _ => ⟨by simp, ?_⟩⟩
      rw [List.getLastD_concat]
      exact h
    · have e2 : p_l1 r p (c + 1) L0 = p_l1 r p c L0 := by
        show (if r c = p then _ else _) = _
        rw [if_neg h]
      rw [z_ct_F' (p := fun x => decide (r x = p)) (decide_eq_false h), e2]
      exact ih
theorem p_sp1 {r : Nat → Nat} {p : Nat} {L0 : List Nat} (h0 : L0 ≠ [] → r (L0.getLastD 0) ≠ p) : ∀ c, z_sp1 r p c (p_by r L0) = p_by r (p_l1 r p c L0)
  | 0 => rfl
  | c + 1 => by
    have ih := p_sp1 h0 c
    have hl := p_l1_last (r := r) (p := p) (L0 := L0) c
    by_cases h : r c = p
    · have e1 : z_sp1 r p (c + 1) (p_by r L0) = (if z_sp1 r p c (p_by r L0) = [] then [] else z_sp1 r p c (p_by r L0) ++ [if z_ct c (fun x => decide (r x = p)) = 0 then 62 else 61]) ++ [48 + c] := by
        show (if r c = p then _ else _) = _
        rw [if_pos h]
      have e2 : p_l1 r p (c + 1) L0 = p_l1 r p c L0 ++ [c] := by
        show (if r c = p then _ else _) = _
        rw [if_pos h]
      rw [e1, e2, ih]
      by_cases hm : p_l1 r p c L0 = []
      · rw [hm]
        rfl
      · rw [if_neg (fun z => hm (p_by_nil.mp z)), p_by_snoc _ _ hm, List.append_assoc]
        by_cases hz : z_ct c (fun x => decide (r x = p)) = 0
        · have hq := hl.1 hz
          rw [hq] at hm ⊢
          rw [if_pos hz, if_neg (by rw [h]; exact h0 hm)]
          rfl
        · rw [if_neg hz, if_pos ((hl.2 hz).2.trans h.symm)]
          rfl
    · have e1 : z_sp1 r p (c + 1) (p_by r L0) = z_sp1 r p c (p_by r L0) := by
        show (if r c = p then _ else _) = _
        rw [if_neg h]
      have e2 : p_l1 r p (c + 1) L0 = p_l1 r p c L0 := by
        show (if r c = p then _ else _) = _
        rw [if_neg h]
      rw [e1, e2, ih]
theorem p_sp {n : Nat} {r : Nat → Nat} : ∀ {m : Nat}, (∀ p, p < m → z_ct n (fun x => decide (r x = p)) ≠ 0) → z_sp n r m = p_by r (p_l n r m)
  | 0, _ => rfl
  | m + 1, h => by
    show z_sp1 r m n (z_sp n r m) = p_by r (p_l1 r m n (p_l n r m))
    rw [p_sp (m := m) (fun p hp => h p (by omega))]
    refine p_sp1 (fun hne => ?_) n
    cases m with
    | zero => exact absurd rfl hne
    | succ k =>
      have := ((p_l1_last (r := r) (p := k) (L0 := p_l n r k) n).2 (h k (by omega))).2
      show r ((p_l1 r k n (p_l n r k)).getLastD 0) ≠ k + 1
      omega
def p_pr (r : Nat → Nat) : List Nat → List (Nat × Nat)
  | [] => []
  | c :: t => (c, match t with
    | [] => 0
    | d :: _ => if r c = r d then 61 else 62) :: p_pr r t
theorem p_at_by {r tp : Nat → Nat} {fd : Nat} : ∀ (L : List Nat) (p : Nat), L ≠ [] → (∀ k, k < (p_by r L).length → tp (p + k) = (p_by r L).getD k 0) → p + (p_by r L).length ≤ fd → ¬ (p + (p_by r L).length < fd ∧ (tp (p + (p_by r L).length) = 62 ∨ tp (p + (p_by r L).length) = 61)) → p_at tp fd p (p_pr r L)
  | [], _, h, _, _, _ => absurd rfl h
  | [c], p, _, h1, h2, h3 => ⟨h2, h1 0 (Nat.zero_lt_one), Or.inl ⟨rfl, h3⟩⟩
  | c :: d :: t, p, _, h1, h2, h3 => by
    have hl : (p_by r (c :: d :: t)).length = (p_by r (d :: t)).length + 2 := rfl
    have hp : 1 ≤ (p_by r (d :: t)).length := Nat.succ_le_succ (Nat.zero_le _)
    rw [hl] at h2 h3
    have ih := p_at_by (r := r) (tp := tp) (fd := fd) (d :: t) (p + 1 + 1) (by simp) (fun k hk => by
      have := h1 (k + 1 + 1) (by rw [hl]; omega)
      rw [show p + 1 + 1 + k = p + (k + 1 + 1) by omega, this]
      rfl) (by omega) (by rw [show p + 1 + 1 + (p_by r (d :: t)).length = p + ((p_by r (d :: t)).length + 2) by omega]; exact h3)
    refine ⟨by omega, h1 0 (by rw [hl]; omega), Or.inr ⟨by simp [p_pr], by omega, ?_, ?_, ih⟩⟩
    · exact h1 1 (by rw [hl]; omega)
    · show (if r c = r d then 61 else 62) = 62 ∨ (if r c = r d then 61 else 62) = 61
      by_cases h : r c = r d
      · exact Or.inr (if_pos h)
      · exact Or.inl (if_neg h)
/-- places go up by one at most -/
def p_ch (r : Nat → Nat) : List Nat → Prop
  | [] => True
  | c :: t => (match t with
    | [] => True
    | d :: _ => r d = r c ∨ r d = r c + 1) ∧ p_ch r t
theorem p_go_r {r : Nat → Nat} : ∀ (t : List Nat) (c td : Nat) (q : Nat → Nat) (x : Nat), p_ch r (c :: t) → p_go (p_pr r (c :: t)) td (r c) q x = if x ∈ c :: t then r x else if td.testBit x = true then q x else r ((c :: t).getLastD 0) + 1
  | [], c, td, q, x, _ => by
    show (if (td ||| 2 ^ c).testBit x = true then (if x = c then r c else q x) else r c + 1) = if x ∈ [c] then r x else if td.testBit x = true then q x else r c + 1
    rw [Nat.testBit_or, Nat.testBit_two_pow]
    by_cases h : x = c
    · subst h
      rw [if_pos (by simp), if_pos rfl, if_pos (by simp)]
    · rw [if_neg h, if_neg (show ¬ x ∈ [c] by simpa using h), decide_eq_false (fun z => h z.symm), Bool.or_false]
  | d :: t, c, td, q, x, hc => by
    obtain ⟨h1, h2⟩ := hc
    have e : p_go (p_pr r (c :: d :: t)) td (r c) q = p_go (p_pr r (d :: t)) (td ||| 2 ^ c) (if (if r c = r d then 61 else 62) = 62 then r c + 1 else r c) (fun y => if y = c then r c else q y) := rfl
    have e2 : (if (if r c = r d then 61 else 62) = 62 then r c + 1 else r c) = r d := by
      by_cases h : r c = r d
      · rw [if_pos h]; exact h
      · rw [if_neg h, if_pos rfl]
        have h1' : r d = r c ∨ r d = r c + 1 := h1
        omega
    rw [e, e2, p_go_r t d _ _ x h2, Nat.testBit_or, Nat.testBit_two_pow]
    show _ = if x ∈ c :: d :: t then r x else if td.testBit x = true then q x else r ((d :: t).getLastD 0) + 1
    by_cases h : x ∈ d :: t
    · rw [if_pos h, if_pos (List.mem_cons_of_mem _ h)]
    · rw [if_neg h]
      by_cases hx : x = c
      · subst hx
        rw [if_pos List.mem_cons_self, if_pos rfl, if_pos (by simp)]
      · rw [if_neg hx, if_neg (fun z => (List.mem_cons.mp z).elim hx h), decide_eq_false (fun z => hx z.symm), Bool.or_false]
theorem p_l1_mem {r : Nat → Nat} {p x : Nat} {L : List Nat} : ∀ (c : Nat), x ∈ p_l1 r p c L ↔ x ∈ L ∨ (x < c ∧ r x = p)
  | 0 => ⟨fun h => Or.inl h, fun h => h.elim id (fun z => absurd z.1 (Nat.not_lt_zero x))⟩
  | c + 1 => by
    have ih := p_l1_mem (r := r) (p := p) (x := x) (L := L) c
    by_cases h : r c = p
    · have e2 : p_l1 r p (c + 1) L = p_l1 r p c L ++ [c] := by
        show (if r c = p then _ else _) = _
        rw [if_pos h]
      rw [e2, List.mem_append, ih, List.mem_singleton]
      constructor
      · rintro ((h1 | ⟨h1, h2⟩) | h1)
        · exact Or.inl h1
        · exact Or.inr ⟨by omega, h2⟩
        · exact Or.inr ⟨by omega, h1 ▸ h⟩
      · rintro (h1 | ⟨h1, h2⟩)
        · exact Or.inl (Or.inl h1)
        · rcases (by omega : x < c ∨ x = c) with h3 | h3
          · exact Or.inl (Or.inr ⟨h3, h2⟩)
          · exact Or.inr h3
    · have e2 : p_l1 r p (c + 1) L = p_l1 r p c L := by
        show (if r c = p then _ else _) = _
        rw [if_neg h]
      rw [e2, ih]
      constructor
      · rintro (h1 | ⟨h1, h2⟩)
        · exact Or.inl h1
        · exact Or.inr ⟨by omega, h2⟩
      · rintro (h1 | ⟨h1, h2⟩)
        · exact Or.inl h1
        · rcases (by omega : x < c ∨ x = c) with h3 | h3
          · exact Or.inr ⟨h3, h2⟩
          · exact absurd (h3 ▸ h2) h
theorem p_l_mem {n : Nat} {r : Nat → Nat} {x : Nat} : ∀ (m : Nat), x ∈ p_l n r m ↔ x < n ∧ r x < m
  | 0 => ⟨fun h => absurd h List.not_mem_nil, fun h => absurd h.2 (Nat.not_lt_zero _)⟩
  | m + 1 => by
    show x ∈ p_l1 r m n (p_l n r m) ↔ _
    rw [p_l1_mem, p_l_mem m]
    omega
theorem p_l1_len {r : Nat → Nat} {p : Nat} {L : List Nat} : ∀ (c : Nat), (p_l1 r p c L).length = L.length + z_ct c (fun x => decide (r x = p))
  | 0 => rfl
  | c + 1 => by
    have ih := p_l1_len (r := r) (p := p) (L := L) c
    by_cases h : r c = p
    · have e2 : p_l1 r p (c + 1) L = p_l1 r p c L ++ [c] := by
        show (if r c = p then _ else _) = _
        rw [if_pos h]
      rw [e2, List.length_append, ih, z_ct_T' (p := fun x => decide (r x = p)) (decide_eq_true h)]
      rfl
    · have e2 : p_l1 r p (c + 1) L = p_l1 r p c L := by
        show (if r c = p then _ else _) = _
        rw [if_neg h]
      rw [e2, ih, z_ct_F' (p := fun x => decide (r x = p)) (decide_eq_false h)]
theorem p_l_len {n : Nat} {r : Nat → Nat} : ∀ (m : Nat), (p_l n r m).length = z_ct n (fun x => decide (r x < m))
  | 0 => (z_ct_zero n).symm
  | m + 1 => by
    show (p_l1 r m n (p_l n r m)).length = _
    rw [p_l1_len, p_l_len m, z_ct_split]
theorem p_l1_nd {r : Nat → Nat} {p : Nat} {L : List Nat} (hL : L.Nodup) (hp : ∀ x ∈ L, r x ≠ p) : ∀ (c : Nat), (p_l1 r p c L).Nodup
  | 0 => hL
  | c + 1 => by
    have ih := p_l1_nd hL hp c
    by_cases h : r c = p
    · have e2 : p_l1 r p (c + 1) L = p_l1 r p c L ++ [c] := by
        show (if r c = p then _ else _) = _
        rw [if_pos h]
      rw [e2, List.nodup_append]
      refine ⟨ih, by simp, fun a ha b hb e => ?_⟩
      rw [List.mem_singleton] at hb
      subst hb
      subst e
      rcases (p_l1_mem a).mp ha with h1 | ⟨h1, _⟩
      · exact hp a h1 h
      · omega
    · have e2 : p_l1 r p (c + 1) L = p_l1 r p c L := by
        show (if r c = p then _ else _) = _
        rw [if_neg h]
      rw [e2]
      exact ih
theorem p_l_nd {n : Nat} {r : Nat → Nat} : ∀ (m : Nat), (p_l n r m).Nodup
  | 0 => List.nodup_nil
  | m + 1 => p_l1_nd (p_l_nd m) (fun x hx => by have := ((p_l_mem m).mp hx).2; omega) n
theorem p_ch_snoc {r : Nat → Nat} : ∀ (L : List Nat) (c : Nat), p_ch r L → (L ≠ [] → r c = r (L.getLastD 0) ∨ r c = r (L.getLastD 0) + 1) → p_ch r (L ++ [c])
  | [], _, _, _ => ⟨trivial, trivial⟩
  | [a], c, _, h2 => ⟨h2 (by simp), trivial, trivial⟩
  | a :: b :: t, c, h1, h2 => ⟨h1.1, p_ch_snoc (b :: t) c h1.2 (fun _ => h2 (by simp))⟩
theorem p_l1_ch {r : Nat → Nat} {p : Nat} {L : List Nat} (hL : p_ch r L) (h0 : L ≠ [] → r (L.getLastD 0) + 1 = p) : ∀ (c : Nat), p_ch r (p_l1 r p c L)
  | 0 => hL
  | c + 1 => by
    have ih := p_l1_ch hL h0 c
    by_cases h : r c = p
    · have e2 : p_l1 r p (c + 1) L = p_l1 r p c L ++ [c] := by
        show (if r c = p then _ else _) = _
        rw [if_pos h]
      rw [e2]
      refine p_ch_snoc _ c ih (fun hne => ?_)
      have hl := p_l1_last (r := r) (p := p) (L0 := L) c
      by_cases hz : z_ct c (fun x => decide (r x = p)) = 0
      · rw [hl.1 hz] at hne ⊢
        have := h0 hne
        exact Or.inr (by omega)
      · exact Or.inl (h.trans (hl.2 hz).2.symm)
    · have e2 : p_l1 r p (c + 1) L = p_l1 r p c L := by
        show (if r c = p then _ else _) = _
        rw [if_neg h]
      rw [e2]
      exact ih
theorem p_l_ch {n : Nat} {r : Nat → Nat} : ∀ {m : Nat}, (∀ p, p < m → z_ct n (fun x => decide (r x = p)) ≠ 0) → p_ch r (p_l n r m)
  | 0, _ => trivial
  | m + 1, h => by
    refine p_l1_ch (p_l_ch (m := m) (fun p hp => h p (by omega))) (fun hne => ?_) n
    cases m with
    | zero => exact absurd rfl hne
    | succ k =>
      have := ((p_l1_last (r := r) (p := k) (L0 := p_l n r k) n).2 (h k (by omega))).2
      show r ((p_l1 r k n (p_l n r k)).getLastD 0) + 1 = k + 1
      omega
theorem p_l_last {n : Nat} {r : Nat → Nat} {m : Nat} (h : ∀ p, p < m → z_ct n (fun x => decide (r x = p)) ≠ 0) (hm : 1 ≤ m) : p_l n r m ≠ [] ∧ r ((p_l n r m).getLastD 0) + 1 = m := by
  obtain ⟨k, rfl⟩ : ∃ k, m = k + 1 := ⟨m - 1, by omega⟩
  have := (p_l1_last (r := r) (p := k) (L0 := p_l n r k) n).2 (h k (by omega))
  exact ⟨this.1, congrArg (· + 1) this.2⟩
theorem p_hd_snoc {α : Type} : ∀ (L M : List α) (a : α), L ≠ [] → (L ++ M).headD a = L.headD a
  | [], _, _, h => absurd rfl h
  | _ :: _, _, _, _ => rfl
theorem p_l1_hd {r : Nat → Nat} {p : Nat} {L : List Nat} (hL : L ≠ []) : ∀ (c : Nat), p_l1 r p c L ≠ [] ∧ (p_l1 r p c L).headD 0 = L.headD 0
  | 0 => ⟨hL, rfl⟩
  | c + 1 => by
    have ih := p_l1_hd (r := r) (p := p) hL c
    by_cases h : r c = p
    · have e2 : p_l1 r p (c + 1) L = p_l1 r p c L ++ [c] := by
        show (if r c = p then _ else _) = _
        rw [if_pos h]
      rw [e2]
      exact ⟨by simp, (p_hd_snoc _ _ _ ih.1).trans ih.2⟩
    · have e2 : p_l1 r p (c + 1) L = p_l1 r p c L := by
        show (if r c = p then _ else _) = _
        rw [if_neg h]
      rw [e2]
      exact ih
theorem p_l_hd {n : Nat} {r : Nat → Nat} : ∀ {m : Nat}, (∀ p, p < m → z_ct n (fun x => decide (r x = p)) ≠ 0) → 1 ≤ m → r ((p_l n r m).headD 0) = 0
  | 0, _, h => absurd h (by omega)
  | 1, h, _ => by
    have h1 := (p_l_last (n := n) (r := r) (m := 1) h (Nat.le_refl 1)).1
    cases hL : p_l n r 1 with
    | nil => exact absurd hL h1
    | cons a t =>
      have := ((p_l_mem (n := n) (r := r) (x := a) 1).mp (by rw [hL]; exact List.mem_cons_self)).2
      show r a = 0
      omega
  | m + 2, h, _ => by
    have ih := p_l_hd (m := m + 1) (fun p hp => h p (by omega)) (by omega)
    have h1 := (p_l_last (n := n) (r := r) (m := m + 1) (fun p hp => h p (by omega)) (by omega)).1
    show r ((p_l1 r (m + 1) n (p_l n r (m + 1))).headD 0) = 0
    rw [(p_l1_hd h1 n).2]
    exact ih
/-- A TOLD RANKING IS READ BACK -/
theorem p_read {n fd m p : Nat} {r tp : Nat → Nat} (hn : n ≤ 8) (h : ∀ p, p < m → z_ct n (fun x => decide (r x = p)) ≠ 0) (hm : 1 ≤ m) (hr : ∀ c, c < n → r c ≤ m) (h1 : ∀ k, k < (z_sp n r m).length → tp (p + k) = (z_sp n r m).getD k 0) (h2 : p + (z_sp n r m).length ≤ fd) (h3 : ¬ (p + (z_sp n r m).length < fd ∧ (tp (p + (z_sp n r m).length) = 62 ∨ tp (p + (z_sp n r m).length) = 61))) :
    ∃ q, z_rp n tp fd 8 0 0 (fun _ => 0) p = (true, p + (2 * (p_l n r m).length - 1), q) ∧ ∀ c, c < n → q c = r c := by
  rw [p_sp h] at h1 h2 h3
  obtain ⟨g1, g2⟩ := p_l_last h hm
  have g3 := p_l_hd h hm
  have g4 := p_l_ch h
  have hat := p_at_by (p_l n r m) p g1 h1 h2 h3
  have hmem := fun x => p_l_mem (n := n) (r := r) (x := x) m
  have hnd := p_l_nd (n := n) (r := r) m
  have hlen : (p_l n r m).length ≤ 8 := by rw [p_l_len]; exact Nat.le_trans (z_ct_le _ n) hn
  have hfst : ∀ L : List Nat, (p_pr r L).map Prod.fst = L := by
    intro L
    induction L with
    | nil => rfl
    | cons a t ih => exact congrArg (a :: ·) ih
  have hpl : ∀ L : List Nat, (p_pr r L).length = L.length := fun L => by rw [← List.length_map (f := Prod.fst), hfst]
  have hin : ∀ e ∈ p_pr r (p_l n r m), e.1 ∈ p_l n r m := fun e he => by
    have := List.mem_map_of_mem (f := Prod.fst) he
    rw [hfst] at this
    exact this
  have hz := p_rp (n := n) (by omega) (p_pr r (p_l n r m)) 8 0 0 (fun _ => 0) p hat (by rw [hpl]; exact hlen) (fun e he => ((hmem e.1).mp (hin e he)).1) (by rw [hfst]; exact hnd) (fun e _ => Nat.zero_testBit e.1)
  rw [hpl] at hz
  refine ⟨_, hz, fun c hc => ?_⟩
  cases hL : p_l n r m with
  | nil => exact absurd hL g1
  | cons a t =>
    rw [hL] at g2 g3 g4
    have e := p_go_r (r := r) t a 0 (fun _ => 0) c g4
    have ea : r a = 0 := g3
    rw [ea] at e
    rw [e]
    by_cases hc2 : c ∈ a :: t
    · rw [if_pos hc2]
    · rw [if_neg hc2, if_neg (by rw [Nat.zero_testBit]; decide), g2]
      have h5 : ¬ (c < n ∧ r c < m) := fun z => hc2 (by rw [← hL]; exact (hmem c).mpr z)
      have := hr c hc
      omega
/-! ballots come: the rankings kept, the texts read -/
def y_15 (z : Int32) : Nat := z.toBitVec.toNat % 16
theorem y_15_eq (z : Int32) : z &&& nI 15 = nI (y_15 z) := by
  unfold y_15
  apply Int32.toBitVec_inj.mp
  rw [Int32.toBitVec_and]
  apply BitVec.eq_of_toNat_eq
  rw [BitVec.toNat_and]
  rw [show (nI 15).toBitVec.toNat = 2 ^ 4 - 1 from by decide +kernel, Nat.and_two_pow_sub_one_eq_mod]
  show z.toBitVec.toNat % 16 = _
  have h : z.toBitVec.toNat % 16 < 16 := Nat.mod_lt _ (by decide)
  generalize z.toBitVec.toNat % 16 = m at h ⊢
  have hh : ∀ m, m < 16 → m = (nI m).toBitVec.toNat := by decide +kernel
  exact hh m h
theorem y_15_lt (z : Int32) : y_15 z < 16 := Nat.mod_lt _ (by decide)
theorem y_15_ex (z : Int32) : ∃ w, w < 16 ∧ z &&& nI 15 = nI w := ⟨y_15 z, y_15_lt z, y_15_eq z⟩
theorem y_ct_le2 {p q : Nat → Bool} : ∀ {n : Nat}, (∀ i, i < n → p i = true → q i = true) → z_ct n p ≤ z_ct n q
  | 0, _ => Nat.le_refl _
  | n + 1, h => by
    have ih := y_ct_le2 (n := n) (fun i hi => h i (by omega))
    show z_ct n p + (if p n = true then 1 else 0) ≤ z_ct n q + (if q n = true then 1 else 0)
    by_cases e : p n = true
    · rw [if_pos e, if_pos (h n (by omega) e)]
      omega
    · rw [if_neg e]
      omega
/-- decimal figures, two at most -/
def y_dg (x : Nat) : List Nat := if x < 10 then [48 + x] else [48 + x / 10, 48 + x % 10]
theorem y_dg_len (x : Nat) : (y_dg x).length ≤ 2 ∧ 1 ≤ (y_dg x).length := by
  unfold y_dg
  split
  · exact ⟨(show 1 ≤ 2 by decide), (show 1 ≤ 1 by decide)⟩
  · exact ⟨(show 2 ≤ 2 by decide), (show 1 ≤ 2 by decide)⟩
theorem y_dg_c {x : Nat} (hx : x < 100) : ∀ c ∈ y_dg x, 1 ≤ c ∧ c < 128 := by
  intro c hc
  unfold y_dg at hc
  split at hc
  · simp only [List.mem_singleton] at hc
    omega
  · simp only [List.mem_cons, List.not_mem_nil, or_false] at hc
    omega
theorem c_J4_append_bf812_d {ε : y_Ev} {f : Nat → Int32} {a : Nat} {x : Nat} {v : Nat} {m : Nat} {L : List Nat} (hs : y_Sb L m f) (hx : x < 100) (hl : L.length + 2 ≤ 100) : y_C ε zmJ4_append_bf812 6 174 1 202 [.ref a, .int (nI x)] ((a, .inr (7, [.ref v, .int (nI 0), .int (nI 0), .int (nI L.length)])) :: [(v, .inl (y_c ε 2, m, .inl f))]) (fun r w2 => ∃ (v2 : Nat) (m2 : Nat) (f2 : Nat → Int32), r = some (.ref a) ∧ w2 = (a, .inr (7, [.ref v2, .int (nI 0), .int (nI 0), .int (nI ((L ++ y_dg x).length))])) :: [(v2, .inl (y_c ε 2, m2, .inl f2))] ∧ (y_Sb (L ++ y_dg x) m2 f2)) := by
  by_cases h : x < 10
  · have e : y_dg x = [48 + x] := if_pos h
    rw [e]
    exact c_J4_append_bf812_1 hs h (by omega)
  · have e : y_dg x = [48 + x / 10, 48 + x % 10] := if_neg h
    rw [e]
    exact c_J4_append_bf812_2 hs ⟨by omega, hx⟩ hl
theorem y_gd1 {A B : List Nat} {k : Nat} (h : k < A.length) : (A ++ B).getD k 0 = A.getD k 0 := by
  rw [List.getD_eq_getElem?_getD, List.getElem?_append_left h, ← List.getD_eq_getElem?_getD]
theorem y_gd2 {A B : List Nat} {k : Nat} : (A ++ B).getD (A.length + k) 0 = B.getD k 0 := by
  rw [List.getD_eq_getElem?_getD, List.getElem?_append_right (Nat.le_add_right _ _), Nat.add_sub_cancel_left, ← List.getD_eq_getElem?_getD]
/-- a text stands in what is fed, from p on -/
def y_at_ (tp : Nat → Nat) (p : Nat) (L : List Nat) : Prop := ∀ k, k < L.length → tp (p + k) = L.getD k 0
theorem y_at_0 {tp : Nat → Nat} {L : List Nat} (h : ∀ j, j < L.length → tp j = L.getD j 0) : y_at_ tp 0 L := fun k hk => by rw [Nat.zero_add]; exact h k hk
theorem y_at_l {tp : Nat → Nat} {p : Nat} {A B : List Nat} (h : y_at_ tp p (A ++ B)) : y_at_ tp p A := fun k hk => (h k (by rw [List.length_append]; omega)).trans (y_gd1 hk)
theorem y_at_r {tp : Nat → Nat} {p : Nat} {A B : List Nat} (h : y_at_ tp p (A ++ B)) : y_at_ tp (p + A.length) B := fun k hk => by
  have := h (A.length + k) (by rw [List.length_append]; omega)
  rw [y_gd2] at this
  rw [Nat.add_assoc]
  exact this
theorem y_at_1 {tp : Nat → Nat} {p c : Nat} {B : List Nat} (h : y_at_ tp p (c :: B)) : tp p = c := h 0 (Nat.succ_pos _)
/-- figures are read -/
theorem y_nm_dg {c fd p : Nat} {tp : Nat → Nat} (hc2 : c < 100) (h1 : y_at_ tp p (y_dg c)) (hfd : p + (y_dg c).length < fd) (h58 : ¬ (48 ≤ tp (p + (y_dg c).length) ∧ tp (p + (y_dg c).length) ≤ 57)) : z_nm tp fd 7 0 p = (c, p + (y_dg c).length) := by
  by_cases h : c < 10
  · have e : y_dg c = [48 + c] := if_pos h
    rw [e] at h1 hfd h58 ⊢
    have a0 : tp p = 48 + c := h1 0 Nat.zero_lt_one
    have hfd : p + 1 < fd := hfd
    have h58 : ¬ (48 ≤ tp (p + 1) ∧ tp (p + 1) ≤ 57) := h58
    show z_nm tp fd 7 0 p = (c, p + 1)
    rw [z_nm_c (k := c) (by omega) h a0, z_nm_no (fun z => h58 z.2)]
    rw [Nat.mul_zero, Nat.zero_add]
  · have e : y_dg c = [48 + c / 10, 48 + c % 10] := if_neg h
    rw [e] at h1 hfd h58 ⊢
    have a0 : tp p = 48 + c / 10 := h1 0 (show 0 < 2 by decide)
    have a1 : tp (p + 1) = 48 + c % 10 := h1 1 (show 1 < 2 by decide)
    have hl : p + 2 < fd := hfd
    have h58 : ¬ (48 ≤ tp (p + 1 + 1) ∧ tp (p + 1 + 1) ≤ 57) := h58
    show z_nm tp fd 7 0 p = (c, p + 1 + 1)
    rw [z_nm_c (k := c / 10) (by omega) (by omega) a0, z_nm_c (k := c % 10) (by omega) (by omega) a1, z_nm_no (fun z => h58 z.2)]
    rw [show 10 * (10 * 0 + c / 10) + c % 10 = c by omega]
/-- a told ranking is read back -/
theorem p_readE {n fd m p : Nat} {r tp : Nat → Nat} (hn2 : 2 ≤ n) (hn : n ≤ 8) (hRK : z_RK n r) (hm1 : 1 ≤ m) (hm2 : m ≤ z_mx n r + 1) (hm3 : z_mx n r ≤ m) (h1 : y_at_ tp p (z_sp n r m)) (h2 : p + (z_sp n r m).length ≤ fd) (h3 : ¬ (p + (z_sp n r m).length < fd ∧ (tp (p + (z_sp n r m).length) = 62 ∨ tp (p + (z_sp n r m).length) = 61))) : ∃ q, z_rp n tp fd 8 0 0 (fun _ => 0) p = (true, p + (z_sp n r m).length, q) ∧ ∀ c, c < n → q c = r c := by
  have h := p_read hn (fun p hp => y_ct_ne (by omega) hRK (by omega)) hm1 (fun c hc => Nat.le_trans (z_mx_ge hc) hm3) h1 h2 h3
  have e : (z_sp n r m).length = 2 * (p_l n r m).length - 1 := by rw [z_sp_len hn2 hRK hm2, p_l_len]
  rw [e]
  exact h
theorem y_least {P : Nat → Prop} : ∀ {m : Nat}, (∃ b, b < m ∧ P b) → ∃ b, b < m ∧ P b ∧ ∀ x, x < b → ¬ P x
  | 0, h => by
    obtain ⟨b, hb, -⟩ := h
    omega
  | m + 1, h => by
    by_cases e : ∃ b, b < m ∧ P b
    · obtain ⟨b, h1, h2, h3⟩ := y_least e
      exact ⟨b, by omega, h2, h3⟩
    · obtain ⟨b, h1, h2⟩ := h
      have hb : b = m := by
        rcases (by omega : b < m ∨ b = m) with z | z
        · exact absurd ⟨b, z, h2⟩ e
        · exact z
      exact ⟨b, h1, h2, fun x hx hp => e ⟨x, by omega, hp⟩⟩
theorem y_add_ex {n bm c : Nat} {cn q : Nat → Nat} {pl : Nat → Nat → Nat} (hb : bm < 40) (hcn : ∀ b, b < bm → cn b + c ≤ 1000000) : ∃ bm4 cn4 pl4, z_addS n bm cn pl q c bm4 cn4 pl4 := by
  by_cases h : ∃ b, b < bm ∧ z_same n pl q b
  · obtain ⟨b, h1, h2, h3⟩ := y_least h
    exact ⟨_, _, _, Or.inl ⟨b, h1, h2, h3, hcn b h1, rfl, rfl, rfl⟩⟩
  · exact ⟨_, _, _, Or.inr ⟨fun x hx hs => h ⟨x, hx, hs⟩, hb, rfl, rfl, rfl⟩⟩
theorem y_bts3 : y_bts 3 = [58] := by decide +kernel
/-- one ballot told: what the class answers -/
theorem y_comes1 {n bm c m : Nat} {tp r cn : Nat → Nat} {pl : Nat → Nat → Nat} {TL SL : List Nat} (hn2 : 2 ≤ n) (hn : n ≤ 8) (hRK : z_RK n r) (hm1 : 1 ≤ m) (hm2 : m ≤ z_mx n r + 1) (hm3 : z_mx n r ≤ m) (hc : 1 ≤ c) (hc2 : c < 100) (hT : TL = y_dg c ++ y_bts 3 ++ SL) (hS : SL = z_sp n r m) (htp : ∀ j, j < TL.length → tp j = TL.getD j 0) (hb : bm < 40) (hcn : ∀ b, b < bm → cn b + c ≤ 1000000) : ∃ bm4 cn4 pl4 q4, (∀ c, c < n → q4 c = r c) ∧ z_addS n bm cn pl q4 c bm4 cn4 pl4 ∧ z_pts n tp TL.length 1 0 0 bm cn pl (.inr (1, bm4, cn4, pl4)) := by
  have hat := y_at_0 htp
  have hlen : TL.length = (y_dg c).length + 1 + SL.length := by rw [hT, List.length_append, List.length_append, y_bts3]; rfl
  rw [hT] at hat
  have h58 := y_at_r (y_at_l hat)
  rw [y_bts3] at h58
  have h58 := y_at_1 h58
  have hsp := y_at_r hat
  rw [List.length_append, y_bts3, hS] at hsp
  rw [hS] at hlen
  have hsl : 1 ≤ (z_sp n r m).length := by
    rw [z_sp_len hn2 hRK hm2]
    have h1 := y_ct_ne (n := n) (x := 0) (by omega) hRK (Nat.zero_le _)
    have h2 : z_ct n (fun y => decide (r y = 0)) ≤ z_ct n (fun c => decide (r c < m)) := y_ct_le2 (fun i _ hi => decide_eq_true (by have := of_decide_eq_true hi; omega))
    omega
  obtain ⟨q4, e1, e2⟩ := p_readE (fd := TL.length) (p := 0 + ((y_dg c).length + 1)) hn2 hn hRK hm1 hm2 hm3 hsp (by omega) (by omega)
  obtain ⟨bm4, cn4, pl4, ha⟩ := y_add_ex (n := n) (q := q4) hb hcn
  refine ⟨bm4, cn4, pl4, q4, e2, ha, Or.inr ⟨c, q4, TL.length, ⟨0 + (y_dg c).length, ?_, ⟨hc, by omega⟩, ⟨by omega, h58⟩, ?_⟩, Or.inr ⟨bm4, cn4, pl4, ha, Or.inl ⟨rfl, rfl⟩⟩⟩⟩
  · exact y_nm_dg hc2 (y_at_l (y_at_l hat)) (by omega) (by rw [h58]; omega)
  · rw [show 0 + (y_dg c).length + 1 = 0 + ((y_dg c).length + 1) from rfl, e1, show 0 + ((y_dg c).length + 1) + (z_sp n r m).length = TL.length by omega]
theorem y_same_q {n b : Nat} {pl : Nat → Nat → Nat} {q r : Nat → Nat} (h : ∀ c, c < n → q c = r c) : z_same n pl q b ↔ z_same n pl r b := ⟨fun z c hc => (z c hc).trans (h c hc), fun z c hc => (z c hc).trans (h c hc).symm⟩
theorem y_addN {n bm c bm4 : Nat} {cn q r cn4 : Nat → Nat} {pl pl4 : Nat → Nat → Nat} (h : z_addS n bm cn pl q c bm4 cn4 pl4) (hq : ∀ c, c < n → q c = r c) (hno : ∀ x, x < bm → ¬ z_same n pl r x) : bm4 = bm + 1 ∧ cn4 = (fun x => if x = bm then c else cn x) ∧ pl4 = fun x => if x = bm then q else pl x := by
  rcases h with ⟨b, b1, b2, -⟩ | ⟨-, -, e1, e2, e3⟩
  · exact absurd ((y_same_q hq).mp b2) (hno b b1)
  · exact ⟨e1, e2, e3⟩
theorem y_addY {n bm b c bm4 : Nat} {cn q r cn4 : Nat → Nat} {pl pl4 : Nat → Nat → Nat} (h : z_addS n bm cn pl q c bm4 cn4 pl4) (hq : ∀ c, c < n → q c = r c) (hb : b < bm) (hs : z_same n pl r b) (hno : ∀ x, x < b → ¬ z_same n pl r x) : bm4 = bm ∧ cn4 = (fun x => if x = b then cn b + c else cn x) ∧ pl4 = pl := by
  rcases h with ⟨d, d1, d2, d3, d4, e1, e2, e3⟩ | ⟨h1, -⟩
  · have hd : d = b := by
      rcases Nat.lt_trichotomy d b with e | e | e
      · exact absurd ((y_same_q hq).mp d2) (hno d e)
      · exact e
      · exact absurd ((y_same_q hq).mpr hs) (d3 b e)
    subst hd
    exact ⟨e1, e2, e3⟩
  · exact absurd ((y_same_q hq).mpr hs) (h1 b hb)
theorem y_al_T {n b : Nat} {pl : Nat → Nat → Nat} {q : Nat → Nat} (h : ¬ (z_allb n (fun c => decide (pl b c = q c))).toNat = 0) : z_same n pl q b := z_bor_yes (v := (true && z_allb n (fun c => decide (pl b c = q c))).toNat) rfl (by rw [Bool.true_and]; exact h)
theorem y_al_F {n b : Nat} {pl : Nat → Nat → Nat} {q : Nat → Nat} (h : (z_allb n (fun c => decide (pl b c = q c))).toNat = 0) : ¬ z_same n pl q b := z_bor_no (v := (true && z_allb n (fun c => decide (pl b c = q c))).toNat) rfl (by rw [Bool.true_and]; exact h)
/-- the rankings kept, as cells of the world -/
def y_PW (ε : y_Ev) : Nat → (Nat → Nat) → (Nat → Nat → Int32) → va_W
  | 0, _, _ => []
  | k + 1, pa, pf => (pa k, .inl (y_c ε 0, 8, .inl (pf k))) :: y_PW ε k pa pf
def y_PX (ε : y_Ev) : Nat → (Nat → Nat) → (Nat → Nat → Int32) → Nat → va_W
  | 0, _, _, _ => []
  | k + 1, pa, pf, b => if k = b then y_PW ε k pa pf else (pa k, .inl (y_c ε 0, 8, .inl (pf k))) :: y_PX ε k pa pf b
theorem y_PW_at {ε : y_Ev} {pa : Nat → Nat} {pf : Nat → Nat → Int32} {b : Nat} : ∀ {m : Nat}, b < m → (y_PW ε m pa pf).Perm ([(pa b, .inl (y_c ε 0, 8, .inl (pf b)))] ++ y_PX ε m pa pf b)
  | 0, h => absurd h (Nat.not_lt_zero b)
  | m + 1, h => by
    by_cases e : m = b
    · subst e
      have e2 : y_PX ε (m + 1) pa pf m = y_PW ε m pa pf := if_pos rfl
      rw [e2]
      exact List.Perm.refl _
    · have ih := y_PW_at (ε := ε) (pa := pa) (pf := pf) (m := m) (show b < m by omega)
      have e2 : y_PX ε (m + 1) pa pf b = (pa m, .inl (y_c ε 0, 8, .inl (pf m))) :: y_PX ε m pa pf b := if_neg e
      rw [e2]
      exact (List.Perm.cons _ ih).trans (List.Perm.swap _ _ _)
theorem y_PW_congr {ε : y_Ev} {pa pa2 : Nat → Nat} {pf pf2 : Nat → Nat → Int32} : ∀ {m : Nat}, (∀ b, b < m → pa b = pa2 b ∧ pf b = pf2 b) → y_PW ε m pa pf = y_PW ε m pa2 pf2
  | 0, _ => rfl
  | m + 1, h => by
    show (pa m, _) :: y_PW ε m pa pf = (pa2 m, _) :: y_PW ε m pa2 pf2
    rw [y_PW_congr (m := m) (fun b hb => h b (by omega)), (h m (by omega)).1, (h m (by omega)).2]
theorem y_PW_put {ε : y_Ev} {m a : Nat} {f : Nat → Int32} {pa : Nat → Nat} {pf : Nat → Nat → Int32} : (y_PW ε (m + 1) (fun x => if x = m then a else pa x) (fun x => if x = m then f else pf x)).Perm ([(a, .inl (y_c ε 0, 8, .inl f))] ++ y_PW ε m pa pf) := by
  refine List.Perm.of_eq ?_
  show ((if m = m then a else pa m), .inl (y_c ε 0, 8, .inl (if m = m then f else pf m))) :: y_PW ε m _ _ = (a, .inl (y_c ε 0, 8, .inl f)) :: y_PW ε m pa pf
  rw [if_pos rfl, if_pos rfl, y_PW_congr (pa2 := pa) (pf2 := pf) (fun b hb => ⟨if_neg (by omega), if_neg (by omega)⟩)]
section YPW
variable {ε : y_Ev} {κ : y_K} {q : z_M} {fr lo mc ms nc ns : Nat} {ws ws2 : va_W} {σ : z_S}
theorem y_pm2 {b : va_W} (b1 b2 : va_W) (S : List va_W) (hp : b.Perm (b1 ++ b2)) (k : y_G ε κ q nc ns (y_J (b1 :: b2 :: S)) σ) : y_G ε κ q nc ns (y_J (b :: S)) σ := by
  refine y_perm ?_ k
  rw [y_J_eq, y_J_eq, List.flatten_cons, List.flatten_cons, List.flatten_cons, ← List.append_assoc]
  exact hp.symm.append_right _
theorem y_pm3 {b1 b2 : va_W} (b : va_W) (S : List va_W) (hp : b.Perm (b1 ++ b2)) (k : y_G ε κ q nc ns (y_J (b :: S)) σ) : y_G ε κ q nc ns (y_J (b1 :: b2 :: S)) σ := by
  refine y_perm ?_ k
  rw [y_J_eq, y_J_eq, List.flatten_cons, List.flatten_cons, List.flatten_cons, ← List.append_assoc]
  exact hp.append_right _
theorem y_adb {b : va_W} (S : List va_W) (hb : b = []) (k : y_G ε κ q nc ns (y_J (b :: S)) σ) : y_G ε κ q nc ns (y_J S) σ := by
  have e : y_J (b :: S) = y_J S := by rw [y_J_eq, y_J_eq, hb]; rfl
  rw [e] at k
  exact k
end YPW
/-- what has come: k ballots told, mn unlike rankings -/
def y_IV (n k mn : Nat) (cv : Nat → Nat) (pv : Nat → Nat → Nat) (pa : Nat → Nat) (pf : Nat → Nat → Int32) (g1 : Nat → Option Nat) (c1 : Nat → Int32) : Prop := (mn ≤ k ∧ (k = 0 ∨ 1 ≤ mn)) ∧ (∀ b, b < mn → g1 b = some (pa b)) ∧ (∀ b, b < mn → ∀ c, c < n → pf b c = nI (pv b c) ∧ pv b c < 8) ∧ (∀ b, b < mn → z_RK n (pv b)) ∧ (∀ b, b < mn → c1 b = nI (cv b) ∧ 1 ≤ cv b ∧ cv b ≤ 16 * k) ∧ (∀ b, b < mn → ∀ a, a < b → ¬ z_same n pv (pv b) a)
theorem y_IV_0 {n : Nat} {cv : Nat → Nat} {pv : Nat → Nat → Nat} {pa : Nat → Nat} {pf : Nat → Nat → Int32} {g1 : Nat → Option Nat} {c1 : Nat → Int32} : y_IV n 0 0 cv pv pa pf g1 c1 := ⟨⟨Nat.le_refl 0, Or.inl rfl⟩, fun _ h => absurd h (Nat.not_lt_zero _), fun _ h => absurd h (Nat.not_lt_zero _), fun _ h => absurd h (Nat.not_lt_zero _), fun _ h => absurd h (Nat.not_lt_zero _), fun _ h => absurd h (Nat.not_lt_zero _)⟩
theorem y_IV_Y {n k mn b c : Nat} {cv : Nat → Nat} {pv : Nat → Nat → Nat} {pa : Nat → Nat} {pf : Nat → Nat → Int32} {g1 : Nat → Option Nat} {c1 : Nat → Int32} (h : y_IV n k mn cv pv pa pf g1 c1) (hb : b < mn) (hc : 1 ≤ c ∧ c ≤ 16) : y_IV n (k + 1) mn (fun x => if x = b then cv b + c else cv x) pv pa pf g1 (upd c1 b (nI (cv b + c))) := by
  obtain ⟨⟨h1, h2⟩, h3, h4, h5, h6, h7⟩ := h
  refine ⟨⟨by omega, Or.inr (by omega)⟩, h3, h4, h5, fun x hx => ?_, h7⟩
  dsimp only [upd]
  have h8 := h6 x hx
  have h9 := h6 b hb
  by_cases e : x = b
  · rw [if_pos e, if_pos e]
    exact ⟨rfl, by omega, by omega⟩
  · rw [if_neg e, if_neg e]
    exact ⟨h8.1, h8.2.1, by omega⟩
theorem y_RK_congr {n : Nat} {q r : Nat → Nat} (h : z_RK n r) (e : ∀ c, c < n → q c = r c) : z_RK n q := by
  refine ⟨fun c hc => by rw [e c hc]; exact h.1 c hc, fun c hc p hp => ?_⟩
  rw [e c hc] at hp
  obtain ⟨d, hd, e2⟩ := h.2 c hc p hp
  exact ⟨d, hd, (e d hd).trans e2⟩
theorem y_IV_N {n k mn c a : Nat} {cv : Nat → Nat} {pv : Nat → Nat → Nat} {pa q r : Nat → Nat} {pf : Nat → Nat → Int32} {rf : Nat → Int32} {g1 : Nat → Option Nat} {c1 : Nat → Int32} (h : y_IV n k mn cv pv pa pf g1 c1) (hRK : z_RK n r) (hr : ∀ c, c < n → rf c = nI (r c) ∧ r c < 8) (hq : ∀ c, c < n → q c = r c) (hno : ∀ x, x < mn → ¬ z_same n pv r x) (hc : 1 ≤ c ∧ c ≤ 16) : y_IV n (k + 1) (mn + 1) (fun x => if x = mn then c else cv x) (fun x => if x = mn then q else pv x) (fun x => if x = mn then a else pa x) (fun x => if x = mn then rf else pf x) (va_up g1 mn (some a)) (upd (upd c1 mn (nI 0)) mn (nI c)) := by
  obtain ⟨⟨h1, h2⟩, h3, h4, h5, h6, h7⟩ := h
  refine ⟨⟨by omega, Or.inr (by omega)⟩, fun x hx => ?_, fun x hx d hd => ?_, fun x hx => ?_, fun x hx => ?_, fun x hx y hy hs => ?_⟩
  · show va_up g1 mn (some a) x = some (if x = mn then a else pa x)
    by_cases e : x = mn
    · rw [if_pos e]
      exact if_pos e
    · rw [if_neg e]
      exact (if_neg e).trans (h3 x (by omega))
  · dsimp only
    by_cases e : x = mn
    · rw [if_pos e, if_pos e, hq d hd]
      exact hr d hd
    · rw [if_neg e, if_neg e]
      exact h4 x (by omega) d hd
  · dsimp only
    by_cases e : x = mn
    · rw [if_pos e]
      exact y_RK_congr hRK hq
    · rw [if_neg e]
      exact h5 x (by omega)
  · dsimp only [upd]
    by_cases e : x = mn
    · rw [if_pos e, if_pos e]
      exact ⟨rfl, by omega, by omega⟩
    · rw [if_neg e, if_neg e, if_neg e]
      have h8 := h6 x (by omega)
      exact ⟨h8.1, h8.2.1, by omega⟩
  · have hy2 : ¬ y = mn := by omega
    have hs2 : ∀ d, d < n → pv y d = (if x = mn then q else pv x) d := fun d hd => by
      have h8 : (if y = mn then q else pv y) d = (if x = mn then q else pv x) d := hs d hd
      rw [if_neg hy2] at h8
      exact h8
    by_cases e : x = mn
    · rw [if_pos e] at hs2
      exact hno y (by omega) (fun d hd => (hs2 d hd).trans (hq d hd))
    · rw [if_neg e] at hs2
      exact h7 x (by omega) y hy hs2
/-! what is fed is told -/
theorem y_txc {A B : List Nat} (h1 : ∀ c ∈ A, 1 ≤ c) (h2 : ∀ c ∈ B, 1 ≤ c) : ∀ c ∈ A ++ B, 1 ≤ c := fun c hc => (List.mem_append.mp hc).elim (h1 c) (h2 c)
theorem y_bts_c : ∀ i, i < 13 → ∀ c ∈ y_bts i, 1 ≤ c := by decide +kernel
theorem y_sp1_c {q : Nat → Nat} {p : Nat} {L : List Nat} (h : ∀ x ∈ L, 1 ≤ x) : ∀ c, ∀ x ∈ z_sp1 q p c L, 1 ≤ x
  | 0 => h
  | c + 1 => by
    have ih := y_sp1_c (q := q) (p := p) h c
    by_cases e : q c = p
    · rw [y_sp1_yes e]
      refine y_txc ?_ (fun x hx => by have := List.mem_singleton.mp hx; omega)
      split
      · intro x hx
        cases hx
      · refine y_txc ih (fun x hx => ?_)
        have := List.mem_singleton.mp hx
        split at this <;> omega
    · rw [y_sp1_no e]
      exact ih
theorem y_sp_c {n : Nat} {q : Nat → Nat} : ∀ m, ∀ x ∈ z_sp n q m, 1 ≤ x
  | 0 => fun x hx => by cases hx
  | m + 1 => y_sp1_c (y_sp_c m) n
theorem y_sp_16 {n m : Nat} {q : Nat → Nat} (hn2 : 2 ≤ n) (hn : n ≤ 8) (h : z_RK n q) (hm : m ≤ z_mx n q + 1) : (z_sp n q m).length ≤ 16 := by
  rw [z_sp_len hn2 h hm]
  have := z_ct_le (fun c => decide (q c < m)) n
  omega
theorem y_mx_lt {q : Nat → Nat} {n : Nat} (hn : 0 < n) (h : ∀ c, c < n → q c < 8) : z_mx n q < 8 := by
  obtain ⟨c, hc, e⟩ := z_mx_at (q := q) hn
  rw [← e]
  exact h c hc
set_option maxHeartbeats 4000000 in
set_option maxRecDepth 1000000 in
theorem c_L_comes {ε : y_Ev} {pg : Nat → Option Nat} {cg : Nat → Int32} {n : Nat} {parts : Nat} {pA : Nat} {ct : Nat} {outs : Nat} {ms : Nat} {dr : Nat → Nat} {cn : Nat → Nat} {pl : Nat → Nat → Nat} {I : Option (Nat × Nat × Nat × Nat × (Nat → Nat) × (Nat → Nat) × (Nat → Nat → Nat))} {tp : Nat → Nat} {wr : Nat} {pp : Nat → Int32} {sz : Nat → Nat} {ce : Nat → Int64} {ad : Nat → Nat} {hX : List z_E} (hCI : y_CI n outs 0 ms dr cn pl I 0 tp wr pp sz ce hX) (hn2 : 2 ≤ n) (hn : n ≤ 8) (hp : 1 ≤ parts ∧ parts ≤ 10) (hL : y_L ε ≤ 260) : y_C ε zmL_comes 8 384 6000 610000 [.ref (ad 0), .ref (y_a ε 42), .int (nI 1), .int (nI n), .int (nI parts), .ref pA, .ref ct] ((pA, .inl (y_c ε 3, 12, .inr (.inr (.inr (.inr pg))))) :: ((ct, .inl (y_c ε 0, 12, .inl cg)) :: (z_W (y_c ε) ad hX))) (fun r w2 => ∃ (mn : Nat) (cv : Nat → Nat) (pv : Nat → Nat → Nat) (pa : Nat → Nat) (pf : Nat → Nat → Int32) (tq : Nat → Nat) (g2 : Nat → Option Nat) (c2 : Nat → Int32) (h2 : List z_E), r = some (.int (nI mn)) ∧ w2 = (pA, .inl (y_c ε 3, 12, .inr (.inr (.inr (.inr g2))))) :: ((ct, .inl (y_c ε 0, 12, .inl c2)) :: ((y_PW ε mn pa pf) ++ (z_W (y_c ε) ad h2))) ∧ (y_CI n outs mn ms dr cv pv I 0 tq wr pp sz ce h2) ∧ (y_IV n parts mn cv pv pa pf g2 c2)) := by
  refine y_start (y := 146) rfl rfl (fun κ hC hT hN0 => ?_)
  refine y_steps hC 4 (σ' := (6, [(8, .int (nI 0)), (7, .int (nI 0)), (0, .ref (ad 0)), (1, .ref (y_a ε 42)), (2, .int (nI 1)), (3, .int (nI n)), (4, .int (nI parts)), (5, .ref pA), (6, .ref ct)], [], [])) rfl ?_
  refine y_adb (b := y_PW ε 0 (fun _ => 0) (fun _ _ => 0)) [[(pA, .inl (y_c ε 3, 12, .inr (.inr (.inr (.inr pg)))))], [(ct, .inl (y_c ε 0, 12, .inl cg))], z_W (y_c ε) ad hX] rfl ?_
  refine y_steps hC 0 (σ' := (6, [(8, .int (nI 0)), (7, .int (nI 0)), (0, .ref (ad 0)), (1, .ref (y_a ε 42)), (2, .int (nI 1)), (3, .int (nI n)), (4, .int (nI parts)), (5, .ref pA), (6, .ref ct)], [], [])) rfl ?_
  refine y_mv [y_PW ε 0 (fun _ => 0) (fun _ _ => 0), [(pA, .inl (y_c ε 3, 12, .inr (.inr (.inr (.inr pg)))))]] ([(ct, .inl (y_c ε 0, 12, .inl cg))]) [z_W (y_c ε) ad hX] ?_
  refine y_mv [[(ct, .inl (y_c ε 0, 12, .inl cg))], y_PW ε 0 (fun _ => 0) (fun _ _ => 0)] ([(pA, .inl (y_c ε 3, 12, .inr (.inr (.inr (.inr pg)))))]) [z_W (y_c ε) ad hX] ?_
  have loop_6 : ∀ (z_6 : Nat) (mn : Nat) (k : Nat) (h6 : List z_E) (g1 : Nat → Option Nat) (c1 : Nat → Int32) (cv : Nat → Nat) (pv : Nat → Nat → Nat) (pa : Nat → Nat) (pf : Nat → Nat → Int32) (tq : Nat → Nat), parts - k < z_6 → ((y_CI n outs mn ms dr cv pv I 0 tq wr pp sz ce h6) ∧ (k ≤ parts ∧ y_IV n k mn cv pv pa pf g1 c1)) → y_G ε κ zmL_comes (600 * k) (61000 * k) ((pA, .inl (y_c ε 3, 12, .inr (.inr (.inr (.inr g1))))) :: ((ct, .inl (y_c ε 0, 12, .inl c1)) :: ((y_PW ε mn pa pf) ++ (z_W (y_c ε) ad h6)))) (6, [(0, .ref (ad 0)), (1, .ref (y_a ε 42)), (2, .int (nI 1)), (3, .int (nI n)), (4, .int (nI parts)), (5, .ref pA), (6, .ref ct), (7, .int (nI mn)), (8, .int (nI k))], [], []) := by
    intro z_6
    induction z_6 with
    | zero => intro mn k h6 g1 c1 cv pv pa pf tq hm_6 _; exact absurd hm_6 (Nat.not_lt_zero _)
    | succ z_6 ih_6 =>
      intro mn k h6 g1 c1 cv pv pa pf tq hm_6 hi_6
      obtain ⟨h_cl6, hi_6⟩ := hi_6
      obtain ⟨l1, hIV⟩ := hi_6; have hIV1 := hIV.1
      refine y_steps hC 2 (σ' := (10, [(0, .ref (ad 0)), (1, .ref (y_a ε 42)), (2, .int (nI 1)), (3, .int (nI n)), (4, .int (nI parts)), (5, .ref pA), (6, .ref ct), (7, .int (nI mn)), (8, .int (nI k))], [.int (nI parts), .int (nI k)], [])) rfl ?_
      refine y_if hC (c := nI parts ≤ nI k) rfl (fun c_10 => ?_) (fun c_10 => ?_)
      · skip
        rw [nI_leI (by omega) (by omega)] at c_10
        refine y_steps hC 1 (σ' := (199, [(0, .ref (ad 0)), (1, .ref (y_a ε 42)), (2, .int (nI 1)), (3, .int (nI n)), (4, .int (nI parts)), (5, .ref pA), (6, .ref ct), (7, .int (nI mn)), (8, .int (nI k))], [.int (nI mn)], [])) rfl ?_
        exact y_iret hC hT rfl rfl (by omega) (by omega) ⟨mn, cv, pv, pa, pf, tq, g1, c1, h6, (by rfl), (by rfl), (by exact h_cl6), (by exact (show k = parts by omega) ▸ hIV)⟩
      · skip
        rw [nI_leI (by omega) (by omega)] at c_10
        refine y_steps hC 3 (σ' := (17, [(0, .ref (ad 0)), (1, .ref (y_a ε 42)), (2, .int (nI 1)), (3, .int (nI n)), (4, .int (nI parts)), (5, .ref pA), (6, .ref ct), (7, .int (nI mn)), (8, .int (nI k))], [.int (nI k), .int (nI 1), .ref (y_a ε 42)], [])) rfl ?_
        refine y_add hC (1 + k) rfl (by first | rfl | omega) ?_
        refine y_steps hC 0 (σ' := (18, [(0, .ref (ad 0)), (1, .ref (y_a ε 42)), (2, .int (nI 1)), (3, .int (nI n)), (4, .int (nI parts)), (5, .ref pA), (6, .ref ct), (7, .int (nI mn)), (8, .int (nI k))], [.int (nI (1 + k)), .ref (y_a ε 42)], [])) rfl ?_
        refine y_spl [] [[(pA, .inl (y_c ε 3, 12, .inr (.inr (.inr (.inr g1)))))], [(ct, .inl (y_c ε 0, 12, .inl c1))], y_PW ε mn pa pf, z_W (y_c ε) ad h6] ?_
        refine y_callS (pc := 18) (st := []) (y := 140) (idx := 45) (w := y_J []) (wr := y_J [[(pA, .inl (y_c ε 3, 12, .inr (.inr (.inr (.inr g1)))))], [(ct, .inl (y_c ε 0, 12, .inl c1))], y_PW ε mn pa pf, z_W (y_c ε) ad h6]) (av := [.ref (y_a ε 42), .int (nI (1 + k))]) hC rfl rfl (z_t3 (i := 127) rfl rfl) (z_t3 (i := 128) rfl rfl) (z_t1 (i := 0) rfl rfl) (c_L_cell (i := 1 + k) (by first | assumption | omega | rfl | trivial) (by first | assumption | omega | rfl | trivial)) (show _ = some 2 from by decide +kernel) rfl rfl (by omega) (by omega) rfl (fun r_18 w_18 p_18 => ?_)
        obtain ⟨v_18, rfl, ew_18⟩ := p_18
        replace ew_18 := ew_18.symm
        subst ew_18
        refine y_cmb [] [[(pA, .inl (y_c ε 3, 12, .inr (.inr (.inr (.inr g1)))))], [(ct, .inl (y_c ε 0, 12, .inl c1))], y_PW ε mn pa pf, z_W (y_c ε) ad h6] ?_
        refine y_steps hC 3 (σ' := (26, [(9, .int v_18), (0, .ref (ad 0)), (1, .ref (y_a ε 42)), (2, .int (nI 1)), (3, .int (nI n)), (4, .int (nI parts)), (5, .ref pA), (6, .ref ct), (7, .int (nI mn)), (8, .int (nI k))], [.int (nI n), .int v_18], [])) rfl ?_
        refine y_spl [] [[(pA, .inl (y_c ε 3, 12, .inr (.inr (.inr (.inr g1)))))], [(ct, .inl (y_c ε 0, 12, .inl c1))], y_PW ε mn pa pf, z_W (y_c ε) ad h6] ?_
        refine y_callS (pc := 26) (st := []) (y := 142) (idx := 51) (w := y_J []) (wr := y_J [[(pA, .inl (y_c ε 3, 12, .inr (.inr (.inr (.inr g1)))))], [(ct, .inl (y_c ε 0, 12, .inl c1))], y_PW ε mn pa pf, z_W (y_c ε) ad h6]) (av := [.int v_18, .int (nI n)]) hC rfl rfl (z_t3 (i := 183) rfl rfl) (z_t3 (i := 184) rfl rfl) (z_t1 (i := 0) rfl rfl) (c_L_ranking (q := v_18) (n := n) (by first | assumption | omega | rfl | trivial) (by first | assumption | omega | rfl | trivial)) (show _ = some 2 from by decide +kernel) rfl rfl (by omega) (by omega) rfl (fun r_26 w_26 p_26 => ?_)
        obtain ⟨a_26, rf_26, rk_26, rfl, ew_26, q_26⟩ := p_26
        replace ew_26 := ew_26.symm
        subst ew_26
        refine y_cmb [[(a_26, .inl (y_c ε 0, 8, .inl rf_26))]] [[(pA, .inl (y_c ε 3, 12, .inr (.inr (.inr (.inr g1)))))], [(ct, .inl (y_c ε 0, 12, .inl c1))], y_PW ε mn pa pf, z_W (y_c ε) ad h6] ?_
        have hmx := y_mx_lt (q := rk_26) (n := n) (by omega) (fun c hc => (q_26.1 c hc).2)
        refine y_steps hC 6 (σ' := (39, [(10, .ref a_26), (9, .int v_18), (0, .ref (ad 0)), (1, .ref (y_a ε 42)), (2, .int (nI 1)), (3, .int (nI n)), (4, .int (nI parts)), (5, .ref pA), (6, .ref ct), (7, .int (nI mn)), (8, .int (nI k))], [.int (nI 15), .int ((v_18 >>> ((nI 24) &&& 31))), .int (nI 1)], [])) rfl ?_
        obtain ⟨w39, hw39, ew39⟩ := y_15_ex (v_18 >>> (nI 24 &&& 31))
        have ey_39 : (((v_18 >>> ((nI 24) &&& 31))) &&& (nI 15)) = nI w39 := ew39
        refine y_one hC (σ' := (40, [(10, .ref a_26), (9, .int v_18), (0, .ref (ad 0)), (1, .ref (y_a ε 42)), (2, .int (nI 1)), (3, .int (nI n)), (4, .int (nI parts)), (5, .ref pA), (6, .ref ct), (7, .int (nI mn)), (8, .int (nI k))], [.int ((((v_18 >>> ((nI 24) &&& 31))) &&& (nI 15))), .int (nI 1)], [])) rfl ?_
        rw [ey_39]
        refine y_steps hC 0 (σ' := (40, [(10, .ref a_26), (9, .int v_18), (0, .ref (ad 0)), (1, .ref (y_a ε 42)), (2, .int (nI 1)), (3, .int (nI n)), (4, .int (nI parts)), (5, .ref pA), (6, .ref ct), (7, .int (nI mn)), (8, .int (nI k))], [.int (nI w39), .int (nI 1)], [])) rfl ?_
        obtain ⟨c39, hc39, ec39⟩ : ∃ c : Nat, (1 ≤ c ∧ c ≤ 16) ∧ nI 1 + nI w39 = nI c := ⟨1 + w39, by omega, nI_add 1 w39⟩
        have ey_40 : ((nI 1) + (nI w39)) = nI c39 := ec39
        refine y_one hC (σ' := (41, [(10, .ref a_26), (9, .int v_18), (0, .ref (ad 0)), (1, .ref (y_a ε 42)), (2, .int (nI 1)), (3, .int (nI n)), (4, .int (nI parts)), (5, .ref pA), (6, .ref ct), (7, .int (nI mn)), (8, .int (nI k))], [.int (((nI 1) + (nI w39)))], [])) rfl ?_
        rw [ey_40]
        refine y_steps hC 2 (σ' := (44, [(11, .int (nI c39)), (10, .ref a_26), (9, .int v_18), (0, .ref (ad 0)), (1, .ref (y_a ε 42)), (2, .int (nI 1)), (3, .int (nI n)), (4, .int (nI parts)), (5, .ref pA), (6, .ref ct), (7, .int (nI mn)), (8, .int (nI k))], [.ref (ad 0)], [])) rfl ?_
        refine y_new (ci := 7) (fs := [.null, .int (nI 0), .int (nI 0), .int (nI 0)]) hC rfl tyJ4 tyJ4_ok (z_t3 (i := 193) rfl rfl) (z_t3 (i := 194) rfl rfl) (z_t1 (i := 13) rfl rfl) (fun j hj => by match j, hj with | 0, _ => rfl | 1, _ => rfl | 2, _ => rfl | 3, _ => rfl | j + 4, hj => exact absurd hj (by omega)) (by omega) (by omega) rfl (fun q44 => ?_)
        refine y_steps hC 1 (σ' := (48, [(11, .int (nI c39)), (10, .ref a_26), (9, .int v_18), (0, .ref (ad 0)), (1, .ref (y_a ε 42)), (2, .int (nI 1)), (3, .int (nI n)), (4, .int (nI parts)), (5, .ref pA), (6, .ref ct), (7, .int (nI mn)), (8, .int (nI k))], [.ref q44, .ref q44, .ref (ad 0)], [])) rfl ?_
        refine y_spl [[(q44, .inr (7, [.null, .int (nI 0), .int (nI 0), .int (nI 0)]))]] [[(a_26, .inl (y_c ε 0, 8, .inl rf_26))], [(pA, .inl (y_c ε 3, 12, .inr (.inr (.inr (.inr g1)))))], [(ct, .inl (y_c ε 0, 12, .inl c1))], y_PW ε mn pa pf, z_W (y_c ε) ad h6] ?_
        refine y_callI (pc := 48) (st := [.ref q44, .ref (ad 0)]) (y := 125) (idx := 29) (w := y_J [[(q44, .inr (7, [.null, .int (nI 0), .int (nI 0), .int (nI 0)]))]]) (wr := y_J [[(a_26, .inl (y_c ε 0, 8, .inl rf_26))], [(pA, .inl (y_c ε 3, 12, .inr (.inr (.inr (.inr g1)))))], [(ct, .inl (y_c ε 0, 12, .inl c1))], y_PW ε mn pa pf, z_W (y_c ε) ad h6]) (av := []) hC rfl rfl rfl rfl (z_t3 (i := 195) rfl rfl) (z_t3 (i := 196) rfl rfl) (z_t1 (i := 13) rfl rfl) (c_J4_init_da8c8 (a := q44) ) (show _ = some 0 from by decide +kernel) rfl rfl (by omega) (by omega) rfl (fun r_48 w_48 p_48 => ?_)
        obtain ⟨v2_48, rfl, ew_48⟩ := p_48
        replace ew_48 := ew_48.symm
        subst ew_48
        refine y_cmb [[(q44, .inr (7, [.ref v2_48, .int (nI 0), .int (nI 0), .int (nI 0)]))], [(v2_48, .inl (y_c ε 2, 16, .inl (fun _ => 0)))]] [[(a_26, .inl (y_c ε 0, 8, .inl rf_26))], [(pA, .inl (y_c ε 3, 12, .inr (.inr (.inr (.inr g1)))))], [(ct, .inl (y_c ε 0, 12, .inl c1))], y_PW ε mn pa pf, z_W (y_c ε) ad h6] ?_
        refine y_steps hC 1 (σ' := (53, [(11, .int (nI c39)), (10, .ref a_26), (9, .int v_18), (0, .ref (ad 0)), (1, .ref (y_a ε 42)), (2, .int (nI 1)), (3, .int (nI n)), (4, .int (nI parts)), (5, .ref pA), (6, .ref ct), (7, .int (nI mn)), (8, .int (nI k))], [.int (nI c39), .ref q44, .ref (ad 0)], [])) rfl ?_
        refine y_spl [[(q44, .inr (7, [.ref v2_48, .int (nI 0), .int (nI 0), .int (nI 0)]))], [(v2_48, .inl (y_c ε 2, 16, .inl (fun _ => 0)))]] [[(a_26, .inl (y_c ε 0, 8, .inl rf_26))], [(pA, .inl (y_c ε 3, 12, .inr (.inr (.inr (.inr g1)))))], [(ct, .inl (y_c ε 0, 12, .inl c1))], y_PW ε mn pa pf, z_W (y_c ε) ad h6] ?_
        refine y_callV (b := q44) (pc := 53) (st := [.ref (ad 0)]) (y := 128) (idx := 38) (w := y_J [[(q44, .inr (7, [.ref v2_48, .int (nI 0), .int (nI 0), .int (nI 0)]))], [(v2_48, .inl (y_c ε 2, 16, .inl (fun _ => 0)))]]) (wr := y_J [[(a_26, .inl (y_c ε 0, 8, .inl rf_26))], [(pA, .inl (y_c ε 3, 12, .inr (.inr (.inr (.inr g1)))))], [(ct, .inl (y_c ε 0, 12, .inl c1))], y_PW ε mn pa pf, z_W (y_c ε) ad h6]) (av := [.int (nI c39)]) hC rfl rfl rfl (z_t4 (i := 81) rfl rfl) (z_t4 (i := 82) rfl rfl) (z_t4 (i := 83) rfl rfl) (z_t1 (i := 13) rfl rfl) (fun H locs hP hS => y_rW (ci := 7) (k := 0) hC rfl rfl H locs hP hS) (c_J4_append_bf812_d (f := fun _ => 0) (a := q44) (x := c39) (v := v2_48) (m := 16) (L := []) (by exact y_Sb_nil) (by first | assumption | omega | rfl | trivial) (by show 0 + 2 ≤ 100; omega)) (show _ = some 1 from by decide +kernel) rfl rfl (by omega) (by omega) rfl (fun r_53 w_53 p_53 => ?_)
        obtain ⟨v2_53, m2_53, f2_53, rfl, ew_53, q_53⟩ := p_53
        replace ew_53 := ew_53.symm
        subst ew_53
        refine y_cmb [[(q44, .inr (7, [.ref v2_53, .int (nI 0), .int (nI 0), .int (nI ((y_dg c39).length))]))], [(v2_53, .inl (y_c ε 2, m2_53, .inl f2_53))]] [[(a_26, .inl (y_c ε 0, 8, .inl rf_26))], [(pA, .inl (y_c ε 3, 12, .inr (.inr (.inr (.inr g1)))))], [(ct, .inl (y_c ε 0, 12, .inl c1))], y_PW ε mn pa pf, z_W (y_c ε) ad h6] ?_
        refine y_steps hC 0 (σ' := (56, [(11, .int (nI c39)), (10, .ref a_26), (9, .int v_18), (0, .ref (ad 0)), (1, .ref (y_a ε 42)), (2, .int (nI 1)), (3, .int (nI n)), (4, .int (nI parts)), (5, .ref pA), (6, .ref ct), (7, .int (nI mn)), (8, .int (nI k))], [.ref q44, .ref (ad 0)], [])) rfl ?_
        refine y_ldS (i := 3) hC rfl (by decide) rfl ?_
        refine y_steps hC 0 (σ' := (58, [(11, .int (nI c39)), (10, .ref a_26), (9, .int v_18), (0, .ref (ad 0)), (1, .ref (y_a ε 42)), (2, .int (nI 1)), (3, .int (nI n)), (4, .int (nI parts)), (5, .ref pA), (6, .ref ct), (7, .int (nI mn)), (8, .int (nI k))], [.ref (y_a ε 3), .ref q44, .ref (ad 0)], [])) rfl ?_
        refine y_spl [[(q44, .inr (7, [.ref v2_53, .int (nI 0), .int (nI 0), .int (nI ((y_dg c39).length))]))], [(v2_53, .inl (y_c ε 2, m2_53, .inl f2_53))]] [[(a_26, .inl (y_c ε 0, 8, .inl rf_26))], [(pA, .inl (y_c ε 3, 12, .inr (.inr (.inr (.inr g1)))))], [(ct, .inl (y_c ε 0, 12, .inl c1))], y_PW ε mn pa pf, z_W (y_c ε) ad h6] ?_
        refine y_callV (b := q44) (pc := 58) (st := [.ref (ad 0)]) (y := 126) (idx := 30) (w := y_J [[(q44, .inr (7, [.ref v2_53, .int (nI 0), .int (nI 0), .int (nI ((y_dg c39).length))]))], [(v2_53, .inl (y_c ε 2, m2_53, .inl f2_53))]]) (wr := y_J [[(a_26, .inl (y_c ε 0, 8, .inl rf_26))], [(pA, .inl (y_c ε 3, 12, .inr (.inr (.inr (.inr g1)))))], [(ct, .inl (y_c ε 0, 12, .inl c1))], y_PW ε mn pa pf, z_W (y_c ε) ad h6]) (av := [.ref (y_a ε 3)]) hC rfl rfl rfl (z_t3 (i := 224) rfl rfl) (z_t3 (i := 225) rfl rfl) (z_t3 (i := 226) rfl rfl) (z_t1 (i := 13) rfl rfl) (fun H locs hP hS => y_rW (ci := 7) (k := 0) hC rfl rfl H locs hP hS) (c_J4_append_15ec4 (f := f2_53) (a := q44) (t_a := y_a ε 3) (t_v := y_a ε (3 + 20)) (t_f := (fun j => (y_byt.getD 3 []).getD j 0)) (t_L := (y_bts 3)) (t_B := []) (v := v2_53) (m := m2_53) (L := (y_dg c39)) (y_Tk ε 3 (by decide)) (by exact q_53) (by have hdg := (y_dg_len c39).1; rw [y_bts3]; show _ + 1 ≤ 100; omega)) (show _ = some 1 from by decide +kernel) rfl rfl (by omega) (by omega) rfl (fun r_58 w_58 p_58 => ?_)
        obtain ⟨v2_58, m2_58, f2_58, rfl, ew_58, q_58⟩ := p_58
        replace ew_58 := ew_58.symm
        subst ew_58
        refine y_cmb [[(q44, .inr (7, [.ref v2_58, .int (nI 0), .int (nI 0), .int (nI ((((y_dg c39)) ++ ((y_bts 3))).length))]))], [(v2_58, .inl (y_c ε 2, m2_58, .inl f2_58))]] [[(a_26, .inl (y_c ε 0, 8, .inl rf_26))], [(pA, .inl (y_c ε 3, 12, .inr (.inr (.inr (.inr g1)))))], [(ct, .inl (y_c ε 0, 12, .inl c1))], y_PW ε mn pa pf, z_W (y_c ε) ad h6] ?_
        refine y_steps hC 5 (σ' := (69, [(11, .int (nI c39)), (10, .ref a_26), (9, .int v_18), (0, .ref (ad 0)), (1, .ref (y_a ε 42)), (2, .int (nI 1)), (3, .int (nI n)), (4, .int (nI parts)), (5, .ref pA), (6, .ref ct), (7, .int (nI mn)), (8, .int (nI k))], [.int ((v_18 &&& (nI 268435456))), .int (nI n), .ref a_26, .ref q44, .ref (ad 0)], [])) rfl ?_
        refine y_if hC (c := ¬ (v_18 &&& (nI 268435456)) = 0) rfl (fun c_69 => ?_) (fun c_69 => ?_)
        · skip
          refine y_steps hC 2 (σ' := (84, [(11, .int (nI c39)), (10, .ref a_26), (9, .int v_18), (0, .ref (ad 0)), (1, .ref (y_a ε 42)), (2, .int (nI 1)), (3, .int (nI n)), (4, .int (nI parts)), (5, .ref pA), (6, .ref ct), (7, .int (nI mn)), (8, .int (nI k))], [.int (nI n), .ref a_26, .int (nI n), .ref a_26, .ref q44, .ref (ad 0)], [])) rfl ?_
          refine y_mv [[(q44, .inr (7, [.ref v2_58, .int (nI 0), .int (nI 0), .int (nI ((((y_dg c39)) ++ ((y_bts 3))).length))]))], [(v2_58, .inl (y_c ε 2, m2_58, .inl f2_58))]] ([(a_26, .inl (y_c ε 0, 8, .inl rf_26))]) [[(pA, .inl (y_c ε 3, 12, .inr (.inr (.inr (.inr g1)))))], [(ct, .inl (y_c ε 0, 12, .inl c1))], y_PW ε mn pa pf, z_W (y_c ε) ad h6] ?_
          refine y_spl [[(a_26, .inl (y_c ε 0, 8, .inl rf_26))]] [[(q44, .inr (7, [.ref v2_58, .int (nI 0), .int (nI 0), .int (nI ((((y_dg c39)) ++ ((y_bts 3))).length))]))], [(v2_58, .inl (y_c ε 2, m2_58, .inl f2_58))], [(pA, .inl (y_c ε 3, 12, .inr (.inr (.inr (.inr g1)))))], [(ct, .inl (y_c ε 0, 12, .inl c1))], y_PW ε mn pa pf, z_W (y_c ε) ad h6] ?_
          refine y_callS (pc := 84) (st := [.int (nI n), .ref a_26, .ref q44, .ref (ad 0)]) (y := 143) (idx := 58) (w := y_J [[(a_26, .inl (y_c ε 0, 8, .inl rf_26))]]) (wr := y_J [[(q44, .inr (7, [.ref v2_58, .int (nI 0), .int (nI 0), .int (nI ((((y_dg c39)) ++ ((y_bts 3))).length))]))], [(v2_58, .inl (y_c ε 2, m2_58, .inl f2_58))], [(pA, .inl (y_c ε 3, 12, .inr (.inr (.inr (.inr g1)))))], [(ct, .inl (y_c ε 0, 12, .inl c1))], y_PW ε mn pa pf, z_W (y_c ε) ad h6]) (av := [.ref a_26, .int (nI n)]) hC rfl rfl (z_t3 (i := 186) rfl rfl) (z_t3 (i := 187) rfl rfl) (z_t1 (i := 0) rfl rfl) (c_L_places (rf := rf_26) (ra := a_26) (n := n) (q := rk_26) (by first | assumption | omega | rfl | trivial) (by exact q_26.1)) (show _ = some 2 from by decide +kernel) rfl rfl (by omega) (by omega) rfl (fun r_84 w_84 p_84 => ?_)
          obtain ⟨rfl, ew_84⟩ := p_84
          replace ew_84 := ew_84.symm
          subst ew_84
          refine y_cmb [[(a_26, .inl (y_c ε 0, 8, .inl rf_26))]] [[(q44, .inr (7, [.ref v2_58, .int (nI 0), .int (nI 0), .int (nI ((((y_dg c39)) ++ ((y_bts 3))).length))]))], [(v2_58, .inl (y_c ε 2, m2_58, .inl f2_58))], [(pA, .inl (y_c ε 3, 12, .inr (.inr (.inr (.inr g1)))))], [(ct, .inl (y_c ε 0, 12, .inl c1))], y_PW ε mn pa pf, z_W (y_c ε) ad h6] ?_
          refine y_steps hC 1 (σ' := (88, [(11, .int (nI c39)), (10, .ref a_26), (9, .int v_18), (0, .ref (ad 0)), (1, .ref (y_a ε 42)), (2, .int (nI 1)), (3, .int (nI n)), (4, .int (nI parts)), (5, .ref pA), (6, .ref ct), (7, .int (nI mn)), (8, .int (nI k))], [.int (nI 1), .int (nI (z_mx n rk_26 + 1)), .int (nI n), .ref a_26, .ref q44, .ref (ad 0)], [])) rfl ?_
          refine y_if hC (c := nI (z_mx n rk_26 + 1) ≤ nI 1) rfl (fun c_88 => ?_) (fun c_88 => ?_)
          · skip
            rw [nI_leI (by omega) (by omega)] at c_88
            refine y_steps hC 1 (σ' := (103, [(11, .int (nI c39)), (10, .ref a_26), (9, .int v_18), (0, .ref (ad 0)), (1, .ref (y_a ε 42)), (2, .int (nI 1)), (3, .int (nI n)), (4, .int (nI parts)), (5, .ref pA), (6, .ref ct), (7, .int (nI mn)), (8, .int (nI k))], [.int (nI 1), .int (nI n), .ref a_26, .ref q44, .ref (ad 0)], [])) rfl ?_
            refine y_spl [[(a_26, .inl (y_c ε 0, 8, .inl rf_26))]] [[(q44, .inr (7, [.ref v2_58, .int (nI 0), .int (nI 0), .int (nI ((((y_dg c39)) ++ ((y_bts 3))).length))]))], [(v2_58, .inl (y_c ε 2, m2_58, .inl f2_58))], [(pA, .inl (y_c ε 3, 12, .inr (.inr (.inr (.inr g1)))))], [(ct, .inl (y_c ε 0, 12, .inl c1))], y_PW ε mn pa pf, z_W (y_c ε) ad h6] ?_
            refine y_callS (pc := 103) (st := [.ref q44, .ref (ad 0)]) (y := 144) (idx := 61) (w := y_J [[(a_26, .inl (y_c ε 0, 8, .inl rf_26))]]) (wr := y_J [[(q44, .inr (7, [.ref v2_58, .int (nI 0), .int (nI 0), .int (nI ((((y_dg c39)) ++ ((y_bts 3))).length))]))], [(v2_58, .inl (y_c ε 2, m2_58, .inl f2_58))], [(pA, .inl (y_c ε 3, 12, .inr (.inr (.inr (.inr g1)))))], [(ct, .inl (y_c ε 0, 12, .inl c1))], y_PW ε mn pa pf, z_W (y_c ε) ad h6]) (av := [.ref a_26, .int (nI n), .int (nI 1)]) hC rfl rfl (z_t3 (i := 189) rfl rfl) (z_t3 (i := 190) rfl rfl) (z_t1 (i := 0) rfl rfl) (c_L_told (rf := rf_26) (ra := a_26) (n := n) (m := 1) (q := rk_26) (by first | assumption | omega | rfl | trivial) (by first | assumption | omega | rfl | trivial) (by exact q_26.1) (by exact q_26.2) (by first | assumption | omega | rfl | trivial) (by first | assumption | omega | rfl | trivial)) (show _ = some 3 from by decide +kernel) rfl rfl (by omega) (by omega) rfl (fun r_103 w_103 p_103 => ?_)
            obtain ⟨t_103_a, t_103_v, t_103_f, t_103_L, t_103_B, rfl, ew_103, h_t_103, q_103⟩ := p_103
            replace ew_103 := ew_103.symm
            subst ew_103
            refine y_cmb [[(a_26, .inl (y_c ε 0, 8, .inl rf_26))], t_103_B] [[(q44, .inr (7, [.ref v2_58, .int (nI 0), .int (nI 0), .int (nI ((((y_dg c39)) ++ ((y_bts 3))).length))]))], [(v2_58, .inl (y_c ε 2, m2_58, .inl f2_58))], [(pA, .inl (y_c ε 3, 12, .inr (.inr (.inr (.inr g1)))))], [(ct, .inl (y_c ε 0, 12, .inl c1))], y_PW ε mn pa pf, z_W (y_c ε) ad h6] ?_
            have hs_103 : t_103_L.length ≤ 16 := (by rw [q_103]; exact y_sp_16 hn2 hn q_26.2 (by omega)); have hc_103 : ∀ c ∈ t_103_L, 1 ≤ c := (by rw [q_103]; exact y_sp_c _)
            refine y_steps hC 0 (σ' := (106, [(11, .int (nI c39)), (10, .ref a_26), (9, .int v_18), (0, .ref (ad 0)), (1, .ref (y_a ε 42)), (2, .int (nI 1)), (3, .int (nI n)), (4, .int (nI parts)), (5, .ref pA), (6, .ref ct), (7, .int (nI mn)), (8, .int (nI k))], [.ref t_103_a, .ref q44, .ref (ad 0)], [])) rfl ?_
            refine y_mv [[(a_26, .inl (y_c ε 0, 8, .inl rf_26))]] (t_103_B) [[(q44, .inr (7, [.ref v2_58, .int (nI 0), .int (nI 0), .int (nI ((((y_dg c39)) ++ ((y_bts 3))).length))]))], [(v2_58, .inl (y_c ε 2, m2_58, .inl f2_58))], [(pA, .inl (y_c ε 3, 12, .inr (.inr (.inr (.inr g1)))))], [(ct, .inl (y_c ε 0, 12, .inl c1))], y_PW ε mn pa pf, z_W (y_c ε) ad h6] ?_
            refine y_mv [t_103_B, [(a_26, .inl (y_c ε 0, 8, .inl rf_26))], [(q44, .inr (7, [.ref v2_58, .int (nI 0), .int (nI 0), .int (nI ((((y_dg c39)) ++ ((y_bts 3))).length))]))]] ([(v2_58, .inl (y_c ε 2, m2_58, .inl f2_58))]) [[(pA, .inl (y_c ε 3, 12, .inr (.inr (.inr (.inr g1)))))], [(ct, .inl (y_c ε 0, 12, .inl c1))], y_PW ε mn pa pf, z_W (y_c ε) ad h6] ?_
            refine y_mv [[(v2_58, .inl (y_c ε 2, m2_58, .inl f2_58))], t_103_B, [(a_26, .inl (y_c ε 0, 8, .inl rf_26))]] ([(q44, .inr (7, [.ref v2_58, .int (nI 0), .int (nI 0), .int (nI ((((y_dg c39)) ++ ((y_bts 3))).length))]))]) [[(pA, .inl (y_c ε 3, 12, .inr (.inr (.inr (.inr g1)))))], [(ct, .inl (y_c ε 0, 12, .inl c1))], y_PW ε mn pa pf, z_W (y_c ε) ad h6] ?_
            refine y_spl [[(q44, .inr (7, [.ref v2_58, .int (nI 0), .int (nI 0), .int (nI ((((y_dg c39)) ++ ((y_bts 3))).length))]))], [(v2_58, .inl (y_c ε 2, m2_58, .inl f2_58))], t_103_B] [[(a_26, .inl (y_c ε 0, 8, .inl rf_26))], [(pA, .inl (y_c ε 3, 12, .inr (.inr (.inr (.inr g1)))))], [(ct, .inl (y_c ε 0, 12, .inl c1))], y_PW ε mn pa pf, z_W (y_c ε) ad h6] ?_
            refine y_callV (b := q44) (pc := 106) (st := [.ref (ad 0)]) (y := 126) (idx := 30) (w := y_J [[(q44, .inr (7, [.ref v2_58, .int (nI 0), .int (nI 0), .int (nI ((((y_dg c39)) ++ ((y_bts 3))).length))]))], [(v2_58, .inl (y_c ε 2, m2_58, .inl f2_58))], t_103_B]) (wr := y_J [[(a_26, .inl (y_c ε 0, 8, .inl rf_26))], [(pA, .inl (y_c ε 3, 12, .inr (.inr (.inr (.inr g1)))))], [(ct, .inl (y_c ε 0, 12, .inl c1))], y_PW ε mn pa pf, z_W (y_c ε) ad h6]) (av := [.ref t_103_a]) hC rfl rfl rfl (z_t3 (i := 224) rfl rfl) (z_t3 (i := 225) rfl rfl) (z_t3 (i := 226) rfl rfl) (z_t1 (i := 13) rfl rfl) (fun H locs hP hS => y_rW (ci := 7) (k := 0) hC rfl rfl H locs hP hS) (c_J4_append_15ec4 (f := f2_58) (a := q44) (t_a := t_103_a) (t_v := t_103_v) (t_f := t_103_f) (t_L := t_103_L) (t_B := t_103_B) (v := v2_58) (m := m2_58) (L := (((y_dg c39)) ++ ((y_bts 3)))) h_t_103 (by exact q_58) (by have hdg := (y_dg_len c39).1; rw [List.length_append, y_bts3]; show _ + 1 + _ ≤ 100; omega)) (show _ = some 1 from by decide +kernel) rfl rfl (by omega) (by omega) rfl (fun r_106 w_106 p_106 => ?_)
            obtain ⟨v2_106, m2_106, f2_106, rfl, ew_106, q_106⟩ := p_106
            replace ew_106 := ew_106.symm
            subst ew_106
            refine y_cmb [[(q44, .inr (7, [.ref v2_106, .int (nI 0), .int (nI 0), .int (nI ((((((y_dg c39)) ++ ((y_bts 3)))) ++ t_103_L).length))]))], [(v2_106, .inl (y_c ε 2, m2_106, .inl f2_106))], t_103_B] [[(a_26, .inl (y_c ε 0, 8, .inl rf_26))], [(pA, .inl (y_c ε 3, 12, .inr (.inr (.inr (.inr g1)))))], [(ct, .inl (y_c ε 0, 12, .inl c1))], y_PW ε mn pa pf, z_W (y_c ε) ad h6] ?_
            refine y_steps hC 0 (σ' := (109, [(11, .int (nI c39)), (10, .ref a_26), (9, .int v_18), (0, .ref (ad 0)), (1, .ref (y_a ε 42)), (2, .int (nI 1)), (3, .int (nI n)), (4, .int (nI parts)), (5, .ref pA), (6, .ref ct), (7, .int (nI mn)), (8, .int (nI k))], [.ref q44, .ref (ad 0)], [])) rfl ?_
            refine y_spl [[(q44, .inr (7, [.ref v2_106, .int (nI 0), .int (nI 0), .int (nI ((((((y_dg c39)) ++ ((y_bts 3)))) ++ t_103_L).length))]))], [(v2_106, .inl (y_c ε 2, m2_106, .inl f2_106))]] [t_103_B, [(a_26, .inl (y_c ε 0, 8, .inl rf_26))], [(pA, .inl (y_c ε 3, 12, .inr (.inr (.inr (.inr g1)))))], [(ct, .inl (y_c ε 0, 12, .inl c1))], y_PW ε mn pa pf, z_W (y_c ε) ad h6] ?_
            refine y_callV (b := q44) (pc := 109) (st := [.ref (ad 0)]) (y := 129) (idx := 41) (w := y_J [[(q44, .inr (7, [.ref v2_106, .int (nI 0), .int (nI 0), .int (nI ((((((y_dg c39)) ++ ((y_bts 3)))) ++ t_103_L).length))]))], [(v2_106, .inl (y_c ε 2, m2_106, .inl f2_106))]]) (wr := y_J [t_103_B, [(a_26, .inl (y_c ε 0, 8, .inl rf_26))], [(pA, .inl (y_c ε 3, 12, .inr (.inr (.inr (.inr g1)))))], [(ct, .inl (y_c ε 0, 12, .inl c1))], y_PW ε mn pa pf, z_W (y_c ε) ad h6]) (av := []) hC rfl rfl rfl (z_t4 (i := 106) rfl rfl) (z_t4 (i := 107) rfl rfl) (z_t4 (i := 108) rfl rfl) (z_t1 (i := 13) rfl rfl) (fun H locs hP hS => y_rW (ci := 7) (k := 0) hC rfl rfl H locs hP hS) (c_J4_toString_0e30d (f := f2_106) (a := q44) (v := v2_106) (m := m2_106) (L := (((((y_dg c39)) ++ ((y_bts 3)))) ++ t_103_L)) (by exact q_106) (by have hdg := (y_dg_len c39).1; rw [List.length_append, List.length_append, y_bts3]; show _ + 1 + _ ≤ 200; omega)) (show _ = some 0 from by decide +kernel) rfl rfl (by omega) (by omega) rfl (fun r_109 w_109 p_109 => ?_)
            obtain ⟨t_109_a, t_109_v, t_109_f, t_109_L, t_109_B, rfl, ew_109, h_t_109, q_109⟩ := p_109
            replace ew_109 := ew_109.symm
            subst ew_109
            refine y_cmb [t_109_B] [t_103_B, [(a_26, .inl (y_c ε 0, 8, .inl rf_26))], [(pA, .inl (y_c ε 3, 12, .inr (.inr (.inr (.inr g1)))))], [(ct, .inl (y_c ε 0, 12, .inl c1))], y_PW ε mn pa pf, z_W (y_c ε) ad h6] ?_
            have hdg := (y_dg_len c39).1; have hl_109 : t_109_L.length ≤ 120 := (by rw [q_109, List.length_append, List.length_append, y_bts3]; show _ + 1 + _ ≤ 120; omega); have hc_109 : ∀ c ∈ t_109_L, 1 ≤ c := (by rw [q_109]; exact y_txc (y_txc (fun c hc => (y_dg_c (by omega) c hc).1) (y_bts_c 3 (by decide))) hc_103)
            refine y_steps hC 0 (σ' := (112, [(11, .int (nI c39)), (10, .ref a_26), (9, .int v_18), (0, .ref (ad 0)), (1, .ref (y_a ε 42)), (2, .int (nI 1)), (3, .int (nI n)), (4, .int (nI parts)), (5, .ref pA), (6, .ref ct), (7, .int (nI mn)), (8, .int (nI k))], [.ref t_109_a, .ref (ad 0)], [])) rfl ?_
            refine y_mv [t_109_B, t_103_B, [(a_26, .inl (y_c ε 0, 8, .inl rf_26))], [(pA, .inl (y_c ε 3, 12, .inr (.inr (.inr (.inr g1)))))], [(ct, .inl (y_c ε 0, 12, .inl c1))], y_PW ε mn pa pf] (z_W (y_c ε) ad h6) [] ?_
            refine y_mv [z_W (y_c ε) ad h6] (t_109_B) [t_103_B, [(a_26, .inl (y_c ε 0, 8, .inl rf_26))], [(pA, .inl (y_c ε 3, 12, .inr (.inr (.inr (.inr g1)))))], [(ct, .inl (y_c ε 0, 12, .inl c1))], y_PW ε mn pa pf] ?_
            refine y_spl [t_109_B, z_W (y_c ε) ad h6] [t_103_B, [(a_26, .inl (y_c ε 0, 8, .inl rf_26))], [(pA, .inl (y_c ε 3, 12, .inr (.inr (.inr (.inr g1)))))], [(ct, .inl (y_c ε 0, 12, .inl c1))], y_PW ε mn pa pf] ?_
            refine y_callS (pc := 112) (st := []) (y := 141) (idx := 65) (w := y_J [t_109_B, z_W (y_c ε) ad h6]) (wr := y_J [t_103_B, [(a_26, .inl (y_c ε 0, 8, .inl rf_26))], [(pA, .inl (y_c ε 3, 12, .inr (.inr (.inr (.inr g1)))))], [(ct, .inl (y_c ε 0, 12, .inl c1))], y_PW ε mn pa pf]) (av := [.ref (ad 0), .ref t_109_a]) hC rfl rfl (z_t3 (i := 132) rfl rfl) (z_t3 (i := 133) rfl rfl) (z_t1 (i := 0) rfl rfl) (c_L_feeds (t_a := t_109_a) (t_v := t_109_v) (t_f := t_109_f) (t_L := t_109_L) (t_B := t_109_B) (ad := ad) (hX := h6) h_t_109 h_cl6 (by exact hc_109) (by exact hl_109)) (show _ = some 2 from by decide +kernel) rfl rfl (by omega) (by omega) rfl (fun r_112 w_112 p_112 => ?_)
            obtain ⟨h2_112, tp2_112, rfl, ew_112, hCI_112, q_112⟩ := p_112
            replace ew_112 := ew_112.symm
            subst ew_112
            refine y_cmb [t_109_B, z_W (y_c ε) ad h2_112] [t_103_B, [(a_26, .inl (y_c ε 0, 8, .inl rf_26))], [(pA, .inl (y_c ε 3, 12, .inr (.inr (.inr (.inr g1)))))], [(ct, .inl (y_c ε 0, 12, .inl c1))], y_PW ε mn pa pf] ?_
            obtain ⟨bm4, cn4, pl4, q4, hq4, hadd, hpts⟩ := y_comes1 (n := n) (bm := mn) (c := c39) (tp := tp2_112) (r := rk_26) (cn := cv) (pl := pv) hn2 hn q_26.2 (by omega) (by omega) (by omega) (by omega) (by omega) q_109 q_103 q_112 (by omega) (fun b hb => by have := (hIV.2.2.2.2.1 b hb).2.2; omega)
            refine y_steps hC 2 (σ' := (119, [(11, .int (nI c39)), (10, .ref a_26), (9, .int v_18), (0, .ref (ad 0)), (1, .ref (y_a ε 42)), (2, .int (nI 1)), (3, .int (nI n)), (4, .int (nI parts)), (5, .ref pA), (6, .ref ct), (7, .int (nI mn)), (8, .int (nI k))], [.ref (ad 0)], [])) rfl ?_
            refine y_mv [t_109_B, z_W (y_c ε) ad h2_112, t_103_B, [(a_26, .inl (y_c ε 0, 8, .inl rf_26))], [(pA, .inl (y_c ε 3, 12, .inr (.inr (.inr (.inr g1)))))], [(ct, .inl (y_c ε 0, 12, .inl c1))]] (y_PW ε mn pa pf) [] ?_
            refine y_mv [y_PW ε mn pa pf, t_109_B, z_W (y_c ε) ad h2_112, t_103_B, [(a_26, .inl (y_c ε 0, 8, .inl rf_26))], [(pA, .inl (y_c ε 3, 12, .inr (.inr (.inr (.inr g1)))))]] ([(ct, .inl (y_c ε 0, 12, .inl c1))]) [] ?_
            refine y_mv [[(ct, .inl (y_c ε 0, 12, .inl c1))], y_PW ε mn pa pf, t_109_B, z_W (y_c ε) ad h2_112, t_103_B, [(a_26, .inl (y_c ε 0, 8, .inl rf_26))]] ([(pA, .inl (y_c ε 3, 12, .inr (.inr (.inr (.inr g1)))))]) [] ?_
            refine y_mv [[(pA, .inl (y_c ε 3, 12, .inr (.inr (.inr (.inr g1)))))], [(ct, .inl (y_c ε 0, 12, .inl c1))], y_PW ε mn pa pf, t_109_B, z_W (y_c ε) ad h2_112, t_103_B] ([(a_26, .inl (y_c ε 0, 8, .inl rf_26))]) [] ?_
            refine y_mv [[(a_26, .inl (y_c ε 0, 8, .inl rf_26))], [(pA, .inl (y_c ε 3, 12, .inr (.inr (.inr (.inr g1)))))], [(ct, .inl (y_c ε 0, 12, .inl c1))], y_PW ε mn pa pf, t_109_B, z_W (y_c ε) ad h2_112] (t_103_B) [] ?_
            refine y_mv [t_103_B, [(a_26, .inl (y_c ε 0, 8, .inl rf_26))], [(pA, .inl (y_c ε 3, 12, .inr (.inr (.inr (.inr g1)))))], [(ct, .inl (y_c ε 0, 12, .inl c1))], y_PW ε mn pa pf] (t_109_B) [z_W (y_c ε) ad h2_112] ?_
            obtain ⟨fs_119, hh_119⟩ := y_CI_hd hCI_112
            refine y_spl [t_109_B, t_103_B, [(a_26, .inl (y_c ε 0, 8, .inl rf_26))], [(pA, .inl (y_c ε 3, 12, .inr (.inr (.inr (.inr g1)))))], [(ct, .inl (y_c ε 0, 12, .inl c1))], y_PW ε mn pa pf] [z_W (y_c ε) ad h2_112] ?_
            refine y_cls (d := 5) (y := 73) (idx := 69) (ad := ad) (h := h2_112) (B := y_J [t_109_B, t_103_B, [(a_26, .inl (y_c ε 0, 8, .inl rf_26))], [(pA, .inl (y_c ε 3, 12, .inr (.inr (.inr (.inr g1)))))], [(ct, .inl (y_c ε 0, 12, .inl c1))], y_PW ε mn pa pf]) (av := []) (fs := fs_119) hC rfl (m_ballotsT hCI_112 hpts) rfl hh_119 rfl (z_t2 (i := 27) rfl rfl) (z_t2 (i := 28) rfl rfl) (z_t2 (i := 29) rfl rfl) (z_t1 (i := 1) rfl rfl) (show _ = some 0 from by decide +kernel) rfl rfl (by omega) (by omega) rfl (fun r_119 h_119 p_119 => ?_)
            obtain ⟨rfl, hCI_119⟩ := p_119
            refine y_cmb [t_109_B, t_103_B, [(a_26, .inl (y_c ε 0, 8, .inl rf_26))], [(pA, .inl (y_c ε 3, 12, .inr (.inr (.inr (.inr g1)))))], [(ct, .inl (y_c ε 0, 12, .inl c1))], y_PW ε mn pa pf] [z_W (y_c ε) ad h_119] ?_
            refine y_steps hC 4 (σ' := (131, [(12, .int (nI 0)), (11, .int (nI c39)), (10, .ref a_26), (9, .int v_18), (0, .ref (ad 0)), (1, .ref (y_a ε 42)), (2, .int (nI 1)), (3, .int (nI n)), (4, .int (nI parts)), (5, .ref pA), (6, .ref ct), (7, .int (nI mn)), (8, .int (nI k))], [], [])) rfl ?_
            have loop_131 : ∀ (z_131 : Nat) (b : Nat), mn - b < z_131 → ((b ≤ mn ∧ ∀ x, x < b → ¬ z_same n pv rk_26 x)) → y_G ε κ zmL_comes ((((((((600 * k + 1) + 1) + 1) + 1) + 1) + 512) + 1) + 2) ((((((((61000 * k + 8) + 4) + 16) + 202) + 202) + 60000) + 202) + 206) ((t_109_B) ++ ((t_103_B) ++ ((a_26, .inl (y_c ε 0, 8, .inl rf_26)) :: ((pA, .inl (y_c ε 3, 12, .inr (.inr (.inr (.inr g1))))) :: ((ct, .inl (y_c ε 0, 12, .inl c1)) :: ((y_PW ε mn pa pf) ++ (z_W (y_c ε) ad h_119))))))) (131, [(0, .ref (ad 0)), (1, .ref (y_a ε 42)), (2, .int (nI 1)), (3, .int (nI n)), (4, .int (nI parts)), (5, .ref pA), (6, .ref ct), (7, .int (nI mn)), (8, .int (nI k)), (9, .int v_18), (10, .ref a_26), (11, .int (nI c39)), (12, .int (nI b))], [], []) := by
              intro z_131
              induction z_131 with
              | zero => intro b hm_131 _; exact absurd hm_131 (Nat.not_lt_zero _)
              | succ z_131 ih_131 =>
                intro b hm_131 hi_131
                obtain ⟨m1, m2⟩ := hi_131
                refine y_steps hC 2 (σ' := (135, [(0, .ref (ad 0)), (1, .ref (y_a ε 42)), (2, .int (nI 1)), (3, .int (nI n)), (4, .int (nI parts)), (5, .ref pA), (6, .ref ct), (7, .int (nI mn)), (8, .int (nI k)), (9, .int v_18), (10, .ref a_26), (11, .int (nI c39)), (12, .int (nI b))], [.int (nI mn), .int (nI b)], [])) rfl ?_
                refine y_if hC (c := nI mn ≤ nI b) rfl (fun c_135 => ?_) (fun c_135 => ?_)
                · skip
                  rw [nI_leI (by omega) (by omega)] at c_135
                  obtain ⟨e1, e2, e3⟩ := y_addN hadd hq4 (fun x hx => m2 x (by omega)); rw [e1, e2, e3] at hCI_119
                  refine y_steps hC 2 (σ' := (162, [(0, .ref (ad 0)), (1, .ref (y_a ε 42)), (2, .int (nI 1)), (3, .int (nI n)), (4, .int (nI parts)), (5, .ref pA), (6, .ref ct), (7, .int (nI mn)), (8, .int (nI k)), (9, .int v_18), (10, .ref a_26), (11, .int (nI c39)), (12, .int (nI b))], [.int (nI mn), .int (nI b)], [])) rfl ?_
                  refine y_if hC (c := ¬ nI b = nI mn) rfl (fun c_162 => ?_) (fun c_162 => ?_)
                  · skip
                    rw [nI_eq (by omega) (by omega)] at c_162
                    skip
                    omega
                  · skip
                    rw [nI_eq (by omega) (by omega)] at c_162
                    replace c_162 := Decidable.not_not.mp c_162
                    refine y_steps hC 0 (σ' := (165, [(0, .ref (ad 0)), (1, .ref (y_a ε 42)), (2, .int (nI 1)), (3, .int (nI n)), (4, .int (nI parts)), (5, .ref pA), (6, .ref ct), (7, .int (nI mn)), (8, .int (nI k)), (9, .int v_18), (10, .ref a_26), (11, .int (nI c39)), (12, .int (nI b))], [], [])) rfl ?_
                    rw [c_162]
                    refine y_steps hC 3 (σ' := (171, [(0, .ref (ad 0)), (1, .ref (y_a ε 42)), (2, .int (nI 1)), (3, .int (nI n)), (4, .int (nI parts)), (5, .ref pA), (6, .ref ct), (7, .int (nI mn)), (8, .int (nI k)), (9, .int v_18), (10, .ref a_26), (11, .int (nI c39)), (12, .int (nI mn))], [.ref a_26, .int (nI mn), .ref pA], [])) rfl ?_
                    refine y_mv [t_109_B, t_103_B, [(a_26, .inl (y_c ε 0, 8, .inl rf_26))], [(pA, .inl (y_c ε 3, 12, .inr (.inr (.inr (.inr g1)))))]] ([(ct, .inl (y_c ε 0, 12, .inl c1))]) [y_PW ε mn pa pf, z_W (y_c ε) ad h_119] ?_
                    refine y_mv [[(ct, .inl (y_c ε 0, 12, .inl c1))], t_109_B, t_103_B, [(a_26, .inl (y_c ε 0, 8, .inl rf_26))]] ([(pA, .inl (y_c ε 3, 12, .inr (.inr (.inr (.inr g1)))))]) [y_PW ε mn pa pf, z_W (y_c ε) ad h_119] ?_
                    refine y_mv [[(pA, .inl (y_c ε 3, 12, .inr (.inr (.inr (.inr g1)))))], [(ct, .inl (y_c ε 0, 12, .inl c1))], t_109_B, t_103_B] ([(a_26, .inl (y_c ε 0, 8, .inl rf_26))]) [y_PW ε mn pa pf, z_W (y_c ε) ad h_119] ?_
                    refine y_aas (k2 := 0) (ws2 := ((a_26, .inl (y_c ε 0, 8, .inl rf_26)) :: ((pA, .inl (y_c ε 3, 12, .inr (.inr (.inr (.inr (va_up g1 mn (some a_26))))))) :: ((ct, .inl (y_c ε 0, 12, .inl c1)) :: ((t_109_B) ++ ((t_103_B) ++ ((y_PW ε mn pa pf) ++ (z_W (y_c ε) ad h_119)))))))) hC 1 rfl rfl rfl (by first | assumption | omega | rfl | trivial) (by omega) rfl ?_
                    refine y_steps hC 3 (σ' := (177, [(0, .ref (ad 0)), (1, .ref (y_a ε 42)), (2, .int (nI 1)), (3, .int (nI n)), (4, .int (nI parts)), (5, .ref pA), (6, .ref ct), (7, .int (nI mn)), (8, .int (nI k)), (9, .int v_18), (10, .ref a_26), (11, .int (nI c39)), (12, .int (nI mn))], [.int (nI 0), .int (nI mn), .ref ct], [])) rfl ?_
                    refine y_ias (ws2 := ((a_26, .inl (y_c ε 0, 8, .inl rf_26)) :: ((pA, .inl (y_c ε 3, 12, .inr (.inr (.inr (.inr (va_up g1 mn (some a_26))))))) :: ((ct, .inl (y_c ε 0, 12, .inl (upd c1 mn (nI 0)))) :: ((t_109_B) ++ ((t_103_B) ++ ((y_PW ε mn pa pf) ++ (z_W (y_c ε) ad h_119)))))))) hC 2 rfl rfl (by first | assumption | omega | rfl | trivial) (by omega) rfl ?_
                    refine y_steps hC 0 (σ' := (178, [(0, .ref (ad 0)), (1, .ref (y_a ε 42)), (2, .int (nI 1)), (3, .int (nI n)), (4, .int (nI parts)), (5, .ref pA), (6, .ref ct), (7, .int (nI mn)), (8, .int (nI k)), (9, .int v_18), (10, .ref a_26), (11, .int (nI c39)), (12, .int (nI mn))], [], [])) rfl ?_
                    refine y_inc hC (n := 1) rfl rfl rfl (mn + 1) (by rfl) [(7, .int (nI (mn + 1))), (0, .ref (ad 0)), (1, .ref (y_a ε 42)), (2, .int (nI 1)), (3, .int (nI n)), (4, .int (nI parts)), (5, .ref pA), (6, .ref ct), (8, .int (nI k)), (9, .int v_18), (10, .ref a_26), (11, .int (nI c39)), (12, .int (nI mn))] rfl ?_
                    refine y_steps hC 3 (σ' := (186, [(7, .int (nI (mn + 1))), (0, .ref (ad 0)), (1, .ref (y_a ε 42)), (2, .int (nI 1)), (3, .int (nI n)), (4, .int (nI parts)), (5, .ref pA), (6, .ref ct), (8, .int (nI k)), (9, .int v_18), (10, .ref a_26), (11, .int (nI c39)), (12, .int (nI mn))], [.int (nI mn), .ref ct, .int (nI mn), .ref ct], [])) rfl ?_
                    refine y_ial hC 2 rfl rfl (by first | assumption | omega | rfl | trivial) (by omega) (if_pos rfl) ?_
                    refine y_steps hC 1 (σ' := (189, [(7, .int (nI (mn + 1))), (0, .ref (ad 0)), (1, .ref (y_a ε 42)), (2, .int (nI 1)), (3, .int (nI n)), (4, .int (nI parts)), (5, .ref pA), (6, .ref ct), (8, .int (nI k)), (9, .int v_18), (10, .ref a_26), (11, .int (nI c39)), (12, .int (nI mn))], [.int (nI c39), .int (nI 0), .int (nI mn), .ref ct], [])) rfl ?_
                    refine y_add hC (c39) rfl (by first | rfl | omega) ?_
                    refine y_steps hC 0 (σ' := (190, [(7, .int (nI (mn + 1))), (0, .ref (ad 0)), (1, .ref (y_a ε 42)), (2, .int (nI 1)), (3, .int (nI n)), (4, .int (nI parts)), (5, .ref pA), (6, .ref ct), (8, .int (nI k)), (9, .int v_18), (10, .ref a_26), (11, .int (nI c39)), (12, .int (nI mn))], [.int (nI c39), .int (nI mn), .ref ct], [])) rfl ?_
                    refine y_ias (ws2 := ((a_26, .inl (y_c ε 0, 8, .inl rf_26)) :: ((pA, .inl (y_c ε 3, 12, .inr (.inr (.inr (.inr (va_up g1 mn (some a_26))))))) :: ((ct, .inl (y_c ε 0, 12, .inl (upd (upd c1 mn (nI 0)) mn (nI c39)))) :: ((t_109_B) ++ ((t_103_B) ++ ((y_PW ε mn pa pf) ++ (z_W (y_c ε) ad h_119)))))))) hC 2 rfl rfl (by first | assumption | omega | rfl | trivial) (by omega) rfl ?_
                    refine y_steps hC 0 (σ' := (191, [(7, .int (nI (mn + 1))), (0, .ref (ad 0)), (1, .ref (y_a ε 42)), (2, .int (nI 1)), (3, .int (nI n)), (4, .int (nI parts)), (5, .ref pA), (6, .ref ct), (8, .int (nI k)), (9, .int v_18), (10, .ref a_26), (11, .int (nI c39)), (12, .int (nI mn))], [], [])) rfl ?_
                    refine y_inc hC (n := 1) rfl rfl rfl (k + 1) (by rfl) [(8, .int (nI (k + 1))), (7, .int (nI (mn + 1))), (0, .ref (ad 0)), (1, .ref (y_a ε 42)), (2, .int (nI 1)), (3, .int (nI n)), (4, .int (nI parts)), (5, .ref pA), (6, .ref ct), (9, .int v_18), (10, .ref a_26), (11, .int (nI c39)), (12, .int (nI mn))] rfl ?_
                    refine y_steps hC 1 (σ' := (6, [(8, .int (nI (k + 1))), (7, .int (nI (mn + 1))), (0, .ref (ad 0)), (1, .ref (y_a ε 42)), (2, .int (nI 1)), (3, .int (nI n)), (4, .int (nI parts)), (5, .ref pA), (6, .ref ct), (9, .int v_18), (10, .ref a_26), (11, .int (nI c39)), (12, .int (nI mn))], [], [])) rfl ?_
                    refine y_mv [[(a_26, .inl (y_c ε 0, 8, .inl rf_26))], [(pA, .inl (y_c ε 3, 12, .inr (.inr (.inr (.inr (va_up g1 mn (some a_26)))))))], [(ct, .inl (y_c ε 0, 12, .inl (upd (upd c1 mn (nI 0)) mn (nI c39))))], t_109_B, t_103_B] (y_PW ε mn pa pf) [z_W (y_c ε) ad h_119] ?_
                    refine y_mv [y_PW ε mn pa pf] ([(a_26, .inl (y_c ε 0, 8, .inl rf_26))]) [[(pA, .inl (y_c ε 3, 12, .inr (.inr (.inr (.inr (va_up g1 mn (some a_26)))))))], [(ct, .inl (y_c ε 0, 12, .inl (upd (upd c1 mn (nI 0)) mn (nI c39))))], t_109_B, t_103_B, z_W (y_c ε) ad h_119] ?_
                    refine y_pm3 (b1 := [(a_26, .inl (y_c ε 0, 8, .inl rf_26))]) (b2 := y_PW ε mn pa pf) (y_PW ε (mn + 1) (fun x => if x = mn then a_26 else pa x) (fun x => if x = mn then rf_26 else pf x)) [[(pA, .inl (y_c ε 3, 12, .inr (.inr (.inr (.inr (va_up g1 mn (some a_26)))))))], [(ct, .inl (y_c ε 0, 12, .inl (upd (upd c1 mn (nI 0)) mn (nI c39))))], t_109_B, t_103_B, z_W (y_c ε) ad h_119] y_PW_put ?_
                    refine y_steps hC 0 (σ' := (6, [(8, .int (nI (k + 1))), (7, .int (nI (mn + 1))), (0, .ref (ad 0)), (1, .ref (y_a ε 42)), (2, .int (nI 1)), (3, .int (nI n)), (4, .int (nI parts)), (5, .ref pA), (6, .ref ct), (9, .int v_18), (10, .ref a_26), (11, .int (nI c39)), (12, .int (nI mn))], [], [])) rfl ?_
                    refine y_mv [y_PW ε (mn + 1) (fun x => if x = mn then a_26 else pa x) (fun x => if x = mn then rf_26 else pf x), [(pA, .inl (y_c ε 3, 12, .inr (.inr (.inr (.inr (va_up g1 mn (some a_26)))))))], [(ct, .inl (y_c ε 0, 12, .inl (upd (upd c1 mn (nI 0)) mn (nI c39))))], t_109_B, t_103_B] (z_W (y_c ε) ad h_119) [] ?_
                    refine y_mv [z_W (y_c ε) ad h_119] (y_PW ε (mn + 1) (fun x => if x = mn then a_26 else pa x) (fun x => if x = mn then rf_26 else pf x)) [[(pA, .inl (y_c ε 3, 12, .inr (.inr (.inr (.inr (va_up g1 mn (some a_26)))))))], [(ct, .inl (y_c ε 0, 12, .inl (upd (upd c1 mn (nI 0)) mn (nI c39))))], t_109_B, t_103_B] ?_
                    refine y_mv [y_PW ε (mn + 1) (fun x => if x = mn then a_26 else pa x) (fun x => if x = mn then rf_26 else pf x), z_W (y_c ε) ad h_119, [(pA, .inl (y_c ε 3, 12, .inr (.inr (.inr (.inr (va_up g1 mn (some a_26)))))))]] ([(ct, .inl (y_c ε 0, 12, .inl (upd (upd c1 mn (nI 0)) mn (nI c39))))]) [t_109_B, t_103_B] ?_
                    refine y_mv [[(ct, .inl (y_c ε 0, 12, .inl (upd (upd c1 mn (nI 0)) mn (nI c39))))], y_PW ε (mn + 1) (fun x => if x = mn then a_26 else pa x) (fun x => if x = mn then rf_26 else pf x), z_W (y_c ε) ad h_119] ([(pA, .inl (y_c ε 3, 12, .inr (.inr (.inr (.inr (va_up g1 mn (some a_26)))))))]) [t_109_B, t_103_B] ?_
                    refine y_mv [[(pA, .inl (y_c ε 3, 12, .inr (.inr (.inr (.inr (va_up g1 mn (some a_26)))))))], [(ct, .inl (y_c ε 0, 12, .inl (upd (upd c1 mn (nI 0)) mn (nI c39))))], y_PW ε (mn + 1) (fun x => if x = mn then a_26 else pa x) (fun x => if x = mn then rf_26 else pf x), z_W (y_c ε) ad h_119] (t_109_B) [t_103_B] ?_
                    refine y_drp (t_109_B) [[(pA, .inl (y_c ε 3, 12, .inr (.inr (.inr (.inr (va_up g1 mn (some a_26)))))))], [(ct, .inl (y_c ε 0, 12, .inl (upd (upd c1 mn (nI 0)) mn (nI c39))))], y_PW ε (mn + 1) (fun x => if x = mn then a_26 else pa x) (fun x => if x = mn then rf_26 else pf x), z_W (y_c ε) ad h_119, t_103_B] ?_
                    refine y_mv [[(pA, .inl (y_c ε 3, 12, .inr (.inr (.inr (.inr (va_up g1 mn (some a_26)))))))], [(ct, .inl (y_c ε 0, 12, .inl (upd (upd c1 mn (nI 0)) mn (nI c39))))], y_PW ε (mn + 1) (fun x => if x = mn then a_26 else pa x) (fun x => if x = mn then rf_26 else pf x), z_W (y_c ε) ad h_119] (t_103_B) [] ?_
                    refine y_drp (t_103_B) [[(pA, .inl (y_c ε 3, 12, .inr (.inr (.inr (.inr (va_up g1 mn (some a_26)))))))], [(ct, .inl (y_c ε 0, 12, .inl (upd (upd c1 mn (nI 0)) mn (nI c39))))], y_PW ε (mn + 1) (fun x => if x = mn then a_26 else pa x) (fun x => if x = mn then rf_26 else pf x), z_W (y_c ε) ad h_119] ?_
                    refine y_sub hC [2, 3, 4, 5, 6, 7, 8, 1, 0] rfl ?_
                    refine y_wid (600 * (k + 1)) (61000 * (k + 1)) (by omega) (by omega) ?_
                    exact ih_6 (mn + 1) (k + 1) h_119 (va_up g1 mn (some a_26)) (upd (upd c1 mn (nI 0)) mn (nI c39)) (fun x => if x = mn then c39 else cv x) (fun x => if x = mn then q4 else pv x) (fun x => if x = mn then a_26 else pa x) (fun x => if x = mn then rf_26 else pf x) tp2_112 (by omega) ⟨(by exact hCI_119), (by first | exact ⟨by omega, y_IV_Y hIV (by omega) ⟨by omega, by omega⟩⟩ | exact ⟨by omega, y_IV_N hIV q_26.2 q_26.1 hq4 (fun x hx => m2 x (by omega)) ⟨by omega, by omega⟩⟩)⟩
                · skip
                  rw [nI_leI (by omega) (by omega)] at c_135
                  refine y_steps hC 2 (σ' := (142, [(0, .ref (ad 0)), (1, .ref (y_a ε 42)), (2, .int (nI 1)), (3, .int (nI n)), (4, .int (nI parts)), (5, .ref pA), (6, .ref ct), (7, .int (nI mn)), (8, .int (nI k)), (9, .int v_18), (10, .ref a_26), (11, .int (nI c39)), (12, .int (nI b))], [.int (nI b), .ref pA], [])) rfl ?_
                  refine y_mv [t_109_B, t_103_B, [(a_26, .inl (y_c ε 0, 8, .inl rf_26))], [(pA, .inl (y_c ε 3, 12, .inr (.inr (.inr (.inr g1)))))]] ([(ct, .inl (y_c ε 0, 12, .inl c1))]) [y_PW ε mn pa pf, z_W (y_c ε) ad h_119] ?_
                  refine y_mv [[(ct, .inl (y_c ε 0, 12, .inl c1))], t_109_B, t_103_B, [(a_26, .inl (y_c ε 0, 8, .inl rf_26))]] ([(pA, .inl (y_c ε 3, 12, .inr (.inr (.inr (.inr g1)))))]) [y_PW ε mn pa pf, z_W (y_c ε) ad h_119] ?_
                  refine y_mv [[(pA, .inl (y_c ε 3, 12, .inr (.inr (.inr (.inr g1)))))], [(ct, .inl (y_c ε 0, 12, .inl c1))], t_109_B, t_103_B] ([(a_26, .inl (y_c ε 0, 8, .inl rf_26))]) [y_PW ε mn pa pf, z_W (y_c ε) ad h_119] ?_
                  refine y_aal hC 1 rfl rfl (by first | assumption | omega | rfl | trivial) (by omega) (hIV.2.1 b (by omega)) ?_
                  refine y_steps hC 2 (σ' := (146, [(0, .ref (ad 0)), (1, .ref (y_a ε 42)), (2, .int (nI 1)), (3, .int (nI n)), (4, .int (nI parts)), (5, .ref pA), (6, .ref ct), (7, .int (nI mn)), (8, .int (nI k)), (9, .int v_18), (10, .ref a_26), (11, .int (nI c39)), (12, .int (nI b))], [.int (nI n), .ref a_26, .ref ((pa b))], [])) rfl ?_
                  refine y_mv [[(a_26, .inl (y_c ε 0, 8, .inl rf_26))], [(pA, .inl (y_c ε 3, 12, .inr (.inr (.inr (.inr g1)))))], [(ct, .inl (y_c ε 0, 12, .inl c1))], t_109_B, t_103_B] (y_PW ε mn pa pf) [z_W (y_c ε) ad h_119] ?_
                  refine y_pm2 (b := y_PW ε mn pa pf) [((pa b), .inl (y_c ε 0, 8, .inl ((pf b))))] (y_PX ε mn pa pf b) [[(a_26, .inl (y_c ε 0, 8, .inl rf_26))], [(pA, .inl (y_c ε 3, 12, .inr (.inr (.inr (.inr g1)))))], [(ct, .inl (y_c ε 0, 12, .inl c1))], t_109_B, t_103_B, z_W (y_c ε) ad h_119] (y_PW_at (by omega)) ?_
                  refine y_steps hC 0 (σ' := (146, [(0, .ref (ad 0)), (1, .ref (y_a ε 42)), (2, .int (nI 1)), (3, .int (nI n)), (4, .int (nI parts)), (5, .ref pA), (6, .ref ct), (7, .int (nI mn)), (8, .int (nI k)), (9, .int v_18), (10, .ref a_26), (11, .int (nI c39)), (12, .int (nI b))], [.int (nI n), .ref a_26, .ref ((pa b))], [])) rfl ?_
                  refine y_mv [[((pa b), .inl (y_c ε 0, 8, .inl ((pf b))))], y_PX ε mn pa pf b] ([(a_26, .inl (y_c ε 0, 8, .inl rf_26))]) [[(pA, .inl (y_c ε 3, 12, .inr (.inr (.inr (.inr g1)))))], [(ct, .inl (y_c ε 0, 12, .inl c1))], t_109_B, t_103_B, z_W (y_c ε) ad h_119] ?_
                  refine y_mv [[(a_26, .inl (y_c ε 0, 8, .inl rf_26))]] ([((pa b), .inl (y_c ε 0, 8, .inl ((pf b))))]) [y_PX ε mn pa pf b, [(pA, .inl (y_c ε 3, 12, .inr (.inr (.inr (.inr g1)))))], [(ct, .inl (y_c ε 0, 12, .inl c1))], t_109_B, t_103_B, z_W (y_c ε) ad h_119] ?_
                  refine y_spl [[((pa b), .inl (y_c ε 0, 8, .inl ((pf b))))], [(a_26, .inl (y_c ε 0, 8, .inl rf_26))]] [y_PX ε mn pa pf b, [(pA, .inl (y_c ε 3, 12, .inr (.inr (.inr (.inr g1)))))], [(ct, .inl (y_c ε 0, 12, .inl c1))], t_109_B, t_103_B, z_W (y_c ε) ad h_119] ?_
                  refine y_callS (pc := 146) (st := []) (y := 145) (idx := 72) (w := y_J [[((pa b), .inl (y_c ε 0, 8, .inl ((pf b))))], [(a_26, .inl (y_c ε 0, 8, .inl rf_26))]]) (wr := y_J [y_PX ε mn pa pf b, [(pA, .inl (y_c ε 3, 12, .inr (.inr (.inr (.inr g1)))))], [(ct, .inl (y_c ε 0, 12, .inl c1))], t_109_B, t_103_B, z_W (y_c ε) ad h_119]) (av := [.ref ((pa b)), .ref a_26, .int (nI n)]) hC rfl rfl (z_t4 (i := 168) rfl rfl) (z_t4 (i := 169) rfl rfl) (z_t1 (i := 0) rfl rfl) (c_L_areAlike (rf := (pf b)) (sf := rf_26) (ra := (pa b)) (sa := a_26) (n := n) (q := (pv b)) (p := rk_26) (by first | assumption | omega | rfl | trivial) (by exact hIV.2.2.1 b (by omega)) (by exact q_26.1)) (show _ = some 3 from by decide +kernel) rfl rfl (by omega) (by omega) rfl (fun r_146 w_146 p_146 => ?_)
                  obtain ⟨rfl, ew_146⟩ := p_146
                  replace ew_146 := ew_146.symm
                  subst ew_146
                  refine y_cmb [[((pa b), .inl (y_c ε 0, 8, .inl ((pf b))))], [(a_26, .inl (y_c ε 0, 8, .inl rf_26))]] [y_PX ε mn pa pf b, [(pA, .inl (y_c ε 3, 12, .inr (.inr (.inr (.inr g1)))))], [(ct, .inl (y_c ε 0, 12, .inl c1))], t_109_B, t_103_B, z_W (y_c ε) ad h_119] ?_
                  refine y_steps hC 0 (σ' := (149, [(0, .ref (ad 0)), (1, .ref (y_a ε 42)), (2, .int (nI 1)), (3, .int (nI n)), (4, .int (nI parts)), (5, .ref pA), (6, .ref ct), (7, .int (nI mn)), (8, .int (nI k)), (9, .int v_18), (10, .ref a_26), (11, .int (nI c39)), (12, .int (nI b))], [.int (nI ((z_allb n (fun c => decide (((pv b)) c = rk_26 c))).toNat))], [])) rfl ?_
                  refine y_mv [[((pa b), .inl (y_c ε 0, 8, .inl ((pf b))))], [(a_26, .inl (y_c ε 0, 8, .inl rf_26))]] (y_PX ε mn pa pf b) [[(pA, .inl (y_c ε 3, 12, .inr (.inr (.inr (.inr g1)))))], [(ct, .inl (y_c ε 0, 12, .inl c1))], t_109_B, t_103_B, z_W (y_c ε) ad h_119] ?_
                  refine y_mv [y_PX ε mn pa pf b] ([((pa b), .inl (y_c ε 0, 8, .inl ((pf b))))]) [[(a_26, .inl (y_c ε 0, 8, .inl rf_26))], [(pA, .inl (y_c ε 3, 12, .inr (.inr (.inr (.inr g1)))))], [(ct, .inl (y_c ε 0, 12, .inl c1))], t_109_B, t_103_B, z_W (y_c ε) ad h_119] ?_
                  refine y_pm3 (b1 := [((pa b), .inl (y_c ε 0, 8, .inl ((pf b))))]) (b2 := y_PX ε mn pa pf b) (y_PW ε mn pa pf) [[(a_26, .inl (y_c ε 0, 8, .inl rf_26))], [(pA, .inl (y_c ε 3, 12, .inr (.inr (.inr (.inr g1)))))], [(ct, .inl (y_c ε 0, 12, .inl c1))], t_109_B, t_103_B, z_W (y_c ε) ad h_119] (y_PW_at (by omega)) ?_
                  refine y_steps hC 0 (σ' := (149, [(0, .ref (ad 0)), (1, .ref (y_a ε 42)), (2, .int (nI 1)), (3, .int (nI n)), (4, .int (nI parts)), (5, .ref pA), (6, .ref ct), (7, .int (nI mn)), (8, .int (nI k)), (9, .int v_18), (10, .ref a_26), (11, .int (nI c39)), (12, .int (nI b))], [.int (nI ((z_allb n (fun c => decide (((pv b)) c = rk_26 c))).toNat))], [])) rfl ?_
                  refine y_if hC (c := ¬ nI ((z_allb n (fun c => decide (((pv b)) c = rk_26 c))).toNat) = 0) rfl (fun c_149 => ?_) (fun c_149 => ?_)
                  · skip
                    rw [z0_ne (by have := z_tn_lt (z_allb n (fun c => decide (pv b c = rk_26 c))); omega)] at c_149
                    skip
                    obtain ⟨e1, e2, e3⟩ := y_addY hadd hq4 (by omega) (y_al_T c_149) m2; rw [e1, e2, e3] at hCI_119
                    refine y_steps hC 2 (σ' := (162, [(0, .ref (ad 0)), (1, .ref (y_a ε 42)), (2, .int (nI 1)), (3, .int (nI n)), (4, .int (nI parts)), (5, .ref pA), (6, .ref ct), (7, .int (nI mn)), (8, .int (nI k)), (9, .int v_18), (10, .ref a_26), (11, .int (nI c39)), (12, .int (nI b))], [.int (nI mn), .int (nI b)], [])) rfl ?_
                    refine y_if hC (c := ¬ nI b = nI mn) rfl (fun c_162 => ?_) (fun c_162 => ?_)
                    · skip
                      rw [nI_eq (by omega) (by omega)] at c_162
                      skip
                      refine y_steps hC 3 (σ' := (186, [(0, .ref (ad 0)), (1, .ref (y_a ε 42)), (2, .int (nI 1)), (3, .int (nI n)), (4, .int (nI parts)), (5, .ref pA), (6, .ref ct), (7, .int (nI mn)), (8, .int (nI k)), (9, .int v_18), (10, .ref a_26), (11, .int (nI c39)), (12, .int (nI b))], [.int (nI b), .ref ct, .int (nI b), .ref ct], [])) rfl ?_
                      refine y_mv [y_PW ε mn pa pf, [(a_26, .inl (y_c ε 0, 8, .inl rf_26))], [(pA, .inl (y_c ε 3, 12, .inr (.inr (.inr (.inr g1)))))]] ([(ct, .inl (y_c ε 0, 12, .inl c1))]) [t_109_B, t_103_B, z_W (y_c ε) ad h_119] ?_
                      refine y_mv [[(ct, .inl (y_c ε 0, 12, .inl c1))], y_PW ε mn pa pf, [(a_26, .inl (y_c ε 0, 8, .inl rf_26))]] ([(pA, .inl (y_c ε 3, 12, .inr (.inr (.inr (.inr g1)))))]) [t_109_B, t_103_B, z_W (y_c ε) ad h_119] ?_
                      refine y_mv [[(pA, .inl (y_c ε 3, 12, .inr (.inr (.inr (.inr g1)))))], [(ct, .inl (y_c ε 0, 12, .inl c1))], y_PW ε mn pa pf] ([(a_26, .inl (y_c ε 0, 8, .inl rf_26))]) [t_109_B, t_103_B, z_W (y_c ε) ad h_119] ?_
                      refine y_ial hC 2 rfl rfl (by first | assumption | omega | rfl | trivial) (by omega) ((hIV.2.2.2.2.1 b (by omega)).1) ?_
                      have hv_186 := (hIV.2.2.2.2.1 b (by omega)).2
                      refine y_steps hC 1 (σ' := (189, [(0, .ref (ad 0)), (1, .ref (y_a ε 42)), (2, .int (nI 1)), (3, .int (nI n)), (4, .int (nI parts)), (5, .ref pA), (6, .ref ct), (7, .int (nI mn)), (8, .int (nI k)), (9, .int v_18), (10, .ref a_26), (11, .int (nI c39)), (12, .int (nI b))], [.int (nI c39), .int (nI ((cv b))), .int (nI b), .ref ct], [])) rfl ?_
                      refine y_add hC ((cv b) + c39) rfl (by first | rfl | omega) ?_
                      refine y_steps hC 0 (σ' := (190, [(0, .ref (ad 0)), (1, .ref (y_a ε 42)), (2, .int (nI 1)), (3, .int (nI n)), (4, .int (nI parts)), (5, .ref pA), (6, .ref ct), (7, .int (nI mn)), (8, .int (nI k)), (9, .int v_18), (10, .ref a_26), (11, .int (nI c39)), (12, .int (nI b))], [.int (nI ((cv b) + c39)), .int (nI b), .ref ct], [])) rfl ?_
                      refine y_ias (ws2 := ((a_26, .inl (y_c ε 0, 8, .inl rf_26)) :: ((pA, .inl (y_c ε 3, 12, .inr (.inr (.inr (.inr g1))))) :: ((ct, .inl (y_c ε 0, 12, .inl (upd c1 b (nI ((cv b) + c39))))) :: ((y_PW ε mn pa pf) ++ ((t_109_B) ++ ((t_103_B) ++ (z_W (y_c ε) ad h_119)))))))) hC 2 rfl rfl (by first | assumption | omega | rfl | trivial) (by omega) rfl ?_
                      refine y_steps hC 0 (σ' := (191, [(0, .ref (ad 0)), (1, .ref (y_a ε 42)), (2, .int (nI 1)), (3, .int (nI n)), (4, .int (nI parts)), (5, .ref pA), (6, .ref ct), (7, .int (nI mn)), (8, .int (nI k)), (9, .int v_18), (10, .ref a_26), (11, .int (nI c39)), (12, .int (nI b))], [], [])) rfl ?_
                      refine y_inc hC (n := 1) rfl rfl rfl (k + 1) (by rfl) [(8, .int (nI (k + 1))), (0, .ref (ad 0)), (1, .ref (y_a ε 42)), (2, .int (nI 1)), (3, .int (nI n)), (4, .int (nI parts)), (5, .ref pA), (6, .ref ct), (7, .int (nI mn)), (9, .int v_18), (10, .ref a_26), (11, .int (nI c39)), (12, .int (nI b))] rfl ?_
                      refine y_steps hC 1 (σ' := (6, [(8, .int (nI (k + 1))), (0, .ref (ad 0)), (1, .ref (y_a ε 42)), (2, .int (nI 1)), (3, .int (nI n)), (4, .int (nI parts)), (5, .ref pA), (6, .ref ct), (7, .int (nI mn)), (9, .int v_18), (10, .ref a_26), (11, .int (nI c39)), (12, .int (nI b))], [], [])) rfl ?_
                      refine y_mv [[(a_26, .inl (y_c ε 0, 8, .inl rf_26))], [(pA, .inl (y_c ε 3, 12, .inr (.inr (.inr (.inr g1)))))], [(ct, .inl (y_c ε 0, 12, .inl (upd c1 b (nI ((cv b) + c39)))))], y_PW ε mn pa pf, t_109_B, t_103_B] (z_W (y_c ε) ad h_119) [] ?_
                      refine y_mv [z_W (y_c ε) ad h_119, [(a_26, .inl (y_c ε 0, 8, .inl rf_26))], [(pA, .inl (y_c ε 3, 12, .inr (.inr (.inr (.inr g1)))))], [(ct, .inl (y_c ε 0, 12, .inl (upd c1 b (nI ((cv b) + c39)))))]] (y_PW ε mn pa pf) [t_109_B, t_103_B] ?_
                      refine y_mv [y_PW ε mn pa pf, z_W (y_c ε) ad h_119, [(a_26, .inl (y_c ε 0, 8, .inl rf_26))], [(pA, .inl (y_c ε 3, 12, .inr (.inr (.inr (.inr g1)))))]] ([(ct, .inl (y_c ε 0, 12, .inl (upd c1 b (nI ((cv b) + c39)))))]) [t_109_B, t_103_B] ?_
                      refine y_mv [[(ct, .inl (y_c ε 0, 12, .inl (upd c1 b (nI ((cv b) + c39)))))], y_PW ε mn pa pf, z_W (y_c ε) ad h_119, [(a_26, .inl (y_c ε 0, 8, .inl rf_26))]] ([(pA, .inl (y_c ε 3, 12, .inr (.inr (.inr (.inr g1)))))]) [t_109_B, t_103_B] ?_
                      refine y_mv [[(pA, .inl (y_c ε 3, 12, .inr (.inr (.inr (.inr g1)))))], [(ct, .inl (y_c ε 0, 12, .inl (upd c1 b (nI ((cv b) + c39)))))], y_PW ε mn pa pf, z_W (y_c ε) ad h_119] ([(a_26, .inl (y_c ε 0, 8, .inl rf_26))]) [t_109_B, t_103_B] ?_
                      refine y_drp ([(a_26, .inl (y_c ε 0, 8, .inl rf_26))]) [[(pA, .inl (y_c ε 3, 12, .inr (.inr (.inr (.inr g1)))))], [(ct, .inl (y_c ε 0, 12, .inl (upd c1 b (nI ((cv b) + c39)))))], y_PW ε mn pa pf, z_W (y_c ε) ad h_119, t_109_B, t_103_B] ?_
                      refine y_mv [[(pA, .inl (y_c ε 3, 12, .inr (.inr (.inr (.inr g1)))))], [(ct, .inl (y_c ε 0, 12, .inl (upd c1 b (nI ((cv b) + c39)))))], y_PW ε mn pa pf, z_W (y_c ε) ad h_119] (t_109_B) [t_103_B] ?_
                      refine y_drp (t_109_B) [[(pA, .inl (y_c ε 3, 12, .inr (.inr (.inr (.inr g1)))))], [(ct, .inl (y_c ε 0, 12, .inl (upd c1 b (nI ((cv b) + c39)))))], y_PW ε mn pa pf, z_W (y_c ε) ad h_119, t_103_B] ?_
                      refine y_mv [[(pA, .inl (y_c ε 3, 12, .inr (.inr (.inr (.inr g1)))))], [(ct, .inl (y_c ε 0, 12, .inl (upd c1 b (nI ((cv b) + c39)))))], y_PW ε mn pa pf, z_W (y_c ε) ad h_119] (t_103_B) [] ?_
                      refine y_drp (t_103_B) [[(pA, .inl (y_c ε 3, 12, .inr (.inr (.inr (.inr g1)))))], [(ct, .inl (y_c ε 0, 12, .inl (upd c1 b (nI ((cv b) + c39)))))], y_PW ε mn pa pf, z_W (y_c ε) ad h_119] ?_
                      refine y_sub hC [1, 2, 3, 4, 5, 6, 7, 8, 0] rfl ?_
                      refine y_wid (600 * (k + 1)) (61000 * (k + 1)) (by omega) (by omega) ?_
                      exact ih_6 mn (k + 1) h_119 g1 (upd c1 b (nI ((cv b) + c39))) (fun x => if x = b then cv b + c39 else cv x) pv pa pf tp2_112 (by omega) ⟨(by exact hCI_119), (by first | exact ⟨by omega, y_IV_Y hIV (by omega) ⟨by omega, by omega⟩⟩ | exact ⟨by omega, y_IV_N hIV q_26.2 q_26.1 hq4 (fun x hx => m2 x (by omega)) ⟨by omega, by omega⟩⟩)⟩
                    · skip
                      rw [nI_eq (by omega) (by omega)] at c_162
                      replace c_162 := Decidable.not_not.mp c_162
                      refine y_steps hC 0 (σ' := (165, [(0, .ref (ad 0)), (1, .ref (y_a ε 42)), (2, .int (nI 1)), (3, .int (nI n)), (4, .int (nI parts)), (5, .ref pA), (6, .ref ct), (7, .int (nI mn)), (8, .int (nI k)), (9, .int v_18), (10, .ref a_26), (11, .int (nI c39)), (12, .int (nI b))], [], [])) rfl ?_
                      rw [c_162]
                      omega
                  · skip
                    rw [z0_ne (by have := z_tn_lt (z_allb n (fun c => decide (pv b c = rk_26 c))); omega)] at c_149
                    replace c_149 := Decidable.not_not.mp c_149
                    refine y_steps hC 0 (σ' := (152, [(0, .ref (ad 0)), (1, .ref (y_a ε 42)), (2, .int (nI 1)), (3, .int (nI n)), (4, .int (nI parts)), (5, .ref pA), (6, .ref ct), (7, .int (nI mn)), (8, .int (nI k)), (9, .int v_18), (10, .ref a_26), (11, .int (nI c39)), (12, .int (nI b))], [], [])) rfl ?_
                    refine y_inc hC (n := 1) rfl rfl rfl (b + 1) (by rfl) [(12, .int (nI (b + 1))), (0, .ref (ad 0)), (1, .ref (y_a ε 42)), (2, .int (nI 1)), (3, .int (nI n)), (4, .int (nI parts)), (5, .ref pA), (6, .ref ct), (7, .int (nI mn)), (8, .int (nI k)), (9, .int v_18), (10, .ref a_26), (11, .int (nI c39))] rfl ?_
                    refine y_steps hC 1 (σ' := (131, [(12, .int (nI (b + 1))), (0, .ref (ad 0)), (1, .ref (y_a ε 42)), (2, .int (nI 1)), (3, .int (nI n)), (4, .int (nI parts)), (5, .ref pA), (6, .ref ct), (7, .int (nI mn)), (8, .int (nI k)), (9, .int v_18), (10, .ref a_26), (11, .int (nI c39))], [], [])) rfl ?_
                    refine y_mv [y_PW ε mn pa pf, [(a_26, .inl (y_c ε 0, 8, .inl rf_26))], [(pA, .inl (y_c ε 3, 12, .inr (.inr (.inr (.inr g1)))))], [(ct, .inl (y_c ε 0, 12, .inl c1))], t_109_B, t_103_B] (z_W (y_c ε) ad h_119) [] ?_
                    refine y_mv [z_W (y_c ε) ad h_119] (y_PW ε mn pa pf) [[(a_26, .inl (y_c ε 0, 8, .inl rf_26))], [(pA, .inl (y_c ε 3, 12, .inr (.inr (.inr (.inr g1)))))], [(ct, .inl (y_c ε 0, 12, .inl c1))], t_109_B, t_103_B] ?_
                    refine y_mv [y_PW ε mn pa pf, z_W (y_c ε) ad h_119, [(a_26, .inl (y_c ε 0, 8, .inl rf_26))], [(pA, .inl (y_c ε 3, 12, .inr (.inr (.inr (.inr g1)))))]] ([(ct, .inl (y_c ε 0, 12, .inl c1))]) [t_109_B, t_103_B] ?_
                    refine y_mv [[(ct, .inl (y_c ε 0, 12, .inl c1))], y_PW ε mn pa pf, z_W (y_c ε) ad h_119, [(a_26, .inl (y_c ε 0, 8, .inl rf_26))]] ([(pA, .inl (y_c ε 3, 12, .inr (.inr (.inr (.inr g1)))))]) [t_109_B, t_103_B] ?_
                    refine y_mv [[(pA, .inl (y_c ε 3, 12, .inr (.inr (.inr (.inr g1)))))], [(ct, .inl (y_c ε 0, 12, .inl c1))], y_PW ε mn pa pf, z_W (y_c ε) ad h_119] ([(a_26, .inl (y_c ε 0, 8, .inl rf_26))]) [t_109_B, t_103_B] ?_
                    refine y_mv [[(a_26, .inl (y_c ε 0, 8, .inl rf_26))], [(pA, .inl (y_c ε 3, 12, .inr (.inr (.inr (.inr g1)))))], [(ct, .inl (y_c ε 0, 12, .inl c1))], y_PW ε mn pa pf, z_W (y_c ε) ad h_119, t_109_B] (t_103_B) [] ?_
                    refine y_mv [t_103_B, [(a_26, .inl (y_c ε 0, 8, .inl rf_26))], [(pA, .inl (y_c ε 3, 12, .inr (.inr (.inr (.inr g1)))))], [(ct, .inl (y_c ε 0, 12, .inl c1))], y_PW ε mn pa pf, z_W (y_c ε) ad h_119] (t_109_B) [] ?_
                    refine y_sub hC [1, 2, 3, 4, 5, 6, 7, 8, 9, 10, 11, 12, 0] rfl ?_
                    exact ih_131 (b + 1) (by omega) (by exact ⟨by omega, fun x hx => by rcases (by omega : x = b ∨ x < b) with e | e; (rw [e]; exact y_al_F c_149); (exact m2 x e)⟩)
            refine y_sub hC [4, 5, 6, 7, 8, 9, 10, 11, 12, 3, 2, 1, 0] rfl ?_
            exact loop_131 _ 0 (Nat.lt_succ_self _) (by exact ⟨Nat.zero_le _, fun x hx => absurd hx (Nat.not_lt_zero x)⟩)
          · skip
            rw [nI_leI (by omega) (by omega)] at c_88
            refine y_steps hC 2 (σ' := (94, [(11, .int (nI c39)), (10, .ref a_26), (9, .int v_18), (0, .ref (ad 0)), (1, .ref (y_a ε 42)), (2, .int (nI 1)), (3, .int (nI n)), (4, .int (nI parts)), (5, .ref pA), (6, .ref ct), (7, .int (nI mn)), (8, .int (nI k))], [.int (nI n), .ref a_26, .int (nI n), .ref a_26, .ref q44, .ref (ad 0)], [])) rfl ?_
            refine y_spl [[(a_26, .inl (y_c ε 0, 8, .inl rf_26))]] [[(q44, .inr (7, [.ref v2_58, .int (nI 0), .int (nI 0), .int (nI ((((y_dg c39)) ++ ((y_bts 3))).length))]))], [(v2_58, .inl (y_c ε 2, m2_58, .inl f2_58))], [(pA, .inl (y_c ε 3, 12, .inr (.inr (.inr (.inr g1)))))], [(ct, .inl (y_c ε 0, 12, .inl c1))], y_PW ε mn pa pf, z_W (y_c ε) ad h6] ?_
            refine y_callS (pc := 94) (st := [.int (nI n), .ref a_26, .ref q44, .ref (ad 0)]) (y := 143) (idx := 58) (w := y_J [[(a_26, .inl (y_c ε 0, 8, .inl rf_26))]]) (wr := y_J [[(q44, .inr (7, [.ref v2_58, .int (nI 0), .int (nI 0), .int (nI ((((y_dg c39)) ++ ((y_bts 3))).length))]))], [(v2_58, .inl (y_c ε 2, m2_58, .inl f2_58))], [(pA, .inl (y_c ε 3, 12, .inr (.inr (.inr (.inr g1)))))], [(ct, .inl (y_c ε 0, 12, .inl c1))], y_PW ε mn pa pf, z_W (y_c ε) ad h6]) (av := [.ref a_26, .int (nI n)]) hC rfl rfl (z_t3 (i := 186) rfl rfl) (z_t3 (i := 187) rfl rfl) (z_t1 (i := 0) rfl rfl) (c_L_places (rf := rf_26) (ra := a_26) (n := n) (q := rk_26) (by first | assumption | omega | rfl | trivial) (by exact q_26.1)) (show _ = some 2 from by decide +kernel) rfl rfl (by omega) (by omega) rfl (fun r_94 w_94 p_94 => ?_)
            obtain ⟨rfl, ew_94⟩ := p_94
            replace ew_94 := ew_94.symm
            subst ew_94
            refine y_cmb [[(a_26, .inl (y_c ε 0, 8, .inl rf_26))]] [[(q44, .inr (7, [.ref v2_58, .int (nI 0), .int (nI 0), .int (nI ((((y_dg c39)) ++ ((y_bts 3))).length))]))], [(v2_58, .inl (y_c ε 2, m2_58, .inl f2_58))], [(pA, .inl (y_c ε 3, 12, .inr (.inr (.inr (.inr g1)))))], [(ct, .inl (y_c ε 0, 12, .inl c1))], y_PW ε mn pa pf, z_W (y_c ε) ad h6] ?_
            refine y_steps hC 1 (σ' := (98, [(11, .int (nI c39)), (10, .ref a_26), (9, .int v_18), (0, .ref (ad 0)), (1, .ref (y_a ε 42)), (2, .int (nI 1)), (3, .int (nI n)), (4, .int (nI parts)), (5, .ref pA), (6, .ref ct), (7, .int (nI mn)), (8, .int (nI k))], [.int (nI 1), .int (nI (z_mx n rk_26 + 1)), .int (nI n), .ref a_26, .ref q44, .ref (ad 0)], [])) rfl ?_
            refine y_sbt hC (z_mx n rk_26) rfl (by first | assumption | omega | rfl | trivial) (by first | rfl | omega) ?_
            refine y_steps hC 1 (σ' := (103, [(11, .int (nI c39)), (10, .ref a_26), (9, .int v_18), (0, .ref (ad 0)), (1, .ref (y_a ε 42)), (2, .int (nI 1)), (3, .int (nI n)), (4, .int (nI parts)), (5, .ref pA), (6, .ref ct), (7, .int (nI mn)), (8, .int (nI k))], [.int (nI (z_mx n rk_26)), .int (nI n), .ref a_26, .ref q44, .ref (ad 0)], [])) rfl ?_
            refine y_spl [[(a_26, .inl (y_c ε 0, 8, .inl rf_26))]] [[(q44, .inr (7, [.ref v2_58, .int (nI 0), .int (nI 0), .int (nI ((((y_dg c39)) ++ ((y_bts 3))).length))]))], [(v2_58, .inl (y_c ε 2, m2_58, .inl f2_58))], [(pA, .inl (y_c ε 3, 12, .inr (.inr (.inr (.inr g1)))))], [(ct, .inl (y_c ε 0, 12, .inl c1))], y_PW ε mn pa pf, z_W (y_c ε) ad h6] ?_
            refine y_callS (pc := 103) (st := [.ref q44, .ref (ad 0)]) (y := 144) (idx := 61) (w := y_J [[(a_26, .inl (y_c ε 0, 8, .inl rf_26))]]) (wr := y_J [[(q44, .inr (7, [.ref v2_58, .int (nI 0), .int (nI 0), .int (nI ((((y_dg c39)) ++ ((y_bts 3))).length))]))], [(v2_58, .inl (y_c ε 2, m2_58, .inl f2_58))], [(pA, .inl (y_c ε 3, 12, .inr (.inr (.inr (.inr g1)))))], [(ct, .inl (y_c ε 0, 12, .inl c1))], y_PW ε mn pa pf, z_W (y_c ε) ad h6]) (av := [.ref a_26, .int (nI n), .int (nI (z_mx n rk_26))]) hC rfl rfl (z_t3 (i := 189) rfl rfl) (z_t3 (i := 190) rfl rfl) (z_t1 (i := 0) rfl rfl) (c_L_told (rf := rf_26) (ra := a_26) (n := n) (m := z_mx n rk_26) (q := rk_26) (by first | assumption | omega | rfl | trivial) (by first | assumption | omega | rfl | trivial) (by exact q_26.1) (by exact q_26.2) (by first | assumption | omega | rfl | trivial) (by first | assumption | omega | rfl | trivial)) (show _ = some 3 from by decide +kernel) rfl rfl (by omega) (by omega) rfl (fun r_103 w_103 p_103 => ?_)
            obtain ⟨t_103_a, t_103_v, t_103_f, t_103_L, t_103_B, rfl, ew_103, h_t_103, q_103⟩ := p_103
            replace ew_103 := ew_103.symm
            subst ew_103
            refine y_cmb [[(a_26, .inl (y_c ε 0, 8, .inl rf_26))], t_103_B] [[(q44, .inr (7, [.ref v2_58, .int (nI 0), .int (nI 0), .int (nI ((((y_dg c39)) ++ ((y_bts 3))).length))]))], [(v2_58, .inl (y_c ε 2, m2_58, .inl f2_58))], [(pA, .inl (y_c ε 3, 12, .inr (.inr (.inr (.inr g1)))))], [(ct, .inl (y_c ε 0, 12, .inl c1))], y_PW ε mn pa pf, z_W (y_c ε) ad h6] ?_
            have hs_103 : t_103_L.length ≤ 16 := (by rw [q_103]; exact y_sp_16 hn2 hn q_26.2 (by omega)); have hc_103 : ∀ c ∈ t_103_L, 1 ≤ c := (by rw [q_103]; exact y_sp_c _)
            refine y_steps hC 0 (σ' := (106, [(11, .int (nI c39)), (10, .ref a_26), (9, .int v_18), (0, .ref (ad 0)), (1, .ref (y_a ε 42)), (2, .int (nI 1)), (3, .int (nI n)), (4, .int (nI parts)), (5, .ref pA), (6, .ref ct), (7, .int (nI mn)), (8, .int (nI k))], [.ref t_103_a, .ref q44, .ref (ad 0)], [])) rfl ?_
            refine y_mv [[(a_26, .inl (y_c ε 0, 8, .inl rf_26))]] (t_103_B) [[(q44, .inr (7, [.ref v2_58, .int (nI 0), .int (nI 0), .int (nI ((((y_dg c39)) ++ ((y_bts 3))).length))]))], [(v2_58, .inl (y_c ε 2, m2_58, .inl f2_58))], [(pA, .inl (y_c ε 3, 12, .inr (.inr (.inr (.inr g1)))))], [(ct, .inl (y_c ε 0, 12, .inl c1))], y_PW ε mn pa pf, z_W (y_c ε) ad h6] ?_
            refine y_mv [t_103_B, [(a_26, .inl (y_c ε 0, 8, .inl rf_26))], [(q44, .inr (7, [.ref v2_58, .int (nI 0), .int (nI 0), .int (nI ((((y_dg c39)) ++ ((y_bts 3))).length))]))]] ([(v2_58, .inl (y_c ε 2, m2_58, .inl f2_58))]) [[(pA, .inl (y_c ε 3, 12, .inr (.inr (.inr (.inr g1)))))], [(ct, .inl (y_c ε 0, 12, .inl c1))], y_PW ε mn pa pf, z_W (y_c ε) ad h6] ?_
            refine y_mv [[(v2_58, .inl (y_c ε 2, m2_58, .inl f2_58))], t_103_B, [(a_26, .inl (y_c ε 0, 8, .inl rf_26))]] ([(q44, .inr (7, [.ref v2_58, .int (nI 0), .int (nI 0), .int (nI ((((y_dg c39)) ++ ((y_bts 3))).length))]))]) [[(pA, .inl (y_c ε 3, 12, .inr (.inr (.inr (.inr g1)))))], [(ct, .inl (y_c ε 0, 12, .inl c1))], y_PW ε mn pa pf, z_W (y_c ε) ad h6] ?_
            refine y_spl [[(q44, .inr (7, [.ref v2_58, .int (nI 0), .int (nI 0), .int (nI ((((y_dg c39)) ++ ((y_bts 3))).length))]))], [(v2_58, .inl (y_c ε 2, m2_58, .inl f2_58))], t_103_B] [[(a_26, .inl (y_c ε 0, 8, .inl rf_26))], [(pA, .inl (y_c ε 3, 12, .inr (.inr (.inr (.inr g1)))))], [(ct, .inl (y_c ε 0, 12, .inl c1))], y_PW ε mn pa pf, z_W (y_c ε) ad h6] ?_
            refine y_callV (b := q44) (pc := 106) (st := [.ref (ad 0)]) (y := 126) (idx := 30) (w := y_J [[(q44, .inr (7, [.ref v2_58, .int (nI 0), .int (nI 0), .int (nI ((((y_dg c39)) ++ ((y_bts 3))).length))]))], [(v2_58, .inl (y_c ε 2, m2_58, .inl f2_58))], t_103_B]) (wr := y_J [[(a_26, .inl (y_c ε 0, 8, .inl rf_26))], [(pA, .inl (y_c ε 3, 12, .inr (.inr (.inr (.inr g1)))))], [(ct, .inl (y_c ε 0, 12, .inl c1))], y_PW ε mn pa pf, z_W (y_c ε) ad h6]) (av := [.ref t_103_a]) hC rfl rfl rfl (z_t3 (i := 224) rfl rfl) (z_t3 (i := 225) rfl rfl) (z_t3 (i := 226) rfl rfl) (z_t1 (i := 13) rfl rfl) (fun H locs hP hS => y_rW (ci := 7) (k := 0) hC rfl rfl H locs hP hS) (c_J4_append_15ec4 (f := f2_58) (a := q44) (t_a := t_103_a) (t_v := t_103_v) (t_f := t_103_f) (t_L := t_103_L) (t_B := t_103_B) (v := v2_58) (m := m2_58) (L := (((y_dg c39)) ++ ((y_bts 3)))) h_t_103 (by exact q_58) (by have hdg := (y_dg_len c39).1; rw [List.length_append, y_bts3]; show _ + 1 + _ ≤ 100; omega)) (show _ = some 1 from by decide +kernel) rfl rfl (by omega) (by omega) rfl (fun r_106 w_106 p_106 => ?_)
            obtain ⟨v2_106, m2_106, f2_106, rfl, ew_106, q_106⟩ := p_106
            replace ew_106 := ew_106.symm
            subst ew_106
            refine y_cmb [[(q44, .inr (7, [.ref v2_106, .int (nI 0), .int (nI 0), .int (nI ((((((y_dg c39)) ++ ((y_bts 3)))) ++ t_103_L).length))]))], [(v2_106, .inl (y_c ε 2, m2_106, .inl f2_106))], t_103_B] [[(a_26, .inl (y_c ε 0, 8, .inl rf_26))], [(pA, .inl (y_c ε 3, 12, .inr (.inr (.inr (.inr g1)))))], [(ct, .inl (y_c ε 0, 12, .inl c1))], y_PW ε mn pa pf, z_W (y_c ε) ad h6] ?_
            refine y_steps hC 0 (σ' := (109, [(11, .int (nI c39)), (10, .ref a_26), (9, .int v_18), (0, .ref (ad 0)), (1, .ref (y_a ε 42)), (2, .int (nI 1)), (3, .int (nI n)), (4, .int (nI parts)), (5, .ref pA), (6, .ref ct), (7, .int (nI mn)), (8, .int (nI k))], [.ref q44, .ref (ad 0)], [])) rfl ?_
            refine y_spl [[(q44, .inr (7, [.ref v2_106, .int (nI 0), .int (nI 0), .int (nI ((((((y_dg c39)) ++ ((y_bts 3)))) ++ t_103_L).length))]))], [(v2_106, .inl (y_c ε 2, m2_106, .inl f2_106))]] [t_103_B, [(a_26, .inl (y_c ε 0, 8, .inl rf_26))], [(pA, .inl (y_c ε 3, 12, .inr (.inr (.inr (.inr g1)))))], [(ct, .inl (y_c ε 0, 12, .inl c1))], y_PW ε mn pa pf, z_W (y_c ε) ad h6] ?_
            refine y_callV (b := q44) (pc := 109) (st := [.ref (ad 0)]) (y := 129) (idx := 41) (w := y_J [[(q44, .inr (7, [.ref v2_106, .int (nI 0), .int (nI 0), .int (nI ((((((y_dg c39)) ++ ((y_bts 3)))) ++ t_103_L).length))]))], [(v2_106, .inl (y_c ε 2, m2_106, .inl f2_106))]]) (wr := y_J [t_103_B, [(a_26, .inl (y_c ε 0, 8, .inl rf_26))], [(pA, .inl (y_c ε 3, 12, .inr (.inr (.inr (.inr g1)))))], [(ct, .inl (y_c ε 0, 12, .inl c1))], y_PW ε mn pa pf, z_W (y_c ε) ad h6]) (av := []) hC rfl rfl rfl (z_t4 (i := 106) rfl rfl) (z_t4 (i := 107) rfl rfl) (z_t4 (i := 108) rfl rfl) (z_t1 (i := 13) rfl rfl) (fun H locs hP hS => y_rW (ci := 7) (k := 0) hC rfl rfl H locs hP hS) (c_J4_toString_0e30d (f := f2_106) (a := q44) (v := v2_106) (m := m2_106) (L := (((((y_dg c39)) ++ ((y_bts 3)))) ++ t_103_L)) (by exact q_106) (by have hdg := (y_dg_len c39).1; rw [List.length_append, List.length_append, y_bts3]; show _ + 1 + _ ≤ 200; omega)) (show _ = some 0 from by decide +kernel) rfl rfl (by omega) (by omega) rfl (fun r_109 w_109 p_109 => ?_)
            obtain ⟨t_109_a, t_109_v, t_109_f, t_109_L, t_109_B, rfl, ew_109, h_t_109, q_109⟩ := p_109
            replace ew_109 := ew_109.symm
            subst ew_109
            refine y_cmb [t_109_B] [t_103_B, [(a_26, .inl (y_c ε 0, 8, .inl rf_26))], [(pA, .inl (y_c ε 3, 12, .inr (.inr (.inr (.inr g1)))))], [(ct, .inl (y_c ε 0, 12, .inl c1))], y_PW ε mn pa pf, z_W (y_c ε) ad h6] ?_
            have hdg := (y_dg_len c39).1; have hl_109 : t_109_L.length ≤ 120 := (by rw [q_109, List.length_append, List.length_append, y_bts3]; show _ + 1 + _ ≤ 120; omega); have hc_109 : ∀ c ∈ t_109_L, 1 ≤ c := (by rw [q_109]; exact y_txc (y_txc (fun c hc => (y_dg_c (by omega) c hc).1) (y_bts_c 3 (by decide))) hc_103)
            refine y_steps hC 0 (σ' := (112, [(11, .int (nI c39)), (10, .ref a_26), (9, .int v_18), (0, .ref (ad 0)), (1, .ref (y_a ε 42)), (2, .int (nI 1)), (3, .int (nI n)), (4, .int (nI parts)), (5, .ref pA), (6, .ref ct), (7, .int (nI mn)), (8, .int (nI k))], [.ref t_109_a, .ref (ad 0)], [])) rfl ?_
            refine y_mv [t_109_B, t_103_B, [(a_26, .inl (y_c ε 0, 8, .inl rf_26))], [(pA, .inl (y_c ε 3, 12, .inr (.inr (.inr (.inr g1)))))], [(ct, .inl (y_c ε 0, 12, .inl c1))], y_PW ε mn pa pf] (z_W (y_c ε) ad h6) [] ?_
            refine y_mv [z_W (y_c ε) ad h6] (t_109_B) [t_103_B, [(a_26, .inl (y_c ε 0, 8, .inl rf_26))], [(pA, .inl (y_c ε 3, 12, .inr (.inr (.inr (.inr g1)))))], [(ct, .inl (y_c ε 0, 12, .inl c1))], y_PW ε mn pa pf] ?_
            refine y_spl [t_109_B, z_W (y_c ε) ad h6] [t_103_B, [(a_26, .inl (y_c ε 0, 8, .inl rf_26))], [(pA, .inl (y_c ε 3, 12, .inr (.inr (.inr (.inr g1)))))], [(ct, .inl (y_c ε 0, 12, .inl c1))], y_PW ε mn pa pf] ?_
            refine y_callS (pc := 112) (st := []) (y := 141) (idx := 65) (w := y_J [t_109_B, z_W (y_c ε) ad h6]) (wr := y_J [t_103_B, [(a_26, .inl (y_c ε 0, 8, .inl rf_26))], [(pA, .inl (y_c ε 3, 12, .inr (.inr (.inr (.inr g1)))))], [(ct, .inl (y_c ε 0, 12, .inl c1))], y_PW ε mn pa pf]) (av := [.ref (ad 0), .ref t_109_a]) hC rfl rfl (z_t3 (i := 132) rfl rfl) (z_t3 (i := 133) rfl rfl) (z_t1 (i := 0) rfl rfl) (c_L_feeds (t_a := t_109_a) (t_v := t_109_v) (t_f := t_109_f) (t_L := t_109_L) (t_B := t_109_B) (ad := ad) (hX := h6) h_t_109 h_cl6 (by exact hc_109) (by exact hl_109)) (show _ = some 2 from by decide +kernel) rfl rfl (by omega) (by omega) rfl (fun r_112 w_112 p_112 => ?_)
            obtain ⟨h2_112, tp2_112, rfl, ew_112, hCI_112, q_112⟩ := p_112
            replace ew_112 := ew_112.symm
            subst ew_112
            refine y_cmb [t_109_B, z_W (y_c ε) ad h2_112] [t_103_B, [(a_26, .inl (y_c ε 0, 8, .inl rf_26))], [(pA, .inl (y_c ε 3, 12, .inr (.inr (.inr (.inr g1)))))], [(ct, .inl (y_c ε 0, 12, .inl c1))], y_PW ε mn pa pf] ?_
            obtain ⟨bm4, cn4, pl4, q4, hq4, hadd, hpts⟩ := y_comes1 (n := n) (bm := mn) (c := c39) (tp := tp2_112) (r := rk_26) (cn := cv) (pl := pv) hn2 hn q_26.2 (by omega) (by omega) (by omega) (by omega) (by omega) q_109 q_103 q_112 (by omega) (fun b hb => by have := (hIV.2.2.2.2.1 b hb).2.2; omega)
            refine y_steps hC 2 (σ' := (119, [(11, .int (nI c39)), (10, .ref a_26), (9, .int v_18), (0, .ref (ad 0)), (1, .ref (y_a ε 42)), (2, .int (nI 1)), (3, .int (nI n)), (4, .int (nI parts)), (5, .ref pA), (6, .ref ct), (7, .int (nI mn)), (8, .int (nI k))], [.ref (ad 0)], [])) rfl ?_
            refine y_mv [t_109_B, z_W (y_c ε) ad h2_112, t_103_B, [(a_26, .inl (y_c ε 0, 8, .inl rf_26))], [(pA, .inl (y_c ε 3, 12, .inr (.inr (.inr (.inr g1)))))], [(ct, .inl (y_c ε 0, 12, .inl c1))]] (y_PW ε mn pa pf) [] ?_
            refine y_mv [y_PW ε mn pa pf, t_109_B, z_W (y_c ε) ad h2_112, t_103_B, [(a_26, .inl (y_c ε 0, 8, .inl rf_26))], [(pA, .inl (y_c ε 3, 12, .inr (.inr (.inr (.inr g1)))))]] ([(ct, .inl (y_c ε 0, 12, .inl c1))]) [] ?_
            refine y_mv [[(ct, .inl (y_c ε 0, 12, .inl c1))], y_PW ε mn pa pf, t_109_B, z_W (y_c ε) ad h2_112, t_103_B, [(a_26, .inl (y_c ε 0, 8, .inl rf_26))]] ([(pA, .inl (y_c ε 3, 12, .inr (.inr (.inr (.inr g1)))))]) [] ?_
            refine y_mv [[(pA, .inl (y_c ε 3, 12, .inr (.inr (.inr (.inr g1)))))], [(ct, .inl (y_c ε 0, 12, .inl c1))], y_PW ε mn pa pf, t_109_B, z_W (y_c ε) ad h2_112, t_103_B] ([(a_26, .inl (y_c ε 0, 8, .inl rf_26))]) [] ?_
            refine y_mv [[(a_26, .inl (y_c ε 0, 8, .inl rf_26))], [(pA, .inl (y_c ε 3, 12, .inr (.inr (.inr (.inr g1)))))], [(ct, .inl (y_c ε 0, 12, .inl c1))], y_PW ε mn pa pf, t_109_B, z_W (y_c ε) ad h2_112] (t_103_B) [] ?_
            refine y_mv [t_103_B, [(a_26, .inl (y_c ε 0, 8, .inl rf_26))], [(pA, .inl (y_c ε 3, 12, .inr (.inr (.inr (.inr g1)))))], [(ct, .inl (y_c ε 0, 12, .inl c1))], y_PW ε mn pa pf] (t_109_B) [z_W (y_c ε) ad h2_112] ?_
            obtain ⟨fs_119, hh_119⟩ := y_CI_hd hCI_112
            refine y_spl [t_109_B, t_103_B, [(a_26, .inl (y_c ε 0, 8, .inl rf_26))], [(pA, .inl (y_c ε 3, 12, .inr (.inr (.inr (.inr g1)))))], [(ct, .inl (y_c ε 0, 12, .inl c1))], y_PW ε mn pa pf] [z_W (y_c ε) ad h2_112] ?_
            refine y_cls (d := 5) (y := 73) (idx := 69) (ad := ad) (h := h2_112) (B := y_J [t_109_B, t_103_B, [(a_26, .inl (y_c ε 0, 8, .inl rf_26))], [(pA, .inl (y_c ε 3, 12, .inr (.inr (.inr (.inr g1)))))], [(ct, .inl (y_c ε 0, 12, .inl c1))], y_PW ε mn pa pf]) (av := []) (fs := fs_119) hC rfl (m_ballotsT hCI_112 hpts) rfl hh_119 rfl (z_t2 (i := 27) rfl rfl) (z_t2 (i := 28) rfl rfl) (z_t2 (i := 29) rfl rfl) (z_t1 (i := 1) rfl rfl) (show _ = some 0 from by decide +kernel) rfl rfl (by omega) (by omega) rfl (fun r_119 h_119 p_119 => ?_)
            obtain ⟨rfl, hCI_119⟩ := p_119
            refine y_cmb [t_109_B, t_103_B, [(a_26, .inl (y_c ε 0, 8, .inl rf_26))], [(pA, .inl (y_c ε 3, 12, .inr (.inr (.inr (.inr g1)))))], [(ct, .inl (y_c ε 0, 12, .inl c1))], y_PW ε mn pa pf] [z_W (y_c ε) ad h_119] ?_
            refine y_steps hC 4 (σ' := (131, [(12, .int (nI 0)), (11, .int (nI c39)), (10, .ref a_26), (9, .int v_18), (0, .ref (ad 0)), (1, .ref (y_a ε 42)), (2, .int (nI 1)), (3, .int (nI n)), (4, .int (nI parts)), (5, .ref pA), (6, .ref ct), (7, .int (nI mn)), (8, .int (nI k))], [], [])) rfl ?_
            have loop_131 : ∀ (z_131 : Nat) (b : Nat), mn - b < z_131 → ((b ≤ mn ∧ ∀ x, x < b → ¬ z_same n pv rk_26 x)) → y_G ε κ zmL_comes ((((((((600 * k + 1) + 1) + 1) + 1) + 1) + 512) + 1) + 2) ((((((((61000 * k + 8) + 4) + 16) + 202) + 202) + 60000) + 202) + 206) ((t_109_B) ++ ((t_103_B) ++ ((a_26, .inl (y_c ε 0, 8, .inl rf_26)) :: ((pA, .inl (y_c ε 3, 12, .inr (.inr (.inr (.inr g1))))) :: ((ct, .inl (y_c ε 0, 12, .inl c1)) :: ((y_PW ε mn pa pf) ++ (z_W (y_c ε) ad h_119))))))) (131, [(0, .ref (ad 0)), (1, .ref (y_a ε 42)), (2, .int (nI 1)), (3, .int (nI n)), (4, .int (nI parts)), (5, .ref pA), (6, .ref ct), (7, .int (nI mn)), (8, .int (nI k)), (9, .int v_18), (10, .ref a_26), (11, .int (nI c39)), (12, .int (nI b))], [], []) := by
              intro z_131
              induction z_131 with
              | zero => intro b hm_131 _; exact absurd hm_131 (Nat.not_lt_zero _)
              | succ z_131 ih_131 =>
                intro b hm_131 hi_131
                obtain ⟨m1, m2⟩ := hi_131
                refine y_steps hC 2 (σ' := (135, [(0, .ref (ad 0)), (1, .ref (y_a ε 42)), (2, .int (nI 1)), (3, .int (nI n)), (4, .int (nI parts)), (5, .ref pA), (6, .ref ct), (7, .int (nI mn)), (8, .int (nI k)), (9, .int v_18), (10, .ref a_26), (11, .int (nI c39)), (12, .int (nI b))], [.int (nI mn), .int (nI b)], [])) rfl ?_
                refine y_if hC (c := nI mn ≤ nI b) rfl (fun c_135 => ?_) (fun c_135 => ?_)
                · skip
                  rw [nI_leI (by omega) (by omega)] at c_135
                  obtain ⟨e1, e2, e3⟩ := y_addN hadd hq4 (fun x hx => m2 x (by omega)); rw [e1, e2, e3] at hCI_119
                  refine y_steps hC 2 (σ' := (162, [(0, .ref (ad 0)), (1, .ref (y_a ε 42)), (2, .int (nI 1)), (3, .int (nI n)), (4, .int (nI parts)), (5, .ref pA), (6, .ref ct), (7, .int (nI mn)), (8, .int (nI k)), (9, .int v_18), (10, .ref a_26), (11, .int (nI c39)), (12, .int (nI b))], [.int (nI mn), .int (nI b)], [])) rfl ?_
                  refine y_if hC (c := ¬ nI b = nI mn) rfl (fun c_162 => ?_) (fun c_162 => ?_)
                  · skip
                    rw [nI_eq (by omega) (by omega)] at c_162
                    skip
                    omega
                  · skip
                    rw [nI_eq (by omega) (by omega)] at c_162
                    replace c_162 := Decidable.not_not.mp c_162
                    refine y_steps hC 0 (σ' := (165, [(0, .ref (ad 0)), (1, .ref (y_a ε 42)), (2, .int (nI 1)), (3, .int (nI n)), (4, .int (nI parts)), (5, .ref pA), (6, .ref ct), (7, .int (nI mn)), (8, .int (nI k)), (9, .int v_18), (10, .ref a_26), (11, .int (nI c39)), (12, .int (nI b))], [], [])) rfl ?_
                    rw [c_162]
                    refine y_steps hC 3 (σ' := (171, [(0, .ref (ad 0)), (1, .ref (y_a ε 42)), (2, .int (nI 1)), (3, .int (nI n)), (4, .int (nI parts)), (5, .ref pA), (6, .ref ct), (7, .int (nI mn)), (8, .int (nI k)), (9, .int v_18), (10, .ref a_26), (11, .int (nI c39)), (12, .int (nI mn))], [.ref a_26, .int (nI mn), .ref pA], [])) rfl ?_
                    refine y_mv [t_109_B, t_103_B, [(a_26, .inl (y_c ε 0, 8, .inl rf_26))], [(pA, .inl (y_c ε 3, 12, .inr (.inr (.inr (.inr g1)))))]] ([(ct, .inl (y_c ε 0, 12, .inl c1))]) [y_PW ε mn pa pf, z_W (y_c ε) ad h_119] ?_
                    refine y_mv [[(ct, .inl (y_c ε 0, 12, .inl c1))], t_109_B, t_103_B, [(a_26, .inl (y_c ε 0, 8, .inl rf_26))]] ([(pA, .inl (y_c ε 3, 12, .inr (.inr (.inr (.inr g1)))))]) [y_PW ε mn pa pf, z_W (y_c ε) ad h_119] ?_
                    refine y_mv [[(pA, .inl (y_c ε 3, 12, .inr (.inr (.inr (.inr g1)))))], [(ct, .inl (y_c ε 0, 12, .inl c1))], t_109_B, t_103_B] ([(a_26, .inl (y_c ε 0, 8, .inl rf_26))]) [y_PW ε mn pa pf, z_W (y_c ε) ad h_119] ?_
                    refine y_aas (k2 := 0) (ws2 := ((a_26, .inl (y_c ε 0, 8, .inl rf_26)) :: ((pA, .inl (y_c ε 3, 12, .inr (.inr (.inr (.inr (va_up g1 mn (some a_26))))))) :: ((ct, .inl (y_c ε 0, 12, .inl c1)) :: ((t_109_B) ++ ((t_103_B) ++ ((y_PW ε mn pa pf) ++ (z_W (y_c ε) ad h_119)))))))) hC 1 rfl rfl rfl (by first | assumption | omega | rfl | trivial) (by omega) rfl ?_
                    refine y_steps hC 3 (σ' := (177, [(0, .ref (ad 0)), (1, .ref (y_a ε 42)), (2, .int (nI 1)), (3, .int (nI n)), (4, .int (nI parts)), (5, .ref pA), (6, .ref ct), (7, .int (nI mn)), (8, .int (nI k)), (9, .int v_18), (10, .ref a_26), (11, .int (nI c39)), (12, .int (nI mn))], [.int (nI 0), .int (nI mn), .ref ct], [])) rfl ?_
                    refine y_ias (ws2 := ((a_26, .inl (y_c ε 0, 8, .inl rf_26)) :: ((pA, .inl (y_c ε 3, 12, .inr (.inr (.inr (.inr (va_up g1 mn (some a_26))))))) :: ((ct, .inl (y_c ε 0, 12, .inl (upd c1 mn (nI 0)))) :: ((t_109_B) ++ ((t_103_B) ++ ((y_PW ε mn pa pf) ++ (z_W (y_c ε) ad h_119)))))))) hC 2 rfl rfl (by first | assumption | omega | rfl | trivial) (by omega) rfl ?_
                    refine y_steps hC 0 (σ' := (178, [(0, .ref (ad 0)), (1, .ref (y_a ε 42)), (2, .int (nI 1)), (3, .int (nI n)), (4, .int (nI parts)), (5, .ref pA), (6, .ref ct), (7, .int (nI mn)), (8, .int (nI k)), (9, .int v_18), (10, .ref a_26), (11, .int (nI c39)), (12, .int (nI mn))], [], [])) rfl ?_
                    refine y_inc hC (n := 1) rfl rfl rfl (mn + 1) (by rfl) [(7, .int (nI (mn + 1))), (0, .ref (ad 0)), (1, .ref (y_a ε 42)), (2, .int (nI 1)), (3, .int (nI n)), (4, .int (nI parts)), (5, .ref pA), (6, .ref ct), (8, .int (nI k)), (9, .int v_18), (10, .ref a_26), (11, .int (nI c39)), (12, .int (nI mn))] rfl ?_
                    refine y_steps hC 3 (σ' := (186, [(7, .int (nI (mn + 1))), (0, .ref (ad 0)), (1, .ref (y_a ε 42)), (2, .int (nI 1)), (3, .int (nI n)), (4, .int (nI parts)), (5, .ref pA), (6, .ref ct), (8, .int (nI k)), (9, .int v_18), (10, .ref a_26), (11, .int (nI c39)), (12, .int (nI mn))], [.int (nI mn), .ref ct, .int (nI mn), .ref ct], [])) rfl ?_
                    refine y_ial hC 2 rfl rfl (by first | assumption | omega | rfl | trivial) (by omega) (if_pos rfl) ?_
                    refine y_steps hC 1 (σ' := (189, [(7, .int (nI (mn + 1))), (0, .ref (ad 0)), (1, .ref (y_a ε 42)), (2, .int (nI 1)), (3, .int (nI n)), (4, .int (nI parts)), (5, .ref pA), (6, .ref ct), (8, .int (nI k)), (9, .int v_18), (10, .ref a_26), (11, .int (nI c39)), (12, .int (nI mn))], [.int (nI c39), .int (nI 0), .int (nI mn), .ref ct], [])) rfl ?_
                    refine y_add hC (c39) rfl (by first | rfl | omega) ?_
                    refine y_steps hC 0 (σ' := (190, [(7, .int (nI (mn + 1))), (0, .ref (ad 0)), (1, .ref (y_a ε 42)), (2, .int (nI 1)), (3, .int (nI n)), (4, .int (nI parts)), (5, .ref pA), (6, .ref ct), (8, .int (nI k)), (9, .int v_18), (10, .ref a_26), (11, .int (nI c39)), (12, .int (nI mn))], [.int (nI c39), .int (nI mn), .ref ct], [])) rfl ?_
                    refine y_ias (ws2 := ((a_26, .inl (y_c ε 0, 8, .inl rf_26)) :: ((pA, .inl (y_c ε 3, 12, .inr (.inr (.inr (.inr (va_up g1 mn (some a_26))))))) :: ((ct, .inl (y_c ε 0, 12, .inl (upd (upd c1 mn (nI 0)) mn (nI c39)))) :: ((t_109_B) ++ ((t_103_B) ++ ((y_PW ε mn pa pf) ++ (z_W (y_c ε) ad h_119)))))))) hC 2 rfl rfl (by first | assumption | omega | rfl | trivial) (by omega) rfl ?_
                    refine y_steps hC 0 (σ' := (191, [(7, .int (nI (mn + 1))), (0, .ref (ad 0)), (1, .ref (y_a ε 42)), (2, .int (nI 1)), (3, .int (nI n)), (4, .int (nI parts)), (5, .ref pA), (6, .ref ct), (8, .int (nI k)), (9, .int v_18), (10, .ref a_26), (11, .int (nI c39)), (12, .int (nI mn))], [], [])) rfl ?_
                    refine y_inc hC (n := 1) rfl rfl rfl (k + 1) (by rfl) [(8, .int (nI (k + 1))), (7, .int (nI (mn + 1))), (0, .ref (ad 0)), (1, .ref (y_a ε 42)), (2, .int (nI 1)), (3, .int (nI n)), (4, .int (nI parts)), (5, .ref pA), (6, .ref ct), (9, .int v_18), (10, .ref a_26), (11, .int (nI c39)), (12, .int (nI mn))] rfl ?_
                    refine y_steps hC 1 (σ' := (6, [(8, .int (nI (k + 1))), (7, .int (nI (mn + 1))), (0, .ref (ad 0)), (1, .ref (y_a ε 42)), (2, .int (nI 1)), (3, .int (nI n)), (4, .int (nI parts)), (5, .ref pA), (6, .ref ct), (9, .int v_18), (10, .ref a_26), (11, .int (nI c39)), (12, .int (nI mn))], [], [])) rfl ?_
                    refine y_mv [[(a_26, .inl (y_c ε 0, 8, .inl rf_26))], [(pA, .inl (y_c ε 3, 12, .inr (.inr (.inr (.inr (va_up g1 mn (some a_26)))))))], [(ct, .inl (y_c ε 0, 12, .inl (upd (upd c1 mn (nI 0)) mn (nI c39))))], t_109_B, t_103_B] (y_PW ε mn pa pf) [z_W (y_c ε) ad h_119] ?_
                    refine y_mv [y_PW ε mn pa pf] ([(a_26, .inl (y_c ε 0, 8, .inl rf_26))]) [[(pA, .inl (y_c ε 3, 12, .inr (.inr (.inr (.inr (va_up g1 mn (some a_26)))))))], [(ct, .inl (y_c ε 0, 12, .inl (upd (upd c1 mn (nI 0)) mn (nI c39))))], t_109_B, t_103_B, z_W (y_c ε) ad h_119] ?_
                    refine y_pm3 (b1 := [(a_26, .inl (y_c ε 0, 8, .inl rf_26))]) (b2 := y_PW ε mn pa pf) (y_PW ε (mn + 1) (fun x => if x = mn then a_26 else pa x) (fun x => if x = mn then rf_26 else pf x)) [[(pA, .inl (y_c ε 3, 12, .inr (.inr (.inr (.inr (va_up g1 mn (some a_26)))))))], [(ct, .inl (y_c ε 0, 12, .inl (upd (upd c1 mn (nI 0)) mn (nI c39))))], t_109_B, t_103_B, z_W (y_c ε) ad h_119] y_PW_put ?_
                    refine y_steps hC 0 (σ' := (6, [(8, .int (nI (k + 1))), (7, .int (nI (mn + 1))), (0, .ref (ad 0)), (1, .ref (y_a ε 42)), (2, .int (nI 1)), (3, .int (nI n)), (4, .int (nI parts)), (5, .ref pA), (6, .ref ct), (9, .int v_18), (10, .ref a_26), (11, .int (nI c39)), (12, .int (nI mn))], [], [])) rfl ?_
                    refine y_mv [y_PW ε (mn + 1) (fun x => if x = mn then a_26 else pa x) (fun x => if x = mn then rf_26 else pf x), [(pA, .inl (y_c ε 3, 12, .inr (.inr (.inr (.inr (va_up g1 mn (some a_26)))))))], [(ct, .inl (y_c ε 0, 12, .inl (upd (upd c1 mn (nI 0)) mn (nI c39))))], t_109_B, t_103_B] (z_W (y_c ε) ad h_119) [] ?_
                    refine y_mv [z_W (y_c ε) ad h_119] (y_PW ε (mn + 1) (fun x => if x = mn then a_26 else pa x) (fun x => if x = mn then rf_26 else pf x)) [[(pA, .inl (y_c ε 3, 12, .inr (.inr (.inr (.inr (va_up g1 mn (some a_26)))))))], [(ct, .inl (y_c ε 0, 12, .inl (upd (upd c1 mn (nI 0)) mn (nI c39))))], t_109_B, t_103_B] ?_
                    refine y_mv [y_PW ε (mn + 1) (fun x => if x = mn then a_26 else pa x) (fun x => if x = mn then rf_26 else pf x), z_W (y_c ε) ad h_119, [(pA, .inl (y_c ε 3, 12, .inr (.inr (.inr (.inr (va_up g1 mn (some a_26)))))))]] ([(ct, .inl (y_c ε 0, 12, .inl (upd (upd c1 mn (nI 0)) mn (nI c39))))]) [t_109_B, t_103_B] ?_
                    refine y_mv [[(ct, .inl (y_c ε 0, 12, .inl (upd (upd c1 mn (nI 0)) mn (nI c39))))], y_PW ε (mn + 1) (fun x => if x = mn then a_26 else pa x) (fun x => if x = mn then rf_26 else pf x), z_W (y_c ε) ad h_119] ([(pA, .inl (y_c ε 3, 12, .inr (.inr (.inr (.inr (va_up g1 mn (some a_26)))))))]) [t_109_B, t_103_B] ?_
                    refine y_mv [[(pA, .inl (y_c ε 3, 12, .inr (.inr (.inr (.inr (va_up g1 mn (some a_26)))))))], [(ct, .inl (y_c ε 0, 12, .inl (upd (upd c1 mn (nI 0)) mn (nI c39))))], y_PW ε (mn + 1) (fun x => if x = mn then a_26 else pa x) (fun x => if x = mn then rf_26 else pf x), z_W (y_c ε) ad h_119] (t_109_B) [t_103_B] ?_
                    refine y_drp (t_109_B) [[(pA, .inl (y_c ε 3, 12, .inr (.inr (.inr (.inr (va_up g1 mn (some a_26)))))))], [(ct, .inl (y_c ε 0, 12, .inl (upd (upd c1 mn (nI 0)) mn (nI c39))))], y_PW ε (mn + 1) (fun x => if x = mn then a_26 else pa x) (fun x => if x = mn then rf_26 else pf x), z_W (y_c ε) ad h_119, t_103_B] ?_
                    refine y_mv [[(pA, .inl (y_c ε 3, 12, .inr (.inr (.inr (.inr (va_up g1 mn (some a_26)))))))], [(ct, .inl (y_c ε 0, 12, .inl (upd (upd c1 mn (nI 0)) mn (nI c39))))], y_PW ε (mn + 1) (fun x => if x = mn then a_26 else pa x) (fun x => if x = mn then rf_26 else pf x), z_W (y_c ε) ad h_119] (t_103_B) [] ?_
                    refine y_drp (t_103_B) [[(pA, .inl (y_c ε 3, 12, .inr (.inr (.inr (.inr (va_up g1 mn (some a_26)))))))], [(ct, .inl (y_c ε 0, 12, .inl (upd (upd c1 mn (nI 0)) mn (nI c39))))], y_PW ε (mn + 1) (fun x => if x = mn then a_26 else pa x) (fun x => if x = mn then rf_26 else pf x), z_W (y_c ε) ad h_119] ?_
                    refine y_sub hC [2, 3, 4, 5, 6, 7, 8, 1, 0] rfl ?_
                    refine y_wid (600 * (k + 1)) (61000 * (k + 1)) (by omega) (by omega) ?_
                    exact ih_6 (mn + 1) (k + 1) h_119 (va_up g1 mn (some a_26)) (upd (upd c1 mn (nI 0)) mn (nI c39)) (fun x => if x = mn then c39 else cv x) (fun x => if x = mn then q4 else pv x) (fun x => if x = mn then a_26 else pa x) (fun x => if x = mn then rf_26 else pf x) tp2_112 (by omega) ⟨(by exact hCI_119), (by first | exact ⟨by omega, y_IV_Y hIV (by omega) ⟨by omega, by omega⟩⟩ | exact ⟨by omega, y_IV_N hIV q_26.2 q_26.1 hq4 (fun x hx => m2 x (by omega)) ⟨by omega, by omega⟩⟩)⟩
                · skip
                  rw [nI_leI (by omega) (by omega)] at c_135
                  refine y_steps hC 2 (σ' := (142, [(0, .ref (ad 0)), (1, .ref (y_a ε 42)), (2, .int (nI 1)), (3, .int (nI n)), (4, .int (nI parts)), (5, .ref pA), (6, .ref ct), (7, .int (nI mn)), (8, .int (nI k)), (9, .int v_18), (10, .ref a_26), (11, .int (nI c39)), (12, .int (nI b))], [.int (nI b), .ref pA], [])) rfl ?_
                  refine y_mv [t_109_B, t_103_B, [(a_26, .inl (y_c ε 0, 8, .inl rf_26))], [(pA, .inl (y_c ε 3, 12, .inr (.inr (.inr (.inr g1)))))]] ([(ct, .inl (y_c ε 0, 12, .inl c1))]) [y_PW ε mn pa pf, z_W (y_c ε) ad h_119] ?_
                  refine y_mv [[(ct, .inl (y_c ε 0, 12, .inl c1))], t_109_B, t_103_B, [(a_26, .inl (y_c ε 0, 8, .inl rf_26))]] ([(pA, .inl (y_c ε 3, 12, .inr (.inr (.inr (.inr g1)))))]) [y_PW ε mn pa pf, z_W (y_c ε) ad h_119] ?_
                  refine y_mv [[(pA, .inl (y_c ε 3, 12, .inr (.inr (.inr (.inr g1)))))], [(ct, .inl (y_c ε 0, 12, .inl c1))], t_109_B, t_103_B] ([(a_26, .inl (y_c ε 0, 8, .inl rf_26))]) [y_PW ε mn pa pf, z_W (y_c ε) ad h_119] ?_
                  refine y_aal hC 1 rfl rfl (by first | assumption | omega | rfl | trivial) (by omega) (hIV.2.1 b (by omega)) ?_
                  refine y_steps hC 2 (σ' := (146, [(0, .ref (ad 0)), (1, .ref (y_a ε 42)), (2, .int (nI 1)), (3, .int (nI n)), (4, .int (nI parts)), (5, .ref pA), (6, .ref ct), (7, .int (nI mn)), (8, .int (nI k)), (9, .int v_18), (10, .ref a_26), (11, .int (nI c39)), (12, .int (nI b))], [.int (nI n), .ref a_26, .ref ((pa b))], [])) rfl ?_
                  refine y_mv [[(a_26, .inl (y_c ε 0, 8, .inl rf_26))], [(pA, .inl (y_c ε 3, 12, .inr (.inr (.inr (.inr g1)))))], [(ct, .inl (y_c ε 0, 12, .inl c1))], t_109_B, t_103_B] (y_PW ε mn pa pf) [z_W (y_c ε) ad h_119] ?_
                  refine y_pm2 (b := y_PW ε mn pa pf) [((pa b), .inl (y_c ε 0, 8, .inl ((pf b))))] (y_PX ε mn pa pf b) [[(a_26, .inl (y_c ε 0, 8, .inl rf_26))], [(pA, .inl (y_c ε 3, 12, .inr (.inr (.inr (.inr g1)))))], [(ct, .inl (y_c ε 0, 12, .inl c1))], t_109_B, t_103_B, z_W (y_c ε) ad h_119] (y_PW_at (by omega)) ?_
                  refine y_steps hC 0 (σ' := (146, [(0, .ref (ad 0)), (1, .ref (y_a ε 42)), (2, .int (nI 1)), (3, .int (nI n)), (4, .int (nI parts)), (5, .ref pA), (6, .ref ct), (7, .int (nI mn)), (8, .int (nI k)), (9, .int v_18), (10, .ref a_26), (11, .int (nI c39)), (12, .int (nI b))], [.int (nI n), .ref a_26, .ref ((pa b))], [])) rfl ?_
                  refine y_mv [[((pa b), .inl (y_c ε 0, 8, .inl ((pf b))))], y_PX ε mn pa pf b] ([(a_26, .inl (y_c ε 0, 8, .inl rf_26))]) [[(pA, .inl (y_c ε 3, 12, .inr (.inr (.inr (.inr g1)))))], [(ct, .inl (y_c ε 0, 12, .inl c1))], t_109_B, t_103_B, z_W (y_c ε) ad h_119] ?_
                  refine y_mv [[(a_26, .inl (y_c ε 0, 8, .inl rf_26))]] ([((pa b), .inl (y_c ε 0, 8, .inl ((pf b))))]) [y_PX ε mn pa pf b, [(pA, .inl (y_c ε 3, 12, .inr (.inr (.inr (.inr g1)))))], [(ct, .inl (y_c ε 0, 12, .inl c1))], t_109_B, t_103_B, z_W (y_c ε) ad h_119] ?_
                  refine y_spl [[((pa b), .inl (y_c ε 0, 8, .inl ((pf b))))], [(a_26, .inl (y_c ε 0, 8, .inl rf_26))]] [y_PX ε mn pa pf b, [(pA, .inl (y_c ε 3, 12, .inr (.inr (.inr (.inr g1)))))], [(ct, .inl (y_c ε 0, 12, .inl c1))], t_109_B, t_103_B, z_W (y_c ε) ad h_119] ?_
                  refine y_callS (pc := 146) (st := []) (y := 145) (idx := 72) (w := y_J [[((pa b), .inl (y_c ε 0, 8, .inl ((pf b))))], [(a_26, .inl (y_c ε 0, 8, .inl rf_26))]]) (wr := y_J [y_PX ε mn pa pf b, [(pA, .inl (y_c ε 3, 12, .inr (.inr (.inr (.inr g1)))))], [(ct, .inl (y_c ε 0, 12, .inl c1))], t_109_B, t_103_B, z_W (y_c ε) ad h_119]) (av := [.ref ((pa b)), .ref a_26, .int (nI n)]) hC rfl rfl (z_t4 (i := 168) rfl rfl) (z_t4 (i := 169) rfl rfl) (z_t1 (i := 0) rfl rfl) (c_L_areAlike (rf := (pf b)) (sf := rf_26) (ra := (pa b)) (sa := a_26) (n := n) (q := (pv b)) (p := rk_26) (by first | assumption | omega | rfl | trivial) (by exact hIV.2.2.1 b (by omega)) (by exact q_26.1)) (show _ = some 3 from by decide +kernel) rfl rfl (by omega) (by omega) rfl (fun r_146 w_146 p_146 => ?_)
                  obtain ⟨rfl, ew_146⟩ := p_146
                  replace ew_146 := ew_146.symm
                  subst ew_146
                  refine y_cmb [[((pa b), .inl (y_c ε 0, 8, .inl ((pf b))))], [(a_26, .inl (y_c ε 0, 8, .inl rf_26))]] [y_PX ε mn pa pf b, [(pA, .inl (y_c ε 3, 12, .inr (.inr (.inr (.inr g1)))))], [(ct, .inl (y_c ε 0, 12, .inl c1))], t_109_B, t_103_B, z_W (y_c ε) ad h_119] ?_
                  refine y_steps hC 0 (σ' := (149, [(0, .ref (ad 0)), (1, .ref (y_a ε 42)), (2, .int (nI 1)), (3, .int (nI n)), (4, .int (nI parts)), (5, .ref pA), (6, .ref ct), (7, .int (nI mn)), (8, .int (nI k)), (9, .int v_18), (10, .ref a_26), (11, .int (nI c39)), (12, .int (nI b))], [.int (nI ((z_allb n (fun c => decide (((pv b)) c = rk_26 c))).toNat))], [])) rfl ?_
                  refine y_mv [[((pa b), .inl (y_c ε 0, 8, .inl ((pf b))))], [(a_26, .inl (y_c ε 0, 8, .inl rf_26))]] (y_PX ε mn pa pf b) [[(pA, .inl (y_c ε 3, 12, .inr (.inr (.inr (.inr g1)))))], [(ct, .inl (y_c ε 0, 12, .inl c1))], t_109_B, t_103_B, z_W (y_c ε) ad h_119] ?_
                  refine y_mv [y_PX ε mn pa pf b] ([((pa b), .inl (y_c ε 0, 8, .inl ((pf b))))]) [[(a_26, .inl (y_c ε 0, 8, .inl rf_26))], [(pA, .inl (y_c ε 3, 12, .inr (.inr (.inr (.inr g1)))))], [(ct, .inl (y_c ε 0, 12, .inl c1))], t_109_B, t_103_B, z_W (y_c ε) ad h_119] ?_
                  refine y_pm3 (b1 := [((pa b), .inl (y_c ε 0, 8, .inl ((pf b))))]) (b2 := y_PX ε mn pa pf b) (y_PW ε mn pa pf) [[(a_26, .inl (y_c ε 0, 8, .inl rf_26))], [(pA, .inl (y_c ε 3, 12, .inr (.inr (.inr (.inr g1)))))], [(ct, .inl (y_c ε 0, 12, .inl c1))], t_109_B, t_103_B, z_W (y_c ε) ad h_119] (y_PW_at (by omega)) ?_
                  refine y_steps hC 0 (σ' := (149, [(0, .ref (ad 0)), (1, .ref (y_a ε 42)), (2, .int (nI 1)), (3, .int (nI n)), (4, .int (nI parts)), (5, .ref pA), (6, .ref ct), (7, .int (nI mn)), (8, .int (nI k)), (9, .int v_18), (10, .ref a_26), (11, .int (nI c39)), (12, .int (nI b))], [.int (nI ((z_allb n (fun c => decide (((pv b)) c = rk_26 c))).toNat))], [])) rfl ?_
                  refine y_if hC (c := ¬ nI ((z_allb n (fun c => decide (((pv b)) c = rk_26 c))).toNat) = 0) rfl (fun c_149 => ?_) (fun c_149 => ?_)
                  · skip
                    rw [z0_ne (by have := z_tn_lt (z_allb n (fun c => decide (pv b c = rk_26 c))); omega)] at c_149
                    skip
                    obtain ⟨e1, e2, e3⟩ := y_addY hadd hq4 (by omega) (y_al_T c_149) m2; rw [e1, e2, e3] at hCI_119
                    refine y_steps hC 2 (σ' := (162, [(0, .ref (ad 0)), (1, .ref (y_a ε 42)), (2, .int (nI 1)), (3, .int (nI n)), (4, .int (nI parts)), (5, .ref pA), (6, .ref ct), (7, .int (nI mn)), (8, .int (nI k)), (9, .int v_18), (10, .ref a_26), (11, .int (nI c39)), (12, .int (nI b))], [.int (nI mn), .int (nI b)], [])) rfl ?_
                    refine y_if hC (c := ¬ nI b = nI mn) rfl (fun c_162 => ?_) (fun c_162 => ?_)
                    · skip
                      rw [nI_eq (by omega) (by omega)] at c_162
                      skip
                      refine y_steps hC 3 (σ' := (186, [(0, .ref (ad 0)), (1, .ref (y_a ε 42)), (2, .int (nI 1)), (3, .int (nI n)), (4, .int (nI parts)), (5, .ref pA), (6, .ref ct), (7, .int (nI mn)), (8, .int (nI k)), (9, .int v_18), (10, .ref a_26), (11, .int (nI c39)), (12, .int (nI b))], [.int (nI b), .ref ct, .int (nI b), .ref ct], [])) rfl ?_
                      refine y_mv [y_PW ε mn pa pf, [(a_26, .inl (y_c ε 0, 8, .inl rf_26))], [(pA, .inl (y_c ε 3, 12, .inr (.inr (.inr (.inr g1)))))]] ([(ct, .inl (y_c ε 0, 12, .inl c1))]) [t_109_B, t_103_B, z_W (y_c ε) ad h_119] ?_
                      refine y_mv [[(ct, .inl (y_c ε 0, 12, .inl c1))], y_PW ε mn pa pf, [(a_26, .inl (y_c ε 0, 8, .inl rf_26))]] ([(pA, .inl (y_c ε 3, 12, .inr (.inr (.inr (.inr g1)))))]) [t_109_B, t_103_B, z_W (y_c ε) ad h_119] ?_
                      refine y_mv [[(pA, .inl (y_c ε 3, 12, .inr (.inr (.inr (.inr g1)))))], [(ct, .inl (y_c ε 0, 12, .inl c1))], y_PW ε mn pa pf] ([(a_26, .inl (y_c ε 0, 8, .inl rf_26))]) [t_109_B, t_103_B, z_W (y_c ε) ad h_119] ?_
                      refine y_ial hC 2 rfl rfl (by first | assumption | omega | rfl | trivial) (by omega) ((hIV.2.2.2.2.1 b (by omega)).1) ?_
                      have hv_186 := (hIV.2.2.2.2.1 b (by omega)).2
                      refine y_steps hC 1 (σ' := (189, [(0, .ref (ad 0)), (1, .ref (y_a ε 42)), (2, .int (nI 1)), (3, .int (nI n)), (4, .int (nI parts)), (5, .ref pA), (6, .ref ct), (7, .int (nI mn)), (8, .int (nI k)), (9, .int v_18), (10, .ref a_26), (11, .int (nI c39)), (12, .int (nI b))], [.int (nI c39), .int (nI ((cv b))), .int (nI b), .ref ct], [])) rfl ?_
                      refine y_add hC ((cv b) + c39) rfl (by first | rfl | omega) ?_
                      refine y_steps hC 0 (σ' := (190, [(0, .ref (ad 0)), (1, .ref (y_a ε 42)), (2, .int (nI 1)), (3, .int (nI n)), (4, .int (nI parts)), (5, .ref pA), (6, .ref ct), (7, .int (nI mn)), (8, .int (nI k)), (9, .int v_18), (10, .ref a_26), (11, .int (nI c39)), (12, .int (nI b))], [.int (nI ((cv b) + c39)), .int (nI b), .ref ct], [])) rfl ?_
                      refine y_ias (ws2 := ((a_26, .inl (y_c ε 0, 8, .inl rf_26)) :: ((pA, .inl (y_c ε 3, 12, .inr (.inr (.inr (.inr g1))))) :: ((ct, .inl (y_c ε 0, 12, .inl (upd c1 b (nI ((cv b) + c39))))) :: ((y_PW ε mn pa pf) ++ ((t_109_B) ++ ((t_103_B) ++ (z_W (y_c ε) ad h_119)))))))) hC 2 rfl rfl (by first | assumption | omega | rfl | trivial) (by omega) rfl ?_
                      refine y_steps hC 0 (σ' := (191, [(0, .ref (ad 0)), (1, .ref (y_a ε 42)), (2, .int (nI 1)), (3, .int (nI n)), (4, .int (nI parts)), (5, .ref pA), (6, .ref ct), (7, .int (nI mn)), (8, .int (nI k)), (9, .int v_18), (10, .ref a_26), (11, .int (nI c39)), (12, .int (nI b))], [], [])) rfl ?_
                      refine y_inc hC (n := 1) rfl rfl rfl (k + 1) (by rfl) [(8, .int (nI (k + 1))), (0, .ref (ad 0)), (1, .ref (y_a ε 42)), (2, .int (nI 1)), (3, .int (nI n)), (4, .int (nI parts)), (5, .ref pA), (6, .ref ct), (7, .int (nI mn)), (9, .int v_18), (10, .ref a_26), (11, .int (nI c39)), (12, .int (nI b))] rfl ?_
                      refine y_steps hC 1 (σ' := (6, [(8, .int (nI (k + 1))), (0, .ref (ad 0)), (1, .ref (y_a ε 42)), (2, .int (nI 1)), (3, .int (nI n)), (4, .int (nI parts)), (5, .ref pA), (6, .ref ct), (7, .int (nI mn)), (9, .int v_18), (10, .ref a_26), (11, .int (nI c39)), (12, .int (nI b))], [], [])) rfl ?_
                      refine y_mv [[(a_26, .inl (y_c ε 0, 8, .inl rf_26))], [(pA, .inl (y_c ε 3, 12, .inr (.inr (.inr (.inr g1)))))], [(ct, .inl (y_c ε 0, 12, .inl (upd c1 b (nI ((cv b) + c39)))))], y_PW ε mn pa pf, t_109_B, t_103_B] (z_W (y_c ε) ad h_119) [] ?_
                      refine y_mv [z_W (y_c ε) ad h_119, [(a_26, .inl (y_c ε 0, 8, .inl rf_26))], [(pA, .inl (y_c ε 3, 12, .inr (.inr (.inr (.inr g1)))))], [(ct, .inl (y_c ε 0, 12, .inl (upd c1 b (nI ((cv b) + c39)))))]] (y_PW ε mn pa pf) [t_109_B, t_103_B] ?_
                      refine y_mv [y_PW ε mn pa pf, z_W (y_c ε) ad h_119, [(a_26, .inl (y_c ε 0, 8, .inl rf_26))], [(pA, .inl (y_c ε 3, 12, .inr (.inr (.inr (.inr g1)))))]] ([(ct, .inl (y_c ε 0, 12, .inl (upd c1 b (nI ((cv b) + c39)))))]) [t_109_B, t_103_B] ?_
                      refine y_mv [[(ct, .inl (y_c ε 0, 12, .inl (upd c1 b (nI ((cv b) + c39)))))], y_PW ε mn pa pf, z_W (y_c ε) ad h_119, [(a_26, .inl (y_c ε 0, 8, .inl rf_26))]] ([(pA, .inl (y_c ε 3, 12, .inr (.inr (.inr (.inr g1)))))]) [t_109_B, t_103_B] ?_
                      refine y_mv [[(pA, .inl (y_c ε 3, 12, .inr (.inr (.inr (.inr g1)))))], [(ct, .inl (y_c ε 0, 12, .inl (upd c1 b (nI ((cv b) + c39)))))], y_PW ε mn pa pf, z_W (y_c ε) ad h_119] ([(a_26, .inl (y_c ε 0, 8, .inl rf_26))]) [t_109_B, t_103_B] ?_
                      refine y_drp ([(a_26, .inl (y_c ε 0, 8, .inl rf_26))]) [[(pA, .inl (y_c ε 3, 12, .inr (.inr (.inr (.inr g1)))))], [(ct, .inl (y_c ε 0, 12, .inl (upd c1 b (nI ((cv b) + c39)))))], y_PW ε mn pa pf, z_W (y_c ε) ad h_119, t_109_B, t_103_B] ?_
                      refine y_mv [[(pA, .inl (y_c ε 3, 12, .inr (.inr (.inr (.inr g1)))))], [(ct, .inl (y_c ε 0, 12, .inl (upd c1 b (nI ((cv b) + c39)))))], y_PW ε mn pa pf, z_W (y_c ε) ad h_119] (t_109_B) [t_103_B] ?_
                      refine y_drp (t_109_B) [[(pA, .inl (y_c ε 3, 12, .inr (.inr (.inr (.inr g1)))))], [(ct, .inl (y_c ε 0, 12, .inl (upd c1 b (nI ((cv b) + c39)))))], y_PW ε mn pa pf, z_W (y_c ε) ad h_119, t_103_B] ?_
                      refine y_mv [[(pA, .inl (y_c ε 3, 12, .inr (.inr (.inr (.inr g1)))))], [(ct, .inl (y_c ε 0, 12, .inl (upd c1 b (nI ((cv b) + c39)))))], y_PW ε mn pa pf, z_W (y_c ε) ad h_119] (t_103_B) [] ?_
                      refine y_drp (t_103_B) [[(pA, .inl (y_c ε 3, 12, .inr (.inr (.inr (.inr g1)))))], [(ct, .inl (y_c ε 0, 12, .inl (upd c1 b (nI ((cv b) + c39)))))], y_PW ε mn pa pf, z_W (y_c ε) ad h_119] ?_
                      refine y_sub hC [1, 2, 3, 4, 5, 6, 7, 8, 0] rfl ?_
                      refine y_wid (600 * (k + 1)) (61000 * (k + 1)) (by omega) (by omega) ?_
                      exact ih_6 mn (k + 1) h_119 g1 (upd c1 b (nI ((cv b) + c39))) (fun x => if x = b then cv b + c39 else cv x) pv pa pf tp2_112 (by omega) ⟨(by exact hCI_119), (by first | exact ⟨by omega, y_IV_Y hIV (by omega) ⟨by omega, by omega⟩⟩ | exact ⟨by omega, y_IV_N hIV q_26.2 q_26.1 hq4 (fun x hx => m2 x (by omega)) ⟨by omega, by omega⟩⟩)⟩
                    · skip
                      rw [nI_eq (by omega) (by omega)] at c_162
                      replace c_162 := Decidable.not_not.mp c_162
                      refine y_steps hC 0 (σ' := (165, [(0, .ref (ad 0)), (1, .ref (y_a ε 42)), (2, .int (nI 1)), (3, .int (nI n)), (4, .int (nI parts)), (5, .ref pA), (6, .ref ct), (7, .int (nI mn)), (8, .int (nI k)), (9, .int v_18), (10, .ref a_26), (11, .int (nI c39)), (12, .int (nI b))], [], [])) rfl ?_
                      rw [c_162]
                      omega
                  · skip
                    rw [z0_ne (by have := z_tn_lt (z_allb n (fun c => decide (pv b c = rk_26 c))); omega)] at c_149
                    replace c_149 := Decidable.not_not.mp c_149
                    refine y_steps hC 0 (σ' := (152, [(0, .ref (ad 0)), (1, .ref (y_a ε 42)), (2, .int (nI 1)), (3, .int (nI n)), (4, .int (nI parts)), (5, .ref pA), (6, .ref ct), (7, .int (nI mn)), (8, .int (nI k)), (9, .int v_18), (10, .ref a_26), (11, .int (nI c39)), (12, .int (nI b))], [], [])) rfl ?_
                    refine y_inc hC (n := 1) rfl rfl rfl (b + 1) (by rfl) [(12, .int (nI (b + 1))), (0, .ref (ad 0)), (1, .ref (y_a ε 42)), (2, .int (nI 1)), (3, .int (nI n)), (4, .int (nI parts)), (5, .ref pA), (6, .ref ct), (7, .int (nI mn)), (8, .int (nI k)), (9, .int v_18), (10, .ref a_26), (11, .int (nI c39))] rfl ?_
                    refine y_steps hC 1 (σ' := (131, [(12, .int (nI (b + 1))), (0, .ref (ad 0)), (1, .ref (y_a ε 42)), (2, .int (nI 1)), (3, .int (nI n)), (4, .int (nI parts)), (5, .ref pA), (6, .ref ct), (7, .int (nI mn)), (8, .int (nI k)), (9, .int v_18), (10, .ref a_26), (11, .int (nI c39))], [], [])) rfl ?_
                    refine y_mv [y_PW ε mn pa pf, [(a_26, .inl (y_c ε 0, 8, .inl rf_26))], [(pA, .inl (y_c ε 3, 12, .inr (.inr (.inr (.inr g1)))))], [(ct, .inl (y_c ε 0, 12, .inl c1))], t_109_B, t_103_B] (z_W (y_c ε) ad h_119) [] ?_
                    refine y_mv [z_W (y_c ε) ad h_119] (y_PW ε mn pa pf) [[(a_26, .inl (y_c ε 0, 8, .inl rf_26))], [(pA, .inl (y_c ε 3, 12, .inr (.inr (.inr (.inr g1)))))], [(ct, .inl (y_c ε 0, 12, .inl c1))], t_109_B, t_103_B] ?_
                    refine y_mv [y_PW ε mn pa pf, z_W (y_c ε) ad h_119, [(a_26, .inl (y_c ε 0, 8, .inl rf_26))], [(pA, .inl (y_c ε 3, 12, .inr (.inr (.inr (.inr g1)))))]] ([(ct, .inl (y_c ε 0, 12, .inl c1))]) [t_109_B, t_103_B] ?_
                    refine y_mv [[(ct, .inl (y_c ε 0, 12, .inl c1))], y_PW ε mn pa pf, z_W (y_c ε) ad h_119, [(a_26, .inl (y_c ε 0, 8, .inl rf_26))]] ([(pA, .inl (y_c ε 3, 12, .inr (.inr (.inr (.inr g1)))))]) [t_109_B, t_103_B] ?_
                    refine y_mv [[(pA, .inl (y_c ε 3, 12, .inr (.inr (.inr (.inr g1)))))], [(ct, .inl (y_c ε 0, 12, .inl c1))], y_PW ε mn pa pf, z_W (y_c ε) ad h_119] ([(a_26, .inl (y_c ε 0, 8, .inl rf_26))]) [t_109_B, t_103_B] ?_
                    refine y_mv [[(a_26, .inl (y_c ε 0, 8, .inl rf_26))], [(pA, .inl (y_c ε 3, 12, .inr (.inr (.inr (.inr g1)))))], [(ct, .inl (y_c ε 0, 12, .inl c1))], y_PW ε mn pa pf, z_W (y_c ε) ad h_119, t_109_B] (t_103_B) [] ?_
                    refine y_mv [t_103_B, [(a_26, .inl (y_c ε 0, 8, .inl rf_26))], [(pA, .inl (y_c ε 3, 12, .inr (.inr (.inr (.inr g1)))))], [(ct, .inl (y_c ε 0, 12, .inl c1))], y_PW ε mn pa pf, z_W (y_c ε) ad h_119] (t_109_B) [] ?_
                    refine y_sub hC [1, 2, 3, 4, 5, 6, 7, 8, 9, 10, 11, 12, 0] rfl ?_
                    exact ih_131 (b + 1) (by omega) (by exact ⟨by omega, fun x hx => by rcases (by omega : x = b ∨ x < b) with e | e; (rw [e]; exact y_al_F c_149); (exact m2 x e)⟩)
            refine y_sub hC [4, 5, 6, 7, 8, 9, 10, 11, 12, 3, 2, 1, 0] rfl ?_
            exact loop_131 _ 0 (Nat.lt_succ_self _) (by exact ⟨Nat.zero_le _, fun x hx => absurd hx (Nat.not_lt_zero x)⟩)
        · skip
          replace c_69 := Decidable.not_not.mp c_69
          refine y_steps hC 2 (σ' := (75, [(11, .int (nI c39)), (10, .ref a_26), (9, .int v_18), (0, .ref (ad 0)), (1, .ref (y_a ε 42)), (2, .int (nI 1)), (3, .int (nI n)), (4, .int (nI parts)), (5, .ref pA), (6, .ref ct), (7, .int (nI mn)), (8, .int (nI k))], [.int (nI n), .ref a_26, .int (nI n), .ref a_26, .ref q44, .ref (ad 0)], [])) rfl ?_
          refine y_mv [[(q44, .inr (7, [.ref v2_58, .int (nI 0), .int (nI 0), .int (nI ((((y_dg c39)) ++ ((y_bts 3))).length))]))], [(v2_58, .inl (y_c ε 2, m2_58, .inl f2_58))]] ([(a_26, .inl (y_c ε 0, 8, .inl rf_26))]) [[(pA, .inl (y_c ε 3, 12, .inr (.inr (.inr (.inr g1)))))], [(ct, .inl (y_c ε 0, 12, .inl c1))], y_PW ε mn pa pf, z_W (y_c ε) ad h6] ?_
          refine y_spl [[(a_26, .inl (y_c ε 0, 8, .inl rf_26))]] [[(q44, .inr (7, [.ref v2_58, .int (nI 0), .int (nI 0), .int (nI ((((y_dg c39)) ++ ((y_bts 3))).length))]))], [(v2_58, .inl (y_c ε 2, m2_58, .inl f2_58))], [(pA, .inl (y_c ε 3, 12, .inr (.inr (.inr (.inr g1)))))], [(ct, .inl (y_c ε 0, 12, .inl c1))], y_PW ε mn pa pf, z_W (y_c ε) ad h6] ?_
          refine y_callS (pc := 75) (st := [.int (nI n), .ref a_26, .ref q44, .ref (ad 0)]) (y := 143) (idx := 58) (w := y_J [[(a_26, .inl (y_c ε 0, 8, .inl rf_26))]]) (wr := y_J [[(q44, .inr (7, [.ref v2_58, .int (nI 0), .int (nI 0), .int (nI ((((y_dg c39)) ++ ((y_bts 3))).length))]))], [(v2_58, .inl (y_c ε 2, m2_58, .inl f2_58))], [(pA, .inl (y_c ε 3, 12, .inr (.inr (.inr (.inr g1)))))], [(ct, .inl (y_c ε 0, 12, .inl c1))], y_PW ε mn pa pf, z_W (y_c ε) ad h6]) (av := [.ref a_26, .int (nI n)]) hC rfl rfl (z_t3 (i := 186) rfl rfl) (z_t3 (i := 187) rfl rfl) (z_t1 (i := 0) rfl rfl) (c_L_places (rf := rf_26) (ra := a_26) (n := n) (q := rk_26) (by first | assumption | omega | rfl | trivial) (by exact q_26.1)) (show _ = some 2 from by decide +kernel) rfl rfl (by omega) (by omega) rfl (fun r_75 w_75 p_75 => ?_)
          obtain ⟨rfl, ew_75⟩ := p_75
          replace ew_75 := ew_75.symm
          subst ew_75
          refine y_cmb [[(a_26, .inl (y_c ε 0, 8, .inl rf_26))]] [[(q44, .inr (7, [.ref v2_58, .int (nI 0), .int (nI 0), .int (nI ((((y_dg c39)) ++ ((y_bts 3))).length))]))], [(v2_58, .inl (y_c ε 2, m2_58, .inl f2_58))], [(pA, .inl (y_c ε 3, 12, .inr (.inr (.inr (.inr g1)))))], [(ct, .inl (y_c ε 0, 12, .inl c1))], y_PW ε mn pa pf, z_W (y_c ε) ad h6] ?_
          refine y_steps hC 1 (σ' := (103, [(11, .int (nI c39)), (10, .ref a_26), (9, .int v_18), (0, .ref (ad 0)), (1, .ref (y_a ε 42)), (2, .int (nI 1)), (3, .int (nI n)), (4, .int (nI parts)), (5, .ref pA), (6, .ref ct), (7, .int (nI mn)), (8, .int (nI k))], [.int (nI (z_mx n rk_26 + 1)), .int (nI n), .ref a_26, .ref q44, .ref (ad 0)], [])) rfl ?_
          refine y_spl [[(a_26, .inl (y_c ε 0, 8, .inl rf_26))]] [[(q44, .inr (7, [.ref v2_58, .int (nI 0), .int (nI 0), .int (nI ((((y_dg c39)) ++ ((y_bts 3))).length))]))], [(v2_58, .inl (y_c ε 2, m2_58, .inl f2_58))], [(pA, .inl (y_c ε 3, 12, .inr (.inr (.inr (.inr g1)))))], [(ct, .inl (y_c ε 0, 12, .inl c1))], y_PW ε mn pa pf, z_W (y_c ε) ad h6] ?_
          refine y_callS (pc := 103) (st := [.ref q44, .ref (ad 0)]) (y := 144) (idx := 61) (w := y_J [[(a_26, .inl (y_c ε 0, 8, .inl rf_26))]]) (wr := y_J [[(q44, .inr (7, [.ref v2_58, .int (nI 0), .int (nI 0), .int (nI ((((y_dg c39)) ++ ((y_bts 3))).length))]))], [(v2_58, .inl (y_c ε 2, m2_58, .inl f2_58))], [(pA, .inl (y_c ε 3, 12, .inr (.inr (.inr (.inr g1)))))], [(ct, .inl (y_c ε 0, 12, .inl c1))], y_PW ε mn pa pf, z_W (y_c ε) ad h6]) (av := [.ref a_26, .int (nI n), .int (nI (z_mx n rk_26 + 1))]) hC rfl rfl (z_t3 (i := 189) rfl rfl) (z_t3 (i := 190) rfl rfl) (z_t1 (i := 0) rfl rfl) (c_L_told (rf := rf_26) (ra := a_26) (n := n) (m := z_mx n rk_26 + 1) (q := rk_26) (by first | assumption | omega | rfl | trivial) (by first | assumption | omega | rfl | trivial) (by exact q_26.1) (by exact q_26.2) (by first | assumption | omega | rfl | trivial) (by first | assumption | omega | rfl | trivial)) (show _ = some 3 from by decide +kernel) rfl rfl (by omega) (by omega) rfl (fun r_103 w_103 p_103 => ?_)
          obtain ⟨t_103_a, t_103_v, t_103_f, t_103_L, t_103_B, rfl, ew_103, h_t_103, q_103⟩ := p_103
          replace ew_103 := ew_103.symm
          subst ew_103
          refine y_cmb [[(a_26, .inl (y_c ε 0, 8, .inl rf_26))], t_103_B] [[(q44, .inr (7, [.ref v2_58, .int (nI 0), .int (nI 0), .int (nI ((((y_dg c39)) ++ ((y_bts 3))).length))]))], [(v2_58, .inl (y_c ε 2, m2_58, .inl f2_58))], [(pA, .inl (y_c ε 3, 12, .inr (.inr (.inr (.inr g1)))))], [(ct, .inl (y_c ε 0, 12, .inl c1))], y_PW ε mn pa pf, z_W (y_c ε) ad h6] ?_
          have hs_103 : t_103_L.length ≤ 16 := (by rw [q_103]; exact y_sp_16 hn2 hn q_26.2 (by omega)); have hc_103 : ∀ c ∈ t_103_L, 1 ≤ c := (by rw [q_103]; exact y_sp_c _)
          refine y_steps hC 0 (σ' := (106, [(11, .int (nI c39)), (10, .ref a_26), (9, .int v_18), (0, .ref (ad 0)), (1, .ref (y_a ε 42)), (2, .int (nI 1)), (3, .int (nI n)), (4, .int (nI parts)), (5, .ref pA), (6, .ref ct), (7, .int (nI mn)), (8, .int (nI k))], [.ref t_103_a, .ref q44, .ref (ad 0)], [])) rfl ?_
          refine y_mv [[(a_26, .inl (y_c ε 0, 8, .inl rf_26))]] (t_103_B) [[(q44, .inr (7, [.ref v2_58, .int (nI 0), .int (nI 0), .int (nI ((((y_dg c39)) ++ ((y_bts 3))).length))]))], [(v2_58, .inl (y_c ε 2, m2_58, .inl f2_58))], [(pA, .inl (y_c ε 3, 12, .inr (.inr (.inr (.inr g1)))))], [(ct, .inl (y_c ε 0, 12, .inl c1))], y_PW ε mn pa pf, z_W (y_c ε) ad h6] ?_
          refine y_mv [t_103_B, [(a_26, .inl (y_c ε 0, 8, .inl rf_26))], [(q44, .inr (7, [.ref v2_58, .int (nI 0), .int (nI 0), .int (nI ((((y_dg c39)) ++ ((y_bts 3))).length))]))]] ([(v2_58, .inl (y_c ε 2, m2_58, .inl f2_58))]) [[(pA, .inl (y_c ε 3, 12, .inr (.inr (.inr (.inr g1)))))], [(ct, .inl (y_c ε 0, 12, .inl c1))], y_PW ε mn pa pf, z_W (y_c ε) ad h6] ?_
          refine y_mv [[(v2_58, .inl (y_c ε 2, m2_58, .inl f2_58))], t_103_B, [(a_26, .inl (y_c ε 0, 8, .inl rf_26))]] ([(q44, .inr (7, [.ref v2_58, .int (nI 0), .int (nI 0), .int (nI ((((y_dg c39)) ++ ((y_bts 3))).length))]))]) [[(pA, .inl (y_c ε 3, 12, .inr (.inr (.inr (.inr g1)))))], [(ct, .inl (y_c ε 0, 12, .inl c1))], y_PW ε mn pa pf, z_W (y_c ε) ad h6] ?_
          refine y_spl [[(q44, .inr (7, [.ref v2_58, .int (nI 0), .int (nI 0), .int (nI ((((y_dg c39)) ++ ((y_bts 3))).length))]))], [(v2_58, .inl (y_c ε 2, m2_58, .inl f2_58))], t_103_B] [[(a_26, .inl (y_c ε 0, 8, .inl rf_26))], [(pA, .inl (y_c ε 3, 12, .inr (.inr (.inr (.inr g1)))))], [(ct, .inl (y_c ε 0, 12, .inl c1))], y_PW ε mn pa pf, z_W (y_c ε) ad h6] ?_
          refine y_callV (b := q44) (pc := 106) (st := [.ref (ad 0)]) (y := 126) (idx := 30) (w := y_J [[(q44, .inr (7, [.ref v2_58, .int (nI 0), .int (nI 0), .int (nI ((((y_dg c39)) ++ ((y_bts 3))).length))]))], [(v2_58, .inl (y_c ε 2, m2_58, .inl f2_58))], t_103_B]) (wr := y_J [[(a_26, .inl (y_c ε 0, 8, .inl rf_26))], [(pA, .inl (y_c ε 3, 12, .inr (.inr (.inr (.inr g1)))))], [(ct, .inl (y_c ε 0, 12, .inl c1))], y_PW ε mn pa pf, z_W (y_c ε) ad h6]) (av := [.ref t_103_a]) hC rfl rfl rfl (z_t3 (i := 224) rfl rfl) (z_t3 (i := 225) rfl rfl) (z_t3 (i := 226) rfl rfl) (z_t1 (i := 13) rfl rfl) (fun H locs hP hS => y_rW (ci := 7) (k := 0) hC rfl rfl H locs hP hS) (c_J4_append_15ec4 (f := f2_58) (a := q44) (t_a := t_103_a) (t_v := t_103_v) (t_f := t_103_f) (t_L := t_103_L) (t_B := t_103_B) (v := v2_58) (m := m2_58) (L := (((y_dg c39)) ++ ((y_bts 3)))) h_t_103 (by exact q_58) (by have hdg := (y_dg_len c39).1; rw [List.length_append, y_bts3]; show _ + 1 + _ ≤ 100; omega)) (show _ = some 1 from by decide +kernel) rfl rfl (by omega) (by omega) rfl (fun r_106 w_106 p_106 => ?_)
          obtain ⟨v2_106, m2_106, f2_106, rfl, ew_106, q_106⟩ := p_106
          replace ew_106 := ew_106.symm
          subst ew_106
          refine y_cmb [[(q44, .inr (7, [.ref v2_106, .int (nI 0), .int (nI 0), .int (nI ((((((y_dg c39)) ++ ((y_bts 3)))) ++ t_103_L).length))]))], [(v2_106, .inl (y_c ε 2, m2_106, .inl f2_106))], t_103_B] [[(a_26, .inl (y_c ε 0, 8, .inl rf_26))], [(pA, .inl (y_c ε 3, 12, .inr (.inr (.inr (.inr g1)))))], [(ct, .inl (y_c ε 0, 12, .inl c1))], y_PW ε mn pa pf, z_W (y_c ε) ad h6] ?_
          refine y_steps hC 0 (σ' := (109, [(11, .int (nI c39)), (10, .ref a_26), (9, .int v_18), (0, .ref (ad 0)), (1, .ref (y_a ε 42)), (2, .int (nI 1)), (3, .int (nI n)), (4, .int (nI parts)), (5, .ref pA), (6, .ref ct), (7, .int (nI mn)), (8, .int (nI k))], [.ref q44, .ref (ad 0)], [])) rfl ?_
          refine y_spl [[(q44, .inr (7, [.ref v2_106, .int (nI 0), .int (nI 0), .int (nI ((((((y_dg c39)) ++ ((y_bts 3)))) ++ t_103_L).length))]))], [(v2_106, .inl (y_c ε 2, m2_106, .inl f2_106))]] [t_103_B, [(a_26, .inl (y_c ε 0, 8, .inl rf_26))], [(pA, .inl (y_c ε 3, 12, .inr (.inr (.inr (.inr g1)))))], [(ct, .inl (y_c ε 0, 12, .inl c1))], y_PW ε mn pa pf, z_W (y_c ε) ad h6] ?_
          refine y_callV (b := q44) (pc := 109) (st := [.ref (ad 0)]) (y := 129) (idx := 41) (w := y_J [[(q44, .inr (7, [.ref v2_106, .int (nI 0), .int (nI 0), .int (nI ((((((y_dg c39)) ++ ((y_bts 3)))) ++ t_103_L).length))]))], [(v2_106, .inl (y_c ε 2, m2_106, .inl f2_106))]]) (wr := y_J [t_103_B, [(a_26, .inl (y_c ε 0, 8, .inl rf_26))], [(pA, .inl (y_c ε 3, 12, .inr (.inr (.inr (.inr g1)))))], [(ct, .inl (y_c ε 0, 12, .inl c1))], y_PW ε mn pa pf, z_W (y_c ε) ad h6]) (av := []) hC rfl rfl rfl (z_t4 (i := 106) rfl rfl) (z_t4 (i := 107) rfl rfl) (z_t4 (i := 108) rfl rfl) (z_t1 (i := 13) rfl rfl) (fun H locs hP hS => y_rW (ci := 7) (k := 0) hC rfl rfl H locs hP hS) (c_J4_toString_0e30d (f := f2_106) (a := q44) (v := v2_106) (m := m2_106) (L := (((((y_dg c39)) ++ ((y_bts 3)))) ++ t_103_L)) (by exact q_106) (by have hdg := (y_dg_len c39).1; rw [List.length_append, List.length_append, y_bts3]; show _ + 1 + _ ≤ 200; omega)) (show _ = some 0 from by decide +kernel) rfl rfl (by omega) (by omega) rfl (fun r_109 w_109 p_109 => ?_)
          obtain ⟨t_109_a, t_109_v, t_109_f, t_109_L, t_109_B, rfl, ew_109, h_t_109, q_109⟩ := p_109
          replace ew_109 := ew_109.symm
          subst ew_109
          refine y_cmb [t_109_B] [t_103_B, [(a_26, .inl (y_c ε 0, 8, .inl rf_26))], [(pA, .inl (y_c ε 3, 12, .inr (.inr (.inr (.inr g1)))))], [(ct, .inl (y_c ε 0, 12, .inl c1))], y_PW ε mn pa pf, z_W (y_c ε) ad h6] ?_
          have hdg := (y_dg_len c39).1; have hl_109 : t_109_L.length ≤ 120 := (by rw [q_109, List.length_append, List.length_append, y_bts3]; show _ + 1 + _ ≤ 120; omega); have hc_109 : ∀ c ∈ t_109_L, 1 ≤ c := (by rw [q_109]; exact y_txc (y_txc (fun c hc => (y_dg_c (by omega) c hc).1) (y_bts_c 3 (by decide))) hc_103)
          refine y_steps hC 0 (σ' := (112, [(11, .int (nI c39)), (10, .ref a_26), (9, .int v_18), (0, .ref (ad 0)), (1, .ref (y_a ε 42)), (2, .int (nI 1)), (3, .int (nI n)), (4, .int (nI parts)), (5, .ref pA), (6, .ref ct), (7, .int (nI mn)), (8, .int (nI k))], [.ref t_109_a, .ref (ad 0)], [])) rfl ?_
          refine y_mv [t_109_B, t_103_B, [(a_26, .inl (y_c ε 0, 8, .inl rf_26))], [(pA, .inl (y_c ε 3, 12, .inr (.inr (.inr (.inr g1)))))], [(ct, .inl (y_c ε 0, 12, .inl c1))], y_PW ε mn pa pf] (z_W (y_c ε) ad h6) [] ?_
          refine y_mv [z_W (y_c ε) ad h6] (t_109_B) [t_103_B, [(a_26, .inl (y_c ε 0, 8, .inl rf_26))], [(pA, .inl (y_c ε 3, 12, .inr (.inr (.inr (.inr g1)))))], [(ct, .inl (y_c ε 0, 12, .inl c1))], y_PW ε mn pa pf] ?_
          refine y_spl [t_109_B, z_W (y_c ε) ad h6] [t_103_B, [(a_26, .inl (y_c ε 0, 8, .inl rf_26))], [(pA, .inl (y_c ε 3, 12, .inr (.inr (.inr (.inr g1)))))], [(ct, .inl (y_c ε 0, 12, .inl c1))], y_PW ε mn pa pf] ?_
          refine y_callS (pc := 112) (st := []) (y := 141) (idx := 65) (w := y_J [t_109_B, z_W (y_c ε) ad h6]) (wr := y_J [t_103_B, [(a_26, .inl (y_c ε 0, 8, .inl rf_26))], [(pA, .inl (y_c ε 3, 12, .inr (.inr (.inr (.inr g1)))))], [(ct, .inl (y_c ε 0, 12, .inl c1))], y_PW ε mn pa pf]) (av := [.ref (ad 0), .ref t_109_a]) hC rfl rfl (z_t3 (i := 132) rfl rfl) (z_t3 (i := 133) rfl rfl) (z_t1 (i := 0) rfl rfl) (c_L_feeds (t_a := t_109_a) (t_v := t_109_v) (t_f := t_109_f) (t_L := t_109_L) (t_B := t_109_B) (ad := ad) (hX := h6) h_t_109 h_cl6 (by exact hc_109) (by exact hl_109)) (show _ = some 2 from by decide +kernel) rfl rfl (by omega) (by omega) rfl (fun r_112 w_112 p_112 => ?_)
          obtain ⟨h2_112, tp2_112, rfl, ew_112, hCI_112, q_112⟩ := p_112
          replace ew_112 := ew_112.symm
          subst ew_112
          refine y_cmb [t_109_B, z_W (y_c ε) ad h2_112] [t_103_B, [(a_26, .inl (y_c ε 0, 8, .inl rf_26))], [(pA, .inl (y_c ε 3, 12, .inr (.inr (.inr (.inr g1)))))], [(ct, .inl (y_c ε 0, 12, .inl c1))], y_PW ε mn pa pf] ?_
          obtain ⟨bm4, cn4, pl4, q4, hq4, hadd, hpts⟩ := y_comes1 (n := n) (bm := mn) (c := c39) (tp := tp2_112) (r := rk_26) (cn := cv) (pl := pv) hn2 hn q_26.2 (by omega) (by omega) (by omega) (by omega) (by omega) q_109 q_103 q_112 (by omega) (fun b hb => by have := (hIV.2.2.2.2.1 b hb).2.2; omega)
          refine y_steps hC 2 (σ' := (119, [(11, .int (nI c39)), (10, .ref a_26), (9, .int v_18), (0, .ref (ad 0)), (1, .ref (y_a ε 42)), (2, .int (nI 1)), (3, .int (nI n)), (4, .int (nI parts)), (5, .ref pA), (6, .ref ct), (7, .int (nI mn)), (8, .int (nI k))], [.ref (ad 0)], [])) rfl ?_
          refine y_mv [t_109_B, z_W (y_c ε) ad h2_112, t_103_B, [(a_26, .inl (y_c ε 0, 8, .inl rf_26))], [(pA, .inl (y_c ε 3, 12, .inr (.inr (.inr (.inr g1)))))], [(ct, .inl (y_c ε 0, 12, .inl c1))]] (y_PW ε mn pa pf) [] ?_
          refine y_mv [y_PW ε mn pa pf, t_109_B, z_W (y_c ε) ad h2_112, t_103_B, [(a_26, .inl (y_c ε 0, 8, .inl rf_26))], [(pA, .inl (y_c ε 3, 12, .inr (.inr (.inr (.inr g1)))))]] ([(ct, .inl (y_c ε 0, 12, .inl c1))]) [] ?_
          refine y_mv [[(ct, .inl (y_c ε 0, 12, .inl c1))], y_PW ε mn pa pf, t_109_B, z_W (y_c ε) ad h2_112, t_103_B, [(a_26, .inl (y_c ε 0, 8, .inl rf_26))]] ([(pA, .inl (y_c ε 3, 12, .inr (.inr (.inr (.inr g1)))))]) [] ?_
          refine y_mv [[(pA, .inl (y_c ε 3, 12, .inr (.inr (.inr (.inr g1)))))], [(ct, .inl (y_c ε 0, 12, .inl c1))], y_PW ε mn pa pf, t_109_B, z_W (y_c ε) ad h2_112, t_103_B] ([(a_26, .inl (y_c ε 0, 8, .inl rf_26))]) [] ?_
          refine y_mv [[(a_26, .inl (y_c ε 0, 8, .inl rf_26))], [(pA, .inl (y_c ε 3, 12, .inr (.inr (.inr (.inr g1)))))], [(ct, .inl (y_c ε 0, 12, .inl c1))], y_PW ε mn pa pf, t_109_B, z_W (y_c ε) ad h2_112] (t_103_B) [] ?_
          refine y_mv [t_103_B, [(a_26, .inl (y_c ε 0, 8, .inl rf_26))], [(pA, .inl (y_c ε 3, 12, .inr (.inr (.inr (.inr g1)))))], [(ct, .inl (y_c ε 0, 12, .inl c1))], y_PW ε mn pa pf] (t_109_B) [z_W (y_c ε) ad h2_112] ?_
          obtain ⟨fs_119, hh_119⟩ := y_CI_hd hCI_112
          refine y_spl [t_109_B, t_103_B, [(a_26, .inl (y_c ε 0, 8, .inl rf_26))], [(pA, .inl (y_c ε 3, 12, .inr (.inr (.inr (.inr g1)))))], [(ct, .inl (y_c ε 0, 12, .inl c1))], y_PW ε mn pa pf] [z_W (y_c ε) ad h2_112] ?_
          refine y_cls (d := 5) (y := 73) (idx := 69) (ad := ad) (h := h2_112) (B := y_J [t_109_B, t_103_B, [(a_26, .inl (y_c ε 0, 8, .inl rf_26))], [(pA, .inl (y_c ε 3, 12, .inr (.inr (.inr (.inr g1)))))], [(ct, .inl (y_c ε 0, 12, .inl c1))], y_PW ε mn pa pf]) (av := []) (fs := fs_119) hC rfl (m_ballotsT hCI_112 hpts) rfl hh_119 rfl (z_t2 (i := 27) rfl rfl) (z_t2 (i := 28) rfl rfl) (z_t2 (i := 29) rfl rfl) (z_t1 (i := 1) rfl rfl) (show _ = some 0 from by decide +kernel) rfl rfl (by omega) (by omega) rfl (fun r_119 h_119 p_119 => ?_)
          obtain ⟨rfl, hCI_119⟩ := p_119
          refine y_cmb [t_109_B, t_103_B, [(a_26, .inl (y_c ε 0, 8, .inl rf_26))], [(pA, .inl (y_c ε 3, 12, .inr (.inr (.inr (.inr g1)))))], [(ct, .inl (y_c ε 0, 12, .inl c1))], y_PW ε mn pa pf] [z_W (y_c ε) ad h_119] ?_
          refine y_steps hC 4 (σ' := (131, [(12, .int (nI 0)), (11, .int (nI c39)), (10, .ref a_26), (9, .int v_18), (0, .ref (ad 0)), (1, .ref (y_a ε 42)), (2, .int (nI 1)), (3, .int (nI n)), (4, .int (nI parts)), (5, .ref pA), (6, .ref ct), (7, .int (nI mn)), (8, .int (nI k))], [], [])) rfl ?_
          have loop_131 : ∀ (z_131 : Nat) (b : Nat), mn - b < z_131 → ((b ≤ mn ∧ ∀ x, x < b → ¬ z_same n pv rk_26 x)) → y_G ε κ zmL_comes ((((((((600 * k + 1) + 1) + 1) + 1) + 1) + 512) + 1) + 2) ((((((((61000 * k + 8) + 4) + 16) + 202) + 202) + 60000) + 202) + 206) ((t_109_B) ++ ((t_103_B) ++ ((a_26, .inl (y_c ε 0, 8, .inl rf_26)) :: ((pA, .inl (y_c ε 3, 12, .inr (.inr (.inr (.inr g1))))) :: ((ct, .inl (y_c ε 0, 12, .inl c1)) :: ((y_PW ε mn pa pf) ++ (z_W (y_c ε) ad h_119))))))) (131, [(0, .ref (ad 0)), (1, .ref (y_a ε 42)), (2, .int (nI 1)), (3, .int (nI n)), (4, .int (nI parts)), (5, .ref pA), (6, .ref ct), (7, .int (nI mn)), (8, .int (nI k)), (9, .int v_18), (10, .ref a_26), (11, .int (nI c39)), (12, .int (nI b))], [], []) := by
            intro z_131
            induction z_131 with
            | zero => intro b hm_131 _; exact absurd hm_131 (Nat.not_lt_zero _)
            | succ z_131 ih_131 =>
              intro b hm_131 hi_131
              obtain ⟨m1, m2⟩ := hi_131
              refine y_steps hC 2 (σ' := (135, [(0, .ref (ad 0)), (1, .ref (y_a ε 42)), (2, .int (nI 1)), (3, .int (nI n)), (4, .int (nI parts)), (5, .ref pA), (6, .ref ct), (7, .int (nI mn)), (8, .int (nI k)), (9, .int v_18), (10, .ref a_26), (11, .int (nI c39)), (12, .int (nI b))], [.int (nI mn), .int (nI b)], [])) rfl ?_
              refine y_if hC (c := nI mn ≤ nI b) rfl (fun c_135 => ?_) (fun c_135 => ?_)
              · skip
                rw [nI_leI (by omega) (by omega)] at c_135
                obtain ⟨e1, e2, e3⟩ := y_addN hadd hq4 (fun x hx => m2 x (by omega)); rw [e1, e2, e3] at hCI_119
                refine y_steps hC 2 (σ' := (162, [(0, .ref (ad 0)), (1, .ref (y_a ε 42)), (2, .int (nI 1)), (3, .int (nI n)), (4, .int (nI parts)), (5, .ref pA), (6, .ref ct), (7, .int (nI mn)), (8, .int (nI k)), (9, .int v_18), (10, .ref a_26), (11, .int (nI c39)), (12, .int (nI b))], [.int (nI mn), .int (nI b)], [])) rfl ?_
                refine y_if hC (c := ¬ nI b = nI mn) rfl (fun c_162 => ?_) (fun c_162 => ?_)
                · skip
                  rw [nI_eq (by omega) (by omega)] at c_162
                  skip
                  omega
                · skip
                  rw [nI_eq (by omega) (by omega)] at c_162
                  replace c_162 := Decidable.not_not.mp c_162
                  refine y_steps hC 0 (σ' := (165, [(0, .ref (ad 0)), (1, .ref (y_a ε 42)), (2, .int (nI 1)), (3, .int (nI n)), (4, .int (nI parts)), (5, .ref pA), (6, .ref ct), (7, .int (nI mn)), (8, .int (nI k)), (9, .int v_18), (10, .ref a_26), (11, .int (nI c39)), (12, .int (nI b))], [], [])) rfl ?_
                  rw [c_162]
                  refine y_steps hC 3 (σ' := (171, [(0, .ref (ad 0)), (1, .ref (y_a ε 42)), (2, .int (nI 1)), (3, .int (nI n)), (4, .int (nI parts)), (5, .ref pA), (6, .ref ct), (7, .int (nI mn)), (8, .int (nI k)), (9, .int v_18), (10, .ref a_26), (11, .int (nI c39)), (12, .int (nI mn))], [.ref a_26, .int (nI mn), .ref pA], [])) rfl ?_
                  refine y_mv [t_109_B, t_103_B, [(a_26, .inl (y_c ε 0, 8, .inl rf_26))], [(pA, .inl (y_c ε 3, 12, .inr (.inr (.inr (.inr g1)))))]] ([(ct, .inl (y_c ε 0, 12, .inl c1))]) [y_PW ε mn pa pf, z_W (y_c ε) ad h_119] ?_
                  refine y_mv [[(ct, .inl (y_c ε 0, 12, .inl c1))], t_109_B, t_103_B, [(a_26, .inl (y_c ε 0, 8, .inl rf_26))]] ([(pA, .inl (y_c ε 3, 12, .inr (.inr (.inr (.inr g1)))))]) [y_PW ε mn pa pf, z_W (y_c ε) ad h_119] ?_
                  refine y_mv [[(pA, .inl (y_c ε 3, 12, .inr (.inr (.inr (.inr g1)))))], [(ct, .inl (y_c ε 0, 12, .inl c1))], t_109_B, t_103_B] ([(a_26, .inl (y_c ε 0, 8, .inl rf_26))]) [y_PW ε mn pa pf, z_W (y_c ε) ad h_119] ?_
                  refine y_aas (k2 := 0) (ws2 := ((a_26, .inl (y_c ε 0, 8, .inl rf_26)) :: ((pA, .inl (y_c ε 3, 12, .inr (.inr (.inr (.inr (va_up g1 mn (some a_26))))))) :: ((ct, .inl (y_c ε 0, 12, .inl c1)) :: ((t_109_B) ++ ((t_103_B) ++ ((y_PW ε mn pa pf) ++ (z_W (y_c ε) ad h_119)))))))) hC 1 rfl rfl rfl (by first | assumption | omega | rfl | trivial) (by omega) rfl ?_
                  refine y_steps hC 3 (σ' := (177, [(0, .ref (ad 0)), (1, .ref (y_a ε 42)), (2, .int (nI 1)), (3, .int (nI n)), (4, .int (nI parts)), (5, .ref pA), (6, .ref ct), (7, .int (nI mn)), (8, .int (nI k)), (9, .int v_18), (10, .ref a_26), (11, .int (nI c39)), (12, .int (nI mn))], [.int (nI 0), .int (nI mn), .ref ct], [])) rfl ?_
                  refine y_ias (ws2 := ((a_26, .inl (y_c ε 0, 8, .inl rf_26)) :: ((pA, .inl (y_c ε 3, 12, .inr (.inr (.inr (.inr (va_up g1 mn (some a_26))))))) :: ((ct, .inl (y_c ε 0, 12, .inl (upd c1 mn (nI 0)))) :: ((t_109_B) ++ ((t_103_B) ++ ((y_PW ε mn pa pf) ++ (z_W (y_c ε) ad h_119)))))))) hC 2 rfl rfl (by first | assumption | omega | rfl | trivial) (by omega) rfl ?_
                  refine y_steps hC 0 (σ' := (178, [(0, .ref (ad 0)), (1, .ref (y_a ε 42)), (2, .int (nI 1)), (3, .int (nI n)), (4, .int (nI parts)), (5, .ref pA), (6, .ref ct), (7, .int (nI mn)), (8, .int (nI k)), (9, .int v_18), (10, .ref a_26), (11, .int (nI c39)), (12, .int (nI mn))], [], [])) rfl ?_
                  refine y_inc hC (n := 1) rfl rfl rfl (mn + 1) (by rfl) [(7, .int (nI (mn + 1))), (0, .ref (ad 0)), (1, .ref (y_a ε 42)), (2, .int (nI 1)), (3, .int (nI n)), (4, .int (nI parts)), (5, .ref pA), (6, .ref ct), (8, .int (nI k)), (9, .int v_18), (10, .ref a_26), (11, .int (nI c39)), (12, .int (nI mn))] rfl ?_
                  refine y_steps hC 3 (σ' := (186, [(7, .int (nI (mn + 1))), (0, .ref (ad 0)), (1, .ref (y_a ε 42)), (2, .int (nI 1)), (3, .int (nI n)), (4, .int (nI parts)), (5, .ref pA), (6, .ref ct), (8, .int (nI k)), (9, .int v_18), (10, .ref a_26), (11, .int (nI c39)), (12, .int (nI mn))], [.int (nI mn), .ref ct, .int (nI mn), .ref ct], [])) rfl ?_
                  refine y_ial hC 2 rfl rfl (by first | assumption | omega | rfl | trivial) (by omega) (if_pos rfl) ?_
                  refine y_steps hC 1 (σ' := (189, [(7, .int (nI (mn + 1))), (0, .ref (ad 0)), (1, .ref (y_a ε 42)), (2, .int (nI 1)), (3, .int (nI n)), (4, .int (nI parts)), (5, .ref pA), (6, .ref ct), (8, .int (nI k)), (9, .int v_18), (10, .ref a_26), (11, .int (nI c39)), (12, .int (nI mn))], [.int (nI c39), .int (nI 0), .int (nI mn), .ref ct], [])) rfl ?_
                  refine y_add hC (c39) rfl (by first | rfl | omega) ?_
                  refine y_steps hC 0 (σ' := (190, [(7, .int (nI (mn + 1))), (0, .ref (ad 0)), (1, .ref (y_a ε 42)), (2, .int (nI 1)), (3, .int (nI n)), (4, .int (nI parts)), (5, .ref pA), (6, .ref ct), (8, .int (nI k)), (9, .int v_18), (10, .ref a_26), (11, .int (nI c39)), (12, .int (nI mn))], [.int (nI c39), .int (nI mn), .ref ct], [])) rfl ?_
                  refine y_ias (ws2 := ((a_26, .inl (y_c ε 0, 8, .inl rf_26)) :: ((pA, .inl (y_c ε 3, 12, .inr (.inr (.inr (.inr (va_up g1 mn (some a_26))))))) :: ((ct, .inl (y_c ε 0, 12, .inl (upd (upd c1 mn (nI 0)) mn (nI c39)))) :: ((t_109_B) ++ ((t_103_B) ++ ((y_PW ε mn pa pf) ++ (z_W (y_c ε) ad h_119)))))))) hC 2 rfl rfl (by first | assumption | omega | rfl | trivial) (by omega) rfl ?_
                  refine y_steps hC 0 (σ' := (191, [(7, .int (nI (mn + 1))), (0, .ref (ad 0)), (1, .ref (y_a ε 42)), (2, .int (nI 1)), (3, .int (nI n)), (4, .int (nI parts)), (5, .ref pA), (6, .ref ct), (8, .int (nI k)), (9, .int v_18), (10, .ref a_26), (11, .int (nI c39)), (12, .int (nI mn))], [], [])) rfl ?_
                  refine y_inc hC (n := 1) rfl rfl rfl (k + 1) (by rfl) [(8, .int (nI (k + 1))), (7, .int (nI (mn + 1))), (0, .ref (ad 0)), (1, .ref (y_a ε 42)), (2, .int (nI 1)), (3, .int (nI n)), (4, .int (nI parts)), (5, .ref pA), (6, .ref ct), (9, .int v_18), (10, .ref a_26), (11, .int (nI c39)), (12, .int (nI mn))] rfl ?_
                  refine y_steps hC 1 (σ' := (6, [(8, .int (nI (k + 1))), (7, .int (nI (mn + 1))), (0, .ref (ad 0)), (1, .ref (y_a ε 42)), (2, .int (nI 1)), (3, .int (nI n)), (4, .int (nI parts)), (5, .ref pA), (6, .ref ct), (9, .int v_18), (10, .ref a_26), (11, .int (nI c39)), (12, .int (nI mn))], [], [])) rfl ?_
                  refine y_mv [[(a_26, .inl (y_c ε 0, 8, .inl rf_26))], [(pA, .inl (y_c ε 3, 12, .inr (.inr (.inr (.inr (va_up g1 mn (some a_26)))))))], [(ct, .inl (y_c ε 0, 12, .inl (upd (upd c1 mn (nI 0)) mn (nI c39))))], t_109_B, t_103_B] (y_PW ε mn pa pf) [z_W (y_c ε) ad h_119] ?_
                  refine y_mv [y_PW ε mn pa pf] ([(a_26, .inl (y_c ε 0, 8, .inl rf_26))]) [[(pA, .inl (y_c ε 3, 12, .inr (.inr (.inr (.inr (va_up g1 mn (some a_26)))))))], [(ct, .inl (y_c ε 0, 12, .inl (upd (upd c1 mn (nI 0)) mn (nI c39))))], t_109_B, t_103_B, z_W (y_c ε) ad h_119] ?_
                  refine y_pm3 (b1 := [(a_26, .inl (y_c ε 0, 8, .inl rf_26))]) (b2 := y_PW ε mn pa pf) (y_PW ε (mn + 1) (fun x => if x = mn then a_26 else pa x) (fun x => if x = mn then rf_26 else pf x)) [[(pA, .inl (y_c ε 3, 12, .inr (.inr (.inr (.inr (va_up g1 mn (some a_26)))))))], [(ct, .inl (y_c ε 0, 12, .inl (upd (upd c1 mn (nI 0)) mn (nI c39))))], t_109_B, t_103_B, z_W (y_c ε) ad h_119] y_PW_put ?_
                  refine y_steps hC 0 (σ' := (6, [(8, .int (nI (k + 1))), (7, .int (nI (mn + 1))), (0, .ref (ad 0)), (1, .ref (y_a ε 42)), (2, .int (nI 1)), (3, .int (nI n)), (4, .int (nI parts)), (5, .ref pA), (6, .ref ct), (9, .int v_18), (10, .ref a_26), (11, .int (nI c39)), (12, .int (nI mn))], [], [])) rfl ?_
                  refine y_mv [y_PW ε (mn + 1) (fun x => if x = mn then a_26 else pa x) (fun x => if x = mn then rf_26 else pf x), [(pA, .inl (y_c ε 3, 12, .inr (.inr (.inr (.inr (va_up g1 mn (some a_26)))))))], [(ct, .inl (y_c ε 0, 12, .inl (upd (upd c1 mn (nI 0)) mn (nI c39))))], t_109_B, t_103_B] (z_W (y_c ε) ad h_119) [] ?_
                  refine y_mv [z_W (y_c ε) ad h_119] (y_PW ε (mn + 1) (fun x => if x = mn then a_26 else pa x) (fun x => if x = mn then rf_26 else pf x)) [[(pA, .inl (y_c ε 3, 12, .inr (.inr (.inr (.inr (va_up g1 mn (some a_26)))))))], [(ct, .inl (y_c ε 0, 12, .inl (upd (upd c1 mn (nI 0)) mn (nI c39))))], t_109_B, t_103_B] ?_
                  refine y_mv [y_PW ε (mn + 1) (fun x => if x = mn then a_26 else pa x) (fun x => if x = mn then rf_26 else pf x), z_W (y_c ε) ad h_119, [(pA, .inl (y_c ε 3, 12, .inr (.inr (.inr (.inr (va_up g1 mn (some a_26)))))))]] ([(ct, .inl (y_c ε 0, 12, .inl (upd (upd c1 mn (nI 0)) mn (nI c39))))]) [t_109_B, t_103_B] ?_
                  refine y_mv [[(ct, .inl (y_c ε 0, 12, .inl (upd (upd c1 mn (nI 0)) mn (nI c39))))], y_PW ε (mn + 1) (fun x => if x = mn then a_26 else pa x) (fun x => if x = mn then rf_26 else pf x), z_W (y_c ε) ad h_119] ([(pA, .inl (y_c ε 3, 12, .inr (.inr (.inr (.inr (va_up g1 mn (some a_26)))))))]) [t_109_B, t_103_B] ?_
                  refine y_mv [[(pA, .inl (y_c ε 3, 12, .inr (.inr (.inr (.inr (va_up g1 mn (some a_26)))))))], [(ct, .inl (y_c ε 0, 12, .inl (upd (upd c1 mn (nI 0)) mn (nI c39))))], y_PW ε (mn + 1) (fun x => if x = mn then a_26 else pa x) (fun x => if x = mn then rf_26 else pf x), z_W (y_c ε) ad h_119] (t_109_B) [t_103_B] ?_
                  refine y_drp (t_109_B) [[(pA, .inl (y_c ε 3, 12, .inr (.inr (.inr (.inr (va_up g1 mn (some a_26)))))))], [(ct, .inl (y_c ε 0, 12, .inl (upd (upd c1 mn (nI 0)) mn (nI c39))))], y_PW ε (mn + 1) (fun x => if x = mn then a_26 else pa x) (fun x => if x = mn then rf_26 else pf x), z_W (y_c ε) ad h_119, t_103_B] ?_
                  refine y_mv [[(pA, .inl (y_c ε 3, 12, .inr (.inr (.inr (.inr (va_up g1 mn (some a_26)))))))], [(ct, .inl (y_c ε 0, 12, .inl (upd (upd c1 mn (nI 0)) mn (nI c39))))], y_PW ε (mn + 1) (fun x => if x = mn then a_26 else pa x) (fun x => if x = mn then rf_26 else pf x), z_W (y_c ε) ad h_119] (t_103_B) [] ?_
                  refine y_drp (t_103_B) [[(pA, .inl (y_c ε 3, 12, .inr (.inr (.inr (.inr (va_up g1 mn (some a_26)))))))], [(ct, .inl (y_c ε 0, 12, .inl (upd (upd c1 mn (nI 0)) mn (nI c39))))], y_PW ε (mn + 1) (fun x => if x = mn then a_26 else pa x) (fun x => if x = mn then rf_26 else pf x), z_W (y_c ε) ad h_119] ?_
                  refine y_sub hC [2, 3, 4, 5, 6, 7, 8, 1, 0] rfl ?_
                  refine y_wid (600 * (k + 1)) (61000 * (k + 1)) (by omega) (by omega) ?_
                  exact ih_6 (mn + 1) (k + 1) h_119 (va_up g1 mn (some a_26)) (upd (upd c1 mn (nI 0)) mn (nI c39)) (fun x => if x = mn then c39 else cv x) (fun x => if x = mn then q4 else pv x) (fun x => if x = mn then a_26 else pa x) (fun x => if x = mn then rf_26 else pf x) tp2_112 (by omega) ⟨(by exact hCI_119), (by first | exact ⟨by omega, y_IV_Y hIV (by omega) ⟨by omega, by omega⟩⟩ | exact ⟨by omega, y_IV_N hIV q_26.2 q_26.1 hq4 (fun x hx => m2 x (by omega)) ⟨by omega, by omega⟩⟩)⟩
              · skip
                rw [nI_leI (by omega) (by omega)] at c_135
                refine y_steps hC 2 (σ' := (142, [(0, .ref (ad 0)), (1, .ref (y_a ε 42)), (2, .int (nI 1)), (3, .int (nI n)), (4, .int (nI parts)), (5, .ref pA), (6, .ref ct), (7, .int (nI mn)), (8, .int (nI k)), (9, .int v_18), (10, .ref a_26), (11, .int (nI c39)), (12, .int (nI b))], [.int (nI b), .ref pA], [])) rfl ?_
                refine y_mv [t_109_B, t_103_B, [(a_26, .inl (y_c ε 0, 8, .inl rf_26))], [(pA, .inl (y_c ε 3, 12, .inr (.inr (.inr (.inr g1)))))]] ([(ct, .inl (y_c ε 0, 12, .inl c1))]) [y_PW ε mn pa pf, z_W (y_c ε) ad h_119] ?_
                refine y_mv [[(ct, .inl (y_c ε 0, 12, .inl c1))], t_109_B, t_103_B, [(a_26, .inl (y_c ε 0, 8, .inl rf_26))]] ([(pA, .inl (y_c ε 3, 12, .inr (.inr (.inr (.inr g1)))))]) [y_PW ε mn pa pf, z_W (y_c ε) ad h_119] ?_
                refine y_mv [[(pA, .inl (y_c ε 3, 12, .inr (.inr (.inr (.inr g1)))))], [(ct, .inl (y_c ε 0, 12, .inl c1))], t_109_B, t_103_B] ([(a_26, .inl (y_c ε 0, 8, .inl rf_26))]) [y_PW ε mn pa pf, z_W (y_c ε) ad h_119] ?_
                refine y_aal hC 1 rfl rfl (by first | assumption | omega | rfl | trivial) (by omega) (hIV.2.1 b (by omega)) ?_
                refine y_steps hC 2 (σ' := (146, [(0, .ref (ad 0)), (1, .ref (y_a ε 42)), (2, .int (nI 1)), (3, .int (nI n)), (4, .int (nI parts)), (5, .ref pA), (6, .ref ct), (7, .int (nI mn)), (8, .int (nI k)), (9, .int v_18), (10, .ref a_26), (11, .int (nI c39)), (12, .int (nI b))], [.int (nI n), .ref a_26, .ref ((pa b))], [])) rfl ?_
                refine y_mv [[(a_26, .inl (y_c ε 0, 8, .inl rf_26))], [(pA, .inl (y_c ε 3, 12, .inr (.inr (.inr (.inr g1)))))], [(ct, .inl (y_c ε 0, 12, .inl c1))], t_109_B, t_103_B] (y_PW ε mn pa pf) [z_W (y_c ε) ad h_119] ?_
                refine y_pm2 (b := y_PW ε mn pa pf) [((pa b), .inl (y_c ε 0, 8, .inl ((pf b))))] (y_PX ε mn pa pf b) [[(a_26, .inl (y_c ε 0, 8, .inl rf_26))], [(pA, .inl (y_c ε 3, 12, .inr (.inr (.inr (.inr g1)))))], [(ct, .inl (y_c ε 0, 12, .inl c1))], t_109_B, t_103_B, z_W (y_c ε) ad h_119] (y_PW_at (by omega)) ?_
                refine y_steps hC 0 (σ' := (146, [(0, .ref (ad 0)), (1, .ref (y_a ε 42)), (2, .int (nI 1)), (3, .int (nI n)), (4, .int (nI parts)), (5, .ref pA), (6, .ref ct), (7, .int (nI mn)), (8, .int (nI k)), (9, .int v_18), (10, .ref a_26), (11, .int (nI c39)), (12, .int (nI b))], [.int (nI n), .ref a_26, .ref ((pa b))], [])) rfl ?_
                refine y_mv [[((pa b), .inl (y_c ε 0, 8, .inl ((pf b))))], y_PX ε mn pa pf b] ([(a_26, .inl (y_c ε 0, 8, .inl rf_26))]) [[(pA, .inl (y_c ε 3, 12, .inr (.inr (.inr (.inr g1)))))], [(ct, .inl (y_c ε 0, 12, .inl c1))], t_109_B, t_103_B, z_W (y_c ε) ad h_119] ?_
                refine y_mv [[(a_26, .inl (y_c ε 0, 8, .inl rf_26))]] ([((pa b), .inl (y_c ε 0, 8, .inl ((pf b))))]) [y_PX ε mn pa pf b, [(pA, .inl (y_c ε 3, 12, .inr (.inr (.inr (.inr g1)))))], [(ct, .inl (y_c ε 0, 12, .inl c1))], t_109_B, t_103_B, z_W (y_c ε) ad h_119] ?_
                refine y_spl [[((pa b), .inl (y_c ε 0, 8, .inl ((pf b))))], [(a_26, .inl (y_c ε 0, 8, .inl rf_26))]] [y_PX ε mn pa pf b, [(pA, .inl (y_c ε 3, 12, .inr (.inr (.inr (.inr g1)))))], [(ct, .inl (y_c ε 0, 12, .inl c1))], t_109_B, t_103_B, z_W (y_c ε) ad h_119] ?_
                refine y_callS (pc := 146) (st := []) (y := 145) (idx := 72) (w := y_J [[((pa b), .inl (y_c ε 0, 8, .inl ((pf b))))], [(a_26, .inl (y_c ε 0, 8, .inl rf_26))]]) (wr := y_J [y_PX ε mn pa pf b, [(pA, .inl (y_c ε 3, 12, .inr (.inr (.inr (.inr g1)))))], [(ct, .inl (y_c ε 0, 12, .inl c1))], t_109_B, t_103_B, z_W (y_c ε) ad h_119]) (av := [.ref ((pa b)), .ref a_26, .int (nI n)]) hC rfl rfl (z_t4 (i := 168) rfl rfl) (z_t4 (i := 169) rfl rfl) (z_t1 (i := 0) rfl rfl) (c_L_areAlike (rf := (pf b)) (sf := rf_26) (ra := (pa b)) (sa := a_26) (n := n) (q := (pv b)) (p := rk_26) (by first | assumption | omega | rfl | trivial) (by exact hIV.2.2.1 b (by omega)) (by exact q_26.1)) (show _ = some 3 from by decide +kernel) rfl rfl (by omega) (by omega) rfl (fun r_146 w_146 p_146 => ?_)
                obtain ⟨rfl, ew_146⟩ := p_146
                replace ew_146 := ew_146.symm
                subst ew_146
                refine y_cmb [[((pa b), .inl (y_c ε 0, 8, .inl ((pf b))))], [(a_26, .inl (y_c ε 0, 8, .inl rf_26))]] [y_PX ε mn pa pf b, [(pA, .inl (y_c ε 3, 12, .inr (.inr (.inr (.inr g1)))))], [(ct, .inl (y_c ε 0, 12, .inl c1))], t_109_B, t_103_B, z_W (y_c ε) ad h_119] ?_
                refine y_steps hC 0 (σ' := (149, [(0, .ref (ad 0)), (1, .ref (y_a ε 42)), (2, .int (nI 1)), (3, .int (nI n)), (4, .int (nI parts)), (5, .ref pA), (6, .ref ct), (7, .int (nI mn)), (8, .int (nI k)), (9, .int v_18), (10, .ref a_26), (11, .int (nI c39)), (12, .int (nI b))], [.int (nI ((z_allb n (fun c => decide (((pv b)) c = rk_26 c))).toNat))], [])) rfl ?_
                refine y_mv [[((pa b), .inl (y_c ε 0, 8, .inl ((pf b))))], [(a_26, .inl (y_c ε 0, 8, .inl rf_26))]] (y_PX ε mn pa pf b) [[(pA, .inl (y_c ε 3, 12, .inr (.inr (.inr (.inr g1)))))], [(ct, .inl (y_c ε 0, 12, .inl c1))], t_109_B, t_103_B, z_W (y_c ε) ad h_119] ?_
                refine y_mv [y_PX ε mn pa pf b] ([((pa b), .inl (y_c ε 0, 8, .inl ((pf b))))]) [[(a_26, .inl (y_c ε 0, 8, .inl rf_26))], [(pA, .inl (y_c ε 3, 12, .inr (.inr (.inr (.inr g1)))))], [(ct, .inl (y_c ε 0, 12, .inl c1))], t_109_B, t_103_B, z_W (y_c ε) ad h_119] ?_
                refine y_pm3 (b1 := [((pa b), .inl (y_c ε 0, 8, .inl ((pf b))))]) (b2 := y_PX ε mn pa pf b) (y_PW ε mn pa pf) [[(a_26, .inl (y_c ε 0, 8, .inl rf_26))], [(pA, .inl (y_c ε 3, 12, .inr (.inr (.inr (.inr g1)))))], [(ct, .inl (y_c ε 0, 12, .inl c1))], t_109_B, t_103_B, z_W (y_c ε) ad h_119] (y_PW_at (by omega)) ?_
                refine y_steps hC 0 (σ' := (149, [(0, .ref (ad 0)), (1, .ref (y_a ε 42)), (2, .int (nI 1)), (3, .int (nI n)), (4, .int (nI parts)), (5, .ref pA), (6, .ref ct), (7, .int (nI mn)), (8, .int (nI k)), (9, .int v_18), (10, .ref a_26), (11, .int (nI c39)), (12, .int (nI b))], [.int (nI ((z_allb n (fun c => decide (((pv b)) c = rk_26 c))).toNat))], [])) rfl ?_
                refine y_if hC (c := ¬ nI ((z_allb n (fun c => decide (((pv b)) c = rk_26 c))).toNat) = 0) rfl (fun c_149 => ?_) (fun c_149 => ?_)
                · skip
                  rw [z0_ne (by have := z_tn_lt (z_allb n (fun c => decide (pv b c = rk_26 c))); omega)] at c_149
                  skip
                  obtain ⟨e1, e2, e3⟩ := y_addY hadd hq4 (by omega) (y_al_T c_149) m2; rw [e1, e2, e3] at hCI_119
                  refine y_steps hC 2 (σ' := (162, [(0, .ref (ad 0)), (1, .ref (y_a ε 42)), (2, .int (nI 1)), (3, .int (nI n)), (4, .int (nI parts)), (5, .ref pA), (6, .ref ct), (7, .int (nI mn)), (8, .int (nI k)), (9, .int v_18), (10, .ref a_26), (11, .int (nI c39)), (12, .int (nI b))], [.int (nI mn), .int (nI b)], [])) rfl ?_
                  refine y_if hC (c := ¬ nI b = nI mn) rfl (fun c_162 => ?_) (fun c_162 => ?_)
                  · skip
                    rw [nI_eq (by omega) (by omega)] at c_162
                    skip
                    refine y_steps hC 3 (σ' := (186, [(0, .ref (ad 0)), (1, .ref (y_a ε 42)), (2, .int (nI 1)), (3, .int (nI n)), (4, .int (nI parts)), (5, .ref pA), (6, .ref ct), (7, .int (nI mn)), (8, .int (nI k)), (9, .int v_18), (10, .ref a_26), (11, .int (nI c39)), (12, .int (nI b))], [.int (nI b), .ref ct, .int (nI b), .ref ct], [])) rfl ?_
                    refine y_mv [y_PW ε mn pa pf, [(a_26, .inl (y_c ε 0, 8, .inl rf_26))], [(pA, .inl (y_c ε 3, 12, .inr (.inr (.inr (.inr g1)))))]] ([(ct, .inl (y_c ε 0, 12, .inl c1))]) [t_109_B, t_103_B, z_W (y_c ε) ad h_119] ?_
                    refine y_mv [[(ct, .inl (y_c ε 0, 12, .inl c1))], y_PW ε mn pa pf, [(a_26, .inl (y_c ε 0, 8, .inl rf_26))]] ([(pA, .inl (y_c ε 3, 12, .inr (.inr (.inr (.inr g1)))))]) [t_109_B, t_103_B, z_W (y_c ε) ad h_119] ?_
                    refine y_mv [[(pA, .inl (y_c ε 3, 12, .inr (.inr (.inr (.inr g1)))))], [(ct, .inl (y_c ε 0, 12, .inl c1))], y_PW ε mn pa pf] ([(a_26, .inl (y_c ε 0, 8, .inl rf_26))]) [t_109_B, t_103_B, z_W (y_c ε) ad h_119] ?_
                    refine y_ial hC 2 rfl rfl (by first | assumption | omega | rfl | trivial) (by omega) ((hIV.2.2.2.2.1 b (by omega)).1) ?_
                    have hv_186 := (hIV.2.2.2.2.1 b (by omega)).2
                    refine y_steps hC 1 (σ' := (189, [(0, .ref (ad 0)), (1, .ref (y_a ε 42)), (2, .int (nI 1)), (3, .int (nI n)), (4, .int (nI parts)), (5, .ref pA), (6, .ref ct), (7, .int (nI mn)), (8, .int (nI k)), (9, .int v_18), (10, .ref a_26), (11, .int (nI c39)), (12, .int (nI b))], [.int (nI c39), .int (nI ((cv b))), .int (nI b), .ref ct], [])) rfl ?_
                    refine y_add hC ((cv b) + c39) rfl (by first | rfl | omega) ?_
                    refine y_steps hC 0 (σ' := (190, [(0, .ref (ad 0)), (1, .ref (y_a ε 42)), (2, .int (nI 1)), (3, .int (nI n)), (4, .int (nI parts)), (5, .ref pA), (6, .ref ct), (7, .int (nI mn)), (8, .int (nI k)), (9, .int v_18), (10, .ref a_26), (11, .int (nI c39)), (12, .int (nI b))], [.int (nI ((cv b) + c39)), .int (nI b), .ref ct], [])) rfl ?_
                    refine y_ias (ws2 := ((a_26, .inl (y_c ε 0, 8, .inl rf_26)) :: ((pA, .inl (y_c ε 3, 12, .inr (.inr (.inr (.inr g1))))) :: ((ct, .inl (y_c ε 0, 12, .inl (upd c1 b (nI ((cv b) + c39))))) :: ((y_PW ε mn pa pf) ++ ((t_109_B) ++ ((t_103_B) ++ (z_W (y_c ε) ad h_119)))))))) hC 2 rfl rfl (by first | assumption | omega | rfl | trivial) (by omega) rfl ?_
                    refine y_steps hC 0 (σ' := (191, [(0, .ref (ad 0)), (1, .ref (y_a ε 42)), (2, .int (nI 1)), (3, .int (nI n)), (4, .int (nI parts)), (5, .ref pA), (6, .ref ct), (7, .int (nI mn)), (8, .int (nI k)), (9, .int v_18), (10, .ref a_26), (11, .int (nI c39)), (12, .int (nI b))], [], [])) rfl ?_
                    refine y_inc hC (n := 1) rfl rfl rfl (k + 1) (by rfl) [(8, .int (nI (k + 1))), (0, .ref (ad 0)), (1, .ref (y_a ε 42)), (2, .int (nI 1)), (3, .int (nI n)), (4, .int (nI parts)), (5, .ref pA), (6, .ref ct), (7, .int (nI mn)), (9, .int v_18), (10, .ref a_26), (11, .int (nI c39)), (12, .int (nI b))] rfl ?_
                    refine y_steps hC 1 (σ' := (6, [(8, .int (nI (k + 1))), (0, .ref (ad 0)), (1, .ref (y_a ε 42)), (2, .int (nI 1)), (3, .int (nI n)), (4, .int (nI parts)), (5, .ref pA), (6, .ref ct), (7, .int (nI mn)), (9, .int v_18), (10, .ref a_26), (11, .int (nI c39)), (12, .int (nI b))], [], [])) rfl ?_
                    refine y_mv [[(a_26, .inl (y_c ε 0, 8, .inl rf_26))], [(pA, .inl (y_c ε 3, 12, .inr (.inr (.inr (.inr g1)))))], [(ct, .inl (y_c ε 0, 12, .inl (upd c1 b (nI ((cv b) + c39)))))], y_PW ε mn pa pf, t_109_B, t_103_B] (z_W (y_c ε) ad h_119) [] ?_
                    refine y_mv [z_W (y_c ε) ad h_119, [(a_26, .inl (y_c ε 0, 8, .inl rf_26))], [(pA, .inl (y_c ε 3, 12, .inr (.inr (.inr (.inr g1)))))], [(ct, .inl (y_c ε 0, 12, .inl (upd c1 b (nI ((cv b) + c39)))))]] (y_PW ε mn pa pf) [t_109_B, t_103_B] ?_
                    refine y_mv [y_PW ε mn pa pf, z_W (y_c ε) ad h_119, [(a_26, .inl (y_c ε 0, 8, .inl rf_26))], [(pA, .inl (y_c ε 3, 12, .inr (.inr (.inr (.inr g1)))))]] ([(ct, .inl (y_c ε 0, 12, .inl (upd c1 b (nI ((cv b) + c39)))))]) [t_109_B, t_103_B] ?_
                    refine y_mv [[(ct, .inl (y_c ε 0, 12, .inl (upd c1 b (nI ((cv b) + c39)))))], y_PW ε mn pa pf, z_W (y_c ε) ad h_119, [(a_26, .inl (y_c ε 0, 8, .inl rf_26))]] ([(pA, .inl (y_c ε 3, 12, .inr (.inr (.inr (.inr g1)))))]) [t_109_B, t_103_B] ?_
                    refine y_mv [[(pA, .inl (y_c ε 3, 12, .inr (.inr (.inr (.inr g1)))))], [(ct, .inl (y_c ε 0, 12, .inl (upd c1 b (nI ((cv b) + c39)))))], y_PW ε mn pa pf, z_W (y_c ε) ad h_119] ([(a_26, .inl (y_c ε 0, 8, .inl rf_26))]) [t_109_B, t_103_B] ?_
                    refine y_drp ([(a_26, .inl (y_c ε 0, 8, .inl rf_26))]) [[(pA, .inl (y_c ε 3, 12, .inr (.inr (.inr (.inr g1)))))], [(ct, .inl (y_c ε 0, 12, .inl (upd c1 b (nI ((cv b) + c39)))))], y_PW ε mn pa pf, z_W (y_c ε) ad h_119, t_109_B, t_103_B] ?_
                    refine y_mv [[(pA, .inl (y_c ε 3, 12, .inr (.inr (.inr (.inr g1)))))], [(ct, .inl (y_c ε 0, 12, .inl (upd c1 b (nI ((cv b) + c39)))))], y_PW ε mn pa pf, z_W (y_c ε) ad h_119] (t_109_B) [t_103_B] ?_
                    refine y_drp (t_109_B) [[(pA, .inl (y_c ε 3, 12, .inr (.inr (.inr (.inr g1)))))], [(ct, .inl (y_c ε 0, 12, .inl (upd c1 b (nI ((cv b) + c39)))))], y_PW ε mn pa pf, z_W (y_c ε) ad h_119, t_103_B] ?_
                    refine y_mv [[(pA, .inl (y_c ε 3, 12, .inr (.inr (.inr (.inr g1)))))], [(ct, .inl (y_c ε 0, 12, .inl (upd c1 b (nI ((cv b) + c39)))))], y_PW ε mn pa pf, z_W (y_c ε) ad h_119] (t_103_B) [] ?_
                    refine y_drp (t_103_B) [[(pA, .inl (y_c ε 3, 12, .inr (.inr (.inr (.inr g1)))))], [(ct, .inl (y_c ε 0, 12, .inl (upd c1 b (nI ((cv b) + c39)))))], y_PW ε mn pa pf, z_W (y_c ε) ad h_119] ?_
                    refine y_sub hC [1, 2, 3, 4, 5, 6, 7, 8, 0] rfl ?_
                    refine y_wid (600 * (k + 1)) (61000 * (k + 1)) (by omega) (by omega) ?_
                    exact ih_6 mn (k + 1) h_119 g1 (upd c1 b (nI ((cv b) + c39))) (fun x => if x = b then cv b + c39 else cv x) pv pa pf tp2_112 (by omega) ⟨(by exact hCI_119), (by first | exact ⟨by omega, y_IV_Y hIV (by omega) ⟨by omega, by omega⟩⟩ | exact ⟨by omega, y_IV_N hIV q_26.2 q_26.1 hq4 (fun x hx => m2 x (by omega)) ⟨by omega, by omega⟩⟩)⟩
                  · skip
                    rw [nI_eq (by omega) (by omega)] at c_162
                    replace c_162 := Decidable.not_not.mp c_162
                    refine y_steps hC 0 (σ' := (165, [(0, .ref (ad 0)), (1, .ref (y_a ε 42)), (2, .int (nI 1)), (3, .int (nI n)), (4, .int (nI parts)), (5, .ref pA), (6, .ref ct), (7, .int (nI mn)), (8, .int (nI k)), (9, .int v_18), (10, .ref a_26), (11, .int (nI c39)), (12, .int (nI b))], [], [])) rfl ?_
                    rw [c_162]
                    omega
                · skip
                  rw [z0_ne (by have := z_tn_lt (z_allb n (fun c => decide (pv b c = rk_26 c))); omega)] at c_149
                  replace c_149 := Decidable.not_not.mp c_149
                  refine y_steps hC 0 (σ' := (152, [(0, .ref (ad 0)), (1, .ref (y_a ε 42)), (2, .int (nI 1)), (3, .int (nI n)), (4, .int (nI parts)), (5, .ref pA), (6, .ref ct), (7, .int (nI mn)), (8, .int (nI k)), (9, .int v_18), (10, .ref a_26), (11, .int (nI c39)), (12, .int (nI b))], [], [])) rfl ?_
                  refine y_inc hC (n := 1) rfl rfl rfl (b + 1) (by rfl) [(12, .int (nI (b + 1))), (0, .ref (ad 0)), (1, .ref (y_a ε 42)), (2, .int (nI 1)), (3, .int (nI n)), (4, .int (nI parts)), (5, .ref pA), (6, .ref ct), (7, .int (nI mn)), (8, .int (nI k)), (9, .int v_18), (10, .ref a_26), (11, .int (nI c39))] rfl ?_
                  refine y_steps hC 1 (σ' := (131, [(12, .int (nI (b + 1))), (0, .ref (ad 0)), (1, .ref (y_a ε 42)), (2, .int (nI 1)), (3, .int (nI n)), (4, .int (nI parts)), (5, .ref pA), (6, .ref ct), (7, .int (nI mn)), (8, .int (nI k)), (9, .int v_18), (10, .ref a_26), (11, .int (nI c39))], [], [])) rfl ?_
                  refine y_mv [y_PW ε mn pa pf, [(a_26, .inl (y_c ε 0, 8, .inl rf_26))], [(pA, .inl (y_c ε 3, 12, .inr (.inr (.inr (.inr g1)))))], [(ct, .inl (y_c ε 0, 12, .inl c1))], t_109_B, t_103_B] (z_W (y_c ε) ad h_119) [] ?_
                  refine y_mv [z_W (y_c ε) ad h_119] (y_PW ε mn pa pf) [[(a_26, .inl (y_c ε 0, 8, .inl rf_26))], [(pA, .inl (y_c ε 3, 12, .inr (.inr (.inr (.inr g1)))))], [(ct, .inl (y_c ε 0, 12, .inl c1))], t_109_B, t_103_B] ?_
                  refine y_mv [y_PW ε mn pa pf, z_W (y_c ε) ad h_119, [(a_26, .inl (y_c ε 0, 8, .inl rf_26))], [(pA, .inl (y_c ε 3, 12, .inr (.inr (.inr (.inr g1)))))]] ([(ct, .inl (y_c ε 0, 12, .inl c1))]) [t_109_B, t_103_B] ?_
                  refine y_mv [[(ct, .inl (y_c ε 0, 12, .inl c1))], y_PW ε mn pa pf, z_W (y_c ε) ad h_119, [(a_26, .inl (y_c ε 0, 8, .inl rf_26))]] ([(pA, .inl (y_c ε 3, 12, .inr (.inr (.inr (.inr g1)))))]) [t_109_B, t_103_B] ?_
                  refine y_mv [[(pA, .inl (y_c ε 3, 12, .inr (.inr (.inr (.inr g1)))))], [(ct, .inl (y_c ε 0, 12, .inl c1))], y_PW ε mn pa pf, z_W (y_c ε) ad h_119] ([(a_26, .inl (y_c ε 0, 8, .inl rf_26))]) [t_109_B, t_103_B] ?_
                  refine y_mv [[(a_26, .inl (y_c ε 0, 8, .inl rf_26))], [(pA, .inl (y_c ε 3, 12, .inr (.inr (.inr (.inr g1)))))], [(ct, .inl (y_c ε 0, 12, .inl c1))], y_PW ε mn pa pf, z_W (y_c ε) ad h_119, t_109_B] (t_103_B) [] ?_
                  refine y_mv [t_103_B, [(a_26, .inl (y_c ε 0, 8, .inl rf_26))], [(pA, .inl (y_c ε 3, 12, .inr (.inr (.inr (.inr g1)))))], [(ct, .inl (y_c ε 0, 12, .inl c1))], y_PW ε mn pa pf, z_W (y_c ε) ad h_119] (t_109_B) [] ?_
                  refine y_sub hC [1, 2, 3, 4, 5, 6, 7, 8, 9, 10, 11, 12, 0] rfl ?_
                  exact ih_131 (b + 1) (by omega) (by exact ⟨by omega, fun x hx => by rcases (by omega : x = b ∨ x < b) with e | e; (rw [e]; exact y_al_F c_149); (exact m2 x e)⟩)
          refine y_sub hC [4, 5, 6, 7, 8, 9, 10, 11, 12, 3, 2, 1, 0] rfl ?_
          exact loop_131 _ 0 (Nat.lt_succ_self _) (by exact ⟨Nat.zero_le _, fun x hx => absurd hx (Nat.not_lt_zero x)⟩)
  refine y_sub hC [2, 3, 4, 5, 6, 7, 8, 1, 0] rfl ?_
  refine y_wid (600 * 0) (61000 * 0) (by omega) (by omega) ?_
  exact loop_6 _ 0 0 hX pg cg cn pl (fun _ => 0) (fun _ _ => 0) tp (Nat.lt_succ_self _) ⟨(by exact hCI), (by exact ⟨Nat.zero_le _, y_IV_0⟩)⟩
