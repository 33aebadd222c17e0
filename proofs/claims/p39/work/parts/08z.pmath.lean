/-! reading: rankings, counts, parts -/
/-- a ballot's ranking is q -/
def z_same (n : Nat) (pl : Nat → Nat → Nat) (q : Nat → Nat) (b : Nat) : Prop := ∀ c, c < n → pl b c = q c
def z_addS (n bm : Nat) (cn : Nat → Nat) (pl : Nat → Nat → Nat) (q : Nat → Nat) (c bm2 : Nat) (cn2 : Nat → Nat) (pl2 : Nat → Nat → Nat) : Prop := (∃ b, b < bm ∧ z_same n pl q b ∧ (∀ x, x < b → ¬ z_same n pl q x) ∧ cn b + c ≤ 1000000 ∧ bm2 = bm ∧ cn2 = (fun x => if x = b then cn b + c else cn x) ∧ pl2 = pl) ∨ ((∀ x, x < bm → ¬ z_same n pl q x) ∧ bm < 40 ∧ bm2 = bm + 1 ∧ cn2 = (fun x => if x = bm then c else cn x) ∧ pl2 = fun x => if x = bm then q else pl x)
def z_addF (n bm : Nat) (cn : Nat → Nat) (pl : Nat → Nat → Nat) (q : Nat → Nat) (c : Nat) : Prop := (∃ b, b < bm ∧ z_same n pl q b ∧ (∀ x, x < b → ¬ z_same n pl q x) ∧ 1000000 < cn b + c) ∨ ((∀ x, x < bm → ¬ z_same n pl q x) ∧ bm = 40)
def z_lesS (bm : Nat) (cn : Nat → Nat) (pl : Nat → Nat → Nat) (b c bm2 : Nat) (cn2 : Nat → Nat) (pl2 : Nat → Nat → Nat) : Prop := (c < cn b ∧ bm2 = bm ∧ cn2 = (fun x => if x = b then cn b - c else cn x) ∧ pl2 = pl) ∨ (c = cn b ∧ bm2 = bm - 1 ∧ cn2 = (fun x => if x < b then cn x else cn (x + 1)) ∧ pl2 = fun x => if x < b then pl x else pl (x + 1))
/-- a ranking, read from p: whether it is one, where it ends or fails, the places; f figures at most, td told, pl the place now -/
def z_rp (n : Nat) (tp : Nat → Nat) (fd : Nat) : Nat → Nat → Nat → (Nat → Nat) → Nat → Bool × Nat × (Nat → Nat)
  | 0, _, _, q, p => (false, p, q)
  | f + 1, td, pl, q, p =>
    if p < fd ∧ 48 ≤ tp p ∧ tp p ≤ 57 ∧ tp p - 48 < n ∧ td.testBit (tp p - 48) = false then
      (if p + 1 < fd ∧ tp (p + 1) = 62 then z_rp n tp fd f (td ||| 2 ^ (tp p - 48)) (pl + 1) (fun x => if x = tp p - 48 then pl else q x) (p + 1 + 1)
      else if p + 1 < fd ∧ tp (p + 1) = 61 then z_rp n tp fd f (td ||| 2 ^ (tp p - 48)) pl (fun x => if x = tp p - 48 then pl else q x) (p + 1 + 1)
      else (true, p + 1, fun x => if (td ||| 2 ^ (tp p - 48)).testBit x = true then (if x = tp p - 48 then pl else q x) else pl + 1))
    else (false, p, q)
theorem z_rp_no {n fd f td pl p : Nat} {tp q : Nat → Nat} (h : ¬ (p < fd ∧ 48 ≤ tp p ∧ tp p ≤ 57 ∧ tp p - 48 < n ∧ td.testBit (tp p - 48) = false)) : z_rp n tp fd f td pl q p = (false, p, q) := by
  cases f with
  | zero => rfl
  | succ f => unfold z_rp; rw [if_neg h]
def z_rq (n : Nat) (tp : Nat → Nat) (fd f td pl : Nat) (q : Nat → Nat) (p : Nat) : Bool × Nat × (Nat → Nat) := if p < fd ∧ tp p = 62 then z_rp n tp fd f td (pl + 1) q (p + 1) else if p < fd ∧ tp p = 61 then z_rp n tp fd f td pl q (p + 1) else (true, p, fun x => if td.testBit x = true then q x else pl + 1)
theorem z_rp_c {n fd f td pl p c : Nat} {tp q : Nat → Nat} (hp : p < fd) (ht : tp p = 48 + c) (hc : c < n) (hn : n ≤ 8) (hb : td.testBit c = false) : z_rp n tp fd (f + 1) td pl q p = (if p + 1 < fd ∧ tp (p + 1) = 62 then z_rp n tp fd f (td ||| 2 ^ c) (pl + 1) (fun x => if x = c then pl else q x) (p + 1 + 1) else if p + 1 < fd ∧ tp (p + 1) = 61 then z_rp n tp fd f (td ||| 2 ^ c) pl (fun x => if x = c then pl else q x) (p + 1 + 1) else (true, p + 1, fun x => if (td ||| 2 ^ c).testBit x = true then (if x = c then pl else q x) else pl + 1)) := by
  have e : tp p - 48 = c := by omega
  have h1 : p < fd ∧ 48 ≤ tp p ∧ tp p ≤ 57 ∧ tp p - 48 < n ∧ td.testBit (tp p - 48) = false := ⟨hp, by omega, by omega, by omega, by rw [e]; exact hb⟩
  show (if _ then _ else _) = _
  rw [if_pos h1, e]
theorem z_rp_q {n fd f td pl p c : Nat} {tp q : Nat → Nat} (hp : p < fd) (ht : tp p = 48 + c) (hc : c < n) (hn : n ≤ 8) (hb : td.testBit c = false) : z_rp n tp fd (f + 1) td pl q p = z_rq n tp fd f (td ||| 2 ^ c) pl (fun x => if x = c then pl else q x) (p + 1) := z_rp_c hp ht hc hn hb
theorem z_rq_g {n fd f td pl p : Nat} {tp q : Nat → Nat} (hp : p < fd) (h : tp p = 62) : z_rq n tp fd f td pl q p = z_rp n tp fd f td (pl + 1) q (p + 1) := by
  unfold z_rq
  rw [if_pos ⟨hp, h⟩]
theorem z_rq_e {n fd f td pl p : Nat} {tp q : Nat → Nat} (hp : p < fd) (h : tp p = 61) : z_rq n tp fd f td pl q p = z_rp n tp fd f td pl q (p + 1) := by
  unfold z_rq
  rw [if_neg (by omega), if_pos ⟨hp, h⟩]
theorem z_rq_end {n fd f td pl p : Nat} {tp q : Nat → Nat} (h : ¬ (p < fd ∧ tp p = 62)) (h2 : ¬ (p < fd ∧ tp p = 61)) : z_rq n tp fd f td pl q p = (true, p, fun x => if td.testBit x = true then q x else pl + 1) := by
  unfold z_rq
  rw [if_neg h, if_neg h2]
theorem z_pc_or {s k : Nat} (hs : s < 256) (hk : k < 8) (hb : s.testBit k = false) : z_pc (s ||| 2 ^ k) = z_pc s + 1 := z_all2 (P := fun s k => s.testBit k = false → z_pc (s ||| 2 ^ k) = z_pc s + 1) (m := 256) (n := 8) (by decide +kernel) hs hk hb
/-- places told: none above pl, each below pl met -/
def z_TQ (n td pl : Nat) (q : Nat → Nat) : Prop := (∀ c, c < n → td.testBit c = true → q c ≤ pl) ∧ ∀ x, x < pl → ∃ c, c < n ∧ td.testBit c = true ∧ q c = x
theorem z_TQ_put {n td pl c : Nat} {q : Nat → Nat} (h : z_TQ n td pl q) (hc : c < n) (hb : td.testBit c = false) : (∀ x, x < n → (td ||| 2 ^ c).testBit x = true → (if x = c then pl else q x) ≤ pl) ∧ ∀ x, x ≤ pl → ∃ y, y < n ∧ (td ||| 2 ^ c).testBit y = true ∧ (if y = c then pl else q y) = x := by
  refine ⟨fun x hx hbx => ?_, fun x hx => ?_⟩
  · by_cases e : x = c
    · rw [if_pos e]; exact Nat.le_refl _
    · rw [if_neg e]
      rw [Nat.testBit_or, z_p2bit, decide_eq_false (fun q => e q.symm), Bool.or_false] at hbx
      exact h.1 x hx hbx
  · rcases (by omega : x < pl ∨ x = pl) with e | e
    · obtain ⟨y, hy, hby, e2⟩ := h.2 x e
      have hne : y ≠ c := fun q => by rw [q, hb] at hby; cases hby
      exact ⟨y, hy, by rw [Nat.testBit_or, hby]; rfl, by rw [if_neg hne]; exact e2⟩
    · exact ⟨c, hc, by rw [Nat.testBit_or, z_p2bit, decide_eq_true rfl, Bool.or_true], by rw [if_pos rfl]; exact e.symm⟩
theorem z_rp_ok {n fd : Nat} {tp : Nat → Nat} (hn : n ≤ 8) : ∀ {f td pl p p2 : Nat} {q q2 : Nat → Nat}, z_rp n tp fd f td pl q p = (true, p2, q2) → z_TQ n td pl q → p < p2 ∧ p2 ≤ fd ∧ z_RK n q2
  | 0, td, pl, p, p2, q, q2, h, _ => by
    exact Bool.noConfusion (congrArg Prod.fst h : false = true)
  | f + 1, td, pl, p, p2, q, q2, h, ht => by
    by_cases e : p < fd ∧ 48 ≤ tp p ∧ tp p ≤ 57 ∧ tp p - 48 < n ∧ td.testBit (tp p - 48) = false
    · obtain ⟨h1, h2, h3, h4, h5⟩ := e
      have hput := z_TQ_put ht h4 h5
      rw [z_rp_c (c := tp p - 48) h1 (by omega) h4 hn h5] at h
      split at h
      · have ih := z_rp_ok hn h ⟨fun c hc hb => Nat.le_succ_of_le (hput.1 c hc hb), fun x hx => hput.2 x (by omega)⟩
        exact ⟨by omega, ih.2.1, ih.2.2⟩
      · split at h
        · have ih := z_rp_ok hn h ⟨hput.1, fun x hx => hput.2 x (by omega)⟩
          exact ⟨by omega, ih.2.1, ih.2.2⟩
        · have e1 : p + 1 = p2 := congrArg (fun x => x.2.1) h
          have e2 : _ = q2 := congrArg (fun x => x.2.2) h
          refine ⟨by omega, by omega, ?_⟩
          subst e2
          refine z_RK_of (fun c hc x hx => ?_)
          have hx2 : x ≤ pl := by
            have hx' : x < (if (td ||| 2 ^ (tp p - 48)).testBit c = true then (if c = tp p - 48 then pl else q c) else pl + 1) := hx
            by_cases hb : (td ||| 2 ^ (tp p - 48)).testBit c = true
            · rw [if_pos hb] at hx'
              have := hput.1 c hc hb
              omega
            · rw [if_neg hb] at hx'
              omega
          obtain ⟨y, hy, hby, ey⟩ := hput.2 x hx2
          exact ⟨y, hy, by simp only [hby, if_true]; exact ey⟩
    · rw [z_rp_no e] at h
      exact Bool.noConfusion (congrArg Prod.fst h : false = true)
theorem z_rp_le {n fd : Nat} {tp : Nat → Nat} : ∀ {f td pl p p2 : Nat} {q q2 : Nat → Nat}, z_rp n tp fd f td pl q p = (false, p2, q2) → p ≤ fd → p ≤ p2 ∧ p2 ≤ fd
  | 0, td, pl, p, p2, q, q2, h, hp => by
    have : p = p2 := congrArg (fun x => x.2.1) h
    omega
  | f + 1, td, pl, p, p2, q, q2, h, hp => by
    by_cases e : p < fd ∧ 48 ≤ tp p ∧ tp p ≤ 57 ∧ tp p - 48 < n ∧ td.testBit (tp p - 48) = false
    · have e2 : z_rp n tp fd (f + 1) td pl q p = if _ then _ else _ := rfl
      rw [e2, if_pos e] at h
      split at h
      · have := z_rp_le h (by omega)
        omega
      · split at h
        · have := z_rp_le h (by omega)
          omega
        · exact Bool.noConfusion (congrArg Prod.fst h : true = false)
    · rw [z_rp_no e] at h
      have : p = p2 := congrArg (fun x => x.2.1) h
      omega
/-- a number of f figures at most -/
def z_nm (tp : Nat → Nat) (fd : Nat) : Nat → Nat → Nat → Nat × Nat
  | 0, v, p => (v, p)
  | f + 1, v, p => if p < fd ∧ 48 ≤ tp p ∧ tp p ≤ 57 then z_nm tp fd f (10 * v + (tp p - 48)) (p + 1) else (v, p)
theorem z_nm_no {fd f v p : Nat} {tp : Nat → Nat} (h : ¬ (p < fd ∧ 48 ≤ tp p ∧ tp p ≤ 57)) : z_nm tp fd f v p = (v, p) := by
  cases f with
  | zero => rfl
  | succ f => unfold z_nm; rw [if_neg h]
theorem z_nm_c {fd f v p k : Nat} {tp : Nat → Nat} (hp : p < fd) (hk : k < 10) (h : tp p = 48 + k) : z_nm tp fd (f + 1) v p = z_nm tp fd f (10 * v + k) (p + 1) := by
  show (if _ then _ else _) = _
  rw [if_pos ⟨hp, by omega, by omega⟩, show tp p - 48 = k by omega]
theorem z_nm_le {fd : Nat} {tp : Nat → Nat} : ∀ {f v p v2 p2 : Nat}, z_nm tp fd f v p = (v2, p2) → p ≤ fd → p ≤ p2 ∧ p2 ≤ fd
  | 0, v, p, v2, p2, h, hp => by
    have : p = p2 := congrArg Prod.snd h
    omega
  | f + 1, v, p, v2, p2, h, hp => by
    by_cases e : p < fd ∧ 48 ≤ tp p ∧ tp p ≤ 57
    · have e2 : z_nm tp fd (f + 1) v p = if _ then _ else _ := rfl
      rw [e2, if_pos e] at h
      have := z_nm_le h (by omega)
      omega
    · rw [z_nm_no e] at h
      have : p = p2 := congrArg Prod.snd h
      omega
/-- one part from p: its fault, or what it tells and where it ends -/
def z_p1F (n : Nat) (tp : Nat → Nat) (fd p ft : Nat) : Prop := ∃ v p1, z_nm tp fd 7 0 p = (v, p1) ∧ ((¬ (1 ≤ v ∧ v ≤ 1000000) ∧ ft = p) ∨ ((1 ≤ v ∧ v ≤ 1000000) ∧ ((¬ (p1 < fd ∧ tp p1 = 58) ∧ ft = p1) ∨ ((p1 < fd ∧ tp p1 = 58) ∧ ∃ q, z_rp n tp fd 8 0 0 (fun _ => 0) (p1 + 1) = (false, ft, q)))))
def z_p1S (n : Nat) (tp : Nat → Nat) (fd p v : Nat) (q : Nat → Nat) (p2 : Nat) : Prop := ∃ p1, z_nm tp fd 7 0 p = (v, p1) ∧ (1 ≤ v ∧ v ≤ 1000000) ∧ (p1 < fd ∧ tp p1 = 58) ∧ z_rp n tp fd 8 0 0 (fun _ => 0) (p1 + 1) = (true, p2, q)
theorem z_p1_ex {n fd p v p2 ft : Nat} {tp q : Nat → Nat} (h : z_p1S n tp fd p v q p2) (h2 : z_p1F n tp fd p ft) : False := by
  obtain ⟨p1, a1, a2, a3, a4⟩ := h
  obtain ⟨w, p3, b1, b2⟩ := h2
  rw [a1] at b1
  obtain ⟨rfl, rfl⟩ := Prod.mk.inj b1
  rcases b2 with ⟨b2, _⟩ | ⟨_, ⟨b2, _⟩ | ⟨_, r, b2⟩⟩
  · exact b2 a2
  · exact b2 a3
  · rw [a4] at b2
    exact Bool.noConfusion (congrArg Prod.fst b2 : true = false)
theorem z_p1S_uniq {n fd p v p2 v' p2' : Nat} {tp q q' : Nat → Nat} (h : z_p1S n tp fd p v q p2) (h2 : z_p1S n tp fd p v' q' p2') : v = v' ∧ q = q' ∧ p2 = p2' := by
  obtain ⟨p1, a1, a2, a3, a4⟩ := h
  obtain ⟨p3, b1, b2, b3, b4⟩ := h2
  rw [a1] at b1
  obtain ⟨rfl, rfl⟩ := Prod.mk.inj b1
  rw [a4] at b4
  obtain ⟨_, e⟩ := Prod.mk.inj b4
  obtain ⟨e1, e2⟩ := Prod.mk.inj e
  exact ⟨rfl, e2, e1⟩
theorem z_p1F_uniq {n fd p ft ft' : Nat} {tp : Nat → Nat} (h : z_p1F n tp fd p ft) (h2 : z_p1F n tp fd p ft') : ft = ft' := by
  obtain ⟨v, p1, a1, a2⟩ := h
  obtain ⟨w, p3, b1, b2⟩ := h2
  rw [a1] at b1
  obtain ⟨rfl, rfl⟩ := Prod.mk.inj b1
  rcases a2 with ⟨a2, a3⟩ | ⟨a2, ⟨a3, a4⟩ | ⟨a3, r, a4⟩⟩ <;> rcases b2 with ⟨b2, b3⟩ | ⟨b2, ⟨b3, b4⟩ | ⟨b3, r2, b4⟩⟩
  · omega
  · exact absurd b2 a2
  · exact absurd b2 a2
  · exact absurd a2 b2
  · omega
  · exact absurd b3 a3
  · exact absurd a2 b2
  · exact absurd a3 b3
  · rw [a4] at b4
    exact congrArg (fun x => x.2.1) b4
theorem z_p1S_le {n fd p v p2 : Nat} {tp q : Nat → Nat} (hn : n ≤ 8) (hp : p ≤ fd) (h : z_p1S n tp fd p v q p2) : p + 2 ≤ p2 ∧ p2 ≤ fd ∧ z_RK n q ∧ 1 ≤ v ∧ v ≤ 1000000 := by
  obtain ⟨p1, a1, a2, a3, a4⟩ := h
  have h1 := z_nm_le a1 hp
  have h2 := z_rp_ok hn a4 ⟨fun c _ hb => Bool.noConfusion ((Nat.zero_testBit c).symm.trans hb), fun x hx => absurd hx (Nat.not_lt_zero x)⟩
  exact ⟨by omega, h2.2.1, h2.2.2, a2⟩
theorem z_p1F_le {n fd p ft : Nat} {tp : Nat → Nat} (hp : p ≤ fd) (h : z_p1F n tp fd p ft) : ft ≤ fd := by
  obtain ⟨v, p1, a1, a2⟩ := h
  have h1 := z_nm_le a1 hp
  rcases a2 with ⟨_, a3⟩ | ⟨_, ⟨_, a4⟩ | ⟨a3, r, a4⟩⟩
  · omega
  · omega
  · have := z_rp_le a4 (by omega)
    omega
abbrev z_PR1 : Type := Nat ⊕ (Nat × Nat × (Nat → Nat) × (Nat → Nat → Nat))
/-- all parts from p, k are through: the fault, or how many parts and what the ballots are then -/
def z_pts (n : Nat) (tp : Nat → Nat) (fd : Nat) : Nat → Nat → Nat → Nat → (Nat → Nat) → (Nat → Nat → Nat) → z_PR1 → Prop
  | 0, _, _, _, _, _, _ => False
  | f + 1, k, p, bm, cn, pl, R => (∃ ft, z_p1F n tp fd p ft ∧ R = .inl ft) ∨ ∃ v q p2, z_p1S n tp fd p v q p2 ∧ ((z_addF n bm cn pl q v ∧ R = .inl p) ∨ ∃ bm2 cn2 pl2, z_addS n bm cn pl q v bm2 cn2 pl2 ∧ ((p2 = fd ∧ R = .inr (k + 1, bm2, cn2, pl2)) ∨ (p2 ≠ fd ∧ ¬ (p2 < fd ∧ tp p2 = 59) ∧ R = .inl p2) ∨ ((p2 < fd ∧ tp p2 = 59) ∧ z_pts n tp fd f (k + 1) (p2 + 1) bm2 cn2 pl2 R)))
theorem z_add_ex {n bm c bm2 : Nat} {cn q cn2 : Nat → Nat} {pl pl2 : Nat → Nat → Nat} (h : z_addS n bm cn pl q c bm2 cn2 pl2) (h2 : z_addF n bm cn pl q c) : False := by
  rcases h with ⟨b, b1, b2, b3, b4, _⟩ | ⟨b1, b2, _⟩ <;> rcases h2 with ⟨d, d1, d2, d3, d4⟩ | ⟨d1, d2⟩
  · have : b = d := by
      rcases Nat.lt_trichotomy b d with e | e | e
      · exact absurd b2 (d3 b e)
      · exact e
      · exact absurd d2 (b3 d e)
    subst this
    omega
  · exact d1 b b1 b2
  · exact b1 d d1 d2
  · omega
theorem z_addS_uniq {n bm c bm2 bm3 : Nat} {cn q cn2 cn3 : Nat → Nat} {pl pl2 pl3 : Nat → Nat → Nat} (h : z_addS n bm cn pl q c bm2 cn2 pl2) (h2 : z_addS n bm cn pl q c bm3 cn3 pl3) : bm2 = bm3 ∧ cn2 = cn3 ∧ pl2 = pl3 := by
  rcases h with ⟨b, b1, b2, b3, b4, e1, e2, e3⟩ | ⟨b1, b2, e1, e2, e3⟩ <;> rcases h2 with ⟨d, d1, d2, d3, d4, f1, f2, f3⟩ | ⟨d1, d2, f1, f2, f3⟩
  · have : b = d := by
      rcases Nat.lt_trichotomy b d with e | e | e
      · exact absurd b2 (d3 b e)
      · exact e
      · exact absurd d2 (b3 d e)
    subst this
    exact ⟨e1.trans f1.symm, e2.trans f2.symm, e3.trans f3.symm⟩
  · exact absurd b2 (d1 b b1)
  · exact absurd d2 (b1 d d1)
  · exact ⟨e1.trans f1.symm, e2.trans f2.symm, e3.trans f3.symm⟩
theorem z_pts_det {n fd : Nat} {tp : Nat → Nat} : ∀ {f g k p bm : Nat} {cn : Nat → Nat} {pl : Nat → Nat → Nat} {R S : z_PR1}, z_pts n tp fd f k p bm cn pl R → z_pts n tp fd g k p bm cn pl S → R = S
  | 0, _, _, _, _, _, _, _, _, h, _ => h.elim
  | _ + 1, 0, _, _, _, _, _, _, _, _, h => h.elim
  | f + 1, g + 1, k, p, bm, cn, pl, R, S, h, h2 => by
    rcases h with ⟨ft, a1, a2⟩ | ⟨v, q, p2, a1, a2⟩ <;> rcases h2 with ⟨gt, b1, b2⟩ | ⟨w, r, p3, b1, b2⟩
    · rw [a2, b2, z_p1F_uniq a1 b1]
    · exact (z_p1_ex b1 a1).elim
    · exact (z_p1_ex a1 b1).elim
    · obtain ⟨rfl, rfl, rfl⟩ := z_p1S_uniq a1 b1
      rcases a2 with ⟨a2, a3⟩ | ⟨bm2, cn2, pl2, a2, a3⟩ <;> rcases b2 with ⟨b2, b3⟩ | ⟨bm3, cn3, pl3, b2, b3⟩
      · rw [a3, b3]
      · exact (z_add_ex b2 a2).elim
      · exact (z_add_ex a2 b2).elim
      · obtain ⟨rfl, rfl, rfl⟩ := z_addS_uniq a2 b2
        rcases a3 with ⟨a3, a4⟩ | ⟨a3, a4, a5⟩ | ⟨a3, a4⟩ <;> rcases b3 with ⟨b3, b4⟩ | ⟨b3, b4, b5⟩ | ⟨b3, b4⟩
        · rw [a4, b4]
        · exact absurd a3 b3
        · omega
        · exact absurd b3 a3
        · rw [a5, b5]
        · exact absurd b3 a4
        · omega
        · exact absurd a3 b4
        · exact z_pts_det a4 b4
theorem z_ct_T' {p : Nat → Bool} {i : Nat} (hp : p i = true) : z_ct (i + 1) p = z_ct i p + 1 := by
  show z_ct i p + _ = _
  rw [if_pos hp]
theorem z_ct_F' {p : Nat → Bool} {i : Nat} (hp : p i = false) : z_ct (i + 1) p = z_ct i p := by
  show z_ct i p + _ = _
  rw [if_neg (by rw [hp]; decide), Nat.add_zero]
/-- a list of bytes laid into a row -/
def z_PP (b : Nat → Int32) (L : List Nat) : Prop := ∀ k, k < L.length → b k = nI (L.getD k 0)
theorem z_PP_push {b : Nat → Int32} {L : List Nat} {x k : Nat} (h : z_PP b L) (hk : k = L.length) : z_PP (upd b k (nI x)) (L ++ [x]) := by
  intro i hi
  rw [List.length_append, List.length_singleton] at hi
  subst hk
  unfold upd
  by_cases e : i = L.length
  · subst e
    rw [if_pos rfl, List.getD_eq_getElem?_getD, List.getElem?_append_right (Nat.le_refl _), Nat.sub_self]
    rfl
  · rw [if_neg e, List.getD_eq_getElem?_getD, List.getElem?_append_left (by omega), ← List.getD_eq_getElem?_getD]
    exact h i (by omega)
/-- those of place p that are below c, spelled behind L -/
def z_sp1 (q : Nat → Nat) (p : Nat) : Nat → List Nat → List Nat
  | 0, L => L
  | c + 1, L => if q c = p then (if z_sp1 q p c L = [] then [] else z_sp1 q p c L ++ [if z_ct c (fun x => decide (q x = p)) = 0 then 62 else 61]) ++ [48 + c] else z_sp1 q p c L
def z_sp (n : Nat) (q : Nat → Nat) : Nat → List Nat
  | 0 => []
  | p + 1 => z_sp1 q p n (z_sp n q p)
theorem z_sp1_len {q : Nat → Nat} {p : Nat} {L : List Nat} : ∀ {c : Nat}, (z_sp1 q p c L).length = if L.length = 0 then 2 * z_ct c (fun x => decide (q x = p)) - 1 else L.length + 2 * z_ct c (fun x => decide (q x = p))
  | 0 => by
    show L.length = _
    split
    · rename_i h0
      rw [h0]; rfl
    · rfl
  | c + 1 => by
    have ih := z_sp1_len (q := q) (p := p) (L := L) (c := c)
    unfold z_sp1
    by_cases e : q c = p
    · rw [if_pos e, z_ct_T' (p := fun x => decide (q x = p)) (i := c) (decide_eq_true e)]
      by_cases e2 : z_sp1 q p c L = []
      · rw [if_pos e2]
        rw [e2] at ih
        simp only [List.length_nil] at ih
        simp only [List.nil_append, List.length_singleton]
        split at ih
        · rename_i h0
          rw [if_pos h0]
          omega
        · omega
      · rw [if_neg e2]
        have h3 : (z_sp1 q p c L).length ≠ 0 := fun q => e2 (List.eq_nil_of_length_eq_zero q)
        simp only [List.length_append, List.length_singleton]
        split at ih
        · rename_i h0
          rw [if_pos h0]
          omega
        · rename_i h0
          rw [if_neg h0]
          omega
    · rw [if_neg e, z_ct_F' (p := fun x => decide (q x = p)) (i := c) (decide_eq_false e)]
      exact ih
theorem z_sp_len {n : Nat} {q : Nat → Nat} (hn : 2 ≤ n) (h : z_RK n q) : ∀ {p : Nat}, p ≤ z_mx n q + 1 → (z_sp n q p).length = 2 * z_ct n (fun c => decide (q c < p)) - 1
  | 0, _ => by rw [z_ct_zero]; rfl
  | p + 1, hp => by
    have ih := z_sp_len hn h (p := p) (by omega)
    have hs := z_ct_split q p n
    have hpl := z_ct_place hn h (p := p) (by omega)
    show (z_sp1 q p n (z_sp n q p)).length = _
    rw [z_sp1_len, ih]
    split <;> omega
theorem z_sp_nil {n : Nat} {q : Nat → Nat} (hn : 2 ≤ n) (h : z_RK n q) {p : Nat} (hp : p ≤ z_mx n q + 1) : z_sp n q p = [] ↔ p = 0 := by
  constructor
  · intro e
    have h1 := z_sp_len hn h hp
    rw [e] at h1
    rcases Nat.eq_zero_or_pos p with q2 | q2
    · exact q2
    · have hs := z_ct_split q (p - 1) n
      rw [show p - 1 + 1 = p by omega] at hs
      have hpl := z_ct_place hn h (p := p - 1) (by omega)
      simp only [List.length_nil] at h1
      omega
  · intro e; subst e; rfl
theorem z_sp1_put {q : Nat → Nat} {p c : Nat} {L : List Nat} (h : q c = p) (hL : z_sp1 q p c L ≠ []) : z_sp1 q p (c + 1) L = z_sp1 q p c L ++ [if z_ct c (fun x => decide (q x = p)) = 0 then 62 else 61] ++ [48 + c] := by
  show (if q c = p then _ else _) = _
  rw [if_pos h, if_neg hL]
theorem z_sp1_put0 {q : Nat → Nat} {p c : Nat} {L : List Nat} (h : q c = p) (hL : z_sp1 q p c L = []) : z_sp1 q p (c + 1) L = [48 + c] := by
  show (if q c = p then _ else _) = _
  rw [if_pos h, if_pos hL]; rfl
theorem z_sp1_no {q : Nat → Nat} {p c : Nat} {L : List Nat} (h : ¬ q c = p) : z_sp1 q p (c + 1) L = z_sp1 q p c L := by
  show (if q c = p then _ else _) = _
  rw [if_neg h]
theorem z_sp1_ct0 {q : Nat → Nat} {p : Nat} {L : List Nat} : ∀ {c : Nat}, z_ct c (fun x => decide (q x = p)) = 0 → z_sp1 q p c L = L
  | 0, _ => rfl
  | c + 1, h => by
    by_cases e : q c = p
    · rw [z_ct_T' (p := fun x => decide (q x = p)) (i := c) (decide_eq_true e)] at h
      omega
    · rw [z_sp1_no e]
      rw [z_ct_F' (p := fun x => decide (q x = p)) (i := c) (decide_eq_false e)] at h
      exact z_sp1_ct0 h
/-- the text so far of a place p, with its sign told ahead: f 1, where none of p is told -/
def z_spq (q : Nat → Nat) (p c f : Nat) (L M : List Nat) : Prop := (f = 1 ∧ z_ct c (fun x => decide (q x = p)) = 0 ∧ M = L ++ (if L = [] then [] else [62])) ∨ (f = 0 ∧ 0 < z_ct c (fun x => decide (q x = p)) ∧ M = z_sp1 q p c L)
theorem z_spq_no {q : Nat → Nat} {p c f : Nat} {L M : List Nat} (h : z_spq q p c f L M) (hq : ¬ q c = p) : z_spq q p (c + 1) f L M := by
  have e := z_ct_F' (p := fun x => decide (q x = p)) (i := c) (decide_eq_false hq)
  rcases h with ⟨h1, h2, h3⟩ | ⟨h1, h2, h3⟩
  · exact Or.inl ⟨h1, by omega, h3⟩
  · exact Or.inr ⟨h1, by omega, by rw [z_sp1_no hq]; exact h3⟩
theorem z_spq_1 {q : Nat → Nat} {p c : Nat} {L M : List Nat} (h : z_spq q p c 1 L M) (hq : q c = p) : z_spq q p (c + 1) 0 L (M ++ [48 + c]) := by
  have e := z_ct_T' (p := fun x => decide (q x = p)) (i := c) (decide_eq_true hq)
  rcases h with ⟨h1, h2, h3⟩ | ⟨h1, h2, h3⟩
  · refine Or.inr ⟨rfl, by omega, ?_⟩
    have e1 := z_sp1_ct0 (L := L) h2
    by_cases eL : L = []
    · subst eL
      rw [z_sp1_put0 hq e1, h3]; rfl
    · rw [z_sp1_put hq (by rw [e1]; exact eL), e1, h3, if_neg eL, if_pos h2]
  · omega
theorem z_spq_0 {q : Nat → Nat} {p c : Nat} {L M : List Nat} (h : z_spq q p c 0 L M) (hq : q c = p) : z_spq q p (c + 1) 0 L (M ++ [61] ++ [48 + c]) := by
  have e := z_ct_T' (p := fun x => decide (q x = p)) (i := c) (decide_eq_true hq)
  rcases h with ⟨h1, h2, h3⟩ | ⟨h1, h2, h3⟩
  · omega
  · refine Or.inr ⟨rfl, by omega, ?_⟩
    have hne : z_sp1 q p c L ≠ [] := fun e0 => by
      have h4 := z_sp1_len (q := q) (p := p) (L := L) (c := c)
      rw [e0] at h4
      simp only [List.length_nil] at h4
      split at h4 <;> omega
    rw [z_sp1_put hq hne, h3, if_neg (by omega)]
