/-! more of sums, lists -/
theorem z_sf_0 {n ins c what b : Nat} {cn : Nat → Nat} {pl : Nat → Nat → Nat} (h : what = 0) : z_sf n ins cn pl c what b = cn b * z_bh n ins (pl b) c := by
  unfold z_sf
  rw [if_pos h]
theorem z_sf_1 {n ins c what b : Nat} {cn : Nat → Nat} {pl : Nat → Nat → Nat} (h : ¬ what = 0) (h2 : z_bh n ins (pl b) c = z_pc ins - 1) : z_sf n ins cn pl c what b = cn b := by
  unfold z_sf
  rw [if_neg h, if_pos h2]
theorem z_sf_2 {n ins c what b : Nat} {cn : Nat → Nat} {pl : Nat → Nat → Nat} (h : ¬ what = 0) (h2 : ¬ z_bh n ins (pl b) c = z_pc ins - 1) : z_sf n ins cn pl c what b = 0 := by
  unfold z_sf
  rw [if_neg h, if_neg h2]
def z_lz (k : Nat) : Int32 := if k = 0 then -nI 1 else nI (k - 1)
def z_LZ (lsz : Nat → Int32) (sz : Nat → Nat) : Prop := ∀ l, l < 4 → lsz l = z_lz (sz l) ∧ sz l ≤ 41
theorem z_in_L {v : Int64} {a m : Nat} (ha : a < 2 ^ 31) (hm : m < 2 ^ 31) (h : lN a ≤ v ∧ v ≤ lN m) : ∃ k : Nat, a ≤ k ∧ k ≤ m ∧ v = lN k := by
  obtain ⟨h1, h2⟩ := h
  rw [Int64.le_iff_toInt_le, pk_lT (by omega)] at h1 h2
  have e : v = lN v.toInt.toNat := Int64.toInt_inj.mp (by rw [pk_lT (by omega)]; omega)
  exact ⟨v.toInt.toNat, by omega, by omega, e⟩
theorem z_item {p : Int64} {x : Int32} {s : Nat} (hx : x = z_lz s) (hs : s ≤ 41) : (lN 0 ≤ p ∧ p ≤ (x - nI 1).toInt64) ↔ ∃ k : Nat, k + 1 < s ∧ p = lN k := by
  subst hx
  unfold z_lz
  rcases (by omega : s = 0 ∨ s = 1 ∨ 2 ≤ s) with h | h | h
  · subst h
    rw [if_pos rfl]
    exact ⟨fun q => absurd (Int64.le_trans q.1 q.2) (by decide +kernel), fun ⟨k, h1, _⟩ => by omega⟩
  · subst h
    rw [if_neg (by decide)]
    exact ⟨fun q => absurd (Int64.le_trans q.1 q.2) (by decide +kernel), fun ⟨k, h1, _⟩ => by omega⟩
  · rw [if_neg (by omega), pk_sub (by omega), nI_l (by omega)]
    constructor
    · intro q
      obtain ⟨k, _, h2, h3⟩ := z_in_L (by decide) (by omega) q
      exact ⟨k, by omega, h3⟩
    · rintro ⟨k, h1, rfl⟩
      rw [pk_lLE (by omega) (by omega), pk_lLE (by omega) (by omega)]
      omega
theorem z_lz_neg {s : Nat} (hs : s ≤ 41) : 0 ≤ z_lz s ↔ s ≠ 0 := by
  unfold z_lz
  by_cases h : s = 0
  · rw [if_pos h]
    exact ⟨fun q => absurd q (by decide +kernel), fun q => absurd h q⟩
  · rw [if_neg h]
    exact ⟨fun _ => h, fun _ => nI_pos' (by omega)⟩
theorem z_neg (p : Int32) : p < 0 ∨ ∃ q : Nat, q < 2 ^ 31 ∧ p = nI q := by
  by_cases h : p < 0
  · exact Or.inl h
  · obtain ⟨k, hk, e⟩ := nI_of h
    exact Or.inr ⟨k, hk, e⟩
/-- a proof's numbers -/
def z_pn (rm : Nat) (rw : Nat → Nat) (bar k : Nat) : Nat := if k = 0 then rm else if k ≤ rm then rw (k - 1) else bar
/-- the first m of them laid from place q of list l on -/
def z_lay (itm itm2 : Nat → Int64) (l q s m rm : Nat) (rw : Nat → Nat) (bar : Nat) : Prop := ∀ x, itm2 x = if 40 * l + q ≤ x ∧ x < 40 * l + q + m ∧ x + 1 < 40 * l + s then lN (z_pn rm rw bar (x - (40 * l + q))) else itm x
theorem z_lay_0 {itm : Nat → Int64} {l q s rm bar : Nat} {rw : Nat → Nat} : z_lay itm itm l q s 0 rm rw bar := fun x => by rw [if_neg (by omega)]
theorem z_lay_put {itm i1 : Nat → Int64} {l q s m rm bar v : Nat} {rw : Nat → Nat} (h : z_lay itm i1 l q s m rm rw bar) (hs : q + m + 1 < s) (hv : v = z_pn rm rw bar m) : z_lay itm (vp_updL i1 (40 * l + (q + m)) (lN v)) l q s (m + 1) rm rw bar := by
  intro x
  unfold vp_updL
  by_cases e : x = 40 * l + (q + m)
  · rw [if_pos e, if_pos (by omega), hv, e]
    congr 2
    omega
  · rw [if_neg e, h x]
    exact z_ifc (by omega)
theorem z_lay_no {itm i1 : Nat → Int64} {l q s m k rm bar : Nat} {rw : Nat → Nat} (h : z_lay itm i1 l q s m rm rw bar) (hs : s ≤ q + m + 1) (hk : m ≤ k) : z_lay itm i1 l q s k rm rw bar := by
  intro x
  rw [h x]
  exact z_ifc (by omega)
theorem z_lay_cast {itm i1 : Nat → Int64} {l q s m m2 rm bar : Nat} {rw : Nat → Nat} (e : m = m2) (h : z_lay itm i1 l q s m rm rw bar) : z_lay itm i1 l q s m2 rm rw bar := e ▸ h
theorem z_pn_0 {rm bar : Nat} {rw : Nat → Nat} : rm = z_pn rm rw bar 0 := rfl
theorem z_pn_k {rm bar k : Nat} {rw : Nat → Nat} (h : k < rm) : rw k = z_pn rm rw bar (k + 1) := by
  unfold z_pn
  rw [if_neg (by omega), if_pos (by omega), Nat.add_sub_cancel]
theorem z_pn_e {rm bar : Nat} {rw : Nat → Nat} : bar = z_pn rm rw bar (rm + 1) := by
  unfold z_pn
  rw [if_neg (by omega), if_neg (by omega)]
def z_lnkb (s : Nat) (F : Nat → Nat → Nat) (i j : Nat) : Bool := decide (i ≠ j) && (s.testBit i && (s.testBit j && decide (F j i < F i j)))
theorem z_lnkb_T {s : Nat} {F : Nat → Nat → Nat} {i j : Nat} (h : z_lnk s F i j) : z_lnkb s F i j = true := by
  obtain ⟨h1, h2, h3, h4⟩ := h
  unfold z_lnkb
  simp [h1, h2, h3, h4]
theorem z_lnkb_F {s : Nat} {F : Nat → Nat → Nat} {i j : Nat} (h : ¬ z_lnk s F i j) : z_lnkb s F i j = false := by
  cases e : z_lnkb s F i j with
  | false => rfl
  | true =>
    unfold z_lnkb at e
    simp at e
    exact absurd ⟨e.1, e.2.1, e.2.2.1, e.2.2.2⟩ h
theorem z_lnkb_ct {s c k : Nat} {F : Nat → Nat → Nat} {p : Prop} {v : Nat} (h : p) (hp : p → z_lnkb s F (k / 8) (k % 8) = true) (hc : v = z_ct k (fun k => z_lnkb s F (k / 8) (k % 8))) : v + 1 = z_ct (k + 1) (fun k => z_lnkb s F (k / 8) (k % 8)) := by
  rw [z_ct_T (p := fun k => z_lnkb s F (k / 8) (k % 8)) (hp h), hc]
