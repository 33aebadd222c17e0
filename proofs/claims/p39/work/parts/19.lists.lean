/-! the reference: lists, proofs, the image -/
/-! lists -/
def z_lz (k : Nat) : Int32 := if k = 0 then -nI 1 else nI (k - 1)
def z_LZ (lsz : Nat → Int32) (sz : Nat → Nat) : Prop := ∀ l, l < 4 → lsz l = z_lz (sz l) ∧ sz l ≤ 41
theorem z_in_L {v : Int64} {a m : Nat} (ha : a < 2 ^ 31) (hm : m < 2 ^ 31) (h : lN a ≤ v ∧ v ≤ lN m) : ∃ k : Nat, a ≤ k ∧ k ≤ m ∧ v = lN k := by
  obtain ⟨h1, h2⟩ := h
  rw [Int64.le_iff_toInt_le, pk_lT (by omega)] at h1 h2
  have e : v = lN v.toInt.toNat := Int64.toInt_inj.mp (by rw [pk_lT (by omega)]; omega)
  exact ⟨v.toInt.toNat, by omega, by omega, e⟩
theorem z_item {p : Int64} {x : Int32} {s : Nat} (hx : x = z_lz s) (hs : s ≤ 41) : (lN 0 ≤ p ∧ p ≤ (x - nI 1).toInt64) ↔ ∃ k : Nat, k + 1 < s ∧ p = lN k := by
  subst hx
  unfold z_lz
  rcases (by omega : s = 0 ∨ s = 1 ∨ 2 ≤ s) with h | h | h
  · subst h
    rw [if_pos rfl]
    exact ⟨fun q => absurd (Int64.le_trans q.1 q.2) (by decide +kernel), fun ⟨k, h1, _⟩ => by omega⟩
  · subst h
    rw [if_neg (by decide)]
    exact ⟨fun q => absurd (Int64.le_trans q.1 q.2) (by decide +kernel), fun ⟨k, h1, _⟩ => by omega⟩
  · rw [if_neg (by omega), pk_sub (by omega), nI_l (by omega)]
    constructor
    · intro q
      obtain ⟨k, _, h2, h3⟩ := z_in_L (by decide) (by omega) q
      exact ⟨k, by omega, h3⟩
    · rintro ⟨k, h1, rfl⟩
      rw [pk_lLE (by omega) (by omega), pk_lLE (by omega) (by omega)]
      omega
theorem z_lz_neg {s : Nat} (hs : s ≤ 41) : 0 ≤ z_lz s ↔ s ≠ 0 := by
  unfold z_lz
  by_cases h : s = 0
  · rw [if_pos h]
    exact ⟨fun q => absurd q (by decide +kernel), fun q => absurd h q⟩
  · rw [if_neg h]
    exact ⟨fun _ => h, fun _ => nI_pos' (by omega)⟩
theorem z_neg (p : Int32) : p < 0 ∨ ∃ q : Nat, q < 2 ^ 31 ∧ p = nI q := by
  by_cases h : p < 0
  · exact Or.inl h
  · obtain ⟨k, hk, e⟩ := nI_of h
    exact Or.inr ⟨k, hk, e⟩
/-- a proof's numbers -/
def z_pn (rm : Nat) (rw : Nat → Nat) (bar k : Nat) : Nat := if k = 0 then rm else if k ≤ rm then rw (k - 1) else bar
/-- the first m of them laid from place q of list l on -/
def z_lay (itm itm2 : Nat → Int64) (l q s m rm : Nat) (rw : Nat → Nat) (bar : Nat) : Prop := ∀ x, itm2 x = if 40 * l + q ≤ x ∧ x < 40 * l + q + m ∧ x + 1 < 40 * l + s then lN (z_pn rm rw bar (x - (40 * l + q))) else itm x
theorem z_lay_0 {itm : Nat → Int64} {l q s rm bar : Nat} {rw : Nat → Nat} : z_lay itm itm l q s 0 rm rw bar := fun x => by rw [if_neg (by omega)]
theorem z_lay_put {itm i1 : Nat → Int64} {l q s m rm bar v : Nat} {rw : Nat → Nat} (h : z_lay itm i1 l q s m rm rw bar) (hs : q + m + 1 < s) (hv : v = z_pn rm rw bar m) : z_lay itm (vp_updL i1 (40 * l + (q + m)) (lN v)) l q s (m + 1) rm rw bar := by
  intro x
  unfold vp_updL
  by_cases e : x = 40 * l + (q + m)
  · rw [if_pos e, if_pos (by omega), hv, e]
    congr 2
    omega
  · rw [if_neg e, h x]
    exact z_ifc (by omega)
theorem z_lay_no {itm i1 : Nat → Int64} {l q s m k rm bar : Nat} {rw : Nat → Nat} (h : z_lay itm i1 l q s m rm rw bar) (hs : s ≤ q + m + 1) (hk : m ≤ k) : z_lay itm i1 l q s k rm rw bar := by
  intro x
  rw [h x]
  exact z_ifc (by omega)
theorem z_lay_cast {itm i1 : Nat → Int64} {l q s m m2 rm bar : Nat} {rw : Nat → Nat} (e : m = m2) (h : z_lay itm i1 l q s m rm rw bar) : z_lay itm i1 l q s m2 rm rw bar := e ▸ h
theorem z_pn_0 {rm bar : Nat} {rw : Nat → Nat} : rm = z_pn rm rw bar 0 := rfl
theorem z_pn_k {rm bar k : Nat} {rw : Nat → Nat} (h : k < rm) : rw k = z_pn rm rw bar (k + 1) := by
  unfold z_pn
  rw [if_neg (by omega), if_pos (by omega), Nat.add_sub_cancel]
theorem z_pn_e {rm bar : Nat} {rw : Nat → Nat} : bar = z_pn rm rw bar (rm + 1) := by
  unfold z_pn
  rw [if_neg (by omega), if_neg (by omega)]
def z_lnkb (s : Nat) (F : Nat → Nat → Nat) (i j : Nat) : Bool := decide (i ≠ j) && (s.testBit i && (s.testBit j && decide (F j i < F i j)))
theorem z_lnkb_T {s : Nat} {F : Nat → Nat → Nat} {i j : Nat} (h : z_lnk s F i j) : z_lnkb s F i j = true := by
  obtain ⟨h1, h2, h3, h4⟩ := h
  unfold z_lnkb
  simp [h1, h2, h3, h4]
theorem z_lnkb_F {s : Nat} {F : Nat → Nat → Nat} {i j : Nat} (h : ¬ z_lnk s F i j) : z_lnkb s F i j = false := by
  cases e : z_lnkb s F i j with
  | false => rfl
  | true =>
    unfold z_lnkb at e
    simp at e
    exact absurd ⟨e.1, e.2.1, e.2.2.1, e.2.2.2⟩ h
theorem z_lnkb_ct {s c k : Nat} {F : Nat → Nat → Nat} {p : Prop} {v : Nat} (h : p) (hp : p → z_lnkb s F (k / 8) (k % 8) = true) (hc : v = z_ct k (fun k => z_lnkb s F (k / 8) (k % 8))) : v + 1 = z_ct (k + 1) (fun k => z_lnkb s F (k / 8) (k % 8)) := by
  rw [z_ct_T (p := fun k => z_lnkb s F (k / 8) (k % 8)) (hp h), hc]
theorem c_X6_isList (d : Nat) {g : Nat → Int32} {kept : Nat → Int32} {was : Nat → Int32} {isKept : Int32} {tape : Nat → Int32} {fed : Int32} {pos : Int32} {tlen : Int32} {flt : Int32} {ranking : Nat → Int32} {paper : Nat → Int32} {written : Int32} {pairs : Nat → Int64} {above : Nat → Int64} {below : Nat → Int64} {isDone : Nat → Int32} {dist : Nat → Int32} {rowv : Nat → Int32} {rowMany : Int32} {lsz : Nat → Int32} {itm : Nat → Int64} {weakAbove : Int64} {weakBelow : Int64} {l : Int32}  : z_CAL (d + 2) 218 [.int l] (MH g kept was isKept tape fed pos tlen flt ranking paper written pairs above below isDone dist rowv rowMany lsz itm weakAbove weakBelow) (fun r h2 => h2 = (MH g kept was isKept tape fed pos tlen flt ranking paper written pairs above below isDone dist rowv rowMany lsz itm weakAbove weakBelow) ∧ ((r = some (.int (nI 1)) ∧ (∃ q, q < 4 ∧ l = nI q)) ∨ (r = some (.int (nI 0)) ∧ (¬ ∃ q, q < 4 ∧ l = nI q)))) := by
  refine e_of2 (q := zmX6_isList) rfl rfl (fun R hR => ?_)
  refine e_steps 4 (σ' := (6, [(0, .int l)], [.long (lN 3), .long (lN 0), .long l.toInt64], (MH g kept was isKept tape fed pos tlen flt ranking paper written pairs above below isDone dist rowv rowMany lsz itm weakAbove weakBelow))) rfl ?_
  refine e_call (y := 129) (av := [.long l.toInt64, .long (lN 0), .long (lN 3)]) (rest := []) rfl (c_X6_isIn (d + 0) ) (fun r_6 h_6 p_6 => ?_)
  obtain ⟨rfl, o_6⟩ := p_6
  rcases o_6 with ⟨rfl, o_6⟩ | ⟨rfl, o_6⟩
  · skip
    obtain ⟨q0, hq0, eq0⟩ := z_in_nat (by omega) o_6
    refine e_steps 0 (σ' := (9, [(0, .int l)], [.int (nI 1)], (MH g kept was isKept tape fed pos tlen flt ranking paper written pairs above below isDone dist rowv rowMany lsz itm weakAbove weakBelow))) rfl ?_
    exact e_ret rfl (Or.inr rfl) (hR _ _ ⟨rfl, Or.inl ⟨rfl, (by exact ⟨q0, by omega, eq0⟩)⟩⟩)
  · skip
    refine e_steps 0 (σ' := (9, [(0, .int l)], [.int (nI 0)], (MH g kept was isKept tape fed pos tlen flt ranking paper written pairs above below isDone dist rowv rowMany lsz itm weakAbove weakBelow))) rfl ?_
    exact e_ret rfl (Or.inl rfl) (hR _ _ ⟨rfl, Or.inr ⟨rfl, (by rintro ⟨q, hq, e⟩; exact o_6 (by rw [e]; exact z_nat_in (by omega) (by omega)))⟩⟩)
theorem c_X6_isItem (d : Nat) {g : Nat → Int32} {kept : Nat → Int32} {was : Nat → Int32} {isKept : Int32} {tape : Nat → Int32} {fed : Int32} {pos : Int32} {tlen : Int32} {flt : Int32} {ranking : Nat → Int32} {paper : Nat → Int32} {written : Int32} {pairs : Nat → Int64} {above : Nat → Int64} {below : Nat → Int64} {isDone : Nat → Int32} {dist : Nat → Int32} {rowv : Nat → Int32} {rowMany : Int32} {lsz : Nat → Int32} {itm : Nat → Int64} {weakAbove : Int64} {weakBelow : Int64} {l : Nat} {p : Int64} {sz : Nat → Nat} (hz : z_LZ lsz sz) (hl : l < 4) : z_CAL (d + 2) 219 [.ref 0, .int (nI l), .long p] (MH g kept was isKept tape fed pos tlen flt ranking paper written pairs above below isDone dist rowv rowMany lsz itm weakAbove weakBelow) (fun r h2 => h2 = (MH g kept was isKept tape fed pos tlen flt ranking paper written pairs above below isDone dist rowv rowMany lsz itm weakAbove weakBelow) ∧ ((r = some (.int (nI 1)) ∧ (∃ x, x + 1 < sz l ∧ p = lN x)) ∨ (r = some (.int (nI 0)) ∧ (¬ ∃ x, x + 1 < sz l ∧ p = lN x)))) := by
  refine e_of2 (q := zmX6_isItem) rfl rfl (fun R hR => ?_)
  refine e_steps 5 (σ' := (7, [(0, .ref 0), (1, .int (nI l)), (2, .long p)], [.int (nI l), .ref 13, .long (lN 0), .long p], (MH g kept was isKept tape fed pos tlen flt ranking paper written pairs above below isDone dist rowv rowMany lsz itm weakAbove weakBelow))) rfl ?_
  refine e_ial (lsz l) rfl rfl (by first | assumption | omega | rfl | trivial) (by decide) (rfl) ?_
  refine e_steps 3 (σ' := (11, [(0, .ref 0), (1, .int (nI l)), (2, .long p)], [.long (((((lsz l)) - (nI 1))).toInt64), .long (lN 0), .long p], (MH g kept was isKept tape fed pos tlen flt ranking paper written pairs above below isDone dist rowv rowMany lsz itm weakAbove weakBelow))) rfl ?_
  refine e_call (y := 129) (av := [.long p, .long (lN 0), .long (((((lsz l)) - (nI 1))).toInt64)]) (rest := []) rfl (c_X6_isIn (d + 0) ) (fun r_11 h_11 p_11 => ?_)
  obtain ⟨rfl, o_11⟩ := p_11
  rcases o_11 with ⟨rfl, o_11⟩ | ⟨rfl, o_11⟩
  · skip
    refine e_steps 0 (σ' := (14, [(0, .ref 0), (1, .int (nI l)), (2, .long p)], [.int (nI 1)], (MH g kept was isKept tape fed pos tlen flt ranking paper written pairs above below isDone dist rowv rowMany lsz itm weakAbove weakBelow))) rfl ?_
    exact e_ret rfl (Or.inr rfl) (hR _ _ ⟨rfl, Or.inl ⟨rfl, (by exact (z_item (hz l hl).1 (hz l hl).2).mp o_11)⟩⟩)
  · skip
    refine e_steps 0 (σ' := (14, [(0, .ref 0), (1, .int (nI l)), (2, .long p)], [.int (nI 0)], (MH g kept was isKept tape fed pos tlen flt ranking paper written pairs above below isDone dist rowv rowMany lsz itm weakAbove weakBelow))) rfl ?_
    exact e_ret rfl (Or.inl rfl) (hR _ _ ⟨rfl, Or.inr ⟨rfl, (by exact fun q => o_11 ((z_item (hz l hl).1 (hz l hl).2).mpr q))⟩⟩)
theorem c_X6_isItem_N (d : Nat) {g : Nat → Int32} {kept : Nat → Int32} {was : Nat → Int32} {isKept : Int32} {tape : Nat → Int32} {fed : Int32} {pos : Int32} {tlen : Int32} {flt : Int32} {ranking : Nat → Int32} {paper : Nat → Int32} {written : Int32} {pairs : Nat → Int64} {above : Nat → Int64} {below : Nat → Int64} {isDone : Nat → Int32} {dist : Nat → Int32} {rowv : Nat → Int32} {rowMany : Int32} {lsz : Nat → Int32} {itm : Nat → Int64} {weakAbove : Int64} {weakBelow : Int64} {l : Nat} {p : Nat} {sz : Nat → Nat} (hz : z_LZ lsz sz) (hl : l < 4) (hp : p < 2 ^ 63) : z_CAL (d + 2) 219 [.ref 0, .int (nI l), .long (lN p)] (MH g kept was isKept tape fed pos tlen flt ranking paper written pairs above below isDone dist rowv rowMany lsz itm weakAbove weakBelow) (fun r h2 => h2 = (MH g kept was isKept tape fed pos tlen flt ranking paper written pairs above below isDone dist rowv rowMany lsz itm weakAbove weakBelow) ∧ ((r = some (.int (nI 1)) ∧ (p + 1 < sz l)) ∨ (r = some (.int (nI 0)) ∧ (¬ p + 1 < sz l)))) := by
  refine e_of2 (q := zmX6_isItem) rfl rfl (fun R hR => ?_)
  refine e_steps 5 (σ' := (7, [(0, .ref 0), (1, .int (nI l)), (2, .long (lN p))], [.int (nI l), .ref 13, .long (lN 0), .long (lN p)], (MH g kept was isKept tape fed pos tlen flt ranking paper written pairs above below isDone dist rowv rowMany lsz itm weakAbove weakBelow))) rfl ?_
  refine e_ial (lsz l) rfl rfl (by first | assumption | omega | rfl | trivial) (by decide) (rfl) ?_
  refine e_steps 3 (σ' := (11, [(0, .ref 0), (1, .int (nI l)), (2, .long (lN p))], [.long (((((lsz l)) - (nI 1))).toInt64), .long (lN 0), .long (lN p)], (MH g kept was isKept tape fed pos tlen flt ranking paper written pairs above below isDone dist rowv rowMany lsz itm weakAbove weakBelow))) rfl ?_
  refine e_call (y := 129) (av := [.long (lN p), .long (lN 0), .long (((((lsz l)) - (nI 1))).toInt64)]) (rest := []) rfl (c_X6_isIn (d + 0) ) (fun r_11 h_11 p_11 => ?_)
  obtain ⟨rfl, o_11⟩ := p_11
  rcases o_11 with ⟨rfl, o_11⟩ | ⟨rfl, o_11⟩
  · skip
    refine e_steps 0 (σ' := (14, [(0, .ref 0), (1, .int (nI l)), (2, .long (lN p))], [.int (nI 1)], (MH g kept was isKept tape fed pos tlen flt ranking paper written pairs above below isDone dist rowv rowMany lsz itm weakAbove weakBelow))) rfl ?_
    exact e_ret rfl (Or.inr rfl) (hR _ _ ⟨rfl, Or.inl ⟨rfl, (by obtain ⟨x, hx, e⟩ := (z_item (hz l hl).1 (hz l hl).2).mp o_11; have h41 := (hz l hl).2; rw [pk_lEQ hp (by omega)] at e; omega)⟩⟩)
  · skip
    refine e_steps 0 (σ' := (14, [(0, .ref 0), (1, .int (nI l)), (2, .long (lN p))], [.int (nI 0)], (MH g kept was isKept tape fed pos tlen flt ranking paper written pairs above below isDone dist rowv rowMany lsz itm weakAbove weakBelow))) rfl ?_
    exact e_ret rfl (Or.inl rfl) (hR _ _ ⟨rfl, Or.inr ⟨rfl, (by exact fun q => o_11 ((z_item (hz l hl).1 (hz l hl).2).mpr ⟨p, q, rfl⟩))⟩⟩)
theorem c_X6_wrong (d : Nat) {g : Nat → Int32} {kept : Nat → Int32} {was : Nat → Int32} {isKept : Int32} {tape : Nat → Int32} {fed : Int32} {pos : Int32} {tlen : Int32} {flt : Int32} {ranking : Nat → Int32} {paper : Nat → Int32} {written : Int32} {pairs : Nat → Int64} {above : Nat → Int64} {below : Nat → Int64} {isDone : Nat → Int32} {dist : Nat → Int32} {rowv : Nat → Int32} {rowMany : Int32} {lsz : Nat → Int32} {itm : Nat → Int64} {weakAbove : Int64} {weakBelow : Int64} {l : Int32} {i : Int32} {j : Int32} {n : Nat} {outs : Nat} {bm : Nat} {ms : Nat} {dr : Nat → Nat} {cn : Nat → Nat} {pl : Nat → Nat → Nat} (hG : z_GI g n outs bm ms dr cn pl) : z_CAL (d + 4) 220 [.ref 0, .int l, .int i, .int j] (MH g kept was isKept tape fed pos tlen flt ranking paper written pairs above below isDone dist rowv rowMany lsz itm weakAbove weakBelow) (fun r h2 => h2 = (MH g kept was isKept tape fed pos tlen flt ranking paper written pairs above below isDone dist rowv rowMany lsz itm weakAbove weakBelow) ∧ ((∃ (a : Nat) (b : Nat) (q : Nat), r = some (.int (nI 0)) ∧ (a < n ∧ b < n ∧ a ≠ b ∧ i = nI a ∧ j = nI b ∧ q < 4 ∧ l = nI q ∧ ((z_dif (2 ^ n - 1) outs).testBit a = true ∧ (z_dif (2 ^ n - 1) outs).testBit b = true))) ∨ (∃ (a : Nat) (b : Nat) (q : Nat), r = some (.int ((-nI 3))) ∧ (a < n ∧ b < n ∧ a ≠ b ∧ i = nI a ∧ j = nI b ∧ q < 4 ∧ l = nI q ∧ ¬ ((z_dif (2 ^ n - 1) outs).testBit a = true ∧ (z_dif (2 ^ n - 1) outs).testBit b = true))) ∨ (r = some (.int ((-nI 1))) ∧ (¬ ((∃ a b, a < n ∧ b < n ∧ a ≠ b ∧ i = nI a ∧ j = nI b) ∧ ∃ q, q < 4 ∧ l = nI q))))) := by
  refine e_of2 (q := zmX6_wrong) rfl rfl (fun R hR => ?_)
  obtain ⟨⟨hn0, hn2, hn8⟩, ⟨ho0, ho8, hin⟩, ⟨hb0, hb40⟩, ⟨hm0, hm4⟩, ⟨hdr, hdl, hdc⟩, hcn, hpl⟩ := id hG; have hp8 := z_p2 hn8; have ho256 : outs < 256 := (by omega); have hi256 : z_dif (2 ^ n - 1) outs < 256 := (by have := z_dif_le (s := 2 ^ n - 1) (t := outs); omega)
  refine e_steps 3 (σ' := (3, [(0, .ref 0), (1, .int l), (2, .int i), (3, .int j)], [.int j, .int i, .ref 0], (MH g kept was isKept tape fed pos tlen flt ranking paper written pairs above below isDone dist rowv rowMany lsz itm weakAbove weakBelow))) rfl ?_
  refine e_call (y := 136) (av := [.ref 0, .int i, .int j]) (rest := []) rfl (c_X6_areTwo (d + 0) (n := n) (outs := outs) (bm := bm) (ms := ms) (dr := dr) (cn := cn) (pl := pl) (by first | assumption | omega | rfl | trivial)) (fun r_3 h_3 p_3 => ?_)
  obtain ⟨rfl, o_3⟩ := p_3
  rcases o_3 with ⟨rfl, o_3⟩ | ⟨rfl, o_3⟩
  · skip
    obtain ⟨a_3, b_3, ha_3, hb_3, hab_3, ea_3, eb_3⟩ := o_3
    subst ea_3
    subst eb_3
    refine e_steps 2 (σ' := (10, [(0, .ref 0), (1, .int l), (2, .int (nI a_3)), (3, .int (nI b_3))], [.int l], (MH g kept was isKept tape fed pos tlen flt ranking paper written pairs above below isDone dist rowv rowMany lsz itm weakAbove weakBelow))) rfl ?_
    refine e_call (y := 218) (av := [.int l]) (rest := []) rfl (c_X6_isList (d + 1) ) (fun r_10 h_10 p_10 => ?_)
    obtain ⟨rfl, o_10⟩ := p_10
    rcases o_10 with ⟨rfl, o_10⟩ | ⟨rfl, o_10⟩
    · skip
      obtain ⟨q_10, hq_10, eq_10⟩ := o_10
      subst eq_10
      refine e_steps 4 (σ' := (21, [(0, .ref 0), (1, .int (nI q_10)), (2, .int (nI a_3)), (3, .int (nI b_3))], [.int (nI b_3), .int (nI a_3), .ref 0], (MH g kept was isKept tape fed pos tlen flt ranking paper written pairs above below isDone dist rowv rowMany lsz itm weakAbove weakBelow))) rfl ?_
      refine e_call (y := 137) (av := [.ref 0, .int (nI a_3), .int (nI b_3)]) (rest := []) rfl (c_X6_areIn (d + 0) (n := n) (outs := outs) (bm := bm) (ms := ms) (dr := dr) (cn := cn) (pl := pl) (by first | assumption | omega | rfl | trivial) (by first | assumption | omega | rfl | trivial) (by first | assumption | omega | rfl | trivial)) (fun r_21 h_21 p_21 => ?_)
      obtain ⟨rfl, o_21⟩ := p_21
      rcases o_21 with ⟨rfl, o_21⟩ | ⟨rfl, o_21⟩
      · skip
        refine e_steps 3 (σ' := (33, [(0, .ref 0), (1, .int (nI q_10)), (2, .int (nI a_3)), (3, .int (nI b_3))], [.int (nI 0)], (MH g kept was isKept tape fed pos tlen flt ranking paper written pairs above below isDone dist rowv rowMany lsz itm weakAbove weakBelow))) rfl ?_
        exact e_ret rfl (trivial) (hR _ _ ⟨rfl, (by first | exact Or.inl ⟨_, _, _, rfl, ha_3, hb_3, hab_3, rfl, rfl, hq_10, rfl, o_21⟩ | exact Or.inr (Or.inl ⟨_, _, _, rfl, ha_3, hb_3, hab_3, rfl, rfl, hq_10, rfl, o_21⟩) | exact Or.inr (Or.inr ⟨rfl, fun q => o_3 q.1⟩) | exact Or.inr (Or.inr ⟨rfl, fun q => o_10 q.2⟩))⟩)
      · skip
        refine e_steps 2 (σ' := (33, [(0, .ref 0), (1, .int (nI q_10)), (2, .int (nI a_3)), (3, .int (nI b_3))], [.int ((-nI 3))], (MH g kept was isKept tape fed pos tlen flt ranking paper written pairs above below isDone dist rowv rowMany lsz itm weakAbove weakBelow))) rfl ?_
        exact e_ret rfl (trivial) (hR _ _ ⟨rfl, (by first | exact Or.inl ⟨_, _, _, rfl, ha_3, hb_3, hab_3, rfl, rfl, hq_10, rfl, o_21⟩ | exact Or.inr (Or.inl ⟨_, _, _, rfl, ha_3, hb_3, hab_3, rfl, rfl, hq_10, rfl, o_21⟩) | exact Or.inr (Or.inr ⟨rfl, fun q => o_3 q.1⟩) | exact Or.inr (Or.inr ⟨rfl, fun q => o_10 q.2⟩))⟩)
    · skip
      refine e_steps 2 (σ' := (17, [(0, .ref 0), (1, .int l), (2, .int (nI a_3)), (3, .int (nI b_3))], [.int ((-nI 1))], (MH g kept was isKept tape fed pos tlen flt ranking paper written pairs above below isDone dist rowv rowMany lsz itm weakAbove weakBelow))) rfl ?_
      exact e_ret rfl (trivial) (hR _ _ ⟨rfl, (by first | exact Or.inr (Or.inr ⟨rfl, fun q => o_3 q.1⟩) | exact Or.inr (Or.inr ⟨rfl, fun q => o_10 q.2⟩))⟩)
  · skip
    refine e_steps 2 (σ' := (17, [(0, .ref 0), (1, .int l), (2, .int i), (3, .int j)], [.int ((-nI 1))], (MH g kept was isKept tape fed pos tlen flt ranking paper written pairs above below isDone dist rowv rowMany lsz itm weakAbove weakBelow))) rfl ?_
    exact e_ret rfl (trivial) (hR _ _ ⟨rfl, (by exact Or.inr (Or.inr ⟨rfl, fun q => o_3 q.1⟩))⟩)
theorem c_X6_lays (d : Nat) {g : Nat → Int32} {kept : Nat → Int32} {was : Nat → Int32} {isKept : Int32} {tape : Nat → Int32} {fed : Int32} {pos : Int32} {tlen : Int32} {flt : Int32} {ranking : Nat → Int32} {paper : Nat → Int32} {written : Int32} {pairs : Nat → Int64} {above : Nat → Int64} {below : Nat → Int64} {isDone : Nat → Int32} {dist : Nat → Int32} {rowv : Nat → Int32} {rowMany : Int32} {lsz : Nat → Int32} {itm : Nat → Int64} {weakAbove : Int64} {weakBelow : Int64} {l : Nat} {p : Int64} {v : Int64} {sz : Nat → Nat} (hz : z_LZ lsz sz) (hl : l < 4) : z_CAL (d + 3) 221 [.ref 0, .int (nI l), .long p, .long v] (MH g kept was isKept tape fed pos tlen flt ranking paper written pairs above below isDone dist rowv rowMany lsz itm weakAbove weakBelow) (fun r h2 => ∃ (itm2 : Nat → Int64), h2 = (MH g kept was isKept tape fed pos tlen flt ranking paper written pairs above below isDone dist rowv rowMany lsz itm2 weakAbove weakBelow) ∧ ((r = some (.int (nI 1)) ∧ (∃ x, x + 1 < sz l ∧ p = lN x ∧ itm2 = vp_updL itm (40 * l + x) v)) ∨ (r = some (.int (nI 0)) ∧ ((¬ ∃ x, x + 1 < sz l ∧ p = lN x) ∧ itm2 = itm)))) := by
  refine e_of2 (q := zmX6_lays) rfl rfl (fun R hR => ?_)
  have h41 := (hz l hl).2
  refine e_steps 3 (σ' := (3, [(0, .ref 0), (1, .int (nI l)), (2, .long p), (4, .long v)], [.long p, .int (nI l), .ref 0], (MH g kept was isKept tape fed pos tlen flt ranking paper written pairs above below isDone dist rowv rowMany lsz itm weakAbove weakBelow))) rfl ?_
  refine e_call (y := 219) (av := [.ref 0, .int (nI l), .long p]) (rest := []) rfl (c_X6_isItem (d + 0) (sz := sz) (by first | assumption | omega | rfl | trivial) (by first | assumption | omega | rfl | trivial)) (fun r_3 h_3 p_3 => ?_)
  obtain ⟨rfl, o_3⟩ := p_3
  rcases o_3 with ⟨rfl, o_3⟩ | ⟨rfl, o_3⟩
  · skip
    obtain ⟨x_3, hx_3, ex_3⟩ := o_3
    subst ex_3
    refine e_steps 5 (σ' := (18, [(0, .ref 0), (1, .int (nI l)), (2, .long (lN x_3)), (4, .long v)], [.int (nI l), .int (nI 40), .ref 14], (MH g kept was isKept tape fed pos tlen flt ranking paper written pairs above below isDone dist rowv rowMany lsz itm weakAbove weakBelow))) rfl ?_
    refine e_mul (40 * l) rfl (by first | rfl | omega | simp) ?_
    refine e_steps 1 (σ' := (20, [(0, .ref 0), (1, .int (nI l)), (2, .long (lN x_3)), (4, .long v)], [.long (lN x_3), .int (nI (40 * l)), .ref 14], (MH g kept was isKept tape fed pos tlen flt ranking paper written pairs above below isDone dist rowv rowMany lsz itm weakAbove weakBelow))) rfl ?_
    refine e_l2i rfl ?_
    refine e_steps 0 (σ' := (21, [(0, .ref 0), (1, .int (nI l)), (2, .long (lN x_3)), (4, .long v)], [.int (nI x_3), .int (nI (40 * l)), .ref 14], (MH g kept was isKept tape fed pos tlen flt ranking paper written pairs above below isDone dist rowv rowMany lsz itm weakAbove weakBelow))) rfl ?_
    refine e_add (40 * l + x_3) rfl (by first | rfl | omega) ?_
    refine e_steps 1 (σ' := (24, [(0, .ref 0), (1, .int (nI l)), (2, .long (lN x_3)), (4, .long v)], [.long v, .int (nI (40 * l + x_3)), .ref 14], (MH g kept was isKept tape fed pos tlen flt ranking paper written pairs above below isDone dist rowv rowMany lsz itm weakAbove weakBelow))) rfl ?_
    refine e_las (MH g kept was isKept tape fed pos tlen flt ranking paper written pairs above below isDone dist rowv rowMany lsz (vp_updL itm (40 * l + x_3) v) weakAbove weakBelow) rfl rfl (by first | assumption | omega | rfl | trivial) (by decide) rfl ?_
    refine e_steps 1 (σ' := (26, [(0, .ref 0), (1, .int (nI l)), (2, .long (lN x_3)), (4, .long v)], [.int (nI 1)], (MH g kept was isKept tape fed pos tlen flt ranking paper written pairs above below isDone dist rowv rowMany lsz (vp_updL itm (40 * l + x_3) v) weakAbove weakBelow))) rfl ?_
    exact e_ret rfl (Or.inr rfl) (hR _ _ ⟨vp_updL itm (40 * l + x_3) v, rfl, Or.inl ⟨rfl, (by exact ⟨_, hx_3, rfl, rfl⟩)⟩⟩)
  · skip
    refine e_steps 2 (σ' := (10, [(0, .ref 0), (1, .int (nI l)), (2, .long p), (4, .long v)], [.int (nI 0)], (MH g kept was isKept tape fed pos tlen flt ranking paper written pairs above below isDone dist rowv rowMany lsz itm weakAbove weakBelow))) rfl ?_
    exact e_ret rfl (Or.inl rfl) (hR _ _ ⟨itm, rfl, Or.inr ⟨rfl, (by exact ⟨o_3, rfl⟩)⟩⟩)
theorem c_X6_lays_N (d : Nat) {g : Nat → Int32} {kept : Nat → Int32} {was : Nat → Int32} {isKept : Int32} {tape : Nat → Int32} {fed : Int32} {pos : Int32} {tlen : Int32} {flt : Int32} {ranking : Nat → Int32} {paper : Nat → Int32} {written : Int32} {pairs : Nat → Int64} {above : Nat → Int64} {below : Nat → Int64} {isDone : Nat → Int32} {dist : Nat → Int32} {rowv : Nat → Int32} {rowMany : Int32} {lsz : Nat → Int32} {itm : Nat → Int64} {weakAbove : Int64} {weakBelow : Int64} {l : Nat} {p : Nat} {v : Int64} {sz : Nat → Nat} (hz : z_LZ lsz sz) (hl : l < 4) (hp : p < 2 ^ 63) : z_CAL (d + 3) 221 [.ref 0, .int (nI l), .long (lN p), .long v] (MH g kept was isKept tape fed pos tlen flt ranking paper written pairs above below isDone dist rowv rowMany lsz itm weakAbove weakBelow) (fun r h2 => ∃ (itm2 : Nat → Int64), h2 = (MH g kept was isKept tape fed pos tlen flt ranking paper written pairs above below isDone dist rowv rowMany lsz itm2 weakAbove weakBelow) ∧ ((r = some (.int (nI 1)) ∧ (p + 1 < sz l ∧ itm2 = vp_updL itm (40 * l + p) v)) ∨ (r = some (.int (nI 0)) ∧ (¬ p + 1 < sz l ∧ itm2 = itm)))) := by
  refine e_of2 (q := zmX6_lays) rfl rfl (fun R hR => ?_)
  have h41 := (hz l hl).2
  refine e_steps 3 (σ' := (3, [(0, .ref 0), (1, .int (nI l)), (2, .long (lN p)), (4, .long v)], [.long (lN p), .int (nI l), .ref 0], (MH g kept was isKept tape fed pos tlen flt ranking paper written pairs above below isDone dist rowv rowMany lsz itm weakAbove weakBelow))) rfl ?_
  refine e_call (y := 219) (av := [.ref 0, .int (nI l), .long (lN p)]) (rest := []) rfl (c_X6_isItem_N (d + 0) (sz := sz) (by first | assumption | omega | rfl | trivial) (by first | assumption | omega | rfl | trivial) (by first | assumption | omega | rfl | trivial)) (fun r_3 h_3 p_3 => ?_)
  obtain ⟨rfl, o_3⟩ := p_3
  rcases o_3 with ⟨rfl, o_3⟩ | ⟨rfl, o_3⟩
  · skip
    refine e_steps 5 (σ' := (18, [(0, .ref 0), (1, .int (nI l)), (2, .long (lN p)), (4, .long v)], [.int (nI l), .int (nI 40), .ref 14], (MH g kept was isKept tape fed pos tlen flt ranking paper written pairs above below isDone dist rowv rowMany lsz itm weakAbove weakBelow))) rfl ?_
    refine e_mul (40 * l) rfl (by first | rfl | omega | simp) ?_
    refine e_steps 1 (σ' := (20, [(0, .ref 0), (1, .int (nI l)), (2, .long (lN p)), (4, .long v)], [.long (lN p), .int (nI (40 * l)), .ref 14], (MH g kept was isKept tape fed pos tlen flt ranking paper written pairs above below isDone dist rowv rowMany lsz itm weakAbove weakBelow))) rfl ?_
    refine e_l2i rfl ?_
    refine e_steps 0 (σ' := (21, [(0, .ref 0), (1, .int (nI l)), (2, .long (lN p)), (4, .long v)], [.int (nI p), .int (nI (40 * l)), .ref 14], (MH g kept was isKept tape fed pos tlen flt ranking paper written pairs above below isDone dist rowv rowMany lsz itm weakAbove weakBelow))) rfl ?_
    refine e_add (40 * l + p) rfl (by first | rfl | omega) ?_
    refine e_steps 1 (σ' := (24, [(0, .ref 0), (1, .int (nI l)), (2, .long (lN p)), (4, .long v)], [.long v, .int (nI (40 * l + p)), .ref 14], (MH g kept was isKept tape fed pos tlen flt ranking paper written pairs above below isDone dist rowv rowMany lsz itm weakAbove weakBelow))) rfl ?_
    refine e_las (MH g kept was isKept tape fed pos tlen flt ranking paper written pairs above below isDone dist rowv rowMany lsz (vp_updL itm (40 * l + p) v) weakAbove weakBelow) rfl rfl (by first | assumption | omega | rfl | trivial) (by decide) rfl ?_
    refine e_steps 1 (σ' := (26, [(0, .ref 0), (1, .int (nI l)), (2, .long (lN p)), (4, .long v)], [.int (nI 1)], (MH g kept was isKept tape fed pos tlen flt ranking paper written pairs above below isDone dist rowv rowMany lsz (vp_updL itm (40 * l + p) v) weakAbove weakBelow))) rfl ?_
    exact e_ret rfl (Or.inr rfl) (hR _ _ ⟨vp_updL itm (40 * l + p) v, rfl, Or.inl ⟨rfl, (by exact ⟨o_3, rfl⟩)⟩⟩)
  · skip
    refine e_steps 2 (σ' := (10, [(0, .ref 0), (1, .int (nI l)), (2, .long (lN p)), (4, .long v)], [.int (nI 0)], (MH g kept was isKept tape fed pos tlen flt ranking paper written pairs above below isDone dist rowv rowMany lsz itm weakAbove weakBelow))) rfl ?_
    exact e_ret rfl (Or.inl rfl) (hR _ _ ⟨itm, rfl, Or.inr ⟨rfl, (by exact ⟨o_3, rfl⟩)⟩⟩)
theorem c_X6_laid_neg (d : Nat) {g : Nat → Int32} {kept : Nat → Int32} {was : Nat → Int32} {isKept : Int32} {tape : Nat → Int32} {fed : Int32} {pos : Int32} {tlen : Int32} {flt : Int32} {ranking : Nat → Int32} {paper : Nat → Int32} {written : Int32} {pairs : Nat → Int64} {above : Nat → Int64} {below : Nat → Int64} {isDone : Nat → Int32} {dist : Nat → Int32} {rowv : Nat → Int32} {rm : Nat} {lsz : Nat → Int32} {itm : Nat → Int64} {weakAbove : Int64} {weakBelow : Int64} {l : Nat} {p : Int32} {bar : Nat} {sz : Nat → Nat} (hz : z_LZ lsz sz) (hl : l < 4) (hrm : rm ≤ 8) (hp : p < 0) : z_CAL (d + 4) 222 [.ref 0, .int (nI l), .int p, .int (nI bar)] (MH g kept was isKept tape fed pos tlen flt ranking paper written pairs above below isDone dist rowv (nI rm) lsz itm weakAbove weakBelow) (fun r h2 => r = some (.int ((-nI 13))) ∧ h2 = (MH g kept was isKept tape fed pos tlen flt ranking paper written pairs above below isDone dist rowv (nI rm) lsz itm weakAbove weakBelow)) := by
  refine e_of2 (q := zmX6_laid) rfl rfl (fun R hR => ?_)
  refine e_steps 1 (σ' := (1, [(0, .ref 0), (1, .int (nI l)), (2, .int p), (3, .int (nI bar))], [.int p], (MH g kept was isKept tape fed pos tlen flt ranking paper written pairs above below isDone dist rowv (nI rm) lsz itm weakAbove weakBelow))) rfl ?_
  refine e_ifT (c := p < 0) rfl (by exact hp) ?_
  refine e_steps 4 (σ' := (29, [(5, .int (nI 0)), (4, .int (nI 0)), (0, .ref 0), (1, .int (nI l)), (2, .int p), (3, .int (nI bar))], [], (MH g kept was isKept tape fed pos tlen flt ranking paper written pairs above below isDone dist rowv (nI rm) lsz itm weakAbove weakBelow))) rfl ?_
  have loop_29 : ∀ (z_29 : Nat) (isv : Nat) (k : Nat), 8 - k < z_29 → (isv = 0 ∧ k ≤ 8) → z_EV (d + 3) zmX6_laid R (29, [(0, .ref 0), (1, .int (nI l)), (2, .int p), (3, .int (nI bar)), (4, .int (nI isv)), (5, .int (nI k))], [], (MH g kept was isKept tape fed pos tlen flt ranking paper written pairs above below isDone dist rowv (nI rm) lsz itm weakAbove weakBelow)) := by
    intro z_29
    induction z_29 with
    | zero => intro isv k hm_29 _; exact absurd hm_29 (Nat.not_lt_zero _)
    | succ z_29 ih_29 =>
      intro isv k hm_29 hi_29
      obtain ⟨l1, l1b⟩ := hi_29
      refine e_steps 3 (σ' := (35, [(0, .ref 0), (1, .int (nI l)), (2, .int p), (3, .int (nI bar)), (4, .int (nI isv)), (5, .int (nI k))], [.int (nI rm), .int (nI k)], (MH g kept was isKept tape fed pos tlen flt ranking paper written pairs above below isDone dist rowv (nI rm) lsz itm weakAbove weakBelow))) rfl ?_
      refine e_if (c := nI rm ≤ nI k) rfl (fun c_35 => ?_) (fun c_35 => ?_)
      · skip
        rw [nI_leI (by omega) (by omega)] at c_35
        refine e_steps 1 (σ' := (74, [(0, .ref 0), (1, .int (nI l)), (2, .int p), (3, .int (nI bar)), (4, .int (nI isv)), (5, .int (nI k))], [.int (nI isv)], (MH g kept was isKept tape fed pos tlen flt ranking paper written pairs above below isDone dist rowv (nI rm) lsz itm weakAbove weakBelow))) rfl ?_
        refine e_if (c := nI isv = 0) rfl (fun c_74 => ?_) (fun c_74 => ?_)
        · skip
          rw [z0_eq (by omega)] at c_74
          refine e_steps 5 (σ' := (120, [(4, .int (nI 0)), (0, .ref 0), (1, .int (nI l)), (2, .int p), (3, .int (nI bar)), (5, .int (nI k))], [.int ((-nI 13))], (MH g kept was isKept tape fed pos tlen flt ranking paper written pairs above below isDone dist rowv (nI rm) lsz itm weakAbove weakBelow))) rfl ?_
          exact e_ret rfl (trivial) (hR _ _ ⟨(by rfl), rfl⟩)
        · skip
          rw [z0_eq (by omega)] at c_74
          exact absurd l1 c_74
      · skip
        rw [nI_leI (by omega) (by omega)] at c_35
        refine e_steps 1 (σ' := (40, [(0, .ref 0), (1, .int (nI l)), (2, .int p), (3, .int (nI bar)), (4, .int (nI isv)), (5, .int (nI k))], [.int (nI isv)], (MH g kept was isKept tape fed pos tlen flt ranking paper written pairs above below isDone dist rowv (nI rm) lsz itm weakAbove weakBelow))) rfl ?_
        refine e_if (c := nI isv = 0) rfl (fun c_40 => ?_) (fun c_40 => ?_)
        · skip
          rw [z0_eq (by omega)] at c_40
          refine e_steps 1 (σ' := (74, [(0, .ref 0), (1, .int (nI l)), (2, .int p), (3, .int (nI bar)), (4, .int (nI isv)), (5, .int (nI k))], [.int (nI isv)], (MH g kept was isKept tape fed pos tlen flt ranking paper written pairs above below isDone dist rowv (nI rm) lsz itm weakAbove weakBelow))) rfl ?_
          refine e_if (c := nI isv = 0) rfl (fun c_74 => ?_) (fun c_74 => ?_)
          · skip
            rw [z0_eq (by omega)] at c_74
            refine e_steps 5 (σ' := (120, [(4, .int (nI 0)), (0, .ref 0), (1, .int (nI l)), (2, .int p), (3, .int (nI bar)), (5, .int (nI k))], [.int ((-nI 13))], (MH g kept was isKept tape fed pos tlen flt ranking paper written pairs above below isDone dist rowv (nI rm) lsz itm weakAbove weakBelow))) rfl ?_
            exact e_ret rfl (trivial) (hR _ _ ⟨(by rfl), rfl⟩)
          · skip
            rw [z0_eq (by omega)] at c_74
            exact absurd c_40 c_74
        · skip
          rw [z0_eq (by omega)] at c_40
          exact absurd l1 c_40
  refine e_sub [2, 3, 4, 5, 1, 0] rfl ?_
  exact loop_29 _ 0 0 (Nat.lt_succ_self _) (by exact ⟨rfl, by omega⟩)
theorem c_X6_laid_N (d : Nat) {g : Nat → Int32} {kept : Nat → Int32} {was : Nat → Int32} {isKept : Int32} {tape : Nat → Int32} {fed : Int32} {pos : Int32} {tlen : Int32} {flt : Int32} {ranking : Nat → Int32} {paper : Nat → Int32} {written : Int32} {pairs : Nat → Int64} {above : Nat → Int64} {below : Nat → Int64} {isDone : Nat → Int32} {dist : Nat → Int32} {rowv : Nat → Int32} {rm : Nat} {lsz : Nat → Int32} {itm : Nat → Int64} {weakAbove : Int64} {weakBelow : Int64} {l : Nat} {p : Nat} {bar : Nat} {sz : Nat → Nat} {rw : Nat → Nat} (hz : z_LZ lsz sz) (hl : l < 4) (hr : ∀ k, k < rm → rowv k = nI (rw k) ∧ rw k < 256) (hrm : rm ≤ 8) (hbar : bar < 256) (hp : p < 2 ^ 31) : z_CAL (d + 4) 222 [.ref 0, .int (nI l), .int (nI p), .int (nI bar)] (MH g kept was isKept tape fed pos tlen flt ranking paper written pairs above below isDone dist rowv (nI rm) lsz itm weakAbove weakBelow) (fun r h2 => ∃ (itm2 : Nat → Int64) (v : Int32), r = some (.int v) ∧ h2 = (MH g kept was isKept tape fed pos tlen flt ranking paper written pairs above below isDone dist rowv (nI rm) lsz itm2 weakAbove weakBelow) ∧ (z_lay itm itm2 l p (sz l) (rm + 2) rm rw bar ∧ v = if p + rm + 2 < sz l then nI (rm + 2) else -nI 13)) := by
  refine e_of2 (q := zmX6_laid) rfl rfl (fun R hR => ?_)
  have h41 := (hz l hl).2
  refine e_steps 1 (σ' := (1, [(0, .ref 0), (1, .int (nI l)), (2, .int (nI p)), (3, .int (nI bar))], [.int (nI p)], (MH g kept was isKept tape fed pos tlen flt ranking paper written pairs above below isDone dist rowv (nI rm) lsz itm weakAbove weakBelow))) rfl ?_
  refine e_ifF (c := nI p < 0) rfl (nI_pos (by omega)) ?_
  refine e_steps 3 (σ' := (7, [(0, .ref 0), (1, .int (nI l)), (2, .int (nI p)), (3, .int (nI bar))], [.int (nI p), .int (nI l), .ref 0], (MH g kept was isKept tape fed pos tlen flt ranking paper written pairs above below isDone dist rowv (nI rm) lsz itm weakAbove weakBelow))) rfl ?_
  refine e_i2l rfl (by omega) ?_
  refine e_steps 2 (σ' := (12, [(0, .ref 0), (1, .int (nI l)), (2, .int (nI p)), (3, .int (nI bar))], [.int (nI rm), .long (lN p), .int (nI l), .ref 0], (MH g kept was isKept tape fed pos tlen flt ranking paper written pairs above below isDone dist rowv (nI rm) lsz itm weakAbove weakBelow))) rfl ?_
  refine e_i2l rfl (by omega) ?_
  refine e_steps 0 (σ' := (13, [(0, .ref 0), (1, .int (nI l)), (2, .int (nI p)), (3, .int (nI bar))], [.long (lN rm), .long (lN p), .int (nI l), .ref 0], (MH g kept was isKept tape fed pos tlen flt ranking paper written pairs above below isDone dist rowv (nI rm) lsz itm weakAbove weakBelow))) rfl ?_
  refine e_call (y := 221) (av := [.ref 0, .int (nI l), .long (lN p), .long (lN rm)]) (rest := []) rfl (c_X6_lays_N (d + 0) (sz := sz) (by first | assumption | omega | rfl | trivial) (by first | assumption | omega | rfl | trivial) (by first | assumption | omega | rfl | trivial)) (fun r_13 h_13 p_13 => ?_)
  obtain ⟨itm_13, rfl, o_13⟩ := p_13
  rcases o_13 with ⟨rfl, o_13⟩ | ⟨rfl, o_13⟩
  · skip
    refine e_steps 6 (σ' := (29, [(5, .int (nI 0)), (4, .int (nI 1)), (0, .ref 0), (1, .int (nI l)), (2, .int (nI p)), (3, .int (nI bar))], [], (MH g kept was isKept tape fed pos tlen flt ranking paper written pairs above below isDone dist rowv (nI rm) lsz itm_13 weakAbove weakBelow))) rfl ?_
    have loop_29 : ∀ (z_29 : Nat) (isv : Nat) (k : Nat) (il : Nat → Int64), rm - k < z_29 → (k ≤ rm ∧ isv < 2 ∧ z_lay itm il l p (sz l) (k + 1) rm rw bar ∧ (isv = 0 ↔ sz l ≤ p + k + 1)) → z_EV (d + 3) zmX6_laid R (29, [(0, .ref 0), (1, .int (nI l)), (2, .int (nI p)), (3, .int (nI bar)), (4, .int (nI isv)), (5, .int (nI k))], [], (MH g kept was isKept tape fed pos tlen flt ranking paper written pairs above below isDone dist rowv (nI rm) lsz il weakAbove weakBelow)) := by
      intro z_29
      induction z_29 with
      | zero => intro isv k il hm_29 _; exact absurd hm_29 (Nat.not_lt_zero _)
      | succ z_29 ih_29 =>
        intro isv k il hm_29 hi_29
        obtain ⟨l1, l2, l3, l4⟩ := hi_29
        refine e_steps 3 (σ' := (35, [(0, .ref 0), (1, .int (nI l)), (2, .int (nI p)), (3, .int (nI bar)), (4, .int (nI isv)), (5, .int (nI k))], [.int (nI rm), .int (nI k)], (MH g kept was isKept tape fed pos tlen flt ranking paper written pairs above below isDone dist rowv (nI rm) lsz il weakAbove weakBelow))) rfl ?_
        refine e_if (c := nI rm ≤ nI k) rfl (fun c_35 => ?_) (fun c_35 => ?_)
        · skip
          rw [nI_leI (by omega) (by omega)] at c_35
          refine e_steps 1 (σ' := (74, [(0, .ref 0), (1, .int (nI l)), (2, .int (nI p)), (3, .int (nI bar)), (4, .int (nI isv)), (5, .int (nI k))], [.int (nI isv)], (MH g kept was isKept tape fed pos tlen flt ranking paper written pairs above below isDone dist rowv (nI rm) lsz il weakAbove weakBelow))) rfl ?_
          refine e_if (c := nI isv = 0) rfl (fun c_74 => ?_) (fun c_74 => ?_)
          · skip
            rw [z0_eq (by omega)] at c_74
            refine e_steps 5 (σ' := (120, [(4, .int (nI 0)), (0, .ref 0), (1, .int (nI l)), (2, .int (nI p)), (3, .int (nI bar)), (5, .int (nI k))], [.int ((-nI 13))], (MH g kept was isKept tape fed pos tlen flt ranking paper written pairs above below isDone dist rowv (nI rm) lsz il weakAbove weakBelow))) rfl ?_
            exact e_ret rfl (trivial) (hR _ _ ⟨il, ((-nI 13)), rfl, rfl, (by exact ⟨z_lay_no l3 (by omega) (by omega), by rw [if_neg (by omega)]⟩)⟩)
          · skip
            rw [z0_eq (by omega)] at c_74
            refine e_steps 3 (σ' := (80, [(0, .ref 0), (1, .int (nI l)), (2, .int (nI p)), (3, .int (nI bar)), (4, .int (nI isv)), (5, .int (nI k))], [.int (nI p), .int (nI l), .ref 0], (MH g kept was isKept tape fed pos tlen flt ranking paper written pairs above below isDone dist rowv (nI rm) lsz il weakAbove weakBelow))) rfl ?_
            refine e_i2l rfl (by omega) ?_
            refine e_steps 2 (σ' := (83, [(0, .ref 0), (1, .int (nI l)), (2, .int (nI p)), (3, .int (nI bar)), (4, .int (nI isv)), (5, .int (nI k))], [.long (((lN p) + (lN 1))), .int (nI l), .ref 0], (MH g kept was isKept tape fed pos tlen flt ranking paper written pairs above below isDone dist rowv (nI rm) lsz il weakAbove weakBelow))) rfl ?_
            have er_82 : ((lN p) + (lN 1)) = lN (p + 1) := lN_add _ _
            rw [er_82]
            refine e_steps 2 (σ' := (87, [(0, .ref 0), (1, .int (nI l)), (2, .int (nI p)), (3, .int (nI bar)), (4, .int (nI isv)), (5, .int (nI k))], [.int (nI rm), .long (lN (p + 1)), .int (nI l), .ref 0], (MH g kept was isKept tape fed pos tlen flt ranking paper written pairs above below isDone dist rowv (nI rm) lsz il weakAbove weakBelow))) rfl ?_
            refine e_i2l rfl (by omega) ?_
            refine e_steps 1 (σ' := (89, [(0, .ref 0), (1, .int (nI l)), (2, .int (nI p)), (3, .int (nI bar)), (4, .int (nI isv)), (5, .int (nI k))], [.long (((lN (p + 1)) + (lN rm))), .int (nI l), .ref 0], (MH g kept was isKept tape fed pos tlen flt ranking paper written pairs above below isDone dist rowv (nI rm) lsz il weakAbove weakBelow))) rfl ?_
            have er_88 : ((lN (p + 1)) + (lN rm)) = lN (p + 1 + rm) := lN_add _ _
            rw [er_88]
            refine e_steps 1 (σ' := (90, [(0, .ref 0), (1, .int (nI l)), (2, .int (nI p)), (3, .int (nI bar)), (4, .int (nI isv)), (5, .int (nI k))], [.int (nI bar), .long (lN (p + 1 + rm)), .int (nI l), .ref 0], (MH g kept was isKept tape fed pos tlen flt ranking paper written pairs above below isDone dist rowv (nI rm) lsz il weakAbove weakBelow))) rfl ?_
            refine e_i2l rfl (by omega) ?_
            refine e_steps 0 (σ' := (91, [(0, .ref 0), (1, .int (nI l)), (2, .int (nI p)), (3, .int (nI bar)), (4, .int (nI isv)), (5, .int (nI k))], [.long (lN bar), .long (lN (p + 1 + rm)), .int (nI l), .ref 0], (MH g kept was isKept tape fed pos tlen flt ranking paper written pairs above below isDone dist rowv (nI rm) lsz il weakAbove weakBelow))) rfl ?_
            refine e_call (y := 221) (av := [.ref 0, .int (nI l), .long (lN (p + 1 + rm)), .long (lN bar)]) (rest := []) rfl (c_X6_lays_N (d + 0) (sz := sz) (by first | assumption | omega | rfl | trivial) (by first | assumption | omega | rfl | trivial) (by first | assumption | omega | rfl | trivial)) (fun r_91 h_91 p_91 => ?_)
            obtain ⟨itm_91, rfl, o_91⟩ := p_91
            rcases o_91 with ⟨rfl, o_91⟩ | ⟨rfl, o_91⟩
            · skip
              refine e_steps 9 (σ' := (114, [(4, .int (nI 1)), (0, .ref 0), (1, .int (nI l)), (2, .int (nI p)), (3, .int (nI bar)), (5, .int (nI k))], [.int (nI 2), .int (nI rm)], (MH g kept was isKept tape fed pos tlen flt ranking paper written pairs above below isDone dist rowv (nI rm) lsz itm_91 weakAbove weakBelow))) rfl ?_
              refine e_add (rm + 2) rfl (by first | rfl | omega) ?_
              refine e_steps 1 (σ' := (120, [(4, .int (nI 1)), (0, .ref 0), (1, .int (nI l)), (2, .int (nI p)), (3, .int (nI bar)), (5, .int (nI k))], [.int (nI (rm + 2))], (MH g kept was isKept tape fed pos tlen flt ranking paper written pairs above below isDone dist rowv (nI rm) lsz itm_91 weakAbove weakBelow))) rfl ?_
              exact e_ret rfl (trivial) (hR _ _ ⟨itm_91, (nI (rm + 2)), rfl, rfl, (by first | exact ⟨by rw [o_91.2, show p + 1 + rm = p + (rm + 1) by omega]; exact z_lay_put (z_lay_cast (show k + 1 = rm + 1 by omega) l3) (by omega) z_pn_e, by rw [if_pos (by omega)]⟩ | exact ⟨by rw [o_91.2]; exact z_lay_no l3 (by omega) (by omega), by rw [if_neg (by omega)]⟩ | exact ⟨z_lay_no l3 (by omega) (by omega), by rw [if_neg (by omega)]⟩)⟩)
            · skip
              refine e_steps 6 (σ' := (120, [(4, .int (nI 0)), (0, .ref 0), (1, .int (nI l)), (2, .int (nI p)), (3, .int (nI bar)), (5, .int (nI k))], [.int ((-nI 13))], (MH g kept was isKept tape fed pos tlen flt ranking paper written pairs above below isDone dist rowv (nI rm) lsz itm_91 weakAbove weakBelow))) rfl ?_
              exact e_ret rfl (trivial) (hR _ _ ⟨itm_91, ((-nI 13)), rfl, rfl, (by first | exact ⟨by rw [o_91.2, show p + 1 + rm = p + (rm + 1) by omega]; exact z_lay_put (z_lay_cast (show k + 1 = rm + 1 by omega) l3) (by omega) z_pn_e, by rw [if_pos (by omega)]⟩ | exact ⟨by rw [o_91.2]; exact z_lay_no l3 (by omega) (by omega), by rw [if_neg (by omega)]⟩ | exact ⟨z_lay_no l3 (by omega) (by omega), by rw [if_neg (by omega)]⟩)⟩)
        · skip
          rw [nI_leI (by omega) (by omega)] at c_35
          refine e_steps 1 (σ' := (40, [(0, .ref 0), (1, .int (nI l)), (2, .int (nI p)), (3, .int (nI bar)), (4, .int (nI isv)), (5, .int (nI k))], [.int (nI isv)], (MH g kept was isKept tape fed pos tlen flt ranking paper written pairs above below isDone dist rowv (nI rm) lsz il weakAbove weakBelow))) rfl ?_
          refine e_if (c := nI isv = 0) rfl (fun c_40 => ?_) (fun c_40 => ?_)
          · skip
            rw [z0_eq (by omega)] at c_40
            refine e_steps 1 (σ' := (74, [(0, .ref 0), (1, .int (nI l)), (2, .int (nI p)), (3, .int (nI bar)), (4, .int (nI isv)), (5, .int (nI k))], [.int (nI isv)], (MH g kept was isKept tape fed pos tlen flt ranking paper written pairs above below isDone dist rowv (nI rm) lsz il weakAbove weakBelow))) rfl ?_
            refine e_if (c := nI isv = 0) rfl (fun c_74 => ?_) (fun c_74 => ?_)
            · skip
              rw [z0_eq (by omega)] at c_74
              refine e_steps 5 (σ' := (120, [(4, .int (nI 0)), (0, .ref 0), (1, .int (nI l)), (2, .int (nI p)), (3, .int (nI bar)), (5, .int (nI k))], [.int ((-nI 13))], (MH g kept was isKept tape fed pos tlen flt ranking paper written pairs above below isDone dist rowv (nI rm) lsz il weakAbove weakBelow))) rfl ?_
              exact e_ret rfl (trivial) (hR _ _ ⟨il, ((-nI 13)), rfl, rfl, (by exact ⟨z_lay_no l3 (by omega) (by omega), by rw [if_neg (by omega)]⟩)⟩)
            · skip
              rw [z0_eq (by omega)] at c_74
              exact absurd c_40 c_74
          · skip
            rw [z0_eq (by omega)] at c_40
            refine e_steps 3 (σ' := (46, [(0, .ref 0), (1, .int (nI l)), (2, .int (nI p)), (3, .int (nI bar)), (4, .int (nI isv)), (5, .int (nI k))], [.int (nI p), .int (nI l), .ref 0], (MH g kept was isKept tape fed pos tlen flt ranking paper written pairs above below isDone dist rowv (nI rm) lsz il weakAbove weakBelow))) rfl ?_
            refine e_i2l rfl (by omega) ?_
            refine e_steps 2 (σ' := (49, [(0, .ref 0), (1, .int (nI l)), (2, .int (nI p)), (3, .int (nI bar)), (4, .int (nI isv)), (5, .int (nI k))], [.long (((lN p) + (lN 1))), .int (nI l), .ref 0], (MH g kept was isKept tape fed pos tlen flt ranking paper written pairs above below isDone dist rowv (nI rm) lsz il weakAbove weakBelow))) rfl ?_
            have er_48 : ((lN p) + (lN 1)) = lN (p + 1) := lN_add _ _
            rw [er_48]
            refine e_steps 1 (σ' := (51, [(0, .ref 0), (1, .int (nI l)), (2, .int (nI p)), (3, .int (nI bar)), (4, .int (nI isv)), (5, .int (nI k))], [.int (nI k), .long (lN (p + 1)), .int (nI l), .ref 0], (MH g kept was isKept tape fed pos tlen flt ranking paper written pairs above below isDone dist rowv (nI rm) lsz il weakAbove weakBelow))) rfl ?_
            refine e_i2l rfl (by omega) ?_
            refine e_steps 1 (σ' := (53, [(0, .ref 0), (1, .int (nI l)), (2, .int (nI p)), (3, .int (nI bar)), (4, .int (nI isv)), (5, .int (nI k))], [.long (((lN (p + 1)) + (lN k))), .int (nI l), .ref 0], (MH g kept was isKept tape fed pos tlen flt ranking paper written pairs above below isDone dist rowv (nI rm) lsz il weakAbove weakBelow))) rfl ?_
            have er_52 : ((lN (p + 1)) + (lN k)) = lN (p + 1 + k) := lN_add _ _
            rw [er_52]
            refine e_steps 3 (σ' := (59, [(0, .ref 0), (1, .int (nI l)), (2, .int (nI p)), (3, .int (nI bar)), (4, .int (nI isv)), (5, .int (nI k))], [.int (nI k), .ref 12, .long (lN (p + 1 + k)), .int (nI l), .ref 0], (MH g kept was isKept tape fed pos tlen flt ranking paper written pairs above below isDone dist rowv (nI rm) lsz il weakAbove weakBelow))) rfl ?_
            refine e_ial (nI (rw k)) rfl rfl (by first | assumption | omega | rfl | trivial) (by decide) ((hr _ (by omega)).1) ?_
            have hv_59 := (hr k (by omega)).2
            refine e_steps 0 (σ' := (60, [(0, .ref 0), (1, .int (nI l)), (2, .int (nI p)), (3, .int (nI bar)), (4, .int (nI isv)), (5, .int (nI k))], [.int (nI (rw k)), .long (lN (p + 1 + k)), .int (nI l), .ref 0], (MH g kept was isKept tape fed pos tlen flt ranking paper written pairs above below isDone dist rowv (nI rm) lsz il weakAbove weakBelow))) rfl ?_
            refine e_i2l rfl (by omega) ?_
            refine e_steps 0 (σ' := (61, [(0, .ref 0), (1, .int (nI l)), (2, .int (nI p)), (3, .int (nI bar)), (4, .int (nI isv)), (5, .int (nI k))], [.long (lN (rw k)), .long (lN (p + 1 + k)), .int (nI l), .ref 0], (MH g kept was isKept tape fed pos tlen flt ranking paper written pairs above below isDone dist rowv (nI rm) lsz il weakAbove weakBelow))) rfl ?_
            refine e_call (y := 221) (av := [.ref 0, .int (nI l), .long (lN (p + 1 + k)), .long (lN (rw k))]) (rest := []) rfl (c_X6_lays_N (d + 0) (sz := sz) (by first | assumption | omega | rfl | trivial) (by first | assumption | omega | rfl | trivial) (by first | assumption | omega | rfl | trivial)) (fun r_61 h_61 p_61 => ?_)
            obtain ⟨itm_61, rfl, o_61⟩ := p_61
            rcases o_61 with ⟨rfl, o_61⟩ | ⟨rfl, o_61⟩
            · skip
              refine e_steps 1 (σ' := (66, [(4, .int (nI 1)), (0, .ref 0), (1, .int (nI l)), (2, .int (nI p)), (3, .int (nI bar)), (5, .int (nI k))], [], (MH g kept was isKept tape fed pos tlen flt ranking paper written pairs above below isDone dist rowv (nI rm) lsz itm_61 weakAbove weakBelow))) rfl ?_
              refine e_inc (n := 1) rfl rfl rfl (k + 1) (by rfl) [(5, .int (nI (k + 1))), (4, .int (nI 1)), (0, .ref 0), (1, .int (nI l)), (2, .int (nI p)), (3, .int (nI bar))] rfl ?_
              refine e_steps 1 (σ' := (29, [(5, .int (nI (k + 1))), (4, .int (nI 1)), (0, .ref 0), (1, .int (nI l)), (2, .int (nI p)), (3, .int (nI bar))], [], (MH g kept was isKept tape fed pos tlen flt ranking paper written pairs above below isDone dist rowv (nI rm) lsz itm_61 weakAbove weakBelow))) rfl ?_
              refine e_sub [2, 3, 4, 5, 1, 0] rfl ?_
              exact ih_29 1 (k + 1) itm_61 (by omega) (by first | exact ⟨by omega, by omega, by rw [o_61.2, show p + 1 + k = p + (k + 1) by omega]; exact z_lay_put l3 (by omega) (z_pn_k (by omega)), by omega⟩ | exact ⟨by omega, by omega, by rw [o_61.2]; exact z_lay_no l3 (by omega) (by omega), by omega⟩)
            · skip
              refine e_steps 1 (σ' := (66, [(4, .int (nI 0)), (0, .ref 0), (1, .int (nI l)), (2, .int (nI p)), (3, .int (nI bar)), (5, .int (nI k))], [], (MH g kept was isKept tape fed pos tlen flt ranking paper written pairs above below isDone dist rowv (nI rm) lsz itm_61 weakAbove weakBelow))) rfl ?_
              refine e_inc (n := 1) rfl rfl rfl (k + 1) (by rfl) [(5, .int (nI (k + 1))), (4, .int (nI 0)), (0, .ref 0), (1, .int (nI l)), (2, .int (nI p)), (3, .int (nI bar))] rfl ?_
              refine e_steps 1 (σ' := (29, [(5, .int (nI (k + 1))), (4, .int (nI 0)), (0, .ref 0), (1, .int (nI l)), (2, .int (nI p)), (3, .int (nI bar))], [], (MH g kept was isKept tape fed pos tlen flt ranking paper written pairs above below isDone dist rowv (nI rm) lsz itm_61 weakAbove weakBelow))) rfl ?_
              refine e_sub [2, 3, 4, 5, 1, 0] rfl ?_
              exact ih_29 0 (k + 1) itm_61 (by omega) (by first | exact ⟨by omega, by omega, by rw [o_61.2, show p + 1 + k = p + (k + 1) by omega]; exact z_lay_put l3 (by omega) (z_pn_k (by omega)), by omega⟩ | exact ⟨by omega, by omega, by rw [o_61.2]; exact z_lay_no l3 (by omega) (by omega), by omega⟩)
    refine e_sub [2, 3, 4, 5, 1, 0] rfl ?_
    exact loop_29 _ 1 0 itm_13 (Nat.lt_succ_self _) (by first | exact ⟨by omega, by omega, by rw [o_13.2]; exact z_lay_put z_lay_0 o_13.1 z_pn_0, by omega⟩ | exact ⟨by omega, by omega, by rw [o_13.2]; exact z_lay_no z_lay_0 (by omega) (by omega), by omega⟩)
  · skip
    refine e_steps 5 (σ' := (29, [(5, .int (nI 0)), (4, .int (nI 0)), (0, .ref 0), (1, .int (nI l)), (2, .int (nI p)), (3, .int (nI bar))], [], (MH g kept was isKept tape fed pos tlen flt ranking paper written pairs above below isDone dist rowv (nI rm) lsz itm_13 weakAbove weakBelow))) rfl ?_
    have loop_29 : ∀ (z_29 : Nat) (isv : Nat) (k : Nat) (il : Nat → Int64), rm - k < z_29 → (k ≤ rm ∧ isv < 2 ∧ z_lay itm il l p (sz l) (k + 1) rm rw bar ∧ (isv = 0 ↔ sz l ≤ p + k + 1)) → z_EV (d + 3) zmX6_laid R (29, [(0, .ref 0), (1, .int (nI l)), (2, .int (nI p)), (3, .int (nI bar)), (4, .int (nI isv)), (5, .int (nI k))], [], (MH g kept was isKept tape fed pos tlen flt ranking paper written pairs above below isDone dist rowv (nI rm) lsz il weakAbove weakBelow)) := by
      intro z_29
      induction z_29 with
      | zero => intro isv k il hm_29 _; exact absurd hm_29 (Nat.not_lt_zero _)
      | succ z_29 ih_29 =>
        intro isv k il hm_29 hi_29
        obtain ⟨l1, l2, l3, l4⟩ := hi_29
        refine e_steps 3 (σ' := (35, [(0, .ref 0), (1, .int (nI l)), (2, .int (nI p)), (3, .int (nI bar)), (4, .int (nI isv)), (5, .int (nI k))], [.int (nI rm), .int (nI k)], (MH g kept was isKept tape fed pos tlen flt ranking paper written pairs above below isDone dist rowv (nI rm) lsz il weakAbove weakBelow))) rfl ?_
        refine e_if (c := nI rm ≤ nI k) rfl (fun c_35 => ?_) (fun c_35 => ?_)
        · skip
          rw [nI_leI (by omega) (by omega)] at c_35
          refine e_steps 1 (σ' := (74, [(0, .ref 0), (1, .int (nI l)), (2, .int (nI p)), (3, .int (nI bar)), (4, .int (nI isv)), (5, .int (nI k))], [.int (nI isv)], (MH g kept was isKept tape fed pos tlen flt ranking paper written pairs above below isDone dist rowv (nI rm) lsz il weakAbove weakBelow))) rfl ?_
          refine e_if (c := nI isv = 0) rfl (fun c_74 => ?_) (fun c_74 => ?_)
          · skip
            rw [z0_eq (by omega)] at c_74
            refine e_steps 5 (σ' := (120, [(4, .int (nI 0)), (0, .ref 0), (1, .int (nI l)), (2, .int (nI p)), (3, .int (nI bar)), (5, .int (nI k))], [.int ((-nI 13))], (MH g kept was isKept tape fed pos tlen flt ranking paper written pairs above below isDone dist rowv (nI rm) lsz il weakAbove weakBelow))) rfl ?_
            exact e_ret rfl (trivial) (hR _ _ ⟨il, ((-nI 13)), rfl, rfl, (by exact ⟨z_lay_no l3 (by omega) (by omega), by rw [if_neg (by omega)]⟩)⟩)
          · skip
            rw [z0_eq (by omega)] at c_74
            refine e_steps 3 (σ' := (80, [(0, .ref 0), (1, .int (nI l)), (2, .int (nI p)), (3, .int (nI bar)), (4, .int (nI isv)), (5, .int (nI k))], [.int (nI p), .int (nI l), .ref 0], (MH g kept was isKept tape fed pos tlen flt ranking paper written pairs above below isDone dist rowv (nI rm) lsz il weakAbove weakBelow))) rfl ?_
            refine e_i2l rfl (by omega) ?_
            refine e_steps 2 (σ' := (83, [(0, .ref 0), (1, .int (nI l)), (2, .int (nI p)), (3, .int (nI bar)), (4, .int (nI isv)), (5, .int (nI k))], [.long (((lN p) + (lN 1))), .int (nI l), .ref 0], (MH g kept was isKept tape fed pos tlen flt ranking paper written pairs above below isDone dist rowv (nI rm) lsz il weakAbove weakBelow))) rfl ?_
            have er_82 : ((lN p) + (lN 1)) = lN (p + 1) := lN_add _ _
            rw [er_82]
            refine e_steps 2 (σ' := (87, [(0, .ref 0), (1, .int (nI l)), (2, .int (nI p)), (3, .int (nI bar)), (4, .int (nI isv)), (5, .int (nI k))], [.int (nI rm), .long (lN (p + 1)), .int (nI l), .ref 0], (MH g kept was isKept tape fed pos tlen flt ranking paper written pairs above below isDone dist rowv (nI rm) lsz il weakAbove weakBelow))) rfl ?_
            refine e_i2l rfl (by omega) ?_
            refine e_steps 1 (σ' := (89, [(0, .ref 0), (1, .int (nI l)), (2, .int (nI p)), (3, .int (nI bar)), (4, .int (nI isv)), (5, .int (nI k))], [.long (((lN (p + 1)) + (lN rm))), .int (nI l), .ref 0], (MH g kept was isKept tape fed pos tlen flt ranking paper written pairs above below isDone dist rowv (nI rm) lsz il weakAbove weakBelow))) rfl ?_
            have er_88 : ((lN (p + 1)) + (lN rm)) = lN (p + 1 + rm) := lN_add _ _
            rw [er_88]
            refine e_steps 1 (σ' := (90, [(0, .ref 0), (1, .int (nI l)), (2, .int (nI p)), (3, .int (nI bar)), (4, .int (nI isv)), (5, .int (nI k))], [.int (nI bar), .long (lN (p + 1 + rm)), .int (nI l), .ref 0], (MH g kept was isKept tape fed pos tlen flt ranking paper written pairs above below isDone dist rowv (nI rm) lsz il weakAbove weakBelow))) rfl ?_
            refine e_i2l rfl (by omega) ?_
            refine e_steps 0 (σ' := (91, [(0, .ref 0), (1, .int (nI l)), (2, .int (nI p)), (3, .int (nI bar)), (4, .int (nI isv)), (5, .int (nI k))], [.long (lN bar), .long (lN (p + 1 + rm)), .int (nI l), .ref 0], (MH g kept was isKept tape fed pos tlen flt ranking paper written pairs above below isDone dist rowv (nI rm) lsz il weakAbove weakBelow))) rfl ?_
            refine e_call (y := 221) (av := [.ref 0, .int (nI l), .long (lN (p + 1 + rm)), .long (lN bar)]) (rest := []) rfl (c_X6_lays_N (d + 0) (sz := sz) (by first | assumption | omega | rfl | trivial) (by first | assumption | omega | rfl | trivial) (by first | assumption | omega | rfl | trivial)) (fun r_91 h_91 p_91 => ?_)
            obtain ⟨itm_91, rfl, o_91⟩ := p_91
            rcases o_91 with ⟨rfl, o_91⟩ | ⟨rfl, o_91⟩
            · skip
              refine e_steps 9 (σ' := (114, [(4, .int (nI 1)), (0, .ref 0), (1, .int (nI l)), (2, .int (nI p)), (3, .int (nI bar)), (5, .int (nI k))], [.int (nI 2), .int (nI rm)], (MH g kept was isKept tape fed pos tlen flt ranking paper written pairs above below isDone dist rowv (nI rm) lsz itm_91 weakAbove weakBelow))) rfl ?_
              refine e_add (rm + 2) rfl (by first | rfl | omega) ?_
              refine e_steps 1 (σ' := (120, [(4, .int (nI 1)), (0, .ref 0), (1, .int (nI l)), (2, .int (nI p)), (3, .int (nI bar)), (5, .int (nI k))], [.int (nI (rm + 2))], (MH g kept was isKept tape fed pos tlen flt ranking paper written pairs above below isDone dist rowv (nI rm) lsz itm_91 weakAbove weakBelow))) rfl ?_
              exact e_ret rfl (trivial) (hR _ _ ⟨itm_91, (nI (rm + 2)), rfl, rfl, (by first | exact ⟨by rw [o_91.2, show p + 1 + rm = p + (rm + 1) by omega]; exact z_lay_put (z_lay_cast (show k + 1 = rm + 1 by omega) l3) (by omega) z_pn_e, by rw [if_pos (by omega)]⟩ | exact ⟨by rw [o_91.2]; exact z_lay_no l3 (by omega) (by omega), by rw [if_neg (by omega)]⟩ | exact ⟨z_lay_no l3 (by omega) (by omega), by rw [if_neg (by omega)]⟩)⟩)
            · skip
              refine e_steps 6 (σ' := (120, [(4, .int (nI 0)), (0, .ref 0), (1, .int (nI l)), (2, .int (nI p)), (3, .int (nI bar)), (5, .int (nI k))], [.int ((-nI 13))], (MH g kept was isKept tape fed pos tlen flt ranking paper written pairs above below isDone dist rowv (nI rm) lsz itm_91 weakAbove weakBelow))) rfl ?_
              exact e_ret rfl (trivial) (hR _ _ ⟨itm_91, ((-nI 13)), rfl, rfl, (by first | exact ⟨by rw [o_91.2, show p + 1 + rm = p + (rm + 1) by omega]; exact z_lay_put (z_lay_cast (show k + 1 = rm + 1 by omega) l3) (by omega) z_pn_e, by rw [if_pos (by omega)]⟩ | exact ⟨by rw [o_91.2]; exact z_lay_no l3 (by omega) (by omega), by rw [if_neg (by omega)]⟩ | exact ⟨z_lay_no l3 (by omega) (by omega), by rw [if_neg (by omega)]⟩)⟩)
        · skip
          rw [nI_leI (by omega) (by omega)] at c_35
          refine e_steps 1 (σ' := (40, [(0, .ref 0), (1, .int (nI l)), (2, .int (nI p)), (3, .int (nI bar)), (4, .int (nI isv)), (5, .int (nI k))], [.int (nI isv)], (MH g kept was isKept tape fed pos tlen flt ranking paper written pairs above below isDone dist rowv (nI rm) lsz il weakAbove weakBelow))) rfl ?_
          refine e_if (c := nI isv = 0) rfl (fun c_40 => ?_) (fun c_40 => ?_)
          · skip
            rw [z0_eq (by omega)] at c_40
            refine e_steps 1 (σ' := (74, [(0, .ref 0), (1, .int (nI l)), (2, .int (nI p)), (3, .int (nI bar)), (4, .int (nI isv)), (5, .int (nI k))], [.int (nI isv)], (MH g kept was isKept tape fed pos tlen flt ranking paper written pairs above below isDone dist rowv (nI rm) lsz il weakAbove weakBelow))) rfl ?_
            refine e_if (c := nI isv = 0) rfl (fun c_74 => ?_) (fun c_74 => ?_)
            · skip
              rw [z0_eq (by omega)] at c_74
              refine e_steps 5 (σ' := (120, [(4, .int (nI 0)), (0, .ref 0), (1, .int (nI l)), (2, .int (nI p)), (3, .int (nI bar)), (5, .int (nI k))], [.int ((-nI 13))], (MH g kept was isKept tape fed pos tlen flt ranking paper written pairs above below isDone dist rowv (nI rm) lsz il weakAbove weakBelow))) rfl ?_
              exact e_ret rfl (trivial) (hR _ _ ⟨il, ((-nI 13)), rfl, rfl, (by exact ⟨z_lay_no l3 (by omega) (by omega), by rw [if_neg (by omega)]⟩)⟩)
            · skip
              rw [z0_eq (by omega)] at c_74
              exact absurd c_40 c_74
          · skip
            rw [z0_eq (by omega)] at c_40
            refine e_steps 3 (σ' := (46, [(0, .ref 0), (1, .int (nI l)), (2, .int (nI p)), (3, .int (nI bar)), (4, .int (nI isv)), (5, .int (nI k))], [.int (nI p), .int (nI l), .ref 0], (MH g kept was isKept tape fed pos tlen flt ranking paper written pairs above below isDone dist rowv (nI rm) lsz il weakAbove weakBelow))) rfl ?_
            refine e_i2l rfl (by omega) ?_
            refine e_steps 2 (σ' := (49, [(0, .ref 0), (1, .int (nI l)), (2, .int (nI p)), (3, .int (nI bar)), (4, .int (nI isv)), (5, .int (nI k))], [.long (((lN p) + (lN 1))), .int (nI l), .ref 0], (MH g kept was isKept tape fed pos tlen flt ranking paper written pairs above below isDone dist rowv (nI rm) lsz il weakAbove weakBelow))) rfl ?_
            have er_48 : ((lN p) + (lN 1)) = lN (p + 1) := lN_add _ _
            rw [er_48]
            refine e_steps 1 (σ' := (51, [(0, .ref 0), (1, .int (nI l)), (2, .int (nI p)), (3, .int (nI bar)), (4, .int (nI isv)), (5, .int (nI k))], [.int (nI k), .long (lN (p + 1)), .int (nI l), .ref 0], (MH g kept was isKept tape fed pos tlen flt ranking paper written pairs above below isDone dist rowv (nI rm) lsz il weakAbove weakBelow))) rfl ?_
            refine e_i2l rfl (by omega) ?_
            refine e_steps 1 (σ' := (53, [(0, .ref 0), (1, .int (nI l)), (2, .int (nI p)), (3, .int (nI bar)), (4, .int (nI isv)), (5, .int (nI k))], [.long (((lN (p + 1)) + (lN k))), .int (nI l), .ref 0], (MH g kept was isKept tape fed pos tlen flt ranking paper written pairs above below isDone dist rowv (nI rm) lsz il weakAbove weakBelow))) rfl ?_
            have er_52 : ((lN (p + 1)) + (lN k)) = lN (p + 1 + k) := lN_add _ _
            rw [er_52]
            refine e_steps 3 (σ' := (59, [(0, .ref 0), (1, .int (nI l)), (2, .int (nI p)), (3, .int (nI bar)), (4, .int (nI isv)), (5, .int (nI k))], [.int (nI k), .ref 12, .long (lN (p + 1 + k)), .int (nI l), .ref 0], (MH g kept was isKept tape fed pos tlen flt ranking paper written pairs above below isDone dist rowv (nI rm) lsz il weakAbove weakBelow))) rfl ?_
            refine e_ial (nI (rw k)) rfl rfl (by first | assumption | omega | rfl | trivial) (by decide) ((hr _ (by omega)).1) ?_
            have hv_59 := (hr k (by omega)).2
            refine e_steps 0 (σ' := (60, [(0, .ref 0), (1, .int (nI l)), (2, .int (nI p)), (3, .int (nI bar)), (4, .int (nI isv)), (5, .int (nI k))], [.int (nI (rw k)), .long (lN (p + 1 + k)), .int (nI l), .ref 0], (MH g kept was isKept tape fed pos tlen flt ranking paper written pairs above below isDone dist rowv (nI rm) lsz il weakAbove weakBelow))) rfl ?_
            refine e_i2l rfl (by omega) ?_
            refine e_steps 0 (σ' := (61, [(0, .ref 0), (1, .int (nI l)), (2, .int (nI p)), (3, .int (nI bar)), (4, .int (nI isv)), (5, .int (nI k))], [.long (lN (rw k)), .long (lN (p + 1 + k)), .int (nI l), .ref 0], (MH g kept was isKept tape fed pos tlen flt ranking paper written pairs above below isDone dist rowv (nI rm) lsz il weakAbove weakBelow))) rfl ?_
            refine e_call (y := 221) (av := [.ref 0, .int (nI l), .long (lN (p + 1 + k)), .long (lN (rw k))]) (rest := []) rfl (c_X6_lays_N (d + 0) (sz := sz) (by first | assumption | omega | rfl | trivial) (by first | assumption | omega | rfl | trivial) (by first | assumption | omega | rfl | trivial)) (fun r_61 h_61 p_61 => ?_)
            obtain ⟨itm_61, rfl, o_61⟩ := p_61
            rcases o_61 with ⟨rfl, o_61⟩ | ⟨rfl, o_61⟩
            · skip
              refine e_steps 1 (σ' := (66, [(4, .int (nI 1)), (0, .ref 0), (1, .int (nI l)), (2, .int (nI p)), (3, .int (nI bar)), (5, .int (nI k))], [], (MH g kept was isKept tape fed pos tlen flt ranking paper written pairs above below isDone dist rowv (nI rm) lsz itm_61 weakAbove weakBelow))) rfl ?_
              refine e_inc (n := 1) rfl rfl rfl (k + 1) (by rfl) [(5, .int (nI (k + 1))), (4, .int (nI 1)), (0, .ref 0), (1, .int (nI l)), (2, .int (nI p)), (3, .int (nI bar))] rfl ?_
              refine e_steps 1 (σ' := (29, [(5, .int (nI (k + 1))), (4, .int (nI 1)), (0, .ref 0), (1, .int (nI l)), (2, .int (nI p)), (3, .int (nI bar))], [], (MH g kept was isKept tape fed pos tlen flt ranking paper written pairs above below isDone dist rowv (nI rm) lsz itm_61 weakAbove weakBelow))) rfl ?_
              refine e_sub [2, 3, 4, 5, 1, 0] rfl ?_
              exact ih_29 1 (k + 1) itm_61 (by omega) (by first | exact ⟨by omega, by omega, by rw [o_61.2, show p + 1 + k = p + (k + 1) by omega]; exact z_lay_put l3 (by omega) (z_pn_k (by omega)), by omega⟩ | exact ⟨by omega, by omega, by rw [o_61.2]; exact z_lay_no l3 (by omega) (by omega), by omega⟩)
            · skip
              refine e_steps 1 (σ' := (66, [(4, .int (nI 0)), (0, .ref 0), (1, .int (nI l)), (2, .int (nI p)), (3, .int (nI bar)), (5, .int (nI k))], [], (MH g kept was isKept tape fed pos tlen flt ranking paper written pairs above below isDone dist rowv (nI rm) lsz itm_61 weakAbove weakBelow))) rfl ?_
              refine e_inc (n := 1) rfl rfl rfl (k + 1) (by rfl) [(5, .int (nI (k + 1))), (4, .int (nI 0)), (0, .ref 0), (1, .int (nI l)), (2, .int (nI p)), (3, .int (nI bar))] rfl ?_
              refine e_steps 1 (σ' := (29, [(5, .int (nI (k + 1))), (4, .int (nI 0)), (0, .ref 0), (1, .int (nI l)), (2, .int (nI p)), (3, .int (nI bar))], [], (MH g kept was isKept tape fed pos tlen flt ranking paper written pairs above below isDone dist rowv (nI rm) lsz itm_61 weakAbove weakBelow))) rfl ?_
              refine e_sub [2, 3, 4, 5, 1, 0] rfl ?_
              exact ih_29 0 (k + 1) itm_61 (by omega) (by first | exact ⟨by omega, by omega, by rw [o_61.2, show p + 1 + k = p + (k + 1) by omega]; exact z_lay_put l3 (by omega) (z_pn_k (by omega)), by omega⟩ | exact ⟨by omega, by omega, by rw [o_61.2]; exact z_lay_no l3 (by omega) (by omega), by omega⟩)
    refine e_sub [2, 3, 4, 5, 1, 0] rfl ?_
    exact loop_29 _ 0 0 itm_13 (Nat.lt_succ_self _) (by first | exact ⟨by omega, by omega, by rw [o_13.2]; exact z_lay_put z_lay_0 o_13.1 z_pn_0, by omega⟩ | exact ⟨by omega, by omega, by rw [o_13.2]; exact z_lay_no z_lay_0 (by omega) (by omega), by omega⟩)
