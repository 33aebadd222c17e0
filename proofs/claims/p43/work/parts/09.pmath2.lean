/-! more of texts -/
def z_allb : Nat → (Nat → Bool) → Bool
  | 0, _ => true
  | n + 1, p => z_allb n p && p n
theorem z_allb_iff {p : Nat → Bool} : ∀ {n : Nat}, z_allb n p = true ↔ ∀ i, i < n → p i = true
  | 0 => ⟨fun _ i hi => absurd hi (Nat.not_lt_zero i), fun _ => rfl⟩
  | n + 1 => by
    show (z_allb n p && p n) = true ↔ _
    rw [Bool.and_eq_true, z_allb_iff (n := n)]
    constructor
    · rintro ⟨h1, h2⟩ i hi
      rcases (by omega : i < n ∨ i = n) with e | e
      · exact h1 i e
      · rw [e]; exact h2
    · intro h
      exact ⟨fun i hi => h i (by omega), h n (by omega)⟩
theorem z_allb_congr {p q : Nat → Bool} : ∀ {n : Nat}, (∀ i, i < n → p i = q i) → z_allb n p = z_allb n q
  | 0, _ => rfl
  | n + 1, h => by
    show (z_allb n p && p n) = (z_allb n q && q n)
    rw [z_allb_congr (fun i hi => h i (by omega)), h n (by omega)]
theorem z_tn_lt (b : Bool) : b.toNat < 2 := by cases b <;> decide
theorem z_tn1 (b : Bool) : b.toNat &&& 1 = b.toNat := by cases b <;> rfl
theorem z_tn0 (b : Bool) : b.toNat &&& 0 = 0 := by cases b <;> rfl
theorem z_tn_ne {b : Bool} (h : ¬ b.toNat = 0) : b = true := by cases b with
  | true => rfl
  | false => exact absurd rfl h
theorem z_tn_eq {b : Bool} (h : b.toNat = 0) : b = false := by cases b with
  | true => cases h
  | false => rfl
theorem z_is_T {b : Bool} {i v : Nat} {p : Nat → Bool} (h : v = (b && z_allb i p).toNat) (hp : p i = true) : v &&& 1 = (b && z_allb (i + 1) p).toNat := by
  rw [h, z_tn1]
  show _ = (b && (z_allb i p && p i)).toNat
  rw [hp, Bool.and_true]
theorem z_is_F {b : Bool} {i v : Nat} {p : Nat → Bool} (h : v = (b && z_allb i p).toNat) (hp : p i = false) : v &&& 0 = (b && z_allb (i + 1) p).toNat := by
  rw [h, z_tn0]
  show _ = (b && (z_allb i p && p i)).toNat
  rw [hp, Bool.and_false, Bool.and_false]
  rfl
theorem z_bor_yes {n b v : Nat} {pl : Nat → Nat → Nat} {q : Nat → Nat} (h : v = (true && z_allb n (fun c => decide (pl b c = q c))).toNat) (h0 : ¬ v = 0) : z_same n pl q b := by
  rw [h] at h0
  have h1 := z_tn_ne h0
  rw [Bool.true_and, z_allb_iff] at h1
  exact fun c hc => of_decide_eq_true (h1 c hc)
theorem z_bor_no {n b v : Nat} {pl : Nat → Nat → Nat} {q : Nat → Nat} (h : v = (true && z_allb n (fun c => decide (pl b c = q c))).toNat) (h0 : v = 0) : ¬ z_same n pl q b := by
  intro hs
  rw [h] at h0
  have h1 := z_tn_eq h0
  rw [Bool.true_and, z_allb_iff.mpr (fun c hc => decide_eq_true (hs c hc))] at h1
  cases h1
theorem z_me0 {fd a b mo z : Nat} (h : a + 2 ≤ b) (h0 : ¬ mo = 0) (hz : 2 * (fd - a) + mo < z + 1) : 2 * (fd - b) + 0 < z := by omega
