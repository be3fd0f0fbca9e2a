/-! ===== numbers: taking in proportion ===== -/
def bst (r : Nat → Int) : Nat → Nat | 0 => 0 | c + 1 => if r (bst r c) < r (c + 1) then c + 1 else bst r c
theorem bst_le (r : Nat → Int) : ∀ c, bst r c ≤ c
  | 0 => Nat.le_refl _
  | c + 1 => by
    unfold bst
    split
    · exact Nat.le_refl _
    · exact Nat.le_succ_of_le (bst_le r c)
theorem bst_max (r : Nat → Int) : ∀ c j, j ≤ c → r j ≤ r (bst r c)
  | 0, j, h => by
    have : j = 0 := by omega
    subst this
    exact Int.le_refl _
  | c + 1, j, h => by
    have ih := bst_max r c
    unfold bst
    by_cases hj : j = c + 1
    · subst hj
      split <;> omega
    · have := ih j (by omega)
      split <;> omega
def rmk (rm : Nat → Nat) (u : Nat → Bool) : Nat → Int := fun k => if u k then -1 else (rm k : Int)
def pck (rm : Nat → Nat) (u : Nat → Bool) : Nat := bst (rmk rm u) 4
def usd (rm : Nat → Nat) : Nat → Nat → Bool
  | 0 => fun _ => false
  | t + 1 => fun k => usd rm t k || decide (k = pck rm (usd rm t))
def s5 (q : Nat → Nat) : Nat := q 0 + q 1 + q 2 + q 3 + q 4
def b5 (u : Nat → Bool) (f : Nat → Nat) : Nat := s5 (fun k => if u k then f k else 0)
theorem pck_le (rm : Nat → Nat) (u : Nat → Bool) : pck rm u ≤ 4 := bst_le _ 4
theorem s5_congr {f g : Nat → Nat} (h : ∀ k, k < 5 → f k = g k) : s5 f = s5 g := by
  unfold s5
  rw [h 0 (by omega), h 1 (by omega), h 2 (by omega), h 3 (by omega), h 4 (by omega)]
theorem five {P : Nat → Prop} (h0 : P 0) (h1 : P 1) (h2 : P 2) (h3 : P 3) (h4 : P 4) : ∀ k, k < 5 → P k := fun k hk => by
  rcases (show k = 0 ∨ k = 1 ∨ k = 2 ∨ k = 3 ∨ k = 4 by omega) with rfl | rfl | rfl | rfl | rfl <;> assumption
/-- how many are used -/
def cnt (u : Nat → Bool) : Nat := b5 u (fun _ => 1)
theorem pck_free {rm : Nat → Nat} {u : Nat → Bool} (h : cnt u < 5) : u (pck rm u) = false := by
  have hm := bst_max (rmk rm u) 4
  have hle := bst_le (rmk rm u) 4
  cases hu : u (pck rm u) with
  | false => rfl
  | true =>
    exfalso
    have e : rmk rm u (bst (rmk rm u) 4) = -1 := by
      show (if u (pck rm u) = true then (-1 : Int) else _) = -1
      rw [if_pos hu]
    have all : ∀ k, k ≤ 4 → u k = true := fun k hk => by
      have h1 := hm k hk
      rw [e] at h1
      cases hk2 : u k with
      | true => rfl
      | false =>
        have e2 : rmk rm u k = (rm k : Int) := by
          show (if u k = true then (-1 : Int) else _) = _
          rw [hk2]; rfl
        omega
    have : cnt u = 5 := by
      unfold cnt b5 s5
      simp only [all 0 (by omega), all 1 (by omega), all 2 (by omega), all 3 (by omega), all 4 (by omega), if_true]
    omega
theorem pck_max {rm : Nat → Nat} {u : Nat → Bool} (h : cnt u < 5) {k : Nat} (hk : k ≤ 4) (hu : u k = false) : rm k ≤ rm (pck rm u) := by
  have h1 := bst_max (rmk rm u) 4 k hk
  have e1 : rmk rm u k = (rm k : Int) := by
    show (if u k = true then (-1 : Int) else _) = _
    rw [hu]; rfl
  have e2 : rmk rm u (pck rm u) = (rm (pck rm u) : Int) := by
    show (if u (pck rm u) = true then (-1 : Int) else _) = _
    rw [pck_free h]; rfl
  have h2 : rmk rm u k ≤ rmk rm u (pck rm u) := h1
  omega
theorem b5_add {u : Nat → Bool} {p : Nat} (hp : p ≤ 4) (hu : u p = false) (f : Nat → Nat) : b5 (fun k => u k || decide (k = p)) f = b5 u f + f p := by
  unfold b5 s5
  rcases (show p = 0 ∨ p = 1 ∨ p = 2 ∨ p = 3 ∨ p = 4 by omega) with rfl | rfl | rfl | rfl | rfl <;> simp [hu] <;> omega
theorem cnt_usd (rm : Nat → Nat) : ∀ t, t ≤ 5 → cnt (usd rm t) = t
  | 0, _ => rfl
  | t + 1, h => by
    have ih := cnt_usd rm t (by omega)
    have := b5_add (pck_le rm (usd rm t)) (pck_free (rm := rm) (u := usd rm t) (by omega)) (fun _ => 1)
    show b5 (fun k => usd rm t k || decide (k = pck rm (usd rm t))) (fun _ => 1) = t + 1
    rw [this]
    have : b5 (usd rm t) (fun _ => 1) = t := ih
    omega
theorem b5_le {u : Nat → Bool} {f g : Nat → Nat} (h : ∀ k, k < 5 → f k ≤ g k) : b5 u f ≤ b5 u g := by
  unfold b5 s5
  have h0 := h 0 (by omega); have h1 := h 1 (by omega); have h2 := h 2 (by omega); have h3 := h 3 (by omega); have h4 := h 4 (by omega)
  dsimp only
  repeat' split
  all_goals omega
theorem b5_const (u : Nat → Bool) (c : Nat) : b5 u (fun _ => c) = cnt u * c := by
  unfold cnt b5 s5
  dsimp only
  cases u 0 <;> cases u 1 <;> cases u 2 <;> cases u 3 <;> cases u 4 <;> simp <;> omega
theorem b5_split (u : Nat → Bool) (f : Nat → Nat) : s5 f = b5 u f + s5 (fun k => if u k then 0 else f k) := by
  unfold b5 s5
  dsimp only
  cases u 0 <;> cases u 1 <;> cases u 2 <;> cases u 3 <;> cases u 4 <;> simp <;> omega
/-- a pick made while some kilo is missing has a remainder -/
theorem pck_pos {rm : Nat → Nat} {Q m t : Nat} (hQ : 0 < Q) (hs : s5 rm = m * Q) (hr : ∀ k, k < 5 → rm k < Q) (ht : t < m) (hm : m ≤ 4) : 0 < rm (pck rm (usd rm t)) := by
  have hc := cnt_usd rm t (by omega)
  rcases Nat.eq_zero_or_pos (rm (pck rm (usd rm t))) with h0 | h0
  · exfalso
    have hz : s5 (fun k => if usd rm t k then 0 else rm k) = 0 := by
      have : ∀ k, k < 5 → (if usd rm t k then 0 else rm k) = 0 := fun k hk => by
        cases hu : usd rm t k with
        | true => simp
        | false =>
          have := pck_max (rm := rm) (u := usd rm t) (by omega) (k := k) (by omega) hu
          simp; omega
      rw [s5_congr this]; rfl
    have h1 := b5_split (usd rm t) rm
    rw [hz] at h1
    have h2 : b5 (usd rm t) rm ≤ b5 (usd rm t) (fun _ => Q - 1) := b5_le (fun k hk => by have := hr k hk; omega)
    rw [b5_const, hc] at h2
    have h3 : m * Q ≤ t * (Q - 1) := by omega
    have h4 : t * (Q - 1) ≤ t * Q := Nat.mul_le_mul_left _ (by omega)
    have h5 : (t + 1) * Q ≤ m * Q := Nat.mul_le_mul_right _ (by omega)
    have h6 : (t + 1) * Q = t * Q + Q := by rw [Nat.succ_mul]
    omega
  · exact h0
/-- a pick is never made twice, and what was picked has a remainder -/
theorem usd_pos {rm : Nat → Nat} {Q m : Nat} (hQ : 0 < Q) (hs : s5 rm = m * Q) (hr : ∀ k, k < 5 → rm k < Q) (hm : m ≤ 4) : ∀ t, t ≤ m → ∀ k, usd rm t k = true → 0 < rm k
  | 0, _, k, h => by cases h
  | t + 1, ht, k, h => by
    have h' : (usd rm t k || decide (k = pck rm (usd rm t))) = true := h
    simp only [Bool.or_eq_true, decide_eq_true_eq] at h'
    rcases h' with h' | h'
    · exact usd_pos hQ hs hr hm t (by omega) k h'
    · rw [h']; exact pck_pos hQ hs hr (by omega) hm
/-- the shares: floors, and one more for each pick -/
def flr (q : Nat → Nat) (n : Nat) : Nat → Nat := fun k => q k * n / s5 q
def rmn (q : Nat → Nat) (n : Nat) : Nat → Nat := fun k => q k * n % s5 q
def mis (q : Nat → Nat) (n : Nat) : Nat := n - s5 (flr q n)
def shr (q : Nat → Nat) (n : Nat) : Nat → Nat := fun k => flr q n k + (if usd (rmn q n) (mis q n) k then 1 else 0)
theorem flr_rmn (q : Nat → Nat) (n k : Nat) : s5 q * flr q n k + rmn q n k = q k * n := Nat.div_add_mod _ _
theorem s5_flr (q : Nat → Nat) (n : Nat) : s5 q * s5 (flr q n) + s5 (rmn q n) = s5 q * n := by
  have h0 := flr_rmn q n 0; have h1 := flr_rmn q n 1; have h2 := flr_rmn q n 2; have h3 := flr_rmn q n 3; have h4 := flr_rmn q n 4
  have e1 : s5 q * s5 (flr q n) = s5 q * flr q n 0 + s5 q * flr q n 1 + s5 q * flr q n 2 + s5 q * flr q n 3 + s5 q * flr q n 4 := by
    show s5 q * (flr q n 0 + flr q n 1 + flr q n 2 + flr q n 3 + flr q n 4) = _
    rw [Nat.mul_add, Nat.mul_add, Nat.mul_add, Nat.mul_add]
  have e2 : s5 q * n = q 0 * n + q 1 * n + q 2 * n + q 3 * n + q 4 * n := by
    show (q 0 + q 1 + q 2 + q 3 + q 4) * n = _
    rw [Nat.add_mul, Nat.add_mul, Nat.add_mul, Nat.add_mul]
  have e3 : s5 (rmn q n) = rmn q n 0 + rmn q n 1 + rmn q n 2 + rmn q n 3 + rmn q n 4 := rfl
  omega
theorem s5_rmn_lt {q : Nat → Nat} {n : Nat} (hQ : 0 < s5 q) : s5 (rmn q n) ≤ 5 * (s5 q - 1) := by
  have h : ∀ k, rmn q n k < s5 q := fun k => Nat.mod_lt _ hQ
  have h0 := h 0; have h1 := h 1; have h2 := h 2; have h3 := h 3; have h4 := h 4
  show rmn q n 0 + rmn q n 1 + rmn q n 2 + rmn q n 3 + rmn q n 4 ≤ _
  omega
theorem flr_le {q : Nat → Nat} {n : Nat} (hQ : 0 < s5 q) : s5 (flr q n) ≤ n := by
  have h := s5_flr q n
  exact Nat.le_of_mul_le_mul_left (by omega : s5 q * s5 (flr q n) ≤ s5 q * n) hQ
theorem mis_rmn {q : Nat → Nat} {n : Nat} (hQ : 0 < s5 q) : s5 (rmn q n) = mis q n * s5 q := by
  have h := s5_flr q n
  have h1 := flr_le (n := n) hQ
  have h2 : n = s5 (flr q n) + mis q n := by unfold mis; omega
  have h3 : s5 q * n = s5 q * s5 (flr q n) + s5 q * mis q n := by
    conv => lhs; rw [h2]
    rw [Nat.mul_add]
  rw [Nat.mul_comm (mis q n)]
  omega
theorem mis_le {q : Nat → Nat} {n : Nat} (hQ : 0 < s5 q) : mis q n ≤ 4 := by
  have h1 := mis_rmn (n := n) hQ
  have h2 := s5_rmn_lt (n := n) hQ
  rcases Nat.lt_or_ge 4 (mis q n) with h | h
  · exfalso
    have h3 : 5 * s5 q ≤ mis q n * s5 q := Nat.mul_le_mul_right _ h
    omega
  · exact h
theorem shr_sum {q : Nat → Nat} {n : Nat} (hQ : 0 < s5 q) : s5 (shr q n) = n := by
  have h1 := cnt_usd (rmn q n) (mis q n) (by have := mis_le (n := n) hQ; omega)
  have h2 := flr_le (n := n) hQ
  have e : s5 (shr q n) = s5 (flr q n) + cnt (usd (rmn q n) (mis q n)) := by
    unfold s5 shr cnt b5 s5
    dsimp only
    omega
  rw [e, h1]
  unfold mis
  omega
theorem shr_le {q : Nat → Nat} {n : Nat} (hQ : 0 < s5 q) (hn : n ≤ s5 q) {k : Nat} : shr q n k ≤ q k := by
  have hd := flr_rmn q n k
  have hr : ∀ k, rmn q n k < s5 q := fun k => Nat.mod_lt _ hQ
  have hm : q k * n ≤ s5 q * q k := by rw [Nat.mul_comm]; exact Nat.mul_le_mul_right _ hn
  have h1 : flr q n k ≤ q k := Nat.le_of_mul_le_mul_left (by omega : s5 q * flr q n k ≤ s5 q * q k) hQ
  unfold shr
  cases hu : usd (rmn q n) (mis q n) k with
  | false => simpa using h1
  | true =>
    have hp := usd_pos hQ (mis_rmn (n := n) hQ) (fun k _ => hr k) (mis_le hQ) (mis q n) (Nat.le_refl _) k hu
    simp only [if_true]
    rcases Nat.lt_or_ge (flr q n k) (q k) with h | h
    · omega
    · exfalso
      have h2 : s5 q * q k ≤ s5 q * flr q n k := Nat.mul_le_mul_left _ h
      omega
