/-! ===== tables: what their methods do at places in range ===== -/
theorem tb_ix {i w j : Int32} {I W J : Nat} (hi : i = nI I) (hw : w = nI W) (hj : j = nI J) : i * w + j = nI (I * W + J) := by rw [hi, hw, hj, pk_mul, nI_add]
theorem tb_get {w i j : Int32} {W I J ln : Nat} {f : XRow} {post : Int32 → Prop} (hw : w = nI W) (hi : i = nI I) (hj : j = nI J) (h : I * W + J < ln) (hl : ln < 2 ^ 31) (hp : post (f (I * W + J))) : wp_X6_get w ln f i j post := by
  intro x1 hx1
  rw [tb_ix hi hw hj] at hx1
  subst hx1
  refine ⟨fun h => absurd h (nI_pos (by omega)), fun _ => ⟨fun h2 => absurd h2 (nI_ge h hl), fun _ => ⟨vp_in_nI h hl, ?_⟩⟩⟩
  rw [nI_clamp (by omega)]
  exact hp
theorem tb_put {w i j x : Int32} {W I J ln : Nat} {f : XRow} {post : XRow → Prop} (hw : w = nI W) (hi : i = nI I) (hj : j = nI J) (h : I * W + J < ln) (hl : ln < 2 ^ 31) (hp : post (upd f (I * W + J) x)) : wp_X6_put w ln f i j x post := by
  intro x1 hx1
  rw [tb_ix hi hw hj] at hx1
  subst hx1
  refine ⟨fun h => absurd h (nI_pos (by omega)), fun _ => ⟨fun h2 => absurd h2 (nI_ge h hl), fun _ => ⟨vp_in_nI h hl, ?_⟩⟩⟩
  rw [nI_clamp (by omega)]
  exact hp
theorem tb_add {w i j x : Int32} {W I J ln : Nat} {f : XRow} {post : XRow → Prop} (hw : w = nI W) (hi : i = nI I) (hj : j = nI J) (h : I * W + J < ln) (hl : ln < 2 ^ 31) (hp : post (upd f (I * W + J) (f (I * W + J) + x))) : wp_X6_add w ln f i j x post :=
  tb_get hw hi hj h hl (tb_put hw hi hj h hl hp)
theorem tb_move {w i i2 j x : Int32} {W I I2 J ln : Nat} {f : XRow} {post : XRow → Prop} (hw : w = nI W) (hi : i = nI I) (hi2 : i2 = nI I2) (hj : j = nI J) (h : I * W + J < ln) (h2 : I2 * W + J < ln) (hl : ln < 2 ^ 31) (hp : post (upd (upd f (I * W + J) (f (I * W + J) + -x)) (I2 * W + J) (upd f (I * W + J) (f (I * W + J) + -x) (I2 * W + J) + x))) : wp_X6_move w ln f i i2 j x post :=
  tb_add hw hi hj h hl (tb_add hw hi2 hj h2 hl hp)
/-- the sum of a row of five -/
def i5 (f : XRow) (a : Nat) : Int32 := f a + f (a + 1) + f (a + 2) + f (a + 3) + f (a + 4)
theorem tb_sum {i : Int32} {I ln : Nat} {f : XRow} {post : Int32 → Prop} (hi : i = nI I) (h : I * 5 + 4 < ln) (hl : ln < 2 ^ 31) (hp : post (i5 f (I * 5))) : wp_X6_sum 5 ln f i post := by
  refine ⟨6, ?_⟩
  refine ⟨fun h => absurd h (by decide), fun _ => tb_get (W := 5) (J := 0) rfl hi rfl (by omega) hl ?_⟩
  intro x hx y hy; subst hx; subst hy
  refine ⟨fun h => absurd h (by decide), fun _ => tb_get (W := 5) (J := 1) rfl hi (by decide) (by omega) hl ?_⟩
  intro x hx y hy; subst hx; subst hy
  refine ⟨fun h => absurd h (by decide), fun _ => tb_get (W := 5) (J := 2) rfl hi (by decide) (by omega) hl ?_⟩
  intro x hx y hy; subst hx; subst hy
  refine ⟨fun h => absurd h (by decide), fun _ => tb_get (W := 5) (J := 3) rfl hi (by decide) (by omega) hl ?_⟩
  intro x hx y hy; subst hx; subst hy
  refine ⟨fun h => absurd h (by decide), fun _ => tb_get (W := 5) (J := 4) rfl hi (by decide) (by omega) hl ?_⟩
  intro x hx y hy; subst hx; subst hy
  refine ⟨fun _ => ?_, fun h => absurd (by decide) h⟩
  have e : 0 + f (I * 5 + 0) + f (I * 5 + 1) + f (I * 5 + 2) + f (I * 5 + 3) + f (I * 5 + 4) = i5 f (I * 5) := by
    unfold i5; rw [Int32.zero_add, Nat.add_zero]
  rw [e]
  exact hp
theorem i5_nI {f : XRow} {a : Nat} {q : Nat → Nat} (h : ∀ k, k < 5 → f (a + k) = nI (q k)) : i5 f a = nI (s5 q) := by
  unfold i5 s5
  have h0 : f a = nI (q 0) := h 0 (by omega)
  rw [h0, h 1 (by omega), h 2 (by omega), h 3 (by omega), h 4 (by omega), nI_add, nI_add, nI_add, nI_add]
/-- the column of the greatest -/
theorem tb_cog {i : Int32} {I ln : Nat} {f : XRow} {R : Nat → Int} {post : Int32 → Prop} (hi : i = nI I) (h : I * 5 + 4 < ln) (hl : ln < 2 ^ 31) (hr : ∀ k, k < 5 → (f (I * 5 + k)).toInt = R k) (hp : post (nI (bst R 4))) : wp_X6_columnOfGreatest 5 ln f i post := by
  have step : ∀ (k : Int32 → Int32 → Prop) (fu c : Nat), c < 4 → wp_X6_columnOfGreatest_L4 5 ln f i k fu (nI (c + 2)) (nI (bst R (c + 1))) → wp_X6_columnOfGreatest_L4 5 ln f i k (fu + 1) (nI (c + 1)) (nI (bst R c)) := by
    intro k fu c hc hk
    have hb := bst_le R c
    refine ⟨fun h => absurd h (nI_ge (a := c + 1) (b := 5) (by omega) (by omega)), fun _ => tb_get (W := 5) (J := c + 1) rfl hi rfl (by omega) hl (tb_get (W := 5) (J := bst R c) rfl hi rfl (by omega) hl ?_)⟩
    have e1 := hr (c + 1) (by omega)
    have e2 := hr (bst R c) (by omega)
    have en : nI (c + 1) + 1 = nI (c + 2) := nI_1 (c + 1)
    refine ⟨fun hle x hx => ?_, fun hle x hx => ?_⟩
    · rw [en] at hx; subst hx
      have : ¬ R (bst R c) < R (c + 1) := by
        rw [← e1, ← e2]
        have := Int32.le_iff_toInt_le.mp hle
        omega
      have e3 : bst R (c + 1) = bst R c := by
        show (if _ then _ else _) = _
        rw [if_neg this]
      rw [e3] at hk
      exact hk
    · rw [en] at hx; subst hx
      have : R (bst R c) < R (c + 1) := by
        rw [← e1, ← e2]
        rcases Int.lt_or_le (f (I * 5 + bst R c)).toInt (f (I * 5 + (c + 1))).toInt with h9 | h9
        · exact h9
        · exact absurd (Int32.le_iff_toInt_le.mpr h9) hle
      have e3 : bst R (c + 1) = c + 1 := by
        show (if _ then _ else _) = _
        rw [if_pos this]
      rw [e3] at hk
      exact hk
  refine ⟨5, step _ 4 0 (by omega) (step _ 3 1 (by omega) (step _ 2 2 (by omega) (step _ 1 3 (by omega) ?_)))⟩
  exact ⟨fun _ => hp, fun h => absurd (by decide) h⟩
/-- .. swapping of two rows -/
def swp (f : XRow) (a b W : Nat) : XRow := fun k => if a * W ≤ k ∧ k < a * W + W then f (k - a * W + b * W) else if b * W ≤ k ∧ k < b * W + W then f (k - b * W + a * W) else f k
