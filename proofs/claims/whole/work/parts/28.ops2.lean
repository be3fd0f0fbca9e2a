/-! ===== level 2: machines added, removed, exchanged; contracts ===== -/
section OQ
variable {b : Nat} {d : PD} {g : XRow}
/-- two stretches exchanged, the first k of them -/
def swk (f : XRow) (a c k : Nat) : XRow := fun j => if a ≤ j ∧ j < a + k then f (j - a + c) else if c ≤ j ∧ j < c + k then f (j - c + a) else f j
theorem swk_0 (f : XRow) (a c : Nat) : swk f a c 0 = f := by
  funext j
  unfold swk
  rw [if_neg (by omega), if_neg (by omega)]
theorem swk_far {f : XRow} {a c k j : Nat} (h1 : j < a ∨ a + k ≤ j) (h2 : j < c ∨ c + k ≤ j) : swk f a c k j = f j := by
  unfold swk
  rw [if_neg (by omega), if_neg (by omega)]
theorem swk_a {f : XRow} {a c k i : Nat} (h : i < k) : swk f a c k (a + i) = f (c + i) := by
  unfold swk
  rw [if_pos (by omega)]
  congr 1; omega
theorem swk_c {f : XRow} {a c k i W : Nat} (hd : a = c ∨ a + W ≤ c ∨ c + W ≤ a) (hk : k ≤ W) (h : i < k) : swk f a c k (c + i) = f (a + i) := by
  rcases hd with hd | hd
  · subst hd; exact swk_a h
  · unfold swk
    rw [if_neg (by omega), if_pos (by omega)]
    congr 1; omega
theorem swk_s {f : XRow} {a c k W : Nat} (hd : a = c ∨ a + W ≤ c ∨ c + W ≤ a) (hk : k < W) : upd (upd (swk f a c k) (a + k) (f (c + k))) (c + k) (f (a + k)) = swk f a c (k + 1) := by
  funext j
  by_cases hc : j = c + k
  · subst hc
    rw [pk_us]
    exact (swk_c hd (by omega) (by omega)).symm
  · rw [un hc]
    by_cases ha : j = a + k
    · subst ha
      rw [pk_us]
      exact (swk_a (by omega)).symm
    · rw [un ha]
      unfold swk
      by_cases h1 : a ≤ j ∧ j < a + k
      · rw [if_pos h1, if_pos (show a ≤ j ∧ j < a + (k + 1) by omega)]
      · rw [if_neg h1, if_neg (show ¬(a ≤ j ∧ j < a + (k + 1)) by omega)]
        by_cases h2 : c ≤ j ∧ j < c + k
        · rw [if_pos h2, if_pos (show c ≤ j ∧ j < c + (k + 1) by omega)]
        · rw [if_neg h2, if_neg (show ¬(c ≤ j ∧ j < c + (k + 1)) by omega)]
theorem swk_k1 {f : XRow} {a c k W : Nat} (hd : a = c ∨ a + W ≤ c ∨ c + W ≤ a) (hk : k < W) : swk f a c k (a + k) = f (a + k) := swk_far (by omega) (by omega)
theorem swk_k2 {f : XRow} {a c k W : Nat} (hd : a = c ∨ a + W ≤ c ∨ c + W ≤ a) (hk : k < W) : swk f a c k (c + k) = f (c + k) := swk_far (by omega) (by omega)
theorem tb_swap {w p0 p1 : Int32} {W I J ln : Nat} {f : XRow} {post : XRow → Prop} (hw : w = nI W) (h0 : p0 = nI I) (h1 : p1 = nI J) (hW : W < 100) (hI : I * W + W ≤ ln) (hJ : J * W + W ≤ ln) (hl : ln < 2 ^ 30) (hI2 : I < 1000) (hJ2 : J < 1000) (hp : post (swk f (I * W) (J * W) W)) : wp_X6_swapRows w ln f p0 p1 post := by
  subst hw h0 h1
  have hd : I * W = J * W ∨ I * W + W ≤ J * W ∨ J * W + W ≤ I * W := by
    rcases Nat.lt_trichotomy I J with h | h | h
    · right; left
      have := Nat.mul_le_mul_right W (show I + 1 ≤ J by omega)
      rw [Nat.succ_mul] at this; omega
    · left; rw [h]
    · right; right
      have := Nat.mul_le_mul_right W (show J + 1 ≤ I by omega)
      rw [Nat.succ_mul] at this; omega
  refine loop_0 (fun n i s => wp_X6_swapRows_L2 (nI W) ln (nI I) (nI J) (fun (_ : Int32) (v9 : XRow) => post v9) n (nI i) s) (fun i s => s = swk f (I * W) (J * W) i) W f (swk_0 _ _ _).symm ?_ ?_
  · intro n s hs
    subst hs
    exact if_y (nI_le (Nat.le_refl _) (by omega)) hp
  · intro n i s hi hs hk
    subst hs
    refine if_n (nI_ge hi (by omega)) (tb_get (W := W) (I := I) (J := i) rfl rfl rfl (by omega) (by omega) (tb_get (W := W) (I := J) (J := i) rfl rfl rfl (by omega) (by omega) (tb_put (W := W) (I := I) (J := i) rfl rfl rfl (by omega) (by omega) (tb_put (W := W) (I := J) (J := i) rfl rfl rfl (by omega) (by omega) ?_))))
    intro x hx
    have e1 : nI i + 1 = nI (i + 1) := nI_1 i
    rw [hx, e1, swk_k1 hd hi, swk_k2 hd hi, swk_s hd hi]
    exact hk _ rfl
def oExch (g : XRow) (m k : Nat) : XRow := swk g (26 + 11 * m) (26 + 11 * k) 11
theorem tm_exch {m k : Nat} {past : XRow} {pasts : Int32} {post : Int32 × Int32 × Int32 × XRow × XRow → Prop} {hn hc : Int32} {hK : Nat → PD} (hR : Rel b d g) (hH : HR b hn hc hK past pasts) (hm : m < cn (g 0)) (hk : k < cn (g 0)) (h : post (nI (if m = k then 0 else max m k - min m k - 1), mnK pasts, 0, oExch g m k, mpK past pasts g)) : wp_X9_exchange g past pasts (nI m) (nI k) post := by
  obtain ⟨e, h6⟩ := IM_mc (Inv_M hR.1)
  have w1 : ∀ x, x < cn (g 0) → wi (nI x) 0 (g 0 - 1) = true := fun x hx => by
    rw [e, show cn (g 0) = (cn (g 0) - 1) + 1 by omega, nI_pred]
    exact wi_nI (lo := 0) (by omega) (by omega) (by omega)
  have hd : 26 + 11 * m = 26 + 11 * k ∨ 26 + 11 * m + 11 ≤ 26 + 11 * k ∨ 26 + 11 * k + 11 ≤ 26 + 11 * m := by omega
  refine tm_isM (bb_t (w1 m hm) (tm_isM (bb_t (w1 k hk) (tm_changes hH ?_))))
  refine loop_0 (fun n i s => wp_X9_exchange_L44 (nI m) (nI k) (fun (_ : Int32) (v13 : XRow) => (nI m = nI k → (post (0, mnK pasts, 0, v13, mpK past pasts g))) ∧ (¬ nI m = nI k → ((nI k ≤ nI m → (post ((nI m - nI k) - 1, mnK pasts, 0, v13, mpK past pasts g))) ∧ (¬ nI k ≤ nI m → (post ((nI k - nI m) - 1, mnK pasts, 0, v13, mpK past pasts g)))))) n (nI i) s) (fun i s => s = swk g (26 + 11 * m) (26 + 11 * k) i) 11 g (swk_0 _ _ _).symm ?_ ?_
  · intro n s hs
    subst hs
    refine if_y (nI_le (a := 11) (b := 11) (by omega) (by omega)) (pk_eq m k (fun he => ?_) (fun hne => pk_le k m (fun hle => ?_) (fun hlt => ?_)))
    · rw [if_pos he] at h; exact h
    · rw [if_neg hne] at h
      rw [pk_sub hle, show (1 : Int32) = nI 1 from rfl, pk_sub (by omega)]
      rw [show max m k = m by omega, show min m k = k by omega] at h
      exact h
    · rw [if_neg hne] at h
      rw [pk_sub (by omega), show (1 : Int32) = nI 1 from rfl, pk_sub (by omega)]
      rw [show max m k = k by omega, show min m k = m by omega] at h
      exact h
  · intro n i s hi hs hk2
    subst hs
    refine if_n (nI_ge (a := i) (b := 11) hi (by omega)) (tm_mAt (m := m) (w := i) rfl rfl ⟨v672 (by omega), ?_⟩)
    intro x hx
    refine tm_mAt (m := m) (w := i) rfl rfl (tm_mAt (m := k) (w := i) rfl rfl ⟨v672 (by omega), v672 (by omega), tm_mAt (m := k) (w := i) rfl rfl ⟨v672 (by omega), ?_⟩⟩)
    intro y hy
    have e1 : nI i + 1 = nI (i + 1) := nI_1 i
    rw [tn_nI (by omega)] at hx
    rw [hy, e1, hx, tn_nI (by omega), tn_nI (by omega), swk_k1 hd hi, swk_k2 hd hi, swk_s hd hi]
    exact hk2 _ rfl
theorem bsum_swk {m k : Nat} : ∀ {n : Nat}, (m < n ∨ m = k) → (k < n ∨ m = k) → bsum (oExch g m k) n = bsum g n := by
  have key : ∀ x, s5 (kq (oExch g m k) (31 + 11 * x)) = if x = m then s5 (kq g (31 + 11 * k)) else if x = k then s5 (kq g (31 + 11 * m)) else s5 (kq g (31 + 11 * x)) := by
    intro x
    have hd : 26 + 11 * m = 26 + 11 * k ∨ 26 + 11 * m + 11 ≤ 26 + 11 * k ∨ 26 + 11 * k + 11 ≤ 26 + 11 * m := by omega
    by_cases h1 : x = m
    · subst h1
      rw [if_pos rfl]
      refine s5_congr (fun j hj => ?_)
      show cn (swk g (26 + 11 * x) (26 + 11 * k) 11 (31 + 11 * x + j)) = cn (g (31 + 11 * k + j))
      rw [show 31 + 11 * x + j = 26 + 11 * x + (5 + j) by omega, swk_a (by omega)]
      congr 2; omega
    · rw [if_neg h1]
      by_cases h2 : x = k
      · subst h2
        rw [if_pos rfl]
        refine s5_congr (fun j hj => ?_)
        show cn (swk g (26 + 11 * m) (26 + 11 * x) 11 (31 + 11 * x + j)) = cn (g (31 + 11 * m + j))
        rw [show 31 + 11 * x + j = 26 + 11 * x + (5 + j) by omega, swk_c hd (by omega) (by omega)]
        congr 2; omega
      · rw [if_neg h2]
        refine s5_congr (fun j hj => ?_)
        show cn (swk g (26 + 11 * m) (26 + 11 * k) 11 (31 + 11 * x + j)) = cn (g (31 + 11 * x + j))
        rw [swk_far (by omega) (by omega)]
  -- sums over a list of places, two of which change places
  have base : ∀ (f f' : Nat → Nat) (m k : Nat), m < k → f' m = f k → f' k = f m → (∀ x, x ≠ m → x ≠ k → f' x = f x) → ∀ (S : (Nat → Nat) → Nat → Nat), (∀ q, S q 0 = 0) → (∀ q n, S q (n + 1) = S q n + q n) → ∀ n, (n ≤ m → S f' n = S f n) ∧ (m < n → n ≤ k → S f' n + f m = S f n + f k) ∧ (k < n → S f' n = S f n) := by
    intro f f' m k hmk h1 h2 h3 S hS0 hS n
    induction n with
    | zero => exact ⟨fun _ => by rw [hS0, hS0], fun h => by omega, fun h => by omega⟩
    | succ n ih =>
      rw [hS, hS]
      refine ⟨fun h => ?_, fun ha hb => ?_, fun h => ?_⟩
      · rw [ih.1 (by omega), h3 n (by omega) (by omega)]
      · by_cases hn : n = m
        · subst hn; rw [ih.1 (by omega), h1]; omega
        · have := ih.2.1 (by omega) (by omega)
          rw [h3 n hn (by omega)]; omega
      · by_cases hn : n = k
        · subst hn
          have := ih.2.1 (by omega) (by omega)
          rw [h2]; omega
        · rw [ih.2.2 (by omega), h3 n (by omega) hn]
  intro n hm hk
  rcases Nat.lt_trichotomy m k with h | h | h
  · have := base (fun x => s5 (kq g (31 + 11 * x))) (fun x => s5 (kq (oExch g m k) (31 + 11 * x))) m k h (by show _ = _; rw [key m, if_pos rfl]) (by show _ = _; rw [key k, if_neg (by omega), if_pos rfl]) (fun x h1 h2 => by show _ = _; rw [key x, if_neg h1, if_neg h2]) (fun q n => Nat.rec 0 (fun i r => r + q i) n) (fun _ => rfl) (fun _ _ => rfl) n
    have e : ∀ (q : XRow) (n : Nat), bsum q n = Nat.rec 0 (fun i r => r + s5 (kq q (31 + 11 * i))) n := fun q n => by
      induction n with
      | zero => rfl
      | succ n ih => show bsum q n + _ = _; rw [ih]
    rw [e, e]
    exact this.2.2 (by omega)
  · subst h
    refine bsum_eq (fun x hx j hj => ?_)
    by_cases h1 : x = m
    · subst h1
      show swk g (26 + 11 * x) (26 + 11 * x) 11 (31 + 11 * x + j) = _
      rw [show 31 + 11 * x + j = 26 + 11 * x + (5 + j) by omega, swk_a (by omega)]
    · exact swk_far (by omega) (by omega)
  · have := base (fun x => s5 (kq g (31 + 11 * x))) (fun x => s5 (kq (oExch g m k) (31 + 11 * x))) k m h (by show _ = _; rw [key k, if_neg (by omega), if_pos rfl]) (by show _ = _; rw [key m, if_pos rfl]) (fun x h1 h2 => by show _ = _; rw [key x, if_neg h2, if_neg h1]) (fun q n => Nat.rec 0 (fun i r => r + q i) n) (fun _ => rfl) (fun _ _ => rfl) n
    have e : ∀ (q : XRow) (n : Nat), bsum q n = Nat.rec 0 (fun i r => r + s5 (kq q (31 + 11 * i))) n := fun q n => by
      induction n with
      | zero => rfl
      | succ n ih => show bsum q n + _ = _; rw [ih]
    rw [e, e]
    exact this.2.2 (by omega)
/-- what stands in a machine's stretch after the exchange -/
theorem exch_at {m k x i : Nat} (hi : i < 11) : oExch g m k (26 + 11 * x + i) = if x = m then g (26 + 11 * k + i) else if x = k then g (26 + 11 * m + i) else g (26 + 11 * x + i) := by
  have hd : 26 + 11 * m = 26 + 11 * k ∨ 26 + 11 * m + 11 ≤ 26 + 11 * k ∨ 26 + 11 * k + 11 ≤ 26 + 11 * m := by omega
  by_cases h1 : x = m
  · subst h1
    rw [if_pos rfl]
    exact swk_a hi
  · rw [if_neg h1]
    by_cases h2 : x = k
    · subst h2
      rw [if_pos rfl]
      exact swk_c hd (by omega) hi
    · rw [if_neg h2]
      exact swk_far (by omega) (by omega)
theorem swk_at {f : XRow} {W m k x i : Nat} (hW : 0 < W) (hi : i < W) : swk f (m * W) (k * W) W (x * W + i) = if x = m then f (k * W + i) else if x = k then f (m * W + i) else f (x * W + i) := by
  have dist : ∀ p q : Nat, p < q → p * W + W ≤ q * W := fun p q h => by
    have := Nat.mul_le_mul_right W (show p + 1 ≤ q by omega)
    rw [Nat.succ_mul] at this; omega
  have hd : ∀ p q : Nat, p * W = q * W ∨ p * W + W ≤ q * W ∨ q * W + W ≤ p * W := fun p q => by
    rcases Nat.lt_trichotomy p q with h | h | h
    · exact Or.inr (Or.inl (dist p q h))
    · exact Or.inl (by rw [h])
    · exact Or.inr (Or.inr (dist q p h))
  by_cases h1 : x = m
  · subst h1
    rw [if_pos rfl]
    exact swk_a hi
  · rw [if_neg h1]
    by_cases h2 : x = k
    · subst h2
      rw [if_pos rfl]
      exact swk_c (hd m x) (Nat.le_refl _) hi
    · rw [if_neg h2]
      have a1 : x * W + W ≤ m * W ∨ m * W + W ≤ x * W := by
        rcases Nat.lt_or_gt_of_ne h1 with h | h
        · exact Or.inl (dist x m h)
        · exact Or.inr (dist m x h)
      have a2 : x * W + W ≤ k * W ∨ k * W + W ≤ x * W := by
        rcases Nat.lt_or_gt_of_ne h2 with h | h
        · exact Or.inl (dist x k h)
        · exact Or.inr (dist k x h)
      exact swk_far (by omega) (by omega)
theorem Rel_exch {m k : Nat} (hR : Rel b d g) (hm : m < cn (g 0)) (hk : k < cn (g 0)) : Rel b (d.1, swk d.2.1 (m * 7) (k * 7) 7, swk d.2.2.1 (m * 5) (k * 5) 5, d.2.2.2) (oExch g m k) := by
  obtain ⟨hI, hS, hM, hP, hN, e1, hC, e2, e3, e4, e5⟩ := hR
  have h6 := (IM_mc (Inv_M hI)).2
  have hcc := (IC_nc (Inv_C hI)).2
  have far : ∀ x, x < 26 ∨ 92 ≤ x → oExch g m k x = g x := fun x hx => swk_far (by omega) (by omega)
  have f0 := far 0 (by omega)
  have lt3 : ∀ x, x < cn (g 0) → ∃ y, y < cn (g 0) ∧ (∀ i, i < 11 → oExch g m k (26 + 11 * x + i) = g (26 + 11 * y + i)) ∧ (∀ i, i < 7 → swk d.2.1 (m * 7) (k * 7) 7 (x * 7 + i) = d.2.1 (y * 7 + i)) ∧ (∀ i, i < 5 → swk d.2.2.1 (m * 5) (k * 5) 5 (x * 5 + i) = d.2.2.1 (y * 5 + i)) := by
    intro x hx
    by_cases h1 : x = m
    · refine ⟨k, hk, fun i hi => ?_, fun i hi => ?_, fun i hi => ?_⟩
      · rw [exch_at hi, if_pos h1]
      · rw [swk_at (by omega) hi, if_pos h1]
      · rw [swk_at (by omega) hi, if_pos h1]
    · by_cases h2 : x = k
      · refine ⟨m, hm, fun i hi => ?_, fun i hi => ?_, fun i hi => ?_⟩
        · rw [exch_at hi, if_neg h1, if_pos h2]
        · rw [swk_at (by omega) hi, if_neg h1, if_pos h2]
        · rw [swk_at (by omega) hi, if_neg h1, if_pos h2]
      · refine ⟨x, hx, fun i hi => ?_, fun i hi => ?_, fun i hi => ?_⟩
        · rw [exch_at hi, if_neg h1, if_neg h2]
        · rw [swk_at (by omega) hi, if_neg h1, if_neg h2]
        · rw [swk_at (by omega) hi, if_neg h1, if_neg h2]
  have hK := Inv_K hI
  refine ⟨Inv_far hI (IS_eq (fun x _ _ => far x (by omega)) (Inv_S hI)) ?_ ?_ (fun x hx => far x (by omega)), RS_eq (fun x _ _ => far x (by omega)) hS, ?_, ?_, RN_eq (Inv_B hI) (far 2 (by omega)) (fun x _ _ => far x (by omega)) hN, ?_, RC_eq hcc (far 3 (by omega)) (fun x _ _ => far x (by omega)) hC, ?_, ?_, ?_, ?_⟩
  · refine ⟨by rw [f0]; exact (Inv_M hI).1, fun x hx => ?_⟩
    rw [f0] at hx
    obtain ⟨y, hy, q1, _, _⟩ := lt3 x hx
    obtain ⟨i0, i1, i2, i3, i4⟩ := (Inv_M hI).2 y hy
    refine ⟨?_, ?_, ?_, ?_, ?_⟩
    · have := q1 0 (by omega); rw [show 26 + 11 * x + 0 = 26 + 11 * x by omega] at this; rw [this]; exact i0
    · have := q1 1 (by omega); rw [show 26 + 11 * x + 1 = 27 + 11 * x by omega, show 26 + 11 * y + 1 = 27 + 11 * y by omega] at this; rw [this]; exact i1
    · have := q1 2 (by omega); rw [show 26 + 11 * x + 2 = 28 + 11 * x by omega, show 26 + 11 * y + 2 = 28 + 11 * y by omega] at this; rw [this]; exact i2
    · have := q1 3 (by omega); rw [show 26 + 11 * x + 3 = 29 + 11 * x by omega, show 26 + 11 * y + 3 = 29 + 11 * y by omega] at this; rw [this]; exact i3
    · have := q1 4 (by omega); rw [show 26 + 11 * x + 4 = 30 + 11 * x by omega, show 26 + 11 * y + 4 = 30 + 11 * y by omega] at this; rw [this]; exact i4
  · refine ⟨fun j hj => by rw [far _ (by omega), far _ (by omega), far _ (by omega)]; exact hK.1 j hj, fun x hx j hj => ?_, ?_, ?_⟩
    · rw [f0] at hx
      obtain ⟨y, hy, q1, _, _⟩ := lt3 x hx
      have := q1 (5 + j) (by omega)
      rw [show 26 + 11 * x + (5 + j) = 31 + 11 * x + j by omega, show 26 + 11 * y + (5 + j) = 31 + 11 * y + j by omega] at this
      rw [this]
      exact hK.2.1 y hy j hj
    · have := hK.2.2.1
      unfold tot at this ⊢
      rw [f0, bsum_swk (Or.inl hm) (Or.inl hk), kq_eq (g := g) (g' := oExch g m k) (a := 11) (fun j hj => far _ (by omega)), kq_eq (g := g) (g' := oExch g m k) (a := 16) (fun j hj => far _ (by omega))]
      exact this
    · rw [kq_eq (g := g) (g' := oExch g m k) (a := 21) (fun j hj => far _ (by omega))]
      exact hK.2.2.2
  · intro x hx
    rw [f0] at hx
    obtain ⟨y, hy, q1, q2, _⟩ := lt3 x hx
    refine ⟨fun j hj => ?_, ?_⟩
    · show swk d.2.1 (m * 7) (k * 7) 7 (x * 7 + j) = _
      rw [q2 j (by omega), q1 j (by omega)]
      exact (hM y hy).1 j hj
    · show swk d.2.1 (m * 7) (k * 7) 7 (x * 7 + 6) = _
      have := q1 10 (by omega)
      rw [show 26 + 11 * x + 10 = 36 + 11 * x by omega, show 26 + 11 * y + 10 = 36 + 11 * y by omega] at this
      rw [q2 6 (by omega), this]
      exact (hM y hy).2
  · obtain ⟨p1, p2, p3⟩ := hP
    have pf : ∀ x, cn (g 0) * 5 ≤ x → swk d.2.2.1 (m * 5) (k * 5) 5 x = d.2.2.1 x := fun x hx => swk_far (by omega) (by omega)
    refine ⟨fun j hj => ?_, fun x hx j hj => ?_, fun x hx1 hx2 => ?_⟩
    · rw [far _ (by omega), far _ (by omega), far _ (by omega)]
      show swk d.2.2.1 (m * 5) (k * 5) 5 (30 + j) = _ ∧ swk d.2.2.1 (m * 5) (k * 5) 5 (35 + j) = _ ∧ swk d.2.2.1 (m * 5) (k * 5) 5 (40 + j) = _
      rw [pf _ (by omega), pf _ (by omega), pf _ (by omega)]
      exact p1 j hj
    · rw [f0] at hx
      obtain ⟨y, hy, q1, _, q3⟩ := lt3 x hx
      have := q1 (5 + j) (by omega)
      rw [show 26 + 11 * x + (5 + j) = 31 + 11 * x + j by omega, show 26 + 11 * y + (5 + j) = 31 + 11 * y + j by omega] at this
      rw [this]
      show swk d.2.2.1 (m * 5) (k * 5) 5 (x * 5 + j) = _
      rw [q3 j hj]
      exact p2 y hy j hj
    · rw [f0] at hx1
      show swk d.2.2.1 (m * 5) (k * 5) 5 x = _
      rw [pf _ hx1]
      exact p3 x hx1 hx2
  · rw [far 2 (by omega)]; exact e1
  · rw [far 3 (by omega)]; exact e2
  · rw [far 0 (by omega)]; exact e3
  · rw [far 1 (by omega)]; exact e4
  · rw [far 4 (by omega)]; exact e5
end OQ
