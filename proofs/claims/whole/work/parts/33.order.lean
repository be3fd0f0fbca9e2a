/-! ===== level 2: the order of the bales; all sales ===== -/
def ahB (g : XRow) (a t : Nat) : Bool := if cn (g (138 + 9 * a)) = cn (g (138 + 9 * t)) then decide (a < t) else decide (cn (g (138 + 9 * t)) < cn (g (138 + 9 * a)))
def posO (g : XRow) (a : Nat) (o : Nat → Nat) : Nat → Nat | 0 => 0 | k + 1 => bif ahB g a (o k) then posO g a o k else k + 1
theorem posO_le (g : XRow) (a : Nat) (o : Nat → Nat) : ∀ n, posO g a o n ≤ n
  | 0 => Nat.le_refl _
  | n + 1 => by
    show (bif ahB g a (o n) then posO g a o n else n + 1) ≤ n + 1
    have := posO_le g a o n
    cases ahB g a (o n) with
    | false => exact Nat.le_refl _
    | true => show posO g a o n ≤ n + 1; omega
def insO (o : Nat → Nat) (p a : Nat) : Nat → Nat := fun j => if j < p then o j else if j = p then a else o (j - 1)
def orN (g : XRow) : Nat → Nat × (Nat → Nat) | 0 => (0, fun _ => 0) | i + 1 => if g (139 + 9 * i) = 0 then ((orN g i).1 + 1, insO (orN g i).2 (posO g i (orN g i).2 (orN g i).1) i) else orN g i
theorem orN_ok (g : XRow) : ∀ i, (orN g i).1 ≤ i ∧ (∀ j, j < (orN g i).1 → (orN g i).2 j < i ∧ g (139 + 9 * (orN g i).2 j) = 0) ∧ ∀ j k, j < k → k < (orN g i).1 → (orN g i).2 j ≠ (orN g i).2 k
  | 0 => ⟨Nat.le_refl _, fun j h => absurd h (Nat.not_lt_zero _), fun j k _ h => absurd h (Nat.not_lt_zero _)⟩
  | i + 1 => by
    obtain ⟨h1, h2, h3⟩ := orN_ok g i
    by_cases hs : g (139 + 9 * i) = 0
    · have e : orN g (i + 1) = ((orN g i).1 + 1, insO (orN g i).2 (posO g i (orN g i).2 (orN g i).1) i) := if_pos hs
      rw [e]
      have hp := posO_le g i (orN g i).2 (orN g i).1
      have val : ∀ j, j < (orN g i).1 + 1 → (insO (orN g i).2 (posO g i (orN g i).2 (orN g i).1) i j = i ∧ j = posO g i (orN g i).2 (orN g i).1) ∨ ∃ q, q < (orN g i).1 ∧ insO (orN g i).2 (posO g i (orN g i).2 (orN g i).1) i j = (orN g i).2 q ∧ ((j < posO g i (orN g i).2 (orN g i).1 ∧ q = j) ∨ (posO g i (orN g i).2 (orN g i).1 < j ∧ q + 1 = j)) := fun j hj => by
        unfold insO
        by_cases c1 : j < posO g i (orN g i).2 (orN g i).1
        · rw [if_pos c1]; exact Or.inr ⟨j, by omega, rfl, Or.inl ⟨c1, rfl⟩⟩
        · rw [if_neg c1]
          by_cases c2 : j = posO g i (orN g i).2 (orN g i).1
          · rw [if_pos c2]; exact Or.inl ⟨rfl, c2⟩
          · rw [if_neg c2]; exact Or.inr ⟨j - 1, by omega, rfl, Or.inr ⟨by omega, by omega⟩⟩
      refine ⟨by show (orN g i).1 + 1 ≤ i + 1; omega, fun j hj => ?_, fun j k hjk hk => ?_⟩
      · show insO (orN g i).2 (posO g i (orN g i).2 (orN g i).1) i j < i + 1 ∧ g (139 + 9 * insO (orN g i).2 (posO g i (orN g i).2 (orN g i).1) i j) = 0
        rcases val j hj with ⟨q1, _⟩ | ⟨q, q1, q2, _⟩
        · rw [q1]; exact ⟨by omega, hs⟩
        · rw [q2]; have := h2 q q1; exact ⟨by omega, this.2⟩
      · show insO (orN g i).2 (posO g i (orN g i).2 (orN g i).1) i j ≠ insO (orN g i).2 (posO g i (orN g i).2 (orN g i).1) i k
        replace hk : k < (orN g i).1 + 1 := hk
        rcases val j (by omega) with ⟨q1, q2⟩ | ⟨q, q1, q2, q3⟩
        · rcases val k hk with ⟨r1, r2⟩ | ⟨r, r1, r2, r3⟩
          · omega
          · rw [q1, r2]; have := (h2 r r1).1; omega
        · rcases val k hk with ⟨r1, r2⟩ | ⟨r, r1, r2, r3⟩
          · rw [q2, r1]; have := (h2 q q1).1; omega
          · rw [q2, r2]
            exact h3 q r (by omega) r1
    · have e : orN g (i + 1) = orN g i := if_neg hs
      rw [e]
      exact ⟨by omega, fun j hj => by have := h2 j hj; exact ⟨by omega, this.2⟩, h3⟩
def AR (f : XRow) (n : Nat) (o : Nat → Nat) : Prop := ∀ j, j < n → f j = nI (o j)
/-- those from the place k on moved by one -/
def shO (f : XRow) (n k : Nat) : XRow := fun j => if k < j ∧ j ≤ n then f (j - 1) else f j
theorem shO_n (f : XRow) (n : Nat) : shO f n n = f := by
  funext j
  exact if_neg (by omega)
theorem shO_s {f : XRow} {n k : Nat} (h : k < n) : upd (shO f n (k + 1)) (k + 1) (f k) = shO f n k := by
  funext j
  by_cases hj : j = k + 1
  · subst hj
    rw [pk_us]
    unfold shO
    rw [if_pos (by omega)]
    rfl
  · rw [un hj]
    unfold shO
    by_cases h2 : k + 1 < j ∧ j ≤ n
    · rw [if_pos h2, if_pos (by omega)]
    · rw [if_neg h2, if_neg (by omega)]
theorem shO_k {f : XRow} {n k : Nat} : shO f n (k + 1) k = f k := if_neg (by omega)
theorem AR_ins {f : XRow} {n p a : Nat} {o : Nat → Nat} (h : AR f n o) (hp : p ≤ n) : AR (upd (shO f n p) p (nI a)) (n + 1) (insO o p a) := fun j hj => by
  unfold insO
  by_cases c2 : j = p
  · subst c2
    rw [pk_us, if_neg (by omega), if_pos rfl]
  · rw [un c2]
    by_cases c1 : j < p
    · rw [if_pos c1]
      unfold shO
      rw [if_neg (by omega)]
      exact h j (by omega)
    · rw [if_neg c1, if_neg c2]
      unfold shO
      rw [if_pos (by omega)]
      exact h (j - 1) (by omega)
section OD
variable {b : Nat} {d : PD} {g : XRow}
theorem gBy_anti {x y : Nat} (h : gBy x < gBy y) : y < x := by
  unfold gBy at h
  repeat' split at h
  all_goals omega
theorem gBy_le3 (x : Nat) : gBy x ≤ 3 := by
  unfold gBy
  repeat' split
  all_goals omega
theorem tc_ahead {f : XRow} {a t : Nat} {post : Bool → Prop} (hB : IB g) (hN : RN f g) (ha : a < cn (g 2)) (ht : t < cn (g 2)) (h : post (ahB g a t)) : wp_X0_isAhead f (nI a) (nI t) post := by
  have h60 := (IB_nb hB).2
  obtain ⟨s1, s2⟩ := smp_ok (hB.2 a ha)
  obtain ⟨s3, s4⟩ := smp_ok (hB.2 t ht)
  obtain ⟨_, _, _, _, n5, n6, _, _⟩ := hN a ha
  obtain ⟨_, _, _, _, m5, m6, _, _⟩ := hN t ht
  have q1 := gBy_le3 (cn (g (138 + 9 * a)))
  have q2 := gBy_le3 (cn (g (138 + 9 * t)))
  refine tb_get (W := 12) (I := a) (J := 9) rfl rfl rfl (by omega) (by omega) (tb_get (W := 12) (I := t) (J := 9) rfl rfl rfl (by omega) (by omega) ?_)
  rw [n6, m6]
  intro x hx
  subst hx
  refine tb_get (W := 12) (I := a) (J := 8) rfl rfl rfl (by omega) (by omega) (tb_get (W := 12) (I := t) (J := 8) rfl rfl rfl (by omega) (by omega) ?_)
  rw [n5, m5]
  intro y hy
  rw [s1, s3] at hy
  subst hy
  unfold ahB at h
  refine ⟨fun h0 => ⟨fun h1 => ?_, fun h1 => ?_⟩, fun h0 => ?_⟩
  · have e := (sub_0 (by omega) (by omega)).mp h1
    rw [if_pos e] at h
    refine pk_le t a (fun h9 => ?_) (fun h9 => ?_)
    · rw [decide_eq_false (by omega)] at h; exact h
    · rw [decide_eq_true h9] at h; exact h
  · have e : ¬ cn (g (138 + 9 * a)) = cn (g (138 + 9 * t)) := fun h9 => h1 ((sub_0 (by omega) (by omega)).mpr h9)
    rw [if_neg e] at h
    refine ⟨fun h2 => ?_, fun h2 => ?_⟩
    · have := (sub_le0 (by omega) (by omega)).mp h2
      rw [decide_eq_false (by omega)] at h; exact h
    · have : ¬ cn (g (138 + 9 * a)) ≤ cn (g (138 + 9 * t)) := fun h9 => h2 ((sub_le0 (by omega) (by omega)).mpr h9)
      rw [decide_eq_true (by omega)] at h; exact h
  · have e : ¬ gBy (cn (g (138 + 9 * a))) = gBy (cn (g (138 + 9 * t))) := fun h9 => h0 ((sub_0 (by omega) (by omega)).mpr h9)
    have e2 : ¬ cn (g (138 + 9 * a)) = cn (g (138 + 9 * t)) := fun h9 => e (by rw [h9])
    rw [if_neg e2] at h
    refine ⟨fun h2 => ?_, fun h2 => ?_⟩
    · have h3 := (sub_ge0 (by omega) (by omega)).mp h2
      have := gBy_anti (show gBy (cn (g (138 + 9 * t))) < gBy (cn (g (138 + 9 * a))) by omega)
      rw [decide_eq_false (by omega)] at h; exact h
    · have h3 : ¬ gBy (cn (g (138 + 9 * t))) ≤ gBy (cn (g (138 + 9 * a))) := fun h9 => h2 ((sub_ge0 (by omega) (by omega)).mpr h9)
      have := gBy_anti (show gBy (cn (g (138 + 9 * a))) < gBy (cn (g (138 + 9 * t))) by omega)
      rw [decide_eq_true this] at h; exact h
theorem tm_ahead {a t : Nat} {post : Bool → Prop} (hB : IB g) (ha : a < cn (g 2)) (ht : t < cn (g 2)) (h : post (ahB g a t)) : wp_X9_isAhead g (nI a) (nI t) post := by
  have h60 := (IB_nb hB).2
  obtain ⟨s1, s2⟩ := smp_ok (hB.2 a ha)
  obtain ⟨s3, s4⟩ := smp_ok (hB.2 t ht)
  have e6 : ∀ x, 132 + 9 * x + 6 = 138 + 9 * x := fun x => by omega
  refine tm_bAt (m := a) (w := 6) rfl rfl ⟨v672 (by omega), tm_bAt (m := t) (w := 6) rfl rfl ⟨v672 (by omega), ?_⟩⟩
  rw [tn_nI (by omega), tn_nI (by omega), e6, e6]
  unfold ahB at h
  refine pk_eq (cn (g (138 + 9 * a))) (cn (g (138 + 9 * t))) (fun h0 => ?_) (fun h0 => ?_) s1 s3
  · rw [if_pos h0] at h
    refine pk_le t a (fun h9 => ?_) (fun h9 => ?_)
    · rw [decide_eq_false (by omega)] at h; exact h
    · rw [decide_eq_true h9] at h; exact h
  · rw [if_neg h0] at h
    refine tm_bAt (m := a) (w := 6) rfl rfl ⟨v672 (by omega), tm_bAt (m := t) (w := 6) rfl rfl ⟨v672 (by omega), ?_⟩⟩
    rw [tn_nI (by omega), tn_nI (by omega), e6, e6]
    refine pk_le (cn (g (138 + 9 * a))) (cn (g (138 + 9 * t))) (fun h9 => ?_) (fun h9 => ?_) s1 s3
    · rw [decide_eq_false (by omega)] at h; exact h
    · rw [decide_eq_true h9] at h; exact h
theorem tc_ins {f s0 : XRow} {a n : Nat} {o : Nat → Nat} {post : XRow → Prop} (hB : IB g) (hN : RN f g) (ha : a < cn (g 2)) (hn : n ≤ a) (hA : AR s0 n o) (ho : ∀ j, j < n → o j < a) (h : post (upd (shO s0 n (posO g a o n)) (posO g a o n) (nI a))) : wp_X0_insert f s0 (nI a) (nI n) post := by
  have h60 := (IB_nb hB).2
  have key : ∀ k, k ≤ n → posO g a o k = posO g a o n → wp_X0_insert_L2 f (nI a) (fun (v8 : Int32) (v9 : XRow) => wp_X6_put 60 60 v9 0 v8 (nI a) (fun u10 : XRow => post u10)) (k + 1) (nI k) (shO s0 n k) := by
    have fin : ∀ k, k ≤ n → posO g a o n = k → wp_X6_put 60 60 (shO s0 n k) 0 (nI k) (nI a) (fun u10 : XRow => post u10) := fun k hk e => by
      refine tb_put (W := 60) (I := 0) (J := k) rfl rfl rfl (by omega) (by omega) ?_
      rw [Nat.zero_mul, Nat.zero_add]
      rw [e] at h
      exact h
    intro k
    induction k with
    | zero =>
      intro _ e
      exact if_y (by decide) (fin 0 (by omega) e.symm)
    | succ k ih =>
      intro hk e
      refine if_n (nI_nle (by omega) (by omega)) ?_
      rw [nI_pred]
      refine tb_get (W := 60) (I := 0) (J := k) rfl rfl rfl (by omega) (by omega) ?_
      rw [Nat.zero_mul, Nat.zero_add, shO_k, hA k (by omega)]
      refine tc_ahead hB hN ha (by have := ho k (by omega); omega) ?_
      have e2 : posO g a o (k + 1) = bif ahB g a (o k) then posO g a o k else k + 1 := rfl
      cases hc : ahB g a (o k) with
      | false =>
        rw [hc] at e2
        replace e2 : posO g a o (k + 1) = k + 1 := e2
        exact bb_f rfl (fin (k + 1) hk (by omega))
      | true =>
        rw [hc] at e2
        replace e2 : posO g a o (k + 1) = posO g a o k := e2
        refine bb_t rfl (tb_get (W := 60) (I := 0) (J := k) rfl rfl rfl (by omega) (by omega) (tb_put (W := 60) (I := 0) (J := k + 1) rfl rfl rfl (by omega) (by omega) ?_))
        rw [Nat.zero_mul, Nat.zero_add, Nat.zero_add, shO_k, shO_s (by omega)]
        intro x hx
        rw [pk_m1] at hx
        rw [hx]
        exact ih (by omega) (by omega)
  have := key n (Nat.le_refl _) rfl
  rw [shO_n] at this
  exact ⟨_, this⟩
theorem tm_ins {s0 : XRow} {a n : Nat} {o : Nat → Nat} {kk : Int32 → XRow → Prop} (hB : IB g) (ha : a < cn (g 2)) (hn : n ≤ a) (hA : AR s0 n o) (ho : ∀ j, j < n → o j < a) (h : kk (nI (posO g a o n)) (shO s0 n (posO g a o n))) : ∃ fl, wp_X9_orders_L39 g (nI a) kk fl (nI n) s0 := by
  have h60 := (IB_nb hB).2
  have key : ∀ k, k ≤ n → posO g a o k = posO g a o n → wp_X9_orders_L39 g (nI a) kk (k + 1) (nI k) (shO s0 n k) := by
    intro k
    induction k with
    | zero =>
      intro _ e
      refine if_y (by decide) ?_
      rw [← e] at h
      exact h
    | succ k ih =>
      intro hk e
      refine if_n (nI_nle (by omega) (by omega)) ?_
      rw [nI_pred, nI_clamp (by omega), shO_k, hA k (by omega)]
      refine ⟨vp_in_nI (by omega) (by omega), tm_ahead hB ha (by have := ho k (by omega); omega) ?_⟩
      have e2 : posO g a o (k + 1) = bif ahB g a (o k) then posO g a o k else k + 1 := rfl
      cases hc : ahB g a (o k) with
      | false =>
        rw [hc] at e2
        replace e2 : posO g a o (k + 1) = k + 1 := e2
        refine bb_f rfl ?_
        rw [← e, e2] at h
        exact h
      | true =>
        rw [hc] at e2
        replace e2 : posO g a o (k + 1) = posO g a o k := e2
        refine bb_t rfl ⟨vp_in_nI (by omega) (by omega), vp_in_nI (by omega) (by omega), ?_⟩
        intro x hx
        rw [pk_m1] at hx
        rw [hx, nI_clamp (by omega), ← hA k (by omega), shO_s (by omega)]
        exact ih (by omega) (by omega)
  have := key n (Nat.le_refl _) rfl
  rw [shO_n] at this
  exact ⟨_, this⟩
theorem tc_order {f s0 : XRow} {cc : Int32} {post : Int32 × XRow → Prop} (hB : IB g) (hN : RN f g) (hcc : cc = g 2) (h : ∀ s, AR s (orN g (cn (g 2))).1 (orN g (cn (g 2))).2 → post (nI (orN g (cn (g 2))).1, s)) : wp_X0_putInOrder f cc s0 post := by
  subst hcc
  obtain ⟨e2, h60⟩ := IB_nb hB
  refine loop_0 (fun n k (s : Int32 × XRow) => wp_X0_putInOrder_L4 f (g 2) (fun (v9 : Int32) (v10 : Int32) (v11 : XRow) => post (v10, v11)) n (nI k) s.1 s.2) (fun k s => s.1 = nI (orN g k).1 ∧ AR s.2 (orN g k).1 (orN g k).2) (cn (g 2)) (0, s0) ⟨rfl, fun j hj => absurd hj (Nat.not_lt_zero _)⟩ ?_ ?_
  · intro n s hs
    refine if_y ?_ ?_
    · conv => lhs; rw [e2]
      exact nI_le (Nat.le_refl _) (by omega)
    · show post (s.1, s.2)
      rw [hs.1]
      exact h _ hs.2
  · intro n i s hi hs hk
    obtain ⟨v2, v3⟩ := s
    obtain ⟨t1, t2⟩ := hs
    dsimp only at t1 t2
    subst t1
    have e1 : nI i + 1 = nI (i + 1) := nI_1 i
    obtain ⟨o1, o2, o3⟩ := orN_ok g i
    obtain ⟨_, _, _, _, _, _, n7, _⟩ := hN i hi
    refine if_n ?_ (tb_get (W := 12) (I := i) (J := 10) rfl rfl rfl (by omega) (by omega) ?_)
    · conv => arg 1; lhs; rw [e2]
      exact nI_ge hi (by omega)
    · rw [n7]
      refine ⟨fun hs => bb_t rfl (tc_ins hB hN hi o1 t2 (fun j hj => (o2 j hj).1) ?_), fun hs => bb_f rfl ?_⟩
      · intro x hx y hy
        have e : orN g (i + 1) = ((orN g i).1 + 1, insO (orN g i).2 (posO g i (orN g i).2 (orN g i).1) i) := if_pos hs
        have e9 : nI (orN g i).1 + 1 = nI ((orN g i).1 + 1) := nI_1 _
        rw [hx, hy, e1, e9]
        refine hk (nI ((orN g i).1 + 1), _) ?_
        rw [e]
        exact ⟨rfl, AR_ins t2 (posO_le _ _ _ _)⟩
      · intro x hx
        have e : orN g (i + 1) = orN g i := if_neg hs
        rw [hx, e1]
        refine hk (nI (orN g i).1, v3) ?_
        rw [e]
        exact ⟨rfl, t2⟩
theorem tm_order {s0 : XRow} {post : Int32 × XRow → Prop} (hB : IB g) (h : ∀ s, AR s (orN g (cn (g 2))).1 (orN g (cn (g 2))).2 → post (nI (orN g (cn (g 2))).1, s)) : wp_X9_orders g s0 post := by
  obtain ⟨e2, h60⟩ := IB_nb hB
  refine loop_0 (fun n k (s : Int32 × XRow) => wp_X9_orders_L7 g (fun (v14 : Int32) (v15 : Int32) (v16 : XRow) => post (v15, v16)) n (nI k) s.1 s.2) (fun k s => s.1 = nI (orN g k).1 ∧ AR s.2 (orN g k).1 (orN g k).2) (cn (g 2)) (0, s0) ⟨rfl, fun j hj => absurd hj (Nat.not_lt_zero _)⟩ ?_ ?_
  · intro n s hs
    refine ⟨v672 (n := 2) (by omega), if_y ?_ ?_⟩
    · show g 2 ≤ _
      conv => lhs; rw [e2]
      exact nI_le (Nat.le_refl _) (by omega)
    · show post (s.1, s.2)
      rw [hs.1]
      exact h _ hs.2
  · intro n i s hi hs hk
    obtain ⟨v2, v3⟩ := s
    obtain ⟨t1, t2⟩ := hs
    dsimp only at t1 t2
    subst t1
    have e1 : nI i + 1 = nI (i + 1) := nI_1 i
    obtain ⟨o1, o2, o3⟩ := orN_ok g i
    refine ⟨v672 (n := 2) (by omega), if_n ?_ (tm_bAt (m := i) (w := 7) rfl rfl ⟨v672 (by omega), ?_⟩)⟩
    · show ¬ g 2 ≤ _
      conv => arg 1; lhs; rw [e2]
      exact nI_ge hi (by omega)
    · rw [tn_nI (by omega), show 132 + 9 * i + 7 = 139 + 9 * i by omega]
      have hp := posO_le g i (orN g i).2 (orN g i).1
      refine ⟨fun hs => tm_ins hB hi o1 t2 (fun j hj => (o2 j hj).1) ⟨vp_in_nI (by omega) (by omega), ?_⟩, fun hs => ?_⟩
      · intro x hx y hy
        have e : orN g (i + 1) = ((orN g i).1 + 1, insO (orN g i).2 (posO g i (orN g i).2 (orN g i).1) i) := if_pos hs
        have e9 : nI (orN g i).1 + 1 = nI ((orN g i).1 + 1) := nI_1 _
        rw [hx, hy, e1, e9, nI_clamp (by omega)]
        refine hk (nI ((orN g i).1 + 1), _) ?_
        rw [e]
        exact ⟨rfl, AR_ins t2 hp⟩
      · intro x hx
        have e : orN g (i + 1) = orN g i := if_neg hs
        rw [hx, e1]
        refine hk (nI (orN g i).1, v3) ?_
        rw [e]
        exact ⟨rfl, t2⟩
/-! all sales -/
def sA (o : Nat → Nat) (g : XRow) : Nat → Nat × XRow | 0 => (0, g) | k + 1 => match bfN (sA o g k).2 (o k) (cn ((sA o g k).2 3)) with | none => sA o g k | some c => ((sA o g k).1 + 1, oSell (sA o g k).2 (o k) c)
def dNC (d : PD) (N C : XRow) : PD := (d.1, d.2.1, d.2.2.1, N, d.2.2.2.2.1, d.2.2.2.2.2.1, C, d.2.2.2.2.2.2.2)
theorem sell_keeps {i c x : Nat} (h1 : x ≠ 94 + 5 * c) (h2 : x ≠ 96 + 5 * c) (h3 : x ≠ 5) (h4 : x ≠ 139 + 9 * i) (h5 : x ≠ 140 + 9 * i) : oSell g i c x = g x := by
  unfold oSell
  rw [un h5, un h4, un h3, un h2, un h1]
/-- what holds at each place of the round of sales -/
theorem sA_ok {n : Nat} {o : Nat → Nat} (hI : Inv b g) (ho : ∀ j, j < n → o j < cn (g 2) ∧ g (139 + 9 * o j) = 0) (hd : ∀ j k, j < k → k < n → o j ≠ o k) : ∀ k, k ≤ n → (sA o g k).1 ≤ k ∧ (sA o g k).2 2 = g 2 ∧ (sA o g k).2 3 = g 3 ∧ ∀ j, k ≤ j → j < n → (sA o g k).2 (139 + 9 * o j) = 0
  | 0, _ => ⟨Nat.le_refl _, rfl, rfl, fun j _ hj => (ho j hj).2⟩
  | k + 1, hk => by
    obtain ⟨h1, h2, h3, h4⟩ := sA_ok hI ho hd k (by omega)
    have e : sA o g (k + 1) = match bfN (sA o g k).2 (o k) (cn ((sA o g k).2 3)) with | none => sA o g k | some c => ((sA o g k).1 + 1, oSell (sA o g k).2 (o k) c) := rfl
    cases hb : bfN (sA o g k).2 (o k) (cn ((sA o g k).2 3)) with
    | none =>
      rw [hb] at e
      rw [e]
      exact ⟨by show (sA o g k).1 ≤ k + 1; omega, h2, h3, fun j hj hj2 => h4 j (by omega) hj2⟩
    | some c =>
      rw [hb] at e
      rw [e]
      have hc := (bfN_lt hb).1
      have h8 := (IC_nc (Inv_C hI)).2
      rw [h3] at hc
      have hok := (ho k (by omega)).1
      have h60 := (IB_nb (Inv_B hI)).2
      refine ⟨by show (sA o g k).1 + 1 ≤ k + 1; omega, ?_, ?_, fun j hj hj2 => ?_⟩
      · show oSell _ _ _ 2 = _
        rw [sell_keeps (by omega) (by omega) (by omega) (by omega) (by omega)]; exact h2
      · show oSell _ _ _ 3 = _
        rw [sell_keeps (by omega) (by omega) (by omega) (by omega) (by omega)]; exact h3
      · show oSell _ _ _ (139 + 9 * o j) = 0
        have := hd k j (by omega) hj2
        rw [sell_keeps (by omega) (by omega) (by omega) (by omega) (by omega)]
        exact h4 j (by omega) hj2
theorem sA_nn (k : Nat) (o : Nat → Nat) (g : XRow) : sA o g (k + 1) = match bfN (sA o g k).2 (o k) (cn ((sA o g k).2 3)) with | none => sA o g k | some c => ((sA o g k).1 + 1, oSell (sA o g k).2 (o k) c) := rfl
theorem Rel_ord {x : XRow} (hR : Rel b d g) : Rel b (d.1, d.2.1, d.2.2.1, d.2.2.2.1, d.2.2.2.2.1, x, d.2.2.2.2.2.2) g := hR
theorem tc_handAll {post : Int32 × XRow × XRow × XRow → Prop} (hR : Rel b d g) (h : ∀ s N C, AR s (orN g (cn (g 2))).1 (orN g (cn (g 2))).2 → Rel b (dNC d N C) (sA (orN g (cn (g 2))).2 g (orN g (cn (g 2))).1).2 → post (nI (sA (orN g (cn (g 2))).2 g (orN g (cn (g 2))).1).1, N, s, C)) : wp_X4_handOverAll d.2.2.2.1 d.2.2.2.2.1 d.2.2.2.2.2.1 d.2.2.2.2.2.2.1 d.2.2.2.2.2.2.2.1 post := by
  have h60 := (IB_nb (Inv_B hR.1)).2
  have h8 := (IC_nc (Inv_C hR.1)).2
  obtain ⟨o1, o2, o3⟩ := orN_ok g (cn (g 2))
  refine tc_order (Inv_B hR.1) (Rel_N hR) (Rel_bc hR) (fun s hs => ?_)
  have ok := sA_ok (n := (orN g (cn (g 2))).1) hR.1 o2 o3
  refine loop_0 (fun n k (q : Int32 × XRow × XRow) => wp_X4_handOverAll_L12 d.2.2.2.2.2.2.2.1 (nI (orN g (cn (g 2))).1, s) (fun (v12 : Int32) (v13 : Int32) (v14 : XRow) (v15 : XRow) => post (v13, v14, s, v15)) n (nI k) q.1 q.2.1 q.2.2) (fun k q => q.1 = nI (sA (orN g (cn (g 2))).2 g k).1 ∧ Rel b (dNC d q.2.1 q.2.2) (sA (orN g (cn (g 2))).2 g k).2) (orN g (cn (g 2))).1 (0, d.2.2.2.1, d.2.2.2.2.2.2.1) ⟨rfl, hR⟩ ?_ ?_
  · intro n q hq
    refine if_y (nI_le (Nat.le_refl _) (by omega)) ?_
    show post (q.1, q.2.1, s, q.2.2)
    rw [hq.1]
    exact h s _ _ hs hq.2
  · intro n k q hk hq hkk
    obtain ⟨v3, v4, v5⟩ := q
    obtain ⟨t1, t2⟩ := hq
    dsimp only at t1 t2
    subst t1
    have e1 : nI k + 1 = nI (k + 1) := nI_1 k
    obtain ⟨a1, a2, a3, a4⟩ := ok k (by omega)
    have hok := (o2 k hk).1
    refine if_n (nI_ge hk (by omega)) (tb_get (W := 60) (I := 0) (J := k) rfl rfl rfl (by omega) (by omega) ?_)
    rw [Nat.zero_mul, Nat.zero_add, show (nI (orN g (cn (g 2))).1, s).2 k = nI ((orN g (cn (g 2))).2 k) from hs k hk]
    have hst := a4 k (Nat.le_refl _) hk
    refine tc_buyer (d := dNC d v4 v5) t2 rfl (by rw [a2]; exact hok) ?_
    rw [if_pos hst]
    have e := sA_nn k (orN g (cn (g 2))).2 g
    cases hb : bfN (sA (orN g (cn (g 2))).2 g k).2 ((orN g (cn (g 2))).2 k) (cn ((sA (orN g (cn (g 2))).2 g k).2 3)) with
    | none =>
      rw [hb] at e
      refine if_y rfl (fun x hx => ?_)
      rw [hx, e1]
      refine hkk (nI (sA (orN g (cn (g 2))).2 g k).1, v4, v5) ?_
      rw [e]
      exact ⟨rfl, t2⟩
    | some c =>
      rw [hb] at e
      have hc := (bfN_lt hb).1
      rw [a3] at hc
      refine if_n (nI_m1 (by omega)) (tc_hand (d := dNC d v4 v5) t2 rfl (by rw [a2]; exact hok) hst hb (fun x hx y hy => ?_))
      have e9 : nI (sA (orN g (cn (g 2))).2 g k).1 + 1 = nI ((sA (orN g (cn (g 2))).2 g k).1 + 1) := nI_1 _
      rw [hx, hy, e1, e9]
      refine hkk (nI ((sA (orN g (cn (g 2))).2 g k).1 + 1), _, _) ?_
      rw [e]
      exact ⟨rfl, Rel_sell (d := dNC d v4 v5) t2 (by rw [a2]; exact hok) hst hb⟩
theorem tm_sellAll {past s0 : XRow} {pasts : Int32} {post : Int32 × Int32 × Int32 × Int32 × XRow × XRow × XRow → Prop} {hn hc : Int32} {hK : Nat → PD} (hR : Rel b d g) (hH : HR b hn hc hK past pasts) (hInv : ∀ k, k ≤ (orN g (cn (g 2))).1 → Inv b (sA (orN g (cn (g 2))).2 g k).2) (h : ∀ s, AR s (orN g (cn (g 2))).1 (orN g (cn (g 2))).2 → post (nI (sA (orN g (cn (g 2))).2 g (orN g (cn (g 2))).1).1, mnK pasts, 0, nI (orN g (cn (g 2))).1, (sA (orN g (cn (g 2))).2 g (orN g (cn (g 2))).1).2, mpK past pasts g, s)) : wp_X9_sellAll g past s0 pasts post := by
  have h60 := (IB_nb (Inv_B hR.1)).2
  have h8 := (IC_nc (Inv_C hR.1)).2
  obtain ⟨o1, o2, o3⟩ := orN_ok g (cn (g 2))
  refine tm_changes hH (tm_order (Inv_B hR.1) (fun s hs => ?_))
  have ok := sA_ok (n := (orN g (cn (g 2))).1) hR.1 o2 o3
  refine loop_0 (fun n k (q : Int32 × XRow) => wp_X9_sellAll_L21 (nI (orN g (cn (g 2))).1, s) (fun (v11 : Int32) (v12 : Int32) (v13 : XRow) => post (v12, mnK pasts, 0, nI (orN g (cn (g 2))).1, v13, mpK past pasts g, s)) n (nI k) q.1 q.2) (fun k q => q.1 = nI (sA (orN g (cn (g 2))).2 g k).1 ∧ q.2 = (sA (orN g (cn (g 2))).2 g k).2) (orN g (cn (g 2))).1 (0, g) ⟨rfl, rfl⟩ ?_ ?_
  · intro n q hq
    refine if_y (nI_le (Nat.le_refl _) (by omega)) ?_
    show post (q.1, mnK pasts, 0, nI (orN g (cn (g 2))).1, q.2, mpK past pasts g, s)
    rw [hq.1, hq.2]
    exact h s hs
  · intro n k q hk hq hkk
    obtain ⟨v4, v5⟩ := q
    obtain ⟨t1, t2⟩ := hq
    dsimp only at t1 t2
    subst t1 t2
    have e1 : nI k + 1 = nI (k + 1) := nI_1 k
    obtain ⟨a1, a2, a3, a4⟩ := ok k (by omega)
    have hok := (o2 k hk).1
    have hIk := hInv k (by omega)
    have hBk := (Inv_B hIk).2 ((orN g (cn (g 2))).2 k) (by rw [a2]; exact hok)
    refine if_n (nI_ge hk (by omega)) ⟨vp_in_nI (by omega) (by omega), ?_⟩
    rw [nI_clamp (by omega), show (nI (orN g (cn (g 2))).1, s).2 k = nI ((orN g (cn (g 2))).2 k) from hs k hk]
    refine tm_best rfl (Inv_C hIk) hBk (by omega) ?_
    have e := sA_nn k (orN g (cn (g 2))).2 g
    cases hb : bfN (sA (orN g (cn (g 2))).2 g k).2 ((orN g (cn (g 2))).2 k) (cn ((sA (orN g (cn (g 2))).2 g k).2 3)) with
    | none =>
      rw [hb] at e
      refine if_y (by decide) (fun x hx => ?_)
      rw [hx, e1]
      refine hkk (nI (sA (orN g (cn (g 2))).2 g k).1, (sA (orN g (cn (g 2))).2 g k).2) ?_
      rw [e]
      exact ⟨rfl, rfl⟩
    | some c =>
      rw [hb] at e
      have hc := (bfN_lt hb).1
      rw [a3] at hc
      refine if_n (nI_pos (by omega)) ⟨vp_in_nI (by omega) (by omega), tm_sells hIk rfl (by rw [a2]; exact hok) hb (fun x hx y hy => ?_)⟩
      have e9 : nI (sA (orN g (cn (g 2))).2 g k).1 + 1 = nI ((sA (orN g (cn (g 2))).2 g k).1 + 1) := nI_1 _
      rw [hx, hy, e1, e9]
      refine hkk (nI ((sA (orN g (cn (g 2))).2 g k).1 + 1), _) ?_
      rw [e]
      exact ⟨rfl, rfl⟩
/-- the rows between keep the invariants -/
theorem sA_Rel {n : Nat} {o : Nat → Nat} (hR : Rel b d g) (ho : ∀ j, j < n → o j < cn (g 2) ∧ g (139 + 9 * o j) = 0) (hd : ∀ j k, j < k → k < n → o j ≠ o k) : ∀ k, k ≤ n → ∃ d', Rel b d' (sA o g k).2
  | 0, _ => ⟨d, hR⟩
  | k + 1, hk => by
    obtain ⟨d', h⟩ := sA_Rel hR ho hd k (by omega)
    obtain ⟨a1, a2, a3, a4⟩ := sA_ok hR.1 ho hd k (by omega)
    have e := sA_nn k o g
    cases hb : bfN (sA o g k).2 (o k) (cn ((sA o g k).2 3)) with
    | none => rw [hb] at e; rw [e]; exact ⟨d', h⟩
    | some c =>
      rw [hb] at e
      rw [e]
      exact ⟨_, Rel_sell h (by rw [a2]; exact (ho k (by omega)).1) (a4 k (Nat.le_refl _) (by omega)) hb⟩
end OD
