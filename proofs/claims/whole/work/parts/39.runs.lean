/-! ===== level 2: whether a pass changes something; runs ===== -/
def anyF (f : Nat → Bool) : Nat → Bool | 0 => false | n + 1 => anyF f n || f n
theorem anyF_iff (f : Nat → Bool) : ∀ n, anyF f n = true ↔ ∃ k, k < n ∧ f k = true
  | 0 => ⟨fun h => Bool.noConfusion h, fun ⟨k, h, _⟩ => absurd h (Nat.not_lt_zero _)⟩
  | n + 1 => by
    show (anyF f n || f n) = true ↔ _
    rw [Bool.or_eq_true, anyF_iff f n]
    constructor
    · rintro (⟨k, h1, h2⟩ | h)
      · exact ⟨k, by omega, h2⟩
      · exact ⟨n, by omega, h⟩
    · rintro ⟨k, h1, h2⟩
      by_cases hk : k = n
      · subst hk; exact Or.inr h2
      · exact Or.inl ⟨k, by omega, h2⟩
def dfB (u v : XRow) (x : Nat) : Bool := !decide (u x = v x)
def dfP (u v : XRow) (k : Nat) : Bool := dfB u v (11 + k)
def dfM (u v : XRow) (m : Nat) : Bool := anyF (fun k => dfB u v (31 + 11 * m + k)) 5
def dfA (u v : XRow) (n : Nat) : Bool := anyF (dfP u v) 10 || anyF (dfM u v) n
section PD1
variable {b : Nat} {d : PD} {g : XRow}
theorem tm_df1 {u1 : XRow} {u2 : XRow × XRow × XRow} {kk : Int32 → Bool → Prop} {v0 : Bool} (h : kk 21 (v0 || anyF (dfP u2.1 u1) 10)) : ∃ fl, wp_X9_goesOn_L41 u1 u2 kk fl 11 v0 := by
  refine pk_loop (fun n i (v : Bool) => wp_X9_goesOn_L41 u1 u2 kk n (nI i) v) (fun i v => 11 ≤ i ∧ v = (v0 || anyF (dfP u2.1 u1) (i - 11))) 21 11 v0 (by omega) ⟨by omega, by show v0 = (v0 || false); rw [Bool.or_false]⟩ ?_ ?_
  · intro n v hv
    rw [hv.2]
    exact if_y (nI_le (a := 21) (b := 21) (by omega) (by omega)) h
  · intro n i v hi hv hk
    obtain ⟨h11, hv⟩ := hv
    have e1 : nI i + 1 = nI (i + 1) := nI_1 i
    have es : (v0 || anyF (dfP u2.1 u1) (i + 1 - 11)) = (v || dfP u2.1 u1 (i - 11)) := by
      rw [hv, show i + 1 - 11 = (i - 11) + 1 by omega]
      show (v0 || (anyF (dfP u2.1 u1) (i - 11) || dfP u2.1 u1 (i - 11))) = _
      rw [Bool.or_assoc]
    refine if_n (nI_ge (b := 21) hi (by omega)) ⟨fun ht x hx => ?_, fun hf => ⟨v672 (by omega), v672 (by omega), ?_⟩⟩
    · rw [hx, e1]
      exact hk true ⟨by omega, by rw [es, ht]; rfl⟩
    · rw [tn_nI (by omega)]
      have ed : dfP u2.1 u1 (i - 11) = !decide (u2.1 i = u1 i) := by
        unfold dfP dfB
        rw [show 11 + (i - 11) = i by omega]
      refine ⟨fun he x hx => ?_, fun he x hx => ?_⟩
      · rw [hx, e1]
        exact hk false ⟨by omega, by rw [es, hf, ed, decide_eq_true he]; rfl⟩
      · rw [hx, e1]
        exact hk true ⟨by omega, by rw [es, hf, ed, decide_eq_false he]; rfl⟩
theorem tm_df2 {u1 : XRow} {u2 : XRow × XRow × XRow} {m : Nat} {kk : Int32 → Bool → Prop} {v0 : Bool} (hm : m < 6) (h : kk 5 (v0 || dfM u2.1 u1 m)) : ∃ fl, wp_X9_goesOn_L92 u1 u2 (nI m) kk fl 0 v0 := by
  refine loop_0 (fun n i (v : Bool) => wp_X9_goesOn_L92 u1 u2 (nI m) kk n (nI i) v) (fun i v => v = (v0 || anyF (fun k => dfB u2.1 u1 (31 + 11 * m + k)) i)) 5 v0 (by show v0 = (v0 || false); rw [Bool.or_false]) ?_ ?_
  · intro n v hv
    rw [hv]
    exact if_y (nI_le (a := 5) (b := 5) (by omega) (by omega)) h
  · intro n i v hi hv hk
    have e1 : nI i + 1 = nI (i + 1) := nI_1 i
    have e5 : (5 : Int32) + nI i = nI (5 + i) := nI_add 5 i
    have es : (v0 || anyF (fun k => dfB u2.1 u1 (31 + 11 * m + k)) (i + 1)) = (v || dfB u2.1 u1 (31 + 11 * m + i)) := by
      rw [hv]
      show (v0 || (anyF _ i || _)) = _
      rw [Bool.or_assoc]
    refine if_n (nI_ge (a := i) (b := 5) hi (by omega)) ⟨fun ht x hx => ?_, fun hf => tm_mAt (m := m) (w := 5 + i) rfl e5 ⟨v672 (by omega), tm_mAt (m := m) (w := 5 + i) rfl e5 ⟨v672 (by omega), ?_⟩⟩⟩
    · rw [hx, e1]
      exact hk true (by rw [es, ht]; rfl)
    · rw [tn_nI (by omega), show 26 + 11 * m + (5 + i) = 31 + 11 * m + i by omega]
      have ed : dfB u2.1 u1 (31 + 11 * m + i) = !decide (u2.1 (31 + 11 * m + i) = u1 (31 + 11 * m + i)) := rfl
      refine ⟨fun he x hx => ?_, fun he x hx => ?_⟩
      · rw [hx, e1]
        exact hk false (by rw [es, hf, ed, decide_eq_true he]; rfl)
      · rw [hx, e1]
        exact hk true (by rw [es, hf, ed, decide_eq_false he]; rfl)
theorem tm_df3 {u1 : XRow} {u2 : XRow × XRow × XRow} {mc : Nat} {kk : Int32 → Bool → Prop} {v0 : Bool} (h0 : u2.1 0 = nI mc) (hm : mc ≤ 6) (h : kk (nI mc) (v0 || anyF (dfM u2.1 u1) mc)) : ∃ fl, wp_X9_goesOn_L80 u1 u2 kk fl 0 v0 := by
  refine loop_0 (fun n i (v : Bool) => wp_X9_goesOn_L80 u1 u2 kk n (nI i) v) (fun i v => v = (v0 || anyF (dfM u2.1 u1) i)) mc v0 (by show v0 = (v0 || false); rw [Bool.or_false]) ?_ ?_
  · intro n v hv
    rw [hv]
    refine ⟨v672 (n := 0) (by omega), if_y ?_ h⟩
    show u2.1 0 ≤ _
    rw [h0]
    exact nI_le (Nat.le_refl _) (by omega)
  · intro n i v hi hv hk
    have e1 : nI i + 1 = nI (i + 1) := nI_1 i
    refine ⟨v672 (n := 0) (by omega), if_n ?_ (tm_df2 (by omega) (fun x hx => ?_))⟩
    · show ¬ u2.1 0 ≤ _
      rw [h0]
      exact nI_ge hi (by omega)
    · rw [hx, e1]
      refine hk _ ?_
      rw [hv]
      show _ = (v0 || (anyF (dfM u2.1 u1) i || dfM u2.1 u1 i))
      rw [Bool.or_assoc]
theorem tm_df1_1 {u1 : XRow} {u2 : XRow × XRow × XRow} {kk : Int32 → Bool → Prop} {v0 : Bool} (h : kk 21 (v0 || anyF (dfP u2.1 u1) 10)) : ∃ fl, wp_X9_goesOn_L41_1 u1 u2 kk fl 11 v0 := by
  refine pk_loop (fun n i (v : Bool) => wp_X9_goesOn_L41_1 u1 u2 kk n (nI i) v) (fun i v => 11 ≤ i ∧ v = (v0 || anyF (dfP u2.1 u1) (i - 11))) 21 11 v0 (by omega) ⟨by omega, by show v0 = (v0 || false); rw [Bool.or_false]⟩ ?_ ?_
  · intro n v hv
    rw [hv.2]
    exact if_y (nI_le (a := 21) (b := 21) (by omega) (by omega)) h
  · intro n i v hi hv hk
    obtain ⟨h11, hv⟩ := hv
    have e1 : nI i + 1 = nI (i + 1) := nI_1 i
    have es : (v0 || anyF (dfP u2.1 u1) (i + 1 - 11)) = (v || dfP u2.1 u1 (i - 11)) := by
      rw [hv, show i + 1 - 11 = (i - 11) + 1 by omega]
      show (v0 || (anyF (dfP u2.1 u1) (i - 11) || dfP u2.1 u1 (i - 11))) = _
      rw [Bool.or_assoc]
    refine if_n (nI_ge (b := 21) hi (by omega)) ⟨fun ht x hx => ?_, fun hf => ⟨v672 (by omega), v672 (by omega), ?_⟩⟩
    · rw [hx, e1]
      exact hk true ⟨by omega, by rw [es, ht]; rfl⟩
    · rw [tn_nI (by omega)]
      have ed : dfP u2.1 u1 (i - 11) = !decide (u2.1 i = u1 i) := by
        unfold dfP dfB
        rw [show 11 + (i - 11) = i by omega]
      refine ⟨fun he x hx => ?_, fun he x hx => ?_⟩
      · rw [hx, e1]
        exact hk false ⟨by omega, by rw [es, hf, ed, decide_eq_true he]; rfl⟩
      · rw [hx, e1]
        exact hk true ⟨by omega, by rw [es, hf, ed, decide_eq_false he]; rfl⟩
theorem tm_df2_1 {u1 : XRow} {u2 : XRow × XRow × XRow} {m : Nat} {kk : Int32 → Bool → Prop} {v0 : Bool} (hm : m < 6) (h : kk 5 (v0 || dfM u2.1 u1 m)) : ∃ fl, wp_X9_goesOn_L92_1 u1 u2 (nI m) kk fl 0 v0 := by
  refine loop_0 (fun n i (v : Bool) => wp_X9_goesOn_L92_1 u1 u2 (nI m) kk n (nI i) v) (fun i v => v = (v0 || anyF (fun k => dfB u2.1 u1 (31 + 11 * m + k)) i)) 5 v0 (by show v0 = (v0 || false); rw [Bool.or_false]) ?_ ?_
  · intro n v hv
    rw [hv]
    exact if_y (nI_le (a := 5) (b := 5) (by omega) (by omega)) h
  · intro n i v hi hv hk
    have e1 : nI i + 1 = nI (i + 1) := nI_1 i
    have e5 : (5 : Int32) + nI i = nI (5 + i) := nI_add 5 i
    have es : (v0 || anyF (fun k => dfB u2.1 u1 (31 + 11 * m + k)) (i + 1)) = (v || dfB u2.1 u1 (31 + 11 * m + i)) := by
      rw [hv]
      show (v0 || (anyF _ i || _)) = _
      rw [Bool.or_assoc]
    refine if_n (nI_ge (a := i) (b := 5) hi (by omega)) ⟨fun ht x hx => ?_, fun hf => tm_mAt (m := m) (w := 5 + i) rfl e5 ⟨v672 (by omega), tm_mAt (m := m) (w := 5 + i) rfl e5 ⟨v672 (by omega), ?_⟩⟩⟩
    · rw [hx, e1]
      exact hk true (by rw [es, ht]; rfl)
    · rw [tn_nI (by omega), show 26 + 11 * m + (5 + i) = 31 + 11 * m + i by omega]
      have ed : dfB u2.1 u1 (31 + 11 * m + i) = !decide (u2.1 (31 + 11 * m + i) = u1 (31 + 11 * m + i)) := rfl
      refine ⟨fun he x hx => ?_, fun he x hx => ?_⟩
      · rw [hx, e1]
        exact hk false (by rw [es, hf, ed, decide_eq_true he]; rfl)
      · rw [hx, e1]
        exact hk true (by rw [es, hf, ed, decide_eq_false he]; rfl)
theorem tm_df3_1 {u1 : XRow} {u2 : XRow × XRow × XRow} {mc : Nat} {kk : Int32 → Bool → Prop} {v0 : Bool} (h0 : u2.1 0 = nI mc) (hm : mc ≤ 6) (h : kk (nI mc) (v0 || anyF (dfM u2.1 u1) mc)) : ∃ fl, wp_X9_goesOn_L80_1 u1 u2 kk fl 0 v0 := by
  refine loop_0 (fun n i (v : Bool) => wp_X9_goesOn_L80_1 u1 u2 kk n (nI i) v) (fun i v => v = (v0 || anyF (dfM u2.1 u1) i)) mc v0 (by show v0 = (v0 || false); rw [Bool.or_false]) ?_ ?_
  · intro n v hv
    rw [hv]
    refine ⟨v672 (n := 0) (by omega), if_y ?_ h⟩
    show u2.1 0 ≤ _
    rw [h0]
    exact nI_le (Nat.le_refl _) (by omega)
  · intro n i v hi hv hk
    have e1 : nI i + 1 = nI (i + 1) := nI_1 i
    refine ⟨v672 (n := 0) (by omega), if_n ?_ (tm_df2_1 (by omega) (fun x hx => ?_))⟩
    · show ¬ u2.1 0 ≤ _
      rw [h0]
      exact nI_ge hi (by omega)
    · rw [hx, e1]
      refine hk _ ?_
      rw [hv]
      show _ = (v0 || (anyF (dfM u2.1 u1) i || dfM u2.1 u1 i))
      rw [Bool.or_assoc]
/-- what a pass gives -/
theorem pas_facts (hb : b ≤ 600) (hR : Rel b d g) : (∃ M P N bc z, Rel b (dPs d M P N bc z) (pasG g)) ∧ pasG g 0 = g 0 ∧ pasG g 4 = g 4 ∧ cn (g 2) ≤ cn (pasG g 2) ∧ (cn (pasG g 2) = cn (g 2) → pasG g = gC g) := by
  obtain ⟨em, h6⟩ := IM_mc (Inv_M hR.1)
  obtain ⟨k0, k2, k4⟩ := gC_keep (g := g) h6
  have hB := Rel_belt hb hR
  obtain ⟨⟨M, P, N, bc, z, b1⟩, b0, b4, bge, beq⟩ := blA_Rel hb hB (cn (g 0)) (by rw [k0]; exact Nat.le_refl _)
  refine ⟨⟨M, P, N, bc, z, b1⟩, b0.trans k0, b4.trans k4, by rw [k2] at bge; exact bge, fun h => beq ?_⟩
  rw [k2]
  exact h
/-- nothing went anywhere: the row is as it was -/
theorem same_gC (hI : Inv b g) (hb : b ≤ 600) (h : gsA g (cn (g 0)) + wsN g = 0) : gC g = g := by
  have h6 := (IM_mc (Inv_M hI)).2
  have hK := Inv_K hI
  obtain ⟨q1, q2, q3, q4⟩ := gC_at (g := g) h6
  have gz : ∀ m, m ≤ cn (g 0) → gsA g m ≤ gsA g (cn (g 0)) := by
    intro m hm
    have : ∀ n, m ≤ n → gsA g m ≤ gsA g n := by
      intro n
      induction n with
      | zero => intro h; have : m = 0 := by omega
                subst this; exact Nat.le_refl _
      | succ n ih =>
        intro h
        show _ ≤ gsA g n + s5 (gsN g n (cmN g n))
        by_cases h2 : m = n + 1
        · subst h2; exact Nat.le_refl _
        · have := ih (by omega); omega
    exact this _ hm
  have g0 : ∀ m, m < cn (g 0) → ∀ k, k < 5 → gsN g m (cmN g m) k = 0 := fun m hm k hk => by
    have h1 := gz (m + 1) (by omega)
    have h2 : gsA g (m + 1) = gsA g m + s5 (gsN g m (cmN g m)) := rfl
    have h3 := s5_ge (gsN g m (cmN g m)) k hk
    omega
  have cm0 : ∀ m, m ≤ cn (g 0) → ∀ k, k < 5 → cmN g m k = shr (kq g 11) (n0 g) k := by
    intro m
    induction m with
    | zero => intro _ k _; rfl
    | succ m ih =>
      intro hm k hk
      show cmN g m k - gsN g m (cmN g m) k = _
      rw [g0 m (by omega) k hk, ih (by omega) k hk, Nat.sub_zero]
  have w0 : ∀ k, k < 5 → cmN g (cn (g 0)) k - bkN g k = 0 := fun k hk => by
    have := s5_ge (fun k => cmN g (cn (g 0)) k - bkN g k) k hk
    have h2 : s5 (fun k => cmN g (cn (g 0)) k - bkN g k) = wsN g := rfl
    omega
  funext j
  by_cases j1 : 11 ≤ j ∧ j < 16
  · obtain ⟨k, rfl⟩ : ∃ k, j = 11 + k := ⟨j - 11, by omega⟩
    rw [q1 k (by omega)]
    have := w0 k (by omega)
    have := cm0 (cn (g 0)) (Nat.le_refl _) k (by omega)
    have := bkN_le hI k
    have := shr0 g k
    have e : kq g 11 k - shr (kq g 11) (n0 g) k + bkN g k = cn (g (11 + k)) := by
      have : kq g 11 k = cn (g (11 + k)) := rfl
      omega
    rw [e]
    exact ((hK.1 k (by omega)).1).symm
  · by_cases j2 : 16 ≤ j ∧ j < 21
    · obtain ⟨k, rfl⟩ : ∃ k, j = 16 + k := ⟨j - 16, by omega⟩
      rw [q2 k (by omega), w0 k (by omega), Nat.add_zero]
      exact ((hK.1 k (by omega)).2.1).symm
    · by_cases j3 : ∃ q, q < cn (g 0) ∧ 31 + 11 * q ≤ j ∧ j < 36 + 11 * q
      · obtain ⟨q, hq, h1, h2⟩ := j3
        obtain ⟨k, rfl⟩ : ∃ k, j = 31 + 11 * q + k := ⟨j - (31 + 11 * q), by omega⟩
        rw [q3 q hq k (by omega), g0 q hq k (by omega), Nat.add_zero]
        exact (hK.2.1 q hq k (by omega)).symm
      · refine q4 j (by omega) (fun q hq => ?_)
        rcases Nat.lt_or_ge j (31 + 11 * q) with h9 | h9
        · exact Or.inl h9
        · right
          rcases Nat.lt_or_ge j (36 + 11 * q) with h10 | h10
          · exact absurd ⟨q, hq, h9, h10⟩ j3
          · exact h10
theorem gs_some : ∀ {n : Nat}, 0 < gsA g n → ∃ m, m < n ∧ 0 < s5 (gsN g m (cmN g m))
  | 0, h => absurd h (Nat.lt_irrefl 0)
  | n + 1, h => by
    have h' : 0 < gsA g n + s5 (gsN g n (cmN g n)) := h
    by_cases h2 : 0 < gsA g n
    · obtain ⟨m, h3, h4⟩ := gs_some h2
      exact ⟨m, by omega, h4⟩
    · exact ⟨n, by omega, by omega⟩
theorem s5_some {f : Nat → Nat} (h : 0 < s5 f) : ∃ k, k < 5 ∧ 0 < f k := by
  unfold s5 at h
  by_cases h0 : 0 < f 0
  · exact ⟨0, by omega, h0⟩
  · by_cases h1 : 0 < f 1
    · exact ⟨1, by omega, h1⟩
    · by_cases h2 : 0 < f 2
      · exact ⟨2, by omega, h2⟩
      · by_cases h3 : 0 < f 3
        · exact ⟨3, by omega, h3⟩
        · exact ⟨4, by omega, by omega⟩
/-- something went somewhere just where the rows differ -/
theorem df_gC {u v : XRow} (hI : Inv b g) (hb : b ≤ 600) (hu : ∀ x, x ≠ 4 → u x = gC g x) (hv : ∀ x, x < 672 → v x = g x) : dfA u v (cn (g 0)) = decide (0 < gsA g (cn (g 0)) + wsN g) := by
  have h6 := (IM_mc (Inv_M hI)).2
  have hK := Inv_K hI
  obtain ⟨q1, q2, q3, q4⟩ := gC_at (g := g) h6
  by_cases h : 0 < gsA g (cn (g 0)) + wsN g
  · rw [decide_eq_true h]
    unfold dfA
    by_cases h1 : 0 < wsN g
    · obtain ⟨k, hk, hk2⟩ := s5_some h1
      have : anyF (dfP u v) 10 = true := (anyF_iff _ _).mpr ⟨5 + k, by omega, by
        unfold dfP dfB
        rw [show 11 + (5 + k) = 16 + k by omega, hu _ (by omega), hv _ (by omega), q2 k hk]
        have hw := s5_ge (kq g 16) k hk
        have hw2 : kq g 16 k = cn (g (16 + k)) := rfl
        have ht := hK.2.2.1
        unfold tot at ht
        have hc := s5_ge (cmN g (cn (g 0))) k hk
        have hc2 := cmN_500 hI (Nat.le_refl (cn (g 0)))
        rw [decide_eq_false]
        · rfl
        · rw [show g (16 + k) = nI (cn (g (16 + k))) from (hK.1 k hk).2.1]
          rw [cn_nI (by omega)]
          exact nI_ne (by omega) (by omega) (by omega)⟩
      rw [this]; rfl
    · obtain ⟨m, hm, hm2⟩ := gs_some (g := g) (n := cn (g 0)) (by omega)
      obtain ⟨k, hk, hk2⟩ := s5_some hm2
      have : anyF (dfM u v) (cn (g 0)) = true := (anyF_iff _ _).mpr ⟨m, hm, (anyF_iff _ _).mpr ⟨k, hk, by
        unfold dfB
        rw [hu _ (by omega), hv _ (by omega), q3 m hm k hk]
        have h1 := s5_ge (bq g m) k hk
        have h2 := bq_le hI hm
        have h3 : bq g m k = cn (g (31 + 11 * m + k)) := rfl
        have h4 := gsN_le (Inv_M hI) hm (cmN g m) k
        have h5 := s5_ge (cmN g m) k hk
        have h9 := cmN_500 hI (show m ≤ cn (g 0) by omega)
        rw [decide_eq_false]
        · rfl
        · rw [show g (31 + 11 * m + k) = nI (cn (g (31 + 11 * m + k))) from hK.2.1 m hm k hk]
          rw [cn_nI (by omega)]
          exact nI_ne (by omega) (by omega) (by omega)⟩⟩
      rw [this]; exact Bool.or_true _
  · rw [decide_eq_false h]
    have e := same_gC hI hb (by omega)
    have no : ∀ x, x ≠ 4 → x < 672 → dfB u v x = false := fun x h1 h2 => by
      unfold dfB
      rw [hu x h1, hv x h2, e, decide_eq_true rfl]; rfl
    cases hd : dfA u v (cn (g 0)) with
    | false => rfl
    | true =>
      exfalso
      unfold dfA at hd
      rw [Bool.or_eq_true, anyF_iff, anyF_iff] at hd
      rcases hd with ⟨k, hk, h1⟩ | ⟨m, hm, h1⟩
      · have : dfB u v (11 + k) = true := h1
        rw [no _ (by omega) (by omega)] at this
        exact Bool.noConfusion this
      · obtain ⟨k, hk, h2⟩ := (anyF_iff _ _).mp h1
        have : dfB u v (31 + 11 * m + k) = true := h2
        rw [no _ (by omega) (by omega)] at this
        exact Bool.noConfusion this
/-- the row behind a pass that changes something -/
def stepG (g : XRow) : XRow := upd (pasG g) 4 (g 4 + 1)
theorem cp_far {f g : XRow} {x : Nat} (h : 672 ≤ x) : va_cpy f g 0 0 672 x = g x := if_neg (by omega)
theorem tm_goes {trial part come : XRow} {post : Bool × XRow × XRow × XRow × XRow → Prop} (hb : b ≤ 600) (hR : Rel b d g) (h1 : chgB g = true → ∀ T p c, post (true, stepG g, T, p, c)) (h2 : chgB g = false → ∀ T p c, post (false, g, T, p, c)) : wp_X9_goesOn g trial part come post := by
  obtain ⟨em, h6⟩ := IM_mc (Inv_M hR.1)
  obtain ⟨k0, k2, k4⟩ := gC_keep (g := g) h6
  have hB := Rel_belt hb hR
  have c0 : cn (gC g 0) = cn (g 0) := by rw [k0]
  obtain ⟨⟨M, P, N, bc, z, p1⟩, p0, p4, pge, peq⟩ := pas_facts hb hR
  obtain ⟨ep, hp60⟩ := IB_nb (Inv_B p1.1)
  obtain ⟨e2, h60⟩ := IB_nb (Inv_B hR.1)
  refine tq_copies (A := 0) (C := 0) rfl rfl (by omega) (by omega) (by omega) (by omega) ?_
  have hT : ∀ x, x < 672 → va_cpy g trial 0 0 672 x = g x := fun x hx => cp_row hx
  have fin : ∀ (part' come' : XRow), (fun u2 : XRow × XRow × XRow => vp_in 2 672 ∧ (vp_in 2 672 ∧ (((u2.1 ((2 : Int32).toNatClampNeg)) = (va_cpy g trial 0 0 672 ((2 : Int32).toNatClampNeg)) → (∃ fl, wp_X9_goesOn_L41 (va_cpy g trial 0 0 672) u2 (fun (v8 : Int32) (v9 : Bool) => ∃ fl, wp_X9_goesOn_L80 (va_cpy g trial 0 0 672) u2 (fun (v22 : Int32) (v23 : Bool) => (v23 = true → (post (v23, u2.1, va_cpy g trial 0 0 672, u2.2.1, u2.2.2))) ∧ (v23 = false → (wp_X9_copies 672 (va_cpy g trial 0 0 672) 672 u2.1 0 0 (fun u24 : XRow => post (v23, u24, va_cpy g trial 0 0 672, u2.2.1, u2.2.2))))) fl 0 v9) fl 11 false)) ∧ (¬ (u2.1 ((2 : Int32).toNatClampNeg)) = (va_cpy g trial 0 0 672 ((2 : Int32).toNatClampNeg)) → (∃ fl, wp_X9_goesOn_L41_1 (va_cpy g trial 0 0 672) u2 (fun (v30 : Int32) (v31 : Bool) => ∃ fl, wp_X9_goesOn_L80_1 (va_cpy g trial 0 0 672) u2 (fun (v44 : Int32) (v45 : Bool) => (v45 = true → (post (v45, u2.1, va_cpy g trial 0 0 672, u2.2.1, u2.2.2))) ∧ (v45 = false → (wp_X9_copies 672 (va_cpy g trial 0 0 672) 672 u2.1 0 0 (fun u46 : XRow => post (v45, u46, va_cpy g trial 0 0 672, u2.2.1, u2.2.2))))) fl 0 v31) fl 11 true))))) (stepG g, part', come') := by
    intro part' come'
    have s2 : stepG g 2 = pasG g 2 := un (by omega)
    have s0 : stepG g 0 = nI (cn (g 0)) := by
      show upd (pasG g) 4 _ 0 = _
      rw [un (by omega), p0]; exact em
    refine ⟨v672 (n := 2) (by omega), v672 (n := 2) (by omega), ?_⟩
    show (stepG g 2 = va_cpy g trial 0 0 672 2 → _) ∧ (¬ stepG g 2 = va_cpy g trial 0 0 672 2 → _)
    rw [s2, hT 2 (by omega)]
    refine pk_eq (cn (pasG g 2)) (cn (g 2)) (fun he => ?_) (fun hne => ?_) ep e2
    · have eg := peq he
      have hd := df_gC (u := stepG g) (v := va_cpy g trial 0 0 672) hR.1 hb (fun x hx => by show upd (pasG g) 4 _ x = _; rw [un hx, eg]) hT
      have ec : chgB g = decide (0 < gsA g (cn (g 0)) + wsN g) := by unfold chgB; rw [decide_eq_false (by omega : ¬ cn (g 2) < cn (pasG g 2))]; exact Bool.or_false _
      refine tm_df1 (tm_df3 (mc := cn (g 0)) s0 h6 ?_)
      have ed : ((false || anyF (dfP (stepG g) (va_cpy g trial 0 0 672)) 10) || anyF (dfM (stepG g) (va_cpy g trial 0 0 672)) (cn (g 0))) = chgB g := by
        rw [ec, ← hd, Bool.false_or]; rfl
      show (((false || anyF (dfP (stepG g) (va_cpy g trial 0 0 672)) 10) || anyF (dfM (stepG g) (va_cpy g trial 0 0 672)) (cn (g 0))) = true → _) ∧ _
      rw [ed]
      cases hc : chgB g with
      | true => exact bb_t rfl (h1 hc _ _ _)
      | false =>
        have pg : pasG g = g := by
          rw [eg]
          rw [hc] at ec
          have := of_decide_eq_false ec.symm
          exact same_gC hR.1 hb (by omega)
        have hg : va_cpy (va_cpy g trial 0 0 672) (stepG g) 0 0 672 = g := by
          funext x
          by_cases hx : x < 672
          · rw [cp_row hx, hT x hx]
          · rw [cp_far (by omega)]
            show upd (pasG g) 4 _ x = _
            rw [un (by omega), pg]
        refine bb_f rfl (tq_copies (A := 0) (C := 0) rfl rfl (by omega) (by omega) (by omega) (by omega) ?_)
        have hh := h2 hc (va_cpy g trial 0 0 672) part' come'
        show post (false, va_cpy (va_cpy g trial 0 0 672) (stepG g) 0 0 672, va_cpy g trial 0 0 672, part', come')
        rw [hg]
        exact hh
    · have hc : chgB g = true := by unfold chgB; rw [decide_eq_true (by omega : cn (g 2) < cn (pasG g 2))]; exact Bool.or_true _
      refine tm_df1_1 (tm_df3_1 (mc := cn (g 0)) s0 h6 ?_)
      show (((true || anyF (dfP (stepG g) (va_cpy g trial 0 0 672)) 10) || anyF (dfM (stepG g) (va_cpy g trial 0 0 672)) (cn (g 0))) = true → _) ∧ _
      rw [Bool.true_or, Bool.true_or]
      exact bb_t rfl (h1 hc _ _ _)
  have ste : upd (pasG g) ((4 : Int32).toNatClampNeg) (pasG g ((4 : Int32).toNatClampNeg) + 1) = stepG g := by
    show upd (pasG g) 4 (pasG g 4 + 1) = _
    rw [p4]; rfl
  refine tm_belt hR.1 hb (fun part' come' => ?_) (fun part' come' => ?_)
  · have := tm_blA (kk := fun (_ : Int32) (v49 : XRow) (v50 : XRow) => vp_in 4 672 ∧ (vp_in 4 672 ∧ ((fun u2 : XRow × XRow × XRow => vp_in 2 672 ∧ (vp_in 2 672 ∧ (((u2.1 ((2 : Int32).toNatClampNeg)) = (va_cpy g trial 0 0 672 ((2 : Int32).toNatClampNeg)) → (∃ fl, wp_X9_goesOn_L41 (va_cpy g trial 0 0 672) u2 (fun (v8 : Int32) (v9 : Bool) => ∃ fl, wp_X9_goesOn_L80 (va_cpy g trial 0 0 672) u2 (fun (v22 : Int32) (v23 : Bool) => (v23 = true → (post (v23, u2.1, va_cpy g trial 0 0 672, u2.2.1, u2.2.2))) ∧ (v23 = false → (wp_X9_copies 672 (va_cpy g trial 0 0 672) 672 u2.1 0 0 (fun u24 : XRow => post (v23, u24, va_cpy g trial 0 0 672, u2.2.1, u2.2.2))))) fl 0 v9) fl 11 false)) ∧ (¬ (u2.1 ((2 : Int32).toNatClampNeg)) = (va_cpy g trial 0 0 672 ((2 : Int32).toNatClampNeg)) → (∃ fl, wp_X9_goesOn_L41_1 (va_cpy g trial 0 0 672) u2 (fun (v30 : Int32) (v31 : Bool) => ∃ fl, wp_X9_goesOn_L80_1 (va_cpy g trial 0 0 672) u2 (fun (v44 : Int32) (v45 : Bool) => (v45 = true → (post (v45, u2.1, va_cpy g trial 0 0 672, u2.2.1, u2.2.2))) ∧ (v45 = false → (wp_X9_copies 672 (va_cpy g trial 0 0 672) 672 u2.1 0 0 (fun u46 : XRow => post (v45, u46, va_cpy g trial 0 0 672, u2.2.1, u2.2.2))))) fl 0 v31) fl 11 true))))) (upd v49 ((4 : Int32).toNatClampNeg) ((v49 ((4 : Int32).toNatClampNeg)) + 1), v50, come')))) (part := part') hb hB (fun part2 => ⟨v672 (n := 4) (by omega), v672 (n := 4) (by omega), ?_⟩)
    · exact this
    · rw [c0]
      have hf := fin part2 come'
      rw [← ste] at hf
      exact hf
  · have := tm_blA_1 (kk := fun (_ : Int32) (v49 : XRow) (v50 : XRow) => vp_in 4 672 ∧ (vp_in 4 672 ∧ ((fun u2 : XRow × XRow × XRow => vp_in 2 672 ∧ (vp_in 2 672 ∧ (((u2.1 ((2 : Int32).toNatClampNeg)) = (va_cpy g trial 0 0 672 ((2 : Int32).toNatClampNeg)) → (∃ fl, wp_X9_goesOn_L41 (va_cpy g trial 0 0 672) u2 (fun (v8 : Int32) (v9 : Bool) => ∃ fl, wp_X9_goesOn_L80 (va_cpy g trial 0 0 672) u2 (fun (v22 : Int32) (v23 : Bool) => (v23 = true → (post (v23, u2.1, va_cpy g trial 0 0 672, u2.2.1, u2.2.2))) ∧ (v23 = false → (wp_X9_copies 672 (va_cpy g trial 0 0 672) 672 u2.1 0 0 (fun u24 : XRow => post (v23, u24, va_cpy g trial 0 0 672, u2.2.1, u2.2.2))))) fl 0 v9) fl 11 false)) ∧ (¬ (u2.1 ((2 : Int32).toNatClampNeg)) = (va_cpy g trial 0 0 672 ((2 : Int32).toNatClampNeg)) → (∃ fl, wp_X9_goesOn_L41_1 (va_cpy g trial 0 0 672) u2 (fun (v30 : Int32) (v31 : Bool) => ∃ fl, wp_X9_goesOn_L80_1 (va_cpy g trial 0 0 672) u2 (fun (v44 : Int32) (v45 : Bool) => (v45 = true → (post (v45, u2.1, va_cpy g trial 0 0 672, u2.2.1, u2.2.2))) ∧ (v45 = false → (wp_X9_copies 672 (va_cpy g trial 0 0 672) 672 u2.1 0 0 (fun u46 : XRow => post (v45, u46, va_cpy g trial 0 0 672, u2.2.1, u2.2.2))))) fl 0 v31) fl 11 true))))) (upd v49 ((4 : Int32).toNatClampNeg) ((v49 ((4 : Int32).toNatClampNeg)) + 1), v50, come')))) (part := part') hb hB (fun part2 => ⟨v672 (n := 4) (by omega), v672 (n := 4) (by omega), ?_⟩)
    · exact this
    · rw [c0]
      have hf := fin part2 come'
      rw [← ste] at hf
      exact hf
end PD1
