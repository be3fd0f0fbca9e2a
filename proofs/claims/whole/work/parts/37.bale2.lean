/-! ===== level 2: a bale, both sides and the relation ===== -/
section BB
variable {b : Nat} {d : PD} {g : XRow}
theorem tm_gradeBy {x : Nat} {p : Int32} {post : Int32 → Prop} (hp : p = nI x) (hx : x < 2 ^ 31) (h : post (nI (gBy x))) : wp_X9_gradeBy p post := by
  unfold gBy at h
  refine pk_lt x 950 (fun h9 => pk_lt x 850 (fun h8 => pk_lt x 700 (fun h7 => ?_) (fun h7 => ?_) hp) (fun h8 => ?_) hp) (fun h9 => ?_) hp
  · rw [if_neg (by omega), if_neg (by omega), if_neg (by omega)] at h; exact h
  · rw [if_neg (by omega), if_neg (by omega), if_pos (by omega)] at h; exact h
  · rw [if_neg (by omega), if_pos (by omega)] at h; exact h
  · rw [if_pos (by omega)] at h; exact h
theorem tc_gradeOf {x : Nat} {p : Int32} {post : Int32 → Prop} (hp : p = nI x) (hx : x < 2 ^ 31) (h : post (nI (gBy x))) : wp_X8_gradeOf p post := by
  unfold gBy at h
  refine pk_lt x 950 (fun h9 => pk_lt x 850 (fun h8 => pk_lt x 700 (fun h7 => ?_) (fun h7 => ?_) hp) (fun h8 => ?_) hp) (fun h9 => ?_) hp
  · rw [if_neg (by omega), if_neg (by omega), if_neg (by omega)] at h; exact h
  · rw [if_neg (by omega), if_neg (by omega), if_pos (by omega)] at h; exact h
  · rw [if_neg (by omega), if_pos (by omega)] at h; exact h
  · rw [if_pos (by omega)] at h; exact h
theorem bsm_le (hS : IS g) (m : Nat) : bsm g m ≤ 1000 := by
  obtain ⟨_, ⟨l0, l1, l2⟩, _⟩ := set_ok hS
  have h := hitN_le (bs g m) (bw g m) (cn (g 8)) (g 1) (cn (g 9))
  unfold bsm
  have h2 : hitN (bs g m) (bw g m) (cn (g 8)) (g 1) (cn (g 9)) * 1000 ≤ 1000 * cn (g 9) := by omega
  exact Nat.div_le_of_le_mul (by rw [Nat.mul_comm (cn (g 9))]; exact h2)
/-- what a bale needs -/
def BH (g : XRow) (m : Nat) : Prop := m < cn (g 0) ∧ cn (g 8) ≤ s5 (bq g m) ∧ cn (g 2) < 60
theorem bs_sum (hS : IS g) {m : Nat} (h : BH g m) : s5 (bs g m) = cn (g 8) ∧ ∀ k, bs g m k ≤ bq g m k := by
  obtain ⟨⟨_, n1, n2⟩, _, _⟩ := set_ok hS
  have h1 := h.2.1
  exact ⟨shr_sum (by omega), fun k => shr_q (by omega) h1 k⟩
theorem bq_le (hI : Inv b g) {m : Nat} (hm : m < cn (g 0)) : s5 (bq g m) ≤ 999 * b := by
  have h := (Inv_K hI).2.2.1
  have h2 := bsum_le (g := g) hm
  unfold tot at h
  unfold bq
  omega
theorem oB0_at {m x : Nat} (h2 : x ≠ 2) (h3 : x < 31 + 11 * m ∨ 37 + 11 * m ≤ x) (h4 : x < 132 + 9 * cn (g 2) ∨ 138 + 9 * cn (g 2) ≤ x) : oB0 g m x = g x := by
  unfold oB0
  rw [un (by omega), fil_out (by omega), un (by omega), un h2, fil_out (by omega)]
theorem oB0_vals {m : Nat} (hm : m < 6) (hn : cn (g 2) < 60) : oB0 g m 2 = nI (cn (g 2) + 1) ∧ (∀ k, k < 5 → oB0 g m (31 + 11 * m + k) = nI (bq g m k - bs g m k)) ∧ oB0 g m (36 + 11 * m) = g (36 + 11 * m) + 1 ∧ (∀ k, k < 5 → oB0 g m (132 + 9 * cn (g 2) + k) = nI (bs g m k)) ∧ oB0 g m (137 + 9 * cn (g 2)) = g (26 + 11 * m) := by
  unfold oB0
  refine ⟨?_, fun k hk => ?_, ?_, fun k hk => ?_, ?_⟩
  · rw [un (by omega), fil_out (by omega), un (by omega), pk_us]
  · rw [un (by omega), fil_out (by omega), un (by omega), un (by omega), fil_in hk]
  · rw [un (by omega), fil_out (by omega), pk_us]
  · rw [un (by omega), fil_in hk]
  · rw [pk_us]
theorem oB1_at {m x : Nat} (h1 : x ≠ 1) (h2 : x ≠ 2) (h3 : x < 31 + 11 * m ∨ 37 + 11 * m ≤ x) (h4 : x < 132 + 9 * cn (g 2) ∨ 141 + 9 * cn (g 2) ≤ x) : oB1 g m x = g x := by
  unfold oB1
  rw [un (by omega), un (by omega), un (by omega), un h1]
  exact oB0_at h2 h3 (by omega)
theorem oB1_B0 {m x : Nat} (h1 : x ≠ 1) (h2 : x ≠ 138 + 9 * cn (g 2)) (h3 : x ≠ 139 + 9 * cn (g 2)) (h4 : x ≠ 140 + 9 * cn (g 2)) : oB1 g m x = oB0 g m x := by
  unfold oB1
  rw [un h4, un h3, un h2, un h1]
theorem oBale_facts {m : Nat} (hI : Inv b g) (hb : b ≤ 600) (hH : BH g m) : (∀ x, x ≠ 1 → x ≠ 2 → (x < 11 ∨ 16 ≤ x) → (x < 31 + 11 * m ∨ 37 + 11 * m ≤ x) → (x < 132 + 9 * cn (g 2) ∨ 141 + 9 * cn (g 2) ≤ x) → oBale g m x = g x) ∧ oBale g m 1 = zN (g 1) (cn (g 9)) ∧ oBale g m 2 = nI (cn (g 2) + 1) ∧ (∀ k, k < 5 → oBale g m (11 + k) = nI (cn (g (11 + k)) + (bif blp g m then bs g m k else 0))) ∧ (∀ k, k < 5 → oBale g m (31 + 11 * m + k) = nI (bq g m k - bs g m k)) ∧ oBale g m (36 + 11 * m) = g (36 + 11 * m) + 1 ∧ (∀ k, k < 5 → oBale g m (132 + 9 * cn (g 2) + k) = nI (bs g m k)) ∧ oBale g m (137 + 9 * cn (g 2)) = g (26 + 11 * m) ∧ oBale g m (138 + 9 * cn (g 2)) = nI (bsm g m) ∧ oBale g m (139 + 9 * cn (g 2)) = (bif blp g m then 2 else 0) ∧ oBale g m (140 + 9 * cn (g 2)) = -1 := by
  have h6 := (IM_mc (Inv_M hI)).2
  have hm := hH.1
  have hn := hH.2.2
  obtain ⟨a2, a31, a36, a132, a137⟩ := oB0_vals (g := g) (m := m) (by omega) hn
  have hz : oB1 g m 1 = zN (g 1) (cn (g 9)) := by unfold oB1; rw [un (by omega), un (by omega), un (by omega), pk_us]
  have h138 : oB1 g m (138 + 9 * cn (g 2)) = nI (bsm g m) := by unfold oB1; rw [un (by omega), un (by omega), pk_us]
  have h139 : oB1 g m (139 + 9 * cn (g 2)) = 0 := by unfold oB1; rw [un (by omega), pk_us]
  have h140 : oB1 g m (140 + 9 * cn (g 2)) = -1 := by unfold oB1; rw [pk_us]
  have hk11 : ∀ k, k < 5 → g (11 + k) = nI (cn (g (11 + k))) := fun k hk => ((Inv_K hI).1 k hk).1
  cases hl : blp g m with
  | false =>
    have e : oBale g m = oB1 g m := by unfold oBale; rw [hl]; rfl
    rw [e]
    refine ⟨fun x x1 x2 x3 x4 x5 => oB1_at x1 x2 x4 x5, hz, ?_, fun k hk => ?_, fun k hk => ?_, ?_, fun k hk => ?_, ?_, h138, h139, h140⟩
    · rw [oB1_B0 (by omega) (by omega) (by omega) (by omega)]; exact a2
    · rw [oB1_at (by omega) (by omega) (by omega) (by omega)]; exact hk11 k hk
    · rw [oB1_B0 (by omega) (by omega) (by omega) (by omega)]; exact a31 k hk
    · rw [oB1_B0 (by omega) (by omega) (by omega) (by omega)]; exact a36
    · rw [oB1_B0 (by omega) (by omega) (by omega) (by omega)]; exact a132 k hk
    · rw [oB1_B0 (by omega) (by omega) (by omega) (by omega)]; exact a137
  | true =>
    have e : oBale g m = fil (upd (oB1 g m) (139 + 9 * cn (g 2)) 2) 11 5 (fun k => nI (cn (g (11 + k)) + bs g m k)) := by unfold oBale; rw [hl]; rfl
    rw [e]
    have o : ∀ x, (x < 11 ∨ 16 ≤ x) → x ≠ 139 + 9 * cn (g 2) → fil (upd (oB1 g m) (139 + 9 * cn (g 2)) 2) 11 5 (fun k => nI (cn (g (11 + k)) + bs g m k)) x = oB1 g m x := fun x h1 h2 => by rw [fil_out (by omega), un h2]
    refine ⟨fun x x1 x2 x3 x4 x5 => by rw [o x x3 (by omega)]; exact oB1_at x1 x2 x4 x5, by rw [o 1 (by omega) (by omega)]; exact hz, ?_, fun k hk => fil_in hk, fun k hk => ?_, ?_, fun k hk => ?_, ?_, by rw [o _ (by omega) (by omega)]; exact h138, ?_, by rw [o _ (by omega) (by omega)]; exact h140⟩
    · rw [o _ (by omega) (by omega), oB1_B0 (by omega) (by omega) (by omega) (by omega)]; exact a2
    · rw [o _ (by omega) (by omega), oB1_B0 (by omega) (by omega) (by omega) (by omega)]; exact a31 k hk
    · rw [o _ (by omega) (by omega), oB1_B0 (by omega) (by omega) (by omega) (by omega)]; exact a36
    · rw [o _ (by omega) (by omega), oB1_B0 (by omega) (by omega) (by omega) (by omega)]; exact a132 k hk
    · rw [o _ (by omega) (by omega), oB1_B0 (by omega) (by omega) (by omega) (by omega)]; exact a137
    · rw [fil_out (by omega), pk_us]; rfl
/-- the reference makes a bale -/
theorem tm_bales {m : Nat} {part : XRow} {post : XRow × XRow → Prop} (hI : Inv b g) (hb : b ≤ 600) (hH : BH g m) (h : ∀ part', post (oBale g m, part')) : wp_X9_bales g part (nI m) post := by
  obtain ⟨em, h6⟩ := IM_mc (Inv_M hI)
  obtain ⟨⟨n0, n1, n2⟩, ⟨l0, l1, l2⟩, t0, t1⟩ := set_ok (Inv_S hI)
  obtain ⟨e2, _⟩ := IB_nb (Inv_B hI)
  have hm := hH.1
  have hn := hH.2.2
  have hq := bq_le hI hm
  obtain ⟨s1, s2⟩ := bs_sum (Inv_S hI) hH
  obtain ⟨w0, w1, w2⟩ := ok_cn ((Inv_M hI).2 m hm).1 (by omega)
  have hsm := bsm_le (Inv_S hI) m
  have hqv : ∀ k, k < 5 → g (31 + 11 * m + k) = nI (bq g m k) := fun k hk => (Inv_K hI).2.1 m hm k hk
  have hm31 : ∀ k, k < 5 → bq g m k * cn (g 8) < 2 ^ 31 := fun k hk => by
    have a1 := s5_ge (bq g m) k hk
    have := Nat.mul_le_mul (show bq g m k ≤ 600000 by omega) n2
    omega
  obtain ⟨a2, a31, a36, a132, a137⟩ := oB0_vals (g := g) (m := m) (by omega) hn
  refine tm_mAt (m := m) (w := 5) rfl rfl ⟨v672 (n := 8) (by omega), ?_⟩
  rw [show 26 + 11 * m + 5 = 31 + 11 * m by omega]
  refine tq_takes (a := 31 + 11 * m) (q := bq g m) (n := cn (g 8)) rfl n0 hqv (by omega) hm31 (by omega) hH.2.1 ?_
  refine ⟨v672 (n := 2) (by omega), ?_⟩
  intro x hx
  have hg2 : fil g (31 + 11 * m) 5 (fun k => nI (bq g m k - shr (bq g m) (cn (g 8)) k)) 2 = nI (cn (g 2)) := by rw [fil_out (by omega)]; exact e2
  replace hx : x = nI (cn (g 2)) := hx.trans hg2
  subst hx
  refine ⟨v672 (n := 2) (by omega), v672 (n := 2) (by omega), tm_mAt (m := m) (w := 10) rfl rfl ⟨v672 (by omega), v672 (by omega), ?_⟩⟩
  rw [tn_nI (by omega), show 26 + 11 * m + 10 = 36 + 11 * m by omega]
  have hs0 : upd (fil g (31 + 11 * m) 5 (fun k => nI (bq g m k - shr (bq g m) (cn (g 8)) k))) ((2 : Int32).toNatClampNeg) (fil g (31 + 11 * m) 5 (fun k => nI (bq g m k - shr (bq g m) (cn (g 8)) k)) ((2 : Int32).toNatClampNeg) + 1) = upd (fil g (31 + 11 * m) 5 (fun k => nI (bq g m k - bs g m k))) 2 (nI (cn (g 2) + 1)) := by
    show upd _ 2 (fil g (31 + 11 * m) 5 (fun k => nI (bq g m k - shr (bq g m) (cn (g 8)) k)) 2 + 1) = _
    rw [hg2]
    have e9 : nI (cn (g 2)) + 1 = nI (cn (g 2) + 1) := nI_1 _
    rw [e9]
    rfl
  show ∃ fl, wp_X9_bales_L50 _ (nI (cn (g 2))) _ fl 0 (upd (upd (fil g (31 + 11 * m) 5 (fun k => nI (bq g m k - shr (bq g m) (cn (g 8)) k))) ((2 : Int32).toNatClampNeg) (fil g (31 + 11 * m) 5 (fun k => nI (bq g m k - shr (bq g m) (cn (g 8)) k)) ((2 : Int32).toNatClampNeg) + 1)) (36 + 11 * m) (upd (fil g (31 + 11 * m) 5 (fun k => nI (bq g m k - shr (bq g m) (cn (g 8)) k))) ((2 : Int32).toNatClampNeg) (fil g (31 + 11 * m) 5 (fun k => nI (bq g m k - shr (bq g m) (cn (g 8)) k)) ((2 : Int32).toNatClampNeg) + 1) (36 + 11 * m) + 1))
  rw [hs0, un (show 36 + 11 * m ≠ 2 by omega), fil_out (j := 36 + 11 * m) (by omega)]
  refine loop_0 (fun f i (s : XRow) => wp_X9_bales_L50 _ (nI (cn (g 2))) _ f (nI i) s) (fun i s => s = fil (upd (upd (fil g (31 + 11 * m) 5 (fun k => nI (bq g m k - bs g m k))) 2 (nI (cn (g 2) + 1))) (36 + 11 * m) (g (36 + 11 * m) + 1)) (132 + 9 * cn (g 2)) i (fun k => nI (bs g m k))) 5 _ (fil_0 _ _ _).symm ?_ ?_
  · intro f s hs
    subst hs
    refine if_y (nI_le (a := 5) (b := 5) (by omega) (by omega)) (tm_bAt (m := cn (g 2)) (w := 5) rfl rfl (tm_mAt (m := m) (w := 0) rfl rfl ⟨v672 (by omega), v672 (by omega), tm_bAt (m := cn (g 2)) (w := 6) rfl rfl ⟨v672 (n := 8) (by omega), ?_⟩⟩))
    rw [tn_nI (by omega), tn_nI (by omega), tn_nI (by omega), show 26 + 11 * m + 0 = 26 + 11 * m from rfl, show 132 + 9 * cn (g 2) + 5 = 137 + 9 * cn (g 2) by omega, show 132 + 9 * cn (g 2) + 6 = 138 + 9 * cn (g 2) by omega]
    have e26 : fil (upd (upd (fil g (31 + 11 * m) 5 (fun k => nI (bq g m k - bs g m k))) 2 (nI (cn (g 2) + 1))) (36 + 11 * m) (g (36 + 11 * m) + 1)) (132 + 9 * cn (g 2)) 5 (fun k => nI (bs g m k)) (26 + 11 * m) = g (26 + 11 * m) := by
      rw [fil_out (by omega), un (by omega), un (by omega), fil_out (by omega)]
    rw [e26]
    show wp_X9_samples (oB0 g m) (nI (cn (g 2))) (oB0 g m ((8 : Int32).toNatClampNeg)) _
    have g8 : oB0 g m ((8 : Int32).toNatClampNeg) = nI (cn (g 8)) := (oB0_at (g := g) (m := m) (x := 8) (by omega) (by omega) (by omega)).trans n0
    have g1 : oB0 g m 1 = g 1 := oB0_at (by omega) (by omega) (by omega)
    have g9 : oB0 g m 9 = g 9 := oB0_at (by omega) (by omega) (by omega)
    have g10 : oB1 g m 10 = g 10 := oB1_at (by omega) (by omega) (by omega) (by omega)
    rw [g8]
    refine tm_samples (s := bs g m) (w := bw g m) (by rw [g9]; exact (Inv_S hI).2.2.2.1) hn (by unfold bw; omega) a132 (by rw [a137]; exact w0) (by omega) n2 s1 ?_
    rw [g1, g9]
    refine ⟨v672 (by omega), tm_bAt (m := cn (g 2)) (w := 7) rfl rfl ⟨v672 (by omega), tm_bAt (m := cn (g 2)) (w := 8) rfl rfl ⟨v672 (by omega), v672 (n := 10) (by omega), ?_⟩⟩⟩
    rw [tn_nI (by omega), tn_nI (by omega), show 132 + 9 * cn (g 2) + 7 = 139 + 9 * cn (g 2) by omega, show 132 + 9 * cn (g 2) + 8 = 140 + 9 * cn (g 2) by omega]
    show (oB1 g m 10 = 1 → _) ∧ (¬ oB1 g m 10 = 1 → _)
    rw [g10]
    have h138 : oB1 g m (138 + 9 * cn (g 2)) = nI (bsm g m) := by unfold oB1; rw [un (by omega), un (by omega), pk_us]
    refine ⟨fun hl1 => ?_, fun hl1 => ?_⟩
    · refine tm_bAt (m := cn (g 2)) (w := 6) rfl rfl ⟨v672 (by omega), tm_gradeBy (x := bsm g m) ?_ (by omega) ?_⟩
      · rw [tn_nI (by omega), show 132 + 9 * cn (g 2) + 6 = 138 + 9 * cn (g 2) by omega]
        exact h138
      · have gle := gBy_le3 (bsm g m)
        refine pk_eq (gBy (bsm g m)) 3 (fun h3 => tm_bAt (m := cn (g 2)) (w := 7) rfl rfl ⟨v672 (by omega), ?_⟩) (fun h3 => ?_)
        · have hl : blp g m = true := by unfold blp; rw [decide_eq_true hl1, decide_eq_true h3]; rfl
          rw [tn_nI (by omega), show 132 + 9 * cn (g 2) + 7 = 139 + 9 * cn (g 2) by omega]
          show ∃ fl, wp_X9_bales_L178 (nI (cn (g 2))) _ fl 0 (upd (oB1 g m) (139 + 9 * cn (g 2)) 2)
          refine loop_0 (fun f i (s : XRow) => wp_X9_bales_L178 (nI (cn (g 2))) _ f (nI i) s) (fun i s => s = fil (upd (oB1 g m) (139 + 9 * cn (g 2)) 2) 11 i (fun k => nI (cn (g (11 + k)) + bs g m k))) 5 _ (fil_0 _ _ _).symm ?_ ?_
          · intro f s hs
            subst hs
            refine if_y (nI_le (a := 5) (b := 5) (by omega) (by omega)) ?_
            have := h (fil part 0 5 (fun k => nI (shr (bq g m) (cn (g 8)) k)))
            unfold oBale at this
            rw [hl] at this
            exact this
          · intro f i s hi hs hk
            subst hs
            have e1 : nI i + 1 = nI (i + 1) := nI_1 i
            have x11 : oB1 g m (11 + i) = nI (cn (g (11 + i))) := (oB1_at (by omega) (by omega) (by omega) (by omega)).trans ((Inv_K hI).1 i hi).1
            have x132 : oB1 g m (132 + 9 * cn (g 2) + i) = nI (bs g m i) := (oB1_B0 (by omega) (by omega) (by omega) (by omega)).trans (a132 i hi)
            refine if_n (nI_ge (a := i) (b := 5) hi (by omega)) ?_
            rw [a11]
            refine ⟨v672 (by omega), tm_bAt (m := cn (g 2)) (w := i) rfl rfl ⟨v672 (by omega), v672 (by omega), ?_⟩⟩
            intro y hy
            rw [hy, e1, tn_nI (by omega), tn_nI (by omega), fil_out (j := 11 + i) (by omega), un (show 11 + i ≠ 139 + 9 * cn (g 2) by omega), x11, fil_out (j := 132 + 9 * cn (g 2) + i) (by omega), un (show 132 + 9 * cn (g 2) + i ≠ 139 + 9 * cn (g 2) by omega), x132, nI_add]
            exact hk _ (fil_s _ 11 i (fun k => nI (cn (g (11 + k)) + bs g m k)))
        · have hl : blp g m = false := by unfold blp; rw [decide_eq_false h3]; exact Bool.and_false _
          have := h (fil part 0 5 (fun k => nI (shr (bq g m) (cn (g 8)) k)))
          unfold oBale at this
          rw [hl] at this
          exact this
    · have hl : blp g m = false := by unfold blp; rw [decide_eq_false hl1]; rfl
      have := h (fil part 0 5 (fun k => nI (shr (bq g m) (cn (g 8)) k)))
      unfold oBale at this
      rw [hl] at this
      exact this
  · intro f i s hi hs hk
    subst hs
    have e1 : nI i + 1 = nI (i + 1) := nI_1 i
    refine if_n (nI_ge (a := i) (b := 5) hi (by omega)) (tm_bAt (m := cn (g 2)) (w := i) rfl rfl ⟨vp_in_nI hi (by omega), v672 (by omega), ?_⟩)
    intro y hy
    have hp := fil_in (f := part) (b := 0) (k := 5) (v := fun k => nI (shr (bq g m) (cn (g 8)) k)) hi
    rw [Nat.zero_add] at hp
    rw [hy, e1, tn_nI (by omega), nI_clamp (n := i) (by omega)]
    refine hk _ ?_
    show upd _ _ (fil part 0 5 (fun k => nI (shr (bq g m) (cn (g 8)) k)) i) = _
    rw [hp]
    exact fil_s _ (132 + 9 * cn (g 2)) i (fun k => nI (bs g m k))
/-- the class makes a bale -/
def bnv (g : XRow) (m : Nat) (st : Int32) : Nat → Int32 := fun k => match k with | 5 => g (26 + 11 * m) | 6 => nI (cn (g 8)) | 7 => nI (bs g m (bw g m) * 1000 / cn (g 8)) | 8 => nI (bsm g m) | 9 => nI (gBy (bsm g m)) | 10 => st | 11 => -1 | j => nI (bs g m j)
def bN (g N : XRow) (m : Nat) : XRow := fil N (cn (g 2) * 12) 12 (bnv g m (bif blp g m then 2 else 0))
def bP (g P : XRow) (m : Nat) : XRow := bif blp g m then fil (fil P (m * 5) 5 (fun k => nI (bq g m k - bs g m k))) 30 5 (fun k => nI (cn (g (11 + k)) + bs g m k)) else fil P (m * 5) 5 (fun k => nI (bq g m k - bs g m k))
theorem tc_bale {m : Nat} {fS fM P N R : XRow} {z : Int32} {post : Int32 × XRow × XRow × Int32 × XRow × XRow → Prop} (hI : Inv b g) (hb : b ≤ 600) (hH : BH g m) (hfS : RS fS g) (hfM : RM fM g) (hP : RP P g) (hz : z = g 1) (h : ∀ R', post (zN (g 1) (cn (g 9)), upd fM (m * 7 + 6) (g (36 + 11 * m) + 1), bP g P m, nI (cn (g 2) + 1), bN g N m, R')) : wp_X4_makeBale fS fM P N R z (nI (cn (g 2))) (nI m) (nI (cn (g 8))) post := by
  subst hz
  obtain ⟨em, h6⟩ := IM_mc (Inv_M hI)
  obtain ⟨⟨n0, n1, n2⟩, ⟨l0, l1, l2⟩, t0, t1⟩ := set_ok (Inv_S hI)
  have hm := hH.1
  have hn := hH.2.2
  have hq := bq_le hI hm
  obtain ⟨s1, s2⟩ := bs_sum (Inv_S hI) hH
  obtain ⟨w0, w1, w2⟩ := ok_cn ((Inv_M hI).2 m hm).1 (by omega)
  have hsm := bsm_le (Inv_S hI) m
  have gle := gBy_le3 (bsm g m)
  have hqv : ∀ k, k < 5 → P (m * 5 + k) = nI (bq g m k) := fun k hk => (hP.2.1 m hm k hk).trans ((Inv_K hI).2.1 m hm k hk)
  have hbs : ∀ k, k < 5 → bs g m k ≤ 200 := fun k hk => by have := s5_ge (bs g m) k hk; omega
  refine tb_get (W := 7) (I := m) (J := 0) rfl rfl rfl (by omega) (by omega) ?_
  rw [(hfM m hm).1 0 (by omega), Nat.add_zero]
  refine tb_take8 (I := m) (J := cn (g 2)) (n := cn (g 8)) rfl rfl rfl hqv (by omega) (by omega) (by omega) hH.2.1 (fun R' => ?_)
  rw [w0]
  refine tc_samples (g := g) (i := cn (g 2)) (w := bw g m) (n := cn (g 8)) (s := bs g m) (Inv_S hI) hfS hn (by unfold bw; omega) (fun k hk => fil_in (f := N) (b := cn (g 2) * 12) (k := 5) (v := fun k => nI (shr (bq g m) (cn (g 8)) k)) hk) rfl s1 ?_
  refine tc_gradeOf (x := bsm g m) rfl (by omega) ?_
  have e9 : nI (cn (g 2)) + 1 = nI (cn (g 2) + 1) := nI_1 _
  have puts : ∀ (st : Int32) (K2 : Int32 → XRow → XRow → Prop), (K2 (nI (cn (g 2) + 1)) (fil N (cn (g 2) * 12) 12 (bnv g m st)) (upd fM (m * 7 + 6) (g (36 + 11 * m) + 1))) → wp_X6_put 12 720 (fil N (cn (g 2) * 12) 5 (fun k => nI (shr (bq g m) (cn (g 8)) k))) (nI (cn (g 2))) 5 (nI (cn (g (26 + 11 * m)))) (fun u5 : XRow => wp_X6_put 12 720 u5 (nI (cn (g 2))) 6 (nI (cn (g 8))) (fun u6 : XRow => wp_X6_get 12 720 u6 (nI (cn (g 2))) (nI (cn (g (26 + 11 * m)))) (fun u7 : Int32 => wp_X8_perThousand u7 (nI (cn (g 8))) (fun u8 : Int32 => wp_X6_put 12 720 u6 (nI (cn (g 2))) 7 u8 (fun u9 : XRow => wp_X6_put 12 720 u9 (nI (cn (g 2))) 8 (nI (bsm g m)) (fun u10 : XRow => wp_X6_put 12 720 u10 (nI (cn (g 2))) 9 (nI (gBy (bsm g m))) (fun u11 : XRow => wp_X6_put 12 720 u11 (nI (cn (g 2))) 10 st (fun u12 : XRow => wp_X6_put 12 720 u12 (nI (cn (g 2))) 11 (-1) (fun u13 : XRow => ∀ x14 : Int32, x14 = nI (cn (g 2)) + 1 → (wp_X6_add 7 42 fM (nI m) 6 1 (fun u15 : XRow => K2 x14 u13 u15))))))))))) := by
    intro st K2 hK2
    have f5 : fil N (cn (g 2) * 12) 5 (fun k => nI (shr (bq g m) (cn (g 8)) k)) = fil N (cn (g 2) * 12) 5 (bnv g m st) := fil_congr (fun j hj => by
      rcases (show j = 0 ∨ j = 1 ∨ j = 2 ∨ j = 3 ∨ j = 4 by omega) with rfl | rfl | rfl | rfl | rfl <;> rfl)
    rw [f5]
    refine tb_put (W := 12) (I := cn (g 2)) (J := 5) rfl rfl rfl (by omega) (by omega) ?_
    rw [show nI (cn (g (26 + 11 * m))) = bnv g m st 5 from w0.symm, fil_s]
    refine tb_put (W := 12) (I := cn (g 2)) (J := 6) rfl rfl rfl (by omega) (by omega) ?_
    rw [show nI (cn (g 8)) = bnv g m st 6 from rfl, fil_s]
    refine tb_get (W := 12) (I := cn (g 2)) (J := bw g m) rfl rfl w0 (by unfold bw; omega) (by omega) ?_
    rw [fil_in (by unfold bw; omega)]
    have hbw : bw g m ≤ 4 := by unfold bw; omega
    have ev : bnv g m st (bw g m) = nI (bs g m (bw g m)) := by
      generalize bw g m = j at hbw
      rcases (show j = 0 ∨ j = 1 ∨ j = 2 ∨ j = 3 ∨ j = 4 by omega) with rfl | rfl | rfl | rfl | rfl <;> rfl
    rw [ev]
    have hb2 := hbs (bw g m) (by omega)
    refine if_n (nI_nle (by omega) (by omega)) ⟨nI_ne0 (by omega) (by omega), ?_⟩
    rw [show bnv g m st 6 = nI (cn (g 8)) from rfl, show (1000 : Int32) = nI 1000 from rfl, pk_mul, pk_div (by omega) (by omega) (by omega)]
    refine tb_put (W := 12) (I := cn (g 2)) (J := 7) rfl rfl rfl (by omega) (by omega) ?_
    rw [show nI (bs g m (bw g m) * 1000 / cn (g 8)) = bnv g m st 7 from rfl, fil_s]
    refine tb_put (W := 12) (I := cn (g 2)) (J := 8) rfl rfl rfl (by omega) (by omega) ?_
    rw [show nI (bsm g m) = bnv g m st 8 from rfl, fil_s]
    refine tb_put (W := 12) (I := cn (g 2)) (J := 9) rfl rfl rfl (by omega) (by omega) ?_
    rw [show nI (gBy (bsm g m)) = bnv g m st 9 from rfl, fil_s]
    refine tb_put (W := 12) (I := cn (g 2)) (J := 10) rfl rfl rfl (by omega) (by omega) ?_
    rw [show upd (fil N (cn (g 2) * 12) (9 + 1) (bnv g m st)) (cn (g 2) * 12 + 10) st = fil N (cn (g 2) * 12) (10 + 1) (bnv g m st) from fil_s _ _ 10 _]
    refine tb_put (W := 12) (I := cn (g 2)) (J := 11) rfl rfl rfl (by omega) (by omega) ?_
    rw [show upd (fil N (cn (g 2) * 12) (10 + 1) (bnv g m st)) (cn (g 2) * 12 + 11) (-1) = fil N (cn (g 2) * 12) (11 + 1) (bnv g m st) from fil_s _ _ 11 _]
    intro x hx
    refine tb_add (W := 7) (I := m) (J := 6) rfl rfl rfl (by omega) (by omega) ?_
    rw [(hfM m hm).2]
    rw [hx, e9]
    exact hK2
  have L0 : ∀ (k : Int32 → Prop), k 0 → ∃ fl, wp_X4_makeBale_L176 k fl 0 := fun k hk => ⟨1, fun _ => hk, fun _ => hk⟩
  have L1 : ∀ (k : Int32 → Prop), k 0 → ∃ fl, wp_X4_makeBale_L176_1 k fl 0 := fun k hk => ⟨1, fun _ => hk, fun _ => hk⟩
  have hno : ∀ {X : Prop}, blp g m = false → (∀ R', post (zN (g 1) (cn (g 9)), upd fM (m * 7 + 6) (g (36 + 11 * m) + 1), fil P (m * 5) 5 (fun k => nI (bq g m k - bs g m k)), nI (cn (g 2) + 1), fil N (cn (g 2) * 12) 12 (bnv g m 0), R')) := fun {X} hl R'' => by
    have := h R''
    unfold bP bN at this
    rw [hl] at this
    exact this
  refine pk_eq (gBy (bsm g m)) 3 (fun h3 => tb_get (W := 5) (I := 0) (J := 4) rfl rfl rfl (by omega) (by omega) ?_) (fun h3 => ?_)
  · rw [show 0 * 5 + 4 = 4 from rfl, hfS 4 (by omega), show 6 + 4 = 10 from rfl]
    refine pk_le (cn (g 10)) 0 (fun h1 => ?_) (fun h1 => ?_) t0
    · have hl : blp g m = false := by
        unfold blp
        rw [decide_eq_false (fun e => nI_ne (a := 1) (c := cn (g 10)) (by omega) (by omega) (by omega) (e.symm.trans t0))]; rfl
      exact puts 0 _ (L1 _ (hno (X := True) hl R'))
    · have hl : blp g m = true := by
        unfold blp
        rw [decide_eq_true (by rw [t0, show cn (g 10) = 1 by omega]; rfl), decide_eq_true h3]; rfl
      refine puts 2 _ ?_
      refine loop_0 (fun f i (s : XRow) => wp_X4_makeBale_L176_2 (nI (cn (g 2))) (fil N (cn (g 2) * 12) 12 (bnv g m 2)) _ f (nI i) s) (fun i s => s = fil (fil P (m * 5) 5 (fun k => nI (bq g m k - bs g m k))) 30 i (fun k => nI (cn (g (11 + k)) + bs g m k))) 5 _ (fil_0 _ _ _).symm ?_ ?_
      · intro f s hs
        subst hs
        refine if_y (nI_le (a := 5) (b := 5) (by omega) (by omega)) ?_
        have := h R'
        unfold bP bN at this
        rw [hl] at this
        exact this
      · intro f i s hi hs hk
        subst hs
        have e1 : nI i + 1 = nI (i + 1) := nI_1 i
        have ev : bnv g m 2 i = nI (bs g m i) := by
          rcases (show i = 0 ∨ i = 1 ∨ i = 2 ∨ i = 3 ∨ i = 4 by omega) with rfl | rfl | rfl | rfl | rfl <;> rfl
        refine if_n (nI_ge (a := i) (b := 5) hi (by omega)) (tb_get (W := 12) (I := cn (g 2)) (J := i) rfl rfl rfl (by omega) (by omega) (tb_add (W := 5) (I := 6) (J := i) rfl rfl rfl (by omega) (by omega) ?_))
        rw [fil_in (f := N) (by omega), ev]
        intro y hy
        rw [hy, e1]
        refine hk _ ?_
        rw [show 6 * 5 + i = 30 + i by omega, fil_out (j := 30 + i) (b := 30) (by omega), fil_out (j := 30 + i) (by omega), (hP.1 i hi).1]
        conv => lhs; arg 3; arg 1; rw [show g (11 + i) = nI (cn (g (11 + i))) from ((Inv_K hI).1 i hi).1]
        rw [nI_add]
        exact fil_s _ 30 i (fun k => nI (cn (g (11 + k)) + bs g m k))
  · have hl : blp g m = false := by unfold blp; rw [decide_eq_false h3]; exact Bool.and_false _
    exact puts 0 _ (L0 _ (hno (X := True) hl R'))
/-- the plant with a bale more -/
def dPs (d : PD) (M P N : XRow) (bc z : Int32) : PD := (d.1, M, P, N, bc, d.2.2.2.2.2.1, d.2.2.2.2.2.2.1, d.2.2.2.2.2.2.2.1, d.2.2.2.2.2.2.2.2.1, d.2.2.2.2.2.2.2.2.2.1, z, d.2.2.2.2.2.2.2.2.2.2.2)
theorem bsum_dec {g g' : XRow} {m n : Nat} (h1 : s5 (kq g' (31 + 11 * m)) + n = s5 (kq g (31 + 11 * m))) : ∀ {N : Nat}, (∀ q, q < N → q ≠ m → s5 (kq g' (31 + 11 * q)) = s5 (kq g (31 + 11 * q))) → bsum g' N + (if m < N then n else 0) = bsum g N
  | 0, _ => by rw [if_neg (by omega)]; rfl
  | N + 1, h => by
    have ih := bsum_dec (N := N) h1 (fun q hq => h q (by omega))
    show bsum g' N + s5 (kq g' (31 + 11 * N)) + _ = bsum g N + s5 (kq g (31 + 11 * N))
    by_cases hm : N = m
    · subst hm
      rw [if_neg (by omega)] at ih
      rw [if_pos (by omega)]; omega
    · have := h N (by omega) hm
      by_cases h2 : m < N
      · rw [if_pos h2] at ih; rw [if_pos (by omega)]; omega
      · rw [if_neg h2] at ih; rw [if_neg (by omega)]; omega
theorem Rel_bale {m : Nat} (hb : b ≤ 600) (hR : Rel b d g) (hH : BH g m) : Rel b (dPs d (upd d.2.1 (m * 7 + 6) (g (36 + 11 * m) + 1)) (bP g d.2.2.1 m) (bN g d.2.2.2.1 m) (nI (cn (g 2) + 1)) (zN (g 1) (cn (g 9)))) (oBale g m) := by
  obtain ⟨hI, hS, hM, hP, hN, e1, hC, e2, e3, e4, e5⟩ := hR
  obtain ⟨far, f1, f2, f11, f31, f36, f132, f137, f138, f139, f140⟩ := oBale_facts hI hb hH
  have h6 := (IM_mc (Inv_M hI)).2
  have h60 := (IB_nb (Inv_B hI)).2
  have h8 := (IC_nc (Inv_C hI)).2
  obtain ⟨⟨n0, n1, n2⟩, ⟨l0, l1, l2⟩, t0, t1⟩ := set_ok (Inv_S hI)
  have hm := hH.1
  have hn := hH.2.2
  have hK := Inv_K hI
  obtain ⟨s1, s2⟩ := bs_sum (Inv_S hI) hH
  have hq := bq_le hI hm
  have hsm := bsm_le (Inv_S hI) m
  have hbs : ∀ k, k < 5 → bs g m k ≤ 200 := fun k hk => by have := s5_ge (bs g m) k hk; omega
  have hbq : ∀ k, k < 5 → bq g m k ≤ 999 * b := fun k hk => by have := s5_ge (bq g m) k hk; omega
  have hxl : ∀ k, (bif blp g m then bs g m k else 0) ≤ bs g m k := fun k => by cases blp g m <;> simp
  have f0 := far 0 (by omega) (by omega) (by omega) (by omega) (by omega)
  have f3 := far 3 (by omega) (by omega) (by omega) (by omega) (by omega)
  have c2 : cn (oBale g m 2) = cn (g 2) + 1 := by rw [f2]; exact cn_nI (by omega)
  have fM : ∀ q, q < cn (g 0) → ∀ j, j < 5 → oBale g m (26 + 11 * q + j) = g (26 + 11 * q + j) := fun q hq2 j hj => far _ (by omega) (by omega) (by omega) (by omega) (by omega)
  have kn : s5 (kq (oBale g m) (132 + 9 * cn (g 2))) = cn (g 8) := by
    rw [← s1]
    refine s5_congr (fun k hk => ?_)
    show cn (oBale g m (132 + 9 * cn (g 2) + k)) = _
    rw [f132 k hk, cn_nI (by have := hbs k hk; omega)]
  have ko : ∀ i, i < cn (g 2) → s5 (kq (oBale g m) (132 + 9 * i)) = s5 (kq g (132 + 9 * i)) := fun i hi => kq_eq (fun k hk => far _ (by omega) (by omega) (by omega) (by omega) (by omega))
  have fo : ∀ i, i < cn (g 2) → ∀ j, j < 9 → oBale g m (132 + 9 * i + j) = g (132 + 9 * i + j) := fun i hi j hj => far _ (by omega) (by omega) (by omega) (by omega) (by omega)
  have q11 : s5 (kq (oBale g m) 11) ≤ s5 (kq g 11) + cn (g 8) := by
    rw [← s1, ← s5_add]
    refine s5_le (fun k hk => ?_)
    show cn (oBale g m (11 + k)) ≤ cn (g (11 + k)) + bs g m k
    have := hxl k
    have := hop_le hK hk
    have := hbs k hk
    rw [f11 k hk, cn_nI (by omega)]
    omega
  have q16 : s5 (kq (oBale g m) 16) = s5 (kq g 16) := kq_eq (fun k hk => far _ (by omega) (by omega) (by omega) (by omega) (by omega))
  have q21 : s5 (kq (oBale g m) 21) = s5 (kq g 21) := kq_eq (fun k hk => far _ (by omega) (by omega) (by omega) (by omega) (by omega))
  have qm : s5 (kq (oBale g m) (31 + 11 * m)) + cn (g 8) = s5 (kq g (31 + 11 * m)) := by
    have h9 := s5_sub (f := bq g m) (h := bs g m) (fun k _ => s2 k)
    rw [s1] at h9
    have : s5 (kq (oBale g m) (31 + 11 * m)) = s5 (fun k => bq g m k - bs g m k) := s5_congr (fun k hk => by
      show cn (oBale g m (31 + 11 * m + k)) = _
      rw [f31 k hk, cn_nI (by have := hbq k hk; omega)])
    rw [this]; exact h9
  have bsm0 := bsum_dec (N := cn (g 0)) qm (fun q hq2 hne => kq_eq (fun k hk => far _ (by omega) (by omega) (by omega) (by omega) (by omega)))
  rw [if_pos hm] at bsm0
  obtain ⟨w0, w1, w2⟩ := ok_cn ((Inv_M hI).2 m hm).1 (by omega)
  refine ⟨⟨IS_eq (fun x h1 h2 => far x (by omega) (by omega) (by omega) (by omega) (by omega)) (Inv_S hI), IM_eq f0 fM (Inv_M hI), ?_, ?_, ?_, ?_⟩, RS_eq (fun x h1 h2 => far x (by omega) (by omega) (by omega) (by omega) (by omega)) hS, ?_, ?_, ?_, ?_, ?_, ?_, ?_, ?_, ?_⟩
  · refine ⟨fun k hk => ⟨?_, ?_, ?_⟩, fun q hq2 k hk => ?_, ?_, ?_⟩
    · rw [f11 k hk]
      have := hxl k
      have := hop_le hK hk
      have := hbs k hk
      exact kok_nI (by omega)
    · rw [far _ (by omega) (by omega) (by omega) (by omega) (by omega)]; exact (hK.1 k hk).2.1
    · rw [far _ (by omega) (by omega) (by omega) (by omega) (by omega)]; exact (hK.1 k hk).2.2
    · rw [f0] at hq2
      by_cases h : q = m
      · subst h; rw [f31 k hk]; exact kok_nI (by have := hbq k hk; omega)
      · rw [far _ (by omega) (by omega) (by omega) (by omega) (by omega)]; exact hK.2.1 q hq2 k hk
    · have := hK.2.2.1
      unfold tot at this ⊢
      rw [f0, q16]
      omega
    · rw [q21]; exact hK.2.2.2
  · exact IC_eq f3 (fun j h1 h2 => far j (by omega) (by omega) (by omega) (by omega) (by omega)) (Inv_C hI)
  · refine ⟨by rw [f2]; exact ok_nI (by omega) (by omega), fun i hi => ?_⟩
    rw [c2] at hi
    by_cases h : i = cn (g 2)
    · subst h
      refine ⟨fun k hk => by rw [f132 k hk]; exact kok_nI (by have := hbs k hk; omega), by rw [kn]; exact n1, by rw [kn]; exact n2, by rw [f137]; exact ((Inv_M hI).2 m hm).1, by rw [f138]; exact ok_nI (by omega) hsm, ?_, fun h9 => ?_⟩
      · rw [f139]
        cases blp g m with
        | false => exact ok_nI (n := 0) (by omega) (by omega)
        | true => exact ok_nI (n := 2) (by omega) (by omega)
      · rw [f139] at h9
        cases hl : blp g m with
        | false => rw [hl] at h9; exact absurd h9 (by decide)
        | true => rw [hl] at h9; exact absurd h9 (by decide)
    · exact IB1_eq f3 (fun j h1 h2 => far j (by omega) (by omega) (by omega) (by omega) (by omega)) ((Inv_B hI).2 i (by omega))
  · show oBale g m 5 = nI (pays (oBale g m) (cn (oBale g m 2)))
    rw [far 5 (by omega) (by omega) (by omega) (by omega) (by omega), c2]
    show g 5 = nI (pays (oBale g m) (cn (g 2)) + pay1 (oBale g m) (cn (g 2)))
    have z : pay1 (oBale g m) (cn (g 2)) = 0 := by
      unfold pay1
      rw [f139]
      cases blp g m with
      | false => exact if_neg (by decide)
      | true => exact if_neg (by decide)
    rw [z, Nat.add_zero, pays_eq (g := g) (fun i hi => pay1_eq ((Inv_B hI).2 i hi) h8 (fun j h1 h2 => far j (by omega) (by omega) (by omega) (by omega) (by omega)) (fun c hc => far _ (by omega) (by omega) (by omega) (by omega) (by omega)))]
    exact Inv_P hI
  · intro q hq2
    rw [f0] at hq2
    refine ⟨fun j hj => ?_, ?_⟩
    · show upd d.2.1 (m * 7 + 6) _ (q * 7 + j) = _
      rw [un (by omega), fM q hq2 j hj]; exact (hM q hq2).1 j hj
    · show upd d.2.1 (m * 7 + 6) _ (q * 7 + 6) = _
      by_cases h : q = m
      · subst h; rw [pk_us, f36]
      · rw [un (by omega), far _ (by omega) (by omega) (by omega) (by omega) (by omega)]; exact (hM q hq2).2
  · obtain ⟨p1, p2, p3⟩ := hP
    have bp : ∀ x, (x < 30 ∨ 35 ≤ x) → bP g d.2.2.1 m x = fil d.2.2.1 (m * 5) 5 (fun k => nI (bq g m k - bs g m k)) x := fun x hx => by
      unfold bP
      cases blp g m with
      | false => rfl
      | true => exact fil_out (f := fil d.2.2.1 (m * 5) 5 (fun k => nI (bq g m k - bs g m k))) (b := 30) (k := 5) (v := fun k => nI (cn (g (11 + k)) + bs g m k)) (by omega)
    refine ⟨fun k hk => ⟨?_, ?_, ?_⟩, fun q hq2 k hk => ?_, fun x hx1 hx2 => ?_⟩
    · show bP g d.2.2.1 m (30 + k) = _
      rw [f11 k hk]
      unfold bP
      cases blp g m with
      | false =>
        show fil d.2.2.1 (m * 5) 5 (fun k => nI (bq g m k - bs g m k)) (30 + k) = nI (cn (g (11 + k)) + 0)
        rw [fil_out (by omega), (p1 k hk).1]; exact (hK.1 k hk).1
      | true => exact fil_in (f := fil d.2.2.1 (m * 5) 5 (fun k => nI (bq g m k - bs g m k))) (b := 30) (k := 5) (v := fun k => nI (cn (g (11 + k)) + bs g m k)) hk
    · show bP g d.2.2.1 m (35 + k) = _
      rw [bp _ (by omega), fil_out (by omega), far _ (by omega) (by omega) (by omega) (by omega) (by omega)]; exact (p1 k hk).2.1
    · show bP g d.2.2.1 m (40 + k) = _
      rw [bp _ (by omega), fil_out (by omega), far _ (by omega) (by omega) (by omega) (by omega) (by omega)]; exact (p1 k hk).2.2
    · rw [f0] at hq2
      show bP g d.2.2.1 m (q * 5 + k) = _
      rw [bp _ (by omega)]
      by_cases h : q = m
      · subst h; rw [fil_in hk, f31 k hk]
      · rw [fil_out (by omega), far _ (by omega) (by omega) (by omega) (by omega) (by omega)]; exact p2 q hq2 k hk
    · rw [f0] at hx1
      show bP g d.2.2.1 m x = _
      rw [bp _ (by omega), fil_out (by omega)]; exact p3 x hx1 hx2
  · intro i hi
    rw [c2] at hi
    by_cases h : i = cn (g 2)
    · subst h
      have nv : ∀ j, j < 12 → bN g d.2.2.2.1 m (cn (g 2) * 12 + j) = bnv g m (bif blp g m then 2 else 0) j := fun j hj => fil_in hj
      refine ⟨fun k hk => ?_, ?_, ?_, ?_, ?_, ?_, ?_, ?_⟩
      · show bN g d.2.2.2.1 m _ = _
        rw [nv k (by omega), f132 k hk]
        rcases (show k = 0 ∨ k = 1 ∨ k = 2 ∨ k = 3 ∨ k = 4 by omega) with rfl | rfl | rfl | rfl | rfl <;> rfl
      · show bN g d.2.2.2.1 m _ = _
        rw [nv 5 (by omega), f137]; rfl
      · show bN g d.2.2.2.1 m _ = _
        rw [nv 6 (by omega), kn]; rfl
      · show bN g d.2.2.2.1 m _ = _
        rw [nv 7 (by omega), kn, f137, f132 _ (by omega), cn_nI (by have := hbs (cn (g (26 + 11 * m))) (by omega); omega)]; rfl
      · show bN g d.2.2.2.1 m _ = _
        rw [nv 8 (by omega), f138]; rfl
      · show bN g d.2.2.2.1 m _ = _
        rw [nv 9 (by omega), f138, cn_nI (by omega)]; rfl
      · show bN g d.2.2.2.1 m _ = _
        rw [nv 10 (by omega), f139]; rfl
      · show bN g d.2.2.2.1 m _ = _
        rw [nv 11 (by omega), f140]; rfl
    · have no : ∀ j, j < 12 → bN g d.2.2.2.1 m (i * 12 + j) = d.2.2.2.1 (i * 12 + j) := fun j hj => fil_out (by omega)
      have h9 := RN1_eq (f := d.2.2.2.1) (g' := oBale g m) (fun j h1 h2 => far j (by omega) (by omega) (by omega) (by omega) (by omega)) (IB1_mat ((Inv_B hI).2 i (by omega))) (hN i (by omega))
      obtain ⟨r1, r2, r3, r4, r5, r6, r7, r8⟩ := h9
      refine ⟨fun k hk => (no k (by omega)).trans (r1 k hk), (no 5 (by omega)).trans r2, (no 6 (by omega)).trans r3, (no 7 (by omega)).trans r4, (no 8 (by omega)).trans r5, (no 9 (by omega)).trans r6, (no 10 (by omega)).trans r7, (no 11 (by omega)).trans r8⟩
  · exact f2.symm
  · exact RC_eq h8 f3 (fun j h1 h2 => far j (by omega) (by omega) (by omega) (by omega) (by omega)) hC
  · rw [f3]; exact e2
  · rw [f0]; exact e3
  · exact f1.symm
  · rw [far 4 (by omega) (by omega) (by omega) (by omega) (by omega)]; exact e5
end BB
