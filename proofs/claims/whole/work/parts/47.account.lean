/-! ===== level 2: the account, purity, what is wasted ===== -/
section AC
variable {b : Nat} {d : PD} {g : XRow}
theorem end_le {x : Int32} {n : Nat} (e : x = nI n) (h : n < 2 ^ 31) : x ≤ nI n := by subst e; exact nI_le (Nat.le_refl _) h
theorem end_ge {x : Int32} {n i : Nat} (e : x = nI n) (hi : i < n) (h : n < 2 ^ 31) : ¬ x ≤ nI i := by subst e; exact nI_ge hi h
def kin1 (g : XRow) (w : Int32) (i : Nat) : Nat := if g (139 + 9 * i) = w then s5 (kq g (132 + 9 * i)) else 0
theorem tc_kin {w : Int32} {post : Int32 → Prop} (hR : Rel b d g) (h : post (nI (bfold (kin1 g w) (cn (g 2))))) : wp_X0_kilosIn d.2.2.2.1 d.2.2.2.2.1 w post := by
  obtain ⟨e2, h60⟩ := IB_nb (Inv_B hR.1)
  unfold wp_X0_kilosIn
  rw [Rel_bc hR]
  refine loop_0 (fun n i s => wp_X0_kilosIn_L4 d.2.2.2.1 (g 2) w (fun (_ : Int32) (v10 : Int32) => post v10) n (nI i) s) (fun i s => s = nI (bfold (kin1 g w) i)) (cn (g 2)) 0 rfl ?_ ?_
  · intro n s hs
    subst hs
    exact if_y (end_le e2 (by omega)) h
  · intro n i s hi hs hk
    subst hs
    have e1 : nI i + 1 = nI (i + 1) := nI_1 i
    obtain ⟨n1, n2, n3, n4, n5, n6, n7, n8⟩ := Rel_N hR i hi
    have nx : ∀ x y : Int32, x = nI (bfold (kin1 g w) i) + nI (kin1 g w i) → y = nI i + 1 → wp_X0_kilosIn_L4 d.2.2.2.1 (g 2) w (fun (_ : Int32) (v10 : Int32) => post v10) n y x := fun x y hx hy => by
      rw [hx, hy, e1, nI_add]; exact hk _ rfl
    refine if_n (end_ge e2 hi (by omega)) (tb_get (W := 12) (I := i) (J := 10) rfl rfl rfl (by omega) (by omega) ?_)
    rw [n7]
    refine ⟨fun h0 => tb_get (W := 12) (I := i) (J := 6) rfl rfl rfl (by omega) (by omega) ?_, fun h0 x hx y hy => nx x y ?_ hy⟩
    · rw [n3]
      intro x hx y hy
      refine nx x y ?_ hy
      rw [hx]; unfold kin1; rw [if_pos h0]
    · rw [hx]; unfold kin1; rw [if_neg h0]; rfl
theorem tm_kin {w : Int32} {post : Int32 → Prop} (hR : Rel b d g) (h : post (nI (bfold (kin1 g w) (cn (g 2))))) : wp_X9_balesIn g w post := by
  obtain ⟨e2, h60⟩ := IB_nb (Inv_B hR.1)
  refine loop_0 (fun n i s => wp_X9_balesIn_L4 g w (fun (_ : Int32) (v10 : Int32) => post v10) n (nI i) s) (fun i s => s = nI (bfold (kin1 g w) i)) (cn (g 2)) 0 rfl ?_ ?_
  · intro n s hs
    subst hs
    exact ⟨v672 (n := 2) (by omega), if_y (end_le (x := g 2) e2 (by omega)) h⟩
  · intro n i s hi hs hk
    subst hs
    have e1 : nI i + 1 = nI (i + 1) := nI_1 i
    have hB := (Inv_B hR.1).2 i hi
    have nx : ∀ x y : Int32, x = nI (bfold (kin1 g w) i) + nI (kin1 g w i) → y = nI i + 1 → wp_X9_balesIn_L4 g w (fun (_ : Int32) (v10 : Int32) => post v10) n y x := fun x y hx hy => by
      rw [hx, hy, e1, nI_add]; exact hk _ rfl
    refine ⟨v672 (n := 2) (by omega), if_n (end_ge (x := g 2) e2 hi (by omega)) (tm_bAt (m := i) (w := 7) rfl rfl ⟨v672 (by omega), ?_⟩)⟩
    rw [tn_nI (by omega), show 132 + 9 * i + 7 = 139 + 9 * i by omega]
    refine ⟨fun h0 => tm_kilos rfl hB (by omega) (fun x hx y hy => nx x y ?_ hy), fun h0 x hx y hy => nx x y ?_ hy⟩
    · rw [hx]; unfold kin1; rw [if_pos h0]
    · rw [hx]; unfold kin1; rw [if_neg h0]; rfl
/-! the bunkers -/
theorem tc_bunk {post : Int32 → Prop} (hR : Rel b d g) (h : post (nI (bsum g (cn (g 0))))) : wp_X4_kilosInBunkers d.2.2.1 d.2.2.2.2.2.2.2.2.2.1 post := by
  obtain ⟨e0, h6⟩ := IM_mc (Inv_M hR.1)
  unfold wp_X4_kilosInBunkers
  rw [Rel_mc hR]
  refine loop_0 (fun n i s => wp_X4_kilosInBunkers_L4 d.2.2.1 (g 0) (fun (_ : Int32) (v7 : Int32) => post v7) n (nI i) s) (fun i s => s = nI (bsum g i)) (cn (g 0)) 0 rfl ?_ ?_
  · intro n s hs
    subst hs
    exact if_y (end_le e0 (by omega)) h
  · intro n i s hi hs hk
    subst hs
    have e1 : nI i + 1 = nI (i + 1) := nI_1 i
    refine if_n (end_ge e0 hi (by omega)) (tb_sum (I := i) rfl (by omega) (by omega) ?_)
    rw [i5_fg (g := g) (a := 31 + 11 * i) (RP_bun (Rel_P hR) hi), i5_g ((Inv_K hR.1).2.1 i hi)]
    intro x hx y hy
    rw [hy, e1]
    refine hk _ ?_
    rw [hx, nI_add]
    rfl
theorem tm_bunk {post : Int32 → Prop} (hR : Rel b d g) (h : post (nI (bsum g (cn (g 0))))) : wp_X9_bunkers g post := by
  obtain ⟨e0, h6⟩ := IM_mc (Inv_M hR.1)
  refine loop_0 (fun n i s => wp_X9_bunkers_L4 g (fun (_ : Int32) (v8 : Int32) => post v8) n (nI i) s) (fun i s => s = nI (bsum g i)) (cn (g 0)) 0 rfl ?_ ?_
  · intro n s hs
    subst hs
    exact ⟨v672 (n := 0) (by omega), if_y (end_le (x := g 0) e0 (by omega)) h⟩
  · intro n i s hi hs hk
    subst hs
    have e1 : nI i + 1 = nI (i + 1) := nI_1 i
    refine ⟨v672 (n := 0) (by omega), if_n (end_ge (x := g 0) e0 hi (by omega)) (tm_mAt (m := i) (w := 5) rfl rfl (tq_sum (a := 31 + 11 * i) (by congr 1; omega) (by omega) ?_))⟩
    rw [i5_g ((Inv_K hR.1).2.1 i hi)]
    intro x hx y hy
    rw [hy, e1]
    refine hk _ ?_
    rw [hx, nI_add]
    rfl
/-! what was paid -/
theorem pay1_le (hC : IC g) {i : Nat} (hB : IB1 g i) : pay1 g i ≤ 19800 := by
  unfold pay1
  by_cases h0 : g (139 + 9 * i) = 1
  · rw [if_pos h0]
    obtain ⟨c, hc, ec⟩ := hB.2.2.2.2.2.2 h0
    have h8 := (IC_nc hC).2
    rw [ec, cn_nI (by omega)]
    obtain ⟨e, l, u⟩ := ok_cn (hC.2 c hc).2.2.2 (by omega)
    exact Nat.mul_le_mul hB.2.2.1 u
  · rw [if_neg h0]; omega
theorem pays_le (hC : IC g) (hB : IB g) : ∀ n, n ≤ cn (g 2) → pays g n ≤ n * 19800
  | 0, _ => Nat.zero_le _
  | n + 1, hn => by
    have := pays_le hC hB n (by omega)
    have := pay1_le hC (hB.2 n (by omega))
    show pays g n + pay1 g n ≤ _
    omega
theorem tc_paid {post : Int64 → Prop} (hR : Rel b d g) (h : post (lN (pays g (cn (g 2))))) : wp_X4_paid d.2.2.2.1 d.2.2.2.2.1 d.2.2.2.2.2.2.1 post := by
  obtain ⟨e2, h60⟩ := IB_nb (Inv_B hR.1)
  have hC := Inv_C hR.1
  have h8 := (IC_nc hC).2
  unfold wp_X4_paid
  rw [Rel_bc hR]
  refine loop_0 (fun n i s => wp_X4_paid_L4 d.2.2.2.1 (g 2) d.2.2.2.2.2.2.1 (fun (_ : Int32) (v11 : Int64) => post v11) n (nI i) s) (fun i s => s = lN (pays g i)) (cn (g 2)) 0 rfl ?_ ?_
  · intro n s hs
    subst hs
    exact if_y (end_le e2 (by omega)) h
  · intro n i s hi hs hk
    subst hs
    have e1 : nI i + 1 = nI (i + 1) := nI_1 i
    have hB := (Inv_B hR.1).2 i hi
    obtain ⟨n1, n2, n3, n4, n5, n6, n7, n8⟩ := Rel_N hR i hi
    have nx : ∀ (x : Int64) (y : Int32), x = lN (pays g i) + lN (pay1 g i) → y = nI i + 1 → wp_X4_paid_L4 d.2.2.2.1 (g 2) d.2.2.2.2.2.2.1 (fun (_ : Int32) (v11 : Int64) => post v11) n y x := fun x y hx hy => by
      rw [hx, hy, e1, lN_add]; exact hk _ rfl
    refine if_n (end_ge e2 hi (by omega)) (tb_get (W := 12) (I := i) (J := 10) rfl rfl rfl (by omega) (by omega) ?_)
    rw [n7]
    refine ⟨fun h0 => ?_, fun h0 y hy => nx _ y ?_ hy⟩
    · obtain ⟨c, hc, ec⟩ := hB.2.2.2.2.2.2 h0
      obtain ⟨e95, l95, u95⟩ := ok_cn (hC.2 c hc).2.2.2 (by omega)
      refine tb_get (W := 12) (I := i) (J := 11) rfl rfl rfl (by omega) (by omega) ?_
      rw [n8]
      refine tb_get (W := 5) (I := c) (J := 3) rfl ec rfl (by omega) (by omega) (tb_get (W := 12) (I := i) (J := 6) rfl rfl rfl (by omega) (by omega) ?_)
      rw [n3, Rel_C hR c hc 3 (by omega), show 92 + 5 * c + 3 = 95 + 5 * c by omega]
      have hk2 := hB.2.2.1
      intro x hx y hy
      refine nx x y ?_ hy
      rw [hx, e95, nI_l (by omega), nI_l (by omega), lN_mul]
      unfold pay1
      rw [if_pos h0, ec, cn_nI (by omega)]
    · unfold pay1
      rw [if_neg h0]
      exact (Int64.add_zero _).symm
/-! the account -/
theorem acc_sw {j : Nat} {A B5 B6 B7 B8 B9 B10 B11 B12 B13 B14 B15 : Prop} (hj : j ≤ 15) (hA : j < 5 → A) (h5 : j = 5 → B5) (h6 : j = 6 → B6) (h7 : j = 7 → B7) (h8 : j = 8 → B8) (h9 : j = 9 → B9) (h10 : j = 10 → B10) (h11 : j = 11 → B11) (h12 : j = 12 → B12) (h13 : j = 13 → B13) (h14 : j = 14 → B14) (h15 : j = 15 → B15) : (((nI j).toInt < 5 ∨ 5 + (11 : Nat) ≤ (nI j).toInt) → A) ∧ (nI j = 5 → B5) ∧ (nI j = 6 → B6) ∧ (nI j = 7 → B7) ∧ (nI j = 8 → B8) ∧ (nI j = 9 → B9) ∧ (nI j = 10 → B10) ∧ (nI j = 11 → B11) ∧ (nI j = 12 → B12) ∧ (nI j = 13 → B13) ∧ (nI j = 14 → B14) ∧ (nI j = 15 → B15) := by
  refine ⟨fun h => hA ?_, fun h => h5 ?_, fun h => h6 ?_, fun h => h7 ?_, fun h => h8 ?_, fun h => h9 ?_, fun h => h10 ?_, fun h => h11 ?_, fun h => h12 ?_, fun h => h13 ?_, fun h => h14 ?_, fun h => h15 ?_⟩
  · rw [nI_toInt (by omega)] at h; omega
  · exact (nI_eq (a := j) (b := 5) (by omega) (by omega)).mp h
  · exact (nI_eq (a := j) (b := 6) (by omega) (by omega)).mp h
  · exact (nI_eq (a := j) (b := 7) (by omega) (by omega)).mp h
  · exact (nI_eq (a := j) (b := 8) (by omega) (by omega)).mp h
  · exact (nI_eq (a := j) (b := 9) (by omega) (by omega)).mp h
  · exact (nI_eq (a := j) (b := 10) (by omega) (by omega)).mp h
  · exact (nI_eq (a := j) (b := 11) (by omega) (by omega)).mp h
  · exact (nI_eq (a := j) (b := 12) (by omega) (by omega)).mp h
  · exact (nI_eq (a := j) (b := 13) (by omega) (by omega)).mp h
  · exact (nI_eq (a := j) (b := 14) (by omega) (by omega)).mp h
  · exact (nI_eq (a := j) (b := 15) (by omega) (by omega)).mp h
theorem j_account {p0 : Int32} (hR : Rel b d g) : J1 (wp_X8_account d p0) (wp_X9_account g p0) 0 sIA := by
  obtain ⟨q1, q2, q3⟩ := Rel_P hR
  cases w : wi p0 0 15 with
  | false => exact Or.inr ⟨fun post postX h => tw_wi (bb_f w h), fun post h => tw_in (bb_f w h)⟩
  | true =>
    obtain ⟨j, hj, rfl⟩ := wi_0 (n := 15) rfl (by omega) w
    refine Or.inl ?_
    rcases (show j < 5 ∨ j = 5 ∨ j = 6 ∨ j = 7 ∨ j = 8 ∨ j = 9 ∨ j = 10 ∨ j = 11 ∨ j = 12 ∨ j = 13 ∨ j = 14 ∨ j = 15 by omega) with hj5 | rfl | rfl | rfl | rfl | rfl | rfl | rfl | rfl | rfl | rfl | rfl
    · refine ⟨(g (21 + j)).toInt64, fun post postX h => tw_wi (bb_t w (acc_sw (by omega) (fun _ => tb_get (W := 5) (I := 8) (J := j) rfl rfl rfl (by omega) (by omega) ?_) (by omega) (by omega) (by omega) (by omega) (by omega) (by omega) (by omega) (by omega) (by omega) (by omega) (by omega))), fun post h => tw_in (bb_t w (acc_sw (by omega) (fun _ => ?_) (by omega) (by omega) (by omega) (by omega) (by omega) (by omega) (by omega) (by omega) (by omega) (by omega) (by omega)))⟩
      · rw [show 8 * 5 + j = 40 + j by omega, (q1 j hj5).2.2]; exact h
      · rw [a21]; exact tm_g (P := fun x => post (x.toInt64, 0)) (by omega) h
    · refine ⟨(i5 g 11).toInt64, fun post postX h => tw_wi (bb_t w (acc_sw (by omega) (by omega) (fun _ => tb_sum (I := 6) rfl (by omega) (by omega) ?_) (by omega) (by omega) (by omega) (by omega) (by omega) (by omega) (by omega) (by omega) (by omega) (by omega))), fun post h => tw_in (bb_t w (acc_sw (by omega) (by omega) (fun _ => tq_sum (a := 11) rfl (by omega) h) (by omega) (by omega) (by omega) (by omega) (by omega) (by omega) (by omega) (by omega) (by omega) (by omega)))⟩
      rw [i5_fg (g := g) (a := 11) (fun k hk => (q1 k hk).1)]; exact h
    · refine ⟨(nI (bsum g (cn (g 0)))).toInt64, fun post postX h => tw_wi (bb_t w (acc_sw (by omega) (by omega) (by omega) (fun _ => tc_bunk hR h) (by omega) (by omega) (by omega) (by omega) (by omega) (by omega) (by omega) (by omega) (by omega))), fun post h => tw_in (bb_t w (acc_sw (by omega) (by omega) (by omega) (fun _ => tm_bunk hR h) (by omega) (by omega) (by omega) (by omega) (by omega) (by omega) (by omega) (by omega) (by omega)))⟩
    · refine ⟨(nI (bfold (kin1 g 0) (cn (g 2)))).toInt64, fun post postX h => tw_wi (bb_t w (acc_sw (by omega) (by omega) (by omega) (by omega) (fun _ => tc_kin hR h) (by omega) (by omega) (by omega) (by omega) (by omega) (by omega) (by omega) (by omega))), fun post h => tw_in (bb_t w (acc_sw (by omega) (by omega) (by omega) (by omega) (fun _ => tm_kin hR h) (by omega) (by omega) (by omega) (by omega) (by omega) (by omega) (by omega) (by omega)))⟩
    · refine ⟨(nI (bfold (kin1 g 1) (cn (g 2)))).toInt64, fun post postX h => tw_wi (bb_t w (acc_sw (by omega) (by omega) (by omega) (by omega) (by omega) (fun _ => tc_kin hR h) (by omega) (by omega) (by omega) (by omega) (by omega) (by omega) (by omega))), fun post h => tw_in (bb_t w (acc_sw (by omega) (by omega) (by omega) (by omega) (by omega) (fun _ => tm_kin hR h) (by omega) (by omega) (by omega) (by omega) (by omega) (by omega) (by omega)))⟩
    · refine ⟨(i5 g 16).toInt64, fun post postX h => tw_wi (bb_t w (acc_sw (by omega) (by omega) (by omega) (by omega) (by omega) (by omega) (fun _ => tb_sum (I := 7) rfl (by omega) (by omega) ?_) (by omega) (by omega) (by omega) (by omega) (by omega) (by omega))), fun post h => tw_in (bb_t w (acc_sw (by omega) (by omega) (by omega) (by omega) (by omega) (by omega) (fun _ => tq_sum (a := 16) rfl (by omega) h) (by omega) (by omega) (by omega) (by omega) (by omega) (by omega)))⟩
      rw [i5_fg (g := g) (a := 16) (fun k hk => (q1 k hk).2.1)]; exact h
    · refine ⟨(g 2).toInt64, fun post postX h => tw_wi (bb_t w (acc_sw (by omega) (by omega) (by omega) (by omega) (by omega) (by omega) (by omega) (fun _ => ?_) (by omega) (by omega) (by omega) (by omega) (by omega))), fun post h => tw_in (bb_t w (acc_sw (by omega) (by omega) (by omega) (by omega) (by omega) (by omega) (by omega) (fun _ => ⟨v672 (n := 2) (by omega), h⟩) (by omega) (by omega) (by omega) (by omega) (by omega)))⟩
      rw [Rel_bc hR]; exact h
    · refine ⟨(g 3).toInt64, fun post postX h => tw_wi (bb_t w (acc_sw (by omega) (by omega) (by omega) (by omega) (by omega) (by omega) (by omega) (by omega) (fun _ => ?_) (by omega) (by omega) (by omega) (by omega))), fun post h => tw_in (bb_t w (acc_sw (by omega) (by omega) (by omega) (by omega) (by omega) (by omega) (by omega) (by omega) (fun _ => ⟨v672 (n := 3) (by omega), h⟩) (by omega) (by omega) (by omega) (by omega)))⟩
      rw [Rel_cc hR]; exact h
    · refine ⟨(g 4).toInt64, fun post postX h => tw_wi (bb_t w (acc_sw (by omega) (by omega) (by omega) (by omega) (by omega) (by omega) (by omega) (by omega) (by omega) (fun _ => ?_) (by omega) (by omega) (by omega))), fun post h => tw_in (bb_t w (acc_sw (by omega) (by omega) (by omega) (by omega) (by omega) (by omega) (by omega) (by omega) (by omega) (fun _ => ⟨v672 (n := 4) (by omega), h⟩) (by omega) (by omega) (by omega)))⟩
      rw [Rel_pc hR]; exact h
    · refine ⟨lN (pays g (cn (g 2))), fun post postX h => tw_wi (bb_t w (acc_sw (by omega) (by omega) (by omega) (by omega) (by omega) (by omega) (by omega) (by omega) (by omega) (by omega) (fun _ => tc_paid hR h) (by omega) (by omega))), fun post h => tw_in (bb_t w (acc_sw (by omega) (by omega) (by omega) (by omega) (by omega) (by omega) (by omega) (by omega) (by omega) (by omega) (fun _ => ⟨v672 (n := 5) (by omega), ?_⟩) (by omega) (by omega)))⟩
      have e5 : g 5 = nI (pays g (cn (g 2))) := Inv_P hR.1
      have hle := pays_le (Inv_C hR.1) (Inv_B hR.1) (cn (g 2)) (Nat.le_refl _)
      have h60 := (IB_nb (Inv_B hR.1)).2
      show post ((g 5).toInt64, 0)
      rw [e5, nI_l (by omega)]
      exact h
    · refine ⟨(g 0).toInt64, fun post postX h => tw_wi (bb_t w (acc_sw (by omega) (by omega) (by omega) (by omega) (by omega) (by omega) (by omega) (by omega) (by omega) (by omega) (by omega) (fun _ => ?_) (by omega))), fun post h => tw_in (bb_t w (acc_sw (by omega) (by omega) (by omega) (by omega) (by omega) (by omega) (by omega) (by omega) (by omega) (by omega) (by omega) (fun _ => ⟨v672 (n := 0) (by omega), h⟩) (by omega)))⟩
      rw [Rel_mc hR]; exact h
    · refine ⟨(g 1).toInt64, fun post postX h => tw_wi (bb_t w (acc_sw (by omega) (by omega) (by omega) (by omega) (by omega) (by omega) (by omega) (by omega) (by omega) (by omega) (by omega) (by omega) (fun _ => ?_))), fun post h => tw_in (bb_t w (acc_sw (by omega) (by omega) (by omega) (by omega) (by omega) (by omega) (by omega) (by omega) (by omega) (by omega) (by omega) (by omega) (fun _ => ⟨v672 (n := 1) (by omega), h⟩)))⟩
      rw [Rel_z hR]; exact h
/-! purity -/
def pul1 (g : XRow) (i : Nat) : Nat := if g (139 + 9 * i) = 2 then 0 else cn (g (132 + 9 * i + cn (g (137 + 9 * i))))
def all1 (g : XRow) (i : Nat) : Nat := if g (139 + 9 * i) = 2 then 0 else s5 (kq g (132 + 9 * i))
theorem pul1_le {i : Nat} (hB : IB1 g i) : pul1 g i ≤ 200 := by
  unfold pul1
  split
  · omega
  · have := pur_le hB
    have := hB.2.2.1
    omega
theorem all1_le {i : Nat} (hB : IB1 g i) : all1 g i ≤ 200 := by
  unfold all1
  split
  · omega
  · exact hB.2.2.1
theorem tc_unlp {post : Int32 → Prop} (hR : Rel b d g) (h : post (nI (bfold (pul1 g) (cn (g 2))))) : wp_X0_unloopedKilos d.2.2.2.1 d.2.2.2.2.1 true post := by
  obtain ⟨e2, h60⟩ := IB_nb (Inv_B hR.1)
  unfold wp_X0_unloopedKilos
  rw [Rel_bc hR]
  refine loop_0 (fun n i s => wp_X0_unloopedKilos_L4 d.2.2.2.1 (g 2) true (fun (_ : Int32) (v13 : Int32) => post v13) n (nI i) s) (fun i s => s = nI (bfold (pul1 g) i)) (cn (g 2)) 0 rfl ?_ ?_
  · intro n s hs
    subst hs
    exact if_y (end_le e2 (by omega)) h
  · intro n i s hi hs hk
    subst hs
    have e1 : nI i + 1 = nI (i + 1) := nI_1 i
    have hB := (Inv_B hR.1).2 i hi
    have hm := IB1_mat hB
    obtain ⟨n1, n2, n3, n4, n5, n6, n7, n8⟩ := Rel_N hR i hi
    have nx : ∀ x y : Int32, x = nI (bfold (pul1 g) i) + nI (pul1 g i) → y = nI i + 1 → wp_X0_unloopedKilos_L4 d.2.2.2.1 (g 2) true (fun (_ : Int32) (v13 : Int32) => post v13) n y x := fun x y hx hy => by
      rw [hx, hy, e1, nI_add]; exact hk _ rfl
    refine if_n (end_ge e2 hi (by omega)) (tb_get (W := 12) (I := i) (J := 10) rfl rfl rfl (by omega) (by omega) ?_)
    rw [n7]
    refine ⟨fun h0 y hy => nx _ y ?_ hy, fun h0 => bb_t rfl (tb_get (W := 12) (I := i) (J := 5) rfl rfl rfl (by omega) (by omega) ?_)⟩
    · unfold pul1
      rw [if_pos h0]
      exact (Int32.add_zero _).symm
    · obtain ⟨em, l, u⟩ := ok_cn hB.2.2.2.1 (by omega)
      rw [n2]
      refine tb_get (W := 12) (I := i) (J := cn (g (137 + 9 * i))) rfl rfl em (by omega) (by omega) ?_
      rw [n1 _ hm]
      intro x hx y hy
      refine nx x y ?_ hy
      rw [hx]
      unfold pul1
      rw [if_neg h0]
      congr 1
      exact hB.1 _ hm
theorem tc_unla {post : Int32 → Prop} (hR : Rel b d g) (h : post (nI (bfold (all1 g) (cn (g 2))))) : wp_X0_unloopedKilos d.2.2.2.1 d.2.2.2.2.1 false post := by
  obtain ⟨e2, h60⟩ := IB_nb (Inv_B hR.1)
  unfold wp_X0_unloopedKilos
  rw [Rel_bc hR]
  refine loop_0 (fun n i s => wp_X0_unloopedKilos_L4 d.2.2.2.1 (g 2) false (fun (_ : Int32) (v13 : Int32) => post v13) n (nI i) s) (fun i s => s = nI (bfold (all1 g) i)) (cn (g 2)) 0 rfl ?_ ?_
  · intro n s hs
    subst hs
    exact if_y (end_le e2 (by omega)) h
  · intro n i s hi hs hk
    subst hs
    have e1 : nI i + 1 = nI (i + 1) := nI_1 i
    obtain ⟨n1, n2, n3, n4, n5, n6, n7, n8⟩ := Rel_N hR i hi
    have nx : ∀ x y : Int32, x = nI (bfold (all1 g) i) + nI (all1 g i) → y = nI i + 1 → wp_X0_unloopedKilos_L4 d.2.2.2.1 (g 2) false (fun (_ : Int32) (v13 : Int32) => post v13) n y x := fun x y hx hy => by
      rw [hx, hy, e1, nI_add]; exact hk _ rfl
    refine if_n (end_ge e2 hi (by omega)) (tb_get (W := 12) (I := i) (J := 10) rfl rfl rfl (by omega) (by omega) ?_)
    rw [n7]
    refine ⟨fun h0 y hy => nx _ y ?_ hy, fun h0 => bb_f rfl (tb_get (W := 12) (I := i) (J := 6) rfl rfl rfl (by omega) (by omega) ?_)⟩
    · unfold all1
      rw [if_pos h0]
      exact (Int32.add_zero _).symm
    · rw [n3]
      intro x hx y hy
      refine nx x y ?_ hy
      rw [hx]
      unfold all1
      rw [if_neg h0]
theorem tm_unl {kk : Int32 → Int32 → Int32 → Prop} (hR : Rel b d g) (h : ∀ v, kk v (nI (bfold (all1 g) (cn (g 2)))) (nI (bfold (pul1 g) (cn (g 2))))) : ∃ fl, wp_X9_purity_L6 g kk fl 0 0 0 := by
  obtain ⟨e2, h60⟩ := IB_nb (Inv_B hR.1)
  refine loop_0 (fun n i (s : Int32 × Int32) => wp_X9_purity_L6 g kk n (nI i) s.1 s.2) (fun i s => s = (nI (bfold (all1 g) i), nI (bfold (pul1 g) i))) (cn (g 2)) (0, 0) rfl ?_ ?_
  · intro n s hs
    subst hs
    exact ⟨v672 (n := 2) (by omega), if_y (end_le (x := g 2) e2 (by omega)) (h _)⟩
  · intro n i s hi hs hk
    subst hs
    have e1 : nI i + 1 = nI (i + 1) := nI_1 i
    have hB := (Inv_B hR.1).2 i hi
    have nx : ∀ x y z : Int32, x = nI (bfold (all1 g) i) + nI (all1 g i) → z = nI (bfold (pul1 g) i) + nI (pul1 g i) → y = nI i + 1 → wp_X9_purity_L6 g kk n y x z := fun x y z hx hz hy => by
      rw [hx, hz, hy, e1, nI_add, nI_add]; exact hk _ rfl
    refine ⟨v672 (n := 2) (by omega), if_n (end_ge (x := g 2) e2 hi (by omega)) (tm_bAt (m := i) (w := 7) rfl rfl ⟨v672 (by omega), ?_⟩)⟩
    rw [tn_nI (by omega), show 132 + 9 * i + 7 = 139 + 9 * i by omega]
    refine ⟨fun h0 z hz => tm_bAt (m := i) (w := 7) rfl rfl ⟨v672 (by omega), ?_⟩, fun h0 => tm_pure rfl hB (by omega) (fun z hz => tm_bAt (m := i) (w := 7) rfl rfl ⟨v672 (by omega), ?_⟩)⟩
    · rw [tn_nI (by omega), show 132 + 9 * i + 7 = 139 + 9 * i by omega]
      refine if_y h0 (fun x hx y hy => nx x y z ?_ ?_ hy)
      · rw [hx]; unfold all1; rw [if_pos h0]; rfl
      · rw [hz]; unfold pul1; rw [if_pos h0]; rfl
    · rw [tn_nI (by omega), show 132 + 9 * i + 7 = 139 + 9 * i by omega]
      refine if_n h0 (tm_kilos rfl hB (by omega) (fun x hx y hy => nx x y z ?_ ?_ hy))
      · rw [hx]; unfold all1; rw [if_neg h0]
      · rw [hz]; unfold pul1; rw [if_neg h0]
        congr 1
        exact hB.1 _ (IB1_mat hB)
theorem j_purity (hR : Rel b d g) : (∃ v, Op.cmpValue (FP.dcmp v v) .l = 0 ∧ (∀ post (postX : String → Unit → Prop), post v → wp_X8_purity d post postX) ∧ ∀ post, post (v, 0) → wp_X9_purity g post) ∨ ((∀ post (postX : String → Unit → Prop), postX "java/lang/ArithmeticException" () → wp_X8_purity d post postX) ∧ ∀ post, post (FP.dconst0, 1) → wp_X9_purity g post) := by
  have h60 := (IB_nb (Inv_B hR.1)).2
  have ha := bfold_le2 (f := all1 g) (M := 200) (N := cn (g 2)) (fun i hi => all1_le ((Inv_B hR.1).2 i hi)) _ (Nat.le_refl _)
  have hp := bfold_le2 (f := pul1 g) (M := 200) (N := cn (g 2)) (fun i hi => pul1_le ((Inv_B hR.1).2 i hi)) _ (Nat.le_refl _)
  have hc : ∀ post (postX : String → Unit → Prop), (0 < bfold (all1 g) (cn (g 2)) → post (FP.ddiv (FP.i2d (nI (bfold (pul1 g) (cn (g 2))))) (FP.i2d (nI (bfold (all1 g) (cn (g 2))))))) → (bfold (all1 g) (cn (g 2)) = 0 → postX "java/lang/ArithmeticException" ()) → wp_X8_purity d post postX := fun post postX k1 k2 => by
    refine tc_unlp hR (tc_unla hR ⟨fun h => ?_, fun h => ?_⟩)
    · have h0 := (F64_gt (by omega)).mp h
      exact ⟨d_div (by omega) (by omega) h0, k1 h0⟩
    · refine k2 ?_
      by_cases h0 : 0 < bfold (all1 g) (cn (g 2))
      · exact absurd ((F64_gt (by omega)).mpr h0) h
      · omega
  by_cases h0 : bfold (all1 g) (cn (g 2)) = 0
  · refine Or.inr ⟨fun post postX h => hc post postX (fun h1 => absurd h1 (by omega)) (fun _ => h), fun post h => tm_unl hR (fun v => ?_)⟩
    rw [h0]
    exact if_y rfl (if_y rfl h)
  · refine Or.inl ⟨_, d_self (a := bfold (pul1 g) (cn (g 2))) (b := bfold (all1 g) (cn (g 2))) (by omega) (by omega) (by omega), fun post postX h => hc post postX (fun _ => h) (fun h1 => absurd h1 h0), fun post h => tm_unl hR (fun v => ?_)⟩
    have ne : ¬ nI (bfold (all1 g) (cn (g 2))) = 0 := nI_ne0 (by omega) (by omega)
    exact if_n ne (if_n ne ⟨d_div (by omega) (by omega) (by omega), h⟩)
theorem j_wasted {p0 : Int32} (hb : b ≤ 600) (hR : Rel b d g) : (∃ v, vf_n64 (FP.f2d v) ∧ Op.cmpValue (FP.dcmp (FP.f2d v) (FP.f2d v)) .l = 0 ∧ (∀ post (postX : String → Unit → Prop), post v → wp_X8_wasted d p0 post postX) ∧ ∀ post, post (v, 0) → wp_X9_wasted g p0 post) ∨ ((∀ post (postX : String → Unit → Prop), postX "java/lang/IndexOutOfBoundsException" () → wp_X8_wasted d p0 post postX) ∧ ∀ post, post (FP.fconst0, 1) → wp_X9_wasted g p0 post) ∨ ((∀ post (postX : String → Unit → Prop), postX "java/lang/ArithmeticException" () → wp_X8_wasted d p0 post postX) ∧ ∀ post, post (FP.fconst0, 2) → wp_X9_wasted g p0 post) := by
  obtain ⟨q1, q2, q3⟩ := Rel_P hR
  obtain ⟨i1, i2, i3, i4⟩ := Inv_K hR.1
  cases w : wi p0 0 4 with
  | false => exact Or.inr (Or.inl ⟨fun post postX h => tw_needMat (bb_f w h), fun post h => tw_mat9 (bb_f w h)⟩)
  | true =>
    obtain ⟨k, hk, rfl⟩ := wi_0 (n := 4) rfl (by omega) w
    have e16 : g (16 + k) = nI (cn (g (16 + k))) := (i1 k (by omega)).2.1
    have e21 : g (21 + k) = nI (cn (g (21 + k))) := (i1 k (by omega)).2.2
    have l16 : cn (g (16 + k)) ≤ s5 (kq g 16) := s5_ge (kq g 16) k (by omega)
    have l21 : cn (g (21 + k)) ≤ s5 (kq g 21) := s5_ge (kq g 21) k (by omega)
    have ht : s5 (kq g 16) ≤ tot g := by unfold tot; omega
    generalize cn (g (16 + k)) = x at e16 l16
    generalize cn (g (21 + k)) = y at e21 l21
    have hc : ∀ post (postX : String → Unit → Prop), (0 < y → post (FP.fdiv (FP.i2f (nI x)) (FP.i2f (nI y)))) → (y = 0 → postX "java/lang/ArithmeticException" ()) → wp_X8_wasted d (nI k) post postX := fun post postX k1 k2 => by
      refine tw_needMat (bb_t w (tb_get (W := 5) (I := 7) (J := k) rfl rfl rfl (by omega) (by omega) (tb_get (W := 5) (I := 8) (J := k) rfl rfl rfl (by omega) (by omega) ?_)))
      rw [show 7 * 5 + k = 35 + k by omega, show 8 * 5 + k = 40 + k by omega, (q1 k (by omega)).2.1, (q1 k (by omega)).2.2, e16, e21]
      refine ⟨fun h => ?_, fun h => ?_⟩
      · have h0 := (F32_gt (by omega)).mp h
        exact ⟨f_div (by omega) (by omega) h0, k1 h0⟩
      · refine k2 ?_
        by_cases h0 : 0 < y
        · exact absurd ((F32_gt (by omega)).mpr h0) h
        · omega
    have a16' : (16 : Int32) + nI k = nI (16 + k) := a16 k
    have a21' : (21 : Int32) + nI k = nI (21 + k) := a21 k
    by_cases h0 : y = 0
    · refine Or.inr (Or.inr ⟨fun post postX h => hc post postX (fun h1 => absurd h1 (by omega)) (fun _ => h), fun post h => tw_mat9 (bb_t w ?_)⟩)
      rw [a21', tn_nI (by omega), e21, h0]
      exact ⟨v672 (by omega), if_y rfl h⟩
    · refine Or.inl ⟨_, f_div2 (a := x) (b := y) (by omega) (by omega) (by omega), f_self (by omega) (by omega) (by omega), fun post postX h => hc post postX (fun _ => h) (fun h1 => absurd h1 h0), fun post h => tw_mat9 (bb_t w ?_)⟩
      rw [a21', a16', tn_nI (by omega), tn_nI (by omega), e16, e21]
      exact ⟨v672 (by omega), if_n (nI_ne0 (by omega) (by omega)) ⟨v672 (by omega), v672 (by omega), f_div (by omega) (by omega) (by omega), h⟩⟩
end AC
