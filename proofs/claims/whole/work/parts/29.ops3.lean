/-! ===== level 2: a machine more, a machine less, a contract more ===== -/
section OR
variable {b : Nat} {d : PD} {g : XRow}
def v5 (a0 a1 a2 a3 a4 : Int32) : Nat → Int32 := fun k => match k with | 0 => a0 | 1 => a1 | 2 => a2 | 3 => a3 | _ => a4
theorem fil_5 (f : XRow) (a : Nat) (a0 a1 a2 a3 a4 : Int32) : upd (upd (upd (upd (upd f a a0) (a + 1) a1) (a + 2) a2) (a + 3) a3) (a + 4) a4 = fil f a 5 (v5 a0 a1 a2 a3 a4) := by
  rw [← fil_s f a 4, ← fil_s f a 3, ← fil_s f a 2, ← fil_s f a 1, ← fil_s f a 0, fil_0]
  rfl
def oAdd (g : XRow) (v : Nat → Int32) : XRow := fil (fil (upd g 0 (nI (cn (g 0) + 1))) (31 + 11 * cn (g 0)) 6 (fun _ => 0)) (26 + 11 * cn (g 0)) 5 v
theorem tm_add {past : XRow} {pasts p0 p1 p2 p3 p4 : Int32} {post : Int32 × Int32 × Int32 × XRow × XRow → Prop} {hn hc : Int32} {hK : Nat → PD} (hR : Rel b d g) (hH : HR b hn hc hK past pasts) (h0 : wi p0 0 4 = true) (h1 : wi p1 10 100 = true) (h2 : wi p2 0 90 = true) (h3 : wi p3 1 500 = true) (h4 : wi p4 0 9 = true) (h6 : cn (g 0) < 6) (h : post (g 0, mnK pasts, 0, oAdd g (v5 p0 p1 p2 p3 p4), mpK past pasts g)) : wp_X9_addMachine g past pasts p0 p1 p2 p3 p4 post := by
  have e := (IM_mc (Inv_M hR.1)).1
  refine tw_mat9 (bb_t h0 (tm_mayBe (w := 1) (by omega) (bb_t h1 (tm_mayBe (w := 2) (by omega) (bb_t h2 (tm_mayBe (w := 3) (by omega) (bb_t h3 (tm_mayBe (w := 4) (by omega) (bb_t h4 ⟨v672 (n := 0) (by omega), if_n ?_ (tm_changes hH ⟨v672 (n := 0) (by omega), ?_⟩)⟩)))))))))
  · show ¬ g 0 = 6
    rw [e]
    intro h9
    have := (nI_eq (a := cn (g 0)) (b := 6) (by omega) (by omega)).mp h9
    omega
  · intro x hx
    replace hx : x = nI (cn (g 0)) := hx.trans e
    subst hx
    refine ⟨v672 (n := 0) (by omega), v672 (n := 0) (by omega), ?_⟩
    have e0 : upd g ((0 : Int32).toNatClampNeg) (g ((0 : Int32).toNatClampNeg) + 1) = upd g 0 (nI (cn (g 0) + 1)) := by
      show upd g 0 (g 0 + 1) = _
      conv => lhs; rw [e]
      have e1 : nI (cn (g 0)) + 1 = nI (cn (g 0) + 1) := nI_1 _
      rw [e1]
    rw [e0]
    refine pk_loop (fun n i s => wp_X9_addMachine_L107 (nI (cn (g 0))) _ n (nI i) s) (fun i s => 5 ≤ i ∧ s = fil (upd g 0 (nI (cn (g 0) + 1))) (31 + 11 * cn (g 0)) (i - 5) (fun _ => 0)) 11 5 _ (by omega) ⟨by omega, (fil_0 _ _ _).symm⟩ ?_ ?_
    · intro n s hs
      obtain ⟨_, rfl⟩ := hs
      refine if_y (nI_le (a := 11) (b := 11) (by omega) (by omega)) ?_
      refine tm_mAt (m := cn (g 0)) (w := 0) rfl rfl ⟨v672 (by omega), tm_mAt (m := cn (g 0)) (w := 1) rfl rfl ⟨v672 (by omega), tm_mAt (m := cn (g 0)) (w := 2) rfl rfl ⟨v672 (by omega), tm_mAt (m := cn (g 0)) (w := 3) rfl rfl ⟨v672 (by omega), tm_mAt (m := cn (g 0)) (w := 4) rfl rfl ⟨v672 (by omega), ?_⟩⟩⟩⟩⟩
      rw [tn_nI (by omega), tn_nI (by omega), tn_nI (by omega), tn_nI (by omega), tn_nI (by omega), Nat.add_zero, fil_5, ← e]
      exact h
    · intro n i s hi hs hk
      obtain ⟨h5, rfl⟩ := hs
      refine if_n (nI_ge (a := i) (b := 11) hi (by omega)) (tm_mAt (m := cn (g 0)) (w := i) rfl rfl ⟨v672 (by omega), ?_⟩)
      intro y hy
      have e1 : nI i + 1 = nI (i + 1) := nI_1 i
      rw [hy, e1, tn_nI (by omega)]
      refine hk _ ⟨by omega, ?_⟩
      have := fil_s (upd g 0 (nI (cn (g 0) + 1))) (31 + 11 * cn (g 0)) (i - 5) (fun _ => 0)
      rw [show 26 + 11 * cn (g 0) + i = 31 + 11 * cn (g 0) + (i - 5) by omega, show i + 1 - 5 = i - 5 + 1 by omega]
      exact this
theorem tc_addL {f : XRow} {m : Nat} {p0 p1 p2 p3 p4 : Int32} {post : Int32 × Int32 × XRow → Prop} (hm : m < 6) (h : post (nI m, nI (m + 1), upd (fil f (m * 7) 5 (v5 p0 p1 p2 p3 p4)) (m * 7 + 6) 0)) : wp_X4_addLast f (nI m) p0 p1 p2 p3 p4 post := by
  refine tb_put (W := 7) (I := m) (J := 0) rfl rfl rfl (by omega) (by omega) (tb_put (W := 7) (I := m) (J := 1) rfl rfl rfl (by omega) (by omega) (tb_put (W := 7) (I := m) (J := 2) rfl rfl rfl (by omega) (by omega) (tb_put (W := 7) (I := m) (J := 3) rfl rfl rfl (by omega) (by omega) (tb_put (W := 7) (I := m) (J := 4) rfl rfl rfl (by omega) (by omega) (tb_put (W := 7) (I := m) (J := 6) rfl rfl rfl (by omega) (by omega) ?_)))))
  intro x hx
  have e1 : nI m + 1 = nI (m + 1) := nI_1 m
  rw [hx, e1, Nat.add_zero, fil_5]
  exact h
theorem Rel_add {v : Nat → Int32} (hR : Rel b d g) (h6 : cn (g 0) < 6) (h0 : ok (v 0) 0 4) (h1 : ok (v 1) 10 100) (h2 : ok (v 2) 0 90) (h3 : ok (v 3) 1 500) (h4 : ok (v 4) 0 9) : Rel b (d.1, upd (fil d.2.1 (cn (g 0) * 7) 5 v) (cn (g 0) * 7 + 6) 0, d.2.2.1, d.2.2.2.1, d.2.2.2.2.1, d.2.2.2.2.2.1, d.2.2.2.2.2.2.1, d.2.2.2.2.2.2.2.1, d.2.2.2.2.2.2.2.2.1, nI (cn (g 0) + 1), d.2.2.2.2.2.2.2.2.2.2) (oAdd g v) := by
  obtain ⟨hI, hS, hM, hP, hN, e1, hC, e2, e3, e4, e5⟩ := hR
  have hcc := (IC_nc (Inv_C hI)).2
  have hK := Inv_K hI
  have far : ∀ x, x ≠ 0 → x < 26 + 11 * cn (g 0) ∨ 37 + 11 * cn (g 0) ≤ x → oAdd g v x = g x := fun x hx h => by
    unfold oAdd
    rw [fil_out (by omega), fil_out (by omega), un hx]
  have f0 : oAdd g v 0 = nI (cn (g 0) + 1) := by
    unfold oAdd
    rw [fil_out (by omega), fil_out (by omega), pk_us]
  have c0 : cn (oAdd g v 0) = cn (g 0) + 1 := by rw [f0]; exact cn_nI (by omega)
  have fv : ∀ i, i < 5 → oAdd g v (26 + 11 * cn (g 0) + i) = v i := fun i hi => fil_in hi
  have fz : ∀ i, i < 6 → oAdd g v (31 + 11 * cn (g 0) + i) = 0 := fun i hi => by
    unfold oAdd
    rw [fil_out (by omega)]
    exact fil_in hi
  have bs : bsum (oAdd g v) (cn (g 0)) = bsum g (cn (g 0)) := bsum_eq (fun m hm k hk => far _ (by omega) (by omega))
  have bz : s5 (kq (oAdd g v) (31 + 11 * cn (g 0))) = 0 := by
    have : ∀ k, k < 5 → kq (oAdd g v) (31 + 11 * cn (g 0)) k = 0 := fun k hk => by
      show cn (oAdd g v (31 + 11 * cn (g 0) + k)) = 0
      rw [fz k (by omega)]; rfl
    rw [s5_congr this]; rfl
  have q11 : s5 (kq (oAdd g v) 11) = s5 (kq g 11) := kq_eq (fun k hk => far _ (by omega) (by omega))
  have q16 : s5 (kq (oAdd g v) 16) = s5 (kq g 16) := kq_eq (fun k hk => far _ (by omega) (by omega))
  have q21 : s5 (kq (oAdd g v) 21) = s5 (kq g 21) := kq_eq (fun k hk => far _ (by omega) (by omega))
  refine ⟨Inv_far hI (IS_eq (fun x _ _ => far x (by omega) (by omega)) (Inv_S hI)) ?_ ?_ (fun x hx => far x (by omega) (by omega)), RS_eq (fun x _ _ => far x (by omega) (by omega)) hS, ?_, ?_, RN_eq (Inv_B hI) (far 2 (by omega) (by omega)) (fun x _ _ => far x (by omega) (by omega)) hN, ?_, RC_eq hcc (far 3 (by omega) (by omega)) (fun x _ _ => far x (by omega) (by omega)) hC, ?_, ?_, ?_, ?_⟩
  · refine ⟨by rw [f0]; exact ok_nI (by omega) (by omega), fun m hm => ?_⟩
    rw [c0] at hm
    by_cases h : m = cn (g 0)
    · subst h
      refine ⟨?_, ?_, ?_, ?_, ?_⟩
      · have := fv 0 (by omega); rw [Nat.add_zero] at this; rw [this]; exact h0
      · have := fv 1 (by omega); rw [show 26 + 11 * cn (g 0) + 1 = 27 + 11 * cn (g 0) by omega] at this; rw [this]; exact h1
      · have := fv 2 (by omega); rw [show 26 + 11 * cn (g 0) + 2 = 28 + 11 * cn (g 0) by omega] at this; rw [this]; exact h2
      · have := fv 3 (by omega); rw [show 26 + 11 * cn (g 0) + 3 = 29 + 11 * cn (g 0) by omega] at this; rw [this]; exact h3
      · have := fv 4 (by omega); rw [show 26 + 11 * cn (g 0) + 4 = 30 + 11 * cn (g 0) by omega] at this; rw [this]; exact h4
    · exact IM1_eq (fun j hj => far _ (by omega) (by omega)) ((Inv_M hI).2 m (by omega))
  · refine ⟨fun k hk => by rw [far _ (by omega) (by omega), far _ (by omega) (by omega), far _ (by omega) (by omega)]; exact hK.1 k hk, fun m hm k hk => ?_, ?_, ?_⟩
    · rw [c0] at hm
      by_cases h : m = cn (g 0)
      · subst h; rw [fz k (by omega)]; exact kok_nI (n := 0) (by omega)
      · rw [far _ (by omega) (by omega)]; exact hK.2.1 m (by omega) k hk
    · have := hK.2.2.1
      unfold tot at this ⊢
      rw [c0, q11, q16]
      show _ + _ + (bsum (oAdd g v) (cn (g 0)) + s5 (kq (oAdd g v) (31 + 11 * cn (g 0)))) ≤ _
      rw [bs, bz]
      omega
    · rw [q21]; exact hK.2.2.2
  · intro m hm
    rw [c0] at hm
    by_cases h : m = cn (g 0)
    · subst h
      refine ⟨fun j hj => ?_, ?_⟩
      · show upd (fil d.2.1 (cn (g 0) * 7) 5 v) (cn (g 0) * 7 + 6) 0 (cn (g 0) * 7 + j) = _
        rw [un (by omega), fil_in hj, fv j hj]
      · show upd (fil d.2.1 (cn (g 0) * 7) 5 v) (cn (g 0) * 7 + 6) 0 (cn (g 0) * 7 + 6) = _
        rw [pk_us, show 36 + 11 * cn (g 0) = 31 + 11 * cn (g 0) + 5 by omega, fz 5 (by omega)]
    · refine ⟨fun j hj => ?_, ?_⟩
      · show upd (fil d.2.1 (cn (g 0) * 7) 5 v) (cn (g 0) * 7 + 6) 0 (m * 7 + j) = _
        rw [un (by omega), fil_out (by omega), far _ (by omega) (by omega)]
        exact (hM m (by omega)).1 j hj
      · show upd (fil d.2.1 (cn (g 0) * 7) 5 v) (cn (g 0) * 7 + 6) 0 (m * 7 + 6) = _
        rw [un (by omega), fil_out (by omega), far _ (by omega) (by omega)]
        exact (hM m (by omega)).2
  · obtain ⟨p1, p2, p3⟩ := hP
    refine ⟨fun k hk => by rw [far _ (by omega) (by omega), far _ (by omega) (by omega), far _ (by omega) (by omega)]; exact p1 k hk, fun m hm k hk => ?_, fun x hx1 hx2 => ?_⟩
    · rw [c0] at hm
      show d.2.2.1 (m * 5 + k) = _
      by_cases h : m = cn (g 0)
      · subst h; rw [fz k (by omega), p3 _ (by omega) (by omega)]
      · rw [far _ (by omega) (by omega)]; exact p2 m (by omega) k hk
    · rw [c0] at hx1
      exact p3 x (by omega) hx2
  · rw [far 2 (by omega) (by omega)]; exact e1
  · rw [far 3 (by omega) (by omega)]; exact e2
  · exact f0.symm
  · rw [far 1 (by omega) (by omega)]; exact e4
  · rw [far 4 (by omega) (by omega)]; exact e5
/-! a machine less -/
def oRem (g : XRow) : XRow := fil (upd g 0 (nI (cn (g 0) - 1))) 11 5 (fun k => g (11 + k) + g (31 + 11 * (cn (g 0) - 1) + k))
theorem tm_rem {past : XRow} {pasts : Int32} {post : Int32 × Int32 × Int32 × XRow × XRow → Prop} {hn hc : Int32} {hK : Nat → PD} (hR : Rel b d g) (hH : HR b hn hc hK past pasts) (h0 : 0 < cn (g 0)) (h : post (i5 g (31 + 11 * (cn (g 0) - 1)), mnK pasts, 0, oRem g, mpK past pasts g)) : wp_X9_removeMachine g past pasts post := by
  obtain ⟨e, h6⟩ := IM_mc (Inv_M hR.1)
  refine ⟨v672 (n := 0) (by omega), if_n ?_ (tm_changes hH ⟨v672 (n := 0) (by omega), v672 (n := 0) (by omega), v672 (n := 0) (by omega), ?_⟩)⟩
  · show ¬ g 0 = 0
    rw [e]
    exact nI_ne0 h0 (by omega)
  · have e0 : upd g ((0 : Int32).toNatClampNeg) (g ((0 : Int32).toNatClampNeg) - 1) = upd g 0 (nI (cn (g 0) - 1)) := by
      show upd g 0 (g 0 - 1) = _
      conv => lhs; rw [e, show cn (g 0) = (cn (g 0) - 1) + 1 by omega, nI_pred]
    rw [e0]
    refine tm_mAt (m := cn (g 0) - 1) (w := 5) pk_us rfl ?_
    rw [show 26 + 11 * (cn (g 0) - 1) + 5 = 31 + 11 * (cn (g 0) - 1) by omega]
    refine loop_0 (fun n i s => wp_X9_removeMachine_L58 (nI (31 + 11 * (cn (g 0) - 1))) _ n (nI i) s) (fun i s => s = fil (upd g 0 (nI (cn (g 0) - 1))) 11 i (fun k => g (11 + k) + g (31 + 11 * (cn (g 0) - 1) + k))) 5 _ (fil_0 _ _ _).symm ?_ ?_
    · intro n s hs
      subst hs
      refine if_y (nI_le (a := 5) (b := 5) (by omega) (by omega)) (tq_sum (a := 31 + 11 * (cn (g 0) - 1)) rfl (by omega) ?_)
      rw [i5_fg (f := fil (upd g 0 (nI (cn (g 0) - 1))) 11 5 (fun k => g (11 + k) + g (31 + 11 * (cn (g 0) - 1) + k))) (g := g) (a := 31 + 11 * (cn (g 0) - 1)) (fun k hk => by rw [fil_out (by omega), un (by omega)])]
      exact h
    · intro n i s hi hs hk
      subst hs
      refine if_n (nI_ge (a := i) (b := 5) hi (by omega)) ?_
      rw [a11, nI_add]
      refine ⟨v672 (by omega), v672 (by omega), v672 (by omega), ?_⟩
      intro y hy
      have e1 : nI i + 1 = nI (i + 1) := nI_1 i
      rw [hy, e1, tn_nI (by omega), tn_nI (by omega), fil_out (by omega), fil_out (by omega), un (by omega), un (by omega)]
      exact hk _ (fil_s _ 11 i (fun k => g (11 + k) + g (31 + 11 * (cn (g 0) - 1) + k)))
theorem tc_rem {f : XRow} {m : Nat} {post : Int32 × Int32 × XRow → Prop} (hm : m < 6) (h : post (i5 f (m * 5), nI m, fil (fil f 30 5 (fun k => f (30 + k) + f (m * 5 + k))) (m * 5) 5 (fun _ => 0))) : wp_X4_removeLast f (nI (m + 1)) post := by
  intro x hx
  rw [nI_pred] at hx
  subst hx
  refine tb_sum (I := m) rfl (by omega) (by omega) ?_
  refine loop_0 (fun n i s => wp_X4_removeLast_L24 (nI m) _ n (nI i) s) (fun i s => s = fil (fil f 30 i (fun k => f (30 + k) + f (m * 5 + k))) (m * 5) i (fun _ => 0)) 5 f (by rw [fil_0, fil_0]) ?_ ?_
  · intro n s hs
    subst hs
    exact if_y (nI_le (a := 5) (b := 5) (by omega) (by omega)) h
  · intro n i s hi hs hk
    subst hs
    have g1 : fil (fil f 30 i (fun k => f (30 + k) + f (m * 5 + k))) (m * 5) i (fun _ => 0) (m * 5 + i) = f (m * 5 + i) := by rw [fil_out (by omega), fil_out (by omega)]
    refine if_n (nI_ge (a := i) (b := 5) hi (by omega)) (tb_get (W := 5) (I := m) (J := i) rfl rfl rfl (by omega) (by omega) ?_)
    refine tb_move (W := 5) (I := m) (I2 := 6) (J := i) rfl rfl rfl rfl (by omega) (by omega) (by omega) ?_
    intro y hy
    have e1 : nI i + 1 = nI (i + 1) := nI_1 i
    rw [hy, e1]
    refine hk _ ?_
    rw [g1, show f (m * 5 + i) + -f (m * 5 + i) = 0 by rw [← Int32.sub_eq_add_neg, Int32.sub_self], fil_s _ (m * 5) i (fun _ => 0)]
    have g2 : fil (fil f 30 i (fun k => f (30 + k) + f (m * 5 + k))) (m * 5) (i + 1) (fun _ => 0) (6 * 5 + i) = f (30 + i) := by rw [fil_out (by omega), fil_out (by omega)]
    rw [g2]
    funext j
    by_cases hj : j = 6 * 5 + i
    · subst hj
      rw [pk_us, fil_out (by omega), show 6 * 5 + i = 30 + i by omega, fil_in (by omega)]
    · rw [un hj]
      by_cases hj2 : m * 5 ≤ j ∧ j < m * 5 + (i + 1)
      · obtain ⟨q, rfl⟩ : ∃ q, j = m * 5 + q := ⟨j - m * 5, by omega⟩
        rw [fil_in (by omega), fil_in (by omega)]
      · have z1 : ∀ q, fil (fil f 30 q (fun k => f (30 + k) + f (m * 5 + k))) (m * 5) (i + 1) (fun _ => 0) j = fil f 30 q (fun k => f (30 + k) + f (m * 5 + k)) j := fun q => fil_out (by omega)
        rw [z1, z1]
        by_cases hj3 : 30 ≤ j ∧ j < 30 + i
        · obtain ⟨q, rfl⟩ : ∃ q, j = 30 + q := ⟨j - 30, by omega⟩
          rw [fil_in (by omega), fil_in (by omega)]
        · rw [fil_out (by omega), fil_out (by omega)]
theorem s5_add (p q : Nat → Nat) : s5 (fun k => p k + q k) = s5 p + s5 q := by
  unfold s5; dsimp only; omega
theorem Rel_rem (hb : b ≤ 600) (hR : Rel b d g) (h0 : 0 < cn (g 0)) : Rel b (d.1, d.2.1, fil (fil d.2.2.1 30 5 (fun k => d.2.2.1 (30 + k) + d.2.2.1 ((cn (g 0) - 1) * 5 + k))) ((cn (g 0) - 1) * 5) 5 (fun _ => 0), d.2.2.2.1, d.2.2.2.2.1, d.2.2.2.2.2.1, d.2.2.2.2.2.2.1, d.2.2.2.2.2.2.2.1, d.2.2.2.2.2.2.2.2.1, nI (cn (g 0) - 1), d.2.2.2.2.2.2.2.2.2.2) (oRem g) := by
  obtain ⟨hI, hS, hM, hP, hN, e1, hC, e2, e3, e4, e5⟩ := hR
  have h6 := (IM_mc (Inv_M hI)).2
  have hcc := (IC_nc (Inv_C hI)).2
  have hK := Inv_K hI
  have far : ∀ x, x ≠ 0 → x < 11 ∨ 16 ≤ x → oRem g x = g x := fun x hx h => by
    unfold oRem
    rw [fil_out (by omega), un hx]
  have f0 : oRem g 0 = nI (cn (g 0) - 1) := by
    unfold oRem
    rw [fil_out (by omega), pk_us]
  have c0 : cn (oRem g 0) = cn (g 0) - 1 := by rw [f0]; exact cn_nI (by omega)
  have fh : ∀ k, k < 5 → oRem g (11 + k) = nI (cn (g (11 + k)) + cn (g (31 + 11 * (cn (g 0) - 1) + k))) := fun k hk => by
    have h1 : oRem g (11 + k) = g (11 + k) + g (31 + 11 * (cn (g 0) - 1) + k) := fil_in hk
    rw [h1]
    conv => lhs; rw [show g (11 + k) = nI (cn (g (11 + k))) from (hK.1 k hk).1, show g (31 + 11 * (cn (g 0) - 1) + k) = nI (cn (g (31 + 11 * (cn (g 0) - 1) + k))) from hK.2.1 _ (by omega) k hk]
    exact nI_add _ _
  have hsum : bsum g (cn (g 0)) = bsum g (cn (g 0) - 1) + s5 (kq g (31 + 11 * (cn (g 0) - 1))) := by
    conv => lhs; rw [show cn (g 0) = (cn (g 0) - 1) + 1 by omega]
    rfl
  have ht := hK.2.2.1
  unfold tot at ht
  have hl : ∀ k, k < 5 → cn (g (11 + k)) + cn (g (31 + 11 * (cn (g 0) - 1) + k)) ≤ 999 * b := fun k hk => by
    have h1 : kq g 11 k ≤ s5 (kq g 11) := s5_ge _ k hk
    have h2 : kq g (31 + 11 * (cn (g 0) - 1)) k ≤ s5 (kq g (31 + 11 * (cn (g 0) - 1))) := s5_ge _ k hk
    have a1 : kq g 11 k = cn (g (11 + k)) := rfl
    have a2 : kq g (31 + 11 * (cn (g 0) - 1)) k = cn (g (31 + 11 * (cn (g 0) - 1) + k)) := rfl
    omega
  have q11 : s5 (kq (oRem g) 11) = s5 (kq g 11) + s5 (kq g (31 + 11 * (cn (g 0) - 1))) := by
    rw [← s5_add]
    refine s5_congr (fun k hk => ?_)
    show cn (oRem g (11 + k)) = cn (g (11 + k)) + cn (g (31 + 11 * (cn (g 0) - 1) + k))
    rw [fh k hk, cn_nI (by have := hl k hk; omega)]
  have q16 : s5 (kq (oRem g) 16) = s5 (kq g 16) := kq_eq (fun k hk => far _ (by omega) (by omega))
  have q21 : s5 (kq (oRem g) 21) = s5 (kq g 21) := kq_eq (fun k hk => far _ (by omega) (by omega))
  have bs : bsum (oRem g) (cn (g 0) - 1) = bsum g (cn (g 0) - 1) := bsum_eq (fun m hm k hk => far _ (by omega) (by omega))
  refine ⟨Inv_far hI (IS_eq (fun x h1 h2 => far x (by omega) (by omega)) (Inv_S hI)) ?_ ?_ (fun x hx => far x (by omega) (by omega)), RS_eq (fun x _ _ => far x (by omega) (by omega)) hS, ?_, ?_, RN_eq (Inv_B hI) (far 2 (by omega) (by omega)) (fun x _ _ => far x (by omega) (by omega)) hN, ?_, RC_eq hcc (far 3 (by omega) (by omega)) (fun x _ _ => far x (by omega) (by omega)) hC, ?_, ?_, ?_, ?_⟩
  · refine ⟨by rw [f0]; exact ok_nI (by omega) (by omega), fun m hm => ?_⟩
    rw [c0] at hm
    exact IM1_eq (fun j hj => far _ (by omega) (by omega)) ((Inv_M hI).2 m (by omega))
  · refine ⟨fun k hk => ⟨?_, ?_, ?_⟩, fun m hm k hk => ?_, ?_, ?_⟩
    · rw [fh k hk]; exact kok_nI (by have := hl k hk; omega)
    · rw [far _ (by omega) (by omega)]; exact (hK.1 k hk).2.1
    · rw [far _ (by omega) (by omega)]; exact (hK.1 k hk).2.2
    · rw [c0] at hm
      rw [far _ (by omega) (by omega)]; exact hK.2.1 m (by omega) k hk
    · unfold tot
      rw [c0, q11, q16, bs]
      omega
    · rw [q21]; exact hK.2.2.2
  · intro m hm
    rw [c0] at hm
    refine ⟨fun j hj => ?_, ?_⟩
    · rw [far _ (by omega) (by omega)]; exact (hM m (by omega)).1 j hj
    · rw [far _ (by omega) (by omega)]; exact (hM m (by omega)).2
  · obtain ⟨p1, p2, p3⟩ := hP
    have pf : ∀ x, x < 30 ∨ 35 ≤ x → x < (cn (g 0) - 1) * 5 ∨ (cn (g 0) - 1) * 5 + 5 ≤ x → fil (fil d.2.2.1 30 5 (fun k => d.2.2.1 (30 + k) + d.2.2.1 ((cn (g 0) - 1) * 5 + k))) ((cn (g 0) - 1) * 5) 5 (fun _ => 0) x = d.2.2.1 x := fun x h1 h2 => by
      rw [fil_out (by omega), fil_out (by omega)]
    refine ⟨fun k hk => ⟨?_, ?_, ?_⟩, fun m hm k hk => ?_, fun x hx1 hx2 => ?_⟩
    · show fil (fil d.2.2.1 30 5 (fun k => d.2.2.1 (30 + k) + d.2.2.1 ((cn (g 0) - 1) * 5 + k))) ((cn (g 0) - 1) * 5) 5 (fun _ => 0) (30 + k) = _
      rw [fil_out (by omega), fil_in hk, (p1 k hk).1, p2 _ (by omega) k hk]
      exact (show oRem g (11 + k) = g (11 + k) + g (31 + 11 * (cn (g 0) - 1) + k) from fil_in hk).symm
    · show fil (fil d.2.2.1 30 5 (fun k => d.2.2.1 (30 + k) + d.2.2.1 ((cn (g 0) - 1) * 5 + k))) ((cn (g 0) - 1) * 5) 5 (fun _ => 0) (35 + k) = _
      rw [pf _ (by omega) (by omega), far _ (by omega) (by omega)]; exact (p1 k hk).2.1
    · show fil (fil d.2.2.1 30 5 (fun k => d.2.2.1 (30 + k) + d.2.2.1 ((cn (g 0) - 1) * 5 + k))) ((cn (g 0) - 1) * 5) 5 (fun _ => 0) (40 + k) = _
      rw [pf _ (by omega) (by omega), far _ (by omega) (by omega)]; exact (p1 k hk).2.2
    · rw [c0] at hm
      show fil (fil d.2.2.1 30 5 (fun k => d.2.2.1 (30 + k) + d.2.2.1 ((cn (g 0) - 1) * 5 + k))) ((cn (g 0) - 1) * 5) 5 (fun _ => 0) (m * 5 + k) = _
      rw [pf _ (by omega) (by omega), far _ (by omega) (by omega)]; exact p2 m (by omega) k hk
    · rw [c0] at hx1
      show fil (fil d.2.2.1 30 5 (fun k => d.2.2.1 (30 + k) + d.2.2.1 ((cn (g 0) - 1) * 5 + k))) ((cn (g 0) - 1) * 5) 5 (fun _ => 0) x = _
      by_cases h : x < (cn (g 0) - 1) * 5 + 5
      · obtain ⟨q, rfl⟩ : ∃ q, x = (cn (g 0) - 1) * 5 + q := ⟨x - (cn (g 0) - 1) * 5, by omega⟩
        exact fil_in (by omega)
      · rw [pf _ (by omega) (by omega)]; exact p3 x (by omega) hx2
  · rw [far 2 (by omega) (by omega)]; exact e1
  · rw [far 3 (by omega) (by omega)]; exact e2
  · exact f0.symm
  · rw [far 1 (by omega) (by omega)]; exact e4
  · rw [far 4 (by omega) (by omega)]; exact e5
/-! a contract more -/
def oCon (g : XRow) (a0 a1 a2 a3 : Int32) : XRow := fil (upd g 3 (nI (cn (g 3) + 1))) (92 + 5 * cn (g 3)) 5 (v5 a0 a1 a2 a3 0)
theorem tm_cons {p0 p1 p2 p3 : Int32} {post : Int32 × XRow → Prop} (hC : IC g) (h8 : cn (g 3) < 8) (h : post (g 3, oCon g p0 p1 p2 p3)) : wp_X9_contracts g p0 p1 p2 p3 post := by
  have e := (IC_nc hC).1
  refine ⟨v672 (n := 3) (by omega), ?_⟩
  intro x hx
  replace hx : x = nI (cn (g 3)) := hx.trans e
  subst hx
  refine ⟨v672 (n := 3) (by omega), v672 (n := 3) (by omega), ?_⟩
  refine tm_cAt (m := cn (g 3)) (w := 0) rfl rfl ⟨v672 (by omega), tm_cAt (m := cn (g 3)) (w := 1) rfl rfl ⟨v672 (by omega), tm_cAt (m := cn (g 3)) (w := 2) rfl rfl ⟨v672 (by omega), tm_cAt (m := cn (g 3)) (w := 3) rfl rfl ⟨v672 (by omega), tm_cAt (m := cn (g 3)) (w := 4) rfl rfl ⟨v672 (by omega), ?_⟩⟩⟩⟩⟩
  have e0 : upd g ((3 : Int32).toNatClampNeg) (g ((3 : Int32).toNatClampNeg) + 1) = upd g 3 (nI (cn (g 3) + 1)) := by
    show upd g 3 (g 3 + 1) = _
    conv => lhs; rw [e]
    have e1 : nI (cn (g 3)) + 1 = nI (cn (g 3) + 1) := nI_1 _
    rw [e1]
  rw [e0, tn_nI (by omega), tn_nI (by omega), tn_nI (by omega), tn_nI (by omega), tn_nI (by omega), Nat.add_zero, fil_5, ← e]
  exact h
theorem tc_cadd {f : XRow} {c : Nat} {p0 p1 p2 p3 : Int32} {post : Int32 × Int32 × XRow → Prop} (hc : c < 8) (h : post (nI c, nI (c + 1), fil f (c * 5) 5 (v5 p0 p1 p2 p3 0))) : wp_X1_add f (nI c) p0 p1 p2 p3 post := by
  refine tb_put (W := 5) (I := c) (J := 0) rfl rfl rfl (by omega) (by omega) (tb_put (W := 5) (I := c) (J := 1) rfl rfl rfl (by omega) (by omega) (tb_put (W := 5) (I := c) (J := 2) rfl rfl rfl (by omega) (by omega) (tb_put (W := 5) (I := c) (J := 3) rfl rfl rfl (by omega) (by omega) (tb_put (W := 5) (I := c) (J := 4) rfl rfl rfl (by omega) (by omega) ?_))))
  intro x hx
  have e1 : nI c + 1 = nI (c + 1) := nI_1 c
  rw [hx, e1, Nat.add_zero, fil_5]
  exact h
theorem Rel_con {a0 a1 a2 a3 : Int32} (hR : Rel b d g) (h8 : cn (g 3) < 8) (h0 : ok a0 0 4) (h1 : ok a1 0 1000) (h2 : ok a2 1 9999) (h3 : ok a3 1 99) : Rel b (d.1, d.2.1, d.2.2.1, d.2.2.2.1, d.2.2.2.2.1, d.2.2.2.2.2.1, fil d.2.2.2.2.2.2.1 (cn (g 3) * 5) 5 (v5 a0 a1 a2 a3 0), nI (cn (g 3) + 1), d.2.2.2.2.2.2.2.2) (oCon g a0 a1 a2 a3) := by
  obtain ⟨hI, hS, hM, hP, hN, e1, hC, e2, e3, e4, e5⟩ := hR
  have h6 := (IM_mc (Inv_M hI)).2
  have hbb := (IB_nb (Inv_B hI)).2
  have far : ∀ x, x ≠ 3 → x < 92 + 5 * cn (g 3) ∨ 97 + 5 * cn (g 3) ≤ x → oCon g a0 a1 a2 a3 x = g x := fun x hx h => by
    unfold oCon
    rw [fil_out (by omega), un hx]
  have f3 : oCon g a0 a1 a2 a3 3 = nI (cn (g 3) + 1) := by
    unfold oCon
    rw [fil_out (by omega), pk_us]
  have c3 : cn (oCon g a0 a1 a2 a3 3) = cn (g 3) + 1 := by rw [f3]; exact cn_nI (by omega)
  have fv : ∀ i, i < 5 → oCon g a0 a1 a2 a3 (92 + 5 * cn (g 3) + i) = v5 a0 a1 a2 a3 0 i := fun i hi => fil_in hi
  have f0 := far 0 (by omega) (by omega)
  have hIB : IB (oCon g a0 a1 a2 a3) := by
    refine ⟨by rw [far 2 (by omega) (by omega)]; exact (Inv_B hI).1, fun i hi => ?_⟩
    rw [far 2 (by omega) (by omega)] at hi
    obtain ⟨b1, b2, b3, b4, b5, b6, b7⟩ := (Inv_B hI).2 i hi
    have e9 := kq_eq (g := g) (g' := oCon g a0 a1 a2 a3) (a := 132 + 9 * i) (fun k hk => far _ (by omega) (by omega))
    refine ⟨fun k hk => by rw [far _ (by omega) (by omega)]; exact b1 k hk, by rw [e9]; exact b2, by rw [e9]; exact b3, by rw [far _ (by omega) (by omega)]; exact b4, by rw [far _ (by omega) (by omega)]; exact b5, by rw [far _ (by omega) (by omega)]; exact b6, fun hs => ?_⟩
    rw [far _ (by omega) (by omega)] at hs
    obtain ⟨c, hc1, hc2⟩ := b7 hs
    exact ⟨c, by rw [c3]; omega, by rw [far _ (by omega) (by omega)]; exact hc2⟩
  refine ⟨⟨IS_eq (fun x _ _ => far x (by omega) (by omega)) (Inv_S hI), IM_eq f0 (fun m hm j hj => far _ (by omega) (by omega)) (Inv_M hI), IK_eq f0 (fun x _ _ => far x (by omega) (by omega)) (fun m hm k hk => far _ (by omega) (by omega)) (Inv_K hI), ?_, hIB, ?_⟩, RS_eq (fun x _ _ => far x (by omega) (by omega)) hS, RM_eq f0 (fun m hm j hj => far _ (by omega) (by omega)) (fun m hm => far _ (by omega) (by omega)) hM, RP_eq f0 (fun x _ _ => far x (by omega) (by omega)) (fun m hm k hk => far _ (by omega) (by omega)) hP, RN_eq (Inv_B hI) (far 2 (by omega) (by omega)) (fun x _ _ => far x (by omega) (by omega)) hN, ?_, ?_, ?_, ?_, ?_, ?_⟩
  · refine ⟨by rw [f3]; exact ok_nI (by omega) (by omega), fun c hc => ?_⟩
    rw [c3] at hc
    by_cases h : c = cn (g 3)
    · subst h
      refine ⟨?_, ?_, ?_, ?_⟩
      · have := fv 0 (by omega); rw [Nat.add_zero] at this; rw [this]; exact h0
      · have := fv 1 (by omega); rw [show 92 + 5 * cn (g 3) + 1 = 93 + 5 * cn (g 3) by omega] at this; rw [this]; exact h1
      · have := fv 2 (by omega); rw [show 92 + 5 * cn (g 3) + 2 = 94 + 5 * cn (g 3) by omega] at this; rw [this]; obtain ⟨n, n1, n2, n3⟩ := h2; exact ⟨n, by omega, n2, n3⟩
      · have := fv 3 (by omega); rw [show 92 + 5 * cn (g 3) + 3 = 95 + 5 * cn (g 3) by omega] at this; rw [this]; exact h3
    · obtain ⟨i1, i2, i3, i4⟩ := (Inv_C hI).2 c (by omega)
      refine ⟨?_, ?_, ?_, ?_⟩ <;> rw [far _ (by omega) (by omega)] <;> assumption
  · show oCon g a0 a1 a2 a3 5 = nI (pays (oCon g a0 a1 a2 a3) (cn (oCon g a0 a1 a2 a3 2)))
    rw [far 5 (by omega) (by omega), far 2 (by omega) (by omega), pays_eq (g := g) (fun i hi => pay1_eq ((Inv_B hI).2 i hi) (by omega) (fun j _ _ => far _ (by omega) (by omega)) (fun c hc => far _ (by omega) (by omega)))]
    exact Inv_P hI
  · rw [far 2 (by omega) (by omega)]; exact e1
  · intro c hc j hj
    rw [c3] at hc
    show fil d.2.2.2.2.2.2.1 (cn (g 3) * 5) 5 (v5 a0 a1 a2 a3 0) (c * 5 + j) = _
    by_cases h : c = cn (g 3)
    · subst h; rw [fil_in hj, fv j hj]
    · rw [fil_out (by omega), far _ (by omega) (by omega)]; exact hC c (by omega) j hj
  · exact f3.symm
  · rw [f0]; exact e3
  · rw [far 1 (by omega) (by omega)]; exact e4
  · rw [far 4 (by omega) (by omega)]; exact e5
end OR
