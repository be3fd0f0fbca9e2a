/-! ===== level 2: a sale ===== -/
section SE
variable {b : Nat} {d : PD} {g : XRow}
def oSell (g : XRow) (i c : Nat) : XRow := upd (upd (upd (upd (upd g (94 + 5 * c) (nI (cn (g (94 + 5 * c)) - s5 (kq g (132 + 9 * i))))) (96 + 5 * c) (g (96 + 5 * c) + 1)) 5 (nI (pays g (cn (g 2)) + s5 (kq g (132 + 9 * i)) * cn (g (95 + 5 * c))))) (139 + 9 * i) 1) (140 + 9 * i) (nI c)
theorem suB_kil {i c : Nat} (h : suB g i c = true) : s5 (kq g (132 + 9 * i)) ≤ cn (g (94 + 5 * c)) := by
  unfold suB at h
  simp only [Bool.and_eq_true, decide_eq_true_eq] at h
  exact h.2.2
theorem tm_sells {i c : Nat} {p0 : Int32} {post : Int32 × XRow → Prop} (hI : Inv b g) (h0 : p0 = nI i) (hi : i < cn (g 2)) (hb : bfN g i (cn (g 3)) = some c) (h : post (nI c, oSell g i c)) : wp_X9_sells g p0 post := by
  subst h0
  have h60 := (IB_nb (Inv_B hI)).2
  have hC := Inv_C hI
  have h8 := (IC_nc hC).2
  have hB := (Inv_B hI).2 i hi
  have hc := (bfN_lt hb).1
  have hk := suB_kil (bfN_lt hb).2
  obtain ⟨_, ⟨w1, w2⟩, p1, p2⟩ := con_ok hC hc
  refine tm_best rfl hC hB (by omega) (tm_kilos rfl hB (by omega) ?_)
  rw [hb]
  refine tm_cAt (m := c) (w := 2) rfl rfl ⟨v672 (by omega), v672 (by omega), tm_cAt (m := c) (w := 4) rfl rfl ⟨v672 (by omega), v672 (by omega), v672 (n := 5) (by omega), tm_cAt (m := c) (w := 3) rfl rfl ⟨v672 (by omega), v672 (n := 5) (by omega), tm_bAt (m := i) (w := 7) rfl rfl ⟨v672 (by omega), tm_bAt (m := i) (w := 8) rfl rfl ⟨v672 (by omega), ?_⟩⟩⟩⟩⟩
  rw [tn_nI (by omega), tn_nI (by omega), tn_nI (by omega), tn_nI (by omega), tn_nI (by omega), show (5 : Int32).toNatClampNeg = 5 from rfl, show 92 + 5 * c + 2 = 94 + 5 * c by omega, show 92 + 5 * c + 4 = 96 + 5 * c by omega, show 92 + 5 * c + 3 = 95 + 5 * c by omega, show 132 + 9 * i + 7 = 139 + 9 * i by omega, show 132 + 9 * i + 8 = 140 + 9 * i by omega]
  have a1 : g (94 + 5 * c) - nI (s5 (kq g (132 + 9 * i))) = nI (cn (g (94 + 5 * c)) - s5 (kq g (132 + 9 * i))) := by
    conv => lhs; rw [w1]
    exact pk_sub hk
  rw [a1, un (show 96 + 5 * c ≠ 94 + 5 * c by omega), un (show 5 ≠ 96 + 5 * c by omega), un (show 5 ≠ 94 + 5 * c by omega), un (show 95 + 5 * c ≠ 96 + 5 * c by omega), un (show 95 + 5 * c ≠ 94 + 5 * c by omega)]
  have a2 : g 5 + nI (s5 (kq g (132 + 9 * i))) * g (95 + 5 * c) = nI (pays g (cn (g 2)) + s5 (kq g (132 + 9 * i)) * cn (g (95 + 5 * c))) := by
    conv => lhs; rw [show g 5 = nI (pays g (cn (g 2))) from Inv_P hI, p1, pk_mul, nI_add]
  rw [a2]
  exact h
theorem tc_hand {i c : Nat} {p0 : Int32} {post : Int32 × XRow × XRow → Prop} (hR : Rel b d g) (h0 : p0 = nI i) (hi : i < cn (g 2)) (hs : g (139 + 9 * i) = 0) (hb : bfN g i (cn (g 3)) = some c) (h : post (nI c, upd (upd d.2.2.2.1 (i * 12 + 10) 1) (i * 12 + 11) (nI c), upd (upd d.2.2.2.2.2.2.1 (c * 5 + 2) (nI (cn (g (94 + 5 * c)) - s5 (kq g (132 + 9 * i))))) (c * 5 + 4) (g (96 + 5 * c) + 1))) : wp_X4_handOver d.2.2.2.1 d.2.2.2.2.2.2.1 d.2.2.2.2.2.2.2.1 p0 post := by
  subst h0
  have h60 := (IB_nb (Inv_B hR.1)).2
  have hC := Inv_C hR.1
  have h8 := (IC_nc hC).2
  have hc := (bfN_lt hb).1
  have hk := suB_kil (bfN_lt hb).2
  obtain ⟨_, ⟨w1, w2⟩, _⟩ := con_ok hC hc
  obtain ⟨n1, n2, n3, n4, n5, n6, n7, n8⟩ := Rel_N hR i hi
  have hCc := Rel_C hR c hc
  refine tc_buyer hR rfl hi ?_
  rw [if_pos hs, hb]
  refine tb_get (W := 12) (I := i) (J := 6) rfl rfl rfl (by omega) (by omega) ?_
  rw [n3]
  refine tb_add (W := 5) (I := c) (J := 2) rfl rfl rfl (by omega) (by omega) (tb_add (W := 5) (I := c) (J := 4) rfl rfl rfl (by omega) (by omega) (tb_put (W := 12) (I := i) (J := 10) rfl rfl rfl (by omega) (by omega) (tb_put (W := 12) (I := i) (J := 11) rfl rfl rfl (by omega) (by omega) ?_)))
  have a1 : d.2.2.2.2.2.2.1 (c * 5 + 2) + -nI (s5 (kq g (132 + 9 * i))) = nI (cn (g (94 + 5 * c)) - s5 (kq g (132 + 9 * i))) := by
    rw [hCc 2 (by omega), show 92 + 5 * c + 2 = 94 + 5 * c by omega, ← Int32.sub_eq_add_neg]
    conv => lhs; rw [w1]
    exact pk_sub hk
  rw [a1, un (show c * 5 + 4 ≠ c * 5 + 2 by omega), hCc 4 (by omega), show 92 + 5 * c + 4 = 96 + 5 * c by omega]
  exact h
theorem pays_one {g g' : XRow} {i x N : Nat} (h1 : pay1 g i = 0) (h2 : pay1 g' i = x) (h3 : ∀ j, j < N → j ≠ i → pay1 g' j = pay1 g j) : ∀ n, n ≤ N → pays g' n = pays g n + (if i < n then x else 0)
  | 0, _ => by rw [if_neg (by omega)]; rfl
  | n + 1, hn => by
    have ih := pays_one h1 h2 h3 n (by omega)
    show pays g' n + pay1 g' n = pays g n + pay1 g n + _
    by_cases h : n = i
    · subst h
      rw [if_neg (by omega)] at ih
      rw [ih, h2, h1, if_pos (by omega)]
    · rw [ih, h3 n (by omega) h]
      by_cases h4 : i < n
      · rw [if_pos h4, if_pos (by omega)]; omega
      · rw [if_neg h4, if_neg (by omega)]; omega
theorem Rel_sell {i c : Nat} (hR : Rel b d g) (hi : i < cn (g 2)) (hs : g (139 + 9 * i) = 0) (hb : bfN g i (cn (g 3)) = some c) : Rel b (d.1, d.2.1, d.2.2.1, upd (upd d.2.2.2.1 (i * 12 + 10) 1) (i * 12 + 11) (nI c), d.2.2.2.2.1, d.2.2.2.2.2.1, upd (upd d.2.2.2.2.2.2.1 (c * 5 + 2) (nI (cn (g (94 + 5 * c)) - s5 (kq g (132 + 9 * i))))) (c * 5 + 4) (g (96 + 5 * c) + 1), d.2.2.2.2.2.2.2) (oSell g i c) := by
  obtain ⟨hI, hS, hM, hP, hN, e1, hC, e2, e3, e4, e5⟩ := hR
  have h6 := (IM_mc (Inv_M hI)).2
  have h60 := (IB_nb (Inv_B hI)).2
  have hIC := Inv_C hI
  have h8 := (IC_nc hIC).2
  have hc := (bfN_lt hb).1
  have hk := suB_kil (bfN_lt hb).2
  obtain ⟨_, ⟨w1, w2⟩, p1, p2⟩ := con_ok hIC hc
  have hBi := (Inv_B hI).2 i hi
  have far : ∀ x, x ≠ 94 + 5 * c → x ≠ 96 + 5 * c → x ≠ 5 → x ≠ 139 + 9 * i → x ≠ 140 + 9 * i → oSell g i c x = g x := fun x h1 h2 h3 h4 h5 => by
    unfold oSell
    rw [un h5, un h4, un h3, un h2, un h1]
  have f94 : oSell g i c (94 + 5 * c) = nI (cn (g (94 + 5 * c)) - s5 (kq g (132 + 9 * i))) := by
    unfold oSell
    rw [un (by omega), un (by omega), un (by omega), un (by omega), pk_us]
  have f96 : oSell g i c (96 + 5 * c) = g (96 + 5 * c) + 1 := by
    unfold oSell
    rw [un (by omega), un (by omega), un (by omega), pk_us]
  have f5 : oSell g i c 5 = nI (pays g (cn (g 2)) + s5 (kq g (132 + 9 * i)) * cn (g (95 + 5 * c))) := by
    unfold oSell
    rw [un (by omega), un (by omega), pk_us]
  have f139 : oSell g i c (139 + 9 * i) = 1 := by
    unfold oSell
    rw [un (by omega), pk_us]
  have f140 : oSell g i c (140 + 9 * i) = nI c := by
    unfold oSell
    rw [pk_us]
  have f0 := far 0 (by omega) (by omega) (by omega) (by omega) (by omega)
  have f2 := far 2 (by omega) (by omega) (by omega) (by omega) (by omega)
  have f3 := far 3 (by omega) (by omega) (by omega) (by omega) (by omega)
  have lo : ∀ x, 6 ≤ x → x < 92 → oSell g i c x = g x := fun x h1 h2 => far x (by omega) (by omega) (by omega) (by omega) (by omega)
  have f95 : ∀ c2, c2 < 8 → oSell g i c (95 + 5 * c2) = g (95 + 5 * c2) := fun c2 hc2 => far _ (by omega) (by omega) (by omega) (by omega) (by omega)
  have kk : ∀ j, s5 (kq (oSell g i c) (132 + 9 * j)) = s5 (kq g (132 + 9 * j)) := fun j => kq_eq (fun k hk => far _ (by omega) (by omega) (by omega) (by omega) (by omega))
  refine ⟨⟨IS_eq (fun x h1 h2 => lo x (by omega) (by omega)) (Inv_S hI), IM_eq f0 (fun m hm j hj => lo _ (by omega) (by omega)) (Inv_M hI), IK_eq f0 (fun x h1 h2 => lo x (by omega) (by omega)) (fun m hm k hk => lo _ (by omega) (by omega)) (Inv_K hI), ?_, ?_, ?_⟩, RS_eq (fun x h1 h2 => lo x (by omega) (by omega)) hS, RM_eq f0 (fun m hm j hj => lo _ (by omega) (by omega)) (fun m hm => lo _ (by omega) (by omega)) hM, RP_eq f0 (fun x h1 h2 => lo x (by omega) (by omega)) (fun m hm k hk => lo _ (by omega) (by omega)) hP, ?_, ?_, ?_, ?_, ?_, ?_, ?_⟩
  · refine ⟨by rw [f3]; exact hIC.1, fun c2 hc2 => ?_⟩
    rw [f3] at hc2
    obtain ⟨i1, i2, i3, i4⟩ := hIC.2 c2 hc2
    refine ⟨by rw [far _ (by omega) (by omega) (by omega) (by omega) (by omega)]; exact i1, by rw [far _ (by omega) (by omega) (by omega) (by omega) (by omega)]; exact i2, ?_, by rw [far _ (by omega) (by omega) (by omega) (by omega) (by omega)]; exact i4⟩
    by_cases h : c2 = c
    · subst h; rw [f94]; exact ok_nI (by omega) (by omega)
    · rw [far _ (by omega) (by omega) (by omega) (by omega) (by omega)]; exact i3
  · refine ⟨by rw [f2]; exact (Inv_B hI).1, fun j hj => ?_⟩
    rw [f2] at hj
    obtain ⟨b1, b2, b3, b4, b5, b6, b7⟩ := (Inv_B hI).2 j hj
    refine ⟨fun k hk => by rw [far _ (by omega) (by omega) (by omega) (by omega) (by omega)]; exact b1 k hk, by rw [kk]; exact b2, by rw [kk]; exact b3, by rw [far _ (by omega) (by omega) (by omega) (by omega) (by omega)]; exact b4, by rw [far _ (by omega) (by omega) (by omega) (by omega) (by omega)]; exact b5, ?_, ?_⟩
    · by_cases h : j = i
      · subst h; rw [f139]; exact ok_nI (n := 1) (by omega) (by omega)
      · rw [far _ (by omega) (by omega) (by omega) (by omega) (by omega)]; exact b6
    · intro h1
      by_cases h : j = i
      · subst h; exact ⟨c, by rw [f3]; exact hc, f140⟩
      · rw [far _ (by omega) (by omega) (by omega) (by omega) (by omega)] at h1
        obtain ⟨c2, q1, q2⟩ := b7 h1
        exact ⟨c2, by rw [f3]; exact q1, by rw [far _ (by omega) (by omega) (by omega) (by omega) (by omega)]; exact q2⟩
  · show oSell g i c 5 = nI (pays (oSell g i c) (cn (oSell g i c 2)))
    have q1 : pay1 g i = 0 := by unfold pay1; rw [hs]; rfl
    have q2 : pay1 (oSell g i c) i = s5 (kq g (132 + 9 * i)) * cn (g (95 + 5 * c)) := by
      unfold pay1
      rw [f139, if_pos rfl, kk, f140, cn_nI (by omega), f95 c (by omega)]
    have q3 : ∀ j, j < cn (g 2) → j ≠ i → pay1 (oSell g i c) j = pay1 g j := fun j hjn hj => by
      unfold pay1
      rw [kk, far (139 + 9 * j) (by omega) (by omega) (by omega) (by omega) (by omega), far (140 + 9 * j) (by omega) (by omega) (by omega) (by omega) (by omega)]
      by_cases hs2 : g (139 + 9 * j) = 1
      · rw [if_pos hs2, if_pos hs2]
        obtain ⟨c2, r1, r2⟩ := ((Inv_B hI).2 j hjn).2.2.2.2.2.2 hs2
        rw [r2, cn_nI (by omega), f95 c2 (by omega)]
      · rw [if_neg hs2, if_neg hs2]
    rw [f5, f2, pays_one q1 q2 (N := cn (g 2)) q3 (cn (g 2)) (Nat.le_refl _), if_pos hi]
  · intro j hj
    rw [f2] at hj
    obtain ⟨n1, n2, n3, n4, n5, n6, n7, n8⟩ := hN j hj
    have hm := IB1_mat ((Inv_B hI).2 j hj)
    have nf : ∀ k, k < 10 → upd (upd d.2.2.2.1 (i * 12 + 10) 1) (i * 12 + 11) (nI c) (j * 12 + k) = d.2.2.2.1 (j * 12 + k) := fun k hk => by rw [un (by omega), un (by omega)]
    refine ⟨fun k hk => ?_, ?_, ?_, ?_, ?_, ?_, ?_, ?_⟩
    · show upd (upd d.2.2.2.1 (i * 12 + 10) 1) (i * 12 + 11) (nI c) (j * 12 + k) = _
      rw [nf k (by omega), far _ (by omega) (by omega) (by omega) (by omega) (by omega)]; exact n1 k hk
    · show upd (upd d.2.2.2.1 (i * 12 + 10) 1) (i * 12 + 11) (nI c) (j * 12 + 5) = _
      rw [nf 5 (by omega), far _ (by omega) (by omega) (by omega) (by omega) (by omega)]; exact n2
    · show upd (upd d.2.2.2.1 (i * 12 + 10) 1) (i * 12 + 11) (nI c) (j * 12 + 6) = _
      rw [nf 6 (by omega), kk]; exact n3
    · show upd (upd d.2.2.2.1 (i * 12 + 10) 1) (i * 12 + 11) (nI c) (j * 12 + 7) = _
      rw [nf 7 (by omega), kk, far (137 + 9 * j) (by omega) (by omega) (by omega) (by omega) (by omega), far _ (by omega) (by omega) (by omega) (by omega) (by omega)]; exact n4
    · show upd (upd d.2.2.2.1 (i * 12 + 10) 1) (i * 12 + 11) (nI c) (j * 12 + 8) = _
      rw [nf 8 (by omega), far _ (by omega) (by omega) (by omega) (by omega) (by omega)]; exact n5
    · show upd (upd d.2.2.2.1 (i * 12 + 10) 1) (i * 12 + 11) (nI c) (j * 12 + 9) = _
      rw [nf 9 (by omega), far _ (by omega) (by omega) (by omega) (by omega) (by omega)]; exact n6
    · show upd (upd d.2.2.2.1 (i * 12 + 10) 1) (i * 12 + 11) (nI c) (j * 12 + 10) = _
      by_cases h : j = i
      · subst h; rw [un (by omega), pk_us, f139]
      · rw [un (by omega), un (by omega), far _ (by omega) (by omega) (by omega) (by omega) (by omega)]; exact n7
    · show upd (upd d.2.2.2.1 (i * 12 + 10) 1) (i * 12 + 11) (nI c) (j * 12 + 11) = _
      by_cases h : j = i
      · subst h; rw [pk_us, f140]
      · rw [un (by omega), un (by omega), far _ (by omega) (by omega) (by omega) (by omega) (by omega)]; exact n8
  · rw [f2]; exact e1
  · intro c2 hc2 j hj
    rw [f3] at hc2
    show upd (upd d.2.2.2.2.2.2.1 (c * 5 + 2) (nI (cn (g (94 + 5 * c)) - s5 (kq g (132 + 9 * i))))) (c * 5 + 4) (g (96 + 5 * c) + 1) (c2 * 5 + j) = _
    by_cases h : c2 = c
    · subst h
      by_cases h4 : j = 4
      · subst h4; rw [pk_us, show 92 + 5 * c2 + 4 = 96 + 5 * c2 by omega, f96]
      · rw [un (by omega)]
        by_cases h2 : j = 2
        · subst h2; rw [pk_us, show 92 + 5 * c2 + 2 = 94 + 5 * c2 by omega, f94]
        · rw [un (by omega), far _ (by omega) (by omega) (by omega) (by omega) (by omega)]; exact hC c2 hc2 j hj
    · rw [un (by omega), un (by omega), far _ (by omega) (by omega) (by omega) (by omega) (by omega)]; exact hC c2 hc2 j hj
  · rw [f3]; exact e2
  · rw [f0]; exact e3
  · rw [far 1 (by omega) (by omega) (by omega) (by omega) (by omega)]; exact e4
  · rw [far 4 (by omega) (by omega) (by omega) (by omega) (by omega)]; exact e5
end SE
