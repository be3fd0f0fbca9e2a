/-! ===== level 2: the bales of a pass; passes ===== -/
def blF (m : Nat) : Nat → XRow → XRow | 0, g => g | f + 1, g => bif decide (cn (g 8) ≤ s5 (bq g m)) && decide (cn (g 2) < 60) then blF m f (oBale g m) else g
def blA (g : XRow) : Nat → XRow | 0 => g | m + 1 => blF m (60 - cn (blA g m 2)) (blA g m)
def pasG (g : XRow) : XRow := blA (gC g) (cn (g 0))
def chgB (g : XRow) : Bool := decide (0 < gsA g (cn (g 0)) + wsN g) || decide (cn (g 2) < cn (pasG g 2))
section PC
variable {b : Nat} {d : PD} {g : XRow}
theorem oBale_keep {m : Nat} (hI : Inv b g) (hb : b ≤ 600) (hH : BH g m) : oBale g m 0 = g 0 ∧ oBale g m 4 = g 4 ∧ oBale g m 8 = g 8 ∧ cn (oBale g m 2) = cn (g 2) + 1 := by
  obtain ⟨far, f1, f2, _⟩ := oBale_facts hI hb hH
  have h6 := (IM_mc (Inv_M hI)).2
  have := hH.1
  have := hH.2.2
  refine ⟨far 0 (by omega) (by omega) (by omega) (by omega) (by omega), far 4 (by omega) (by omega) (by omega) (by omega) (by omega), far 8 (by omega) (by omega) (by omega) (by omega) (by omega), ?_⟩
  rw [f2]; exact cn_nI (by omega)
/-- the bales of one machine, the class -/
theorem tc_bl {m : Nat} {kk : Int32 → Int32 → XRow → XRow → Int32 → XRow → XRow → Prop} (hb : b ≤ 600) : ∀ (f : Nat) (g : XRow) (M P N : XRow) (bc z : Int32) (R : XRow), Rel b (dPs d M P N bc z) g → m < cn (g 0) → f = 60 - cn (g 2) → (∀ M' P' N' bc' z' R' q, Rel b (dPs d M' P' N' bc' z') (blF m f g) → kk q z' M' P' bc' N' R') → wp_X4_makePass_L96 d.1 (nI m) (g 8) kk (f + 1) bc z M P bc N R
  | f, g, M, P, N, bc, z, R, hR, hm, hf, h => by
    have hI := hR.1
    obtain ⟨em, h6⟩ := IM_mc (Inv_M hI)
    obtain ⟨e2, h60⟩ := IB_nb (Inv_B hI)
    obtain ⟨⟨n0, n1, n2⟩, _, _⟩ := set_ok (Inv_S hI)
    have hbc : bc = nI (cn (g 2)) := (Rel_bc hR).trans e2
    have hz : z = g 1 := Rel_z hR
    have hq := bq_le hI hm
    have hsum : i5 P (m * 5) = nI (s5 (bq g m)) := i5_nI (q := bq g m) (fun k hk => ((Rel_P hR).2.1 m hm k hk).trans ((Inv_K hI).2.1 m hm k hk))
    subst hbc
    refine pk_le 60 (cn (g 2)) (fun h1 => ?_) (fun h1 => tb_sum (I := m) rfl (by omega) (by omega) ?_)
    · have hf0 : f = 0 := by omega
      subst hf0
      exact h _ _ _ _ _ _ _ hR
    · obtain ⟨f', rfl⟩ : ∃ f', f = f' + 1 := ⟨f - 1, by omega⟩
      rw [hsum]
      refine pk_lt (s5 (bq g m)) (cn (g 8)) (fun h2 => ?_) (fun h2 => ?_) rfl n0
      · have e : blF m (f' + 1) g = g := by
          show (bif decide (cn (g 8) ≤ s5 (bq g m)) && decide (cn (g 2) < 60) then _ else g) = g
          rw [decide_eq_false (by omega : ¬ cn (g 8) ≤ s5 (bq g m))]; rfl
        rw [e] at h
        exact h _ _ _ _ _ _ _ hR
      · have hH : BH g m := ⟨hm, h2, by omega⟩
        have e : blF m (f' + 1) g = blF m f' (oBale g m) := by
          show (bif decide (cn (g 8) ≤ s5 (bq g m)) && decide (cn (g 2) < 60) then _ else g) = _
          rw [decide_eq_true h2, decide_eq_true hH.2.2]; rfl
        rw [e] at h
        obtain ⟨k0, k4, k8, k2⟩ := oBale_keep hI hb hH
        conv => arg 9; rw [n0]
        refine tc_bale hI hb hH (Rel_S (d := dPs d M P N (nI (cn (g 2))) z) hR) (Rel_M (d := dPs d M P N (nI (cn (g 2))) z) hR) (Rel_P (d := dPs d M P N (nI (cn (g 2))) z) hR) hz (fun R' => ?_)
        intro x hx
        have e9 : nI (cn (g 2)) + 1 = nI (cn (g 2) + 1) := nI_1 _
        rw [hx, e9, ← k8]
        exact tc_bl hb f' (oBale g m) _ _ _ _ _ R' (Rel_bale hb hR hH) (by rw [k0]; exact hm) (by omega) h
theorem blF_Rel {m : Nat} (hb : b ≤ 600) : ∀ (f : Nat) (g : XRow) (d : PD), Rel b d g → m < cn (g 0) → (∃ M P N bc z, Rel b (dPs d M P N bc z) (blF m f g)) ∧ blF m f g 0 = g 0 ∧ blF m f g 4 = g 4 ∧ cn (g 2) ≤ cn (blF m f g 2) ∧ (cn (blF m f g 2) = cn (g 2) → blF m f g = g)
  | 0, g, d, hR, _ => ⟨⟨_, _, _, _, _, hR⟩, rfl, rfl, Nat.le_refl _, fun _ => rfl⟩
  | f + 1, g, d, hR, hm => by
    by_cases hc : cn (g 8) ≤ s5 (bq g m) ∧ cn (g 2) < 60
    · have hH : BH g m := ⟨hm, hc.1, hc.2⟩
      have e : blF m (f + 1) g = blF m f (oBale g m) := by
        show (bif decide (cn (g 8) ≤ s5 (bq g m)) && decide (cn (g 2) < 60) then _ else g) = _
        rw [decide_eq_true hc.1, decide_eq_true hc.2]; rfl
      obtain ⟨k0, k4, k8, k2⟩ := oBale_keep hR.1 hb hH
      obtain ⟨⟨M, P, N, bc, z, i1⟩, i2, i3, i4, i5⟩ := blF_Rel hb f (oBale g m) _ (Rel_bale hb hR hH) (by rw [k0]; exact hm)
      rw [e]
      exact ⟨⟨M, P, N, bc, z, i1⟩, i2.trans k0, i3.trans k4, by omega, fun h => by omega⟩
    · have e : blF m (f + 1) g = g := by
        show (bif decide (cn (g 8) ≤ s5 (bq g m)) && decide (cn (g 2) < 60) then _ else g) = g
        have : (decide (cn (g 8) ≤ s5 (bq g m)) && decide (cn (g 2) < 60)) = false := by
          cases h : (decide (cn (g 8) ≤ s5 (bq g m)) && decide (cn (g 2) < 60)) with
          | false => rfl
          | true => exact absurd (by simpa using h) hc
        rw [this]; rfl
      rw [e]
      exact ⟨⟨_, _, _, _, _, hR⟩, rfl, rfl, Nat.le_refl _, fun _ => rfl⟩
theorem blA_Rel (hb : b ≤ 600) (hR : Rel b d g) : ∀ m, m ≤ cn (g 0) → (∃ M P N bc z, Rel b (dPs d M P N bc z) (blA g m)) ∧ blA g m 0 = g 0 ∧ blA g m 4 = g 4 ∧ cn (g 2) ≤ cn (blA g m 2) ∧ (cn (blA g m 2) = cn (g 2) → blA g m = g)
  | 0, _ => ⟨⟨_, _, _, _, _, hR⟩, rfl, rfl, Nat.le_refl _, fun _ => rfl⟩
  | m + 1, h => by
    obtain ⟨⟨M, P, N, bc, z, i1⟩, i2, i3, i4, i5⟩ := blA_Rel hb hR m (by omega)
    obtain ⟨⟨M', P', N', bc', z', j1⟩, j2, j3, j4, j5⟩ := blF_Rel hb (60 - cn (blA g m 2)) (blA g m) _ i1 (m := m) (by rw [i2]; omega)
    refine ⟨⟨M', P', N', bc', z', j1⟩, j2.trans i2, j3.trans i3, Nat.le_trans i4 j4, fun h9 => ?_⟩
    have h9' : cn (blF m (60 - cn (blA g m 2)) (blA g m) 2) = cn (g 2) := h9
    have a1 := i5 (by omega)
    have a2 := j5 (by omega)
    show blF m (60 - cn (blA g m 2)) (blA g m) = g
    rw [a2]; exact a1
theorem tm_bl {m : Nat} {kk : XRow → XRow → Prop} (hb : b ≤ 600) : ∀ (f : Nat) (g : XRow) (d : PD) (part : XRow), Rel b d g → m < cn (g 0) → f = 60 - cn (g 2) → (∀ part', kk (blF m f g) part') → wp_X9_passes_L277 (nI m) kk (f + 1) g part
  | f, g, d, part, hR, hm, hf, h => by
    have hI := hR.1
    obtain ⟨em, h6⟩ := IM_mc (Inv_M hI)
    obtain ⟨e2, h60⟩ := IB_nb (Inv_B hI)
    obtain ⟨⟨n0, n1, n2⟩, _, _⟩ := set_ok (Inv_S hI)
    have hq := bq_le hI hm
    refine tm_mAt (m := m) (w := 5) rfl rfl (tq_sum (a := 31 + 11 * m) (by congr 1; omega) (by omega) ?_)
    rw [show i5 g (31 + 11 * m) = nI (s5 (bq g m)) from i5_g ((Inv_K hI).2.1 m hm)]
    refine ⟨v672 (n := 8) (by omega), pk_lt (s5 (bq g m)) (cn (g 8)) (fun h2 => ?_) (fun h2 => ⟨v672 (n := 2) (by omega), pk_le 60 (cn (g 2)) (fun h1 => ?_) (fun h1 => ?_) rfl e2⟩) rfl n0⟩
    · have e : blF m f g = g := by
        cases f with
        | zero => rfl
        | succ f' =>
          show (bif decide (cn (g 8) ≤ s5 (bq g m)) && decide (cn (g 2) < 60) then _ else g) = g
          rw [decide_eq_false (by omega : ¬ cn (g 8) ≤ s5 (bq g m))]; rfl
      rw [e] at h
      exact h _
    · have hf0 : f = 0 := by omega
      subst hf0
      exact h _
    · obtain ⟨f', rfl⟩ : ∃ f', f = f' + 1 := ⟨f - 1, by omega⟩
      have hH : BH g m := ⟨hm, h2, by omega⟩
      have e : blF m (f' + 1) g = blF m f' (oBale g m) := by
        show (bif decide (cn (g 8) ≤ s5 (bq g m)) && decide (cn (g 2) < 60) then _ else g) = _
        rw [decide_eq_true h2, decide_eq_true hH.2.2]; rfl
      rw [e] at h
      obtain ⟨k0, k4, k8, k2⟩ := oBale_keep hI hb hH
      refine tm_bales hI hb hH (fun part' => ?_)
      exact tm_bl hb f' (oBale g m) _ part' (Rel_bale hb hR hH) (by rw [k0]; exact hm) (by omega) h
theorem tm_blA {kk : Int32 → XRow → XRow → Prop} {part : XRow} (hb : b ≤ 600) (hR : Rel b d g) (h : ∀ part', kk (nI (cn (g 0))) (blA g (cn (g 0))) part') : ∃ fl, wp_X9_passes_L267 kk fl 0 g part := by
  obtain ⟨em, h6⟩ := IM_mc (Inv_M hR.1)
  refine loop_0 (fun n i (s : XRow × XRow) => wp_X9_passes_L267 kk n (nI i) s.1 s.2) (fun i s => s.1 = blA g i) (cn (g 0)) (g, part) rfl ?_ ?_
  · intro n s hs
    obtain ⟨v1, v2⟩ := s
    replace hs : v1 = blA g (cn (g 0)) := hs
    subst hs
    obtain ⟨_, i2, _⟩ := blA_Rel hb hR (cn (g 0)) (Nat.le_refl _)
    refine ⟨v672 (n := 0) (by omega), if_y ?_ (h v2)⟩
    show blA g (cn (g 0)) 0 ≤ _
    rw [i2]
    conv => lhs; rw [em]
    exact nI_le (Nat.le_refl _) (by omega)
  · intro n i s hi hs hk
    obtain ⟨v1, v2⟩ := s
    replace hs : v1 = blA g i := hs
    subst hs
    obtain ⟨⟨M, P, N, bc, z, i1⟩, i2, _⟩ := blA_Rel hb hR i (by omega)
    have e1 : nI i + 1 = nI (i + 1) := nI_1 i
    refine ⟨v672 (n := 0) (by omega), if_n ?_ ⟨_, tm_bl hb (60 - cn (blA g i 2)) (blA g i) _ v2 i1 (by rw [i2]; exact hi) rfl (fun part' x hx => ?_)⟩⟩
    · show ¬ blA g i 0 ≤ _
      rw [i2]
      conv => arg 1; lhs; rw [em]
      exact nI_ge hi (by omega)
    · rw [hx, e1]
      exact hk (_, part') rfl
theorem tm_bl_1 {m : Nat} {kk : XRow → XRow → Prop} (hb : b ≤ 600) : ∀ (f : Nat) (g : XRow) (d : PD) (part : XRow), Rel b d g → m < cn (g 0) → f = 60 - cn (g 2) → (∀ part', kk (blF m f g) part') → wp_X9_passes_L277_1 (nI m) kk (f + 1) g part
  | f, g, d, part, hR, hm, hf, h => by
    have hI := hR.1
    obtain ⟨em, h6⟩ := IM_mc (Inv_M hI)
    obtain ⟨e2, h60⟩ := IB_nb (Inv_B hI)
    obtain ⟨⟨n0, n1, n2⟩, _, _⟩ := set_ok (Inv_S hI)
    have hq := bq_le hI hm
    refine tm_mAt (m := m) (w := 5) rfl rfl (tq_sum (a := 31 + 11 * m) (by congr 1; omega) (by omega) ?_)
    rw [show i5 g (31 + 11 * m) = nI (s5 (bq g m)) from i5_g ((Inv_K hI).2.1 m hm)]
    refine ⟨v672 (n := 8) (by omega), pk_lt (s5 (bq g m)) (cn (g 8)) (fun h2 => ?_) (fun h2 => ⟨v672 (n := 2) (by omega), pk_le 60 (cn (g 2)) (fun h1 => ?_) (fun h1 => ?_) rfl e2⟩) rfl n0⟩
    · have e : blF m f g = g := by
        cases f with
        | zero => rfl
        | succ f' =>
          show (bif decide (cn (g 8) ≤ s5 (bq g m)) && decide (cn (g 2) < 60) then _ else g) = g
          rw [decide_eq_false (by omega : ¬ cn (g 8) ≤ s5 (bq g m))]; rfl
      rw [e] at h
      exact h _
    · have hf0 : f = 0 := by omega
      subst hf0
      exact h _
    · obtain ⟨f', rfl⟩ : ∃ f', f = f' + 1 := ⟨f - 1, by omega⟩
      have hH : BH g m := ⟨hm, h2, by omega⟩
      have e : blF m (f' + 1) g = blF m f' (oBale g m) := by
        show (bif decide (cn (g 8) ≤ s5 (bq g m)) && decide (cn (g 2) < 60) then _ else g) = _
        rw [decide_eq_true h2, decide_eq_true hH.2.2]; rfl
      rw [e] at h
      obtain ⟨k0, k4, k8, k2⟩ := oBale_keep hI hb hH
      refine tm_bales hI hb hH (fun part' => ?_)
      exact tm_bl_1 hb f' (oBale g m) _ part' (Rel_bale hb hR hH) (by rw [k0]; exact hm) (by omega) h
theorem tm_blA_1 {kk : Int32 → XRow → XRow → Prop} {part : XRow} (hb : b ≤ 600) (hR : Rel b d g) (h : ∀ part', kk (nI (cn (g 0))) (blA g (cn (g 0))) part') : ∃ fl, wp_X9_passes_L267_1 kk fl 0 g part := by
  obtain ⟨em, h6⟩ := IM_mc (Inv_M hR.1)
  refine loop_0 (fun n i (s : XRow × XRow) => wp_X9_passes_L267_1 kk n (nI i) s.1 s.2) (fun i s => s.1 = blA g i) (cn (g 0)) (g, part) rfl ?_ ?_
  · intro n s hs
    obtain ⟨v1, v2⟩ := s
    replace hs : v1 = blA g (cn (g 0)) := hs
    subst hs
    obtain ⟨_, i2, _⟩ := blA_Rel hb hR (cn (g 0)) (Nat.le_refl _)
    refine ⟨v672 (n := 0) (by omega), if_y ?_ (h v2)⟩
    show blA g (cn (g 0)) 0 ≤ _
    rw [i2]
    conv => lhs; rw [em]
    exact nI_le (Nat.le_refl _) (by omega)
  · intro n i s hi hs hk
    obtain ⟨v1, v2⟩ := s
    replace hs : v1 = blA g i := hs
    subst hs
    obtain ⟨⟨M, P, N, bc, z, i1⟩, i2, _⟩ := blA_Rel hb hR i (by omega)
    have e1 : nI i + 1 = nI (i + 1) := nI_1 i
    refine ⟨v672 (n := 0) (by omega), if_n ?_ ⟨_, tm_bl_1 hb (60 - cn (blA g i 2)) (blA g i) _ v2 i1 (by rw [i2]; exact hi) rfl (fun part' x hx => ?_)⟩⟩
    · show ¬ blA g i 0 ≤ _
      rw [i2]
      conv => arg 1; lhs; rw [em]
      exact nI_ge hi (by omega)
    · rw [hx, e1]
      exact hk (_, part') rfl
/-- the row behind the belt -/
theorem gC_at (hm6 : cn (g 0) ≤ 6) : (∀ k, k < 5 → gC g (11 + k) = nI (kq g 11 k - shr (kq g 11) (n0 g) k + bkN g k)) ∧ (∀ k, k < 5 → gC g (16 + k) = nI (cn (g (16 + k)) + (cmN g (cn (g 0)) k - bkN g k))) ∧ (∀ q, q < cn (g 0) → ∀ k, k < 5 → gC g (31 + 11 * q + k) = nI (cn (g (31 + 11 * q + k)) + gsN g q (cmN g q) k)) ∧ (∀ j, (j < 11 ∨ 21 ≤ j) → (∀ q, q < cn (g 0) → j < 31 + 11 * q ∨ 36 + 11 * q ≤ j) → gC g j = g j) := by
  obtain ⟨p1, p2, p3⟩ := gS_at (g := g) hm6
  unfold gC
  refine ⟨fun k hk => ?_, fun k hk => fil_in hk, fun q hq k hk => ?_, fun j h1 h2 => ?_⟩
  · rw [fil_out (by omega), fil_in hk]
  · rw [fil_out (by omega), fil_out (by omega)]; exact p3 q hq k hk
  · rw [fil_out (by omega), fil_out (by omega)]; exact p2 j (by omega) h2
theorem bsum_gC (hI : Inv b g) (hb : b ≤ 600) : ∀ m, m ≤ cn (g 0) → bsum (gC g) m = bsum g m + gsA g m
  | 0, _ => rfl
  | m + 1, h => by
    have ih := bsum_gC hI hb m (by omega)
    obtain ⟨_, _, q3, _⟩ := gC_at (g := g) (IM_mc (Inv_M hI)).2
    have e : s5 (kq (gC g) (31 + 11 * m)) = s5 (kq g (31 + 11 * m)) + s5 (gsN g m (cmN g m)) := by
      rw [← s5_add]
      refine s5_congr (fun k hk => ?_)
      show cn (gC g (31 + 11 * m + k)) = cn (g (31 + 11 * m + k)) + gsN g m (cmN g m) k
      have h1 := s5_ge (bq g m) k hk
      have h2 := bq_le hI (show m < cn (g 0) by omega)
      have h3 : bq g m k = cn (g (31 + 11 * m + k)) := rfl
      have h4 := gsN_le (Inv_M hI) (show m < cn (g 0) by omega) (cmN g m) k
      have h5 := s5_ge (cmN g m) k hk
      have h6 := cmN_500 hI (show m ≤ cn (g 0) by omega)
      rw [q3 m (by omega) k hk, cn_nI (by omega)]
    show bsum (gC g) m + s5 (kq (gC g) (31 + 11 * m)) = bsum g m + s5 (kq g (31 + 11 * m)) + (gsA g m + s5 (gsN g m (cmN g m)))
    omega
theorem Rel_belt (hb : b ≤ 600) (hR : Rel b d g) : Rel b (d.1, d.2.1, pC d.2.2.1 g, d.2.2.2) (gC g) := by
  obtain ⟨hI, hS, hM, hP, hN, e1, hC, e2, e3, e4, e5⟩ := hR
  have h6 := (IM_mc (Inv_M hI)).2
  have h60 := (IB_nb (Inv_B hI)).2
  have h8 := (IC_nc (Inv_C hI)).2
  have hK := Inv_K hI
  obtain ⟨q1, q2, q3, q4⟩ := gC_at (g := g) h6
  have f0 := q4 0 (by omega) (fun q hq => by omega)
  have lo : ∀ x, x < 11 → gC g x = g x := fun x hx => q4 x (by omega) (fun q hq => by omega)
  have hi : ∀ x, 92 ≤ x → gC g x = g x := fun x hx => q4 x (by omega) (fun q hq => by omega)
  have fM : ∀ m, m < cn (g 0) → ∀ j, j < 5 → gC g (26 + 11 * m + j) = g (26 + 11 * m + j) := fun m hm j hj => q4 _ (by omega) (fun q hq => by omega)
  have hs : ∀ k, shr (kq g 11) (n0 g) k ≤ kq g 11 k := shr0 g
  have hcm : ∀ k, k < 5 → cmN g (cn (g 0)) k ≤ 500 := fun k hk => by
    have := s5_ge (cmN g (cn (g 0))) k hk
    have := cmN_500 hI (Nat.le_refl (cn (g 0)))
    omega
  have hbk : ∀ k, bkN g k ≤ cmN g (cn (g 0)) k := bkN_le hI
  have hq11 : ∀ k, k < 5 → kq g 11 k ≤ 999 * b := fun k hk => hop_le hK hk
  have ht := hK.2.2.1
  unfold tot at ht
  have hw : ∀ k, k < 5 → cn (g (16 + k)) ≤ 999 * b := fun k hk => by
    have := s5_ge (kq g 16) k hk
    have : kq g 16 k = cn (g (16 + k)) := rfl
    omega
  have s11 : s5 (kq (gC g) 11) + n0 g = s5 (kq g 11) + s5 (bkN g) := by
    have a1 := s5_sub (f := kq g 11) (h := shr (kq g 11) (n0 g)) (fun k _ => hs k)
    rw [shr_s] at a1
    have a2 : s5 (kq (gC g) 11) = s5 (fun k => kq g 11 k - shr (kq g 11) (n0 g) k) + s5 (bkN g) := by
      rw [← s5_add]
      refine s5_congr (fun k hk => ?_)
      show cn (gC g (11 + k)) = _
      have := hq11 k hk
      have := hbk k
      have := hcm k hk
      rw [q1 k hk, cn_nI (by omega)]
    omega
  have s16 : s5 (kq (gC g) 16) + s5 (bkN g) = s5 (kq g 16) + s5 (cmN g (cn (g 0))) := by
    have a1 := s5_sub (f := cmN g (cn (g 0))) (h := bkN g) (fun k _ => hbk k)
    have a2 : s5 (kq (gC g) 16) = s5 (kq g 16) + s5 (fun k => cmN g (cn (g 0)) k - bkN g k) := by
      rw [← s5_add]
      refine s5_congr (fun k hk => ?_)
      show cn (gC g (16 + k)) = _
      have := hw k hk
      have := hcm k hk
      rw [q2 k hk, cn_nI (by omega)]
      rfl
    omega
  have sb := bsum_gC hI hb (cn (g 0)) (Nat.le_refl _)
  have sc := cmN_s (Inv_M hI) (cn (g 0)) (Nat.le_refl _)
  refine ⟨Inv_far hI (IS_eq (fun x h1 h2 => lo x (by omega)) (Inv_S hI)) (IM_eq f0 fM (Inv_M hI)) ?_ (fun x hx => hx.elim (fun hx => lo x (by omega)) (fun hx => hi x (by omega))), RS_eq (fun x h1 h2 => lo x (by omega)) hS, RM_eq f0 fM (fun m hm => q4 _ (by omega) (fun q hq => by omega)) hM, ?_, RN_eq (Inv_B hI) (lo 2 (by omega)) (fun x h1 h2 => hi x (by omega)) hN, ?_, RC_eq h8 (lo 3 (by omega)) (fun x h1 h2 => hi x (by omega)) hC, ?_, ?_, ?_, ?_⟩
  · refine ⟨fun k hk => ⟨?_, ?_, ?_⟩, fun m hm k hk => ?_, ?_, ?_⟩
    · rw [q1 k hk]; exact kok_nI (by have := hq11 k hk; have := hbk k; have := hcm k hk; omega)
    · rw [q2 k hk]; exact kok_nI (by have := hw k hk; have := hcm k hk; omega)
    · rw [q4 _ (by omega) (fun q hq => by omega)]; exact (hK.1 k hk).2.2
    · rw [f0] at hm
      rw [q3 m hm k hk]
      have h1 := s5_ge (bq g m) k hk
      have h2 := bq_le hI hm
      have h3 : bq g m k = cn (g (31 + 11 * m + k)) := rfl
      have h4 := gsN_le (Inv_M hI) hm (cmN g m) k
      have h5 := s5_ge (cmN g m) k hk
      have h9 := cmN_500 hI (show m ≤ cn (g 0) by omega)
      exact kok_nI (by omega)
    · unfold tot
      rw [f0, sb]
      omega
    · rw [kq_eq (g := g) (g' := gC g) (a := 21) (fun k hk => q4 _ (by omega) (fun q hq => by omega))]
      exact hK.2.2.2
  · obtain ⟨p1, p2, p3⟩ := hP
    obtain ⟨r1, r2, r3, r4, r5⟩ := pS_at (g := g) d.2.2.1 h6
    refine ⟨fun k hk => ⟨?_, ?_, ?_⟩, fun m hm k hk => ?_, fun x hx1 hx2 => ?_⟩
    · show pC d.2.2.1 g (30 + k) = _
      rw [q1 k hk]
      unfold pC
      rw [fil_out (by omega), fil_in hk]
    · show pC d.2.2.1 g (35 + k) = _
      rw [q2 k hk]
      exact fil_in hk
    · show pC d.2.2.1 g (40 + k) = _
      unfold pC
      rw [fil_out (by omega), fil_out (by omega), fil_out (by omega), r3 _ (by omega) (by omega), q4 _ (by omega) (fun q hq => by omega)]
      exact (p1 k hk).2.2
    · rw [f0] at hm
      show pC d.2.2.1 g (m * 5 + k) = _
      unfold pC
      rw [fil_out (by omega), fil_out (by omega), fil_out (by omega), r5 m hm k hk, q3 m hm k hk]
    · rw [f0] at hx1
      show pC d.2.2.1 g x = _
      unfold pC
      rw [fil_out (by omega), fil_out (by omega), fil_out (by omega), r4 x hx1 hx2]
      exact p3 x hx1 hx2
  · rw [lo 2 (by omega)]; exact e1
  · rw [lo 3 (by omega)]; exact e2
  · rw [f0]; exact e3
  · rw [lo 1 (by omega)]; exact e4
  · rw [lo 4 (by omega)]; exact e5
theorem gC_keep (hm6 : cn (g 0) ≤ 6) : gC g 0 = g 0 ∧ gC g 2 = g 2 ∧ gC g 4 = g 4 := by
  obtain ⟨_, _, _, q4⟩ := gC_at (g := g) hm6
  exact ⟨q4 0 (by omega) (fun q hq => by omega), q4 2 (by omega) (fun q hq => by omega), q4 4 (by omega) (fun q hq => by omega)⟩
/-- a pass, the class -/
theorem tc_pass {R : XRow} {post : Bool × Int32 × XRow × XRow × Int32 × XRow × XRow → Prop} (hb : b ≤ 600) (hR : Rel b d g) (h : ∀ M P N bc z R', Rel b (dPs d M P N bc z) (pasG g) → post (chgB g, z, M, P, bc, N, R')) : wp_X4_makePass d.1 d.2.1 d.2.2.1 d.2.2.2.1 d.2.2.2.2.1 R d.2.2.2.2.2.2.2.2.2.1 d.2.2.2.2.2.2.2.2.2.2.1 post := by
  have hI := hR.1
  obtain ⟨em, h6⟩ := IM_mc (Inv_M hI)
  obtain ⟨e2, h60⟩ := IB_nb (Inv_B hI)
  obtain ⟨k0, k2, k4⟩ := gC_keep (g := g) h6
  have hB := Rel_belt hb hR
  have c0 : cn (gC g 0) = cn (g 0) := by rw [k0]
  obtain ⟨_, b0, b4, bge, _⟩ := blA_Rel hb hB (cn (g 0)) (by rw [c0]; exact Nat.le_refl _)
  have sc := cmN_s (Inv_M hI) (cn (g 0)) (Nat.le_refl _)
  have n5 := n0_500 (Inv_S hI)
  have hws : wsN g ≤ 500 := by
    have a1 := s5_sub (f := cmN g (cn (g 0))) (h := bkN g) (fun k _ => bkN_le hI k)
    unfold wsN; omega
  refine tc_belt (KK := fun x14 P' R' => ∃ fl, wp_X4_makePass_L72 d.1 d.2.2.2.2.2.2.2.2.2.1 (fun (_ : Int32) (v42 : Int32) (v43 : XRow) (v44 : XRow) (v45 : Int32) (v46 : XRow) (v47 : XRow) => (0 < x14 → (post (true, v42, v43, v44, v45, v46, v47))) ∧ (¬ 0 < x14 → ((v45 ≤ d.2.2.2.2.1 → (post (false, v42, v43, v44, v45, v46, v47))) ∧ (¬ v45 ≤ d.2.2.2.2.1 → (post (true, v42, v43, v44, v45, v46, v47)))))) fl 0 d.2.2.2.2.2.2.2.2.2.2.1 d.2.1 P' d.2.2.2.2.1 d.2.2.2.1 R') hI hb (Rel_S hR) (Rel_M hR) (Rel_P hR) (Rel_mc hR) (fun R' => ?_)
  rw [Rel_mc hR]
  refine loop_0 (fun n i (s : Int32 × XRow × XRow × Int32 × XRow × XRow) => wp_X4_makePass_L72 d.1 (g 0) _ n (nI i) s.1 s.2.1 s.2.2.1 s.2.2.2.1 s.2.2.2.2.1 s.2.2.2.2.2) (fun i s => Rel b (dPs d s.2.1 s.2.2.1 s.2.2.2.2.1 s.2.2.2.1 s.1) (blA (gC g) i)) (cn (g 0)) (d.2.2.2.2.2.2.2.2.2.2.1, d.2.1, pC d.2.2.1 g, d.2.2.2.2.1, d.2.2.2.1, R') hB ?_ ?_
  · intro n s hs
    obtain ⟨z, M, P, bc, N, R2⟩ := s
    replace hs : Rel b (dPs d M P N bc z) (pasG g) := hs
    have hbc : bc = pasG g 2 := Rel_bc hs
    obtain ⟨ep, hp60⟩ := IB_nb (Inv_B hs.1)
    have hh := h M P N bc z R2 hs
    refine if_y ?_ (pk_lt 0 (gsA g (cn (g 0)) + wsN g) (fun h1 => ?_) (fun h1 => ?_) rfl rfl (by omega) (by omega))
    · conv => lhs; rw [em]
      exact nI_le (Nat.le_refl _) (by omega)
    · have e : chgB g = true := by unfold chgB; rw [decide_eq_true h1]; rfl
      rw [e] at hh
      exact hh
    · refine pk_le (cn (pasG g 2)) (cn (g 2)) (fun h2 => ?_) (fun h2 => ?_) (hbc.trans ep) ((Rel_bc hR).trans e2)
      · have e : chgB g = false := by unfold chgB; rw [decide_eq_false (by omega : ¬ 0 < gsA g (cn (g 0)) + wsN g), decide_eq_false (by omega : ¬ cn (g 2) < cn (pasG g 2))]; rfl
        rw [e] at hh
        exact hh
      · have e : chgB g = true := by unfold chgB; rw [decide_eq_true h2]; exact Bool.or_true _
        rw [e] at hh
        exact hh
  · intro n i s hi hs hk
    obtain ⟨z, M, P, bc, N, R2⟩ := s
    replace hs : Rel b (dPs d M P N bc z) (blA (gC g) i) := hs
    obtain ⟨_, i2, _⟩ := blA_Rel hb hB i (by rw [c0]; omega)
    have e1 : nI i + 1 = nI (i + 1) := nI_1 i
    refine if_n ?_ (tb_get (W := 5) (I := 0) (J := 2) rfl rfl rfl (by omega) (by omega) ?_)
    · conv => arg 1; lhs; rw [em]
      exact nI_ge hi (by omega)
    · rw [show d.1 (0 * 5 + 2) = blA (gC g) i 8 from Rel_S hs 2 (by omega)]
      refine ⟨_, tc_bl hb (60 - cn (blA (gC g) i 2)) (blA (gC g) i) M P N bc z R2 hs (by rw [i2, c0]; exact hi) rfl (fun M' P' N' bc' z' R3 q hq x hx => ?_)⟩
      rw [hx, e1]
      exact hk (z', M', P', bc', N', R3) hq
end PC
